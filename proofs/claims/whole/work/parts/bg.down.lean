
/-- a node's locks, both sides (the pins aside) -/
def LKr (x : Nat) (I J : am_I) : Prop := ∀ r, r < 136 → I x 49 r = J 0 76 (136 * x + r) ∧ I x 50 r = J 0 77 (136 * x + r) ∧ I x 51 r = J 0 78 (136 * x + r)
/-- the cached inode of a resource points at blocks of data -/
def PTR (x r : Nat) (J : am_I) : Prop := r < 128 → J 0 68 (640 * x + w_ib r) = nI 1 → (∀ j, j < 9 → w_pt (J 0 67 (16 * (640 * x + w_ib r) + (3 + j)))) ∧ ∀ b, w_D b → J 0 67 (16 * (640 * x + w_ib r) + 11) = nI b → J 0 68 (640 * x + b) = nI 1 → (∀ j, j < 16 → w_pt (J 0 67 (16 * (640 * x + b) + j))) ∧ ∀ j, j < 8 → ¬ J 0 67 (16 * (640 * x + w_ib r) + (3 + j)) = nI b
/-- what leaves the cache with a resource -/
def RMr (x r : Nat) (J J' : am_I) : Prop := RM x J J' (fun c => if r < 128 then fgt x r J c else c = w_mp (r - 128))
/-- a flush begins, if none is under way -/
def BFl (x t ed : Nat) (I J : am_I) (lg fb : List Nat) (fq mk : Nat) (I' J' : am_I) (lg' fb' : List Nat) (fq' mk' : Nat) : Prop :=
  JNr x I' J' lg' fb' fq' mk' ∧ fBf x J J' ∧ (∀ a b, ¬ (a = x ∧ (b = 44 ∨ b = 46 ∨ b = 47)) → I' a b = I a b)
  ∧ ((fb = [] ∧ ¬ lg = [] ∧ lg' = [] ∧ fb' = lg ∧ fq' = 0 ∧ mk' = ed ∧ (∀ k, J' 0 126 k = if k < t ∧ J 0 125 (10 * k) = nI x ∧ J 0 125 (10 * k + 9) = nI 1 then nI 1 else J 0 126 k) ∧ ∀ k i, k < lg.length → i < 16 → I' x 47 (16 * k + i) = J 0 67 (16 * (640 * x + lg.getD k 0) + i))
    ∨ ((¬ fb = [] ∨ lg = []) ∧ lg' = lg ∧ fb' = fb ∧ fq' = fq ∧ mk' = mk ∧ I' = I ∧ J' = J))
theorem fBf.rf {x : Nat} {J : am_I} : fBf x J J := ⟨fun _ _ _ => rfl, fun _ _ => ⟨rfl, rfl, rfl, rfl⟩, fun _ _ => rfl, fun _ _ => rfl, fun _ _ => rfl⟩
section DOWN
variable {n T x r : Nat} {I J : am_I} {lg fb : List Nat} {fq mk : Nat} {ms : List (Nat → Nat)}
/-- the class begins a flush where the reference does -/
theorem c_bfl {t ed : Nat} (hx : x < 4) (ht : t ≤ 400) (h63 : J 0 60 63 = nI t) (hed : I 0 13 1 = nI ed) (h : JNr x I J lg fb fq mk) (hw : ∀ b i, b ∈ lg → i < 16 → I x 42 (16 * b + i) = J 0 67 (16 * (640 * x + b) + i)) : ∃ I' J' lg' fb' fq' mk', gX10_beginFlush n x I = some I' ∧ (if fb = [] ∧ ¬ lg = [] then gX11_beginFlush n (nI x) J else some J) = some J' ∧ BFl x t ed I J lg fb fq mk I' J' lg' fb' fq' mk' := by
  by_cases e : fb = []
  · by_cases el : lg = []
    · refine ⟨I, J, lg, fb, fq, mk, ?_, if_neg (fun q => q.2 el), h, fBf.rf, fun _ _ _ => rfl, Or.inr ⟨Or.inr el, rfl, rfl, rfl, rfl, rfl, rfl⟩⟩
      have h7 := h.2.2.2.2.2.2.1
      have h3 := h.2.2.1
      rw [e] at h7
      rw [el] at h3
      rw [gX10_beginFlush, bX10_beginFlush_0, c_isfl (c := 0) (by decide) h7, Option.bind_some]
      show (if nI 0 = (0 : Int32) then ((gX3_open n x x (I 0 13 1) I).bind _) else _) = _
      rw [if_pos (show nI 0 = (0 : Int32) from rfl), gX3_open, bX3_open_0, h3]
      rw [if_pos (show nI ([] : List Nat).length = (0 : Int32) from rfl)]
      rfl
    · subst e
      obtain ⟨I', J', r1, r2, r3, r4, r5, r6, r7⟩ := p_bfl (n := n) hx ht h63 hed h el hw
      exact ⟨I', J', [], lg, 0, ed, r1, by rw [if_pos ⟨rfl, el⟩]; exact r2, r3, r5, r6, Or.inl ⟨rfl, el, rfl, rfl, rfl, rfl, r4, r7⟩⟩
  · refine ⟨I, J, lg, fb, fq, mk, ?_, if_neg (fun q => e q.1), h, fBf.rf, fun _ _ _ => rfl, Or.inr ⟨Or.inl e, rfl, rfl, rfl, rfl, rfl, rfl⟩⟩
    have h7 := h.2.2.2.2.2.2.1
    have h8 := h.2.2.2.2.2.2.2.1
    have hne : ¬ fb.length = 0 := fun q => e (List.length_eq_zero_iff.mp q)
    rw [gX10_beginFlush, bX10_beginFlush_0, c_isfl (c := fb.length) h8 h7, Option.bind_some, if_neg hne]
    show (if nI 1 = (0 : Int32) then _ else bX10_beginFlush_28 n I) = _
    rw [if_neg (show ¬ nI 1 = (0 : Int32) from by decide)]
    rfl
/-- going down is put off: the log must get to the disk first -/
def GDw (x r t ed : Nat) (I J : am_I) (lg fb : List Nat) (fq mk : Nat) (I' J' : am_I) : Prop :=
  ¬ (lg = [] ∧ fb = []) ∧ ∃ lg' fb' fq' mk', BFl x t ed I (am_up J 0 80 (136 * x + r) (nI 1)) lg fb fq mk I' J' lg' fb' fq' mk'
def fGI (x r : Nat) (I I' : am_I) : Prop := (∀ a b, ¬ (a = x ∧ (b = 41 ∨ b = 43 ∨ b = 49 ∨ b = 51)) → ¬ (a = 0 ∧ (b = 9 ∨ b = 11)) → I' a b = I a b) ∧ (∀ k, ¬ k = r → I' x 49 k = I x 49 k ∧ I' x 51 k = I x 51 k) ∧ ∀ k, ¬ (k = 3 ∨ k = 4) → I' 0 9 k = I 0 9 k
def fGJ (x r : Nat) (J J' : am_I) : Prop := (∀ a b, ¬ (a = 0 ∧ (b = 60 ∨ b = 68 ∨ b = 76 ∨ b = 78 ∨ b = 80 ∨ (101 ≤ b ∧ b ≤ 106) ∨ b = 108)) → J' a b = J a b) ∧ (∀ k, ¬ k = 136 * x + r → J' 0 76 k = J 0 76 k ∧ J' 0 78 k = J 0 78 k ∧ J' 0 80 k = J 0 80 k) ∧ (∀ k, ¬ (k = 38 ∨ k = 39) → J' 0 60 k = J 0 60 k) ∧ ∀ k, ¬ (640 * x ≤ k ∧ k < 640 * x + 640) → J' 0 68 k = J 0 68 k
/-- a node goes down -/
def GDd (n T x r m M : Nat) (I J : am_I) (ms : List (Nat → Nat)) (I' J' : am_I) : Prop :=
  CHr x I' J' ∧ LKr x I' J' ∧ (∃ ms', MLr n T I' J' ms' ∧ snd (J 0 65) T x M 3 r m ms ms') ∧ J' 0 76 (136 * x + r) = nI m ∧ J' 0 78 (136 * x + r) = (-1 : Int32) ∧ J' 0 80 (136 * x + r) = nI 0
  ∧ (m = 0 → RMr x r J J') ∧ (¬ m = 0 → J' 0 68 = J 0 68) ∧ fGI x r I I' ∧ fGJ x r J J'
theorem c_wtd (hr : r < 136) (hL : LKr x I J) {m : Nat} (hm : m < 2) (hb : J 0 78 (136 * x + r) = nI m) (hp : I x 52 r = nI 0) : gX4_waitsToGoDown n x (nI r) I = some (nI 1, I) := by
  obtain ⟨l1, l2, l3⟩ := hL r hr
  rw [gX4_waitsToGoDown, bX4_waitsToGoDown_0, z_inb (by omega), decide_eq_true hr, z_gdt, z_clamp (by omega), l3, hb, if_neg (z_m1n (by omega)), z_gdt, hp, if_pos (show nI 0 = (0 : Int32) from rfl), bX4_waitsToGoDown_24, z_011, z_gdt]
theorem c_wtd0 (hr : r < 136) (hL : LKr x I J) (h : J 0 78 (136 * x + r) = (-1 : Int32) ∨ I x 52 r = nI 1) : gX4_waitsToGoDown n x (nI r) I = some (nI 0, I) := by
  obtain ⟨l1, l2, l3⟩ := hL r hr
  rw [gX4_waitsToGoDown, bX4_waitsToGoDown_0, z_inb (by omega), decide_eq_true hr, z_gdt, z_clamp (by omega), l3]
  by_cases e : J 0 78 (136 * x + r) = (-1 : Int32)
  · rw [if_pos e, bX4_waitsToGoDown_23, bX4_waitsToGoDown_24, z_01, z_gdt]
  · rw [if_neg e, z_gdt, h.resolve_left e, if_neg (show ¬ nI 1 = (0 : Int32) from by decide), bX4_waitsToGoDown_23, bX4_waitsToGoDown_24, z_01, z_gdt]
theorem c_idle (h : JNr x I J lg fb fq mk) : gX3_isIdle n x I = some (nI (if lg = [] ∧ fb = [] then 1 else 0), I) := by
  have h7 := h.2.2.2.2.2.2.1
  have h3 := h.2.2.1
  have h8 := h.2.2.2.2.2.2.2.1
  have h16 := h.1.2.2.1
  rw [gX3_isIdle, bX3_isIdle_0, h7, h3]
  by_cases e : fb = []
  · rw [if_pos (show nI fb.length = (0 : Int32) from by rw [e]; rfl)]
    by_cases el : lg = []
    · rw [if_pos (show nI lg.length = (0 : Int32) from by rw [el]; rfl), if_pos ⟨el, e⟩, bX3_isIdle_19, z_011, z_gdt]
    · rw [if_neg (show ¬ nI lg.length = (0 : Int32) from fun q => el (List.length_eq_zero_iff.mp (w_nI (b := 0) (by omega) (by decide) q))), if_neg (fun q => el q.1), bX3_isIdle_18, bX3_isIdle_19, z_01, z_gdt]
  · rw [if_neg (show ¬ nI fb.length = (0 : Int32) from fun q => e (List.length_eq_zero_iff.mp (w_nI (b := 0) (by omega) (by decide) q))), if_neg (fun q => e q.2), bX3_isIdle_18, bX3_isIdle_19, z_01, z_gdt]
/-- the class: nothing waits to go down -/
theorem c_gd0 (hr : r < 136) (hL : LKr x I J) (h : J 0 78 (136 * x + r) = (-1 : Int32) ∨ I x 52 r = nI 1) : gX10_goDown n x (nI r) I = some I := by
  rw [gX10_goDown, bX10_goDown_0, c_wtd0 (n := n) hr hL h, Option.bind_some]
  exact if_pos rfl
/-- both sides' going down proper -/
theorem p_gdd {m M : Nat} (hn : n ≤ 4) (hx : x < n) (hr : r < 136) (hL : LKr x I J) (hC : CHr x I J) (hM : MLr n T I J ms) (h40 : I x 40 0 = nI x) (hj : ∀ z, z < n → I z 40 6 = J 0 66 z) (hmst : mst n (J 0 66) r n 0 = nI M) (hMn : M < n) (hl : ms.length < 128) (hb : J 0 78 (136 * x + r) = nI m) (hm : m < 2) (hptr : m = 0 → PTR x r J) : ∃ I' J', bX10_goDown_40 n x (nI r) x I = some I' ∧ bX11_goDown_56 n (nI x) (nI r) (nI (136 * x + r)) J = some J' ∧ GDd n T x r m M I J ms I' J' := by
  have g1 : 136 * x + r < 544 := by omega
  obtain ⟨l1, l2, l3⟩ := hL r hr
  -- the class's first steps
  obtain ⟨Ia, hIa⟩ : ∃ Ia, Ia = am_up (am_up I x 49 r (nI m)) x 51 r (-1 : Int32) := ⟨_, rfl⟩
  obtain ⟨Ja, hJa⟩ : ∃ Ja, Ja = am_up J 0 76 (136 * x + r) (nI m) := ⟨_, rfl⟩
  have ia : ∀ a b, ¬ (a = x ∧ (b = 49 ∨ b = 51)) → Ia a b = I a b := fun a b q => by rw [hIa, z_upj _ _ _ _ _ _ _ (by omega), z_upj _ _ _ _ _ _ _ (by omega)]
  have ja : ∀ a b, ¬ (a = 0 ∧ b = 76) → Ja a b = J a b := fun a b q => by rw [hJa, z_upj _ _ _ _ _ _ _ (by omega)]
  have hCa : CHr x Ia Ja := by
    unfold CHr
    rw [ia x 43 (by omega), ia x 41 (by omega), ia x 42 (by omega), ja 0 68 (by omega), ja 0 67 (by omega)]
    exact hC
  -- the cache
  have hcache : ∃ Ib Jb, (if nI m = (0 : Int32) then gX1_dropResource n x (nI r) Ia else some Ia) = some Ib ∧ (if nI m = (0 : Int32) then gX11_forget n (nI x) (nI r) Ja else some Ja) = some Jb ∧ CHr x Ib Jb ∧ (m = 0 → RMr x r J Jb) ∧ (¬ m = 0 → Jb 0 68 = J 0 68) ∧ fDI x Ia Ib ∧ fDJ x Ja Jb := by
    by_cases e : m = 0
    · have e0 : nI m = (0 : Int32) := by rw [e]; rfl
      obtain ⟨Ib, Jb, r1, r2, r3, r4, r5, r6⟩ := p_forget (n := n) (r := r) (by omega) hr hCa (by
        have := hptr e
        unfold PTR at this
        rw [ja 0 68 (by omega), ja 0 67 (by omega)]
        exact this)
      refine ⟨Ib, Jb, by rw [if_pos e0]; exact r1, by rw [if_pos e0]; exact r2, r3, fun _ => ?_, fun q => absurd e q, r5, r6⟩
      unfold RM at r4
      unfold RMr RM
      rw [ja 0 68 (by omega)] at r4
      intro c hc
      have := r4 c hc
      by_cases e2 : r < 128
      · simp only [if_pos e2, fgt, ja 0 68 (show ¬ (0 = 0 ∧ 68 = 76) from by omega), ja 0 67 (show ¬ (0 = 0 ∧ 67 = 76) from by omega)] at this ⊢
        exact this
      · simp only [if_neg e2] at this ⊢
        exact this
    · have e0 : ¬ nI m = (0 : Int32) := fun q => e (w_nI (b := 0) (by omega) (by decide) q)
      exact ⟨Ia, Ja, if_neg e0, if_neg e0, hCa, fun q => absurd q e, fun _ => ja 0 68 (by omega), fDI.rf, fDJ.rf⟩
  obtain ⟨Ib, Jb, c1, c2, c3, c4, c5, c6, c7⟩ := hcache
  obtain ⟨Jc, hJc⟩ : ∃ Jc, Jc = am_up (am_up Jb 0 78 (136 * x + r) (-1 : Int32)) 0 80 (136 * x + r) (nI 0) := ⟨_, rfl⟩
  have jc : ∀ a b, ¬ (a = 0 ∧ (b = 78 ∨ b = 80)) → Jc a b = Jb a b := fun a b q => by rw [hJc, z_upj _ _ _ _ _ _ _ (by omega), z_upj _ _ _ _ _ _ _ (by omega)]
  have jj : ∀ a b, ¬ (a = 0 ∧ (b = 68 ∨ b = 76 ∨ b = 78 ∨ b = 80)) → Jc a b = J a b := fun a b q => by rw [jc a b (by omega), c7.1 a b (by omega), ja a b (by omega)]
  have ii : ∀ a b, ¬ (a = x ∧ (b = 41 ∨ b = 43 ∨ b = 49 ∨ b = 51)) → Ib a b = I a b := fun a b q => by rw [c6 a b (by omega), ia a b (by omega)]
  have x76 : ∀ k, Jc 0 76 k = if k = 136 * x + r then nI m else J 0 76 k := fun k => by rw [jc 0 76 (by omega), c7.1 0 76 (by omega), hJa, z_upk]
  have x78 : ∀ k, Jc 0 78 k = if k = 136 * x + r then (-1 : Int32) else J 0 78 k := fun k => by rw [hJc, z_upj _ _ _ _ _ _ _ (by omega), z_upk, c7.1 0 78 (by omega), ja 0 78 (by omega)]
  have x80 : ∀ k, Jc 0 80 k = if k = 136 * x + r then nI 0 else J 0 80 k := fun k => by rw [hJc, z_upk, z_upj _ _ _ _ _ _ _ (by omega), c7.1 0 80 (by omega), ja 0 80 (by omega)]
  have y49 : ∀ k, Ib x 49 k = if k = r then nI m else I x 49 k := fun k => by rw [c6 x 49 (by omega), hIa, z_upj _ _ _ _ _ _ _ (by omega), z_upk]
  have y51 : ∀ k, Ib x 51 k = if k = r then (-1 : Int32) else I x 51 k := fun k => by rw [c6 x 51 (by omega), hIa, z_upk, z_upj _ _ _ _ _ _ _ (by omega)]
  have hMc : MLr n T Ib Jc ms := by
    unfold MLr mC mR
    have e101 : ∀ c, c < 6 → Jc 0 (101 + c) = J 0 (101 + c) := fun c hc => jj 0 (101 + c) (by omega)
    have e40 : ∀ z, Ib z 40 = I z 40 := fun z => ii z 40 (by omega)
    rw [ii 0 9 (by omega), ii 0 11 (by omega), ii 0 0 (by omega), ii 0 10 (by omega), jj 0 60 (by omega), jj 0 107 (by omega), jj 0 108 (by omega), jj 0 65 (by omega)]
    obtain ⟨q1, q2, q3, q4, q5, q6, q7, q8, q9, q10, q11⟩ := hM
    exact ⟨q1, ⟨q2.1, q2.2.1, fun k mm hk c hc => by rw [e101 c hc]; exact q2.2.2 k mm hk c hc⟩, q3, q4, q5, q6, q7, q8, q9, fun z hz => by rw [e40 z]; exact q10 z hz, q11⟩
  obtain ⟨m1, m2⟩ := p_mst (n := n) (r := r) (I := Ib) (J := Jc) (by omega) hn hr (by rw [jj 0 60 (by omega)]; exact hM.2.2.2.2.2.2.2.2.2.2) (fun z hz => by rw [ii z 40 (by omega), jj 0 66 (by omega)]; exact hj z hz)
  have e66 : Jc 0 66 = J 0 66 := jj 0 66 (by omega)
  rw [e66, hmst] at m1 m2
  obtain ⟨I', J', ms', s1, s2, s3, s4, s5, s6⟩ := p_send (n := n) (f := x) (t := M) (k := 3) (r := r) (md := m) hn hMc hl hx hMn ⟨by decide, by omega, by omega⟩
  have h40b : Ib x 40 0 = nI x := by rw [ii x 40 (by omega)]; exact h40
  refine ⟨I', J', ?_, ?_, ⟨?_, fun k hk => ?_, ⟨ms', s3, ?_⟩, ?_, ?_, ?_, fun q => ?_, fun q => ?_, ⟨fun a b q q2 => ?_, fun k q => ?_, fun k q => ?_⟩, fun a b q => ?_, fun k q => ?_, fun k q => ?_, fun k q => ?_⟩⟩
  · have tl : bX10_goDown_76 n x (nI r) (nI m) Ib = some I' := by
      rw [bX10_goDown_76, m1, Option.bind_some]
      show ((gX10_post n (Ib x 40 0) (nI M) (nI 3) (nI r) (nI m) Ib).bind _) = _
      rw [h40b, s1, Option.bind_some]
    rw [bX10_goDown_40, z_inb (by omega), decide_eq_true hr, z_gdt, z_gdt, am_lt, z_gdt, am_lt, z_clamp (by omega), l3, hb, ← hIa]
    by_cases e0 : nI m = (0 : Int32)
    · rw [if_pos e0] at c1 ⊢
      rw [c1, Option.bind_some, tl]
    · rw [if_neg e0] at c1 ⊢
      rw [Option.some.inj c1]
      exact tl
  · have tl : bX11_goDown_83 n (nI x) (nI r) (nI (136 * x + r)) (nI m) Jb = some J' := by
      rw [bX11_goDown_83, z_inb (by omega), decide_eq_true g1, z_gdt, am_lt, z_gdt, am_lt, z_clamp (by omega), ← hJc, m2, Option.bind_some]
      show ((gX11_send n (nI x) (nI M) (nI 3) (nI r) (nI m) Jc).bind _) = _
      rw [s2, Option.bind_some]
    rw [bX11_goDown_56, z_inb (by omega), decide_eq_true g1, z_gdt, z_gdt, am_lt, z_clamp (by omega), hb, ← hJa]
    by_cases e0 : nI m = (0 : Int32)
    · rw [if_pos e0] at c2 ⊢
      rw [c2, Option.bind_some, tl]
    · rw [if_neg e0] at c2 ⊢
      rw [Option.some.inj c2]
      exact tl
  · unfold CHr
    rw [s4.1 x 43 (by omega), s4.1 x 41 (by omega), s4.1 x 42 (by omega), s5.1 0 68 (by omega), s5.1 0 67 (by omega), jc 0 68 (by omega), jc 0 67 (by omega)]
    exact c3
  · rw [s4.1 x 49 (by omega), s4.1 x 50 (by omega), s4.1 x 51 (by omega), s5.1 0 76 (by omega), s5.1 0 77 (by omega), s5.1 0 78 (by omega), y49, y51, x76, x78, ii x 50 (by omega), jj 0 77 (by omega)]
    obtain ⟨q1, q2, q3⟩ := hL k hk
    by_cases e : k = r
    · rw [if_pos e, if_pos (by omega), if_pos e, if_pos (by omega)]
      exact ⟨rfl, q2, rfl⟩
    · rw [if_neg e, if_neg (by omega), if_neg e, if_neg (by omega)]
      exact ⟨q1, q2, q3⟩
  · have e65 : Jc 0 65 = J 0 65 := jj 0 65 (by omega)
    rw [e65] at s6
    exact s6
  · rw [s5.1 0 76 (by omega), x76, if_pos rfl]
  · rw [s5.1 0 78 (by omega), x78, if_pos rfl]
  · rw [s5.1 0 80 (by omega), x80, if_pos rfl]
  · have := c4 q
    unfold RMr RM at this ⊢
    rw [s5.1 0 68 (by omega), jc 0 68 (by omega)]
    exact this
  · rw [s5.1 0 68 (by omega), jc 0 68 (by omega)]
    exact c5 q
  · rw [s4.1 a b q2, ii a b q]
  · rw [s4.1 x 49 (by omega), s4.1 x 51 (by omega), y49, y51, if_neg q, if_neg q]
    exact ⟨rfl, rfl⟩
  · rw [s4.2 k q, ii 0 9 (by omega)]
  · rw [s5.1 a b (by omega), jj a b (by omega)]
  · rw [s5.1 0 76 (by omega), s5.1 0 78 (by omega), s5.1 0 80 (by omega), x76, x78, x80, if_neg q, if_neg q, if_neg q]
    exact ⟨rfl, rfl, rfl⟩
  · rw [s5.2 k q, jj 0 60 (by omega)]
  · rw [s5.1 0 68 (by omega), jc 0 68 (by omega), c7.2 k q, ja 0 68 (by omega)]
end DOWN
