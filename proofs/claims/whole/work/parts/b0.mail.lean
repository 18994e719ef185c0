
/-- a message: from, to, kind, resource, mode, due -/
def nm (f t k r md du : Nat) : Nat → Nat := fun c => match c with
  | 0 => f
  | 1 => t
  | 2 => k
  | 3 => r
  | 4 => md
  | _ => du
def mw (m : Nat → Nat) : Prop := ∀ c, c < 6 → m c < 2 ^ 20
/-- the latest due on a way -/
def mxd (f t : Nat) : List (Nat → Nat) → Nat
  | [] => 0
  | m :: l => if m 0 = f ∧ m 1 = t then max (m 5) (mxd f t l) else mxd f t l
/-- the messages of the reference -/
def mR (J : am_I) (ms : List (Nat → Nat)) : Prop := J 0 60 38 = nI ms.length ∧ (∀ m, m ∈ ms → mw m) ∧ ∀ k m, ms[k]? = some m → ∀ c, c < 6 → J 0 (101 + c) k = nI (m c)
/-- the messages of the class -/
def mC (I : am_I) (ms : List (Nat → Nat)) : Prop := I 0 9 3 = nI ms.length ∧ (∀ m, m ∈ ms → mw m) ∧ ∀ k m, ms[k]? = some m → ∀ c, c < 6 → I 0 11 (6 * k + c) = nI (m c)
def fMJ (J J' : am_I) : Prop := (∀ i j, ¬ (i = 0 ∧ (j = 60 ∨ (101 ≤ j ∧ j ≤ 106) ∨ j = 108)) → J' i j = J i j) ∧ ∀ k, ¬ (k = 38 ∨ k = 39) → J' 0 60 k = J 0 60 k
def fMI (I I' : am_I) : Prop := (∀ i j, ¬ (i = 0 ∧ (j = 9 ∨ j = 11)) → I' i j = I i j) ∧ ∀ k, ¬ (k = 3 ∨ k = 4) → I' 0 9 k = I 0 9 k
theorem fMJ.rf {J : am_I} : fMJ J J := ⟨fun _ _ _ => rfl, fun _ _ => rfl⟩
theorem fMJ.tr {J J' J'' : am_I} (h : fMJ J J') (h' : fMJ J' J'') : fMJ J J'' := ⟨fun i j q => (h'.1 i j q).trans (h.1 i j q), fun k q => (h'.2 k q).trans (h.2 k q)⟩
theorem fMI.rf {J : am_I} : fMI J J := ⟨fun _ _ _ => rfl, fun _ _ => rfl⟩
theorem fMI.tr {J J' J'' : am_I} (h : fMI J J') (h' : fMI J' J'') : fMI J J'' := ⟨fun i j q => (h'.1 i j q).trans (h.1 i j q), fun k q => (h'.2 k q).trans (h.2 k q)⟩
theorem app_get {α : Type} {l : List α} {x m : α} {k : Nat} (h : (l ++ [x])[k]? = some m) : (k < l.length ∧ l[k]? = some m) ∨ (k = l.length ∧ m = x) := by
  by_cases e : k < l.length
  · rw [List.getElem?_append_left e] at h
    exact Or.inl ⟨e, h⟩
  · rw [List.getElem?_append_right (by omega)] at h
    by_cases e2 : k = l.length
    · rw [e2, Nat.sub_self] at h
      refine Or.inr ⟨e2, ?_⟩
      simpa using h.symm
    · rw [List.getElem?_eq_none (by simp only [List.length_singleton]; omega)] at h
      cases h
theorem c6 {c : Nat} (h : c < 6) : c = 0 ∨ c = 1 ∨ c = 2 ∨ c = 3 ∨ c = 4 ∨ c = 5 := by omega
theorem nm_w {f t k r md s : Nat} (hf : f < 4) (ht : t < 4) (hx : k < 2 ^ 20 ∧ r < 2 ^ 20 ∧ md < 2 ^ 20) (hs : s < 2 ^ 20) : mw (nm f t k r md s) := fun c hc => by
  rcases c6 hc with rfl | rfl | rfl | rfl | rfl | rfl
  · show f < 2 ^ 20
    omega
  · show t < 2 ^ 20
    omega
  · exact hx.1
  · exact hx.2.1
  · exact hx.2.2
  · exact hs
section MAIL
variable {n : Nat} {I J : am_I} {ms : List (Nat → Nat)}
theorem mR_app {J' : am_I} {x : Nat → Nat} (h : mR J ms) (hx : mw x) (h38 : J' 0 60 38 = nI (ms.length + 1)) (hJ : ∀ c, c < 6 → ∀ k, J' 0 (101 + c) k = if k = ms.length then nI (x c) else J 0 (101 + c) k) : mR J' (ms ++ [x]) := by
  refine ⟨by rw [h38, List.length_append]; rfl, fun m hm => ?_, fun k m hk c hc => ?_⟩
  · rcases List.mem_append.mp hm with q | q
    · exact h.2.1 m q
    · rw [List.mem_singleton.mp q]; exact hx
  · rw [hJ c hc k]
    rcases app_get hk with ⟨e, q⟩ | ⟨e, q⟩
    · rw [if_neg (by omega)]
      exact h.2.2 k m q c hc
    · rw [if_pos e, q]
theorem mC_app {I' : am_I} {x : Nat → Nat} (h : mC I ms) (hx : mw x) (h3 : I' 0 9 3 = nI (ms.length + 1)) (hI : ∀ c, c < 6 → ∀ k, k ≤ ms.length → I' 0 11 (6 * k + c) = if k = ms.length then nI (x c) else I 0 11 (6 * k + c)) : mC I' (ms ++ [x]) := by
  refine ⟨by rw [h3, List.length_append]; rfl, fun m hm => ?_, fun k m hk c hc => ?_⟩
  · rcases List.mem_append.mp hm with q | q
    · exact h.2.1 m q
    · rw [List.mem_singleton.mp q]; exact hx
  · rcases app_get hk with ⟨e, q⟩ | ⟨e, q⟩
    · rw [hI c hc k (by omega), if_neg (by omega)]
      exact h.2.2 k m q c hc
    · rw [hI c hc k (by omega), if_pos e, q]
theorem r_send71 {f t k r md s : Nat} (hm : mR J ms) (hl : ms.length < 4096) (hf : f < 4) (ht : t < 4) (hx : mw (nm f t k r md s)) : ∃ J', bX11_send_71 n (nI f) (nI t) (nI k) (nI r) (nI md) (nI (4 * f + t)) (nI s) J = some J' ∧ mR J' (ms ++ [nm f t k r md s]) ∧ (∀ w, J' 0 108 w = if w = 4 * f + t then nI s else J 0 108 w) ∧ (∀ i j, ¬ (i = 0 ∧ (j = 60 ∨ (101 ≤ j ∧ j ≤ 106) ∨ j = 108)) → J' i j = J i j) ∧ ∀ k, ¬ k = 38 → J' 0 60 k = J 0 60 k := by
  have g1 : 4 * f + t < 16 := by omega
  have h38 := hm.1
  refine ⟨am_up (am_up (am_up (am_up (am_up (am_up (am_up (am_up J 0 108 (4 * f + t) (nI s)) 0 101 ms.length (nI f)) 0 102 ms.length (nI t)) 0 103 ms.length (nI k)) 0 104 ms.length (nI r)) 0 105 ms.length (nI md)) 0 106 ms.length (nI s)) 0 60 38 (nI (ms.length + 1)), ?_, mR_app hm hx ?_ (fun c hc k' => ?_), fun w => ?_, fun i j q => ?_, fun k' q => ?_⟩
  · simp (disch := omega) only [bX11_send_71, am_lt, z_inb, g1, hl, decide_true, z_gdt, z_clamp, z_upj, h38, nI_add]
  · rw [z_upk, if_pos rfl]
  · rcases c6 hc with rfl | rfl | rfl | rfl | rfl | rfl
    all_goals
      simp (disch := omega) only [z_upj, z_upk]
      rfl
  · simp (disch := omega) only [z_upj, z_upk]
  · simp (disch := omega) only [z_upj]
  · rw [z_upk, if_neg q]
    simp (disch := omega) only [z_upj]
/-- the reference sends -/
theorem r_send {f t k r md T dl ld : Nat} (hm : mR J ms) (hl : ms.length < 4096) (hf : f < 4) (ht : t < 4) (hu : J 0 65 t = nI 1) (hT : J 0 60 2 = nI T) (hd : J 0 107 (4 * f + t) = nI dl) (hL : J 0 108 (4 * f + t) = nI ld) (hTb : T + dl < 2 ^ 20) (hLb : ld < 2 ^ 20) (hx : k < 2 ^ 20 ∧ r < 2 ^ 20 ∧ md < 2 ^ 20) : ∃ J', gX11_send n (nI f) (nI t) (nI k) (nI r) (nI md) J = some J' ∧ mR J' (ms ++ [nm f t k r md (max (T + dl) ld)]) ∧ (∀ w, J' 0 108 w = if w = 4 * f + t then nI (max (T + dl) ld) else J 0 108 w) ∧ J' 0 60 39 = J 0 60 39 + nI 1 ∧ fMJ J J' := by
  have g1 : 4 * f + t < 16 := by omega
  have hmx : mw (nm f t k r md (max (T + dl) ld)) := nm_w hf ht hx (by omega)
  have hm1 : mR (am_up J 0 60 39 (J 0 60 39 + nI 1)) ms := ⟨by rw [z_upk, if_neg (by decide)]; exact hm.1, hm.2.1, fun k' m hk c hc => by
    rw [z_upj _ _ _ _ _ _ _ (by omega)]
    exact hm.2.2 k' m hk c hc⟩
  have hm1' : ¬ nI t = (-1 : Int32) := z_m1n (by omega)
  obtain ⟨J', e1, e2, e3, e4, e5⟩ := r_send71 (n := n) (f := f) (t := t) (k := k) (r := r) (md := md) (s := max (T + dl) ld) hm1 hl hf ht hmx
  refine ⟨J', ?_, e2, fun w => ?_, ?_, fun i j q => ?_, fun k' q => ?_⟩
  · have g2 : am_inb (nI (4 * f + t)) 16 = true := by rw [z_inb (by omega)]; exact decide_eq_true g1
    have g3 : am_inb (nI t) 4 = true := by rw [z_inb (by omega)]; exact decide_eq_true ht
    have c1 : (nI (4 * f + t)).toNatClampNeg = 4 * f + t := z_clamp (by omega)
    have c2 : (nI t).toNatClampNeg = t := z_clamp (by omega)
    have u1 : am_up J 0 60 39 (J 0 60 39 + nI 1) 0 65 t = nI 1 := by rw [z_upj _ _ _ _ _ _ _ (by omega)]; exact hu
    have u2 : am_up J 0 60 39 (J 0 60 39 + nI 1) 0 108 (4 * f + t) = nI ld := by rw [z_upj _ _ _ _ _ _ _ (by omega)]; exact hL
    have u3 : am_up J 0 60 39 (J 0 60 39 + nI 1) 0 107 (4 * f + t) = nI dl := by rw [z_upj _ _ _ _ _ _ _ (by omega)]; exact hd
    have u4 : am_up J 0 60 39 (J 0 60 39 + nI 1) 0 60 2 = nI T := by rw [z_upk, if_neg (by decide)]; exact hT
    rw [gX11_send, bX11_send_0, if_neg hm1', am_lt, am_gd_of g3, c2, u1, if_neg (by decide), pk_mul, nI_add, am_gd_of g2, am_gd_of g2, c1, u2, u3, u4, nI_add, am_gd_of g2]
    by_cases e : ld ≤ T + dl
    · rw [if_pos (by rw [z_le (by omega) (by omega)]; exact e), ← e1, Nat.max_eq_left e]
    · rw [if_neg (by rw [z_le (by omega) (by omega)]; exact e), ← e1, Nat.max_eq_right (by omega)]
  · rw [e3 w]
    simp (disch := omega) only [z_upj]
  · rw [e5 39 (by decide), z_upk, if_pos rfl]
  · rw [e4 i j q, z_upj _ _ _ _ _ _ _ (by omega)]
  · rw [e5 k' (by omega), z_upk, if_neg (by omega)]
/-- to a node that is down -/
theorem r_send0 {f t k r md : Nat} (ht : t < 4) (hu : J 0 65 t = nI 0) : gX11_send n (nI f) (nI t) (nI k) (nI r) (nI md) J = some (am_up J 0 60 39 (J 0 60 39 + nI 1)) := by
  have hm1' : ¬ nI t = (-1 : Int32) := z_m1n (by omega)
  rw [gX11_send, bX11_send_0, if_neg hm1']
  simp (disch := omega) only [am_lt, z_inb, z_clamp, ht, decide_true, z_gdt, z_upj, hu, z_00, if_true]
theorem mxd_drop {f t : Nat} : ∀ (l : List (Nat → Nat)) (k : Nat) (m : Nat → Nat), l[k]? = some m → mxd f t (l.drop k) = if m 0 = f ∧ m 1 = t then max (m 5) (mxd f t (l.drop (k + 1))) else mxd f t (l.drop (k + 1))
  | [], _, _, h => by simp at h
  | a :: l, 0, m, h => by
    obtain rfl : a = m := by simpa using h
    rfl
  | a :: l, k + 1, m, h => by
    rw [List.getElem?_cons_succ] at h
    exact mxd_drop l k m h
/-- the class's search for the latest due, and the new message -/
theorem c_lp {f t k r md : Nat} (hm : mC I ms) (hl : ms.length < 128) (hf : f < 4) (ht : t < 4) (hx : k < 2 ^ 20 ∧ r < 2 ^ 20 ∧ md < 2 ^ 20) : ∀ (m i s fu : Nat), i + m = ms.length → m < fu → s < 2 ^ 20 → ∃ I', bX5_send_29 n fu (nI f) (nI t) (nI k) (nI r) (nI md) (nI s) (nI i) I = some I' ∧ mC I' (ms ++ [nm f t k r md (max s (mxd f t (ms.drop i)))]) ∧ fMI I I' ∧ I' 0 9 4 = I 0 9 4 := by
  intro m
  induction m with
  | zero =>
    intro i s fu hi hfu hs
    obtain ⟨fu, rfl⟩ : ∃ f, fu = f + 1 := ⟨fu - 1, by omega⟩
    obtain rfl : i = ms.length := by omega
    have h3 := hm.1
    have hmx : mw (nm f t k r md s) := nm_w hf ht hx hs
    have g0 : ms.length * 6 < 768 := by omega
    have g1 : ms.length * 6 + 1 < 768 := by omega
    have g2 : ms.length * 6 + 2 < 768 := by omega
    have g3 : ms.length * 6 + 3 < 768 := by omega
    have g4 : ms.length * 6 + 4 < 768 := by omega
    have g5 : ms.length * 6 + 5 < 768 := by omega
    rw [List.drop_length]
    show ∃ I', _ ∧ mC I' (ms ++ [nm f t k r md (max s 0)]) ∧ _
    rw [Nat.max_eq_left (Nat.zero_le _)]
    refine ⟨am_up (am_up (am_up (am_up (am_up (am_up (am_up I 0 11 (ms.length * 6) (nI f)) 0 11 (ms.length * 6 + 1) (nI t)) 0 11 (ms.length * 6 + 2) (nI k)) 0 11 (ms.length * 6 + 3) (nI r)) 0 11 (ms.length * 6 + 4) (nI md)) 0 11 (ms.length * 6 + 5) (nI s)) 0 9 3 (nI (ms.length + 1)), ?_, mC_app hm hmx ?_ (fun c hc k' hk' => ?_), ⟨fun i j q => ?_, fun k' q => ?_⟩, ?_⟩
    · conv => lhs; unfold bX5_send_29
      simp (disch := omega) only [h3, z_le, Nat.le_refl, if_true, am_lt, pk_mul, nI_add, z_inb, g0, g1, g2, g3, g4, g5, decide_true, z_gdt, z_clamp, z_upj]
    · rw [z_upk, if_pos rfl]
    · rw [z_upj _ _ _ _ _ _ _ (by omega), z_upk, z_upk, z_upk, z_upk, z_upk, z_upk]
      by_cases e : k' = ms.length
      · subst e
        rw [if_pos rfl]
        rcases c6 hc with rfl | rfl | rfl | rfl | rfl | rfl
        · rw [if_neg (by omega), if_neg (by omega), if_neg (by omega), if_neg (by omega), if_neg (by omega), if_pos (by omega)]; rfl
        · rw [if_neg (by omega), if_neg (by omega), if_neg (by omega), if_neg (by omega), if_pos (by omega)]; rfl
        · rw [if_neg (by omega), if_neg (by omega), if_neg (by omega), if_pos (by omega)]; rfl
        · rw [if_neg (by omega), if_neg (by omega), if_pos (by omega)]; rfl
        · rw [if_neg (by omega), if_pos (by omega)]; rfl
        · rw [if_pos (by omega)]; rfl
      · rw [if_neg e, if_neg (by omega), if_neg (by omega), if_neg (by omega), if_neg (by omega), if_neg (by omega), if_neg (by omega)]
    · simp (disch := omega) only [z_upj]
    · rw [z_upk, if_neg (by omega)]
      simp (disch := omega) only [z_upj]
    · rw [z_upk, if_neg (by decide)]
      simp (disch := omega) only [z_upj]
  | succ m ih =>
    intro i s fu hi hfu hs
    obtain ⟨fu, rfl⟩ : ∃ f, fu = f + 1 := ⟨fu - 1, by omega⟩
    have h3 := hm.1
    have hlt : i < ms.length := by omega
    have hle : ¬ ms.length ≤ i := by omega
    obtain ⟨x, hx2⟩ : ∃ x, ms[i]? = some x := ⟨ms[i], List.getElem?_eq_getElem hlt⟩
    have hw := hm.2.1 x (List.mem_of_getElem? hx2)
    have w0 := hm.2.2 i x hx2 0 (by decide)
    have w1 := hm.2.2 i x hx2 1 (by decide)
    have w5 := hm.2.2 i x hx2 5 (by decide)
    have b0 := hw 0 (by decide)
    have b1 := hw 1 (by decide)
    have b5 := hw 5 (by decide)
    rw [Nat.mul_comm, Nat.add_zero] at w0
    rw [Nat.mul_comm] at w1 w5
    have g0 : i * 6 < 768 := by omega
    have g1 : i * 6 + 1 < 768 := by omega
    have g5 : i * 6 + 5 < 768 := by omega
    rw [mxd_drop ms i x hx2]
    by_cases e : x 0 = f ∧ x 1 = t
    · rw [if_pos e]
      obtain ⟨I', r1, r2, r3, r4⟩ := ih (i + 1) (max s (x 5)) fu (by omega) (by omega) (by omega)
      refine ⟨I', ?_, by rw [← Nat.max_assoc]; exact r2, r3, r4⟩
      rw [← r1]
      conv => lhs; unfold bX5_send_29
      simp (disch := omega) only [h3, z_le, hle, if_false, pk_mul, nI_add, z_inb, g0, g1, g5, decide_true, z_gdt, z_clamp, w0, w1, w5, z_eq, e.1, e.2, if_true, bX5_send_85]
      by_cases e5 : x 5 ≤ s
      · rw [if_pos e5, Nat.max_eq_left e5]
      · rw [if_neg e5, Nat.max_eq_right (by omega)]
    · rw [if_neg e]
      obtain ⟨I', r1, r2, r3, r4⟩ := ih (i + 1) s fu (by omega) (by omega) hs
      refine ⟨I', ?_, r2, r3, r4⟩
      rw [← r1]
      conv => lhs; unfold bX5_send_29
      by_cases e0 : x 0 = f
      · have e1 : ¬ x 1 = t := fun q => e ⟨e0, q⟩
        simp (disch := omega) only [h3, z_le, hle, if_false, pk_mul, nI_add, z_inb, g0, g1, g5, decide_true, z_gdt, z_clamp, w0, w1, z_eq, e0, e1, if_true, bX5_send_85]
      · simp (disch := omega) only [h3, z_le, hle, if_false, pk_mul, nI_add, z_inb, g0, g1, g5, decide_true, z_gdt, z_clamp, w0, z_eq, e0, bX5_send_85]
/-- the class posts -/
theorem c_isn {x : Nat} (hx : x < n) (hn : n ≤ 4) : gX10_isNode n (nI x) I = some (nI 1, I) := by
  have h1 : ¬ n ≤ x := by omega
  simp (disch := omega) only [gX10_isNode, bX10_isNode_0, bX10_isNode_18, z_ni0, z_le, h1, if_false, z_011, z_gdt]
theorem c_post {f t k r md T dl : Nat} (hn : n ≤ 4) (hm : mC I ms) (hl : ms.length < 128) (hf : f < 4) (ht : t < n) (hu : I t 40 5 = nI 1) (hT : I 0 0 7 = nI T) (hd : I 0 10 (4 * f + t) = nI dl) (hTb : T + dl < 2 ^ 20) (hx : k < 2 ^ 20 ∧ r < 2 ^ 20 ∧ md < 2 ^ 20) : ∃ I', gX10_post n (nI f) (nI t) (nI k) (nI r) (nI md) I = some I' ∧ mC I' (ms ++ [nm f t k r md (max (T + dl) (mxd f t ms))]) ∧ I' 0 9 4 = I 0 9 4 + nI 1 ∧ fMI I I' := by
  have hm1 : mC (am_up I 0 9 4 (I 0 9 4 + nI 1)) ms := ⟨by rw [z_upk, if_neg (by decide)]; exact hm.1, hm.2.1, fun k' m hk c hc => by
    rw [z_upj _ _ _ _ _ _ _ (by omega)]
    exact hm.2.2 k' m hk c hc⟩
  have g1 : f * 4 + t < 16 := by omega
  obtain ⟨I', e1, e2, e3, e4⟩ := c_lp (n := n) (f := f) (t := t) (k := k) (r := r) (md := md) hm1 hl hf (by omega) hx ms.length 0 (T + dl) am_fu (by omega) (fu_lt (by omega)) hTb
  rw [List.drop_zero] at e2
  refine ⟨I', ?_, e2, ?_, fun i j q => ?_, fun k' q => ?_⟩
  · rw [gX10_post, bX10_post_0, am_lt, c_isn ht hn, Option.bind_some]
    have hmL := hm.1
    show (if nI 1 = (0 : Int32) then _ else am_gd (am_inb (nI t) n) (if (am_up I 0 9 4 (I 0 9 4 + nI 1)) (nI t).toNatClampNeg 40 5 = 0 then _ else ((gX5_send n (nI f) (nI t) (nI k) (nI r) (nI md) ((am_up I 0 9 4 (I 0 9 4 + nI 1)) 0 0 7) (am_up I 0 9 4 (I 0 9 4 + nI 1))).bind (fun q4 => bX10_post_51 n q4)))) = some I'
    have hd' : I 0 10 (f * 4 + t) = nI dl := by rw [Nat.mul_comm]; exact hd
    have s1 : gX5_send n (nI f) (nI t) (nI k) (nI r) (nI md) (nI T) (am_up I 0 9 4 (I 0 9 4 + nI 1)) = some I' := by
      rw [gX5_send, bX5_send_0, hm1.1, if_pos (by rw [z_lt (by omega) (by decide)]; exact hl), pk_mul, nI_add, am_gd_of (by rw [z_inb (by omega)]; exact decide_eq_true g1), z_clamp (by omega), z_upj _ _ _ _ _ _ _ (by omega), hd', nI_add]
      exact e1
    rw [if_neg (by decide), am_gd_of (by rw [z_inb (by omega)]; exact decide_eq_true ht), z_clamp (by omega), z_upj _ _ _ _ _ _ _ (by omega), hu, if_neg (by decide), z_upj _ _ _ _ _ _ _ (by omega), hT, s1, Option.bind_some]
    rfl
  · rw [e4, z_upk, if_pos rfl]
  · rw [e3.1 i j q, z_upj _ _ _ _ _ _ _ (by omega)]
  · rw [e3.2 k' q, z_upk, if_neg (by omega)]
theorem c_post0 {f t k r md : Nat} (hn : n ≤ 4) (ht : t < n) (hu : I t 40 5 = nI 0) : gX10_post n (nI f) (nI t) (nI k) (nI r) (nI md) I = some (am_up I 0 9 4 (I 0 9 4 + nI 1)) := by
  rw [gX10_post, bX10_post_0, am_lt, c_isn ht hn, Option.bind_some]
  show (if nI 1 = (0 : Int32) then _ else am_gd (am_inb (nI t) n) (if (am_up I 0 9 4 (I 0 9 4 + nI 1)) (nI t).toNatClampNeg 40 5 = 0 then _ else _)) = _
  rw [if_neg (by decide), am_gd_of (by rw [z_inb (by omega)]; exact decide_eq_true ht), z_clamp (by omega), z_upj _ _ _ _ _ _ _ (by omega), hu, if_pos (show nI 0 = (0 : Int32) from rfl)]
  rfl
end MAIL
