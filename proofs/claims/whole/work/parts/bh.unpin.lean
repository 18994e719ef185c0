
/-- all that a node's going down looks at, both sides -/
def GBr (n T x t ed : Nat) (I J : am_I) (lg fb : List Nat) (fq mk : Nat) (ms : List (Nat → Nat)) : Prop :=
  LKr x I J ∧ CHr x I J ∧ JNr x I J lg fb fq mk ∧ MLr n T I J ms ∧ (I x 40 0 = nI x ∧ (∀ z, z < n → I z 40 6 = J 0 66 z) ∧ t ≤ 400 ∧ J 0 60 63 = nI t ∧ I 0 13 1 = nI ed)
  ∧ ms.length < 128 ∧ (∀ b, b ∈ lg → J 0 68 (640 * x + b) = nI 1)
  ∧ ∀ r, r < 136 → (∃ M, M < n ∧ mst n (J 0 66) r n 0 = nI M) ∧ (∃ h : Nat, h ≤ 2 ∧ J 0 76 (136 * x + r) = nI h) ∧ (J 0 78 (136 * x + r) = (-1 : Int32) ∨ ∃ m : Nat, m < 2 ∧ J 0 78 (136 * x + r) = nI m ∧ (m = 0 → PTR x r J))
/-- a step down -/
def GDs (n T x r t ed : Nat) (I J I' J' : am_I) : Prop :=
  ∃ lg fb fq mk ms m M h, GBr n T x t ed I J lg fb fq mk ms ∧ m < 2 ∧ J 0 78 (136 * x + r) = nI m ∧ h ≤ 2 ∧ J 0 76 (136 * x + r) = nI h ∧ M < n ∧ mst n (J 0 66) r n 0 = nI M
    ∧ ((h = 2 ∧ GDw x r t ed I J lg fb fq mk I' J') ∨ (¬ (h = 2 ∧ ¬ (lg = [] ∧ fb = [])) ∧ GDd n T x r m M I J ms I' J'))
/-- a resource that is called back waits for the log, or isn't called back -/
def WT (x : Nat) (J : am_I) (r : Nat) : Prop := (J 0 78 (136 * x + r) = (-1 : Int32) ∧ J 0 80 (136 * x + r) = nI 0) ∨ (¬ J 0 78 (136 * x + r) = (-1 : Int32) ∧ J 0 80 (136 * x + r) = nI 1 ∧ J 0 76 (136 * x + r) = nI 2 ∧ ¬ J 0 72 x = nI 0)
def WP (x : Nat) (J : am_I) (r : Nat) : Prop := (J 0 79 (136 * x + r) = nI 1 ∧ J 0 80 (136 * x + r) = nI 0) ∨ (J 0 79 (136 * x + r) = nI 0 ∧ WT x J r)
section UNPIN
variable {n T x r t ed : Nat} {I J I' J' : am_I} {lg fb : List Nat} {fq mk : Nat} {ms : List (Nat → Nat)}
theorem jn_72 (h : JNr x I J lg fb fq mk) : J 0 72 x = nI (if fb = [] then 0 else 2 * fb.length + 3) := by
  obtain ⟨a1, a2, a3, a4, a5, a6, a7, a8, a9, a10, a11⟩ := h
  by_cases e : fb = []
  · rw [if_pos e]; exact (a10 e).1
  · rw [if_neg e]; exact (a11 e).2.2.2.2.1.1
theorem jn_72z (h : JNr x I J lg fb fq mk) : J 0 72 x = nI 0 ↔ fb = [] := by
  rw [jn_72 h]
  have h8 := h.2.2.2.2.2.2.2.1
  by_cases e : fb = []
  · rw [if_pos e]; exact ⟨fun _ => e, fun _ => rfl⟩
  · rw [if_neg e]
    refine ⟨fun q => ?_, fun q => absurd q e⟩
    have := w_nI (b := 0) (by omega) (by decide) q
    omega
theorem p_gd {m : Nat} (hn : n ≤ 4) (hx : x < n) (hr : r < 136) (h : GBr n T x t ed I J lg fb fq mk ms) (hm : m < 2) (hb : J 0 78 (136 * x + r) = nI m) (hp : I x 52 r = nI 0) : ∃ I' J', gX10_goDown n x (nI r) I = some I' ∧ gX11_goDown n (nI x) (nI r) J = some J' ∧ GDs n T x r t ed I J I' J' := by
  have h0 := h
  obtain ⟨hL, hC, hJ, hM, ⟨k1, k2, k3, k4, k5⟩, hl, hlc, hr8⟩ := h
  obtain ⟨⟨M, M1, M2⟩, ⟨hh, H1, H2⟩, hbk⟩ := hr8 r hr
  obtain ⟨l1, l2, l3⟩ := hL r hr
  have hptr : m = 0 → PTR x r J := by
    rcases hbk with q | ⟨m', q1, q2, q3⟩
    · exact absurd (hb ▸ q) (z_m1n (by omega))
    · have : m = m' := w_nI (by omega) (by omega) (hb ▸ q2)
      rw [this]; exact q3
  have g1 : 136 * x + r < 544 := by omega
  have gn4 : am_inb (nI x) 4 = true := r_g4 (by omega)
  have e76 : nI hh = nI 2 ↔ hh = 2 := ⟨fun q => w_nI (by omega) (by decide) q, fun q => by rw [q]⟩
  have h72 := jn_72 hJ
  have h8 := hJ.2.2.2.2.2.2.2.1
  have hs72 : 0 < J 0 72 x ↔ ¬ fb = [] := by
    rw [h72]
    by_cases e : fb = []
    · rw [if_pos e]
      exact ⟨fun q => absurd q (by decide), fun q => absurd e q⟩
    · rw [if_neg e]
      refine ⟨fun _ => e, fun _ => ?_⟩
      rw [z_0, z_lt (by decide) (by omega)]
      omega
  have hs70 : J 0 70 x ≤ 0 ↔ lg = [] := by
    rw [hJ.2.1, z_0, z_le (by have := hJ.1.2.2.1; omega) (by decide)]
    rw [Nat.le_zero, List.length_eq_zero_iff]
  have cw : gX10_goDown n x (nI r) I = if nI hh = nI 2 then (gX3_isIdle n x I).bind (fun q3 => if q3.1 = 0 then ((gX10_beginFlush n x q3.2).bind (fun q4 => some q4)) else (bX10_goDown_40 n x (nI r) x q3.2)) else bX10_goDown_40 n x (nI r) x I := by
    rw [gX10_goDown, bX10_goDown_0, c_wtd (n := n) hr hL hm hb hp, Option.bind_some]
    show (if nI 1 = (0 : Int32) then some I else am_gd (am_inb (nI r) 136) (if I x 49 (nI r).toNatClampNeg = nI 2 then _ else bX10_goDown_40 n x (nI r) x I)) = _
    rw [if_neg (show ¬ nI 1 = (0 : Int32) from by decide), z_inb (by omega), decide_eq_true hr, z_gdt, z_clamp (by omega), l1, H2]
  have rw1 : gX11_goDown n (nI x) (nI r) J = if nI hh = nI 2 then (if 0 < J 0 72 x then bX11_goDown_34 n (nI x) (nI (136 * x + r)) J else (if J 0 70 x ≤ 0 then bX11_goDown_56 n (nI x) (nI r) (nI (136 * x + r)) J else bX11_goDown_34 n (nI x) (nI (136 * x + r)) J)) else bX11_goDown_56 n (nI x) (nI r) (nI (136 * x + r)) J := by
    rw [gX11_goDown, bX11_goDown_0, gX11_at, bX11_at_0, Option.bind_some]
    show am_gd (am_inb (nI 136 * nI x + nI r) 544) (if J 0 76 (nI 136 * nI x + nI r).toNatClampNeg = nI 2 then am_gd (am_inb (nI x) 4) (if 0 < J 0 72 (nI x).toNatClampNeg then bX11_goDown_34 n (nI x) (nI 136 * nI x + nI r) J else am_gd (am_inb (nI x) 4) (if J 0 70 (nI x).toNatClampNeg ≤ 0 then bX11_goDown_56 n (nI x) (nI r) (nI 136 * nI x + nI r) J else bX11_goDown_34 n (nI x) (nI 136 * nI x + nI r) J)) else bX11_goDown_56 n (nI x) (nI r) (nI 136 * nI x + nI r) J) = _
    rw [pk_mul, nI_add, z_inb (by omega), decide_eq_true g1, z_gdt, z_clamp (by omega), H2, gn4, z_gdt, z_gdt, z_clamp (by omega)]
  by_cases hA : hh = 2 ∧ ¬ (lg = [] ∧ fb = [])
  · -- put off
    have hJ' : JNr x I (am_up J 0 80 (136 * x + r) (nI 1)) lg fb fq mk := jn_cg hJ rfl rfl rfl rfl (fun b _ => by rw [z_upj _ _ _ _ _ _ _ (by omega)]) (by rw [z_upj _ _ _ _ _ _ _ (by omega)]) (by rw [z_upj _ _ _ _ _ _ _ (by omega)]) (by rw [z_upj _ _ _ _ _ _ _ (by omega)]) (by rw [z_upj _ _ _ _ _ _ _ (by omega)]) (by rw [z_upj _ _ _ _ _ _ _ (by omega)]) (by rw [z_upj _ _ _ _ _ _ _ (by omega)])
    obtain ⟨I', J', lg', fb', fq', mk', c1, c2, c3⟩ := c_bfl (n := n) (t := t) (ed := ed) (by omega) k3 (by rw [z_upj _ _ _ _ _ _ _ (by omega)]; exact k4) k5 hJ' (fun b i hb hi => by
      rw [z_upj _ _ _ _ _ _ _ (by omega)]
      exact hC.2.2.1 b i (hJ.1.2.1 b hb) hi (hlc b hb))
    refine ⟨I', J', ?_, ?_, lg, fb, fq, mk, ms, m, M, hh, h0, hm, hb, H1, H2, M1, M2, Or.inl ⟨hA.1, hA.2, lg', fb', fq', mk', c3⟩⟩
    · rw [cw, if_pos (e76.mpr hA.1), c_idle (n := n) hJ, Option.bind_some, if_neg hA.2]
      show (if nI 0 = (0 : Int32) then (gX10_beginFlush n x I).bind _ else _) = _
      rw [if_pos (show nI 0 = (0 : Int32) from rfl), c1, Option.bind_some]
    · have tl : bX11_goDown_34 n (nI x) (nI (136 * x + r)) J = some J' := by
        rw [bX11_goDown_34, z_inb (by omega), decide_eq_true g1, z_gdt, am_lt, gn4, z_gdt, z_clamp (by omega), z_clamp (by omega), z_upj _ _ _ _ _ _ _ (by omega)]
        by_cases e : fb = []
        · have el : ¬ lg = [] := fun q => hA.2 ⟨q, e⟩
          rw [if_pos (show J 0 72 x = 0 from (jn_72z hJ).mpr e)]
          rw [if_pos ⟨e, el⟩] at c2
          rw [c2]
          rfl
        · rw [if_neg (show ¬ J 0 72 x = 0 from fun q => e ((jn_72z hJ).mp q))]
          rw [if_neg (fun q => e q.1)] at c2
          exact c2
      rw [rw1, if_pos (e76.mpr hA.1)]
      by_cases e : fb = []
      · have el : ¬ lg = [] := fun q => hA.2 ⟨q, e⟩
        rw [if_neg (fun q => (hs72.mp q) e), if_neg (fun q => el (hs70.mp q))]
        exact tl
      · rw [if_pos (hs72.mpr e)]
        exact tl
  · obtain ⟨I', J', c1, c2, c3⟩ := p_gdd (n := n) (T := T) (x := x) (r := r) (m := m) (M := M) hn hx hr hL hC hM k1 k2 M2 M1 hl hb hm hptr
    refine ⟨I', J', ?_, ?_, lg, fb, fq, mk, ms, m, M, hh, h0, hm, hb, H1, H2, M1, M2, Or.inr ⟨hA, c3⟩⟩
    · rw [cw]
      by_cases e : hh = 2
      · have hi : lg = [] ∧ fb = [] := Classical.not_not.mp (fun q => hA ⟨e, q⟩)
        rw [if_pos (e76.mpr e), c_idle (n := n) hJ, Option.bind_some, if_pos hi]
        exact (if_neg (show ¬ nI 1 = (0 : Int32) from by decide)).trans c1
      · rw [if_neg (fun q => e (e76.mp q))]
        exact c1
    · rw [rw1]
      by_cases e : hh = 2
      · have hi : lg = [] ∧ fb = [] := Classical.not_not.mp (fun q => hA ⟨e, q⟩)
        rw [if_pos (e76.mpr e), if_neg (fun q => hs72.mp q hi.2), if_pos (hs70.mpr hi.1)]
        exact c2
      · rw [if_neg (fun q => e (e76.mp q))]
        exact c2
/-- what waits already goes on waiting -/
theorem c_gdw (hx4 : x < 4) (hr : r < 136) (h : GBr n T x t ed I J lg fb fq mk ms) (hp : I x 52 r = nI 0) (hW : WT x J r) : gX10_goDown n x (nI r) I = some I := by
  obtain ⟨hL, hC, hJ, hM, hk, hl, hlc, hr8⟩ := h
  obtain ⟨-, -, hbk⟩ := hr8 r hr
  rcases hW with ⟨w1, w2⟩ | ⟨w1, w2, w3, w4⟩
  · exact c_gd0 (n := n) hr hL (Or.inl w1)
  · obtain ⟨m, m1, m2, m3⟩ := hbk.resolve_left w1
    have hfb : ¬ fb = [] := fun e => w4 ((jn_72z hJ).mpr e)
    rw [gX10_goDown, bX10_goDown_0, c_wtd (n := n) hr hL m1 m2 hp, Option.bind_some]
    show (if nI 1 = (0 : Int32) then some I else am_gd (am_inb (nI r) 136) (if I x 49 (nI r).toNatClampNeg = nI 2 then (gX3_isIdle n x I).bind (fun q3 => if q3.1 = 0 then ((gX10_beginFlush n x q3.2).bind (fun q4 => some q4)) else (bX10_goDown_40 n x (nI r) x q3.2)) else _)) = _
    rw [if_neg (show ¬ nI 1 = (0 : Int32) from by decide), z_inb (by omega), decide_eq_true hr, z_gdt, z_clamp (by omega), (hL r hr).1, w3, if_pos rfl, c_idle (n := n) hJ, Option.bind_some, if_neg (show ¬ (lg = [] ∧ fb = []) from fun q => hfb q.2)]
    show (if nI 0 = (0 : Int32) then (gX10_beginFlush n x I).bind _ else _) = _
    have h7 := hJ.2.2.2.2.2.2.1
    have h8 := hJ.2.2.2.2.2.2.2.1
    have hne : ¬ fb.length = 0 := fun q => hfb (List.length_eq_zero_iff.mp q)
    rw [if_pos (show nI 0 = (0 : Int32) from rfl), gX10_beginFlush, bX10_beginFlush_0, c_isfl (c := fb.length) h8 h7, Option.bind_some, if_neg hne]
    rfl
/-- what a step down leaves as it is -/
theorem gds_fr (hx4 : x < 4) (hr : r < 136) (h : GDs n T x r t ed I J I' J') : (∀ k, ¬ k = 136 * x + r → J' 0 76 k = J 0 76 k ∧ J' 0 78 k = J 0 78 k ∧ J' 0 80 k = J 0 80 k) ∧ J' 0 79 = J 0 79 ∧ I' x 52 = I x 52 ∧ I' x 53 = I x 53 ∧ I' x 48 = I x 48 ∧ (¬ J 0 72 x = nI 0 → ¬ J' 0 72 x = nI 0) ∧ WT x J' r ∧ J' 0 81 = J 0 81 ∧ J' 0 77 = J 0 77 ∧ I' x 54 = I x 54 := by
  obtain ⟨lg, fb, fq, mk, ms, m, M, hh, hG, hm, hb, H1, H2, M1, M2, hd⟩ := h
  rcases hd with ⟨e, hA, lg', fb', fq', mk', b1, b2, b3, b4⟩ | ⟨e, d1, d2, d3, d4, d5, d6, d7, d8, d9, d10⟩
  · have j : ∀ b, ¬ (69 ≤ b ∧ b ≤ 75) → ¬ b = 126 → ¬ b = 80 → J' 0 b = J 0 b := fun b q1 q2 q3 => by rw [b2.1 0 b (by omega), z_upj _ _ _ _ _ _ _ (by omega)]
    have j80 : ∀ k, J' 0 80 k = if k = 136 * x + r then nI 1 else J 0 80 k := fun k => by rw [b2.1 0 80 (by omega), z_upk]
    have hf : ¬ fb' = [] := by
      rcases b4 with ⟨e1, e2, e3, e4, -⟩ | ⟨e1, e2, e3, -⟩
      · rw [e4]; exact e2
      · rw [e3]
        rcases e1 with q | q
        · exact q
        · exact fun q2 => hA ⟨q, q2⟩
    have h72 : ¬ J' 0 72 x = nI 0 := fun q => hf ((jn_72z b1).mp q)
    refine ⟨fun k q => ⟨by rw [j 76 (by omega) (by omega) (by omega)], by rw [j 78 (by omega) (by omega) (by omega)], by rw [j80, if_neg q]⟩, j 79 (by omega) (by omega) (by omega), b3 x 52 (by omega), b3 x 53 (by omega), b3 x 48 (by omega), fun _ => h72, Or.inr ⟨?_, ?_, ?_, h72⟩, j 81 (by omega) (by omega) (by omega), j 77 (by omega) (by omega) (by omega), b3 x 54 (by omega)⟩
    · rw [j 78 (by omega) (by omega) (by omega), hb]
      exact z_m1n (by omega)
    · rw [j80, if_pos rfl]
    · rw [j 76 (by omega) (by omega) (by omega), H2, e]
  · refine ⟨d10.2.1, d10.1 0 79 (by omega), d9.1 x 52 (by omega) (by omega), d9.1 x 53 (by omega) (by omega), d9.1 x 48 (by omega) (by omega), fun q => by rw [d10.1 0 72 (by omega)]; exact q, Or.inl ⟨d5, d6⟩, d10.1 0 81 (by omega), d10.1 0 77 (by omega), d9.1 x 54 (by omega) (by omega)⟩
theorem wt_cg {r' : Nat} (h : WT x J r') (h1 : J' 0 76 (136 * x + r') = J 0 76 (136 * x + r')) (h2 : J' 0 78 (136 * x + r') = J 0 78 (136 * x + r')) (h3 : J' 0 80 (136 * x + r') = J 0 80 (136 * x + r')) (h4 : ¬ J 0 72 x = nI 0 → ¬ J' 0 72 x = nI 0) : WT x J' r' := by
  unfold WT
  rw [h1, h2, h3]
  exact h.imp id (fun q => ⟨q.1, q.2.1, q.2.2.1, h4 q.2.2.2⟩)
/-- the pins of the list go, and what was called back goes down: both sides -/
theorem un_lp {Q : am_I → am_I → Prop} (hn : n ≤ 4) (hx : x < n) (hQ : ∀ I J, Q I J → ∃ lg fb fq mk ms, GBr n T x t ed I J lg fb fq mk ms) (hst : ∀ I J I' J' r, Q I J → r < 136 → GDs n T x r t ed I J I' J' → Q I' J') (hQJ : ∀ I J k, Q I J → k < 136 → Q I (am_up J 0 79 (136 * x + k) (nI 0))) :
    ∀ (m k fu fuc j : Nat) (suf : List Nat) (I J : am_I), k + m = 136 → m < fu → suf.length < fuc → j + suf.length ≤ 136 → suf.Pairwise (· < ·) → (∀ c, c ∈ suf → k ≤ c ∧ c < 136) → I x 48 6 = nI (j + suf.length) → (∀ i c, suf[i]? = some c → I x 53 (j + i) = nI c) → (∀ c, k ≤ c → c < 136 → J 0 79 (136 * x + c) = nI 1 → c ∈ suf) → (∀ c, c < k → J 0 79 (136 * x + c) = nI 0 ∧ WT x J c) → (∀ c, k ≤ c → c < 136 → WP x J c) → (∀ c, c < 136 → I x 52 c = nI 0) → Q I J → ∃ I' J', bX10_unpinAll_35 n fuc x x (nI j) I = some I' ∧ bX11_unpin_2 n fu (nI x) (nI k) J = some J' ∧ Q I' J' ∧ (∀ c, c < 136 → J' 0 79 (136 * x + c) = nI 0 ∧ WT x J' c) ∧ I' x 52 = I x 52 ∧ I' x 53 = I x 53 ∧ I' x 48 = I x 48 ∧ I' x 54 = I x 54 ∧ J' 0 81 = J 0 81 ∧ (∀ k, ¬ (136 * x ≤ k ∧ k < 136 * x + 136) → J' 0 79 k = J 0 79 k) := by
  intro m
  induction m with
  | zero =>
    intro k fu fuc j suf I J hk hf hfc hj hs hsb h48 h53 hpin hlo hhi h52 hq
    obtain ⟨fu, rfl⟩ : ∃ f, fu = f + 1 := ⟨fu - 1, by omega⟩
    obtain ⟨fuc, rfl⟩ : ∃ f, fuc = f + 1 := ⟨fuc - 1, by omega⟩
    obtain rfl : suf = [] := by
      match suf, hsb with
      | [], _ => rfl
      | c :: suf, hsb => have := hsb c List.mem_cons_self; omega
    refine ⟨I, J, ?_, ?_, hq, fun c hc => hlo c (by omega), rfl, rfl, rfl, rfl, rfl, fun _ _ => rfl⟩
    · conv => lhs; unfold bX10_unpinAll_35
      dsimp only
      have : I x 48 6 ≤ nI j := by rw [h48, z_le (by simp at hj ⊢; omega) (by simp at hj; omega)]; simp
      rw [if_pos this]
    · conv => lhs; unfold bX11_unpin_2
      dsimp only
      rw [if_pos (by rw [z_le (by omega) (by omega)]; omega)]
  | succ m ih =>
    intro k fu fuc j suf I J hk hf hfc hj hs hsb h48 h53 hpin hlo hhi h52 hq
    obtain ⟨fu, rfl⟩ : ∃ f, fu = f + 1 := ⟨fu - 1, by omega⟩
    have hk6 : k < 136 := by omega
    have g1 : 136 * x + k < 544 := by omega
    obtain ⟨Ja, hJa⟩ : ∃ Ja, Ja = am_up J 0 79 (136 * x + k) (nI 0) := ⟨_, rfl⟩
    have hqa : Q I Ja := by rw [hJa]; exact hQJ I J k hq hk6
    have a79 : ∀ c, Ja 0 79 c = if c = 136 * x + k then nI 0 else J 0 79 c := fun c => by rw [hJa, z_upk]
    have ja : ∀ b, ¬ b = 79 → Ja 0 b = J 0 b := fun b q => by rw [hJa, z_upj _ _ _ _ _ _ _ (by omega)]
    -- the reference's step
    have rs : bX11_unpin_2 n (fu + 1) (nI x) (nI k) J = if J 0 79 (136 * x + k) = 0 then bX11_unpin_2 n fu (nI x) (nI (k + 1)) Ja else (if J 0 78 (136 * x + k) = (-1 : Int32) then bX11_unpin_2 n fu (nI x) (nI (k + 1)) Ja else (gX11_goDown n (nI x) (nI k) Ja).bind (fun q6 => bX11_unpin_2 n fu (nI x) (nI (k + 1)) q6)) := by
      conv => lhs; unfold bX11_unpin_2
      dsimp only
      rw [if_neg (by rw [z_le (by omega) (by omega)]; omega), gX11_at, bX11_at_0, Option.bind_some, pk_mul, nI_add]
      dsimp only
      rw [z_inb (by omega), decide_eq_true g1, z_gdt, z_gdt, z_clamp (by omega), am_lt, z_gdt]
      simp only [bX11_unpin_51, nI_add, ← hJa]
      rw [ja 78 (by omega)]
    -- the lists from here on
    have hrest : ∀ (I1 J1 : am_I) (suf1 : List Nat) (j1 fuc1 : Nat), suf1.length < fuc1 → j1 + suf1.length ≤ 136 → suf1.Pairwise (· < ·) → (∀ c, c ∈ suf1 → k + 1 ≤ c ∧ c < 136) → I1 x 48 6 = nI (j1 + suf1.length) → (∀ i c, suf1[i]? = some c → I1 x 53 (j1 + i) = nI c) → (∀ c, c ∈ suf → c = k ∨ c ∈ suf1) → (∀ c, ¬ c = k → J1 0 76 (136 * x + c) = J 0 76 (136 * x + c) ∧ J1 0 78 (136 * x + c) = J 0 78 (136 * x + c) ∧ J1 0 80 (136 * x + c) = J 0 80 (136 * x + c)) → J1 0 79 = Ja 0 79 → (¬ J 0 72 x = nI 0 → ¬ J1 0 72 x = nI 0) → WT x J1 k → I1 x 52 = I x 52 → I1 x 53 = I x 53 → I1 x 48 = I x 48 → I1 x 54 = I x 54 → J1 0 81 = J 0 81 → Q I1 J1 → ∃ I' J', bX10_unpinAll_35 n fuc1 x x (nI j1) I1 = some I' ∧ bX11_unpin_2 n fu (nI x) (nI (k + 1)) J1 = some J' ∧ Q I' J' ∧ (∀ c, c < 136 → J' 0 79 (136 * x + c) = nI 0 ∧ WT x J' c) ∧ I' x 52 = I x 52 ∧ I' x 53 = I x 53 ∧ I' x 48 = I x 48 ∧ I' x 54 = I x 54 ∧ J' 0 81 = J 0 81 ∧ (∀ k, ¬ (136 * x ≤ k ∧ k < 136 * x + 136) → J' 0 79 k = J 0 79 k) := by
      intro I1 J1 suf1 j1 fuc1 q1 q2 q3 q4 q5 q6 q7 q8 q9 q10 q11 q12 q13 q14 q15 q16 q17
      have p79 : ∀ c, ¬ c = 136 * x + k → J1 0 79 c = J 0 79 c := fun c hc => by rw [q9, a79, if_neg hc]
      obtain ⟨I', J', r1, r2, r3, r4, r5, r6, r7, r8, r9, r10⟩ := ih (k + 1) fu fuc1 j1 suf1 I1 J1 (by omega) (by omega) q1 q2 q3 q4 q5 q6 (fun c hc hc6 hp => by
        rw [p79 _ (by omega)] at hp
        exact (q7 c (hpin c (by omega) hc6 hp)).resolve_left (by omega)) (fun c hc => by
        by_cases e : c = k
        · subst e
          exact ⟨by rw [q9, a79, if_pos rfl], q11⟩
        · obtain ⟨w1, w2⟩ := hlo c (by omega)
          obtain ⟨v1, v2, v3⟩ := q8 c e
          exact ⟨by rw [p79 _ (by omega)]; exact w1, wt_cg w2 v1 v2 v3 q10⟩) (fun c hc hc6 => by
        obtain ⟨v1, v2, v3⟩ := q8 c (by omega)
        have := hhi c (by omega) hc6
        unfold WP at this ⊢
        rw [p79 _ (by omega), v3]
        exact this.imp id (fun q => ⟨q.1, wt_cg q.2 v1 v2 v3 q10⟩)) (by rw [q12]; exact h52) q17
      refine ⟨I', J', r1, r2, r3, r4, r5.trans q12, r6.trans q13, r7.trans q14, r8.trans q15, r9.trans q16, fun c hc => ?_⟩
      rw [r10 c hc, p79 c (by omega)]
    have a79k : Ja 0 79 (136 * x + k) = nI 0 := by rw [a79, if_pos rfl]
    obtain ⟨lg, fb, fq, mk, ms, hG⟩ := hQ I Ja hqa
    by_cases hks : k ∈ suf
    · -- it is in the list: the next one
      obtain ⟨suf1, rfl⟩ : ∃ s, suf = k :: s := by
        match suf, hs, hsb, hks with
        | c :: s, hs, hsb, hks =>
          rcases List.mem_cons.mp hks with e | e
          · exact ⟨s, by rw [e]⟩
          · have := (List.pairwise_cons.mp hs).1 k e
            have := (hsb c List.mem_cons_self).1
            omega
      obtain ⟨fuc, rfl⟩ : ∃ f, fuc = f + 1 := ⟨fuc - 1, by omega⟩
      rw [List.length_cons] at hfc hj h48
      have hs1 := List.pairwise_cons.mp hs
      obtain ⟨h53j, h53'⟩ := shf h53
      have cs : bX10_unpinAll_35 n (fuc + 1) x x (nI j) I = (gX10_goDown n x (nI k) I).bind (fun q2 => bX10_unpinAll_35 n fuc x x (nI (j + 1)) q2) := by
        conv => lhs; unfold bX10_unpinAll_35
        dsimp only
        rw [if_neg (by rw [h48, z_le (by omega) (by omega)]; omega), z_inb (by omega), decide_eq_true (by omega), z_gdt, z_clamp (by omega), h53j, nI_add]
      have fin := fun (I1 J1 : am_I) (e48 : I1 x 48 = I x 48) (e53 : I1 x 53 = I x 53) => hrest I1 J1 suf1 (j + 1) fuc (by omega) (by omega) hs1.2 (fun c hc => ⟨hs1.1 c hc, (hsb c (List.mem_cons_of_mem _ hc)).2⟩) (by rw [e48, h48]; exact congrArg nI (by omega)) (by rw [e53]; exact h53') (fun c hc => List.mem_cons.mp hc)
      by_cases hgo : J 0 79 (136 * x + k) = nI 1 ∧ ¬ J 0 78 (136 * x + k) = (-1 : Int32)
      · -- it goes down
        obtain ⟨m', m1, m2, m3⟩ := (hG.2.2.2.2.2.2.2 k hk6).2.2.resolve_left (by rw [ja 78 (by omega)]; exact hgo.2)
        obtain ⟨I1, J1, d1, d2, d3⟩ := p_gd (n := n) hn hx hk6 hG m1 m2 (h52 k hk6)
        obtain ⟨f1, f2, f3, f4, f5, f6, f7, f8, f9, f10⟩ := gds_fr (by omega) hk6 d3
        have z0 : ¬ J 0 79 (136 * x + k) = 0 := by rw [hgo.1]; decide
        rw [cs, rs, if_neg z0, if_neg hgo.2, d1, d2, Option.bind_some, Option.bind_some]
        exact fin I1 J1 f5 f4 (fun c hc => by rw [(f1 _ (by omega)).1, (f1 _ (by omega)).2.1, (f1 _ (by omega)).2.2, ja 76 (by omega), ja 78 (by omega), ja 80 (by omega)]; exact ⟨rfl, rfl, rfl⟩) f2 (fun q => f6 (by rw [ja 72 (by omega)]; exact q)) f7 f3 f4 f5 f10 (f8.trans (ja 81 (by omega))) (hst I Ja I1 J1 k hqa hk6 d3)
      · -- nothing happens
        have hW : WT x Ja k := by
          have := hhi k (Nat.le_refl _) hk6
          rcases this with ⟨w1, w2⟩ | ⟨w1, w2⟩
          · have w3 : J 0 78 (136 * x + k) = (-1 : Int32) := Classical.not_not.mp (fun q => hgo ⟨w1, q⟩)
            exact Or.inl ⟨by rw [ja 78 (by omega)]; exact w3, by rw [ja 80 (by omega)]; exact w2⟩
          · exact wt_cg w2 (by rw [ja 76 (by omega)]) (by rw [ja 78 (by omega)]) (by rw [ja 80 (by omega)]) (by rw [ja 72 (by omega)]; exact id)
        have hnb : bX11_unpin_2 n (fu + 1) (nI x) (nI k) J = bX11_unpin_2 n fu (nI x) (nI (k + 1)) Ja := by
          rw [rs]
          by_cases e : J 0 79 (136 * x + k) = 0
          · rw [if_pos e]
          · rw [if_neg e]
            have w1 : J 0 79 (136 * x + k) = nI 1 := by
              rcases hhi k (Nat.le_refl _) hk6 with ⟨w1, -⟩ | ⟨w1, -⟩
              · exact w1
              · exact absurd w1 e
            rw [if_pos (Classical.not_not.mp (fun q => hgo ⟨w1, q⟩))]
        rw [cs, hnb, c_gdw (n := n) (by omega) hk6 hG (h52 k hk6) hW, Option.bind_some]
        exact fin I Ja rfl rfl (fun c hc => by rw [ja 76 (by omega), ja 78 (by omega), ja 80 (by omega)]; exact ⟨rfl, rfl, rfl⟩) rfl (by rw [ja 72 (by omega)]; exact id) hW rfl rfl rfl rfl (ja 81 (by omega)) hqa
    · -- it isn't in the list
      have w : J 0 79 (136 * x + k) = nI 0 ∧ WT x J k := by
        rcases hhi k (Nat.le_refl _) hk6 with ⟨w1, -⟩ | w1
        · exact absurd (hpin k (Nat.le_refl _) hk6 w1) hks
        · exact w1
      rw [rs, if_pos (show J 0 79 (136 * x + k) = 0 from w.1)]
      exact hrest I Ja suf j fuc hfc hj hs (fun c hc => ⟨by
        have h1 := (hsb c hc).1
        have h2 : ¬ c = k := fun e => hks (e ▸ hc)
        omega, (hsb c hc).2⟩) h48 h53 (fun c hc => Or.inr hc) (fun c hc => by rw [ja 76 (by omega), ja 78 (by omega), ja 80 (by omega)]; exact ⟨rfl, rfl, rfl⟩) rfl (by rw [ja 72 (by omega)]; exact id) (wt_cg w.2 (by rw [ja 76 (by omega)]) (by rw [ja 78 (by omega)]) (by rw [ja 80 (by omega)]) (by rw [ja 72 (by omega)]; exact id)) rfl rfl rfl rfl (ja 81 (by omega)) hqa
end UNPIN
