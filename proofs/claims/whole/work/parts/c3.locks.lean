
section CT3
variable {n sz y r : Nat} {Y Y' : Nat → Nat → Nat → Prop} {W W' : Nat → Nat → wS} {D D' : wS} {K K' : Nat → Nat → Int} {U U' : Nat → Prop} {V V' : Nat → wS} {hs hs' : Nat → Nat → Prop} {L : Nat → Nat}
/-- a node goes down -/
theorem ct_down {m : Int} (h : CT n sz Y W D K U V hs) (hy : y < n) (hm2 : m < 2) (hmK : m ≤ K y r) (hidle : K y r = 2 → ∀ l b, l ≤ 2 → ¬ Y y l b)
    (hK : ∀ z r', ¬ (z = y ∧ r' = r) → K' z r' = K z r') (hK2 : K' y r = m) (hh : ∀ z, ¬ z = y → hs' z = hs z) (hhs : ∀ b, hs' y b → hs y b) (hdr : ∀ b, hs y b → ¬ hs' y b → m ≤ 0 ∧ ∀ L, L y = 2 → w_of (sF Y W D L n) b r)
    (hcl : m ≤ 0 → ∀ b, hs' y b → ∀ L, L y = 2 → ¬ w_of (sF Y W D L n) b r) (hV : ∀ z, ¬ z = y → V' z = V z) (hV2 : ∀ b i, (hs y b → hs' y b) → V' y b i = V y b i) : CT n sz Y W D K' U V' hs' := by
  obtain ⟨c1, c2, c3, c4, c5⟩ := h
  have hle : ∀ z r', K' z r' ≤ K z r' := fun z r' => by
    by_cases e : z = y ∧ r' = r
    · rw [e.1, e.2, hK2]; exact hmK
    · rw [hK z r' e]; exact Int.le_refl _
  have h22 : ∀ z r', K' z r' = 2 → K z r' = 2 := fun z r' q => by
    by_cases e : z = y ∧ r' = r
    · rw [e.1, e.2, hK2] at q; omega
    · rw [← hK z r' e]; exact q
  refine ⟨c1, fun L z l b hz hl hq hLz => ?_, fun r' z z' hz hz' hne q => Int.le_trans (hle z' r') (c3 r' z z' hz hz' hne (h22 z r' q)), fun z hz hU L hL => ?_, fun z b hz hq => ?_⟩
  · obtain ⟨r1, s1, s2⟩ := c2 L z l b hz hl hq hLz
    refine ⟨r1, s1, ?_⟩
    by_cases e : z = y ∧ r1 = r
    · obtain ⟨rfl, rfl⟩ := e
      exact absurd hq (hidle s2 l b hl)
    · rw [hK z r1 e]; exact s2
  · obtain ⟨d1, d2⟩ := c4 z hz hU L hL
    by_cases e : z = y
    · subst e
      have hdn : ∀ b r', w_of (sF Y W D L n) b r' → 0 < K' z r' → hs z b → hs' z b := fun b r' ho hk hb => Classical.byContradiction (fun q => by
        obtain ⟨q1, q2⟩ := hdr b hb q
        have := of_eq (c1 L).1 ho (q2 L hL)
        rw [this, hK2] at hk
        omega)
      refine ⟨fun b r' ho hk i hi => ?_, fun b hb => ?_⟩
      · rw [hV2 b i (hdn b r' ho hk)]
        exact d1 b r' ho (by have := hle z r'; omega) i hi
      · obtain ⟨r1, s1, s2, s3⟩ := d2 b (hhs b hb)
        have hk : 0 < K' z r1 := by
          by_cases c : r1 = r
          · rw [c, hK2]
            rcases Int.lt_or_le 0 m with q | q
            · exact q
            · exact absurd (c ▸ s1) (hcl q b hb L hL)
          · rw [hK z r1 (fun q => c q.2)]; exact s2
        refine ⟨r1, s1, hk, fun p hp => ?_⟩
        obtain ⟨u1, u2⟩ := s3 p hp
        refine ⟨hdn _ r1 (of_ib hp.1) hk u1, fun h8 h24 => ?_⟩
        obtain ⟨x, x1, x2, x3⟩ := ix_of (c1 L).1.1.1 hp h8 h24
        have := u2 h8 h24
        rw [x1, nI_clamp (w_Dlt x2)] at this ⊢
        exact hdn x r1 (of_own x3) hk this
    · rw [hV z e, hh z e]
      refine ⟨fun b r' ho hk i hi => d1 b r' ho (by have := hle z r'; omega) i hi, fun b hb => ?_⟩
      obtain ⟨r1, s1, s2, s3⟩ := d2 b hb
      exact ⟨r1, s1, by rw [hK z r1 (fun q => e q.1)]; exact s2, s3⟩
  · obtain ⟨q1, q2⟩ := c5 z b hz hq
    refine ⟨q1, ?_⟩
    by_cases e : z = y
    · subst e
      refine Classical.byContradiction (fun q => ?_)
      obtain ⟨-, q3⟩ := hdr b q2 q
      obtain ⟨r1, s1, s2⟩ := c2 (fun _ => 2) z 2 b hz (Nat.le_refl _) hq rfl
      rw [of_eq (c1 _).1 s1 (q3 _ rfl)] at s2
      exact hidle s2 2 b (Nat.le_refl _) hq
    · rw [hh z e]; exact q2
/-- a lock is granted -/
theorem ct_grant {v : Int} (h : CT n sz Y W D K U V hs) (hy : y < n) (hv : K y r ≤ v) (hv2 : v ≤ 2) (hoth : ∀ z, z < n → ¬ z = y → ¬ K z r = 2 ∧ (v = 2 → K z r ≤ 0))
    (hK : ∀ z r', ¬ (z = y ∧ r' = r) → K' z r' = K z r') (hK2 : K' y r = v) (hVD : ∀ b i, b < 640 → i < 16 → ¬ hs y b → V y b i = D b i) : CT n sz Y W D K' U V hs := by
  obtain ⟨c1, c2, c3, c4, c5⟩ := h
  have hge : ∀ z r', K z r' ≤ K' z r' := fun z r' => by
    by_cases e : z = y ∧ r' = r
    · rw [e.1, e.2, hK2]; exact hv
    · rw [hK z r' e]; exact Int.le_refl _
  refine ⟨c1, fun L z l b hz hl hq hLz => ?_, fun r' z z' hz hz' hne q => ?_, fun z hz hU L hL => ?_, c5⟩
  · obtain ⟨r1, s1, s2⟩ := c2 L z l b hz hl hq hLz
    refine ⟨r1, s1, ?_⟩
    by_cases e : z = y ∧ r1 = r
    · rw [e.1, e.2, hK2]
      rw [e.1, e.2] at s2
      omega
    · rw [hK z r1 e]; exact s2
  · by_cases e : r' = r
    · subst e
      by_cases c : z = y
      · subst c
        rw [hK2] at q
        rw [hK z' r' (fun q => hne q.1.symm)]
        exact (hoth z' hz' (fun e => hne e.symm)).2 q
      · rw [hK z r' (fun q => c q.1)] at q
        exact absurd q (hoth z hz c).1
    · rw [hK z r' (fun q => e q.2)] at q
      rw [hK z' r' (fun q => e q.2)]
      exact c3 r' z z' hz hz' hne q
  · obtain ⟨d1, d2⟩ := c4 z hz hU L hL
    refine ⟨fun b r' ho hk i hi => ?_, fun b hb => ?_⟩
    · rcases Int.lt_or_le 0 (K z r') with q | q
      · exact d1 b r' ho q i hi
      · by_cases e : z = y ∧ r' = r
        · obtain ⟨rfl, rfl⟩ := e
          have hnc : ¬ hs z b := fun hb => by
            obtain ⟨r1, s1, s2, -⟩ := d2 b hb
            rw [of_eq (c1 L).1 ho s1] at q
            omega
          rw [hVD b i (of_lt ho) hi hnc, sF_no n (fun z' hz' => ?_) i]
          refine ce_no c2 (fun L => (c1 L).1) hz' ?_ ho
          by_cases e : z' = z
          · rw [e]; omega
          · exact (hoth z' hz' e).1
        · rw [hK z r' e] at hk; omega
    · obtain ⟨r1, s1, s2, s3⟩ := d2 b hb
      exact ⟨r1, s1, by have := hge z r1; omega, s3⟩
/-- a node has read -/
theorem ct_read (h : CT n sz Y W D K U V hs) (hV : ∀ z b i, b < 640 → i < 16 → V' z b i = V z b i) (hh : ∀ z, ¬ z = y → hs' z = hs z) (h2 : ∀ b, Y y 2 b → hs' y b) (hc : ∀ L, L y = 2 → ∀ b, hs' y b → ∃ r, w_of (sF Y W D L n) b r ∧ 0 < K y r ∧ t_in (sF Y W D L n) (hs' y) b r) : CT n sz Y W D K U V' hs' := by
  obtain ⟨c1, c2, c3, c4, c5⟩ := h
  refine ⟨c1, c2, c3, fun z hz hU L hL => ?_, fun z b hz hq => ?_⟩
  · obtain ⟨d1, d2⟩ := c4 z hz hU L hL
    refine ⟨fun b r ho hk i hi => by rw [hV z b i (of_lt ho) hi]; exact d1 b r ho hk i hi, ?_⟩
    by_cases e : z = y
    · subst e; exact hc L hL
    · rw [hh z e]; exact d2
  · obtain ⟨q1, q2⟩ := c5 z b hz hq
    refine ⟨q1, ?_⟩
    by_cases e : z = y
    · subst e; exact h2 b hq
    · rw [hh z e]; exact q2
/-- a dead node that has nothing left: its locks go -/
theorem ct_dead (h : CT n sz Y W D K U V hs) (hU : ¬ U y) (h0 : ∀ l b, l ≤ 2 → ¬ Y y l b) (hK : ∀ z r, ¬ z = y → K' z r = K z r) (hK2 : ∀ r, K' y r = 0) : CT n sz Y W D K' U V hs := by
  obtain ⟨c1, c2, c3, c4, c5⟩ := h
  refine ⟨c1, fun L z l b hz hl hq hLz => ?_, fun r z z' hz hz' hne q => ?_, fun z hz hUz L hL => ?_, c5⟩
  · have e : ¬ z = y := fun e => h0 l b hl (e ▸ hq)
    obtain ⟨r1, s1, s2⟩ := c2 L z l b hz hl hq hLz
    exact ⟨r1, s1, by rw [hK z r1 e]; exact s2⟩
  · have e : ¬ z = y := fun e => by rw [e, hK2] at q; omega
    rw [hK z r e] at q
    by_cases c : z' = y
    · rw [c, hK2]; exact Int.le_refl _
    · rw [hK z' r c]
      exact c3 r z z' hz hz' hne q
  · have e : ¬ z = y := fun e => hU (e ▸ hUz)
    obtain ⟨d1, d2⟩ := c4 z hz hUz L hL
    refine ⟨fun b r ho hk i hi => d1 b r ho (by rw [← hK z r e]; exact hk) i hi, fun b hb => ?_⟩
    obtain ⟨r1, s1, s2, s3⟩ := d2 b hb
    exact ⟨r1, s1, by rw [hK z r1 e]; exact s2, s3⟩
/-- a node joins, with nothing -/
theorem ct_join (h : CT n sz Y W D K U V hs) (hU : ∀ z, U' z → U z ∨ z = y) (hU2 : ∀ z, U z → U' z) (hK : ∀ r, K y r ≤ 0) (hh : ∀ z, ¬ z = y → hs' z = hs z) (h0 : ∀ b, ¬ hs' y b) (hY : ∀ b, ¬ Y y 2 b) (hV : ∀ z, ¬ z = y → V' z = V z) : CT n sz Y W D K U' V' hs' := by
  obtain ⟨c1, c2, c3, c4, c5⟩ := h
  refine ⟨c1, c2, c3, fun z hz hUz L hL => ?_, fun z b hz hq => ?_⟩
  · by_cases e : z = y
    · subst e
      exact ⟨fun b r ho hk => absurd (hK r) (by omega), fun b hb => absurd hb (h0 b)⟩
    · rw [hh z e, hV z e]
      exact c4 z hz ((hU z hUz).resolve_right e) L hL
  · have e : ¬ z = y := fun e => hY b (e ▸ hq)
    obtain ⟨q1, q2⟩ := c5 z b hz hq
    rw [hh z e]
    exact ⟨hU2 z q1, q2⟩
/-- words that nobody looks at -/
theorem ct_cg (h : CT n sz Y W D K U V hs) (hY : ∀ z l b, z < n → l ≤ 2 → (Y' z l b ↔ Y z l b)) (hW : ∀ z l b i, z < n → l ≤ 2 → Y z l b → i < 16 → W' z l b i = W z l b i) (hD : ∀ b i, 128 ≤ b → b < 640 → i < 16 → D' b i = D b i) (hU : ∀ z, z < n → (U' z ↔ U z)) (hV : ∀ z b i, z < n → U z → 128 ≤ b → b < 640 → i < 16 → V' z b i = V z b i) (hh : ∀ z, z < n → U z → hs' z = hs z) : CT n sz Y' W' D' K U' V' hs' := by
  refine ct_lev (tau := fun L => L) h (fun L b r i ho hi => ?_) (fun L z hz _ hL => hL) (fun L z b hz hl hq => ⟨hl, (hY z _ b hz hl).mp hq⟩) (fun z hz q => (hU z hz).mp q) (fun z hz q L _ b r i ho _ hi => hV z b i hz ((hU z hz).mp q) (of_pos ho) (of_lt ho) hi) (fun z hz q => hh z hz ((hU z hz).mp q)) (fun z b hz hq => ?_)
  · refine sF_cg n (fun z hz => ?_) (fun _ => hD b i (of_pos ho) (of_lt ho) hi)
    have e2 := hY z 2 b hz (by decide)
    have e1 := hY z 1 b hz (by decide)
    have e0 := hY z 0 b hz (by decide)
    refine ⟨?_, fun q => ?_⟩
    · unfold nd
      rw [e2, e1, e0]
    · unfold lw
      by_cases c2 : 2 ≤ L z ∧ Y z 2 b
      · rw [cif_pos (p := 2 ≤ L z ∧ Y' z 2 b) ⟨c2.1, e2.mpr c2.2⟩, cif_pos c2, hW z 2 b i hz (by decide) c2.2 hi]
      · rw [cif_neg (p := 2 ≤ L z ∧ Y' z 2 b) (fun q => c2 ⟨q.1, e2.mp q.2⟩), cif_neg c2]
        by_cases c1 : 1 ≤ L z ∧ Y z 1 b
        · rw [cif_pos (p := 1 ≤ L z ∧ Y' z 1 b) ⟨c1.1, e1.mpr c1.2⟩, cif_pos c1, hW z 1 b i hz (by decide) c1.2 hi]
        · rw [cif_neg (p := 1 ≤ L z ∧ Y' z 1 b) (fun q => c1 ⟨q.1, e1.mp q.2⟩), cif_neg c1]
          rcases q with q | q | q
          · exact absurd ⟨q.1, e2.mp q.2⟩ c2
          · exact absurd ⟨q.1, e1.mp q.2⟩ c1
          · exact hW z 0 b i hz (by decide) (e0.mp q) hi
  · have q := (hY z 2 b hz (by decide)).mp hq
    exact ⟨(hU z hz).mpr (h.2.2.2.2 z b hz q).1, q⟩
end CT3
