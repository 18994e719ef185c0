
section TOK2
variable {n T : Nat} {U : Nat → Int32} {mr : Nat → Nat} {ms ms' l1 l2 : List (Nat → Nat)} {rw : Nat → List (Nat × Nat)} {gv cl H A B : Nat → Nat → Nat} {m : Nat → Nat}
theorem agt_lt {g m : Nat} (h : agt g m = true) : flr m < g := by
  unfold agt at h
  unfold flr
  by_cases em : m = 2
  · rw [if_pos em] at h ⊢; exact of_decide_eq_true h
  · rw [if_neg em] at h ⊢
    have := of_decide_eq_true h
    omega
theorem flr_le {m : Nat} : flr m ≤ 1 := by unfold flr; split <;> omega
/-- a call back comes -/
theorem pl_bk (h : PL n U mr (l1 ++ m :: l2) rw gv cl H A B) (hk : m 2 = 2) (hf : ∀ a, a ∈ l1 → ¬ (a 0 = m 0 ∧ a 1 = m 1)) : PL n U mr (l1 ++ l2) rw gv cl H A (up2 B (m 1) (m 3) (m 4 + 1)) ∧ B (m 1) (m 3) = 0 ∧ m 4 < H (m 1) (m 3) ∧ m 4 ≤ 1 ∧ m 0 = mr (m 3) ∧ ¬ gr (l1 ++ l2) (m 1) (m 3) := by
  have h' := h
  obtain ⟨h1, h2, h3, h4, h5, h6, h7, h8⟩ := h
  have hi : Ins (l1 ++ m :: l2) (l1 ++ l2) m := ins_rem
  have hm : m ∈ l1 ++ m :: l2 := (hi.1 m).mpr (Or.inr rfl)
  obtain ⟨-, m0, m1, u0, u1, m3, q⟩ := h1 m hm
  obtain ⟨-, q1, q2⟩ : m 2 = 2 ∧ m 0 = mr (m 3) ∧ m 4 + 1 = cl (m 3) (m 1) := by
    rcases q with q | q | q | q
    · omega
    · omega
    · exact q
    · omega
  have uM := (pl_mU h' hm).1
  have ng : ¬ gr (l1 ++ m :: l2) (m 1) (m 3) := by
    rintro ⟨a, a1, a2, a3, a4⟩
    have ea : a 0 = m 0 := by
      obtain ⟨-, -, -, -, -, -, q⟩ := h1 a a1
      rcases q with q | q | q | q
      · omega
      · rw [q.2.1, a4, q1]
      · omega
      · omega
    rw [List.pairwise_append, List.pairwise_cons] at h8
    rcases List.mem_append.mp a1 with c | c
    · exact hf a c ⟨ea, a3⟩
    · rcases List.mem_cons.mp c with c | c
      · rw [c] at a2; omega
      · exact (h8.2.1.1 a c).2 ⟨hk, a2, a3.symm, a4.symm⟩
  have eg : ∀ y s, gr (l1 ++ m :: l2) y s ↔ gr (l1 ++ l2) y s := fun y s => (gr_ins hi).trans ⟨fun q => q.elim id (fun q => by omega), Or.inl⟩
  have el : ∀ y s, rl (l1 ++ m :: l2) y s ↔ rl (l1 ++ l2) y s := fun y s => (rl_ins hi).trans ⟨fun q => q.elim id (fun q => by omega), Or.inl⟩
  obtain ⟨k1, k2, k3, k4⟩ := h3 (m 1) (m 3) m1 m3 u1 uM
  have tm : tB (m 1) (m 3) m = true := tB_0.mpr ⟨rfl, Or.inl ⟨hk, rfl⟩⟩
  rw [hi.2, if_pos tm] at k1
  have c1 := nz1_le (a := cl (m 3) (m 1))
  have c2 : (l1 ++ l2).countP (tB (m 1) (m 3)) = 0 := by omega
  have c3 : B (m 1) (m 3) = 0 := nz1_z (by omega)
  have nr : ¬ rl (l1 ++ m :: l2) (m 1) (m 3) := by
    rw [el]
    rintro ⟨a, a1, a2, a3, a4⟩
    have := cnt_p (p := tB (m 1) (m 3)) a1 (tB_0.mpr ⟨a4, Or.inr ⟨a2, a3⟩⟩)
    omega
  obtain ⟨z, md, rest, e1, e2, e3, e4⟩ := k4 (by omega)
  have hv := (h4 (m 1) (m 3) m1 m3 u1 uM).2.2 nr ng
  have hl := agt_lt e3
  have hf1 := flr_le (m := md)
  have oB : ∀ y s, ¬ (y = m 1 ∧ s = m 3) → up2 B (m 1) (m 3) (m 4 + 1) y s = B y s := fun y s q => if_neg q
  refine ⟨⟨fun a ha => h1 a ((hi.1 a).mpr (Or.inl ha)), fun y s hy hs hUy hUs => ?_, fun y s hy hs hUy hUs => ?_, fun y s hy hs hUy hUs => ?_, h5, h6, h7, po_rem h8⟩, c3, by omega, by omega, q1, fun q => ng ((eg _ _).mpr q)⟩
  · obtain ⟨g1, g2⟩ := h2 y s hy hs hUy hUs
    rw [hi.2, if_neg (fun q => by rcases (tA_0.mp q).2 with q2 | q2 <;> omega)] at g1
    exact ⟨g1, g2⟩
  · obtain ⟨g1, g2, g3, g4⟩ := h3 y s hy hs hUy hUs
    rw [eg, el] at g3
    rw [eg] at g2
    by_cases e : y = m 1 ∧ s = m 3
    · rw [e.1, e.2, up2_a, c2, nz1_p (by omega), nz1_p (by omega)]
      exact ⟨rfl, fun _ => ⟨q2, fun q => ng ((eg _ _).mpr q)⟩, fun _ q => ng ((eg _ _).mpr q), k4⟩
    · rw [oB y s e]
      rw [hi.2, if_neg (fun q => e (by
        obtain ⟨p1, p2⟩ := tB_0.mp q
        rcases p2 with p2 | p2
        · exact ⟨p2.2.symm, p1.symm⟩
        · omega))] at g1
      exact ⟨g1, g2, g3, g4⟩
  · obtain ⟨g1, g2, g3⟩ := h4 y s hy hs hUy hUs
    rw [eg, el] at g2 g3
    exact ⟨g1, g2, g3⟩
/-- a grant comes -/
theorem pl_gt (h : PL n U mr (l1 ++ m :: l2) rw gv cl H A B) (hk : m 2 = 1) : PL n U mr (l1 ++ l2) rw gv cl (up2 H (m 1) (m 3) (max (H (m 1) (m 3)) (m 4))) (up2 A (m 1) (m 3) 0) B ∧ m 4 = A (m 1) (m 3) ∧ ¬ A (m 1) (m 3) = 0 ∧ gv (m 3) (m 1) = max (H (m 1) (m 3)) (m 4) ∧ B (m 1) (m 3) = 0 := by
  have h' := h
  obtain ⟨h1, h2, h3, h4, h5, h6, h7, h8⟩ := h
  have hi : Ins (l1 ++ m :: l2) (l1 ++ l2) m := ins_rem
  have hm : m ∈ l1 ++ m :: l2 := (hi.1 m).mpr (Or.inr rfl)
  obtain ⟨-, m0, m1, u0, u1, m3, q⟩ := h1 m hm
  obtain ⟨-, q1, q2⟩ : m 2 = 1 ∧ m 0 = mr (m 3) ∧ m 4 = A (m 1) (m 3) := by
    rcases q with q | q | q | q
    · omega
    · exact q
    · omega
    · omega
  have uM := (pl_mU h' hm).1
  have hg : gr (l1 ++ m :: l2) (m 1) (m 3) := ⟨m, hm, hk, rfl, rfl⟩
  have el : ∀ y s, rl (l1 ++ m :: l2) y s ↔ rl (l1 ++ l2) y s := fun y s => (rl_ins hi).trans ⟨fun q => q.elim id (fun q => by omega), Or.inl⟩
  have eg : ∀ y s, ¬ (y = m 1 ∧ s = m 3) → (gr (l1 ++ m :: l2) y s ↔ gr (l1 ++ l2) y s) := fun y s e => (gr_ins hi).trans ⟨fun q => q.elim id (fun q => absurd ⟨q.2.1.symm, q.2.2.symm⟩ e), Or.inl⟩
  obtain ⟨k1, k2⟩ := h2 (m 1) (m 3) m1 m3 u1 uM
  obtain ⟨b1, b2, b3, b4⟩ := h3 (m 1) (m 3) m1 m3 u1 uM
  have tm : tA (m 1) (m 3) m = true := tA_0.mpr ⟨rfl, Or.inr ⟨hk, rfl⟩⟩
  rw [hi.2, if_pos tm] at k1
  have c1 := nz1_le (a := A (m 1) (m 3))
  have c2 : (l1 ++ l2).countP (tA (m 1) (m 3)) = 0 := by omega
  have c3 : rwc (rw (m 3)) (m 1) = 0 := by omega
  have c4 : ¬ A (m 1) (m 3) = 0 := nz1_1 (by omega)
  have hB : B (m 1) (m 3) = 0 := Classical.byContradiction fun q => (b2 q).2 hg
  have nr : ¬ rl (l1 ++ m :: l2) (m 1) (m 3) := fun q => b3 q hg
  have ng : ¬ gr (l1 ++ l2) (m 1) (m 3) := by
    rintro ⟨a, a1, a2, a3, a4⟩
    have := cnt_p (p := tA (m 1) (m 3)) a1 (tA_0.mpr ⟨a4, Or.inr ⟨a2, a3⟩⟩)
    omega
  have hv := (h4 (m 1) (m 3) m1 m3 u1 uM).2.1 nr hg
  rw [← q2] at hv
  have oA : ∀ y s, ¬ (y = m 1 ∧ s = m 3) → up2 A (m 1) (m 3) 0 y s = A y s := fun y s q => if_neg q
  have oH : ∀ y s, ¬ (y = m 1 ∧ s = m 3) → up2 H (m 1) (m 3) (max (H (m 1) (m 3)) (m 4)) y s = H y s := fun y s q => if_neg q
  have nzA : ∀ y s, ¬ up2 A (m 1) (m 3) 0 y s = 0 → ¬ A y s = 0 := fun y s q => by
    by_cases e : y = m 1 ∧ s = m 3
    · rw [e.1, e.2, up2_a] at q; exact absurd rfl q
    · rw [oA y s e] at q; exact q
  refine ⟨⟨fun a ha => ?_, fun y s hy hs hUy hUs => ?_, fun y s hy hs hUy hUs => ?_, fun y s hy hs hUy hUs => ?_, ⟨h5.1, h5.2.1, fun y s s' hy hs hs' hUy q q' => h5.2.2.1 y s s' hy hs hs' hUy (nzA _ _ q) (nzA _ _ q'), h5.2.2.2.1, fun y s hy hs => ?_⟩, h6, h7, po_rem h8⟩, q2, c4, hv, hB⟩
  · obtain ⟨b1, b2, b3, b4, b5, b6, q⟩ := h1 a ((hi.1 a).mpr (Or.inl ha))
    refine ⟨b1, b2, b3, b4, b5, b6, ?_⟩
    rcases q with q | q | q | q
    · rw [oA (a 0) (a 3) (fun e => by
        have := cnt_p (p := tA (m 1) (m 3)) ha (tA_0.mpr ⟨e.2, Or.inl ⟨q.1, e.1⟩⟩)
        omega)]
      exact Or.inl q
    · rw [oA (a 1) (a 3) (fun e => by
        have := cnt_p (p := tA (m 1) (m 3)) ha (tA_0.mpr ⟨e.2, Or.inr ⟨q.1, e.1⟩⟩)
        omega)]
      exact Or.inr (Or.inl q)
    · exact Or.inr (Or.inr (Or.inl q))
    · rw [oH (a 0) (a 3) (fun e => nr ⟨a, (hi.1 a).mpr (Or.inl ha), q.1, e.1, e.2⟩)]
      exact Or.inr (Or.inr (Or.inr q))
  · obtain ⟨g1, g2⟩ := h2 y s hy hs hUy hUs
    by_cases e : y = m 1 ∧ s = m 3
    · rw [e.1, e.2, up2_a, c2, c3]
      exact ⟨rfl, fun k hk => (rwc_0 c3 hk).elim⟩
    · rw [oA y s e]
      rw [hi.2, if_neg (fun q => e (by
        obtain ⟨p1, p2⟩ := tA_0.mp q
        rcases p2 with p2 | p2
        · omega
        · exact ⟨p2.2.symm, p1.symm⟩))] at g1
      exact ⟨g1, g2⟩
  · obtain ⟨g1, g2, g3, g4⟩ := h3 y s hy hs hUy hUs
    rw [hi.2, if_neg (fun q => by rcases (tB_0.mp q).2 with q2 | q2 <;> omega)] at g1
    refine ⟨g1, fun q => ⟨(g2 q).1, fun q2 => (g2 q).2 ((gr_ins hi).mpr (Or.inl q2))⟩, fun q q2 => g3 ((el y s).mpr q) ((gr_ins hi).mpr (Or.inl q2)), g4⟩
  · obtain ⟨g1, g2, g3⟩ := h4 y s hy hs hUy hUs
    by_cases e : y = m 1 ∧ s = m 3
    · rw [e.1, e.2, up2_a, up2_a]
      exact ⟨by omega, fun _ q => absurd q ng, fun _ _ => hv⟩
    · rw [oA y s e, oH y s e]
      rw [eg y s e, el] at g2 g3
      exact ⟨g1, g2, g3⟩
  · by_cases e : y = m 1 ∧ s = m 3
    · rw [e.1, e.2, up2_a]; omega
    · rw [oA y s e]; exact h5.2.2.2.2 y s hy hs
/-- a release comes -/
theorem pl_rl (h : PL n U mr (l1 ++ m :: l2) rw gv cl H A B) (hk : m 2 = 3) : PL n U mr (l1 ++ l2) rw (up2 gv (m 3) (m 0) (m 4)) (up2 cl (m 3) (m 0) 0) H A B ∧ m 4 = H (m 0) (m 3) ∧ m 4 ≤ 1 ∧ m 1 = mr (m 3) := by
  have h' := h
  obtain ⟨h1, h2, h3, h4, h5, h6, h7, h8⟩ := h
  have hi : Ins (l1 ++ m :: l2) (l1 ++ l2) m := ins_rem
  have hm : m ∈ l1 ++ m :: l2 := (hi.1 m).mpr (Or.inr rfl)
  obtain ⟨-, m0, m1, u0, u1, m3, q⟩ := h1 m hm
  obtain ⟨-, q1, q2, q3⟩ : m 2 = 3 ∧ m 1 = mr (m 3) ∧ m 4 + 1 = cl (m 3) (m 0) ∧ m 4 = H (m 0) (m 3) := by
    rcases q with q | q | q | q
    · omega
    · omega
    · omega
    · exact q
  have uM := (pl_mU h' hm).1
  have hr : rl (l1 ++ m :: l2) (m 0) (m 3) := ⟨m, hm, hk, rfl, rfl⟩
  have eg : ∀ y s, gr (l1 ++ m :: l2) y s ↔ gr (l1 ++ l2) y s := fun y s => (gr_ins hi).trans ⟨fun q => q.elim id (fun q => by omega), Or.inl⟩
  have el : ∀ y s, ¬ (y = m 0 ∧ s = m 3) → (rl (l1 ++ m :: l2) y s ↔ rl (l1 ++ l2) y s) := fun y s e => (rl_ins hi).trans ⟨fun q => q.elim id (fun q => absurd ⟨q.2.1.symm, q.2.2.symm⟩ e), Or.inl⟩
  obtain ⟨b1, b2, b3, b4⟩ := h3 (m 0) (m 3) m0 m3 u0 uM
  have tm : tB (m 0) (m 3) m = true := tB_0.mpr ⟨rfl, Or.inr ⟨hk, rfl⟩⟩
  rw [hi.2, if_pos tm] at b1
  have c1 := nz1_le (a := cl (m 3) (m 0))
  have c2 : (l1 ++ l2).countP (tB (m 0) (m 3)) = 0 := by omega
  have c3 : B (m 0) (m 3) = 0 := nz1_z (by omega)
  have ng : ¬ gr (l1 ++ m :: l2) (m 0) (m 3) := b3 hr
  have nr : ¬ rl (l1 ++ l2) (m 0) (m 3) := by
    rintro ⟨a, a1, a2, a3, a4⟩
    have := cnt_p (p := tB (m 0) (m 3)) a1 (tB_0.mpr ⟨a4, Or.inr ⟨a2, a3⟩⟩)
    omega
  obtain ⟨z, md, rest, e1, e2, e3, e4⟩ := b4 (by omega)
  have hl := agt_lt e3
  have hf1 := flr_le (m := md)
  have ocl : ∀ s y, ¬ (s = m 3 ∧ y = m 0) → up2 cl (m 3) (m 0) 0 s y = cl s y := fun s y q => if_neg q
  have ogv : ∀ s y, ¬ (s = m 3 ∧ y = m 0) → up2 gv (m 3) (m 0) (m 4) s y = gv s y := fun s y q => if_neg q
  refine ⟨⟨fun a ha => ?_, fun y s hy hs hUy hUs => ?_, fun y s hy hs hUy hUs => ?_, fun y s hy hs hUy hUs => ?_, h5, fun s y y' hs hy hy' hne q => ?_, fun s hs hUs => ?_, po_rem h8⟩, q3, by omega, q1⟩
  · obtain ⟨b1, b2, b3, b4, b5, b6, q⟩ := h1 a ((hi.1 a).mpr (Or.inl ha))
    refine ⟨b1, b2, b3, b4, b5, b6, ?_⟩
    rcases q with q | q | q | q
    · exact Or.inl q
    · exact Or.inr (Or.inl q)
    · rw [ocl (a 3) (a 1) (fun e => by
        have := cnt_p (p := tB (m 0) (m 3)) ha (tB_0.mpr ⟨e.1, Or.inl ⟨q.1, e.2⟩⟩)
        omega)]
      exact Or.inr (Or.inr (Or.inl q))
    · rw [ocl (a 3) (a 0) (fun e => by
        have := cnt_p (p := tB (m 0) (m 3)) ha (tB_0.mpr ⟨e.1, Or.inr ⟨q.1, e.2⟩⟩)
        omega)]
      exact Or.inr (Or.inr (Or.inr q))
  · obtain ⟨g1, g2⟩ := h2 y s hy hs hUy hUs
    rw [hi.2, if_neg (fun q => by rcases (tA_0.mp q).2 with q2 | q2 <;> omega)] at g1
    exact ⟨g1, g2⟩
  · obtain ⟨g1, g2, g3, g4⟩ := h3 y s hy hs hUy hUs
    by_cases e : y = m 0 ∧ s = m 3
    · rw [e.1, e.2, up2_a, c2, c3]
      exact ⟨rfl, fun q => absurd rfl q, fun q => absurd q nr, fun q => absurd rfl q⟩
    · have e' : ¬ (s = m 3 ∧ y = m 0) := fun q => e ⟨q.2, q.1⟩
      rw [ocl s y e', ogv s y e']
      rw [eg, el y s e] at g3
      rw [eg] at g2
      rw [hi.2, if_neg (fun q => e (by
        obtain ⟨p1, p2⟩ := tB_0.mp q
        rcases p2 with p2 | p2
        · omega
        · exact ⟨p2.2.symm, p1.symm⟩))] at g1
      exact ⟨g1, g2, g3, g4⟩
  · obtain ⟨g1, g2, g3⟩ := h4 y s hy hs hUy hUs
    by_cases e : y = m 0 ∧ s = m 3
    · rw [e.1, e.2, up2_a]
      exact ⟨by omega, fun _ q => absurd ((eg _ _).mpr q) ng, fun _ _ => q3⟩
    · rw [ogv s y (fun q => e ⟨q.2, q.1⟩)]
      rw [eg, el y s e] at g2 g3
      exact ⟨g1, g2, g3⟩
  · by_cases e : s = m 3 ∧ y = m 0
    · rw [e.1, e.2, up2_a] at q
      omega
    · rw [ogv s y e] at q
      have g0 := h6 s y y' hs hy hy' hne q
      by_cases e' : s = m 3 ∧ y' = m 0
      · rw [e'.1, e'.2] at g0
        omega
      · rw [ogv s y' e']; exact g0
  · have hne : ¬ s = m 3 := fun e => hUs (by rw [e]; exact uM)
    obtain ⟨g1, g2⟩ := h7 s hs hUs
    refine ⟨g1, fun y hy => ?_⟩
    rw [ocl s y (fun e => hne e.1), ogv s y (fun e => hne e.1)]
    exact g2 y hy
end TOK2
