
section TOK1
variable {n T : Nat} {U : Nat → Int32} {mr : Nat → Nat} {ms ms' : List (Nat → Nat)} {rw : Nat → List (Nat × Nat)} {gv cl H A B : Nat → Nat → Nat} {m : Nat → Nat}
/-- ms is ms' and m -/
def Ins (ms ms' : List (Nat → Nat)) (m : Nat → Nat) : Prop := (∀ a, a ∈ ms ↔ a ∈ ms' ∨ a = m) ∧ ∀ p : (Nat → Nat) → Bool, ms.countP p = ms'.countP p + (if p m = true then 1 else 0)
theorem ins_app : Ins (ms ++ [m]) ms m := ⟨fun a => by simp, fun p => by rw [List.countP_append, List.countP_cons, List.countP_nil]; omega⟩
theorem ins_rem {l1 l2 : List (Nat → Nat)} : Ins (l1 ++ m :: l2) (l1 ++ l2) m := ⟨fun a => by
  simp only [List.mem_append, List.mem_cons]
  constructor
  · rintro (q | q | q)
    · exact Or.inl (Or.inl q)
    · exact Or.inr q
    · exact Or.inl (Or.inr q)
  · rintro ((q | q) | q)
    · exact Or.inl q
    · exact Or.inr (Or.inr q)
    · exact Or.inr (Or.inl q), fun p => by rw [List.countP_append, List.countP_append, List.countP_cons]; omega⟩
theorem gr_ins {x r : Nat} (h : Ins ms ms' m) : gr ms x r ↔ gr ms' x r ∨ (m 2 = 1 ∧ m 1 = x ∧ m 3 = r) := by
  unfold gr
  constructor
  · rintro ⟨a, a1, a2⟩
    rcases (h.1 a).mp a1 with q | q
    · exact Or.inl ⟨a, q, a2⟩
    · rw [q] at a2; exact Or.inr a2
  · rintro (⟨a, a1, a2⟩ | q)
    · exact ⟨a, (h.1 a).mpr (Or.inl a1), a2⟩
    · exact ⟨m, (h.1 m).mpr (Or.inr rfl), q⟩
theorem rl_ins {x r : Nat} (h : Ins ms ms' m) : rl ms x r ↔ rl ms' x r ∨ (m 2 = 3 ∧ m 0 = x ∧ m 3 = r) := by
  unfold rl
  constructor
  · rintro ⟨a, a1, a2⟩
    rcases (h.1 a).mp a1 with q | q
    · exact Or.inl ⟨a, q, a2⟩
    · rw [q] at a2; exact Or.inr a2
  · rintro (⟨a, a1, a2⟩ | q)
    · exact ⟨a, (h.1 a).mpr (Or.inl a1), a2⟩
    · exact ⟨m, (h.1 m).mpr (Or.inr rfl), q⟩
theorem po_app {f t k r md du : Nat} (h : ms.Pairwise pO) (hd : mxd f t ms ≤ du) (hk : k = 1 → ∀ a, a ∈ ms → ¬ (a 2 = 2 ∧ a 1 = t ∧ a 3 = r)) : (ms ++ [nm f t k r md du]).Pairwise pO := by
  rw [List.pairwise_append]
  refine ⟨h, List.pairwise_singleton _ _, fun a ha b hb => ?_⟩
  rw [List.mem_singleton] at hb
  subst hb
  exact ⟨fun e1 e2 => Nat.le_trans (mxd_ge ms ha e1 e2) hd, fun q => hk q.2.1 a ha ⟨q.1, q.2.2.1, q.2.2.2⟩⟩
theorem po_rem {l1 l2 : List (Nat → Nat)} (h : (l1 ++ m :: l2).Pairwise pO) : (l1 ++ l2).Pairwise pO := by
  rw [List.pairwise_append, List.pairwise_cons] at h
  rw [List.pairwise_append]
  exact ⟨h.1, h.2.1.2, fun a ha b hb => h.2.2 a ha b (List.mem_cons_of_mem _ hb)⟩
theorem pl_mU (h : PL n U mr ms rw gv cl H A B) {a : Nat → Nat} (ha : a ∈ ms) : U (mr (a 3)) = nI 1 ∧ a 3 < 136 := by
  obtain ⟨-, -, -, u1, u2, a3, q⟩ := h.1 a ha
  refine ⟨?_, a3⟩
  rcases q with q | q | q | q
  · rw [← q.2.1]; exact u2
  · rw [← q.2.1]; exact u1
  · rw [← q.2.1]; exact u1
  · rw [← q.2.1]; exact u2
theorem pl_A0 {x r : Nat} (h : PL n U mr ms rw gv cl H A B) (hx : x < n) (hr : r < 136) (hU : U x = nI 1) (hA : A x r = 0) : (∀ a, a ∈ ms → tA x r a = false) ∧ ¬ gr ms x r := by
  have h1 : ∀ a, a ∈ ms → tA x r a = false := fun a ha => by
    cases e : tA x r a with
    | false => rfl
    | true =>
      have e3 := (tA_0.mp e).1
      have := (h.2.1 x r hx hr hU (by rw [← e3]; exact (pl_mU h ha).1)).1
      rw [hA, nz1_0] at this
      have := cnt_p ha e
      omega
  refine ⟨h1, ?_⟩
  rintro ⟨a, a1, a2, a3, a4⟩
  have := h1 a a1
  rw [tA_0.mpr ⟨a4, Or.inr ⟨a2, a3⟩⟩] at this
  exact absurd this (by decide)
theorem rwc_0 {row : List (Nat × Nat)} {x m : Nat} (h : rwc row x = 0) (hm : (x, m) ∈ row) : False := by
  have := cnt_p (p := fun e : Nat × Nat => decide (e.1 = x)) hm (decide_eq_true rfl)
  unfold rwc at h
  omega
/-- a node asks -/
theorem pl_ask {x r v : Nat} (h : PL n U mr ms rw gv cl H A B) (hx : x < n) (hr : r < 136) (hU : U x = nI 1) (hA : ∀ s, s < 136 → A x s = 0) (hv : ¬ v = 0) (hv2 : v ≤ 2) (hM : mr r < n) (hs : snd U T x (mr r) 0 r v ms ms') : PL n U mr ms' rw gv cl H (up2 A x r v) B := by
  have h' := h
  obtain ⟨h1, h2, h3, h4, h5, h6, h7, h8⟩ := h
  have oA : ∀ y s, ¬ (y = x ∧ s = r) → up2 A x r v y s = A y s := fun y s q => if_neg q
  have nA := fun s hs => pl_A0 (r := s) h' hx hs hU (hA s hs)
  have om : ∀ a, a ∈ ms → nz a = a ∧ a 0 < n ∧ a 1 < n ∧ U (a 0) = nI 1 ∧ U (a 1) = nI 1 ∧ a 3 < 136 ∧ ((a 2 = 0 ∧ a 1 = mr (a 3) ∧ a 4 = up2 A x r v (a 0) (a 3)) ∨ (a 2 = 1 ∧ a 0 = mr (a 3) ∧ a 4 = up2 A x r v (a 1) (a 3)) ∨ (a 2 = 2 ∧ a 0 = mr (a 3) ∧ a 4 + 1 = cl (a 3) (a 1)) ∨ (a 2 = 3 ∧ a 1 = mr (a 3) ∧ a 4 + 1 = cl (a 3) (a 0) ∧ a 4 = H (a 0) (a 3))) := fun a ha => by
    obtain ⟨b1, b2, b3, b4, b5, b6, q⟩ := h1 a ha
    refine ⟨b1, b2, b3, b4, b5, b6, ?_⟩
    have t0 := (nA (a 3) b6).1 a ha
    rcases q with q | q | q | q
    · rw [oA (a 0) (a 3) (fun e => by rw [tA_0.mpr ⟨rfl, Or.inl ⟨q.1, e.1⟩⟩] at t0; exact absurd t0 (by decide))]
      exact Or.inl q
    · rw [oA (a 1) (a 3) (fun e => by rw [tA_0.mpr ⟨rfl, Or.inr ⟨q.1, e.1⟩⟩] at t0; exact absurd t0 (by decide))]
      exact Or.inr (Or.inl q)
    · exact Or.inr (Or.inr (Or.inl q))
    · exact Or.inr (Or.inr (Or.inr q))
  have r3 : ∀ y s s', y < n → s < 136 → s' < 136 → U y = nI 1 → ¬ up2 A x r v y s = 0 → ¬ up2 A x r v y s' = 0 → s = s' := fun y s s' hy hs hs' hUy q q' => by
    by_cases e : y = x
    · by_cases e1 : s = r
      · by_cases e2 : s' = r
        · omega
        · rw [oA _ _ (fun c => e2 c.2), e] at q'; exact absurd (hA s' hs') q'
      · rw [oA _ _ (fun c => e1 c.2), e] at q; exact absurd (hA s hs) q
    · rw [oA _ _ (fun c => e c.1)] at q q'
      exact h5.2.2.1 y s s' hy hs hs' hUy q q'
  have r5 : ∀ y s, y < n → s < 136 → up2 A x r v y s ≤ 2 := fun y s hy hs => by
    by_cases e : y = x ∧ s = r
    · rw [e.1, e.2, up2_a]; exact hv2
    · rw [oA y s e]; exact h5.2.2.2.2 y s hy hs
  have v3 : ∀ y s, y < n → s < 136 → U y = nI 1 → U (mr s) = nI 1 → gr ms y s → up2 A x r v y s = A y s := fun y s hy hs _ _ hg => oA _ _ (fun e => (nA s hs).2 (by rw [← e.1]; exact hg))
  rcases hs with ⟨uM, du, d1, d2, rfl⟩ | ⟨uM, rfl⟩
  · have hi : Ins (ms ++ [nm x (mr r) 0 r v du]) ms (nm x (mr r) 0 r v du) := ins_app
    have eg : ∀ y s, gr (ms ++ [nm x (mr r) 0 r v du]) y s ↔ gr ms y s := fun y s => (gr_ins hi).trans ⟨fun q => q.elim id (fun q => absurd q.1 (by show ¬ (0 : Nat) = 1; decide)), Or.inl⟩
    have el : ∀ y s, rl (ms ++ [nm x (mr r) 0 r v du]) y s ↔ rl ms y s := fun y s => (rl_ins hi).trans ⟨fun q => q.elim id (fun q => absurd q.1 (by show ¬ (0 : Nat) = 3; decide)), Or.inl⟩
    refine ⟨fun a ha => ?_, fun y s hy hs hUy hUs => ?_, fun y s hy hs hUy hUs => ?_, fun y s hy hs hUy hUs => ?_, ⟨h5.1, h5.2.1, r3, h5.2.2.2.1, r5⟩, h6, h7, po_app h8 d2 (fun q => absurd q (by decide))⟩
    · rcases (hi.1 a).mp ha with q | q
      · exact om a q
      · subst q
        exact ⟨rfl, hx, hM, hU, uM, hr, Or.inl ⟨rfl, rfl, up2_a.symm⟩⟩
    · obtain ⟨g1, g2⟩ := h2 y s hy hs hUy hUs
      rw [hi.2]
      by_cases e : y = x ∧ s = r
      · obtain ⟨rfl, rfl⟩ := e
        rw [hA s hs, nz1_0] at g1
        rw [if_pos (show tA y s (nm y (mr s) 0 s v du) = true from tA_0.mpr ⟨rfl, Or.inl ⟨rfl, rfl⟩⟩), up2_a, nz1_p hv]
        exact ⟨by omega, fun k hk => (rwc_0 (by omega) hk).elim⟩
      · rw [if_neg (fun q => e (by
          obtain ⟨q1, q2⟩ := tA_0.mp q
          rcases q2 with q2 | q2
          · exact ⟨q2.2.symm, q1.symm⟩
          · exact absurd q2.1 (by show ¬ (0 : Nat) = 1; decide))), oA y s e]
        exact ⟨g1, g2⟩
    · obtain ⟨g1, g2, g3, g4⟩ := h3 y s hy hs hUy hUs
      rw [hi.2, if_neg (fun q => by
        rcases (tB_0.mp q).2 with q2 | q2
        · exact absurd q2.1 (by show ¬ (0 : Nat) = 2; decide)
        · exact absurd q2.1 (by show ¬ (0 : Nat) = 3; decide)), eg, el]
      exact ⟨g1, g2, g3, g4⟩
    · obtain ⟨g1, g2, g3⟩ := h4 y s hy hs hUy hUs
      rw [eg, el]
      exact ⟨g1, fun q q2 => by rw [v3 y s hy hs hUy hUs q2]; exact g2 q q2, g3⟩
  · have nU : ¬ U (mr r) = nI 1 := by rw [uM]; decide
    refine ⟨om, fun y s hy hs hUy hUs => ?_, h3, fun y s hy hs hUy hUs => ?_, ⟨h5.1, h5.2.1, r3, h5.2.2.2.1, r5⟩, h6, h7, h8⟩
    · rw [oA y s (fun e => nU (by rw [← e.2]; exact hUs))]
      exact h2 y s hy hs hUy hUs
    · obtain ⟨g1, g2, g3⟩ := h4 y s hy hs hUy hUs
      exact ⟨g1, fun q q2 => by rw [v3 y s hy hs hUy hUs q2]; exact g2 q q2, g3⟩
/-- a node goes down and tells its master -/
theorem pl_down {x r b : Nat} (h : PL n U mr ms rw gv cl H A B) (hx : x < n) (hr : r < 136) (hU : U x = nI 1) (hB : B x r = b + 1) (hM : mr r < n) (hs : snd U T x (mr r) 3 r b ms ms') : PL n U mr ms' rw gv cl (up2 H x r b) A (up2 B x r 0) := by
  have h' := h
  obtain ⟨h1, h2, h3, h4, h5, h6, h7, h8⟩ := h
  have oH : ∀ y s, ¬ (y = x ∧ s = r) → up2 H x r b y s = H y s := fun y s q => if_neg q
  have oB : ∀ y s, ¬ (y = x ∧ s = r) → up2 B x r 0 y s = B y s := fun y s q => if_neg q
  have om : (∀ a, a ∈ ms → ¬ (a 2 = 3 ∧ a 0 = x ∧ a 3 = r)) → ∀ a, a ∈ ms → nz a = a ∧ a 0 < n ∧ a 1 < n ∧ U (a 0) = nI 1 ∧ U (a 1) = nI 1 ∧ a 3 < 136 ∧ ((a 2 = 0 ∧ a 1 = mr (a 3) ∧ a 4 = A (a 0) (a 3)) ∨ (a 2 = 1 ∧ a 0 = mr (a 3) ∧ a 4 = A (a 1) (a 3)) ∨ (a 2 = 2 ∧ a 0 = mr (a 3) ∧ a 4 + 1 = cl (a 3) (a 1)) ∨ (a 2 = 3 ∧ a 1 = mr (a 3) ∧ a 4 + 1 = cl (a 3) (a 0) ∧ a 4 = up2 H x r b (a 0) (a 3))) := fun hno a ha => by
    obtain ⟨b1, b2, b3, b4, b5, b6, q⟩ := h1 a ha
    refine ⟨b1, b2, b3, b4, b5, b6, ?_⟩
    rcases q with q | q | q | q
    · exact Or.inl q
    · exact Or.inr (Or.inl q)
    · exact Or.inr (Or.inr (Or.inl q))
    · rw [oH (a 0) (a 3) (fun e => hno a ha ⟨q.1, e.1, e.2⟩)]
      exact Or.inr (Or.inr (Or.inr q))
  rcases hs with ⟨uM, du, d1, d2, rfl⟩ | ⟨uM, rfl⟩
  · obtain ⟨k1, k2, k3, k4⟩ := h3 x r hx hr hU uM
    rw [hB, nz1_p (by omega)] at k1
    have kc := (k2 (by omega)).1
    have kg := (k2 (by omega)).2
    have c0 : ms.countP (tB x r) = 0 := by
      have := nz1_le (a := cl r x)
      omega
    have hno : ∀ a, a ∈ ms → ¬ (a 2 = 3 ∧ a 0 = x ∧ a 3 = r) := fun a ha q => by
      have := cnt_p (p := tB x r) ha (tB_0.mpr ⟨q.2.2, Or.inr ⟨q.1, q.2.1⟩⟩)
      omega
    obtain ⟨z, m', rest, e1, e2, e3, e4⟩ := k4 (by omega)
    have hlt : b < gv r x := by
      have : flr m' = b := by omega
      rw [← this]
      unfold agt at e3
      unfold flr
      by_cases em : m' = 2
      · rw [if_pos em] at e3 ⊢; exact of_decide_eq_true e3
      · rw [if_neg em] at e3 ⊢
        have := of_decide_eq_true e3
        omega
    have hi : Ins (ms ++ [nm x (mr r) 3 r b du]) ms (nm x (mr r) 3 r b du) := ins_app
    have eg : ∀ y s, gr (ms ++ [nm x (mr r) 3 r b du]) y s ↔ gr ms y s := fun y s => (gr_ins hi).trans ⟨fun q => q.elim id (fun q => absurd q.1 (by show ¬ (3 : Nat) = 1; decide)), Or.inl⟩
    have el : ∀ y s, rl (ms ++ [nm x (mr r) 3 r b du]) y s ↔ rl ms y s ∨ (x = y ∧ r = s) := fun y s => (rl_ins hi).trans ⟨fun q => q.elim Or.inl (fun q => Or.inr ⟨q.2.1, q.2.2⟩), fun q => q.elim Or.inl (fun q => Or.inr ⟨rfl, q.1, q.2⟩)⟩
    refine ⟨fun a ha => ?_, fun y s hy hs hUy hUs => ?_, fun y s hy hs hUy hUs => ?_, fun y s hy hs hUy hUs => ?_, h5, h6, h7, po_app h8 d2 (fun q => absurd q (by decide))⟩
    · rcases (hi.1 a).mp ha with q | q
      · exact om hno a q
      · subst q
        exact ⟨rfl, hx, hM, hU, uM, hr, Or.inr (Or.inr (Or.inr ⟨rfl, rfl, (by show b + 1 = cl r x; omega), up2_a.symm⟩))⟩
    · obtain ⟨g1, g2⟩ := h2 y s hy hs hUy hUs
      rw [hi.2, if_neg (fun q => by
        rcases (tA_0.mp q).2 with q2 | q2
        · exact absurd q2.1 (by show ¬ (3 : Nat) = 0; decide)
        · exact absurd q2.1 (by show ¬ (3 : Nat) = 1; decide))]
      exact ⟨g1, g2⟩
    · obtain ⟨g1, g2, g3, g4⟩ := h3 y s hy hs hUy hUs
      rw [hi.2, eg, el]
      by_cases e : y = x ∧ s = r
      · obtain ⟨rfl, rfl⟩ := e
        rw [if_pos (show tB y s (nm y (mr s) 3 s b du) = true from tB_0.mpr ⟨rfl, Or.inr ⟨rfl, rfl⟩⟩), up2_a, c0, nz1_0, nz1_p (by omega)]
        exact ⟨rfl, fun q => absurd rfl q, fun _ => kg, g4⟩
      · rw [if_neg (fun q => e (by
          obtain ⟨q1, q2⟩ := tB_0.mp q
          rcases q2 with q2 | q2
          · exact absurd q2.1 (by show ¬ (3 : Nat) = 2; decide)
          · exact ⟨q2.2.symm, q1.symm⟩)), oB y s e]
        exact ⟨g1, g2, fun q => q.elim g3 (fun q => absurd ⟨q.1.symm, q.2.symm⟩ e), g4⟩
    · obtain ⟨g1, g2, g3⟩ := h4 y s hy hs hUy hUs
      rw [eg, el]
      by_cases e : y = x ∧ s = r
      · obtain ⟨rfl, rfl⟩ := e
        rw [up2_a]
        exact ⟨by omega, fun q => absurd (Or.inr ⟨rfl, rfl⟩) q, fun q => absurd (Or.inr ⟨rfl, rfl⟩) q⟩
      · rw [oH y s e]
        exact ⟨g1, fun q => g2 (fun q2 => q (Or.inl q2)), fun q => g3 (fun q2 => q (Or.inl q2))⟩
  · have nU : ¬ U (mr r) = nI 1 := by rw [uM]; decide
    refine ⟨om (fun a ha q => nU (by rw [← q.2.2]; exact (pl_mU h' ha).1)), h2, fun y s hy hs hUy hUs => ?_, fun y s hy hs hUy hUs => ?_, h5, h6, h7, h8⟩
    · rw [oB y s (fun e => nU (by rw [← e.2]; exact hUs))]
      exact h3 y s hy hs hUy hUs
    · rw [oH y s (fun e => nU (by rw [← e.2]; exact hUs))]
      exact h4 y s hy hs hUy hUs
end TOK1
