/-- one place gets a block that nobody owned -/
theorem w_add {s s' : wS} {gone : Nat → Prop} {k p b : Nat} (h : w_wf s gone) (hb : w_D b) (hno : ∀ k p, ¬ w_own s k p b) (hpl : ∀ k' p', k' < 128 → p' < 25 → w_pl s' k' p' = if k' = k ∧ p' = p then nI b else w_pl s k' p') (hK : ∀ k', k' < 128 → s' (w_ib k') 0 = s (w_ib k') 0 ∧ s' (w_ib k') 2 = s (w_ib k') 2) (hdat : ∀ k' p' b' i, w_own s k' p' b' → p' < 24 → s' b' i = s b' i) (hnew : p < 24 → s (w_ib k) 0 = nI 2 → ∀ i, i < 8 → ∃ t : Nat, t < 128 ∧ s' b (2 * i + 1) = nI t) (hbit : w_bit s b = true) (hbits : ∀ c, w_bit s' c = w_bit s c) : w_wf s' gone := by
  obtain ⟨hA, hB, hC, hKK, hE⟩ := h
  have hw : ∀ k' p' c, w_own s' k' p' c → (k' = k ∧ p' = p ∧ c = b) ∨ (¬ (k' = k ∧ p' = p) ∧ w_own s k' p' c) := by
    rintro k' p' c ⟨a1, a2, a3, a4⟩
    rw [hpl k' p' a1 a2] at a4
    by_cases e : k' = k ∧ p' = p
    · rw [if_pos e] at a4
      exact Or.inl ⟨e.1, e.2, (w_nI (w_Dlt hb) (w_Dlt a3) a4).symm⟩
    · rw [if_neg e] at a4
      exact Or.inr ⟨e, a1, a2, a3, a4⟩
  refine ⟨fun k' p' hk' hp' => ?_, fun k1 p1 k2 p2 c h1 h2 => ?_, fun k' p' c h1 => ?_, fun k' hk' => ?_, fun k' p' c h1 h2 h3 i hi => ?_⟩
  · rw [hpl k' p' hk' hp']
    split
    · exact Or.inr ⟨b, rfl, hb⟩
    · exact hA k' p' hk' hp'
  · rcases hw k1 p1 c h1 with ⟨rfl, rfl, rfl⟩ | ⟨-, o1⟩
    · rcases hw k2 p2 c h2 with ⟨rfl, rfl, -⟩ | ⟨-, o2⟩
      · exact ⟨rfl, rfl⟩
      · exact absurd o2 (hno k2 p2)
    · rcases hw k2 p2 c h2 with ⟨rfl, rfl, rfl⟩ | ⟨-, o2⟩
      · exact absurd o1 (hno k1 p1)
      · exact hB k1 p1 k2 p2 c o1 o2
  · rw [hbits]
    rcases hw k' p' c h1 with ⟨rfl, rfl, rfl⟩ | ⟨-, o1⟩
    · exact Or.inl hbit
    · exact hC k' p' c o1
  · unfold w_K
    rw [(hK k' hk').1, (hK k' hk').2]
    exact hKK k' hk'
  · rw [(hK k' h1.1).1] at h3
    rcases hw k' p' c h1 with ⟨rfl, rfl, rfl⟩ | ⟨-, o1⟩
    · exact hnew h2 h3 i hi
    · rw [hdat k' p' c _ o1 h2]
      exact hE k' p' c o1 h2 h3 i hi
/-- places go; kinds and sizes as they may be -/
theorem w_del {s s' : wS} {gone gone' : Nat → Prop} (h : w_wf s gone) (hpl : ∀ k p, k < 128 → p < 25 → w_pl s' k p = nI 0 ∨ w_pl s' k p = w_pl s k p) (hK : ∀ k, k < 128 → w_K s' k) (hk2 : ∀ k p b, w_own s' k p b → s' (w_ib k) 0 = nI 2 → s (w_ib k) 0 = nI 2) (hdat : ∀ k p b i, w_own s' k p b → p < 24 → s' b i = s b i) (hc : ∀ k p b, w_own s' k p b → w_bit s b = true ∨ gone b → w_bit s' b = true ∨ gone' b) : w_wf s' gone' := by
  obtain ⟨hA, hB, hC, hKK, hE⟩ := h
  have hw : ∀ k p c, w_own s' k p c → w_own s k p c := by
    rintro k p c ⟨a1, a2, a3, a4⟩
    rcases hpl k p a1 a2 with e | e
    · exact absurd (a4.symm.trans e) (w_D0 a3)
    · exact ⟨a1, a2, a3, by rw [← e]; exact a4⟩
  refine ⟨fun k p hk hp => ?_, fun k1 p1 k2 p2 c h1 h2 => hB k1 p1 k2 p2 c (hw _ _ _ h1) (hw _ _ _ h2), fun k p c h1 => hc k p c h1 (hC k p c (hw _ _ _ h1)), hK, fun k p c h1 h2 h3 i hi => ?_⟩
  · rcases hpl k p hk hp with e | e
    · exact Or.inl e
    · rw [e]; exact hA k p hk hp
  · rw [hdat k p c _ h1 h2]
    exact hE k p c (hw _ _ _ h1) h2 (hk2 k p c h1 h3) i hi
