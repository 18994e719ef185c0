theorem w_own_cg {s s' : wS} (hA : w_A s) (hi : ∀ k i, k < 128 → s' (w_ib k) i = s (w_ib k) i) (hx : ∀ k b i, w_own s k 24 b → s' b i = s b i) : (∀ k p, k < 128 → w_pl s' k p = w_pl s k p) ∧ ∀ k p b, w_own s' k p b ↔ w_own s k p b := by
  have hp : ∀ k p, k < 128 → w_pl s' k p = w_pl s k p := fun k p hk => w_pl_cg (fun i => hi k i hk) (fun i h0 => by
    obtain ⟨b, e1, e2, e3⟩ := w_ix hA hk h0
    rw [e1, nI_clamp (w_Dlt e2)]
    exact hx k b i e3)
  refine ⟨hp, fun k p b => ⟨?_, ?_⟩⟩
  · rintro ⟨a1, a2, a3, a4⟩
    exact ⟨a1, a2, a3, by rw [← hp k p a1]; exact a4⟩
  · rintro ⟨a1, a2, a3, a4⟩
    exact ⟨a1, a2, a3, by rw [hp k p a1]; exact a4⟩
/-- inodes and indexes stay -/
theorem w_keep2 {s s' : wS} {g g' : Nat → Prop} (h : w_wf s g) (hi : ∀ k i, k < 128 → s' (w_ib k) i = s (w_ib k) i) (hx : ∀ k b i, w_own s k 24 b → s' b i = s b i) (hc : ∀ k p b, w_own s k p b → w_bit s b = true ∨ g b → w_bit s' b = true ∨ g' b) (he : ∀ k p b, w_own s k p b → p < 24 → s (w_ib k) 0 = nI 2 → ∀ i, i < 8 → ∃ t : Nat, t < 128 ∧ s' b (2 * i + 1) = nI t) : w_wf s' g' := by
  obtain ⟨hA, hB, hC, hK, hE⟩ := h
  obtain ⟨hp, hw⟩ := w_own_cg hA hi hx
  refine ⟨fun k p hk hpp => by rw [hp k p hk]; exact hA k p hk hpp, fun k p k' p' b h1 h2 => hB k p k' p' b ((hw _ _ _).mp h1) ((hw _ _ _).mp h2), fun k p b h1 => hc k p b ((hw _ _ _).mp h1) (hC k p b ((hw _ _ _).mp h1)), fun k hk => ?_, fun k p b h1 h2 h3 i h4 => ?_⟩
  · unfold w_K
    rw [hi k 0 hk, hi k 2 hk]
    exact hK k hk
  · have h1' := (hw _ _ _).mp h1
    rw [hi k 0 h1'.1] at h3
    exact he k p b h1' h2 h3 i h4
theorem w_bit_up {s : wS} {b i c : Nat} {v : Int32} (h : ¬ ∃ g, b = w_mp g) : w_bit (w_up s b i v) c = w_bit s c := by
  unfold w_bit
  rw [w_up_b s i _ v (fun e => h ⟨_, e.symm⟩)]
theorem w_D_mp {b : Nat} (h : w_D b) : ¬ ∃ g, b = w_mp g := fun ⟨g, e⟩ => w_mp_D g (e ▸ h)
theorem w_ib_nmp {k : Nat} (h : k < 128) : ¬ ∃ g, w_ib k = w_mp g := fun ⟨_, e⟩ => w_ib_mp h e
/-- a word of a map -/
theorem w_map {s : wS} {gone gone' : Nat → Prop} {g i : Nat} {v : Int32} (h : w_wf s gone) (hc : ∀ k p b, w_own s k p b → w_bit s b = true ∨ gone b → w_bit (w_up s (w_mp g) i v) b = true ∨ gone' b) : w_wf (w_up s (w_mp g) i v) gone' :=
  w_keep h (fun k i' hk => w_up_b s i i' v (w_ib_mp hk)) (fun k p b i' ho => w_up_b s i i' v (fun e => w_mp_D g (e ▸ ho.2.2.1))) hc
/-- a data block that nobody owns is cleared -/
theorem w_clrD {s : wS} {gone : Nat → Prop} {b : Nat} (h : w_wf s gone) (hb : w_D b) (hno : ∀ k p, ¬ w_own s k p b) : w_wf (w_cl s b) gone := by
  have hne : ∀ b' i, ¬ b' = b → w_cl s b b' i = s b' i := fun b' i h => if_neg h
  refine w_keep h (fun k i hk => hne _ _ (fun e => w_ib_D hk (e ▸ hb))) (fun k p b' i ho => hne _ _ (fun e => hno k p (e ▸ ho))) (fun k p c ho hc => ?_)
  have e : w_bit (w_cl s b) c = w_bit s c := by
    unfold w_bit
    rw [hne _ _ (fun e => w_mp_D _ (e ▸ hb))]
  rw [e]
  exact hc
/-- a word of an owned block that is no index -/
theorem w_word {s : wS} {gone : Nat → Prop} {k p b i : Nat} {v : Int32} (h : w_wf s gone) (ho : w_own s k p b) (hp : p < 24) (hv : s (w_ib k) 0 = nI 2 → i % 2 = 1 → ∃ t : Nat, t < 128 ∧ v = nI t) : w_wf (w_up s b i v) gone := by
  have hbD := ho.2.2.1
  refine w_keep2 h (fun k' i' hk => w_up_b s i i' v (fun e => w_ib_D hk (e ▸ hbD))) (fun k' b' i' h' => w_up_b s i i' v (fun e => ?_)) (fun k' p' c _ hc => by rw [w_bit_up (w_D_mp hbD)]; exact hc) (fun k' p' b' h' h2 h3 j hj => ?_)
  · subst e
    have := (h.2.1 k' 24 k p b' h' ho).2
    omega
  · by_cases e : b' = b
    · subst e
      obtain ⟨rfl, rfl⟩ := h.2.1 k' p' k p b' h' ho
      by_cases e2 : 2 * j + 1 = i
      · subst e2
        rw [w_up_at]
        exact hv h3 (by omega)
      · rw [w_up_i s b' v e2]
        exact h.2.2.2.2 k' p' b' h' h2 h3 j hj
    · rw [w_up_b s i _ v e]
      exact h.2.2.2.2 k' p' b' h' h2 h3 j hj
