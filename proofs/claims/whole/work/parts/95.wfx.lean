/-- a bit of an inode in its map -/
def w_ibit (s : wS) (k : Nat) : Bool := bt (s (w_mp (k / 16)) 0) (k % 16)
def w_Z (s : wS) : Prop := ∀ k, k < 128 → s (w_ib k) 0 = nI 0 → ∀ i, i < 16 → s (w_ib k) i = nI 0
def w_N (s : wS) : Prop := ∀ k, k < 128 → ¬ s (w_ib k) 0 = nI 0 → w_ibit s k = true
def w_T (s : wS) : Prop := ∀ g, g < 8 → (∀ i, 16 ≤ i → i < 32 → bt (s (w_mp g) 0) i = false) ∧ (∀ i, 15 ≤ i → i < 32 → bt (s (w_mp g) 2) i = false) ∧ ∀ i, 3 ≤ i → i < 16 → s (w_mp g) i = nI 0
def x_wf (s : wS) (g : Nat → Prop) : Prop := w_wf s g ∧ w_Z s ∧ w_N s ∧ w_T s
theorem w_mp_inj {g g' : Nat} (e : w_mp g = w_mp g') : g = g' := by
  unfold w_mp at e
  omega
/-- a word elsewhere -/
theorem p_up {s : wS} {b i k p : Nat} {v : Int32} (hA : w_A s) (hk : k < 128) (hb : ¬ w_ib k = b) (hx : ¬ w_own s k 24 b) : w_pl (w_up s b i v) k p = w_pl s k p := by
  refine w_pl_cg (fun j => w_up_b s i j v hb) (fun j h0 => ?_)
  obtain ⟨x, x1, x2, x3⟩ := w_ix hA hk h0
  rw [x1, nI_clamp (w_Dlt x2)]
  exact w_up_b s i j v (fun e => hx (e ▸ x3))
theorem p_ibo {s : wS} {k p i : Nat} {v : Int32} (hA : w_A s) (hk : k < 128) (hi : i < 3) : w_pl (w_up s (w_ib k) i v) k p = w_pl s k p := by
  have e : ∀ q, 3 ≤ q → w_up s (w_ib k) i v (w_ib k) q = s (w_ib k) q := fun q hq => w_up_i s _ v (by omega)
  unfold w_pl
  rw [e (3 + p) (by omega), e 11 (by omega)]
  by_cases h0 : s (w_ib k) 11 = nI 0
  · simp only [h0, if_true]
  · obtain ⟨x, x1, x2, -⟩ := w_ix hA hk h0
    have hne : ¬ x = w_ib k := fun e => w_ib_D hk (e ▸ x2)
    rw [x1, nI_clamp (w_Dlt x2), w_up_b s i _ v hne]
theorem p_ibd {s : wS} {k p q : Nat} {v : Int32} (hA : w_A s) (hk : k < 128) (hq : q < 8) : w_pl (w_up s (w_ib k) (3 + q) v) k p = if p = q then v else w_pl s k p := by
  have e11 : w_up s (w_ib k) (3 + q) v (w_ib k) 11 = s (w_ib k) 11 := w_up_i s _ v (by omega)
  unfold w_pl
  rw [e11]
  by_cases h8 : p < 8
  · by_cases e : p = q
    · subst e
      rw [if_pos h8, if_pos rfl, w_up_at]
    · rw [if_pos h8, if_neg e, if_pos h8, w_up_i s _ v (by omega)]
  · rw [if_neg h8, if_neg (by omega : ¬ p = q), if_neg h8]
    by_cases h0 : s (w_ib k) 11 = nI 0
    · simp only [h0, if_true]
    · obtain ⟨x, x1, x2, -⟩ := w_ix hA hk h0
      have hne : ¬ x = w_ib k := fun e => w_ib_D hk (e ▸ x2)
      rw [x1, nI_clamp (w_Dlt x2), w_up_b s _ _ v hne]
theorem p_ibx {s : wS} {k p x : Nat} (hk : k < 128) (hx : w_D x) : w_pl (w_up s (w_ib k) 11 (nI x)) k p = if p < 8 then w_pl s k p else if p = 24 then nI x else s x (p - 8) := by
  unfold w_pl
  have hne : ¬ x = w_ib k := fun e => w_ib_D hk (e ▸ hx)
  rw [w_up_at, nI_clamp (w_Dlt hx), w_up_b s 11 (p - 8) (nI x) hne, if_neg (w_D0 hx)]
  by_cases h8 : p < 8
  · rw [if_pos h8, if_pos h8, if_pos h8, w_up_i s _ _ (by omega)]
  · rw [if_neg h8, if_neg h8]
theorem p_ibx0 {s : wS} {k p : Nat} : w_pl (w_up s (w_ib k) 11 (nI 0)) k p = if p < 8 then w_pl s k p else nI 0 := by
  unfold w_pl
  rw [w_up_at, if_pos rfl]
  by_cases h8 : p < 8
  · rw [if_pos h8, if_pos h8, if_pos h8, w_up_i s _ _ (by omega)]
  · rw [if_neg h8, if_neg h8]
    split <;> rfl
theorem p_ixw {s : wS} {k p x j : Nat} {v : Int32} (hk : k < 128) (h11 : s (w_ib k) 11 = nI x) (hx : w_D x) (hj : j < 16) (hp : p < 25) : w_pl (w_up s x j v) k p = if p = 8 + j then v else w_pl s k p := by
  have hne : ¬ w_ib k = x := fun e => w_ib_D hk (e ▸ hx)
  unfold w_pl
  rw [w_up_b s j 11 v hne, w_up_b s j _ v hne, h11, nI_clamp (w_Dlt hx), if_neg (w_D0 hx)]
  by_cases h8 : p < 8
  · rw [if_pos h8, if_neg (by omega : ¬ p = 8 + j), if_pos h8]
  · rw [if_neg h8, if_neg h8]
    by_cases h24 : p = 24
    · rw [if_pos h24, if_neg (by omega : ¬ p = 8 + j), if_pos h24]
    · rw [if_neg h24, if_neg h24]
      by_cases e : p = 8 + j
      · subst e
        rw [if_pos rfl, show 8 + j - 8 = j from by omega, w_up_at]
      · rw [if_neg e, w_up_i s x v (by omega), if_neg (w_D0 hx)]
/-- what else a word keeps -/
theorem x_rest {s : wS} {b i : Nat} {v : Int32} (hD : w_D b) (h : w_Z s ∧ w_N s ∧ w_T s) : w_Z (w_up s b i v) ∧ w_N (w_up s b i v) ∧ w_T (w_up s b i v) := by
  have e1 : ∀ k j, k < 128 → w_up s b i v (w_ib k) j = s (w_ib k) j := fun k j hk => w_up_b s i j v (fun e => w_ib_D hk (e ▸ hD))
  have e2 : ∀ g j, w_up s b i v (w_mp g) j = s (w_mp g) j := fun g j => w_up_b s i j v (fun e => w_mp_D g (e ▸ hD))
  refine ⟨fun k hk h0 j hj => ?_, fun k hk h0 => ?_, fun g hg => ?_⟩
  · rw [e1 k _ hk] at h0 ⊢
    exact h.1 k hk h0 j hj
  · rw [e1 k _ hk] at h0
    unfold w_ibit
    rw [e2]
    exact h.2.1 k hk h0
  · rw [e2, e2]
    refine ⟨(h.2.2 g hg).1, (h.2.2 g hg).2.1, fun j h1 h2 => ?_⟩
    rw [e2]
    exact (h.2.2 g hg).2.2 j h1 h2
theorem x_restI {s : wS} {k i : Nat} {v : Int32} (hk : k < 128) (h : w_Z s ∧ w_N s ∧ w_T s) (hz : ¬ w_up s (w_ib k) i v (w_ib k) 0 = nI 0) (hn : w_ibit s k = true) : w_Z (w_up s (w_ib k) i v) ∧ w_N (w_up s (w_ib k) i v) ∧ w_T (w_up s (w_ib k) i v) := by
  have e1 : ∀ k' j, k' < 128 → ¬ k' = k → w_up s (w_ib k) i v (w_ib k') j = s (w_ib k') j := fun k' j hk' hne => w_up_b s i j v (fun e => hne (w_ib_inj hk' hk e))
  have e2 : ∀ g j, w_up s (w_ib k) i v (w_mp g) j = s (w_mp g) j := fun g j => w_up_b s i j v (fun e => w_ib_mp hk e.symm)
  have e3 : ∀ k', w_ibit (w_up s (w_ib k) i v) k' = w_ibit s k' := fun k' => by unfold w_ibit; rw [e2]
  refine ⟨fun k' hk' h0 j hj => ?_, fun k' hk' h0 => ?_, fun g hg => ?_⟩
  · by_cases e : k' = k
    · subst e
      exact absurd h0 hz
    · rw [e1 k' _ hk' e] at h0 ⊢
      exact h.1 k' hk' h0 j hj
  · rw [e3]
    by_cases e : k' = k
    · subst e
      exact hn
    · rw [e1 k' _ hk' e] at h0
      exact h.2.1 k' hk' h0
  · rw [e2, e2]
    refine ⟨(h.2.2 g hg).1, (h.2.2 g hg).2.1, fun j h1 h2 => ?_⟩
    rw [e2]
    exact (h.2.2 g hg).2.2 j h1 h2
theorem x_word {s : wS} {gone : Nat → Prop} {k p b i : Nat} {v : Int32} (h : x_wf s gone) (ho : w_own s k p b) (hp : p < 24) (hv : s (w_ib k) 0 = nI 2 → i % 2 = 1 → ∃ t : Nat, t < 128 ∧ v = nI t) : x_wf (w_up s b i v) gone :=
  ⟨w_word h.1 ho hp hv, x_rest ho.2.2.1 h.2⟩
/-- kind, links, size of an inode -/
theorem x_ibw {s : wS} {gone : Nat → Prop} {k i : Nat} {v : Int32} (h : x_wf s gone) (hk : k < 128) (hi : i < 3) (hn : w_ibit s k = true) (hz : ¬ w_up s (w_ib k) i v (w_ib k) 0 = nI 0) (hK : w_K (w_up s (w_ib k) i v) k) (hE : w_up s (w_ib k) i v (w_ib k) 0 = nI 2 → s (w_ib k) 0 = nI 2 ∨ ∀ p b, ¬ w_own s k p b) : x_wf (w_up s (w_ib k) i v) gone := by
  refine ⟨?_, x_restI hk h.2 hz hn⟩
  have hA := h.1.1
  have hp : ∀ k' p, k' < 128 → w_pl (w_up s (w_ib k) i v) k' p = w_pl s k' p := fun k' p hk' => by
    by_cases e : k' = k
    · subst e
      exact p_ibo hA hk hi
    · exact p_up hA hk' (fun e2 => e (w_ib_inj hk' hk e2)) (fun ho => w_ib_D hk ho.2.2.1)
  have hw : ∀ k' p b, w_own (w_up s (w_ib k) i v) k' p b → w_own s k' p b := fun k' p b ho => ⟨ho.1, ho.2.1, ho.2.2.1, by rw [← hp k' p ho.1]; exact ho.2.2.2⟩
  refine ⟨fun k' p hk' hpp => by rw [hp k' p hk']; exact hA k' p hk' hpp, fun k1 p1 k2 p2 c h1 h2 => h.1.2.1 k1 p1 k2 p2 c (hw _ _ _ h1) (hw _ _ _ h2), fun k' p c h1 => by rw [w_bit_up (w_ib_nmp hk)]; exact h.1.2.2.1 k' p c (hw _ _ _ h1), fun k' hk' => ?_, fun k' p c h1 h2 h3 j hj => ?_⟩
  · by_cases e : k' = k
    · subst e
      exact hK
    · unfold w_K
      rw [w_up_b s i 0 v (fun e2 => e (w_ib_inj hk' hk e2)), w_up_b s i 2 v (fun e2 => e (w_ib_inj hk' hk e2))]
      exact h.1.2.2.2.1 k' hk'
  · have ho := hw _ _ _ h1
    have hne : ¬ c = w_ib k := fun e => w_ib_D hk (e ▸ h1.2.2.1)
    rw [w_up_b s i _ v hne]
    by_cases e : k' = k
    · subst e
      rcases hE h3 with h4 | h4
      · exact h.1.2.2.2.2 k' p c ho h2 h4 j hj
      · exact absurd ho (h4 p c)
    · rw [w_up_b s i 0 v (fun e2 => e (w_ib_inj h1.1 hk e2))] at h3
      exact h.1.2.2.2.2 k' p c ho h2 h3 j hj
theorem x_bit {s : wS} {gone : Nat → Prop} {k : Nat} (h : x_wf s gone) (hk : k < 128) (hz : ¬ s (w_ib k) 0 = nI 0) : w_ibit s k = true := h.2.2.1 k hk hz
theorem x_link {s : wS} {gone : Nat → Prop} {k : Nat} {v : Int32} (h : x_wf s gone) (hk : k < 128) (hz : ¬ s (w_ib k) 0 = nI 0) : x_wf (w_up s (w_ib k) 1 v) gone := by
  have e0 : w_up s (w_ib k) 1 v (w_ib k) 0 = s (w_ib k) 0 := w_up_i s _ v (by decide)
  have e2 : w_up s (w_ib k) 1 v (w_ib k) 2 = s (w_ib k) 2 := w_up_i s _ v (by decide)
  refine x_ibw h hk (by decide) (x_bit h hk hz) (by rw [e0]; exact hz) (by unfold w_K; rw [e0, e2]; exact h.1.2.2.2.1 k hk) (fun h2 => Or.inl (by rw [← e0]; exact h2))
theorem x_size {s : wS} {gone : Nat → Prop} {k z : Nat} (h : x_wf s gone) (hk : k < 128) (hz : ¬ s (w_ib k) 0 = nI 0) (hle : z ≤ 384) (he : s (w_ib k) 0 = nI 2 → z % 2 = 0) : x_wf (w_up s (w_ib k) 2 (nI z)) gone := by
  have e0 : w_up s (w_ib k) 2 (nI z) (w_ib k) 0 = s (w_ib k) 0 := w_up_i s _ _ (by decide)
  refine x_ibw h hk (by decide) (x_bit h hk hz) (by rw [e0]; exact hz) (by unfold w_K; rw [e0, w_up_at]; exact ⟨(h.1.2.2.2.1 k hk).1, z, rfl, hle, he⟩) (fun h2 => Or.inl (by rw [← e0]; exact h2))
theorem x_nowned {s : wS} {k : Nat} (hk : k < 128) (h0 : ∀ i, i < 16 → s (w_ib k) i = nI 0) (p b : Nat) : ¬ w_own s k p b := by
  rintro ⟨-, hp, hD, e⟩
  refine w_D0 hD (e.symm.trans ?_)
  unfold w_pl
  by_cases h8 : p < 8
  · rw [if_pos h8, h0 _ (by omega)]
  · rw [if_neg h8]
    by_cases h24 : p = 24
    · rw [if_pos h24, h0 _ (by omega)]
    · rw [if_neg h24, if_pos (h0 _ (by omega))]
theorem x_kind {s : wS} {gone : Nat → Prop} {k : Nat} {v : Int32} (h : x_wf s gone) (hk : k < 128) (h0 : ∀ i, i < 16 → s (w_ib k) i = nI 0) (hn : w_ibit s k = true) (hv : v = nI 1 ∨ v = nI 2) : x_wf (w_up s (w_ib k) 0 v) gone := by
  have hv0 : ¬ v = nI 0 := by rcases hv with rfl | rfl <;> decide
  refine x_ibw h hk (by decide) hn (by rw [w_up_at]; exact hv0) ?_ (fun _ => Or.inr (x_nowned hk h0))
  unfold w_K
  rw [w_up_at, w_up_i s _ v (by decide)]
  exact ⟨hv.elim (fun e => Or.inr (Or.inl e)) (fun e => Or.inr (Or.inr e)), 0, h0 2 (by decide), by omega, fun _ => rfl⟩
