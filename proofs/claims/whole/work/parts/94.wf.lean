/-- a direct place gets a block -/
theorem w_setD {s : wS} {gone : Nat → Prop} {k p b : Nat} (h : w_wf s gone) (hk : k < 128) (hp : p < 8) (hb : w_D b) (hno : ∀ k p, ¬ w_own s k p b) (hbit : w_bit s b = true) (hz : s (w_ib k) 0 = nI 2 → ∀ i, i < 8 → ∃ t : Nat, t < 128 ∧ s b (2 * i + 1) = nI t) : w_wf (w_up s (w_ib k) (3 + p) (nI b)) gone := by
  have hbk : ∀ k', k' < 128 → ¬ b = w_ib k' := fun k' hk' e => w_ib_D hk' (e ▸ hb)
  refine w_add (k := k) (p := p) h hb hno (fun k' p' hk' hp' => ?_) (fun k' hk' => ?_) (fun k' p' b' i ho _ => w_up_b s _ _ _ (fun e => w_ib_D hk (e ▸ ho.2.2.1))) (fun _ h2 i hi => ?_) hbit (fun c => w_bit_up (w_ib_nmp hk))
  · by_cases e : k' = k
    · subst e
      by_cases e2 : p' = p
      · subst e2
        rw [if_pos ⟨rfl, rfl⟩]
        unfold w_pl
        rw [if_pos hp, w_up_at]
      · rw [if_neg (fun h => e2 h.2)]
        by_cases h8 : p' < 8
        · unfold w_pl
          rw [if_pos h8, if_pos h8, w_up_i s _ _ (by omega)]
        · have e11 : w_up s (w_ib k') (3 + p) (nI b) (w_ib k') 11 = s (w_ib k') 11 := w_up_i s _ _ (by omega)
          unfold w_pl
          rw [if_neg h8, if_neg h8, e11]
          by_cases h24 : p' = 24
          · rw [if_pos h24, if_pos h24]
          · rw [if_neg h24, if_neg h24]
            by_cases h0 : s (w_ib k') 11 = nI 0
            · rw [if_pos h0, if_pos h0]
            · rw [if_neg h0, if_neg h0]
              obtain ⟨x, x1, x2, -⟩ := w_ix h.1 hk' h0
              rw [x1, nI_clamp (w_Dlt x2)]
              exact w_up_b s _ _ _ (fun e => w_ib_D hk' (e ▸ x2))
    · rw [if_neg (fun h => e h.1)]
      refine w_pl_cg (fun i => w_up_b s _ _ _ (fun e2 => e (w_ib_inj hk' hk e2))) (fun i h0 => ?_)
      obtain ⟨x, x1, x2, -⟩ := w_ix h.1 hk' h0
      rw [x1, nI_clamp (w_Dlt x2)]
      exact w_up_b s _ _ _ (fun e => w_ib_D hk (e ▸ x2))
  · by_cases e : k' = k
    · subst e
      exact ⟨w_up_i s _ _ (by omega), w_up_i s _ _ (by omega)⟩
    · exact ⟨w_up_b s _ _ _ (fun e2 => e (w_ib_inj hk' hk e2)), w_up_b s _ _ _ (fun e2 => e (w_ib_inj hk' hk e2))⟩
  · rw [w_up_b s _ _ _ (hbk k hk)]
    exact hz h2 i hi
