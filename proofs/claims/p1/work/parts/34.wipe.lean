theorem c_Cwipe {G : am_G} (hG : am_ok G) {d : Nat} {i : Nat} (hi : i < G.2.2.2.1) (I : am_I) : am_C G d mX1_wipe [.inr (i, 41)] I (am_E none (am_up (am_upf I i 43 (am_fil (I i 43) 640 (nI 0))) i 41 2 (nI 0))) := by
  have L : ∀ (m b : Nat), b + m = 640 → am_J G d mX1_wipe am_no (am_E none (am_up (am_upf I i 43 (am_fil (I i 43) 640 (nI 0))) i 41 2 (nI 0))) 2 [some (.inr (i, 41)), some (.inl (nI b))] [] (am_upf I i 43 (am_fil (I i 43) b (nI 0))) := by
    intro m
    induction m with
    | zero =>
      intro b ha
      obtain rfl : b = 640 := by omega
      refine am_iload_n dX1_wipe_2 rfl ?_
      refine am_sipush (v := nI 640) dX1_wipe_3 (by decide) ?_
      refine am_icmp_ge (tgt := 22) dX1_wipe_6 (by decide) (fun _ => ?_) (fun h => absurd ((nI_leI (a := 640) (b := 640) (by omega) (by omega)).mpr (by omega)) h)
      refine am_aload_n dX1_wipe_22 rfl ?_
      refine am_iconst (v := nI 0) dX1_wipe_23 (by decide) ?_
      refine am_put (x := nI 0) dX1_wipe_24 fp_1_19 (hG.mn hi (by decide) (by decide)) (Nat.le_of_ble_eq_true rfl) rfl ?_
      refine am_vret dX1_wipe_27 rfl ?_
      exact ⟨rfl, rfl⟩
    | succ m ih =>
      intro b ha
      refine am_iload_n dX1_wipe_2 rfl ?_
      refine am_sipush (v := nI 640) dX1_wipe_3 (by decide) ?_
      refine am_icmp_ge (tgt := 22) dX1_wipe_6 (by decide) (fun h => absurd ((nI_leI (a := 640) (b := b) (by omega) (by omega)).mp h) (by omega)) (fun _ => ?_)
      refine am_aload_n dX1_wipe_9 rfl ?_
      refine am_get (v := .inr (i, 43)) dX1_wipe_10 fl_1_15 (hG.mn hi (by decide) (by decide)) rfl ?_
      refine am_iload_n dX1_wipe_13 rfl ?_
      refine am_iconst (v := nI 0) dX1_wipe_14 (by decide) ?_
      refine am_zast (a := b) dX1_wipe_15 (hG.mn hi (by decide) (by decide)) rfl (by decide) rfl (show b < 640 from (by omega)) (show 640 < 2 ^ 31 by decide) ?_
      refine am_iinc (v := nI (b + 1)) dX1_wipe_16 rfl (nI_add _ _) ?_
      refine am_goto (tgt := 2) dX1_wipe_19 (by decide) ?_
      rw [am_up_upf, am_fils]
      exact ih (b + 1) (by omega)
  refine am_of (by decide +kernel) hG.nd (Nat.le_of_ble_eq_true rfl) ?_
  refine am_iconst (v := nI 0) dX1_wipe_0 (by decide) ?_
  refine am_istore_n dX1_wipe_1 (by decide) ?_
  have := L 640 0 (by omega)
  rw [am_fil0, am_upf_self] at this
  exact this
theorem c_LclearList {G : am_G} (hG : am_ok G) {d : Nat} {i : Nat} (hi : i < G.2.2.2.1) (I : am_I) : am_C G (d + 1) mX4_clearList [.inr (i, 48)] I (am_E none (am_up (am_upf I i 54 (am_fil (I i 54) 136 (nI 0))) i 48 6 (nI 0))) := by
  refine am_of (by decide +kernel) hG.nd (Nat.le_of_ble_eq_true rfl) ?_
  refine am_aload_n dX4_clearList_0 rfl ?_
  refine am_get (v := .inr (i, 54)) dX4_clearList_1 fl_4_28 (hG.mn hi (by decide) (by decide)) rfl ?_
  refine am_iconst (v := nI 0) dX4_clearList_4 (by decide) ?_
  refine am_callSe (as := [.inr (i, 54), .inl (nI 0)]) (rest := []) dX4_clearList_5 lkJ7_fill_53178 ml_X4_31 isJ7_fill_53178 rfl (Nat.le_of_ble_eq_true rfl) rfl (c_fill (i := i) (j := 54) hG.nd (hG.mn hi (by decide) (by decide)) rfl (show 136 < 2 ^ 31 by decide) (nI 0) I) ?_
  refine am_aload_n dX4_clearList_8 rfl ?_
  refine am_iconst (v := nI 0) dX4_clearList_9 (by decide) ?_
  refine am_put (x := nI 0) dX4_clearList_10 fp_4_43 (hG.mn hi (by decide) (by decide)) (Nat.le_of_ble_eq_true rfl) rfl ?_
  refine am_vret dX4_clearList_13 rfl ?_
  exact ⟨rfl, rfl⟩
