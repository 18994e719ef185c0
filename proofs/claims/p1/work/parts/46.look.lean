theorem c_recoverAll0 {G : am_G} (hG : am_ok G) {d : Nat} {I : am_I} (hj : ∀ x, x < G.2.2.2.1 → I x 40 6 = nI 1) (hD : ∀ k, I 0 1 k = am_dk G.2.2.2.1 k)  : am_C G (d + 1) mX2_recoverAll [.inr (0, 21), .inr (0, 2)] I (fun r J => r = none ∧ (∀ b, b < 640 → J 0 22 b = nI b) ∧ ∀ a b, b ≠ 22 → J a b = I a b) := by
  have hn4 := hG.hi
  have hn2 := hG.lo
  have L2 : ∀ (m a : Nat) (s3 : Option am_V), a + m = G.2.2.2.1 → am_J G (d + 1) mX2_recoverAll am_no (fun r J => r = none ∧ (∀ b, b < 640 → J 0 22 b = nI b) ∧ ∀ a b, b ≠ 22 → J a b = I a b) 24 [some (.inr (0, 21)), some (.inr (0, 2)), some (.inl (nI a)), s3, none, none, none] [] (am_upf I 0 22 (am_idn (I 0 22) 640)) := by
    intro m
    induction m with
    | zero =>
      intro a s3 ha
      obtain rfl : a = G.2.2.2.1 := by omega
      refine am_iload_n dX2_recoverAll_24 rfl ?_
      refine am_aload_n dX2_recoverAll_25 rfl ?_
      refine am_alen3 dX2_recoverAll_26 (hG.m0 (by decide)) rfl ?_
      refine am_icmp_ge (tgt := 139) dX2_recoverAll_27 (by decide) (fun _ => ?_) (fun h => absurd ((nI_leI (a := G.2.2.2.1) (b := G.2.2.2.1) (by omega) (by omega)).mpr (by omega)) h)
      refine am_vret dX2_recoverAll_139 rfl ?_
      exact ⟨rfl, fun b hb => by simp [am_upf, am_idn, hb], fun a b hb => by simp [am_upf, hb]⟩
    | succ m ih =>
      intro a s3 ha
      refine am_iload_n dX2_recoverAll_24 rfl ?_
      refine am_aload_n dX2_recoverAll_25 rfl ?_
      refine am_alen3 dX2_recoverAll_26 (hG.m0 (by decide)) rfl ?_
      refine am_icmp_ge (tgt := 139) dX2_recoverAll_27 (by decide) (fun h => absurd ((nI_leI (a := G.2.2.2.1) (b := a) (by omega) (by omega)).mp h) (by omega)) (fun _ => ?_)
      refine am_iload_n dX2_recoverAll_30 rfl ?_
      refine am_callSNx (as := [.inl (nI a)]) (rest := []) dX2_recoverAll_31 lkX10_headBlock nl_X2_58 isX10_headBlock rfl (Nat.le_of_ble_eq_true rfl) rfl (c_headBlock hG.nd (k := a) (by omega) (am_upf I 0 22 (am_idn (I 0 22) 640))) ?_
      refine am_istore_n dX2_recoverAll_34 (by decide) ?_
      refine am_aload_n dX2_recoverAll_35 rfl ?_
      refine am_iload_n dX2_recoverAll_36 rfl ?_
      refine am_aald (a := a) dX2_recoverAll_37 (hG.m0 (by decide)) rfl rfl (by omega) hG.n31 ?_
      refine am_get (v := .inl ((am_upf I 0 22 (am_idn (I 0 22) 640)) a 40 6)) dX2_recoverAll_38 fl_2_62 (hG.mn (by omega) (by decide) (by decide)) rfl ?_
      refine am_top (show (am_upf I 0 22 (am_idn (I 0 22) 640)) a 40 6 = nI 1 from by simp [am_upf, hj a (show a < G.2.2.2.1 by omega)]) ?_
      refine am_if_eq (tgt := 133) dX2_recoverAll_41 (by decide) (fun h => absurd h (by decide)) (fun _ => ?_)
      refine am_aload_n dX2_recoverAll_44 rfl ?_
      refine am_get (v := .inr (0, 1)) dX2_recoverAll_45 fl_2_28 (hG.m0 (by decide)) rfl ?_
      refine am_iload_n dX2_recoverAll_48 rfl ?_
      refine am_bipush (v := nI 16) dX2_recoverAll_49 (by decide) ?_
      refine am_imul dX2_recoverAll_51 ?_
      refine am_top (pk_mul _ _) ?_
      refine am_iconst (v := nI 2) dX2_recoverAll_52 (by decide) ?_
      refine am_iadd dX2_recoverAll_53 ?_
      refine am_top (nI_add _ _) ?_
      refine am_iald (a := (1 + 24 * a) * 16 + 2) dX2_recoverAll_54 (hG.m0 (by decide)) rfl rfl (show (1 + 24 * a) * 16 + 2 < 10240 from (by omega)) (show 10240 < 2 ^ 31 by decide) ?_
      refine am_top (show (am_upf I 0 22 (am_idn (I 0 22) 640)) 0 1 ((1 + 24 * a) * 16 + 2) = nI 0 from (hD _).trans (am_dk0 (by omega) (by omega) (by omega) (by omega) (by omega))) ?_
      refine am_iconst (v := nI 1) dX2_recoverAll_55 (by decide) ?_
      refine am_icmp_eq (tgt := 62) dX2_recoverAll_56 (by decide) (fun h => absurd h (by decide)) (fun _ => ?_)
      refine am_goto (tgt := 133) dX2_recoverAll_59 (by decide) ?_
      refine am_iinc (v := nI (a + 1)) dX2_recoverAll_133 rfl (nI_add _ _) ?_
      refine am_goto (tgt := 24) dX2_recoverAll_136 (by decide) ?_
      exact ih (a + 1) _ (by omega)
  have L1 : ∀ (m b : Nat), b + m = 640 → am_J G (d + 1) mX2_recoverAll am_no (fun r J => r = none ∧ (∀ b, b < 640 → J 0 22 b = nI b) ∧ ∀ a b, b ≠ 22 → J a b = I a b) 2 [some (.inr (0, 21)), some (.inr (0, 2)), some (.inl (nI b)), none, none, none, none] [] (am_upf I 0 22 (am_idn (I 0 22) b)) := by
    intro m
    induction m with
    | zero =>
      intro b ha
      obtain rfl : b = 640 := by omega
      refine am_iload_n dX2_recoverAll_2 rfl ?_
      refine am_sipush (v := nI 640) dX2_recoverAll_3 (by decide) ?_
      refine am_icmp_ge (tgt := 22) dX2_recoverAll_6 (by decide) (fun _ => ?_) (fun h => absurd ((nI_leI (a := 640) (b := 640) (by omega) (by omega)).mpr (by omega)) h)
      refine am_iconst (v := nI 0) dX2_recoverAll_22 (by decide) ?_
      refine am_istore_n dX2_recoverAll_23 (by decide) ?_
      exact L2 G.2.2.2.1 0 none (by omega)
    | succ m ih =>
      intro b ha
      refine am_iload_n dX2_recoverAll_2 rfl ?_
      refine am_sipush (v := nI 640) dX2_recoverAll_3 (by decide) ?_
      refine am_icmp_ge (tgt := 22) dX2_recoverAll_6 (by decide) (fun h => absurd ((nI_leI (a := 640) (b := b) (by omega) (by omega)).mp h) (by omega)) (fun _ => ?_)
      refine am_aload_n dX2_recoverAll_9 rfl ?_
      refine am_get (v := .inr (0, 22)) dX2_recoverAll_10 fl_2_9 (hG.m0 (by decide)) rfl ?_
      refine am_iload_n dX2_recoverAll_13 rfl ?_
      refine am_iload_n dX2_recoverAll_14 rfl ?_
      refine am_iast (a := b) dX2_recoverAll_15 (hG.m0 (by decide)) rfl rfl (show b < 640 from (by omega)) (show 640 < 2 ^ 31 by decide) ?_
      refine am_iinc (v := nI (b + 1)) dX2_recoverAll_16 rfl (nI_add _ _) ?_
      refine am_goto (tgt := 2) dX2_recoverAll_19 (by decide) ?_
      rw [am_up_upf, am_idns]
      exact ih (b + 1) (by omega)
  refine am_of (by decide +kernel) hG.nd (Nat.le_of_ble_eq_true rfl) ?_
  refine am_iconst (v := nI 0) dX2_recoverAll_0 (by decide) ?_
  refine am_istore_n dX2_recoverAll_1 (by decide) ?_
  have := L1 640 0 (by omega)
  rw [am_idn0, am_upf_self] at this
  exact this
theorem c_follow0 {G : am_G} (hG : am_ok G) {d : Nat} {I : am_I} (hD : ∀ k, I 0 1 k = am_dk G.2.2.2.1 k) (hS : ∀ b, b < 640 → I 0 22 b = nI b)  : am_C G (d + 2) mX2_followEntries [.inr (0, 21), .inl (nI 0)] I (am_E none I) := by
  have hn4 := hG.hi
  have hn2 := hG.lo
  refine am_of (by decide +kernel) hG.nd (Nat.le_of_ble_eq_true rfl) ?_
  refine am_iload_n dX2_followEntries_0 rfl ?_
  refine am_callSNx (as := [.inl (nI 0)]) (rest := []) dX2_followEntries_1 lkX10_inodeBlock nl_X2_81 isX10_inodeBlock rfl (Nat.le_of_ble_eq_true rfl) rfl (c_inodeBlock hG.nd (k := 0) (by omega) I) ?_
  refine am_istore_n dX2_followEntries_4 (by decide) ?_
  refine am_sipush (v := nI 384) dX2_followEntries_5 (by decide) ?_
  refine am_aload_n dX2_followEntries_8 rfl ?_
  refine am_iload_n dX2_followEntries_9 rfl ?_
  refine am_iconst (v := nI 2) dX2_followEntries_10 (by decide) ?_
  refine am_callVx (i := 0) (j := 21) (as := [.inl (nI 129), .inl (nI 2)]) (rest := [.inl (nI 384)]) dX2_followEntries_11 lkX2_at ml_X2_84 imX2_at seX2_at rfl rfl (hG.m0 (by decide)) rfl (Nat.le_of_ble_eq_true rfl) rfl (c_at hG (by omega) (by omega) I hS) ?_
  refine am_top (show I 0 1 (129 * 16 + 2) = nI 0 from (hD (129 * 16 + 2)).trans rfl) ?_
  refine am_callSx (as := [.inl (nI 384), .inl (nI 0)]) (rest := []) dX2_followEntries_14 lkJ9_min_7cf53 ml_X2_67 isJ9_min_7cf53 rfl (Nat.le_of_ble_eq_true rfl) rfl (c_min hG.nd (nI 384) (nI 0) I) ?_
  refine am_top (show (if nI 384 ≤ nI 0 then nI 384 else nI 0) = nI 0 by decide) ?_
  refine am_istore_n dX2_followEntries_17 (by decide) ?_
  refine am_aload_n dX2_followEntries_18 rfl ?_
  refine am_iload_n dX2_followEntries_19 rfl ?_
  refine am_bipush (v := nI 11) dX2_followEntries_20 (by decide) ?_
  refine am_callVx (i := 0) (j := 21) (as := [.inl (nI 129), .inl (nI 11)]) (rest := []) dX2_followEntries_22 lkX2_at ml_X2_84 imX2_at seX2_at rfl rfl (hG.m0 (by decide)) rfl (Nat.le_of_ble_eq_true rfl) rfl (c_at hG (by omega) (by omega) I hS) ?_
  refine am_top (show I 0 1 (129 * 16 + 11) = nI 0 from (hD (129 * 16 + 11)).trans rfl) ?_
  refine am_istore dX2_followEntries_25 (by decide) ?_
  refine am_iconst (v := nI 0) dX2_followEntries_27 (by decide) ?_
  refine am_istore dX2_followEntries_28 (by decide) ?_
  refine am_iload dX2_followEntries_30 rfl ?_
  refine am_iload_n dX2_followEntries_32 rfl ?_
  refine am_icmp_ge (tgt := 169) dX2_followEntries_33 (by decide) (fun _ => ?_) (fun h => absurd h (by decide))
  refine am_vret dX2_followEntries_169 rfl ?_
  exact ⟨rfl, rfl⟩
theorem c_reach0 {G : am_G} (hG : am_ok G) {d : Nat} (I : am_I) (hD : ∀ k, I 0 1 k = am_dk G.2.2.2.1 k) (hS : ∀ b, b < 640 → I 0 22 b = nI b)  (hr0 : I 0 24 0 = nI 0) (hqu : I 0 21 5 = nI 0) : am_C G (d + 3) mX2_reach [.inr (0, 21), .inl (nI 0)] I (am_E none (am_up (am_up (am_up I 0 24 0 (nI 1)) 0 25 0 (nI 0)) 0 21 5 (nI 1))) := by
  have hn4 := hG.hi
  have hn2 := hG.lo
  refine am_of (by decide +kernel) hG.nd (Nat.le_of_ble_eq_true rfl) ?_
  refine am_aload_n dX2_reach_0 rfl ?_
  refine am_get (v := .inr (0, 24)) dX2_reach_1 fl_2_18 (hG.m0 (by decide)) rfl ?_
  refine am_iload_n dX2_reach_4 rfl ?_
  refine am_zald (a := 0) dX2_reach_5 (hG.m0 (by decide)) rfl rfl (show 0 < 128 from (by omega)) (show 128 < 2 ^ 31 by decide) ?_
  refine am_top (show I 0 24 0 = nI 0 from (by simp [am_up, am_upf, upd, hr0, hqu])) ?_
  refine am_if_ne (tgt := 55) dX2_reach_6 (by decide) (fun h => absurd h (by decide)) (fun _ => ?_)
  refine am_aload_n dX2_reach_9 rfl ?_
  refine am_get (v := .inr (0, 24)) dX2_reach_10 fl_2_18 (hG.m0 (by decide)) rfl ?_
  refine am_iload_n dX2_reach_13 rfl ?_
  refine am_iconst (v := nI 1) dX2_reach_14 (by decide) ?_
  refine am_zast (a := 0) dX2_reach_15 (hG.m0 (by decide)) rfl (by decide) rfl (show 0 < 128 from (by omega)) (show 128 < 2 ^ 31 by decide) ?_
  refine am_aload_n dX2_reach_16 rfl ?_
  refine am_iload_n dX2_reach_17 rfl ?_
  refine am_callVx (i := 0) (j := 21) (as := [.inl (nI 0)]) (rest := []) dX2_reach_18 lkX2_kindOf ml_X2_104 imX2_kindOf seX2_kindOf rfl rfl (hG.m0 (by decide)) rfl (Nat.le_of_ble_eq_true rfl) rfl (c_kindOf hG (by omega) (am_up I 0 24 0 (nI 1)) (show ∀ b, b < 640 → (am_up I 0 24 0 (nI 1)) 0 22 b = nI b from fun b hb => by simp [am_up, am_upf, upd, hS b hb])) ?_
  refine am_top (show (am_up I 0 24 0 (nI 1)) 0 1 ((129 + 64 * (0 / 16) + 0 % 16) * 16 + 0) = nI 2 from ((show ∀ k, (am_up I 0 24 0 (nI 1)) 0 1 k = am_dk G.2.2.2.1 k from fun k => by simp [am_up, am_upf, hD k]) ((129 + 64 * (0 / 16) + 0 % 16) * 16 + 0)).trans rfl) ?_
  refine am_iconst (v := nI 2) dX2_reach_21 (by decide) ?_
  refine am_icmp_ne (tgt := 55) dX2_reach_22 (by decide) (fun h => absurd h (by decide)) (fun _ => ?_)
  refine am_aload_n dX2_reach_25 rfl ?_
  refine am_get (v := .inl ((am_up I 0 24 0 (nI 1)) 0 21 5)) dX2_reach_26 fl_2_93 (hG.m0 (by decide)) rfl ?_
  refine am_top (show (am_up I 0 24 0 (nI 1)) 0 21 5 = nI 0 from (by simp [am_up, am_upf, upd, hr0, hqu])) ?_
  refine am_sipush (v := nI 128) dX2_reach_29 (by decide) ?_
  refine am_icmp_ge (tgt := 55) dX2_reach_32 (by decide) (fun h => absurd h (by decide)) (fun _ => ?_)
  refine am_aload_n dX2_reach_35 rfl ?_
  refine am_get (v := .inr (0, 25)) dX2_reach_36 fl_2_22 (hG.m0 (by decide)) rfl ?_
  refine am_aload_n dX2_reach_39 rfl ?_
  refine am_get (v := .inl ((am_up I 0 24 0 (nI 1)) 0 21 5)) dX2_reach_40 fl_2_93 (hG.m0 (by decide)) rfl ?_
  refine am_top (show (am_up I 0 24 0 (nI 1)) 0 21 5 = nI 0 from (by simp [am_up, am_upf, upd, hr0, hqu])) ?_
  refine am_iload_n dX2_reach_43 rfl ?_
  refine am_iast (a := 0) dX2_reach_44 (hG.m0 (by decide)) rfl rfl (show 0 < 128 from (by omega)) (show 128 < 2 ^ 31 by decide) ?_
  refine am_aload_n dX2_reach_45 rfl ?_
  refine am_dup dX2_reach_46 ?_
  refine am_get (v := .inl ((am_up (am_up I 0 24 0 (nI 1)) 0 25 0 (nI 0)) 0 21 5)) dX2_reach_47 fl_2_93 (hG.m0 (by decide)) rfl ?_
  refine am_top (show (am_up (am_up I 0 24 0 (nI 1)) 0 25 0 (nI 0)) 0 21 5 = nI 0 from (by simp [am_up, am_upf, upd, hr0, hqu])) ?_
  refine am_iconst (v := nI 1) dX2_reach_50 (by decide) ?_
  refine am_iadd dX2_reach_51 ?_
  refine am_top (show (nI 0) + (nI 1) = nI 1 by decide) ?_
  refine am_put (x := nI 1) dX2_reach_52 fp_2_93 (hG.m0 (by decide)) (Nat.le_of_ble_eq_true rfl) rfl ?_
  refine am_vret dX2_reach_55 rfl ?_
  exact ⟨rfl, rfl⟩
theorem c_walk0 {G : am_G} (hG : am_ok G) {d : Nat} {I : am_I} (hD : ∀ k, I 0 1 k = am_dk G.2.2.2.1 k) (hS : ∀ b, b < 640 → I 0 22 b = nI b)  : am_C G (d + 4) mX2_walk [.inr (0, 21)] I (fun r J => r = none ∧ (∀ k, k < 128 → J 0 23 k = nI 0) ∧ (∀ k, 1 ≤ k → k < 128 → J 0 24 k = nI 0) ∧ J 0 21 7 = nI 0 ∧ ∀ a b, b ≠ 21 → b ≠ 23 → b ≠ 24 → b ≠ 25 → J a b = I a b) := by
  have hn4 := hG.hi
  have hn2 := hG.lo
  have R : am_J G (d + 4) mX2_walk am_no (fun r J => r = none ∧ (∀ k, k < 128 → J 0 23 k = nI 0) ∧ (∀ k, 1 ≤ k → k < 128 → J 0 24 k = nI 0) ∧ J 0 21 7 = nI 0 ∧ ∀ a b, b ≠ 21 → b ≠ 23 → b ≠ 24 → b ≠ 25 → J a b = I a b) 30 [some (.inr (0, 21)), some (.inl (nI 128))] [] (am_upf (am_upf I 0 23 (am_fil (I 0 23) 128 (nI 0))) 0 24 (am_fil ((am_upf I 0 23 (am_fil (I 0 23) 128 (nI 0))) 0 24) 128 (nI 0))) := by
    refine am_aload_n dX2_walk_30 rfl ?_
    refine am_iconst (v := nI 0) dX2_walk_31 (by decide) ?_
    refine am_putz (x := nI 0) dX2_walk_32 fp_2_38 (hG.m0 (by decide)) (by decide) (Nat.le_of_ble_eq_true rfl) rfl ?_
    refine am_aload_n dX2_walk_35 rfl ?_
    refine am_iconst (v := nI 0) dX2_walk_36 (by decide) ?_
    refine am_put (x := nI 0) dX2_walk_37 fp_2_93 (hG.m0 (by decide)) (Nat.le_of_ble_eq_true rfl) rfl ?_
    refine am_aload_n dX2_walk_40 rfl ?_
    refine am_iconst (v := nI 0) dX2_walk_41 (by decide) ?_
    refine am_callVe (i := 0) (j := 21) (as := [.inl (nI 0)]) (rest := []) dX2_walk_42 lkX2_reach ml_X2_97 imX2_reach seX2_reach rfl rfl (hG.m0 (by decide)) rfl (Nat.le_of_ble_eq_true rfl) rfl (c_reach0 hG (am_up (am_up (am_upf (am_upf I 0 23 (am_fil (I 0 23) 128 (nI 0))) 0 24 (am_fil ((am_upf I 0 23 (am_fil (I 0 23) 128 (nI 0))) 0 24) 128 (nI 0))) 0 21 7 (nI 0)) 0 21 5 (nI 0)) (show ∀ k, (am_up (am_up (am_upf (am_upf I 0 23 (am_fil (I 0 23) 128 (nI 0))) 0 24 (am_fil ((am_upf I 0 23 (am_fil (I 0 23) 128 (nI 0))) 0 24) 128 (nI 0))) 0 21 7 (nI 0)) 0 21 5 (nI 0)) 0 1 k = am_dk G.2.2.2.1 k from fun k => by simp [am_up, am_upf, hD k]) (show ∀ b, b < 640 → (am_up (am_up (am_upf (am_upf I 0 23 (am_fil (I 0 23) 128 (nI 0))) 0 24 (am_fil ((am_upf I 0 23 (am_fil (I 0 23) 128 (nI 0))) 0 24) 128 (nI 0))) 0 21 7 (nI 0)) 0 21 5 (nI 0)) 0 22 b = nI b from fun b hb => by simp [am_up, am_upf, upd, hS b hb]) (by simp [am_up, am_upf, upd, am_fil]) (by simp [am_up, am_upf, upd, am_fil])) ?_
    refine am_nm (fun I1 hI1 => ?_)
    refine am_iconst (v := nI 0) dX2_walk_45 (by decide) ?_
    refine am_istore_n dX2_walk_46 (by decide) ?_
    refine am_iload_n dX2_walk_47 rfl ?_
    refine am_aload_n dX2_walk_48 rfl ?_
    refine am_get (v := .inl (I1 0 21 5)) dX2_walk_49 fl_2_93 (hG.m0 (by decide)) rfl ?_
    refine am_top (show I1 0 21 5 = nI 1 from (by simp [am_up, am_upf, upd, am_fil, hI1])) ?_
    refine am_icmp_ge (tgt := 78) dX2_walk_52 (by decide) (fun h => absurd h (by decide)) (fun _ => ?_)
    refine am_iload_n dX2_walk_55 rfl ?_
    refine am_sipush (v := nI 128) dX2_walk_56 (by decide) ?_
    refine am_icmp_ge (tgt := 78) dX2_walk_59 (by decide) (fun h => absurd h (by decide)) (fun _ => ?_)
    refine am_aload_n dX2_walk_62 rfl ?_
    refine am_aload_n dX2_walk_63 rfl ?_
    refine am_get (v := .inr (0, 25)) dX2_walk_64 fl_2_22 (hG.m0 (by decide)) rfl ?_
    refine am_iload_n dX2_walk_67 rfl ?_
    refine am_iald (a := 0) dX2_walk_68 (hG.m0 (by decide)) rfl rfl (show 0 < 128 from (by omega)) (show 128 < 2 ^ 31 by decide) ?_
    refine am_top (show I1 0 25 0 = nI 0 from (by simp [am_up, am_upf, upd, am_fil, hI1])) ?_
    refine am_callVe (i := 0) (j := 21) (as := [.inl (nI 0)]) (rest := []) dX2_walk_69 lkX2_followEntries ml_X2_101 imX2_followEntries seX2_followEntries rfl rfl (hG.m0 (by decide)) rfl (Nat.le_of_ble_eq_true rfl) rfl (c_follow0 hG (show ∀ k, (I1) 0 1 k = am_dk G.2.2.2.1 k from fun k => by simp [am_up, am_upf, hD k, hI1]) (show ∀ b, b < 640 → (I1) 0 22 b = nI b from fun b hb => by simp [am_up, am_upf, upd, hS b hb, hI1])) ?_
    refine am_iinc (v := nI 1) dX2_walk_72 rfl (by decide) ?_
    refine am_goto (tgt := 47) dX2_walk_75 (by decide) ?_
    refine am_iload_n dX2_walk_47 rfl ?_
    refine am_aload_n dX2_walk_48 rfl ?_
    refine am_get (v := .inl (I1 0 21 5)) dX2_walk_49 fl_2_93 (hG.m0 (by decide)) rfl ?_
    refine am_top (show I1 0 21 5 = nI 1 from (by simp [am_up, am_upf, upd, am_fil, hI1])) ?_
    refine am_icmp_ge (tgt := 78) dX2_walk_52 (by decide) (fun _ => ?_) (fun h => absurd h (by decide))
    refine am_vret dX2_walk_78 rfl ?_
    exact ⟨rfl, fun k hk => by simp [am_up, am_upf, upd, am_fil, hk, hI1], fun k h1 hk => by simp [am_up, am_upf, upd, am_fil, hk, hI1]; omega, by simp [am_up, am_upf, upd, hI1], fun a b h1 h2 h3 h4 => by simp [am_up, am_upf, h1, h2, h3, h4, hI1]⟩
  have L1 : ∀ (m b : Nat), b + m = 128 → am_J G (d + 4) mX2_walk am_no (fun r J => r = none ∧ (∀ k, k < 128 → J 0 23 k = nI 0) ∧ (∀ k, 1 ≤ k → k < 128 → J 0 24 k = nI 0) ∧ J 0 21 7 = nI 0 ∧ ∀ a b, b ≠ 21 → b ≠ 23 → b ≠ 24 → b ≠ 25 → J a b = I a b) 10 [some (.inr (0, 21)), some (.inl (nI b))] [] (am_upf (am_upf I 0 23 (am_fil (I 0 23) 128 (nI 0))) 0 24 (am_fil ((am_upf I 0 23 (am_fil (I 0 23) 128 (nI 0))) 0 24) b (nI 0))) := by
    intro m
    induction m with
    | zero =>
      intro b ha
      obtain rfl : b = 128 := by omega
      refine am_iload_n dX2_walk_10 rfl ?_
      refine am_sipush (v := nI 128) dX2_walk_11 (by decide) ?_
      refine am_icmp_ge (tgt := 30) dX2_walk_14 (by decide) (fun _ => ?_) (fun h => absurd ((nI_leI (a := 128) (b := 128) (by omega) (by omega)).mpr (by omega)) h)
      exact R
    | succ m ih =>
      intro b ha
      refine am_iload_n dX2_walk_10 rfl ?_
      refine am_sipush (v := nI 128) dX2_walk_11 (by decide) ?_
      refine am_icmp_ge (tgt := 30) dX2_walk_14 (by decide) (fun h => absurd ((nI_leI (a := 128) (b := b) (by omega) (by omega)).mp h) (by omega)) (fun _ => ?_)
      refine am_aload_n dX2_walk_17 rfl ?_
      refine am_get (v := .inr (0, 24)) dX2_walk_18 fl_2_18 (hG.m0 (by decide)) rfl ?_
      refine am_iload_n dX2_walk_21 rfl ?_
      refine am_iconst (v := nI 0) dX2_walk_22 (by decide) ?_
      refine am_zast (a := b) dX2_walk_23 (hG.m0 (by decide)) rfl (by decide) rfl (show b < 128 from (by omega)) (show 128 < 2 ^ 31 by decide) ?_
      refine am_iinc (v := nI (b + 1)) dX2_walk_24 rfl (nI_add _ _) ?_
      refine am_goto (tgt := 10) dX2_walk_27 (by decide) ?_
      rw [am_up_upf, am_fils]
      exact ih (b + 1) (by omega)
  refine am_of (by decide +kernel) hG.nd (Nat.le_of_ble_eq_true rfl) ?_
  refine am_aload_n dX2_walk_0 rfl ?_
  refine am_get (v := .inr (0, 23)) dX2_walk_1 fl_2_15 (hG.m0 (by decide)) rfl ?_
  refine am_iconst (v := nI 0) dX2_walk_4 (by decide) ?_
  refine am_callSe (as := [.inr (0, 23), .inl (nI 0)]) (rest := []) dX2_walk_5 lkJ7_fill_53178 ml_X2_87 isJ7_fill_53178 rfl (Nat.le_of_ble_eq_true rfl) rfl (c_fill (i := 0) (j := 23) hG.nd (hG.m0 (by decide)) rfl (show 128 < 2 ^ 31 by decide) (nI 0) I) ?_
  refine am_iconst (v := nI 0) dX2_walk_8 (by decide) ?_
  refine am_istore_n dX2_walk_9 (by decide) ?_
  have := L1 128 0 (by omega)
  rw [am_fil0, am_upf_self] at this
  exact this
theorem c_look0 {G : am_G} (hG : am_ok G) {d : Nat} {I : am_I} (hj : ∀ x, x < G.2.2.2.1 → I x 40 6 = nI 1) (hD : ∀ k, I 0 1 k = am_dk G.2.2.2.1 k)  : am_C G (d + 5) mX2_look [.inr (0, 21), .inr (0, 2)] I (fun r J => r = some (nI 0)) := by
  have hn4 := hG.hi
  have hn2 := hG.lo
  refine am_of (by decide +kernel) hG.nd (Nat.le_of_ble_eq_true rfl) ?_
  refine am_aload_n dX2_look_0 rfl ?_
  refine am_aload_n dX2_look_1 rfl ?_
  refine am_callVv (i := 0) (j := 21) (as := [.inr (0, 2)]) (rest := []) dX2_look_2 lkX2_recoverAll ml_X2_31 imX2_recoverAll seX2_recoverAll rfl rfl (hG.m0 (by decide)) rfl (Nat.le_of_ble_eq_true rfl) rfl (c_recoverAll0 hG hj hD) rfl (fun J1 hq => ?_)
  have hD : ∀ k, J1 0 1 k = am_dk G.2.2.2.1 k := fun k => by rw [hq.2.2 0 1 (by decide)]; exact hD k
  have hS := hq.2.1
  refine am_aload_n dX2_look_5 rfl ?_
  refine am_callVv (i := 0) (j := 21) (as := []) (rest := []) dX2_look_6 lkX2_walk ml_X2_35 imX2_walk seX2_walk rfl rfl (hG.m0 (by decide)) rfl (Nat.le_of_ble_eq_true rfl) rfl (c_walk0 hG hD hS) rfl (fun J2 hq => ?_)
  have hN := hq.2.1
  have hR := hq.2.2.1
  have hdg := hq.2.2.2.1
  have hD : ∀ k, J2 0 1 k = am_dk G.2.2.2.1 k := fun k => by rw [hq.2.2.2.2 0 1 (by decide) (by decide) (by decide) (by decide)]; exact hD k
  have hS : ∀ b, b < 640 → J2 0 22 b = nI b := fun b hb => by rw [hq.2.2.2.2 0 22 (by decide) (by decide) (by decide) (by decide)]; exact hS b hb
  refine am_aload_n dX2_look_9 rfl ?_
  refine am_get (v := .inl (J2 0 21 7)) dX2_look_10 fl_2_38 (hG.m0 (by decide)) rfl ?_
  refine am_top hdg ?_
  refine am_if_eq (tgt := 18) dX2_look_13 (by decide) (fun _ => ?_) (fun h => absurd h (by decide))
  refine am_aload_n dX2_look_18 rfl ?_
  refine am_callVx (i := 0) (j := 21) (as := []) (rest := []) dX2_look_19 lkX2_isNamedTwice ml_X2_42 imX2_isNamedTwice seX2_isNamedTwice rfl rfl (hG.m0 (by decide)) rfl (Nat.le_of_ble_eq_true rfl) rfl (c_isNamedTwice0 hG hN) ?_
  refine am_if_eq (tgt := 27) dX2_look_22 (by decide) (fun _ => ?_) (fun h => absurd h (by decide))
  refine am_aload_n dX2_look_27 rfl ?_
  refine am_callVx (i := 0) (j := 21) (as := []) (rest := []) dX2_look_28 lkX2_isLeftAlone ml_X2_46 imX2_isLeftAlone seX2_isLeftAlone rfl rfl (hG.m0 (by decide)) rfl (Nat.le_of_ble_eq_true rfl) rfl (c_isLeftAlone0 hG hR hD hS) ?_
  refine am_if_eq (tgt := 36) dX2_look_31 (by decide) (fun _ => ?_) (fun h => absurd h (by decide))
  refine am_aload_n dX2_look_36 rfl ?_
  refine am_callVx (i := 0) (j := 21) (as := []) (rest := []) dX2_look_37 lkX2_hasWrongLinks ml_X2_49 imX2_hasWrongLinks seX2_hasWrongLinks rfl rfl (hG.m0 (by decide)) rfl (Nat.le_of_ble_eq_true rfl) rfl (c_hasWrongLinks0 hG hN hD hS) ?_
  refine am_if_eq (tgt := 45) dX2_look_40 (by decide) (fun _ => ?_) (fun h => absurd h (by decide))
  refine am_aload_n dX2_look_45 rfl ?_
  refine am_callVi (i := 0) (j := 21) (as := []) (rest := []) dX2_look_46 lkX2_ownBlocks ml_X2_52 imX2_ownBlocks seX2_ownBlocks rfl rfl (hG.m0 (by decide)) rfl (Nat.le_of_ble_eq_true rfl) rfl (c_ownBlocks0 hG hD hS) rfl (fun r3 J3 hq => ?_)
  obtain rfl := Option.some.inj hq.1
  have hB := hq.2.1
  have hD : ∀ k, J3 0 1 k = am_dk G.2.2.2.1 k := fun k => by rw [hq.2.2 0 1 (by decide)]; exact hD k
  have hS : ∀ b, b < 640 → J3 0 22 b = nI b := fun b hb => by rw [hq.2.2 0 22 (by decide)]; exact hS b hb
  refine am_if_ne (tgt := 54) dX2_look_49 (by decide) (fun _ => ?_) (fun h => absurd h (by decide))
  refine am_aload_n dX2_look_54 rfl ?_
  refine am_callVx (i := 0) (j := 21) (as := []) (rest := []) dX2_look_55 lkX2_hasWrongMap ml_X2_55 imX2_hasWrongMap seX2_hasWrongMap rfl rfl (hG.m0 (by decide)) rfl (Nat.le_of_ble_eq_true rfl) rfl (c_hasWrongMap0 hG hB hD hS) ?_
  refine am_if_eq (tgt := 66) dX2_look_58 (by decide) (fun _ => ?_) (fun h => absurd h (by decide))
  refine am_iconst (v := nI 0) dX2_look_66 (by decide) ?_
  refine am_iret dX2_look_67 rfl rfl ?_
  exact rfl
theorem j_about9 {G : am_G} (hG : am_ok G) {d : Nat} {TH : Nat → List (Option am_V) → List am_V → am_I → Prop} {Q : Option Int32 → am_I → Prop} {I : am_I}  (hI : I = am_fr G.2.2.2.1) (hQ : ∀ J, Q (some (nI 0)) J) : am_J G (d + 6) mX10_about TH Q 0 [some (.inr (0, 0)), some (.inl (nI 9))] [] I := by
  have hn4 := hG.hi
  have hn2 := hG.lo
  refine am_iload_n dX10_about_0 rfl ?_
  refine am_tabIn (off := 112) (tgt := 113) dX10_about_1 (by decide) (by decide) rfl (by decide) ?_
  refine am_aload_n dX10_about_113 rfl ?_
  refine am_get (v := .inr (0, 21)) dX10_about_114 fl_10_61 (hG.m0 (by decide)) rfl ?_
  refine am_aload_n dX10_about_117 rfl ?_
  refine am_get (v := .inr (0, 2)) dX10_about_118 fl_10_19 (hG.m0 (by decide)) rfl ?_
  refine am_callVi (i := 0) (j := 21) (as := [.inr (0, 2)]) (rest := []) dX10_about_121 lkX2_look ml_X10_313 imX2_look seX2_look rfl rfl (hG.m0 (by decide)) rfl (Nat.le_of_ble_eq_true rfl) rfl (c_look0 hG (fun x hx => by simp [hI, am_fr]) (fun k => by simp [hI, am_fr])) rfl (fun r4 J4 hq => ?_)
  obtain rfl := Option.some.inj hq
  refine am_iret dX10_about_124 rfl rfl ?_
  exact hQ _
