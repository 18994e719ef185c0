theorem c_MfindHolders0 {G : am_G} (hG : am_okM G) {d : Nat} {I : am_I} (hA : ∀ k, k < 10240 → I 0 127 k = am_dk G.2.2.2.1 k)  : am_C G (d + 3) mX11_findHolders [.inr (0, 60)] I (fun rr J => rr = none ∧ (∀ b, b < 640 → J 0 131 b = nI 0) ∧ ∀ a b, b ≠ 131 → J a b = I a b) := by
  have hn4 := hG.hi
  have hn2 := hG.lo
  have L2 : ∀ (m a : Nat) (s2 s3 : Option am_V), a + m = 127 → am_J G (d + 3) mX11_findHolders am_no (fun rr J => rr = none ∧ (∀ b, b < 640 → J 0 131 b = nI 0) ∧ ∀ a b, b ≠ 131 → J a b = I a b) 24 [some (.inr (0, 60)), some (.inl (nI (a + 1))), s2, s3] [] (am_upf I 0 131 (am_fil (I 0 131) 640 (nI 0))) := by
    intro m
    induction m with
    | zero =>
      intro a s2 s3 ha
      obtain rfl : a = 127 := by omega
      refine am_iload_n dX11_findHolders_24 rfl ?_
      refine am_sipush (v := nI 128) dX11_findHolders_25 (by decide) ?_
      refine am_icmp_ge (tgt := 117) dX11_findHolders_28 (by decide) (fun _ => ?_) (fun h => absurd ((nI_leI (a := 128) (b := 127 + 1) (by omega) (by omega)).mpr (by omega)) h)
      refine am_vret dX11_findHolders_117 rfl ?_
      exact ⟨rfl, fun b hb => by simp [am_upf, am_fil, hb], fun a b hb => by simp [am_upf, hb]⟩
    | succ m ih =>
      intro a s2 s3 ha
      refine am_iload_n dX11_findHolders_24 rfl ?_
      refine am_sipush (v := nI 128) dX11_findHolders_25 (by decide) ?_
      refine am_icmp_ge (tgt := 117) dX11_findHolders_28 (by decide) (fun h => absurd ((nI_leI (a := 128) (b := a + 1) (by omega) (by omega)).mp h) (by omega)) (fun _ => ?_)
      refine am_aload_n dX11_findHolders_31 rfl ?_
      refine am_iload_n dX11_findHolders_32 rfl ?_
      refine am_iconst (v := nI 0) dX11_findHolders_33 (by decide) ?_
      refine am_callVx (i := 0) (j := 60) (as := [.inl (nI (a + 1)), .inl (nI 0)]) (rest := []) dX11_findHolders_34 lkX11_allInode ml_X11_496 imX11_allInode seX11_allInode rfl rfl (hG.m0 (by decide)) rfl (Nat.le_of_ble_eq_true rfl) rfl (c_MallInode hG (by omega) (by omega) (am_upf I 0 131 (am_fil (I 0 131) 640 (nI 0)))) ?_
      refine am_top (show (am_upf I 0 131 (am_fil (I 0 131) 640 (nI 0))) 0 127 (16 * (129 + 64 * ((a + 1) / 16) + (a + 1) % 16) + 0) = nI 0 from ((show ∀ k, k < 10240 → (am_upf I 0 131 (am_fil (I 0 131) 640 (nI 0))) 0 127 k = am_dk G.2.2.2.1 k from fun k hk => by simp [am_up, am_upf, hA k hk]) _ (by omega)).trans (am_dk0 (by omega) (by omega) (by omega) (by omega) (by omega))) ?_
      refine am_if_ne (tgt := 43) dX11_findHolders_37 (by decide) (fun h => absurd h (by decide)) (fun _ => ?_)
      refine am_goto (tgt := 111) dX11_findHolders_40 (by decide) ?_
      refine am_iinc (v := nI (a + 1 + 1)) dX11_findHolders_111 rfl (nI_add _ _) ?_
      refine am_goto (tgt := 24) dX11_findHolders_114 (by decide) ?_
      exact ih (a + 1) _ _ (by omega)
  have R : am_J G (d + 3) mX11_findHolders am_no (fun rr J => rr = none ∧ (∀ b, b < 640 → J 0 131 b = nI 0) ∧ ∀ a b, b ≠ 131 → J a b = I a b) 24 [some (.inr (0, 60)), some (.inl (nI 0)), none, none] [] (am_upf I 0 131 (am_fil (I 0 131) 640 (nI 0))) := by
    refine am_iload_n dX11_findHolders_24 rfl ?_
    refine am_sipush (v := nI 128) dX11_findHolders_25 (by decide) ?_
    refine am_icmp_ge (tgt := 117) dX11_findHolders_28 (by decide) (fun h => absurd h (by decide)) (fun _ => ?_)
    refine am_aload_n dX11_findHolders_31 rfl ?_
    refine am_iload_n dX11_findHolders_32 rfl ?_
    refine am_iconst (v := nI 0) dX11_findHolders_33 (by decide) ?_
    refine am_callVx (i := 0) (j := 60) (as := [.inl (nI 0), .inl (nI 0)]) (rest := []) dX11_findHolders_34 lkX11_allInode ml_X11_496 imX11_allInode seX11_allInode rfl rfl (hG.m0 (by decide)) rfl (Nat.le_of_ble_eq_true rfl) rfl (c_MallInode hG (by omega) (by omega) (am_upf I 0 131 (am_fil (I 0 131) 640 (nI 0)))) ?_
    refine am_top (show (am_upf I 0 131 (am_fil (I 0 131) 640 (nI 0))) 0 127 (16 * (129 + 64 * (0 / 16) + 0 % 16) + 0) = nI 2 from ((show ∀ k, k < 10240 → (am_upf I 0 131 (am_fil (I 0 131) 640 (nI 0))) 0 127 k = am_dk G.2.2.2.1 k from fun k hk => by simp [am_up, am_upf, hA k hk]) (16 * (129 + 64 * (0 / 16) + 0 % 16) + 0) (by decide)).trans rfl) ?_
    refine am_if_ne (tgt := 43) dX11_findHolders_37 (by decide) (fun _ => ?_) (fun h => absurd h (by decide))
    refine am_iconst (v := nI 3) dX11_findHolders_43 (by decide) ?_
    refine am_istore_n dX11_findHolders_44 (by decide) ?_
    refine am_iload_n dX11_findHolders_45 rfl ?_
    refine am_bipush (v := nI 11) dX11_findHolders_46 (by decide) ?_
    refine am_icmp_gt (tgt := 67) dX11_findHolders_48 (by decide) (fun h => absurd h (by decide)) (fun _ => ?_)
    refine am_aload_n dX11_findHolders_51 rfl ?_
    refine am_aload_n dX11_findHolders_52 rfl ?_
    refine am_iload_n dX11_findHolders_53 rfl ?_
    refine am_iload_n dX11_findHolders_54 rfl ?_
    refine am_callVx (i := 0) (j := 60) (as := [.inl (nI 0), .inl (nI 3)]) (rest := [.inr (0, 60)]) dX11_findHolders_55 lkX11_allInode ml_X11_496 imX11_allInode seX11_allInode rfl rfl (hG.m0 (by decide)) rfl (Nat.le_of_ble_eq_true rfl) rfl (c_MallInode hG (by omega) (by omega) (am_upf I 0 131 (am_fil (I 0 131) 640 (nI 0)))) ?_
    refine am_top (show (am_upf I 0 131 (am_fil (I 0 131) 640 (nI 0))) 0 127 (16 * (129 + 64 * (0 / 16) + 0 % 16) + 3) = nI 0 from ((show ∀ k, k < 10240 → (am_upf I 0 131 (am_fil (I 0 131) 640 (nI 0))) 0 127 k = am_dk G.2.2.2.1 k from fun k hk => by simp [am_up, am_upf, hA k hk]) (16 * (129 + 64 * (0 / 16) + 0 % 16) + 3) (by decide)).trans rfl) ?_
    refine am_callVe (i := 0) (j := 60) (as := [.inl (nI 0)]) (rest := []) dX11_findHolders_58 lkX11_hold ml_X11_505 imX11_hold seX11_hold rfl rfl (hG.m0 (by decide)) rfl (Nat.le_of_ble_eq_true rfl) rfl (c_Mhold0 hG (am_upf I 0 131 (am_fil (I 0 131) 640 (nI 0)))) ?_
    refine am_iinc (v := nI 4) dX11_findHolders_61 rfl (by decide) ?_
    refine am_goto (tgt := 45) dX11_findHolders_64 (by decide) ?_
    refine am_iload_n dX11_findHolders_45 rfl ?_
    refine am_bipush (v := nI 11) dX11_findHolders_46 (by decide) ?_
    refine am_icmp_gt (tgt := 67) dX11_findHolders_48 (by decide) (fun h => absurd h (by decide)) (fun _ => ?_)
    refine am_aload_n dX11_findHolders_51 rfl ?_
    refine am_aload_n dX11_findHolders_52 rfl ?_
    refine am_iload_n dX11_findHolders_53 rfl ?_
    refine am_iload_n dX11_findHolders_54 rfl ?_
    refine am_callVx (i := 0) (j := 60) (as := [.inl (nI 0), .inl (nI 4)]) (rest := [.inr (0, 60)]) dX11_findHolders_55 lkX11_allInode ml_X11_496 imX11_allInode seX11_allInode rfl rfl (hG.m0 (by decide)) rfl (Nat.le_of_ble_eq_true rfl) rfl (c_MallInode hG (by omega) (by omega) (am_upf I 0 131 (am_fil (I 0 131) 640 (nI 0)))) ?_
    refine am_top (show (am_upf I 0 131 (am_fil (I 0 131) 640 (nI 0))) 0 127 (16 * (129 + 64 * (0 / 16) + 0 % 16) + 4) = nI 0 from ((show ∀ k, k < 10240 → (am_upf I 0 131 (am_fil (I 0 131) 640 (nI 0))) 0 127 k = am_dk G.2.2.2.1 k from fun k hk => by simp [am_up, am_upf, hA k hk]) (16 * (129 + 64 * (0 / 16) + 0 % 16) + 4) (by decide)).trans rfl) ?_
    refine am_callVe (i := 0) (j := 60) (as := [.inl (nI 0)]) (rest := []) dX11_findHolders_58 lkX11_hold ml_X11_505 imX11_hold seX11_hold rfl rfl (hG.m0 (by decide)) rfl (Nat.le_of_ble_eq_true rfl) rfl (c_Mhold0 hG (am_upf I 0 131 (am_fil (I 0 131) 640 (nI 0)))) ?_
    refine am_iinc (v := nI 5) dX11_findHolders_61 rfl (by decide) ?_
    refine am_goto (tgt := 45) dX11_findHolders_64 (by decide) ?_
    refine am_iload_n dX11_findHolders_45 rfl ?_
    refine am_bipush (v := nI 11) dX11_findHolders_46 (by decide) ?_
    refine am_icmp_gt (tgt := 67) dX11_findHolders_48 (by decide) (fun h => absurd h (by decide)) (fun _ => ?_)
    refine am_aload_n dX11_findHolders_51 rfl ?_
    refine am_aload_n dX11_findHolders_52 rfl ?_
    refine am_iload_n dX11_findHolders_53 rfl ?_
    refine am_iload_n dX11_findHolders_54 rfl ?_
    refine am_callVx (i := 0) (j := 60) (as := [.inl (nI 0), .inl (nI 5)]) (rest := [.inr (0, 60)]) dX11_findHolders_55 lkX11_allInode ml_X11_496 imX11_allInode seX11_allInode rfl rfl (hG.m0 (by decide)) rfl (Nat.le_of_ble_eq_true rfl) rfl (c_MallInode hG (by omega) (by omega) (am_upf I 0 131 (am_fil (I 0 131) 640 (nI 0)))) ?_
    refine am_top (show (am_upf I 0 131 (am_fil (I 0 131) 640 (nI 0))) 0 127 (16 * (129 + 64 * (0 / 16) + 0 % 16) + 5) = nI 0 from ((show ∀ k, k < 10240 → (am_upf I 0 131 (am_fil (I 0 131) 640 (nI 0))) 0 127 k = am_dk G.2.2.2.1 k from fun k hk => by simp [am_up, am_upf, hA k hk]) (16 * (129 + 64 * (0 / 16) + 0 % 16) + 5) (by decide)).trans rfl) ?_
    refine am_callVe (i := 0) (j := 60) (as := [.inl (nI 0)]) (rest := []) dX11_findHolders_58 lkX11_hold ml_X11_505 imX11_hold seX11_hold rfl rfl (hG.m0 (by decide)) rfl (Nat.le_of_ble_eq_true rfl) rfl (c_Mhold0 hG (am_upf I 0 131 (am_fil (I 0 131) 640 (nI 0)))) ?_
    refine am_iinc (v := nI 6) dX11_findHolders_61 rfl (by decide) ?_
    refine am_goto (tgt := 45) dX11_findHolders_64 (by decide) ?_
    refine am_iload_n dX11_findHolders_45 rfl ?_
    refine am_bipush (v := nI 11) dX11_findHolders_46 (by decide) ?_
    refine am_icmp_gt (tgt := 67) dX11_findHolders_48 (by decide) (fun h => absurd h (by decide)) (fun _ => ?_)
    refine am_aload_n dX11_findHolders_51 rfl ?_
    refine am_aload_n dX11_findHolders_52 rfl ?_
    refine am_iload_n dX11_findHolders_53 rfl ?_
    refine am_iload_n dX11_findHolders_54 rfl ?_
    refine am_callVx (i := 0) (j := 60) (as := [.inl (nI 0), .inl (nI 6)]) (rest := [.inr (0, 60)]) dX11_findHolders_55 lkX11_allInode ml_X11_496 imX11_allInode seX11_allInode rfl rfl (hG.m0 (by decide)) rfl (Nat.le_of_ble_eq_true rfl) rfl (c_MallInode hG (by omega) (by omega) (am_upf I 0 131 (am_fil (I 0 131) 640 (nI 0)))) ?_
    refine am_top (show (am_upf I 0 131 (am_fil (I 0 131) 640 (nI 0))) 0 127 (16 * (129 + 64 * (0 / 16) + 0 % 16) + 6) = nI 0 from ((show ∀ k, k < 10240 → (am_upf I 0 131 (am_fil (I 0 131) 640 (nI 0))) 0 127 k = am_dk G.2.2.2.1 k from fun k hk => by simp [am_up, am_upf, hA k hk]) (16 * (129 + 64 * (0 / 16) + 0 % 16) + 6) (by decide)).trans rfl) ?_
    refine am_callVe (i := 0) (j := 60) (as := [.inl (nI 0)]) (rest := []) dX11_findHolders_58 lkX11_hold ml_X11_505 imX11_hold seX11_hold rfl rfl (hG.m0 (by decide)) rfl (Nat.le_of_ble_eq_true rfl) rfl (c_Mhold0 hG (am_upf I 0 131 (am_fil (I 0 131) 640 (nI 0)))) ?_
    refine am_iinc (v := nI 7) dX11_findHolders_61 rfl (by decide) ?_
    refine am_goto (tgt := 45) dX11_findHolders_64 (by decide) ?_
    refine am_iload_n dX11_findHolders_45 rfl ?_
    refine am_bipush (v := nI 11) dX11_findHolders_46 (by decide) ?_
    refine am_icmp_gt (tgt := 67) dX11_findHolders_48 (by decide) (fun h => absurd h (by decide)) (fun _ => ?_)
    refine am_aload_n dX11_findHolders_51 rfl ?_
    refine am_aload_n dX11_findHolders_52 rfl ?_
    refine am_iload_n dX11_findHolders_53 rfl ?_
    refine am_iload_n dX11_findHolders_54 rfl ?_
    refine am_callVx (i := 0) (j := 60) (as := [.inl (nI 0), .inl (nI 7)]) (rest := [.inr (0, 60)]) dX11_findHolders_55 lkX11_allInode ml_X11_496 imX11_allInode seX11_allInode rfl rfl (hG.m0 (by decide)) rfl (Nat.le_of_ble_eq_true rfl) rfl (c_MallInode hG (by omega) (by omega) (am_upf I 0 131 (am_fil (I 0 131) 640 (nI 0)))) ?_
    refine am_top (show (am_upf I 0 131 (am_fil (I 0 131) 640 (nI 0))) 0 127 (16 * (129 + 64 * (0 / 16) + 0 % 16) + 7) = nI 0 from ((show ∀ k, k < 10240 → (am_upf I 0 131 (am_fil (I 0 131) 640 (nI 0))) 0 127 k = am_dk G.2.2.2.1 k from fun k hk => by simp [am_up, am_upf, hA k hk]) (16 * (129 + 64 * (0 / 16) + 0 % 16) + 7) (by decide)).trans rfl) ?_
    refine am_callVe (i := 0) (j := 60) (as := [.inl (nI 0)]) (rest := []) dX11_findHolders_58 lkX11_hold ml_X11_505 imX11_hold seX11_hold rfl rfl (hG.m0 (by decide)) rfl (Nat.le_of_ble_eq_true rfl) rfl (c_Mhold0 hG (am_upf I 0 131 (am_fil (I 0 131) 640 (nI 0)))) ?_
    refine am_iinc (v := nI 8) dX11_findHolders_61 rfl (by decide) ?_
    refine am_goto (tgt := 45) dX11_findHolders_64 (by decide) ?_
    refine am_iload_n dX11_findHolders_45 rfl ?_
    refine am_bipush (v := nI 11) dX11_findHolders_46 (by decide) ?_
    refine am_icmp_gt (tgt := 67) dX11_findHolders_48 (by decide) (fun h => absurd h (by decide)) (fun _ => ?_)
    refine am_aload_n dX11_findHolders_51 rfl ?_
    refine am_aload_n dX11_findHolders_52 rfl ?_
    refine am_iload_n dX11_findHolders_53 rfl ?_
    refine am_iload_n dX11_findHolders_54 rfl ?_
    refine am_callVx (i := 0) (j := 60) (as := [.inl (nI 0), .inl (nI 8)]) (rest := [.inr (0, 60)]) dX11_findHolders_55 lkX11_allInode ml_X11_496 imX11_allInode seX11_allInode rfl rfl (hG.m0 (by decide)) rfl (Nat.le_of_ble_eq_true rfl) rfl (c_MallInode hG (by omega) (by omega) (am_upf I 0 131 (am_fil (I 0 131) 640 (nI 0)))) ?_
    refine am_top (show (am_upf I 0 131 (am_fil (I 0 131) 640 (nI 0))) 0 127 (16 * (129 + 64 * (0 / 16) + 0 % 16) + 8) = nI 0 from ((show ∀ k, k < 10240 → (am_upf I 0 131 (am_fil (I 0 131) 640 (nI 0))) 0 127 k = am_dk G.2.2.2.1 k from fun k hk => by simp [am_up, am_upf, hA k hk]) (16 * (129 + 64 * (0 / 16) + 0 % 16) + 8) (by decide)).trans rfl) ?_
    refine am_callVe (i := 0) (j := 60) (as := [.inl (nI 0)]) (rest := []) dX11_findHolders_58 lkX11_hold ml_X11_505 imX11_hold seX11_hold rfl rfl (hG.m0 (by decide)) rfl (Nat.le_of_ble_eq_true rfl) rfl (c_Mhold0 hG (am_upf I 0 131 (am_fil (I 0 131) 640 (nI 0)))) ?_
    refine am_iinc (v := nI 9) dX11_findHolders_61 rfl (by decide) ?_
    refine am_goto (tgt := 45) dX11_findHolders_64 (by decide) ?_
    refine am_iload_n dX11_findHolders_45 rfl ?_
    refine am_bipush (v := nI 11) dX11_findHolders_46 (by decide) ?_
    refine am_icmp_gt (tgt := 67) dX11_findHolders_48 (by decide) (fun h => absurd h (by decide)) (fun _ => ?_)
    refine am_aload_n dX11_findHolders_51 rfl ?_
    refine am_aload_n dX11_findHolders_52 rfl ?_
    refine am_iload_n dX11_findHolders_53 rfl ?_
    refine am_iload_n dX11_findHolders_54 rfl ?_
    refine am_callVx (i := 0) (j := 60) (as := [.inl (nI 0), .inl (nI 9)]) (rest := [.inr (0, 60)]) dX11_findHolders_55 lkX11_allInode ml_X11_496 imX11_allInode seX11_allInode rfl rfl (hG.m0 (by decide)) rfl (Nat.le_of_ble_eq_true rfl) rfl (c_MallInode hG (by omega) (by omega) (am_upf I 0 131 (am_fil (I 0 131) 640 (nI 0)))) ?_
    refine am_top (show (am_upf I 0 131 (am_fil (I 0 131) 640 (nI 0))) 0 127 (16 * (129 + 64 * (0 / 16) + 0 % 16) + 9) = nI 0 from ((show ∀ k, k < 10240 → (am_upf I 0 131 (am_fil (I 0 131) 640 (nI 0))) 0 127 k = am_dk G.2.2.2.1 k from fun k hk => by simp [am_up, am_upf, hA k hk]) (16 * (129 + 64 * (0 / 16) + 0 % 16) + 9) (by decide)).trans rfl) ?_
    refine am_callVe (i := 0) (j := 60) (as := [.inl (nI 0)]) (rest := []) dX11_findHolders_58 lkX11_hold ml_X11_505 imX11_hold seX11_hold rfl rfl (hG.m0 (by decide)) rfl (Nat.le_of_ble_eq_true rfl) rfl (c_Mhold0 hG (am_upf I 0 131 (am_fil (I 0 131) 640 (nI 0)))) ?_
    refine am_iinc (v := nI 10) dX11_findHolders_61 rfl (by decide) ?_
    refine am_goto (tgt := 45) dX11_findHolders_64 (by decide) ?_
    refine am_iload_n dX11_findHolders_45 rfl ?_
    refine am_bipush (v := nI 11) dX11_findHolders_46 (by decide) ?_
    refine am_icmp_gt (tgt := 67) dX11_findHolders_48 (by decide) (fun h => absurd h (by decide)) (fun _ => ?_)
    refine am_aload_n dX11_findHolders_51 rfl ?_
    refine am_aload_n dX11_findHolders_52 rfl ?_
    refine am_iload_n dX11_findHolders_53 rfl ?_
    refine am_iload_n dX11_findHolders_54 rfl ?_
    refine am_callVx (i := 0) (j := 60) (as := [.inl (nI 0), .inl (nI 10)]) (rest := [.inr (0, 60)]) dX11_findHolders_55 lkX11_allInode ml_X11_496 imX11_allInode seX11_allInode rfl rfl (hG.m0 (by decide)) rfl (Nat.le_of_ble_eq_true rfl) rfl (c_MallInode hG (by omega) (by omega) (am_upf I 0 131 (am_fil (I 0 131) 640 (nI 0)))) ?_
    refine am_top (show (am_upf I 0 131 (am_fil (I 0 131) 640 (nI 0))) 0 127 (16 * (129 + 64 * (0 / 16) + 0 % 16) + 10) = nI 0 from ((show ∀ k, k < 10240 → (am_upf I 0 131 (am_fil (I 0 131) 640 (nI 0))) 0 127 k = am_dk G.2.2.2.1 k from fun k hk => by simp [am_up, am_upf, hA k hk]) (16 * (129 + 64 * (0 / 16) + 0 % 16) + 10) (by decide)).trans rfl) ?_
    refine am_callVe (i := 0) (j := 60) (as := [.inl (nI 0)]) (rest := []) dX11_findHolders_58 lkX11_hold ml_X11_505 imX11_hold seX11_hold rfl rfl (hG.m0 (by decide)) rfl (Nat.le_of_ble_eq_true rfl) rfl (c_Mhold0 hG (am_upf I 0 131 (am_fil (I 0 131) 640 (nI 0)))) ?_
    refine am_iinc (v := nI 11) dX11_findHolders_61 rfl (by decide) ?_
    refine am_goto (tgt := 45) dX11_findHolders_64 (by decide) ?_
    refine am_iload_n dX11_findHolders_45 rfl ?_
    refine am_bipush (v := nI 11) dX11_findHolders_46 (by decide) ?_
    refine am_icmp_gt (tgt := 67) dX11_findHolders_48 (by decide) (fun h => absurd h (by decide)) (fun _ => ?_)
    refine am_aload_n dX11_findHolders_51 rfl ?_
    refine am_aload_n dX11_findHolders_52 rfl ?_
    refine am_iload_n dX11_findHolders_53 rfl ?_
    refine am_iload_n dX11_findHolders_54 rfl ?_
    refine am_callVx (i := 0) (j := 60) (as := [.inl (nI 0), .inl (nI 11)]) (rest := [.inr (0, 60)]) dX11_findHolders_55 lkX11_allInode ml_X11_496 imX11_allInode seX11_allInode rfl rfl (hG.m0 (by decide)) rfl (Nat.le_of_ble_eq_true rfl) rfl (c_MallInode hG (by omega) (by omega) (am_upf I 0 131 (am_fil (I 0 131) 640 (nI 0)))) ?_
    refine am_top (show (am_upf I 0 131 (am_fil (I 0 131) 640 (nI 0))) 0 127 (16 * (129 + 64 * (0 / 16) + 0 % 16) + 11) = nI 0 from ((show ∀ k, k < 10240 → (am_upf I 0 131 (am_fil (I 0 131) 640 (nI 0))) 0 127 k = am_dk G.2.2.2.1 k from fun k hk => by simp [am_up, am_upf, hA k hk]) (16 * (129 + 64 * (0 / 16) + 0 % 16) + 11) (by decide)).trans rfl) ?_
    refine am_callVe (i := 0) (j := 60) (as := [.inl (nI 0)]) (rest := []) dX11_findHolders_58 lkX11_hold ml_X11_505 imX11_hold seX11_hold rfl rfl (hG.m0 (by decide)) rfl (Nat.le_of_ble_eq_true rfl) rfl (c_Mhold0 hG (am_upf I 0 131 (am_fil (I 0 131) 640 (nI 0)))) ?_
    refine am_iinc (v := nI 12) dX11_findHolders_61 rfl (by decide) ?_
    refine am_goto (tgt := 45) dX11_findHolders_64 (by decide) ?_
    refine am_iload_n dX11_findHolders_45 rfl ?_
    refine am_bipush (v := nI 11) dX11_findHolders_46 (by decide) ?_
    refine am_icmp_gt (tgt := 67) dX11_findHolders_48 (by decide) (fun _ => ?_) (fun h => absurd h (by decide))
    refine am_aload_n dX11_findHolders_67 rfl ?_
    refine am_iload_n dX11_findHolders_68 rfl ?_
    refine am_bipush (v := nI 11) dX11_findHolders_69 (by decide) ?_
    refine am_callVx (i := 0) (j := 60) (as := [.inl (nI 0), .inl (nI 11)]) (rest := []) dX11_findHolders_71 lkX11_allInode ml_X11_496 imX11_allInode seX11_allInode rfl rfl (hG.m0 (by decide)) rfl (Nat.le_of_ble_eq_true rfl) rfl (c_MallInode hG (by omega) (by omega) (am_upf I 0 131 (am_fil (I 0 131) 640 (nI 0)))) ?_
    refine am_top (show (am_upf I 0 131 (am_fil (I 0 131) 640 (nI 0))) 0 127 (16 * (129 + 64 * (0 / 16) + 0 % 16) + 11) = nI 0 from ((show ∀ k, k < 10240 → (am_upf I 0 131 (am_fil (I 0 131) 640 (nI 0))) 0 127 k = am_dk G.2.2.2.1 k from fun k hk => by simp [am_up, am_upf, hA k hk]) (16 * (129 + 64 * (0 / 16) + 0 % 16) + 11) (by decide)).trans rfl) ?_
    refine am_istore_n dX11_findHolders_74 (by decide) ?_
    refine am_iconst (v := nI 0) dX11_findHolders_75 (by decide) ?_
    refine am_istore_n dX11_findHolders_76 (by decide) ?_
    refine am_iload_n dX11_findHolders_77 rfl ?_
    refine am_callSx (as := [.inl (nI 0)]) (rest := []) dX11_findHolders_78 lkX11_isData ml_X11_499 isX11_isData rfl (Nat.le_of_ble_eq_true rfl) rfl (c_MisData0 hG.nd (am_upf I 0 131 (am_fil (I 0 131) 640 (nI 0)))) ?_
    refine am_if_eq (tgt := 111) dX11_findHolders_81 (by decide) (fun _ => ?_) (fun h => absurd h (by decide))
    refine am_iinc (v := nI 1) dX11_findHolders_111 rfl (by decide) ?_
    refine am_goto (tgt := 24) dX11_findHolders_114 (by decide) ?_
    exact L2 127 0 _ _ (by omega)
  have L1 : ∀ (m b : Nat), b + m = 640 → am_J G (d + 3) mX11_findHolders am_no (fun rr J => rr = none ∧ (∀ b, b < 640 → J 0 131 b = nI 0) ∧ ∀ a b, b ≠ 131 → J a b = I a b) 2 [some (.inr (0, 60)), some (.inl (nI b)), none, none] [] (am_upf I 0 131 (am_fil (I 0 131) b (nI 0))) := by
    intro m
    induction m with
    | zero =>
      intro b ha
      obtain rfl : b = 640 := by omega
      refine am_iload_n dX11_findHolders_2 rfl ?_
      refine am_sipush (v := nI 640) dX11_findHolders_3 (by decide) ?_
      refine am_icmp_ge (tgt := 22) dX11_findHolders_6 (by decide) (fun _ => ?_) (fun h => absurd ((nI_leI (a := 640) (b := 640) (by omega) (by omega)).mpr (by omega)) h)
      refine am_iconst (v := nI 0) dX11_findHolders_22 (by decide) ?_
      refine am_istore_n dX11_findHolders_23 (by decide) ?_
      exact R
    | succ m ih =>
      intro b ha
      refine am_iload_n dX11_findHolders_2 rfl ?_
      refine am_sipush (v := nI 640) dX11_findHolders_3 (by decide) ?_
      refine am_icmp_ge (tgt := 22) dX11_findHolders_6 (by decide) (fun h => absurd ((nI_leI (a := 640) (b := b) (by omega) (by omega)).mp h) (by omega)) (fun _ => ?_)
      refine am_aload_n dX11_findHolders_9 rfl ?_
      refine am_get (v := .inr (0, 131)) dX11_findHolders_10 fl_11_174 (hG.m0 (by decide)) rfl ?_
      refine am_iload_n dX11_findHolders_13 rfl ?_
      refine am_iconst (v := nI 0) dX11_findHolders_14 (by decide) ?_
      refine am_iast (a := b) dX11_findHolders_15 (hG.m0 (by decide)) rfl rfl (show b < 640 from (by omega)) (show 640 < 2 ^ 31 by decide) ?_
      refine am_iinc (v := nI (b + 1)) dX11_findHolders_16 rfl (nI_add _ _) ?_
      refine am_goto (tgt := 2) dX11_findHolders_19 (by decide) ?_
      rw [am_up_upf, am_fils]
      exact ih (b + 1) (by omega)
  refine am_of (by decide +kernel) hG.nd (Nat.le_of_ble_eq_true rfl) ?_
  refine am_iconst (v := nI 0) dX11_findHolders_0 (by decide) ?_
  refine am_istore_n dX11_findHolders_1 (by decide) ?_
  have := L1 640 0 (by omega)
  rw [am_fil0, am_upf_self] at this
  exact this
theorem c_MareMapsWrong0 {G : am_G} (hG : am_okM G) {d : Nat} {I : am_I} (hA : ∀ k, k < 10240 → I 0 127 k = am_dk G.2.2.2.1 k) (hH : ∀ b, b < 640 → I 0 131 b = nI 0)  : am_C G (d + 2) mX11_areMapsWrong [.inr (0, 60)] I (am_E (some (nI 0)) I) := by
  have hn4 := hG.hi
  have hn2 := hG.lo
  have KD0 : ∀ (_ : ∀ s4, am_J G (d + 2) mX11_areMapsWrong am_no (am_E (some (nI 0)) I) 169 [some (.inr (0, 60)), some (.inl (nI 0)), some (.inl (nI 0)), some (.inl (nI 47)), s4] [] I), ∀ (m a : Nat) (s4 : Option am_V), a + m = 47 → am_J G (d + 2) mX11_areMapsWrong am_no (am_E (some (nI 0)) I) 87 [some (.inr (0, 60)), some (.inl (nI 0)), some (.inl (nI 0)), some (.inl (nI a)), s4] [] I := by
    intro hk m
    induction m with
    | zero =>
      intro a s4 ha
      obtain rfl : a = 47 := by omega
      refine am_iload_n dX11_areMapsWrong_87 rfl ?_
      refine am_bipush (v := nI 47) dX11_areMapsWrong_88 (by decide) ?_
      refine am_icmp_ge (tgt := 169) dX11_areMapsWrong_90 (by decide) (fun _ => ?_) (fun h => absurd ((nI_leI (a := 47) (b := 47) (by omega) (by omega)).mpr (by omega)) h)
      exact hk _
    | succ m ih =>
      intro a s4 ha
      refine am_iload_n dX11_areMapsWrong_87 rfl ?_
      refine am_bipush (v := nI 47) dX11_areMapsWrong_88 (by decide) ?_
      refine am_icmp_ge (tgt := 169) dX11_areMapsWrong_90 (by decide) (fun h => absurd ((nI_leI (a := 47) (b := a) (by omega) (by omega)).mp h) (by omega)) (fun _ => ?_)
      refine am_aload_n dX11_areMapsWrong_93 rfl ?_
      refine am_get (v := .inr (0, 127)) dX11_areMapsWrong_94 fl_11_162 (hG.m0 (by decide)) rfl ?_
      refine am_bipush (v := nI 16) dX11_areMapsWrong_97 (by decide) ?_
      refine am_iload_n dX11_areMapsWrong_99 rfl ?_
      refine am_callSx (as := [.inl (nI 0)]) (rest := [.inl (nI 16), .inr (0, 127)]) dX11_areMapsWrong_100 lkX11_mapOf ml_X11_181 isX11_mapOf rfl (Nat.le_of_ble_eq_true rfl) rfl (c_MmapOf hG.nd (g := 0) (by omega) I) ?_
      refine am_imul dX11_areMapsWrong_103 ?_
      refine am_top (show (nI 16) * (nI 128) = nI 2048 by decide) ?_
      refine am_iconst (v := nI 1) dX11_areMapsWrong_104 (by decide) ?_
      refine am_iadd dX11_areMapsWrong_105 ?_
      refine am_top (show (nI 2048) + (nI 1) = nI 2049 by decide) ?_
      refine am_iload_n dX11_areMapsWrong_106 rfl ?_
      refine am_bipush (v := nI 32) dX11_areMapsWrong_107 (by decide) ?_
      refine am_idiv dX11_areMapsWrong_109 (by decide) ?_
      refine am_top (pk_div (by omega) (by omega) (by omega)) ?_
      refine am_iadd dX11_areMapsWrong_110 ?_
      refine am_top (nI_add _ _) ?_
      refine am_iald (a := 2049 + a / 32) dX11_areMapsWrong_111 (hG.m0 (by decide)) rfl rfl (show 2049 + a / 32 < 10240 from (by omega)) (show 10240 < 2 ^ 31 by decide) ?_
      refine am_top (show I 0 127 (16 * (128 + 64 * 0) + 1 + a / 32) = nI 0 from (hA _ (by omega)).trans (am_dk0 (by omega) (by omega) (by omega) (by omega) (by omega))) ?_
      refine am_iload_n dX11_areMapsWrong_112 rfl ?_
      refine am_bipush (v := nI 32) dX11_areMapsWrong_113 (by decide) ?_
      refine am_irem dX11_areMapsWrong_115 (by decide) ?_
      refine am_top (pk_rem (by omega) (by omega) (by omega)) ?_
      refine am_ishr dX11_areMapsWrong_116 ?_
      refine am_iconst (v := nI 1) dX11_areMapsWrong_117 (by decide) ?_
      refine am_iand dX11_areMapsWrong_118 ?_
      refine am_top (am_z0 _) ?_
      refine am_iconst (v := nI 1) dX11_areMapsWrong_119 (by decide) ?_
      refine am_icmp_ne (tgt := 127) dX11_areMapsWrong_120 (by decide) (fun _ => ?_) (fun h => absurd h (by decide))
      refine am_iconst (v := nI 0) dX11_areMapsWrong_127 (by decide) ?_
      refine am_istore dX11_areMapsWrong_128 (by decide) ?_
      refine am_iload_n dX11_areMapsWrong_130 rfl ?_
      refine am_if_ne (tgt := 157) dX11_areMapsWrong_131 (by decide) (fun h => absurd h (by decide)) (fun _ => ?_)
      refine am_iload dX11_areMapsWrong_134 rfl ?_
      refine am_aload_n dX11_areMapsWrong_136 rfl ?_
      refine am_get (v := .inr (0, 131)) dX11_areMapsWrong_137 fl_11_174 (hG.m0 (by decide)) rfl ?_
      refine am_iload_n dX11_areMapsWrong_140 rfl ?_
      refine am_iload_n dX11_areMapsWrong_141 rfl ?_
      refine am_callSx (as := [.inl (nI 0), .inl (nI a)]) (rest := [.inr (0, 131), .inl (nI 0)]) dX11_areMapsWrong_142 lkX11_dataBlock ml_X11_342 isX11_dataBlock rfl (Nat.le_of_ble_eq_true rfl) rfl (c_MdataBlock hG.nd (g := 0) (k := a) (by omega) (by omega) I) ?_
      refine am_iald (a := 145 + 64 * 0 + a) dX11_areMapsWrong_145 (hG.m0 (by decide)) rfl rfl (show 145 + 64 * 0 + a < 640 from (by omega)) (show 640 < 2 ^ 31 by decide) ?_
      refine am_top (hH _ (by omega)) ?_
      refine am_if_le (tgt := 153) dX11_areMapsWrong_146 (by decide) (fun _ => ?_) (fun h => absurd h (by decide))
      refine am_iconst (v := nI 0) dX11_areMapsWrong_153 (by decide) ?_
      refine am_icmp_eq (tgt := 161) dX11_areMapsWrong_154 (by decide) (fun _ => ?_) (fun h => absurd h (by decide))
      refine am_iconst (v := nI 0) dX11_areMapsWrong_161 (by decide) ?_
      refine am_istore_n dX11_areMapsWrong_162 (by decide) ?_
      refine am_iinc (v := nI (a + 1)) dX11_areMapsWrong_163 rfl (nI_add _ _) ?_
      refine am_goto (tgt := 87) dX11_areMapsWrong_166 (by decide) ?_
      exact ih (a + 1) _ (by omega)
  have KDg : ∀ (g : Nat) (_ : g < 7), ∀ (_ : ∀ s4, am_J G (d + 2) mX11_areMapsWrong am_no (am_E (some (nI 0)) I) 169 [some (.inr (0, 60)), some (.inl (nI 0)), some (.inl (nI (g + 1))), some (.inl (nI 47)), s4] [] I), ∀ (m a : Nat) (s4 : Option am_V), a + m = 47 → am_J G (d + 2) mX11_areMapsWrong am_no (am_E (some (nI 0)) I) 87 [some (.inr (0, 60)), some (.inl (nI 0)), some (.inl (nI (g + 1))), some (.inl (nI a)), s4] [] I := by
    intro g hg hk m
    induction m with
    | zero =>
      intro a s4 ha
      obtain rfl : a = 47 := by omega
      refine am_iload_n dX11_areMapsWrong_87 rfl ?_
      refine am_bipush (v := nI 47) dX11_areMapsWrong_88 (by decide) ?_
      refine am_icmp_ge (tgt := 169) dX11_areMapsWrong_90 (by decide) (fun _ => ?_) (fun h => absurd ((nI_leI (a := 47) (b := 47) (by omega) (by omega)).mpr (by omega)) h)
      exact hk _
    | succ m ih =>
      intro a s4 ha
      refine am_iload_n dX11_areMapsWrong_87 rfl ?_
      refine am_bipush (v := nI 47) dX11_areMapsWrong_88 (by decide) ?_
      refine am_icmp_ge (tgt := 169) dX11_areMapsWrong_90 (by decide) (fun h => absurd ((nI_leI (a := 47) (b := a) (by omega) (by omega)).mp h) (by omega)) (fun _ => ?_)
      refine am_aload_n dX11_areMapsWrong_93 rfl ?_
      refine am_get (v := .inr (0, 127)) dX11_areMapsWrong_94 fl_11_162 (hG.m0 (by decide)) rfl ?_
      refine am_bipush (v := nI 16) dX11_areMapsWrong_97 (by decide) ?_
      refine am_iload_n dX11_areMapsWrong_99 rfl ?_
      refine am_callSx (as := [.inl (nI (g + 1))]) (rest := [.inl (nI 16), .inr (0, 127)]) dX11_areMapsWrong_100 lkX11_mapOf ml_X11_181 isX11_mapOf rfl (Nat.le_of_ble_eq_true rfl) rfl (c_MmapOf hG.nd (g := g + 1) (by omega) I) ?_
      refine am_imul dX11_areMapsWrong_103 ?_
      refine am_top (pk_mul _ _) ?_
      refine am_iconst (v := nI 1) dX11_areMapsWrong_104 (by decide) ?_
      refine am_iadd dX11_areMapsWrong_105 ?_
      refine am_top (nI_add _ _) ?_
      refine am_iload_n dX11_areMapsWrong_106 rfl ?_
      refine am_bipush (v := nI 32) dX11_areMapsWrong_107 (by decide) ?_
      refine am_idiv dX11_areMapsWrong_109 (by decide) ?_
      refine am_top (pk_div (by omega) (by omega) (by omega)) ?_
      refine am_iadd dX11_areMapsWrong_110 ?_
      refine am_top (nI_add _ _) ?_
      refine am_iald (a := 16 * (128 + 64 * (g + 1)) + 1 + a / 32) dX11_areMapsWrong_111 (hG.m0 (by decide)) rfl rfl (show 16 * (128 + 64 * (g + 1)) + 1 + a / 32 < 10240 from (by omega)) (show 10240 < 2 ^ 31 by decide) ?_
      refine am_top (show I 0 127 (16 * (128 + 64 * (g + 1)) + 1 + a / 32) = nI 0 from (hA _ (by omega)).trans (am_dk0 (by omega) (by omega) (by omega) (by omega) (by omega))) ?_
      refine am_iload_n dX11_areMapsWrong_112 rfl ?_
      refine am_bipush (v := nI 32) dX11_areMapsWrong_113 (by decide) ?_
      refine am_irem dX11_areMapsWrong_115 (by decide) ?_
      refine am_top (pk_rem (by omega) (by omega) (by omega)) ?_
      refine am_ishr dX11_areMapsWrong_116 ?_
      refine am_iconst (v := nI 1) dX11_areMapsWrong_117 (by decide) ?_
      refine am_iand dX11_areMapsWrong_118 ?_
      refine am_top (am_z0 _) ?_
      refine am_iconst (v := nI 1) dX11_areMapsWrong_119 (by decide) ?_
      refine am_icmp_ne (tgt := 127) dX11_areMapsWrong_120 (by decide) (fun _ => ?_) (fun h => absurd h (by decide))
      refine am_iconst (v := nI 0) dX11_areMapsWrong_127 (by decide) ?_
      refine am_istore dX11_areMapsWrong_128 (by decide) ?_
      refine am_iload_n dX11_areMapsWrong_130 rfl ?_
      refine am_if_ne (tgt := 157) dX11_areMapsWrong_131 (by decide) (fun h => absurd h (by decide)) (fun _ => ?_)
      refine am_iload dX11_areMapsWrong_134 rfl ?_
      refine am_aload_n dX11_areMapsWrong_136 rfl ?_
      refine am_get (v := .inr (0, 131)) dX11_areMapsWrong_137 fl_11_174 (hG.m0 (by decide)) rfl ?_
      refine am_iload_n dX11_areMapsWrong_140 rfl ?_
      refine am_iload_n dX11_areMapsWrong_141 rfl ?_
      refine am_callSx (as := [.inl (nI (g + 1)), .inl (nI a)]) (rest := [.inr (0, 131), .inl (nI 0)]) dX11_areMapsWrong_142 lkX11_dataBlock ml_X11_342 isX11_dataBlock rfl (Nat.le_of_ble_eq_true rfl) rfl (c_MdataBlock hG.nd (g := g + 1) (k := a) (by omega) (by omega) I) ?_
      refine am_iald (a := 145 + 64 * (g + 1) + a) dX11_areMapsWrong_145 (hG.m0 (by decide)) rfl rfl (show 145 + 64 * (g + 1) + a < 640 from (by omega)) (show 640 < 2 ^ 31 by decide) ?_
      refine am_top (hH _ (by omega)) ?_
      refine am_if_le (tgt := 153) dX11_areMapsWrong_146 (by decide) (fun _ => ?_) (fun h => absurd h (by decide))
      refine am_iconst (v := nI 0) dX11_areMapsWrong_153 (by decide) ?_
      refine am_icmp_eq (tgt := 161) dX11_areMapsWrong_154 (by decide) (fun _ => ?_) (fun h => absurd h (by decide))
      refine am_iconst (v := nI 0) dX11_areMapsWrong_161 (by decide) ?_
      refine am_istore_n dX11_areMapsWrong_162 (by decide) ?_
      refine am_iinc (v := nI (a + 1)) dX11_areMapsWrong_163 rfl (nI_add _ _) ?_
      refine am_goto (tgt := 87) dX11_areMapsWrong_166 (by decide) ?_
      exact ih (a + 1) _ (by omega)
  have KN : ∀ (g : Nat) (_ : g < 7) (_ : ∀ s4, am_J G (d + 2) mX11_areMapsWrong am_no (am_E (some (nI 0)) I) 85 [some (.inr (0, 60)), some (.inl (nI 0)), some (.inl (nI (g + 1))), some (.inl (nI 16)), s4] [] I), ∀ (m a : Nat) (s4 : Option am_V), a + m = 16 → am_J G (d + 2) mX11_areMapsWrong am_no (am_E (some (nI 0)) I) 12 [some (.inr (0, 60)), some (.inl (nI 0)), some (.inl (nI (g + 1))), some (.inl (nI a)), s4] [] I := by
    intro g hg hk m
    induction m with
    | zero =>
      intro a s4 ha
      obtain rfl : a = 16 := by omega
      refine am_iload_n dX11_areMapsWrong_12 rfl ?_
      refine am_bipush (v := nI 16) dX11_areMapsWrong_13 (by decide) ?_
      refine am_icmp_ge (tgt := 85) dX11_areMapsWrong_15 (by decide) (fun _ => ?_) (fun h => absurd ((nI_leI (a := 16) (b := 16) (by omega) (by omega)).mpr (by omega)) h)
      exact hk _
    | succ m ih =>
      intro a s4 ha
      refine am_iload_n dX11_areMapsWrong_12 rfl ?_
      refine am_bipush (v := nI 16) dX11_areMapsWrong_13 (by decide) ?_
      refine am_icmp_ge (tgt := 85) dX11_areMapsWrong_15 (by decide) (fun h => absurd ((nI_leI (a := 16) (b := a) (by omega) (by omega)).mp h) (by omega)) (fun _ => ?_)
      refine am_aload_n dX11_areMapsWrong_18 rfl ?_
      refine am_get (v := .inr (0, 127)) dX11_areMapsWrong_19 fl_11_162 (hG.m0 (by decide)) rfl ?_
      refine am_bipush (v := nI 16) dX11_areMapsWrong_22 (by decide) ?_
      refine am_iload_n dX11_areMapsWrong_24 rfl ?_
      refine am_callSx (as := [.inl (nI (g + 1))]) (rest := [.inl (nI 16), .inr (0, 127)]) dX11_areMapsWrong_25 lkX11_mapOf ml_X11_181 isX11_mapOf rfl (Nat.le_of_ble_eq_true rfl) rfl (c_MmapOf hG.nd (g := g + 1) (by omega) I) ?_
      refine am_imul dX11_areMapsWrong_28 ?_
      refine am_top (pk_mul _ _) ?_
      refine am_iald (a := 16 * (128 + 64 * (g + 1))) dX11_areMapsWrong_29 (hG.m0 (by decide)) rfl rfl (show 16 * (128 + 64 * (g + 1)) < 10240 from (by omega)) (show 10240 < 2 ^ 31 by decide) ?_
      refine am_top (show I 0 127 (16 * (128 + 64 * (g + 1))) = nI 0 from (hA _ (by omega)).trans (am_dk0 (by omega) (by omega) (by omega) (by omega) (by omega))) ?_
      refine am_iload_n dX11_areMapsWrong_30 rfl ?_
      refine am_ishr dX11_areMapsWrong_31 ?_
      refine am_iconst (v := nI 1) dX11_areMapsWrong_32 (by decide) ?_
      refine am_iand dX11_areMapsWrong_33 ?_
      refine am_top (am_z0 _) ?_
      refine am_iconst (v := nI 1) dX11_areMapsWrong_34 (by decide) ?_
      refine am_icmp_ne (tgt := 42) dX11_areMapsWrong_35 (by decide) (fun _ => ?_) (fun h => absurd h (by decide))
      refine am_iconst (v := nI 0) dX11_areMapsWrong_42 (by decide) ?_
      refine am_istore dX11_areMapsWrong_43 (by decide) ?_
      refine am_iload_n dX11_areMapsWrong_45 rfl ?_
      refine am_if_ne (tgt := 73) dX11_areMapsWrong_46 (by decide) (fun h => absurd h (by decide)) (fun _ => ?_)
      refine am_iload dX11_areMapsWrong_49 rfl ?_
      refine am_aload_n dX11_areMapsWrong_51 rfl ?_
      refine am_bipush (v := nI 16) dX11_areMapsWrong_52 (by decide) ?_
      refine am_iload_n dX11_areMapsWrong_54 rfl ?_
      refine am_imul dX11_areMapsWrong_55 ?_
      refine am_top (pk_mul _ _) ?_
      refine am_iload_n dX11_areMapsWrong_56 rfl ?_
      refine am_iadd dX11_areMapsWrong_57 ?_
      refine am_top (nI_add _ _) ?_
      refine am_iconst (v := nI 0) dX11_areMapsWrong_58 (by decide) ?_
      refine am_callVx (i := 0) (j := 60) (as := [.inl (nI (16 * (g + 1) + a)), .inl (nI 0)]) (rest := [.inl (nI 0)]) dX11_areMapsWrong_59 lkX11_allInode ml_X11_496 imX11_allInode seX11_allInode rfl rfl (hG.m0 (by decide)) rfl (Nat.le_of_ble_eq_true rfl) rfl (c_MallInode hG (by omega) (by omega) I) ?_
      refine am_top (show I 0 127 (16 * (129 + 64 * ((16 * (g + 1) + a) / 16) + (16 * (g + 1) + a) % 16) + 0) = nI 0 from (hA _ (by omega)).trans (am_dk0 (by omega) (by omega) (by omega) (by omega) (by omega))) ?_
      refine am_if_eq (tgt := 69) dX11_areMapsWrong_62 (by decide) (fun _ => ?_) (fun h => absurd h (by decide))
      refine am_iconst (v := nI 0) dX11_areMapsWrong_69 (by decide) ?_
      refine am_icmp_eq (tgt := 77) dX11_areMapsWrong_70 (by decide) (fun _ => ?_) (fun h => absurd h (by decide))
      refine am_iconst (v := nI 0) dX11_areMapsWrong_77 (by decide) ?_
      refine am_istore_n dX11_areMapsWrong_78 (by decide) ?_
      refine am_iinc (v := nI (a + 1)) dX11_areMapsWrong_79 rfl (nI_add _ _) ?_
      refine am_goto (tgt := 12) dX11_areMapsWrong_82 (by decide) ?_
      exact ih (a + 1) _ (by omega)
  have K : ∀ (m g : Nat) (s3 s4 : Option am_V), g + m = 7 → am_J G (d + 2) mX11_areMapsWrong am_no (am_E (some (nI 0)) I) 4 [some (.inr (0, 60)), some (.inl (nI 0)), some (.inl (nI (g + 1))), s3, s4] [] I := by
    intro m
    induction m with
    | zero =>
      intro g s3 s4 ha
      obtain rfl : g = 7 := by omega
      refine am_iload_n dX11_areMapsWrong_4 rfl ?_
      refine am_bipush (v := nI 8) dX11_areMapsWrong_5 (by decide) ?_
      refine am_icmp_ge (tgt := 175) dX11_areMapsWrong_7 (by decide) (fun _ => ?_) (fun h => absurd ((nI_leI (a := 8) (b := 7 + 1) (by omega) (by omega)).mpr (by omega)) h)
      refine am_iload_n dX11_areMapsWrong_175 rfl ?_
      refine am_iret dX11_areMapsWrong_176 rfl (am_nz (by decide)).1 ?_
      exact ⟨rfl, rfl⟩
    | succ m ih =>
      intro g s3 s4 ha
      refine am_iload_n dX11_areMapsWrong_4 rfl ?_
      refine am_bipush (v := nI 8) dX11_areMapsWrong_5 (by decide) ?_
      refine am_icmp_ge (tgt := 175) dX11_areMapsWrong_7 (by decide) (fun h => absurd ((nI_leI (a := 8) (b := g + 1) (by omega) (by omega)).mp h) (by omega)) (fun _ => ?_)
      refine am_iconst (v := nI 0) dX11_areMapsWrong_10 (by decide) ?_
      refine am_istore_n dX11_areMapsWrong_11 (by decide) ?_
      refine KN g (by omega) (fun s4 => ?_) 16 0 _ (by omega)
      refine am_iconst (v := nI 0) dX11_areMapsWrong_85 (by decide) ?_
      refine am_istore_n dX11_areMapsWrong_86 (by decide) ?_
      refine KDg g (by omega) (fun s4 => ?_) 47 0 _ (by omega)
      refine am_iinc (v := nI (g + 1 + 1)) dX11_areMapsWrong_169 rfl (nI_add _ _) ?_
      refine am_goto (tgt := 4) dX11_areMapsWrong_172 (by decide) ?_
      exact ih (g + 1) _ _ (by omega)
  refine am_of (by decide +kernel) hG.nd (Nat.le_of_ble_eq_true rfl) ?_
  refine am_iconst (v := nI 0) dX11_areMapsWrong_0 (by decide) ?_
  refine am_istore_n dX11_areMapsWrong_1 (by decide) ?_
  refine am_iconst (v := nI 0) dX11_areMapsWrong_2 (by decide) ?_
  refine am_istore_n dX11_areMapsWrong_3 (by decide) ?_
  refine am_iload_n dX11_areMapsWrong_4 rfl ?_
  refine am_bipush (v := nI 8) dX11_areMapsWrong_5 (by decide) ?_
  refine am_icmp_ge (tgt := 175) dX11_areMapsWrong_7 (by decide) (fun h => absurd h (by decide)) (fun _ => ?_)
  refine am_iconst (v := nI 0) dX11_areMapsWrong_10 (by decide) ?_
  refine am_istore_n dX11_areMapsWrong_11 (by decide) ?_
  refine am_iload_n dX11_areMapsWrong_12 rfl ?_
  refine am_bipush (v := nI 16) dX11_areMapsWrong_13 (by decide) ?_
  refine am_icmp_ge (tgt := 85) dX11_areMapsWrong_15 (by decide) (fun h => absurd h (by decide)) (fun _ => ?_)
  refine am_aload_n dX11_areMapsWrong_18 rfl ?_
  refine am_get (v := .inr (0, 127)) dX11_areMapsWrong_19 fl_11_162 (hG.m0 (by decide)) rfl ?_
  refine am_bipush (v := nI 16) dX11_areMapsWrong_22 (by decide) ?_
  refine am_iload_n dX11_areMapsWrong_24 rfl ?_
  refine am_callSx (as := [.inl (nI 0)]) (rest := [.inl (nI 16), .inr (0, 127)]) dX11_areMapsWrong_25 lkX11_mapOf ml_X11_181 isX11_mapOf rfl (Nat.le_of_ble_eq_true rfl) rfl (c_MmapOf hG.nd (g := 0) (by omega) I) ?_
  refine am_imul dX11_areMapsWrong_28 ?_
  refine am_top (show (nI 16) * (nI 128) = nI 2048 by decide) ?_
  refine am_iald (a := 2048) dX11_areMapsWrong_29 (hG.m0 (by decide)) rfl rfl (show 2048 < 10240 from (by omega)) (show 10240 < 2 ^ 31 by decide) ?_
  refine am_top ((hA 2048 (by decide)).trans rfl) ?_
  refine am_iload_n dX11_areMapsWrong_30 rfl ?_
  refine am_ishr dX11_areMapsWrong_31 ?_
  refine am_top (show (nI 1) >>> ((nI 0) &&& 31) = nI 1 by decide) ?_
  refine am_iconst (v := nI 1) dX11_areMapsWrong_32 (by decide) ?_
  refine am_iand dX11_areMapsWrong_33 ?_
  refine am_top (show (nI 1) &&& (nI 1) = nI 1 by decide) ?_
  refine am_iconst (v := nI 1) dX11_areMapsWrong_34 (by decide) ?_
  refine am_icmp_ne (tgt := 42) dX11_areMapsWrong_35 (by decide) (fun h => absurd h (by decide)) (fun _ => ?_)
  refine am_iconst (v := nI 1) dX11_areMapsWrong_38 (by decide) ?_
  refine am_goto (tgt := 43) dX11_areMapsWrong_39 (by decide) ?_
  refine am_istore dX11_areMapsWrong_43 (by decide) ?_
  refine am_iload_n dX11_areMapsWrong_45 rfl ?_
  refine am_if_ne (tgt := 73) dX11_areMapsWrong_46 (by decide) (fun h => absurd h (by decide)) (fun _ => ?_)
  refine am_iload dX11_areMapsWrong_49 rfl ?_
  refine am_aload_n dX11_areMapsWrong_51 rfl ?_
  refine am_bipush (v := nI 16) dX11_areMapsWrong_52 (by decide) ?_
  refine am_iload_n dX11_areMapsWrong_54 rfl ?_
  refine am_imul dX11_areMapsWrong_55 ?_
  refine am_top (show (nI 16) * (nI 0) = nI 0 by decide) ?_
  refine am_iload_n dX11_areMapsWrong_56 rfl ?_
  refine am_iadd dX11_areMapsWrong_57 ?_
  refine am_top (show (nI 0) + (nI 0) = nI 0 by decide) ?_
  refine am_iconst (v := nI 0) dX11_areMapsWrong_58 (by decide) ?_
  refine am_callVx (i := 0) (j := 60) (as := [.inl (nI 0), .inl (nI 0)]) (rest := [.inl (nI 1)]) dX11_areMapsWrong_59 lkX11_allInode ml_X11_496 imX11_allInode seX11_allInode rfl rfl (hG.m0 (by decide)) rfl (Nat.le_of_ble_eq_true rfl) rfl (c_MallInode hG (by omega) (by omega) I) ?_
  refine am_top (show I 0 127 (16 * (129 + 64 * (0 / 16) + 0 % 16) + 0) = nI 2 from (hA (16 * (129 + 64 * (0 / 16) + 0 % 16) + 0) (by decide)).trans rfl) ?_
  refine am_if_eq (tgt := 69) dX11_areMapsWrong_62 (by decide) (fun h => absurd h (by decide)) (fun _ => ?_)
  refine am_iconst (v := nI 1) dX11_areMapsWrong_65 (by decide) ?_
  refine am_goto (tgt := 70) dX11_areMapsWrong_66 (by decide) ?_
  refine am_icmp_eq (tgt := 77) dX11_areMapsWrong_70 (by decide) (fun _ => ?_) (fun h => absurd h (by decide))
  refine am_iconst (v := nI 0) dX11_areMapsWrong_77 (by decide) ?_
  refine am_istore_n dX11_areMapsWrong_78 (by decide) ?_
  refine am_iinc (v := nI 1) dX11_areMapsWrong_79 rfl (by decide) ?_
  refine am_goto (tgt := 12) dX11_areMapsWrong_82 (by decide) ?_
  refine am_iload_n dX11_areMapsWrong_12 rfl ?_
  refine am_bipush (v := nI 16) dX11_areMapsWrong_13 (by decide) ?_
  refine am_icmp_ge (tgt := 85) dX11_areMapsWrong_15 (by decide) (fun h => absurd h (by decide)) (fun _ => ?_)
  refine am_aload_n dX11_areMapsWrong_18 rfl ?_
  refine am_get (v := .inr (0, 127)) dX11_areMapsWrong_19 fl_11_162 (hG.m0 (by decide)) rfl ?_
  refine am_bipush (v := nI 16) dX11_areMapsWrong_22 (by decide) ?_
  refine am_iload_n dX11_areMapsWrong_24 rfl ?_
  refine am_callSx (as := [.inl (nI 0)]) (rest := [.inl (nI 16), .inr (0, 127)]) dX11_areMapsWrong_25 lkX11_mapOf ml_X11_181 isX11_mapOf rfl (Nat.le_of_ble_eq_true rfl) rfl (c_MmapOf hG.nd (g := 0) (by omega) I) ?_
  refine am_imul dX11_areMapsWrong_28 ?_
  refine am_top (show (nI 16) * (nI 128) = nI 2048 by decide) ?_
  refine am_iald (a := 2048) dX11_areMapsWrong_29 (hG.m0 (by decide)) rfl rfl (show 2048 < 10240 from (by omega)) (show 10240 < 2 ^ 31 by decide) ?_
  refine am_top ((hA 2048 (by decide)).trans rfl) ?_
  refine am_iload_n dX11_areMapsWrong_30 rfl ?_
  refine am_ishr dX11_areMapsWrong_31 ?_
  refine am_top (show (nI 1) >>> ((nI 1) &&& 31) = nI 0 by decide) ?_
  refine am_iconst (v := nI 1) dX11_areMapsWrong_32 (by decide) ?_
  refine am_iand dX11_areMapsWrong_33 ?_
  refine am_top (show (nI 0) &&& (nI 1) = nI 0 by decide) ?_
  refine am_iconst (v := nI 1) dX11_areMapsWrong_34 (by decide) ?_
  refine am_icmp_ne (tgt := 42) dX11_areMapsWrong_35 (by decide) (fun _ => ?_) (fun h => absurd h (by decide))
  refine am_iconst (v := nI 0) dX11_areMapsWrong_42 (by decide) ?_
  refine am_istore dX11_areMapsWrong_43 (by decide) ?_
  refine am_iload_n dX11_areMapsWrong_45 rfl ?_
  refine am_if_ne (tgt := 73) dX11_areMapsWrong_46 (by decide) (fun h => absurd h (by decide)) (fun _ => ?_)
  refine am_iload dX11_areMapsWrong_49 rfl ?_
  refine am_aload_n dX11_areMapsWrong_51 rfl ?_
  refine am_bipush (v := nI 16) dX11_areMapsWrong_52 (by decide) ?_
  refine am_iload_n dX11_areMapsWrong_54 rfl ?_
  refine am_imul dX11_areMapsWrong_55 ?_
  refine am_top (show (nI 16) * (nI 0) = nI 0 by decide) ?_
  refine am_iload_n dX11_areMapsWrong_56 rfl ?_
  refine am_iadd dX11_areMapsWrong_57 ?_
  refine am_top (show (nI 0) + (nI 1) = nI 1 by decide) ?_
  refine am_iconst (v := nI 0) dX11_areMapsWrong_58 (by decide) ?_
  refine am_callVx (i := 0) (j := 60) (as := [.inl (nI 1), .inl (nI 0)]) (rest := [.inl (nI 0)]) dX11_areMapsWrong_59 lkX11_allInode ml_X11_496 imX11_allInode seX11_allInode rfl rfl (hG.m0 (by decide)) rfl (Nat.le_of_ble_eq_true rfl) rfl (c_MallInode hG (by omega) (by omega) I) ?_
  refine am_top (show I 0 127 (16 * (129 + 64 * (1 / 16) + 1 % 16) + 0) = nI 0 from (hA (16 * (129 + 64 * (1 / 16) + 1 % 16) + 0) (by decide)).trans rfl) ?_
  refine am_if_eq (tgt := 69) dX11_areMapsWrong_62 (by decide) (fun _ => ?_) (fun h => absurd h (by decide))
  refine am_iconst (v := nI 0) dX11_areMapsWrong_69 (by decide) ?_
  refine am_icmp_eq (tgt := 77) dX11_areMapsWrong_70 (by decide) (fun _ => ?_) (fun h => absurd h (by decide))
  refine am_iconst (v := nI 0) dX11_areMapsWrong_77 (by decide) ?_
  refine am_istore_n dX11_areMapsWrong_78 (by decide) ?_
  refine am_iinc (v := nI 2) dX11_areMapsWrong_79 rfl (by decide) ?_
  refine am_goto (tgt := 12) dX11_areMapsWrong_82 (by decide) ?_
  refine am_iload_n dX11_areMapsWrong_12 rfl ?_
  refine am_bipush (v := nI 16) dX11_areMapsWrong_13 (by decide) ?_
  refine am_icmp_ge (tgt := 85) dX11_areMapsWrong_15 (by decide) (fun h => absurd h (by decide)) (fun _ => ?_)
  refine am_aload_n dX11_areMapsWrong_18 rfl ?_
  refine am_get (v := .inr (0, 127)) dX11_areMapsWrong_19 fl_11_162 (hG.m0 (by decide)) rfl ?_
  refine am_bipush (v := nI 16) dX11_areMapsWrong_22 (by decide) ?_
  refine am_iload_n dX11_areMapsWrong_24 rfl ?_
  refine am_callSx (as := [.inl (nI 0)]) (rest := [.inl (nI 16), .inr (0, 127)]) dX11_areMapsWrong_25 lkX11_mapOf ml_X11_181 isX11_mapOf rfl (Nat.le_of_ble_eq_true rfl) rfl (c_MmapOf hG.nd (g := 0) (by omega) I) ?_
  refine am_imul dX11_areMapsWrong_28 ?_
  refine am_top (show (nI 16) * (nI 128) = nI 2048 by decide) ?_
  refine am_iald (a := 2048) dX11_areMapsWrong_29 (hG.m0 (by decide)) rfl rfl (show 2048 < 10240 from (by omega)) (show 10240 < 2 ^ 31 by decide) ?_
  refine am_top ((hA 2048 (by decide)).trans rfl) ?_
  refine am_iload_n dX11_areMapsWrong_30 rfl ?_
  refine am_ishr dX11_areMapsWrong_31 ?_
  refine am_top (show (nI 1) >>> ((nI 2) &&& 31) = nI 0 by decide) ?_
  refine am_iconst (v := nI 1) dX11_areMapsWrong_32 (by decide) ?_
  refine am_iand dX11_areMapsWrong_33 ?_
  refine am_top (show (nI 0) &&& (nI 1) = nI 0 by decide) ?_
  refine am_iconst (v := nI 1) dX11_areMapsWrong_34 (by decide) ?_
  refine am_icmp_ne (tgt := 42) dX11_areMapsWrong_35 (by decide) (fun _ => ?_) (fun h => absurd h (by decide))
  refine am_iconst (v := nI 0) dX11_areMapsWrong_42 (by decide) ?_
  refine am_istore dX11_areMapsWrong_43 (by decide) ?_
  refine am_iload_n dX11_areMapsWrong_45 rfl ?_
  refine am_if_ne (tgt := 73) dX11_areMapsWrong_46 (by decide) (fun h => absurd h (by decide)) (fun _ => ?_)
  refine am_iload dX11_areMapsWrong_49 rfl ?_
  refine am_aload_n dX11_areMapsWrong_51 rfl ?_
  refine am_bipush (v := nI 16) dX11_areMapsWrong_52 (by decide) ?_
  refine am_iload_n dX11_areMapsWrong_54 rfl ?_
  refine am_imul dX11_areMapsWrong_55 ?_
  refine am_top (show (nI 16) * (nI 0) = nI 0 by decide) ?_
  refine am_iload_n dX11_areMapsWrong_56 rfl ?_
  refine am_iadd dX11_areMapsWrong_57 ?_
  refine am_top (show (nI 0) + (nI 2) = nI 2 by decide) ?_
  refine am_iconst (v := nI 0) dX11_areMapsWrong_58 (by decide) ?_
  refine am_callVx (i := 0) (j := 60) (as := [.inl (nI 2), .inl (nI 0)]) (rest := [.inl (nI 0)]) dX11_areMapsWrong_59 lkX11_allInode ml_X11_496 imX11_allInode seX11_allInode rfl rfl (hG.m0 (by decide)) rfl (Nat.le_of_ble_eq_true rfl) rfl (c_MallInode hG (by omega) (by omega) I) ?_
  refine am_top (show I 0 127 (16 * (129 + 64 * (2 / 16) + 2 % 16) + 0) = nI 0 from (hA (16 * (129 + 64 * (2 / 16) + 2 % 16) + 0) (by decide)).trans rfl) ?_
  refine am_if_eq (tgt := 69) dX11_areMapsWrong_62 (by decide) (fun _ => ?_) (fun h => absurd h (by decide))
  refine am_iconst (v := nI 0) dX11_areMapsWrong_69 (by decide) ?_
  refine am_icmp_eq (tgt := 77) dX11_areMapsWrong_70 (by decide) (fun _ => ?_) (fun h => absurd h (by decide))
  refine am_iconst (v := nI 0) dX11_areMapsWrong_77 (by decide) ?_
  refine am_istore_n dX11_areMapsWrong_78 (by decide) ?_
  refine am_iinc (v := nI 3) dX11_areMapsWrong_79 rfl (by decide) ?_
  refine am_goto (tgt := 12) dX11_areMapsWrong_82 (by decide) ?_
  refine am_iload_n dX11_areMapsWrong_12 rfl ?_
  refine am_bipush (v := nI 16) dX11_areMapsWrong_13 (by decide) ?_
  refine am_icmp_ge (tgt := 85) dX11_areMapsWrong_15 (by decide) (fun h => absurd h (by decide)) (fun _ => ?_)
  refine am_aload_n dX11_areMapsWrong_18 rfl ?_
  refine am_get (v := .inr (0, 127)) dX11_areMapsWrong_19 fl_11_162 (hG.m0 (by decide)) rfl ?_
  refine am_bipush (v := nI 16) dX11_areMapsWrong_22 (by decide) ?_
  refine am_iload_n dX11_areMapsWrong_24 rfl ?_
  refine am_callSx (as := [.inl (nI 0)]) (rest := [.inl (nI 16), .inr (0, 127)]) dX11_areMapsWrong_25 lkX11_mapOf ml_X11_181 isX11_mapOf rfl (Nat.le_of_ble_eq_true rfl) rfl (c_MmapOf hG.nd (g := 0) (by omega) I) ?_
  refine am_imul dX11_areMapsWrong_28 ?_
  refine am_top (show (nI 16) * (nI 128) = nI 2048 by decide) ?_
  refine am_iald (a := 2048) dX11_areMapsWrong_29 (hG.m0 (by decide)) rfl rfl (show 2048 < 10240 from (by omega)) (show 10240 < 2 ^ 31 by decide) ?_
  refine am_top ((hA 2048 (by decide)).trans rfl) ?_
  refine am_iload_n dX11_areMapsWrong_30 rfl ?_
  refine am_ishr dX11_areMapsWrong_31 ?_
  refine am_top (show (nI 1) >>> ((nI 3) &&& 31) = nI 0 by decide) ?_
  refine am_iconst (v := nI 1) dX11_areMapsWrong_32 (by decide) ?_
  refine am_iand dX11_areMapsWrong_33 ?_
  refine am_top (show (nI 0) &&& (nI 1) = nI 0 by decide) ?_
  refine am_iconst (v := nI 1) dX11_areMapsWrong_34 (by decide) ?_
  refine am_icmp_ne (tgt := 42) dX11_areMapsWrong_35 (by decide) (fun _ => ?_) (fun h => absurd h (by decide))
  refine am_iconst (v := nI 0) dX11_areMapsWrong_42 (by decide) ?_
  refine am_istore dX11_areMapsWrong_43 (by decide) ?_
  refine am_iload_n dX11_areMapsWrong_45 rfl ?_
  refine am_if_ne (tgt := 73) dX11_areMapsWrong_46 (by decide) (fun h => absurd h (by decide)) (fun _ => ?_)
  refine am_iload dX11_areMapsWrong_49 rfl ?_
  refine am_aload_n dX11_areMapsWrong_51 rfl ?_
  refine am_bipush (v := nI 16) dX11_areMapsWrong_52 (by decide) ?_
  refine am_iload_n dX11_areMapsWrong_54 rfl ?_
  refine am_imul dX11_areMapsWrong_55 ?_
  refine am_top (show (nI 16) * (nI 0) = nI 0 by decide) ?_
  refine am_iload_n dX11_areMapsWrong_56 rfl ?_
  refine am_iadd dX11_areMapsWrong_57 ?_
  refine am_top (show (nI 0) + (nI 3) = nI 3 by decide) ?_
  refine am_iconst (v := nI 0) dX11_areMapsWrong_58 (by decide) ?_
  refine am_callVx (i := 0) (j := 60) (as := [.inl (nI 3), .inl (nI 0)]) (rest := [.inl (nI 0)]) dX11_areMapsWrong_59 lkX11_allInode ml_X11_496 imX11_allInode seX11_allInode rfl rfl (hG.m0 (by decide)) rfl (Nat.le_of_ble_eq_true rfl) rfl (c_MallInode hG (by omega) (by omega) I) ?_
  refine am_top (show I 0 127 (16 * (129 + 64 * (3 / 16) + 3 % 16) + 0) = nI 0 from (hA (16 * (129 + 64 * (3 / 16) + 3 % 16) + 0) (by decide)).trans rfl) ?_
  refine am_if_eq (tgt := 69) dX11_areMapsWrong_62 (by decide) (fun _ => ?_) (fun h => absurd h (by decide))
  refine am_iconst (v := nI 0) dX11_areMapsWrong_69 (by decide) ?_
  refine am_icmp_eq (tgt := 77) dX11_areMapsWrong_70 (by decide) (fun _ => ?_) (fun h => absurd h (by decide))
  refine am_iconst (v := nI 0) dX11_areMapsWrong_77 (by decide) ?_
  refine am_istore_n dX11_areMapsWrong_78 (by decide) ?_
  refine am_iinc (v := nI 4) dX11_areMapsWrong_79 rfl (by decide) ?_
  refine am_goto (tgt := 12) dX11_areMapsWrong_82 (by decide) ?_
  refine am_iload_n dX11_areMapsWrong_12 rfl ?_
  refine am_bipush (v := nI 16) dX11_areMapsWrong_13 (by decide) ?_
  refine am_icmp_ge (tgt := 85) dX11_areMapsWrong_15 (by decide) (fun h => absurd h (by decide)) (fun _ => ?_)
  refine am_aload_n dX11_areMapsWrong_18 rfl ?_
  refine am_get (v := .inr (0, 127)) dX11_areMapsWrong_19 fl_11_162 (hG.m0 (by decide)) rfl ?_
  refine am_bipush (v := nI 16) dX11_areMapsWrong_22 (by decide) ?_
  refine am_iload_n dX11_areMapsWrong_24 rfl ?_
  refine am_callSx (as := [.inl (nI 0)]) (rest := [.inl (nI 16), .inr (0, 127)]) dX11_areMapsWrong_25 lkX11_mapOf ml_X11_181 isX11_mapOf rfl (Nat.le_of_ble_eq_true rfl) rfl (c_MmapOf hG.nd (g := 0) (by omega) I) ?_
  refine am_imul dX11_areMapsWrong_28 ?_
  refine am_top (show (nI 16) * (nI 128) = nI 2048 by decide) ?_
  refine am_iald (a := 2048) dX11_areMapsWrong_29 (hG.m0 (by decide)) rfl rfl (show 2048 < 10240 from (by omega)) (show 10240 < 2 ^ 31 by decide) ?_
  refine am_top ((hA 2048 (by decide)).trans rfl) ?_
  refine am_iload_n dX11_areMapsWrong_30 rfl ?_
  refine am_ishr dX11_areMapsWrong_31 ?_
  refine am_top (show (nI 1) >>> ((nI 4) &&& 31) = nI 0 by decide) ?_
  refine am_iconst (v := nI 1) dX11_areMapsWrong_32 (by decide) ?_
  refine am_iand dX11_areMapsWrong_33 ?_
  refine am_top (show (nI 0) &&& (nI 1) = nI 0 by decide) ?_
  refine am_iconst (v := nI 1) dX11_areMapsWrong_34 (by decide) ?_
  refine am_icmp_ne (tgt := 42) dX11_areMapsWrong_35 (by decide) (fun _ => ?_) (fun h => absurd h (by decide))
  refine am_iconst (v := nI 0) dX11_areMapsWrong_42 (by decide) ?_
  refine am_istore dX11_areMapsWrong_43 (by decide) ?_
  refine am_iload_n dX11_areMapsWrong_45 rfl ?_
  refine am_if_ne (tgt := 73) dX11_areMapsWrong_46 (by decide) (fun h => absurd h (by decide)) (fun _ => ?_)
  refine am_iload dX11_areMapsWrong_49 rfl ?_
  refine am_aload_n dX11_areMapsWrong_51 rfl ?_
  refine am_bipush (v := nI 16) dX11_areMapsWrong_52 (by decide) ?_
  refine am_iload_n dX11_areMapsWrong_54 rfl ?_
  refine am_imul dX11_areMapsWrong_55 ?_
  refine am_top (show (nI 16) * (nI 0) = nI 0 by decide) ?_
  refine am_iload_n dX11_areMapsWrong_56 rfl ?_
  refine am_iadd dX11_areMapsWrong_57 ?_
  refine am_top (show (nI 0) + (nI 4) = nI 4 by decide) ?_
  refine am_iconst (v := nI 0) dX11_areMapsWrong_58 (by decide) ?_
  refine am_callVx (i := 0) (j := 60) (as := [.inl (nI 4), .inl (nI 0)]) (rest := [.inl (nI 0)]) dX11_areMapsWrong_59 lkX11_allInode ml_X11_496 imX11_allInode seX11_allInode rfl rfl (hG.m0 (by decide)) rfl (Nat.le_of_ble_eq_true rfl) rfl (c_MallInode hG (by omega) (by omega) I) ?_
  refine am_top (show I 0 127 (16 * (129 + 64 * (4 / 16) + 4 % 16) + 0) = nI 0 from (hA (16 * (129 + 64 * (4 / 16) + 4 % 16) + 0) (by decide)).trans rfl) ?_
  refine am_if_eq (tgt := 69) dX11_areMapsWrong_62 (by decide) (fun _ => ?_) (fun h => absurd h (by decide))
  refine am_iconst (v := nI 0) dX11_areMapsWrong_69 (by decide) ?_
  refine am_icmp_eq (tgt := 77) dX11_areMapsWrong_70 (by decide) (fun _ => ?_) (fun h => absurd h (by decide))
  refine am_iconst (v := nI 0) dX11_areMapsWrong_77 (by decide) ?_
  refine am_istore_n dX11_areMapsWrong_78 (by decide) ?_
  refine am_iinc (v := nI 5) dX11_areMapsWrong_79 rfl (by decide) ?_
  refine am_goto (tgt := 12) dX11_areMapsWrong_82 (by decide) ?_
  refine am_iload_n dX11_areMapsWrong_12 rfl ?_
  refine am_bipush (v := nI 16) dX11_areMapsWrong_13 (by decide) ?_
  refine am_icmp_ge (tgt := 85) dX11_areMapsWrong_15 (by decide) (fun h => absurd h (by decide)) (fun _ => ?_)
  refine am_aload_n dX11_areMapsWrong_18 rfl ?_
  refine am_get (v := .inr (0, 127)) dX11_areMapsWrong_19 fl_11_162 (hG.m0 (by decide)) rfl ?_
  refine am_bipush (v := nI 16) dX11_areMapsWrong_22 (by decide) ?_
  refine am_iload_n dX11_areMapsWrong_24 rfl ?_
  refine am_callSx (as := [.inl (nI 0)]) (rest := [.inl (nI 16), .inr (0, 127)]) dX11_areMapsWrong_25 lkX11_mapOf ml_X11_181 isX11_mapOf rfl (Nat.le_of_ble_eq_true rfl) rfl (c_MmapOf hG.nd (g := 0) (by omega) I) ?_
  refine am_imul dX11_areMapsWrong_28 ?_
  refine am_top (show (nI 16) * (nI 128) = nI 2048 by decide) ?_
  refine am_iald (a := 2048) dX11_areMapsWrong_29 (hG.m0 (by decide)) rfl rfl (show 2048 < 10240 from (by omega)) (show 10240 < 2 ^ 31 by decide) ?_
  refine am_top ((hA 2048 (by decide)).trans rfl) ?_
  refine am_iload_n dX11_areMapsWrong_30 rfl ?_
  refine am_ishr dX11_areMapsWrong_31 ?_
  refine am_top (show (nI 1) >>> ((nI 5) &&& 31) = nI 0 by decide) ?_
  refine am_iconst (v := nI 1) dX11_areMapsWrong_32 (by decide) ?_
  refine am_iand dX11_areMapsWrong_33 ?_
  refine am_top (show (nI 0) &&& (nI 1) = nI 0 by decide) ?_
  refine am_iconst (v := nI 1) dX11_areMapsWrong_34 (by decide) ?_
  refine am_icmp_ne (tgt := 42) dX11_areMapsWrong_35 (by decide) (fun _ => ?_) (fun h => absurd h (by decide))
  refine am_iconst (v := nI 0) dX11_areMapsWrong_42 (by decide) ?_
  refine am_istore dX11_areMapsWrong_43 (by decide) ?_
  refine am_iload_n dX11_areMapsWrong_45 rfl ?_
  refine am_if_ne (tgt := 73) dX11_areMapsWrong_46 (by decide) (fun h => absurd h (by decide)) (fun _ => ?_)
  refine am_iload dX11_areMapsWrong_49 rfl ?_
  refine am_aload_n dX11_areMapsWrong_51 rfl ?_
  refine am_bipush (v := nI 16) dX11_areMapsWrong_52 (by decide) ?_
  refine am_iload_n dX11_areMapsWrong_54 rfl ?_
  refine am_imul dX11_areMapsWrong_55 ?_
  refine am_top (show (nI 16) * (nI 0) = nI 0 by decide) ?_
  refine am_iload_n dX11_areMapsWrong_56 rfl ?_
  refine am_iadd dX11_areMapsWrong_57 ?_
  refine am_top (show (nI 0) + (nI 5) = nI 5 by decide) ?_
  refine am_iconst (v := nI 0) dX11_areMapsWrong_58 (by decide) ?_
  refine am_callVx (i := 0) (j := 60) (as := [.inl (nI 5), .inl (nI 0)]) (rest := [.inl (nI 0)]) dX11_areMapsWrong_59 lkX11_allInode ml_X11_496 imX11_allInode seX11_allInode rfl rfl (hG.m0 (by decide)) rfl (Nat.le_of_ble_eq_true rfl) rfl (c_MallInode hG (by omega) (by omega) I) ?_
  refine am_top (show I 0 127 (16 * (129 + 64 * (5 / 16) + 5 % 16) + 0) = nI 0 from (hA (16 * (129 + 64 * (5 / 16) + 5 % 16) + 0) (by decide)).trans rfl) ?_
  refine am_if_eq (tgt := 69) dX11_areMapsWrong_62 (by decide) (fun _ => ?_) (fun h => absurd h (by decide))
  refine am_iconst (v := nI 0) dX11_areMapsWrong_69 (by decide) ?_
  refine am_icmp_eq (tgt := 77) dX11_areMapsWrong_70 (by decide) (fun _ => ?_) (fun h => absurd h (by decide))
  refine am_iconst (v := nI 0) dX11_areMapsWrong_77 (by decide) ?_
  refine am_istore_n dX11_areMapsWrong_78 (by decide) ?_
  refine am_iinc (v := nI 6) dX11_areMapsWrong_79 rfl (by decide) ?_
  refine am_goto (tgt := 12) dX11_areMapsWrong_82 (by decide) ?_
  refine am_iload_n dX11_areMapsWrong_12 rfl ?_
  refine am_bipush (v := nI 16) dX11_areMapsWrong_13 (by decide) ?_
  refine am_icmp_ge (tgt := 85) dX11_areMapsWrong_15 (by decide) (fun h => absurd h (by decide)) (fun _ => ?_)
  refine am_aload_n dX11_areMapsWrong_18 rfl ?_
  refine am_get (v := .inr (0, 127)) dX11_areMapsWrong_19 fl_11_162 (hG.m0 (by decide)) rfl ?_
  refine am_bipush (v := nI 16) dX11_areMapsWrong_22 (by decide) ?_
  refine am_iload_n dX11_areMapsWrong_24 rfl ?_
  refine am_callSx (as := [.inl (nI 0)]) (rest := [.inl (nI 16), .inr (0, 127)]) dX11_areMapsWrong_25 lkX11_mapOf ml_X11_181 isX11_mapOf rfl (Nat.le_of_ble_eq_true rfl) rfl (c_MmapOf hG.nd (g := 0) (by omega) I) ?_
  refine am_imul dX11_areMapsWrong_28 ?_
  refine am_top (show (nI 16) * (nI 128) = nI 2048 by decide) ?_
  refine am_iald (a := 2048) dX11_areMapsWrong_29 (hG.m0 (by decide)) rfl rfl (show 2048 < 10240 from (by omega)) (show 10240 < 2 ^ 31 by decide) ?_
  refine am_top ((hA 2048 (by decide)).trans rfl) ?_
  refine am_iload_n dX11_areMapsWrong_30 rfl ?_
  refine am_ishr dX11_areMapsWrong_31 ?_
  refine am_top (show (nI 1) >>> ((nI 6) &&& 31) = nI 0 by decide) ?_
  refine am_iconst (v := nI 1) dX11_areMapsWrong_32 (by decide) ?_
  refine am_iand dX11_areMapsWrong_33 ?_
  refine am_top (show (nI 0) &&& (nI 1) = nI 0 by decide) ?_
  refine am_iconst (v := nI 1) dX11_areMapsWrong_34 (by decide) ?_
  refine am_icmp_ne (tgt := 42) dX11_areMapsWrong_35 (by decide) (fun _ => ?_) (fun h => absurd h (by decide))
  refine am_iconst (v := nI 0) dX11_areMapsWrong_42 (by decide) ?_
  refine am_istore dX11_areMapsWrong_43 (by decide) ?_
  refine am_iload_n dX11_areMapsWrong_45 rfl ?_
  refine am_if_ne (tgt := 73) dX11_areMapsWrong_46 (by decide) (fun h => absurd h (by decide)) (fun _ => ?_)
  refine am_iload dX11_areMapsWrong_49 rfl ?_
  refine am_aload_n dX11_areMapsWrong_51 rfl ?_
  refine am_bipush (v := nI 16) dX11_areMapsWrong_52 (by decide) ?_
  refine am_iload_n dX11_areMapsWrong_54 rfl ?_
  refine am_imul dX11_areMapsWrong_55 ?_
  refine am_top (show (nI 16) * (nI 0) = nI 0 by decide) ?_
  refine am_iload_n dX11_areMapsWrong_56 rfl ?_
  refine am_iadd dX11_areMapsWrong_57 ?_
  refine am_top (show (nI 0) + (nI 6) = nI 6 by decide) ?_
  refine am_iconst (v := nI 0) dX11_areMapsWrong_58 (by decide) ?_
  refine am_callVx (i := 0) (j := 60) (as := [.inl (nI 6), .inl (nI 0)]) (rest := [.inl (nI 0)]) dX11_areMapsWrong_59 lkX11_allInode ml_X11_496 imX11_allInode seX11_allInode rfl rfl (hG.m0 (by decide)) rfl (Nat.le_of_ble_eq_true rfl) rfl (c_MallInode hG (by omega) (by omega) I) ?_
  refine am_top (show I 0 127 (16 * (129 + 64 * (6 / 16) + 6 % 16) + 0) = nI 0 from (hA (16 * (129 + 64 * (6 / 16) + 6 % 16) + 0) (by decide)).trans rfl) ?_
  refine am_if_eq (tgt := 69) dX11_areMapsWrong_62 (by decide) (fun _ => ?_) (fun h => absurd h (by decide))
  refine am_iconst (v := nI 0) dX11_areMapsWrong_69 (by decide) ?_
  refine am_icmp_eq (tgt := 77) dX11_areMapsWrong_70 (by decide) (fun _ => ?_) (fun h => absurd h (by decide))
  refine am_iconst (v := nI 0) dX11_areMapsWrong_77 (by decide) ?_
  refine am_istore_n dX11_areMapsWrong_78 (by decide) ?_
  refine am_iinc (v := nI 7) dX11_areMapsWrong_79 rfl (by decide) ?_
  refine am_goto (tgt := 12) dX11_areMapsWrong_82 (by decide) ?_
  refine am_iload_n dX11_areMapsWrong_12 rfl ?_
  refine am_bipush (v := nI 16) dX11_areMapsWrong_13 (by decide) ?_
  refine am_icmp_ge (tgt := 85) dX11_areMapsWrong_15 (by decide) (fun h => absurd h (by decide)) (fun _ => ?_)
  refine am_aload_n dX11_areMapsWrong_18 rfl ?_
  refine am_get (v := .inr (0, 127)) dX11_areMapsWrong_19 fl_11_162 (hG.m0 (by decide)) rfl ?_
  refine am_bipush (v := nI 16) dX11_areMapsWrong_22 (by decide) ?_
  refine am_iload_n dX11_areMapsWrong_24 rfl ?_
  refine am_callSx (as := [.inl (nI 0)]) (rest := [.inl (nI 16), .inr (0, 127)]) dX11_areMapsWrong_25 lkX11_mapOf ml_X11_181 isX11_mapOf rfl (Nat.le_of_ble_eq_true rfl) rfl (c_MmapOf hG.nd (g := 0) (by omega) I) ?_
  refine am_imul dX11_areMapsWrong_28 ?_
  refine am_top (show (nI 16) * (nI 128) = nI 2048 by decide) ?_
  refine am_iald (a := 2048) dX11_areMapsWrong_29 (hG.m0 (by decide)) rfl rfl (show 2048 < 10240 from (by omega)) (show 10240 < 2 ^ 31 by decide) ?_
  refine am_top ((hA 2048 (by decide)).trans rfl) ?_
  refine am_iload_n dX11_areMapsWrong_30 rfl ?_
  refine am_ishr dX11_areMapsWrong_31 ?_
  refine am_top (show (nI 1) >>> ((nI 7) &&& 31) = nI 0 by decide) ?_
  refine am_iconst (v := nI 1) dX11_areMapsWrong_32 (by decide) ?_
  refine am_iand dX11_areMapsWrong_33 ?_
  refine am_top (show (nI 0) &&& (nI 1) = nI 0 by decide) ?_
  refine am_iconst (v := nI 1) dX11_areMapsWrong_34 (by decide) ?_
  refine am_icmp_ne (tgt := 42) dX11_areMapsWrong_35 (by decide) (fun _ => ?_) (fun h => absurd h (by decide))
  refine am_iconst (v := nI 0) dX11_areMapsWrong_42 (by decide) ?_
  refine am_istore dX11_areMapsWrong_43 (by decide) ?_
  refine am_iload_n dX11_areMapsWrong_45 rfl ?_
  refine am_if_ne (tgt := 73) dX11_areMapsWrong_46 (by decide) (fun h => absurd h (by decide)) (fun _ => ?_)
  refine am_iload dX11_areMapsWrong_49 rfl ?_
  refine am_aload_n dX11_areMapsWrong_51 rfl ?_
  refine am_bipush (v := nI 16) dX11_areMapsWrong_52 (by decide) ?_
  refine am_iload_n dX11_areMapsWrong_54 rfl ?_
  refine am_imul dX11_areMapsWrong_55 ?_
  refine am_top (show (nI 16) * (nI 0) = nI 0 by decide) ?_
  refine am_iload_n dX11_areMapsWrong_56 rfl ?_
  refine am_iadd dX11_areMapsWrong_57 ?_
  refine am_top (show (nI 0) + (nI 7) = nI 7 by decide) ?_
  refine am_iconst (v := nI 0) dX11_areMapsWrong_58 (by decide) ?_
  refine am_callVx (i := 0) (j := 60) (as := [.inl (nI 7), .inl (nI 0)]) (rest := [.inl (nI 0)]) dX11_areMapsWrong_59 lkX11_allInode ml_X11_496 imX11_allInode seX11_allInode rfl rfl (hG.m0 (by decide)) rfl (Nat.le_of_ble_eq_true rfl) rfl (c_MallInode hG (by omega) (by omega) I) ?_
  refine am_top (show I 0 127 (16 * (129 + 64 * (7 / 16) + 7 % 16) + 0) = nI 0 from (hA (16 * (129 + 64 * (7 / 16) + 7 % 16) + 0) (by decide)).trans rfl) ?_
  refine am_if_eq (tgt := 69) dX11_areMapsWrong_62 (by decide) (fun _ => ?_) (fun h => absurd h (by decide))
  refine am_iconst (v := nI 0) dX11_areMapsWrong_69 (by decide) ?_
  refine am_icmp_eq (tgt := 77) dX11_areMapsWrong_70 (by decide) (fun _ => ?_) (fun h => absurd h (by decide))
  refine am_iconst (v := nI 0) dX11_areMapsWrong_77 (by decide) ?_
  refine am_istore_n dX11_areMapsWrong_78 (by decide) ?_
  refine am_iinc (v := nI 8) dX11_areMapsWrong_79 rfl (by decide) ?_
  refine am_goto (tgt := 12) dX11_areMapsWrong_82 (by decide) ?_
  refine am_iload_n dX11_areMapsWrong_12 rfl ?_
  refine am_bipush (v := nI 16) dX11_areMapsWrong_13 (by decide) ?_
  refine am_icmp_ge (tgt := 85) dX11_areMapsWrong_15 (by decide) (fun h => absurd h (by decide)) (fun _ => ?_)
  refine am_aload_n dX11_areMapsWrong_18 rfl ?_
  refine am_get (v := .inr (0, 127)) dX11_areMapsWrong_19 fl_11_162 (hG.m0 (by decide)) rfl ?_
  refine am_bipush (v := nI 16) dX11_areMapsWrong_22 (by decide) ?_
  refine am_iload_n dX11_areMapsWrong_24 rfl ?_
  refine am_callSx (as := [.inl (nI 0)]) (rest := [.inl (nI 16), .inr (0, 127)]) dX11_areMapsWrong_25 lkX11_mapOf ml_X11_181 isX11_mapOf rfl (Nat.le_of_ble_eq_true rfl) rfl (c_MmapOf hG.nd (g := 0) (by omega) I) ?_
  refine am_imul dX11_areMapsWrong_28 ?_
  refine am_top (show (nI 16) * (nI 128) = nI 2048 by decide) ?_
  refine am_iald (a := 2048) dX11_areMapsWrong_29 (hG.m0 (by decide)) rfl rfl (show 2048 < 10240 from (by omega)) (show 10240 < 2 ^ 31 by decide) ?_
  refine am_top ((hA 2048 (by decide)).trans rfl) ?_
  refine am_iload_n dX11_areMapsWrong_30 rfl ?_
  refine am_ishr dX11_areMapsWrong_31 ?_
  refine am_top (show (nI 1) >>> ((nI 8) &&& 31) = nI 0 by decide) ?_
  refine am_iconst (v := nI 1) dX11_areMapsWrong_32 (by decide) ?_
  refine am_iand dX11_areMapsWrong_33 ?_
  refine am_top (show (nI 0) &&& (nI 1) = nI 0 by decide) ?_
  refine am_iconst (v := nI 1) dX11_areMapsWrong_34 (by decide) ?_
  refine am_icmp_ne (tgt := 42) dX11_areMapsWrong_35 (by decide) (fun _ => ?_) (fun h => absurd h (by decide))
  refine am_iconst (v := nI 0) dX11_areMapsWrong_42 (by decide) ?_
  refine am_istore dX11_areMapsWrong_43 (by decide) ?_
  refine am_iload_n dX11_areMapsWrong_45 rfl ?_
  refine am_if_ne (tgt := 73) dX11_areMapsWrong_46 (by decide) (fun h => absurd h (by decide)) (fun _ => ?_)
  refine am_iload dX11_areMapsWrong_49 rfl ?_
  refine am_aload_n dX11_areMapsWrong_51 rfl ?_
  refine am_bipush (v := nI 16) dX11_areMapsWrong_52 (by decide) ?_
  refine am_iload_n dX11_areMapsWrong_54 rfl ?_
  refine am_imul dX11_areMapsWrong_55 ?_
  refine am_top (show (nI 16) * (nI 0) = nI 0 by decide) ?_
  refine am_iload_n dX11_areMapsWrong_56 rfl ?_
  refine am_iadd dX11_areMapsWrong_57 ?_
  refine am_top (show (nI 0) + (nI 8) = nI 8 by decide) ?_
  refine am_iconst (v := nI 0) dX11_areMapsWrong_58 (by decide) ?_
  refine am_callVx (i := 0) (j := 60) (as := [.inl (nI 8), .inl (nI 0)]) (rest := [.inl (nI 0)]) dX11_areMapsWrong_59 lkX11_allInode ml_X11_496 imX11_allInode seX11_allInode rfl rfl (hG.m0 (by decide)) rfl (Nat.le_of_ble_eq_true rfl) rfl (c_MallInode hG (by omega) (by omega) I) ?_
  refine am_top (show I 0 127 (16 * (129 + 64 * (8 / 16) + 8 % 16) + 0) = nI 0 from (hA (16 * (129 + 64 * (8 / 16) + 8 % 16) + 0) (by decide)).trans rfl) ?_
  refine am_if_eq (tgt := 69) dX11_areMapsWrong_62 (by decide) (fun _ => ?_) (fun h => absurd h (by decide))
  refine am_iconst (v := nI 0) dX11_areMapsWrong_69 (by decide) ?_
  refine am_icmp_eq (tgt := 77) dX11_areMapsWrong_70 (by decide) (fun _ => ?_) (fun h => absurd h (by decide))
  refine am_iconst (v := nI 0) dX11_areMapsWrong_77 (by decide) ?_
  refine am_istore_n dX11_areMapsWrong_78 (by decide) ?_
  refine am_iinc (v := nI 9) dX11_areMapsWrong_79 rfl (by decide) ?_
  refine am_goto (tgt := 12) dX11_areMapsWrong_82 (by decide) ?_
  refine am_iload_n dX11_areMapsWrong_12 rfl ?_
  refine am_bipush (v := nI 16) dX11_areMapsWrong_13 (by decide) ?_
  refine am_icmp_ge (tgt := 85) dX11_areMapsWrong_15 (by decide) (fun h => absurd h (by decide)) (fun _ => ?_)
  refine am_aload_n dX11_areMapsWrong_18 rfl ?_
  refine am_get (v := .inr (0, 127)) dX11_areMapsWrong_19 fl_11_162 (hG.m0 (by decide)) rfl ?_
  refine am_bipush (v := nI 16) dX11_areMapsWrong_22 (by decide) ?_
  refine am_iload_n dX11_areMapsWrong_24 rfl ?_
  refine am_callSx (as := [.inl (nI 0)]) (rest := [.inl (nI 16), .inr (0, 127)]) dX11_areMapsWrong_25 lkX11_mapOf ml_X11_181 isX11_mapOf rfl (Nat.le_of_ble_eq_true rfl) rfl (c_MmapOf hG.nd (g := 0) (by omega) I) ?_
  refine am_imul dX11_areMapsWrong_28 ?_
  refine am_top (show (nI 16) * (nI 128) = nI 2048 by decide) ?_
  refine am_iald (a := 2048) dX11_areMapsWrong_29 (hG.m0 (by decide)) rfl rfl (show 2048 < 10240 from (by omega)) (show 10240 < 2 ^ 31 by decide) ?_
  refine am_top ((hA 2048 (by decide)).trans rfl) ?_
  refine am_iload_n dX11_areMapsWrong_30 rfl ?_
  refine am_ishr dX11_areMapsWrong_31 ?_
  refine am_top (show (nI 1) >>> ((nI 9) &&& 31) = nI 0 by decide) ?_
  refine am_iconst (v := nI 1) dX11_areMapsWrong_32 (by decide) ?_
  refine am_iand dX11_areMapsWrong_33 ?_
  refine am_top (show (nI 0) &&& (nI 1) = nI 0 by decide) ?_
  refine am_iconst (v := nI 1) dX11_areMapsWrong_34 (by decide) ?_
  refine am_icmp_ne (tgt := 42) dX11_areMapsWrong_35 (by decide) (fun _ => ?_) (fun h => absurd h (by decide))
  refine am_iconst (v := nI 0) dX11_areMapsWrong_42 (by decide) ?_
  refine am_istore dX11_areMapsWrong_43 (by decide) ?_
  refine am_iload_n dX11_areMapsWrong_45 rfl ?_
  refine am_if_ne (tgt := 73) dX11_areMapsWrong_46 (by decide) (fun h => absurd h (by decide)) (fun _ => ?_)
  refine am_iload dX11_areMapsWrong_49 rfl ?_
  refine am_aload_n dX11_areMapsWrong_51 rfl ?_
  refine am_bipush (v := nI 16) dX11_areMapsWrong_52 (by decide) ?_
  refine am_iload_n dX11_areMapsWrong_54 rfl ?_
  refine am_imul dX11_areMapsWrong_55 ?_
  refine am_top (show (nI 16) * (nI 0) = nI 0 by decide) ?_
  refine am_iload_n dX11_areMapsWrong_56 rfl ?_
  refine am_iadd dX11_areMapsWrong_57 ?_
  refine am_top (show (nI 0) + (nI 9) = nI 9 by decide) ?_
  refine am_iconst (v := nI 0) dX11_areMapsWrong_58 (by decide) ?_
  refine am_callVx (i := 0) (j := 60) (as := [.inl (nI 9), .inl (nI 0)]) (rest := [.inl (nI 0)]) dX11_areMapsWrong_59 lkX11_allInode ml_X11_496 imX11_allInode seX11_allInode rfl rfl (hG.m0 (by decide)) rfl (Nat.le_of_ble_eq_true rfl) rfl (c_MallInode hG (by omega) (by omega) I) ?_
  refine am_top (show I 0 127 (16 * (129 + 64 * (9 / 16) + 9 % 16) + 0) = nI 0 from (hA (16 * (129 + 64 * (9 / 16) + 9 % 16) + 0) (by decide)).trans rfl) ?_
  refine am_if_eq (tgt := 69) dX11_areMapsWrong_62 (by decide) (fun _ => ?_) (fun h => absurd h (by decide))
  refine am_iconst (v := nI 0) dX11_areMapsWrong_69 (by decide) ?_
  refine am_icmp_eq (tgt := 77) dX11_areMapsWrong_70 (by decide) (fun _ => ?_) (fun h => absurd h (by decide))
  refine am_iconst (v := nI 0) dX11_areMapsWrong_77 (by decide) ?_
  refine am_istore_n dX11_areMapsWrong_78 (by decide) ?_
  refine am_iinc (v := nI 10) dX11_areMapsWrong_79 rfl (by decide) ?_
  refine am_goto (tgt := 12) dX11_areMapsWrong_82 (by decide) ?_
  refine am_iload_n dX11_areMapsWrong_12 rfl ?_
  refine am_bipush (v := nI 16) dX11_areMapsWrong_13 (by decide) ?_
  refine am_icmp_ge (tgt := 85) dX11_areMapsWrong_15 (by decide) (fun h => absurd h (by decide)) (fun _ => ?_)
  refine am_aload_n dX11_areMapsWrong_18 rfl ?_
  refine am_get (v := .inr (0, 127)) dX11_areMapsWrong_19 fl_11_162 (hG.m0 (by decide)) rfl ?_
  refine am_bipush (v := nI 16) dX11_areMapsWrong_22 (by decide) ?_
  refine am_iload_n dX11_areMapsWrong_24 rfl ?_
  refine am_callSx (as := [.inl (nI 0)]) (rest := [.inl (nI 16), .inr (0, 127)]) dX11_areMapsWrong_25 lkX11_mapOf ml_X11_181 isX11_mapOf rfl (Nat.le_of_ble_eq_true rfl) rfl (c_MmapOf hG.nd (g := 0) (by omega) I) ?_
  refine am_imul dX11_areMapsWrong_28 ?_
  refine am_top (show (nI 16) * (nI 128) = nI 2048 by decide) ?_
  refine am_iald (a := 2048) dX11_areMapsWrong_29 (hG.m0 (by decide)) rfl rfl (show 2048 < 10240 from (by omega)) (show 10240 < 2 ^ 31 by decide) ?_
  refine am_top ((hA 2048 (by decide)).trans rfl) ?_
  refine am_iload_n dX11_areMapsWrong_30 rfl ?_
  refine am_ishr dX11_areMapsWrong_31 ?_
  refine am_top (show (nI 1) >>> ((nI 10) &&& 31) = nI 0 by decide) ?_
  refine am_iconst (v := nI 1) dX11_areMapsWrong_32 (by decide) ?_
  refine am_iand dX11_areMapsWrong_33 ?_
  refine am_top (show (nI 0) &&& (nI 1) = nI 0 by decide) ?_
  refine am_iconst (v := nI 1) dX11_areMapsWrong_34 (by decide) ?_
  refine am_icmp_ne (tgt := 42) dX11_areMapsWrong_35 (by decide) (fun _ => ?_) (fun h => absurd h (by decide))
  refine am_iconst (v := nI 0) dX11_areMapsWrong_42 (by decide) ?_
  refine am_istore dX11_areMapsWrong_43 (by decide) ?_
  refine am_iload_n dX11_areMapsWrong_45 rfl ?_
  refine am_if_ne (tgt := 73) dX11_areMapsWrong_46 (by decide) (fun h => absurd h (by decide)) (fun _ => ?_)
  refine am_iload dX11_areMapsWrong_49 rfl ?_
  refine am_aload_n dX11_areMapsWrong_51 rfl ?_
  refine am_bipush (v := nI 16) dX11_areMapsWrong_52 (by decide) ?_
  refine am_iload_n dX11_areMapsWrong_54 rfl ?_
  refine am_imul dX11_areMapsWrong_55 ?_
  refine am_top (show (nI 16) * (nI 0) = nI 0 by decide) ?_
  refine am_iload_n dX11_areMapsWrong_56 rfl ?_
  refine am_iadd dX11_areMapsWrong_57 ?_
  refine am_top (show (nI 0) + (nI 10) = nI 10 by decide) ?_
  refine am_iconst (v := nI 0) dX11_areMapsWrong_58 (by decide) ?_
  refine am_callVx (i := 0) (j := 60) (as := [.inl (nI 10), .inl (nI 0)]) (rest := [.inl (nI 0)]) dX11_areMapsWrong_59 lkX11_allInode ml_X11_496 imX11_allInode seX11_allInode rfl rfl (hG.m0 (by decide)) rfl (Nat.le_of_ble_eq_true rfl) rfl (c_MallInode hG (by omega) (by omega) I) ?_
  refine am_top (show I 0 127 (16 * (129 + 64 * (10 / 16) + 10 % 16) + 0) = nI 0 from (hA (16 * (129 + 64 * (10 / 16) + 10 % 16) + 0) (by decide)).trans rfl) ?_
  refine am_if_eq (tgt := 69) dX11_areMapsWrong_62 (by decide) (fun _ => ?_) (fun h => absurd h (by decide))
  refine am_iconst (v := nI 0) dX11_areMapsWrong_69 (by decide) ?_
  refine am_icmp_eq (tgt := 77) dX11_areMapsWrong_70 (by decide) (fun _ => ?_) (fun h => absurd h (by decide))
  refine am_iconst (v := nI 0) dX11_areMapsWrong_77 (by decide) ?_
  refine am_istore_n dX11_areMapsWrong_78 (by decide) ?_
  refine am_iinc (v := nI 11) dX11_areMapsWrong_79 rfl (by decide) ?_
  refine am_goto (tgt := 12) dX11_areMapsWrong_82 (by decide) ?_
  refine am_iload_n dX11_areMapsWrong_12 rfl ?_
  refine am_bipush (v := nI 16) dX11_areMapsWrong_13 (by decide) ?_
  refine am_icmp_ge (tgt := 85) dX11_areMapsWrong_15 (by decide) (fun h => absurd h (by decide)) (fun _ => ?_)
  refine am_aload_n dX11_areMapsWrong_18 rfl ?_
  refine am_get (v := .inr (0, 127)) dX11_areMapsWrong_19 fl_11_162 (hG.m0 (by decide)) rfl ?_
  refine am_bipush (v := nI 16) dX11_areMapsWrong_22 (by decide) ?_
  refine am_iload_n dX11_areMapsWrong_24 rfl ?_
  refine am_callSx (as := [.inl (nI 0)]) (rest := [.inl (nI 16), .inr (0, 127)]) dX11_areMapsWrong_25 lkX11_mapOf ml_X11_181 isX11_mapOf rfl (Nat.le_of_ble_eq_true rfl) rfl (c_MmapOf hG.nd (g := 0) (by omega) I) ?_
  refine am_imul dX11_areMapsWrong_28 ?_
  refine am_top (show (nI 16) * (nI 128) = nI 2048 by decide) ?_
  refine am_iald (a := 2048) dX11_areMapsWrong_29 (hG.m0 (by decide)) rfl rfl (show 2048 < 10240 from (by omega)) (show 10240 < 2 ^ 31 by decide) ?_
  refine am_top ((hA 2048 (by decide)).trans rfl) ?_
  refine am_iload_n dX11_areMapsWrong_30 rfl ?_
  refine am_ishr dX11_areMapsWrong_31 ?_
  refine am_top (show (nI 1) >>> ((nI 11) &&& 31) = nI 0 by decide) ?_
  refine am_iconst (v := nI 1) dX11_areMapsWrong_32 (by decide) ?_
  refine am_iand dX11_areMapsWrong_33 ?_
  refine am_top (show (nI 0) &&& (nI 1) = nI 0 by decide) ?_
  refine am_iconst (v := nI 1) dX11_areMapsWrong_34 (by decide) ?_
  refine am_icmp_ne (tgt := 42) dX11_areMapsWrong_35 (by decide) (fun _ => ?_) (fun h => absurd h (by decide))
  refine am_iconst (v := nI 0) dX11_areMapsWrong_42 (by decide) ?_
  refine am_istore dX11_areMapsWrong_43 (by decide) ?_
  refine am_iload_n dX11_areMapsWrong_45 rfl ?_
  refine am_if_ne (tgt := 73) dX11_areMapsWrong_46 (by decide) (fun h => absurd h (by decide)) (fun _ => ?_)
  refine am_iload dX11_areMapsWrong_49 rfl ?_
  refine am_aload_n dX11_areMapsWrong_51 rfl ?_
  refine am_bipush (v := nI 16) dX11_areMapsWrong_52 (by decide) ?_
  refine am_iload_n dX11_areMapsWrong_54 rfl ?_
  refine am_imul dX11_areMapsWrong_55 ?_
  refine am_top (show (nI 16) * (nI 0) = nI 0 by decide) ?_
  refine am_iload_n dX11_areMapsWrong_56 rfl ?_
  refine am_iadd dX11_areMapsWrong_57 ?_
  refine am_top (show (nI 0) + (nI 11) = nI 11 by decide) ?_
  refine am_iconst (v := nI 0) dX11_areMapsWrong_58 (by decide) ?_
  refine am_callVx (i := 0) (j := 60) (as := [.inl (nI 11), .inl (nI 0)]) (rest := [.inl (nI 0)]) dX11_areMapsWrong_59 lkX11_allInode ml_X11_496 imX11_allInode seX11_allInode rfl rfl (hG.m0 (by decide)) rfl (Nat.le_of_ble_eq_true rfl) rfl (c_MallInode hG (by omega) (by omega) I) ?_
  refine am_top (show I 0 127 (16 * (129 + 64 * (11 / 16) + 11 % 16) + 0) = nI 0 from (hA (16 * (129 + 64 * (11 / 16) + 11 % 16) + 0) (by decide)).trans rfl) ?_
  refine am_if_eq (tgt := 69) dX11_areMapsWrong_62 (by decide) (fun _ => ?_) (fun h => absurd h (by decide))
  refine am_iconst (v := nI 0) dX11_areMapsWrong_69 (by decide) ?_
  refine am_icmp_eq (tgt := 77) dX11_areMapsWrong_70 (by decide) (fun _ => ?_) (fun h => absurd h (by decide))
  refine am_iconst (v := nI 0) dX11_areMapsWrong_77 (by decide) ?_
  refine am_istore_n dX11_areMapsWrong_78 (by decide) ?_
  refine am_iinc (v := nI 12) dX11_areMapsWrong_79 rfl (by decide) ?_
  refine am_goto (tgt := 12) dX11_areMapsWrong_82 (by decide) ?_
  refine am_iload_n dX11_areMapsWrong_12 rfl ?_
  refine am_bipush (v := nI 16) dX11_areMapsWrong_13 (by decide) ?_
  refine am_icmp_ge (tgt := 85) dX11_areMapsWrong_15 (by decide) (fun h => absurd h (by decide)) (fun _ => ?_)
  refine am_aload_n dX11_areMapsWrong_18 rfl ?_
  refine am_get (v := .inr (0, 127)) dX11_areMapsWrong_19 fl_11_162 (hG.m0 (by decide)) rfl ?_
  refine am_bipush (v := nI 16) dX11_areMapsWrong_22 (by decide) ?_
  refine am_iload_n dX11_areMapsWrong_24 rfl ?_
  refine am_callSx (as := [.inl (nI 0)]) (rest := [.inl (nI 16), .inr (0, 127)]) dX11_areMapsWrong_25 lkX11_mapOf ml_X11_181 isX11_mapOf rfl (Nat.le_of_ble_eq_true rfl) rfl (c_MmapOf hG.nd (g := 0) (by omega) I) ?_
  refine am_imul dX11_areMapsWrong_28 ?_
  refine am_top (show (nI 16) * (nI 128) = nI 2048 by decide) ?_
  refine am_iald (a := 2048) dX11_areMapsWrong_29 (hG.m0 (by decide)) rfl rfl (show 2048 < 10240 from (by omega)) (show 10240 < 2 ^ 31 by decide) ?_
  refine am_top ((hA 2048 (by decide)).trans rfl) ?_
  refine am_iload_n dX11_areMapsWrong_30 rfl ?_
  refine am_ishr dX11_areMapsWrong_31 ?_
  refine am_top (show (nI 1) >>> ((nI 12) &&& 31) = nI 0 by decide) ?_
  refine am_iconst (v := nI 1) dX11_areMapsWrong_32 (by decide) ?_
  refine am_iand dX11_areMapsWrong_33 ?_
  refine am_top (show (nI 0) &&& (nI 1) = nI 0 by decide) ?_
  refine am_iconst (v := nI 1) dX11_areMapsWrong_34 (by decide) ?_
  refine am_icmp_ne (tgt := 42) dX11_areMapsWrong_35 (by decide) (fun _ => ?_) (fun h => absurd h (by decide))
  refine am_iconst (v := nI 0) dX11_areMapsWrong_42 (by decide) ?_
  refine am_istore dX11_areMapsWrong_43 (by decide) ?_
  refine am_iload_n dX11_areMapsWrong_45 rfl ?_
  refine am_if_ne (tgt := 73) dX11_areMapsWrong_46 (by decide) (fun h => absurd h (by decide)) (fun _ => ?_)
  refine am_iload dX11_areMapsWrong_49 rfl ?_
  refine am_aload_n dX11_areMapsWrong_51 rfl ?_
  refine am_bipush (v := nI 16) dX11_areMapsWrong_52 (by decide) ?_
  refine am_iload_n dX11_areMapsWrong_54 rfl ?_
  refine am_imul dX11_areMapsWrong_55 ?_
  refine am_top (show (nI 16) * (nI 0) = nI 0 by decide) ?_
  refine am_iload_n dX11_areMapsWrong_56 rfl ?_
  refine am_iadd dX11_areMapsWrong_57 ?_
  refine am_top (show (nI 0) + (nI 12) = nI 12 by decide) ?_
  refine am_iconst (v := nI 0) dX11_areMapsWrong_58 (by decide) ?_
  refine am_callVx (i := 0) (j := 60) (as := [.inl (nI 12), .inl (nI 0)]) (rest := [.inl (nI 0)]) dX11_areMapsWrong_59 lkX11_allInode ml_X11_496 imX11_allInode seX11_allInode rfl rfl (hG.m0 (by decide)) rfl (Nat.le_of_ble_eq_true rfl) rfl (c_MallInode hG (by omega) (by omega) I) ?_
  refine am_top (show I 0 127 (16 * (129 + 64 * (12 / 16) + 12 % 16) + 0) = nI 0 from (hA (16 * (129 + 64 * (12 / 16) + 12 % 16) + 0) (by decide)).trans rfl) ?_
  refine am_if_eq (tgt := 69) dX11_areMapsWrong_62 (by decide) (fun _ => ?_) (fun h => absurd h (by decide))
  refine am_iconst (v := nI 0) dX11_areMapsWrong_69 (by decide) ?_
  refine am_icmp_eq (tgt := 77) dX11_areMapsWrong_70 (by decide) (fun _ => ?_) (fun h => absurd h (by decide))
  refine am_iconst (v := nI 0) dX11_areMapsWrong_77 (by decide) ?_
  refine am_istore_n dX11_areMapsWrong_78 (by decide) ?_
  refine am_iinc (v := nI 13) dX11_areMapsWrong_79 rfl (by decide) ?_
  refine am_goto (tgt := 12) dX11_areMapsWrong_82 (by decide) ?_
  refine am_iload_n dX11_areMapsWrong_12 rfl ?_
  refine am_bipush (v := nI 16) dX11_areMapsWrong_13 (by decide) ?_
  refine am_icmp_ge (tgt := 85) dX11_areMapsWrong_15 (by decide) (fun h => absurd h (by decide)) (fun _ => ?_)
  refine am_aload_n dX11_areMapsWrong_18 rfl ?_
  refine am_get (v := .inr (0, 127)) dX11_areMapsWrong_19 fl_11_162 (hG.m0 (by decide)) rfl ?_
  refine am_bipush (v := nI 16) dX11_areMapsWrong_22 (by decide) ?_
  refine am_iload_n dX11_areMapsWrong_24 rfl ?_
  refine am_callSx (as := [.inl (nI 0)]) (rest := [.inl (nI 16), .inr (0, 127)]) dX11_areMapsWrong_25 lkX11_mapOf ml_X11_181 isX11_mapOf rfl (Nat.le_of_ble_eq_true rfl) rfl (c_MmapOf hG.nd (g := 0) (by omega) I) ?_
  refine am_imul dX11_areMapsWrong_28 ?_
  refine am_top (show (nI 16) * (nI 128) = nI 2048 by decide) ?_
  refine am_iald (a := 2048) dX11_areMapsWrong_29 (hG.m0 (by decide)) rfl rfl (show 2048 < 10240 from (by omega)) (show 10240 < 2 ^ 31 by decide) ?_
  refine am_top ((hA 2048 (by decide)).trans rfl) ?_
  refine am_iload_n dX11_areMapsWrong_30 rfl ?_
  refine am_ishr dX11_areMapsWrong_31 ?_
  refine am_top (show (nI 1) >>> ((nI 13) &&& 31) = nI 0 by decide) ?_
  refine am_iconst (v := nI 1) dX11_areMapsWrong_32 (by decide) ?_
  refine am_iand dX11_areMapsWrong_33 ?_
  refine am_top (show (nI 0) &&& (nI 1) = nI 0 by decide) ?_
  refine am_iconst (v := nI 1) dX11_areMapsWrong_34 (by decide) ?_
  refine am_icmp_ne (tgt := 42) dX11_areMapsWrong_35 (by decide) (fun _ => ?_) (fun h => absurd h (by decide))
  refine am_iconst (v := nI 0) dX11_areMapsWrong_42 (by decide) ?_
  refine am_istore dX11_areMapsWrong_43 (by decide) ?_
  refine am_iload_n dX11_areMapsWrong_45 rfl ?_
  refine am_if_ne (tgt := 73) dX11_areMapsWrong_46 (by decide) (fun h => absurd h (by decide)) (fun _ => ?_)
  refine am_iload dX11_areMapsWrong_49 rfl ?_
  refine am_aload_n dX11_areMapsWrong_51 rfl ?_
  refine am_bipush (v := nI 16) dX11_areMapsWrong_52 (by decide) ?_
  refine am_iload_n dX11_areMapsWrong_54 rfl ?_
  refine am_imul dX11_areMapsWrong_55 ?_
  refine am_top (show (nI 16) * (nI 0) = nI 0 by decide) ?_
  refine am_iload_n dX11_areMapsWrong_56 rfl ?_
  refine am_iadd dX11_areMapsWrong_57 ?_
  refine am_top (show (nI 0) + (nI 13) = nI 13 by decide) ?_
  refine am_iconst (v := nI 0) dX11_areMapsWrong_58 (by decide) ?_
  refine am_callVx (i := 0) (j := 60) (as := [.inl (nI 13), .inl (nI 0)]) (rest := [.inl (nI 0)]) dX11_areMapsWrong_59 lkX11_allInode ml_X11_496 imX11_allInode seX11_allInode rfl rfl (hG.m0 (by decide)) rfl (Nat.le_of_ble_eq_true rfl) rfl (c_MallInode hG (by omega) (by omega) I) ?_
  refine am_top (show I 0 127 (16 * (129 + 64 * (13 / 16) + 13 % 16) + 0) = nI 0 from (hA (16 * (129 + 64 * (13 / 16) + 13 % 16) + 0) (by decide)).trans rfl) ?_
  refine am_if_eq (tgt := 69) dX11_areMapsWrong_62 (by decide) (fun _ => ?_) (fun h => absurd h (by decide))
  refine am_iconst (v := nI 0) dX11_areMapsWrong_69 (by decide) ?_
  refine am_icmp_eq (tgt := 77) dX11_areMapsWrong_70 (by decide) (fun _ => ?_) (fun h => absurd h (by decide))
  refine am_iconst (v := nI 0) dX11_areMapsWrong_77 (by decide) ?_
  refine am_istore_n dX11_areMapsWrong_78 (by decide) ?_
  refine am_iinc (v := nI 14) dX11_areMapsWrong_79 rfl (by decide) ?_
  refine am_goto (tgt := 12) dX11_areMapsWrong_82 (by decide) ?_
  refine am_iload_n dX11_areMapsWrong_12 rfl ?_
  refine am_bipush (v := nI 16) dX11_areMapsWrong_13 (by decide) ?_
  refine am_icmp_ge (tgt := 85) dX11_areMapsWrong_15 (by decide) (fun h => absurd h (by decide)) (fun _ => ?_)
  refine am_aload_n dX11_areMapsWrong_18 rfl ?_
  refine am_get (v := .inr (0, 127)) dX11_areMapsWrong_19 fl_11_162 (hG.m0 (by decide)) rfl ?_
  refine am_bipush (v := nI 16) dX11_areMapsWrong_22 (by decide) ?_
  refine am_iload_n dX11_areMapsWrong_24 rfl ?_
  refine am_callSx (as := [.inl (nI 0)]) (rest := [.inl (nI 16), .inr (0, 127)]) dX11_areMapsWrong_25 lkX11_mapOf ml_X11_181 isX11_mapOf rfl (Nat.le_of_ble_eq_true rfl) rfl (c_MmapOf hG.nd (g := 0) (by omega) I) ?_
  refine am_imul dX11_areMapsWrong_28 ?_
  refine am_top (show (nI 16) * (nI 128) = nI 2048 by decide) ?_
  refine am_iald (a := 2048) dX11_areMapsWrong_29 (hG.m0 (by decide)) rfl rfl (show 2048 < 10240 from (by omega)) (show 10240 < 2 ^ 31 by decide) ?_
  refine am_top ((hA 2048 (by decide)).trans rfl) ?_
  refine am_iload_n dX11_areMapsWrong_30 rfl ?_
  refine am_ishr dX11_areMapsWrong_31 ?_
  refine am_top (show (nI 1) >>> ((nI 14) &&& 31) = nI 0 by decide) ?_
  refine am_iconst (v := nI 1) dX11_areMapsWrong_32 (by decide) ?_
  refine am_iand dX11_areMapsWrong_33 ?_
  refine am_top (show (nI 0) &&& (nI 1) = nI 0 by decide) ?_
  refine am_iconst (v := nI 1) dX11_areMapsWrong_34 (by decide) ?_
  refine am_icmp_ne (tgt := 42) dX11_areMapsWrong_35 (by decide) (fun _ => ?_) (fun h => absurd h (by decide))
  refine am_iconst (v := nI 0) dX11_areMapsWrong_42 (by decide) ?_
  refine am_istore dX11_areMapsWrong_43 (by decide) ?_
  refine am_iload_n dX11_areMapsWrong_45 rfl ?_
  refine am_if_ne (tgt := 73) dX11_areMapsWrong_46 (by decide) (fun h => absurd h (by decide)) (fun _ => ?_)
  refine am_iload dX11_areMapsWrong_49 rfl ?_
  refine am_aload_n dX11_areMapsWrong_51 rfl ?_
  refine am_bipush (v := nI 16) dX11_areMapsWrong_52 (by decide) ?_
  refine am_iload_n dX11_areMapsWrong_54 rfl ?_
  refine am_imul dX11_areMapsWrong_55 ?_
  refine am_top (show (nI 16) * (nI 0) = nI 0 by decide) ?_
  refine am_iload_n dX11_areMapsWrong_56 rfl ?_
  refine am_iadd dX11_areMapsWrong_57 ?_
  refine am_top (show (nI 0) + (nI 14) = nI 14 by decide) ?_
  refine am_iconst (v := nI 0) dX11_areMapsWrong_58 (by decide) ?_
  refine am_callVx (i := 0) (j := 60) (as := [.inl (nI 14), .inl (nI 0)]) (rest := [.inl (nI 0)]) dX11_areMapsWrong_59 lkX11_allInode ml_X11_496 imX11_allInode seX11_allInode rfl rfl (hG.m0 (by decide)) rfl (Nat.le_of_ble_eq_true rfl) rfl (c_MallInode hG (by omega) (by omega) I) ?_
  refine am_top (show I 0 127 (16 * (129 + 64 * (14 / 16) + 14 % 16) + 0) = nI 0 from (hA (16 * (129 + 64 * (14 / 16) + 14 % 16) + 0) (by decide)).trans rfl) ?_
  refine am_if_eq (tgt := 69) dX11_areMapsWrong_62 (by decide) (fun _ => ?_) (fun h => absurd h (by decide))
  refine am_iconst (v := nI 0) dX11_areMapsWrong_69 (by decide) ?_
  refine am_icmp_eq (tgt := 77) dX11_areMapsWrong_70 (by decide) (fun _ => ?_) (fun h => absurd h (by decide))
  refine am_iconst (v := nI 0) dX11_areMapsWrong_77 (by decide) ?_
  refine am_istore_n dX11_areMapsWrong_78 (by decide) ?_
  refine am_iinc (v := nI 15) dX11_areMapsWrong_79 rfl (by decide) ?_
  refine am_goto (tgt := 12) dX11_areMapsWrong_82 (by decide) ?_
  refine am_iload_n dX11_areMapsWrong_12 rfl ?_
  refine am_bipush (v := nI 16) dX11_areMapsWrong_13 (by decide) ?_
  refine am_icmp_ge (tgt := 85) dX11_areMapsWrong_15 (by decide) (fun h => absurd h (by decide)) (fun _ => ?_)
  refine am_aload_n dX11_areMapsWrong_18 rfl ?_
  refine am_get (v := .inr (0, 127)) dX11_areMapsWrong_19 fl_11_162 (hG.m0 (by decide)) rfl ?_
  refine am_bipush (v := nI 16) dX11_areMapsWrong_22 (by decide) ?_
  refine am_iload_n dX11_areMapsWrong_24 rfl ?_
  refine am_callSx (as := [.inl (nI 0)]) (rest := [.inl (nI 16), .inr (0, 127)]) dX11_areMapsWrong_25 lkX11_mapOf ml_X11_181 isX11_mapOf rfl (Nat.le_of_ble_eq_true rfl) rfl (c_MmapOf hG.nd (g := 0) (by omega) I) ?_
  refine am_imul dX11_areMapsWrong_28 ?_
  refine am_top (show (nI 16) * (nI 128) = nI 2048 by decide) ?_
  refine am_iald (a := 2048) dX11_areMapsWrong_29 (hG.m0 (by decide)) rfl rfl (show 2048 < 10240 from (by omega)) (show 10240 < 2 ^ 31 by decide) ?_
  refine am_top ((hA 2048 (by decide)).trans rfl) ?_
  refine am_iload_n dX11_areMapsWrong_30 rfl ?_
  refine am_ishr dX11_areMapsWrong_31 ?_
  refine am_top (show (nI 1) >>> ((nI 15) &&& 31) = nI 0 by decide) ?_
  refine am_iconst (v := nI 1) dX11_areMapsWrong_32 (by decide) ?_
  refine am_iand dX11_areMapsWrong_33 ?_
  refine am_top (show (nI 0) &&& (nI 1) = nI 0 by decide) ?_
  refine am_iconst (v := nI 1) dX11_areMapsWrong_34 (by decide) ?_
  refine am_icmp_ne (tgt := 42) dX11_areMapsWrong_35 (by decide) (fun _ => ?_) (fun h => absurd h (by decide))
  refine am_iconst (v := nI 0) dX11_areMapsWrong_42 (by decide) ?_
  refine am_istore dX11_areMapsWrong_43 (by decide) ?_
  refine am_iload_n dX11_areMapsWrong_45 rfl ?_
  refine am_if_ne (tgt := 73) dX11_areMapsWrong_46 (by decide) (fun h => absurd h (by decide)) (fun _ => ?_)
  refine am_iload dX11_areMapsWrong_49 rfl ?_
  refine am_aload_n dX11_areMapsWrong_51 rfl ?_
  refine am_bipush (v := nI 16) dX11_areMapsWrong_52 (by decide) ?_
  refine am_iload_n dX11_areMapsWrong_54 rfl ?_
  refine am_imul dX11_areMapsWrong_55 ?_
  refine am_top (show (nI 16) * (nI 0) = nI 0 by decide) ?_
  refine am_iload_n dX11_areMapsWrong_56 rfl ?_
  refine am_iadd dX11_areMapsWrong_57 ?_
  refine am_top (show (nI 0) + (nI 15) = nI 15 by decide) ?_
  refine am_iconst (v := nI 0) dX11_areMapsWrong_58 (by decide) ?_
  refine am_callVx (i := 0) (j := 60) (as := [.inl (nI 15), .inl (nI 0)]) (rest := [.inl (nI 0)]) dX11_areMapsWrong_59 lkX11_allInode ml_X11_496 imX11_allInode seX11_allInode rfl rfl (hG.m0 (by decide)) rfl (Nat.le_of_ble_eq_true rfl) rfl (c_MallInode hG (by omega) (by omega) I) ?_
  refine am_top (show I 0 127 (16 * (129 + 64 * (15 / 16) + 15 % 16) + 0) = nI 0 from (hA (16 * (129 + 64 * (15 / 16) + 15 % 16) + 0) (by decide)).trans rfl) ?_
  refine am_if_eq (tgt := 69) dX11_areMapsWrong_62 (by decide) (fun _ => ?_) (fun h => absurd h (by decide))
  refine am_iconst (v := nI 0) dX11_areMapsWrong_69 (by decide) ?_
  refine am_icmp_eq (tgt := 77) dX11_areMapsWrong_70 (by decide) (fun _ => ?_) (fun h => absurd h (by decide))
  refine am_iconst (v := nI 0) dX11_areMapsWrong_77 (by decide) ?_
  refine am_istore_n dX11_areMapsWrong_78 (by decide) ?_
  refine am_iinc (v := nI 16) dX11_areMapsWrong_79 rfl (by decide) ?_
  refine am_goto (tgt := 12) dX11_areMapsWrong_82 (by decide) ?_
  refine am_iload_n dX11_areMapsWrong_12 rfl ?_
  refine am_bipush (v := nI 16) dX11_areMapsWrong_13 (by decide) ?_
  refine am_icmp_ge (tgt := 85) dX11_areMapsWrong_15 (by decide) (fun _ => ?_) (fun h => absurd h (by decide))
  refine am_iconst (v := nI 0) dX11_areMapsWrong_85 (by decide) ?_
  refine am_istore_n dX11_areMapsWrong_86 (by decide) ?_
  refine KD0 (fun s4 => ?_) 47 0 _ (by omega)
  refine am_iinc (v := nI 1) dX11_areMapsWrong_169 rfl (by decide) ?_
  refine am_goto (tgt := 4) dX11_areMapsWrong_172 (by decide) ?_
  exact K 7 0 _ _ (by omega)
theorem c_Mwhole0 {G : am_G} (hG : am_okM G) {d : Nat} {I : am_I} (hnn : I 0 60 1 = nI G.2.2.2.1) (hj : ∀ x, x < G.2.2.2.1 → I 0 66 x = nI 1) (hD : ∀ k, I 0 64 k = am_dk G.2.2.2.1 k) : am_C G (d + 4) mX11_whole [.inr (0, 60)] I (fun rr J => rr = some (nI 0) ∧ J 0 60 0 = I 0 60 0) := by
  have hn4 := hG.hi
  have hn2 := hG.lo
  have LB : ∀ (J3 : am_I) (_ : ∀ k, k < 10240 → J3 0 127 k = am_dk G.2.2.2.1 k) (_ : ∀ b, b < 640 → J3 0 131 b = nI 0) (_ : J3 0 60 0 = I 0 60 0) (m a : Nat), a + m = 639 → am_J G (d + 4) mX11_whole am_no (fun rr J => rr = some (nI 0) ∧ J 0 60 0 = I 0 60 0) 215 [some (.inr (0, 60)), some (.inl (nI 0)), some (.inl (nI 0)), some (.inl (nI 0)), some (.inl (nI 0)), some (.inl (nI (a + 1)))] [] J3 := by
    intro J3 hA hH hth m
    induction m with
    | zero =>
      intro a ha
      obtain rfl : a = 639 := by omega
      refine am_iload dX11_whole_215 rfl ?_
      refine am_sipush (v := nI 640) dX11_whole_217 (by decide) ?_
      refine am_icmp_ge (tgt := 252) dX11_whole_220 (by decide) (fun _ => ?_) (fun h => absurd ((nI_leI (a := 640) (b := 639 + 1) (by omega) (by omega)).mpr (by omega)) h)
      refine am_iload dX11_whole_252 rfl ?_
      refine am_if_eq (tgt := 261) dX11_whole_254 (by decide) (fun _ => ?_) (fun h => absurd h (by decide))
      refine am_aload_n dX11_whole_261 rfl ?_
      refine am_callVx (i := 0) (j := 60) (as := []) (rest := []) dX11_whole_262 lkX11_areMapsWrong ml_X11_517 imX11_areMapsWrong seX11_areMapsWrong rfl rfl (hG.m0 (by decide)) rfl (Nat.le_of_ble_eq_true rfl) rfl (c_MareMapsWrong0 hG hA hH) ?_
      refine am_if_eq (tgt := 273) dX11_whole_265 (by decide) (fun _ => ?_) (fun h => absurd h (by decide))
      refine am_iconst (v := nI 0) dX11_whole_273 (by decide) ?_
      refine am_iret dX11_whole_274 rfl rfl ?_
      exact ⟨rfl, hth⟩
    | succ m ih =>
      intro a ha
      refine am_iload dX11_whole_215 rfl ?_
      refine am_sipush (v := nI 640) dX11_whole_217 (by decide) ?_
      refine am_icmp_ge (tgt := 252) dX11_whole_220 (by decide) (fun h => absurd ((nI_leI (a := 640) (b := a + 1) (by omega) (by omega)).mp h) (by omega)) (fun _ => ?_)
      refine am_iload dX11_whole_223 rfl ?_
      refine am_if_ne (tgt := 239) dX11_whole_225 (by decide) (fun h => absurd h (by decide)) (fun _ => ?_)
      refine am_aload_n dX11_whole_228 rfl ?_
      refine am_get (v := .inr (0, 131)) dX11_whole_229 fl_11_174 (hG.m0 (by decide)) rfl ?_
      refine am_iload dX11_whole_232 rfl ?_
      refine am_iald (a := a + 1) dX11_whole_234 (hG.m0 (by decide)) rfl rfl (show a + 1 < 640 from (by omega)) (show 640 < 2 ^ 31 by decide) ?_
      refine am_top (hH _ (by omega)) ?_
      refine am_iconst (v := nI 1) dX11_whole_235 (by decide) ?_
      refine am_icmp_le (tgt := 243) dX11_whole_236 (by decide) (fun _ => ?_) (fun h => absurd h (by decide))
      refine am_iconst (v := nI 0) dX11_whole_243 (by decide) ?_
      refine am_istore dX11_whole_244 (by decide) ?_
      refine am_iinc (v := nI (a + 1 + 1)) dX11_whole_246 rfl (nI_add _ _) ?_
      refine am_goto (tgt := 215) dX11_whole_249 (by decide) ?_
      exact ih (a + 1) (by omega)
  have LA : ∀ (J2 : am_I) (_ : ∀ k, k < 10240 → J2 0 127 k = am_dk G.2.2.2.1 k) (_ : J2 0 60 0 = I 0 60 0) (m a : Nat), a + m = 127 → am_J G (d + 4) mX11_whole am_no (fun rr J => rr = some (nI 0) ∧ J 0 60 0 = I 0 60 0) 49 [some (.inr (0, 60)), some (.inl (nI 0)), some (.inl (nI 0)), some (.inl (nI 0)), some (.inl (nI (a + 1))), none] [] J2 := by
    intro J2 hA hth m
    induction m with
    | zero =>
      intro a ha
      obtain rfl : a = 127 := by omega
      refine am_iload dX11_whole_49 rfl ?_
      refine am_sipush (v := nI 128) dX11_whole_51 (by decide) ?_
      refine am_icmp_ge (tgt := 162) dX11_whole_54 (by decide) (fun _ => ?_) (fun h => absurd ((nI_leI (a := 128) (b := 127 + 1) (by omega) (by omega)).mpr (by omega)) h)
      refine am_iload_n dX11_whole_162 rfl ?_
      refine am_if_ne (tgt := 174) dX11_whole_163 (by decide) (fun h => absurd h (by decide)) (fun _ => ?_)
      refine am_iload_n dX11_whole_166 rfl ?_
      refine am_if_ne (tgt := 174) dX11_whole_167 (by decide) (fun h => absurd h (by decide)) (fun _ => ?_)
      refine am_iload_n dX11_whole_170 rfl ?_
      refine am_if_eq (tgt := 192) dX11_whole_171 (by decide) (fun _ => ?_) (fun h => absurd h (by decide))
      refine am_aload_n dX11_whole_192 rfl ?_
      refine am_callVv (i := 0) (j := 60) (as := []) (rest := []) dX11_whole_193 lkX11_findHolders ml_X11_514 imX11_findHolders seX11_findHolders rfl rfl (hG.m0 (by decide)) rfl (Nat.le_of_ble_eq_true rfl) rfl (c_MfindHolders0 hG hA) rfl (fun J3 hq => ?_)
      have hH := hq.2.1
      have hA : ∀ k, k < 10240 → J3 0 127 k = am_dk G.2.2.2.1 k := fun k hk => by rw [hq.2.2 0 127 (by decide)]; exact hA k hk
      have hth : J3 0 60 0 = I 0 60 0 := by rw [hq.2.2 0 60 (by decide)]; exact hth
      refine am_aload_n dX11_whole_196 rfl ?_
      refine am_get (v := .inr (0, 131)) dX11_whole_197 fl_11_174 (hG.m0 (by decide)) rfl ?_
      refine am_iconst (v := nI 0) dX11_whole_200 (by decide) ?_
      refine am_iald (a := 0) dX11_whole_201 (hG.m0 (by decide)) rfl rfl (show 0 < 640 from (by omega)) (show 640 < 2 ^ 31 by decide) ?_
      refine am_top (hH _ (by decide)) ?_
      refine am_if_le (tgt := 209) dX11_whole_202 (by decide) (fun _ => ?_) (fun h => absurd h (by decide))
      refine am_iconst (v := nI 0) dX11_whole_209 (by decide) ?_
      refine am_istore dX11_whole_210 (by decide) ?_
      refine am_iconst (v := nI 1) dX11_whole_212 (by decide) ?_
      refine am_istore dX11_whole_213 (by decide) ?_
      exact LB _ hA hH hth 639 0 (by omega)
    | succ m ih =>
      intro a ha
      refine am_iload dX11_whole_49 rfl ?_
      refine am_sipush (v := nI 128) dX11_whole_51 (by decide) ?_
      refine am_icmp_ge (tgt := 162) dX11_whole_54 (by decide) (fun h => absurd ((nI_leI (a := 128) (b := a + 1) (by omega) (by omega)).mp h) (by omega)) (fun _ => ?_)
      refine am_iload_n dX11_whole_57 rfl ?_
      refine am_if_ne (tgt := 83) dX11_whole_58 (by decide) (fun h => absurd h (by decide)) (fun _ => ?_)
      refine am_aload_n dX11_whole_61 rfl ?_
      refine am_iload dX11_whole_62 rfl ?_
      refine am_iconst (v := nI 0) dX11_whole_64 (by decide) ?_
      refine am_callVx (i := 0) (j := 60) (as := [.inl (nI (a + 1)), .inl (nI 0)]) (rest := []) dX11_whole_65 lkX11_allInode ml_X11_496 imX11_allInode seX11_allInode rfl rfl (hG.m0 (by decide)) rfl (Nat.le_of_ble_eq_true rfl) rfl (c_MallInode hG (by omega) (by omega) J2) ?_
      refine am_top (show J2 0 127 (16 * (129 + 64 * ((a + 1) / 16) + (a + 1) % 16) + 0) = nI 0 from (hA _ (by omega)).trans (am_dk0 (by omega) (by omega) (by omega) (by omega) (by omega))) ?_
      refine am_iconst (v := nI 2) dX11_whole_68 (by decide) ?_
      refine am_icmp_ne (tgt := 87) dX11_whole_69 (by decide) (fun _ => ?_) (fun h => absurd h (by decide))
      refine am_iconst (v := nI 0) dX11_whole_87 (by decide) ?_
      refine am_istore_n dX11_whole_88 (by decide) ?_
      refine am_iload_n dX11_whole_89 rfl ?_
      refine am_if_ne (tgt := 113) dX11_whole_90 (by decide) (fun h => absurd h (by decide)) (fun _ => ?_)
      refine am_aload_n dX11_whole_93 rfl ?_
      refine am_iload dX11_whole_94 rfl ?_
      refine am_iconst (v := nI 0) dX11_whole_96 (by decide) ?_
      refine am_callVx (i := 0) (j := 60) (as := [.inl (nI (a + 1)), .inl (nI 0)]) (rest := []) dX11_whole_97 lkX11_allInode ml_X11_496 imX11_allInode seX11_allInode rfl rfl (hG.m0 (by decide)) rfl (Nat.le_of_ble_eq_true rfl) rfl (c_MallInode hG (by omega) (by omega) J2) ?_
      refine am_top (show J2 0 127 (16 * (129 + 64 * ((a + 1) / 16) + (a + 1) % 16) + 0) = nI 0 from (hA _ (by omega)).trans (am_dk0 (by omega) (by omega) (by omega) (by omega) (by omega))) ?_
      refine am_if_eq (tgt := 117) dX11_whole_100 (by decide) (fun _ => ?_) (fun h => absurd h (by decide))
      refine am_iconst (v := nI 0) dX11_whole_117 (by decide) ?_
      refine am_istore_n dX11_whole_118 (by decide) ?_
      refine am_iload_n dX11_whole_119 rfl ?_
      refine am_if_ne (tgt := 150) dX11_whole_120 (by decide) (fun h => absurd h (by decide)) (fun _ => ?_)
      refine am_aload_n dX11_whole_123 rfl ?_
      refine am_iload dX11_whole_124 rfl ?_
      refine am_iconst (v := nI 0) dX11_whole_126 (by decide) ?_
      refine am_callVx (i := 0) (j := 60) (as := [.inl (nI (a + 1)), .inl (nI 0)]) (rest := []) dX11_whole_127 lkX11_allInode ml_X11_496 imX11_allInode seX11_allInode rfl rfl (hG.m0 (by decide)) rfl (Nat.le_of_ble_eq_true rfl) rfl (c_MallInode hG (by omega) (by omega) J2) ?_
      refine am_top (show J2 0 127 (16 * (129 + 64 * ((a + 1) / 16) + (a + 1) % 16) + 0) = nI 0 from (hA _ (by omega)).trans (am_dk0 (by omega) (by omega) (by omega) (by omega) (by omega))) ?_
      refine am_if_eq (tgt := 154) dX11_whole_130 (by decide) (fun _ => ?_) (fun h => absurd h (by decide))
      refine am_iconst (v := nI 0) dX11_whole_154 (by decide) ?_
      refine am_istore_n dX11_whole_155 (by decide) ?_
      refine am_iinc (v := nI (a + 1 + 1)) dX11_whole_156 rfl (nI_add _ _) ?_
      refine am_goto (tgt := 49) dX11_whole_159 (by decide) ?_
      exact ih (a + 1) (by omega)
  refine am_of (by decide +kernel) hG.nd (Nat.le_of_ble_eq_true rfl) ?_
  refine am_aload_n dX11_whole_0 rfl ?_
  refine am_callVv (i := 0) (j := 60) (as := []) (rest := []) dX11_whole_1 lkX11_asRecovered ml_X11_508 imX11_asRecovered seX11_asRecovered rfl rfl (hG.m0 (by decide)) rfl (Nat.le_of_ble_eq_true rfl) rfl (c_MasRecovered0 hG hnn hj hD) rfl (fun J1 hq => ?_)
  have hA : ∀ k, k < 10240 → J1 0 127 k = am_dk G.2.2.2.1 k := fun k hk => (hq.2.1 k hk).trans (hD k)
  have hth : J1 0 60 0 = I 0 60 0 := by rw [hq.2.2 0 60 (by decide)]
  refine am_aload_n dX11_whole_4 rfl ?_
  refine am_callVi (i := 0) (j := 60) (as := []) (rest := []) dX11_whole_5 lkX11_reach ml_X11_511 imX11_reach seX11_reach rfl rfl (hG.m0 (by decide)) rfl (Nat.le_of_ble_eq_true rfl) rfl (c_Mreach0 hG hA) rfl (fun r2 J2 hq => ?_)
  obtain rfl := Option.some.inj hq.1
  have hN := hq.2.1
  have hR := hq.2.2.1
  have hA : ∀ k, k < 10240 → J2 0 127 k = am_dk G.2.2.2.1 k := fun k hk => by rw [hq.2.2.2 0 127 (by decide) (by decide) (by decide)]; exact hA k hk
  have hth : J2 0 60 0 = I 0 60 0 := by rw [hq.2.2.2 0 60 (by decide) (by decide) (by decide)]; exact hth
  refine am_if_eq (tgt := 13) dX11_whole_8 (by decide) (fun _ => ?_) (fun h => absurd h (by decide))
  refine am_aload_n dX11_whole_13 rfl ?_
  refine am_get (v := .inr (0, 129)) dX11_whole_14 fl_11_168 (hG.m0 (by decide)) rfl ?_
  refine am_iconst (v := nI 0) dX11_whole_17 (by decide) ?_
  refine am_iald (a := 0) dX11_whole_18 (hG.m0 (by decide)) rfl rfl (show 0 < 128 from (by omega)) (show 128 < 2 ^ 31 by decide) ?_
  refine am_top (hN _ (by decide)) ?_
  refine am_if_le (tgt := 26) dX11_whole_19 (by decide) (fun _ => ?_) (fun h => absurd h (by decide))
  refine am_iconst (v := nI 0) dX11_whole_26 (by decide) ?_
  refine am_istore_n dX11_whole_27 (by decide) ?_
  refine am_iconst (v := nI 0) dX11_whole_28 (by decide) ?_
  refine am_istore_n dX11_whole_29 (by decide) ?_
  refine am_aload_n dX11_whole_30 rfl ?_
  refine am_iconst (v := nI 0) dX11_whole_31 (by decide) ?_
  refine am_iconst (v := nI 1) dX11_whole_32 (by decide) ?_
  refine am_callVx (i := 0) (j := 60) (as := [.inl (nI 0), .inl (nI 1)]) (rest := []) dX11_whole_33 lkX11_allInode ml_X11_496 imX11_allInode seX11_allInode rfl rfl (hG.m0 (by decide)) rfl (Nat.le_of_ble_eq_true rfl) rfl (c_MallInode hG (by omega) (by omega) J2) ?_
  refine am_top (show J2 0 127 (16 * (129 + 64 * (0 / 16) + 0 % 16) + 1) = nI 1 from (hA (16 * (129 + 64 * (0 / 16) + 0 % 16) + 1) (by decide)).trans rfl) ?_
  refine am_iconst (v := nI 1) dX11_whole_36 (by decide) ?_
  refine am_icmp_eq (tgt := 44) dX11_whole_37 (by decide) (fun _ => ?_) (fun h => absurd h (by decide))
  refine am_iconst (v := nI 0) dX11_whole_44 (by decide) ?_
  refine am_istore_n dX11_whole_45 (by decide) ?_
  refine am_iconst (v := nI 1) dX11_whole_46 (by decide) ?_
  refine am_istore dX11_whole_47 (by decide) ?_
  exact LA _ hA hth 127 0 (by omega)
theorem m_about9 {G : am_G} (hG : am_okM G) {d : Nat}  {I : am_I} (hI : I = am_fr G.2.2.2.1)  : am_C G (d + 5) mX11_about [.inr (0, 60), .inl (nI 9)] I (fun rr J => rr = some (nI 0) ∧ J 0 60 0 = nI 0) := by
  have hn4 := hG.hi
  have hn2 := hG.lo
  refine am_of (by decide +kernel) hG.nd (Nat.le_of_ble_eq_true rfl) ?_
  refine am_aload_n dX11_about_0 rfl ?_
  refine am_iload_n dX11_about_1 rfl ?_
  refine am_iconst (v := nI 0) dX11_about_2 (by decide) ?_
  refine am_bipush (v := nI 9) dX11_about_3 (by decide) ?_
  refine am_callSx (as := [.inl (nI 9), .inl (nI 0), .inl (nI 9)]) (rest := [.inr (0, 60)]) dX11_about_5 lkX11_in ml_X11_243 isX11_in rfl (Nat.le_of_ble_eq_true rfl) rfl (c_Min hG.nd (nI 9) (nI 0) (nI 9) I) ?_
  refine am_top (show am_b (decide ((nI 0).toInt ≤ (nI 9).toInt ∧ (nI 9).toInt ≤ (nI 9).toInt)) = nI 1 by decide) ?_
  refine am_if_ne (tgt := 15) dX11_about_8 (by decide) (fun _ => ?_) (fun h => absurd h (by decide))
  refine am_iconst (v := nI 0) dX11_about_15 (by decide) ?_
  refine am_iconst (v := nI 0) dX11_about_16 (by decide) ?_
  refine am_iconst (v := nI 0) dX11_about_17 (by decide) ?_
  refine am_callVx (i := 0) (j := 60) (as := [.inl (nI 0), .inl (nI 0), .inl (nI 0)]) (rest := []) dX11_about_18 lkX11_refuse ml_X11_441 imX11_refuse seX11_refuse rfl rfl (hG.m0 (by decide)) rfl (Nat.le_of_ble_eq_true rfl) rfl (c_refuse000 hG I) ?_
  refine am_if_eq (tgt := 26) dX11_about_21 (by decide) (fun _ => ?_) (fun h => absurd h (by decide))
  refine am_iload_n dX11_about_26 rfl ?_
  refine am_tabOut (tgt := 123) dX11_about_27 (by decide) (by decide) ?_
  refine am_aload_n dX11_about_123 rfl ?_
  refine am_callVi (i := 0) (j := 60) (as := []) (rest := []) dX11_about_124 lkX11_whole ml_X11_524 imX11_whole seX11_whole rfl rfl (hG.m0 (by decide)) rfl (Nat.le_of_ble_eq_true rfl) rfl (c_Mwhole0 (I := am_up I 0 60 0 (nI 0)) hG (by simp [am_up, am_upf, upd, hI, am_fr, am_dk]) (fun x hx => by simp [am_up, am_upf, hI, am_fr, hx]) (fun k => by simp [am_up, am_upf, hI, am_fr])) rfl (fun r4 J4 hq => ?_)
  obtain rfl := Option.some.inj hq.1
  have hth4 := hq.2.trans (show (am_up I 0 60 0 (nI 0)) 0 60 0 = nI 0 from (by simp [am_up, am_upf, upd, hI, am_fr, am_dk]))
  refine am_iret dX11_about_127 rfl rfl ?_
  exact ⟨rfl, hth4⟩
