theorem c_Mundo0 {G : am_G} (hG : am_okM G) {d : Nat} (I : am_I)  (hsv : I 0 60 56 = nI 0) : am_C G d mX11_undo [.inr (0, 60)] I (am_E none (am_up (am_up I 0 60 56 (nI 0)) 0 60 61 (nI 0))) := by
  refine am_of (by decide +kernel) hG.nd (Nat.le_of_ble_eq_true rfl) ?_
  refine am_iconst (v := nI 0) dX11_undo_0 (by decide) ?_
  refine am_istore_n dX11_undo_1 (by decide) ?_
  refine am_iload_n dX11_undo_2 rfl ?_
  refine am_aload_n dX11_undo_3 rfl ?_
  refine am_get (v := .inl (I 0 60 56)) dX11_undo_4 fl_11_307 (hG.m0 (by decide)) rfl ?_
  refine am_top (show I 0 60 56 = nI 0 from (by simp [am_up, am_upf, upd, hsv])) ?_
  refine am_icmp_ge (tgt := 96) dX11_undo_7 (by decide) (fun _ => ?_) (fun h => absurd h (by decide))
  refine am_aload_n dX11_undo_96 rfl ?_
  refine am_iconst (v := nI 0) dX11_undo_97 (by decide) ?_
  refine am_put (x := nI 0) dX11_undo_98 fp_11_307 (hG.m0 (by decide)) (Nat.le_of_ble_eq_true rfl) rfl ?_
  refine am_aload_n dX11_undo_101 rfl ?_
  refine am_iconst (v := nI 0) dX11_undo_102 (by decide) ?_
  refine am_put (x := nI 0) dX11_undo_103 fp_11_310 (hG.m0 (by decide)) (Nat.le_of_ble_eq_true rfl) rfl ?_
  refine am_vret dX11_undo_106 rfl ?_
  exact ⟨rfl, rfl⟩
theorem c_MtriedAgain0 {G : am_G} (hG : am_okM G) {d : Nat} {i a : Nat} (hi : i < G.2.2.2.1) (hab : a < 128) (I : am_I) (hpz : ∀ k, k < 544 → I 0 79 k = nI 0)  (hkd : I 0 82 i = nI 0) (ha : I 0 83 i = nI a) (hp : I 0 79 (136 * i + a) = nI 0) (hl0 : I 0 81 (136 * i + a) = nI 0) (hls : I 0 92 i = nI 0) (htr : I 0 91 i = nI 0) : am_C G (d + 5) mX11_isTriedAgain [.inr (0, 60), .inl (nI i)] I (am_E (some (nI 1)) (am_up (am_up (am_up (am_up (am_up (am_up (am_up (am_up (am_up (am_up (am_up (am_up (am_up (am_up I 0 91 i (nI 1)) 0 60 51 (nI i)) 0 60 52 (-1 : Int32)) 0 60 53 (nI 0)) 0 60 54 (nI 0)) 0 60 55 (nI 0)) 0 60 56 (nI 0)) 0 60 61 (nI 0)) 0 60 52 (nI a)) 0 60 53 (nI 1)) 0 60 56 (nI 0)) 0 60 61 (nI 0)) 0 92 i (nI 1)) 0 81 (136 * i + a) (nI 1))) := by
  have hn4 := hG.hi
  have hn2 := hG.lo
  refine am_of (by decide +kernel) hG.nd (Nat.le_of_ble_eq_true rfl) ?_
  refine am_aload_n dX11_isTriedAgain_0 rfl ?_
  refine am_get (v := .inr (0, 91)) dX11_isTriedAgain_1 fl_11_93 (hG.m0 (by decide)) rfl ?_
  refine am_iload_n dX11_isTriedAgain_4 rfl ?_
  refine am_dup2 dX11_isTriedAgain_5 ?_
  refine am_iald (a := i) dX11_isTriedAgain_6 (hG.m0 (by decide)) rfl rfl (show i < 4 from (by omega)) (show 4 < 2 ^ 31 by decide) ?_
  refine am_top (show I 0 91 i = nI 0 from (by simp [am_up, am_upf, upd, hkd, ha, hp, hl0, hls, htr])) ?_
  refine am_iconst (v := nI 1) dX11_isTriedAgain_7 (by decide) ?_
  refine am_iadd dX11_isTriedAgain_8 ?_
  refine am_top (show (nI 0) + (nI 1) = nI 1 by decide) ?_
  refine am_iast (a := i) dX11_isTriedAgain_9 (hG.m0 (by decide)) rfl rfl (show i < 4 from (by omega)) (show 4 < 2 ^ 31 by decide) ?_
  refine am_aload_n dX11_isTriedAgain_10 rfl ?_
  refine am_iload_n dX11_isTriedAgain_11 rfl ?_
  refine am_callVe (i := 0) (j := 60) (as := [.inl (nI i)]) (rest := []) dX11_isTriedAgain_12 lkX11_attempt ml_X11_292 imX11_attempt seX11_attempt rfl rfl (hG.m0 (by decide)) rfl (Nat.le_of_ble_eq_true rfl) rfl (c_Mattempt0 (a := a) hG hi (by omega) (am_up I 0 91 i (nI 1)) (by simp [am_up, am_upf, upd, hkd, ha, hp, hl0, hls, htr]) (by simp [am_up, am_upf, upd, hkd, ha, hp, hl0, hls, htr]) (by simp [am_up, am_upf, upd, hkd, ha, hp, hl0, hls, htr])) ?_
  refine am_aload_n dX11_isTriedAgain_15 rfl ?_
  refine am_get (v := .inl ((am_up (am_up (am_up (am_up (am_up (am_up (am_up (am_up (am_up (am_up I 0 91 i (nI 1)) 0 60 51 (nI i)) 0 60 52 (-1 : Int32)) 0 60 53 (nI 0)) 0 60 54 (nI 0)) 0 60 55 (nI 0)) 0 60 56 (nI 0)) 0 60 61 (nI 0)) 0 60 52 (nI a)) 0 60 53 (nI 1)) 0 60 52)) dX11_isTriedAgain_16 fl_11_295 (hG.m0 (by decide)) rfl ?_
  refine am_top (show (am_up (am_up (am_up (am_up (am_up (am_up (am_up (am_up (am_up (am_up I 0 91 i (nI 1)) 0 60 51 (nI i)) 0 60 52 (-1 : Int32)) 0 60 53 (nI 0)) 0 60 54 (nI 0)) 0 60 55 (nI 0)) 0 60 56 (nI 0)) 0 60 61 (nI 0)) 0 60 52 (nI a)) 0 60 53 (nI 1)) 0 60 52 = nI a from (by simp [am_up, am_upf, upd, hkd, ha, hp, hl0, hls, htr])) ?_
  refine am_iconst (v := (-1 : Int32)) dX11_isTriedAgain_19 (by decide) ?_
  refine am_icmp_eq (tgt := 90) dX11_isTriedAgain_20 (by decide) (fun h => absurd h (am_nn1 (by omega))) (fun _ => ?_)
  refine am_aload_n dX11_isTriedAgain_23 rfl ?_
  refine am_callVe (i := 0) (j := 60) (as := []) (rest := []) dX11_isTriedAgain_24 lkX11_undo ml_X11_298 imX11_undo seX11_undo rfl rfl (hG.m0 (by decide)) rfl (Nat.le_of_ble_eq_true rfl) rfl (c_Mundo0 hG (am_up (am_up (am_up (am_up (am_up (am_up (am_up (am_up (am_up (am_up I 0 91 i (nI 1)) 0 60 51 (nI i)) 0 60 52 (-1 : Int32)) 0 60 53 (nI 0)) 0 60 54 (nI 0)) 0 60 55 (nI 0)) 0 60 56 (nI 0)) 0 60 61 (nI 0)) 0 60 52 (nI a)) 0 60 53 (nI 1)) (by simp [am_up, am_upf, upd, hkd, ha, hp, hl0, hls, htr])) ?_
  refine am_aload_n dX11_isTriedAgain_27 rfl ?_
  refine am_get (v := .inr (0, 92)) dX11_isTriedAgain_28 fl_11_96 (hG.m0 (by decide)) rfl ?_
  refine am_iload_n dX11_isTriedAgain_31 rfl ?_
  refine am_aload_n dX11_isTriedAgain_32 rfl ?_
  refine am_get (v := .inr (0, 81)) dX11_isTriedAgain_33 fl_11_63 (hG.m0 (by decide)) rfl ?_
  refine am_iload_n dX11_isTriedAgain_36 rfl ?_
  refine am_aload_n dX11_isTriedAgain_37 rfl ?_
  refine am_get (v := .inl ((am_up (am_up (am_up (am_up (am_up (am_up (am_up (am_up (am_up (am_up (am_up (am_up I 0 91 i (nI 1)) 0 60 51 (nI i)) 0 60 52 (-1 : Int32)) 0 60 53 (nI 0)) 0 60 54 (nI 0)) 0 60 55 (nI 0)) 0 60 56 (nI 0)) 0 60 61 (nI 0)) 0 60 52 (nI a)) 0 60 53 (nI 1)) 0 60 56 (nI 0)) 0 60 61 (nI 0)) 0 60 52)) dX11_isTriedAgain_38 fl_11_295 (hG.m0 (by decide)) rfl ?_
  refine am_top (show (am_up (am_up (am_up (am_up (am_up (am_up (am_up (am_up (am_up (am_up (am_up (am_up I 0 91 i (nI 1)) 0 60 51 (nI i)) 0 60 52 (-1 : Int32)) 0 60 53 (nI 0)) 0 60 54 (nI 0)) 0 60 55 (nI 0)) 0 60 56 (nI 0)) 0 60 61 (nI 0)) 0 60 52 (nI a)) 0 60 53 (nI 1)) 0 60 56 (nI 0)) 0 60 61 (nI 0)) 0 60 52 = nI a from (by simp [am_up, am_upf, upd, hkd, ha, hp, hl0, hls, htr])) ?_
  refine am_callSx (as := [.inl (nI i), .inl (nI a)]) (rest := [.inr (0, 81), .inl (nI i), .inr (0, 92)]) dX11_isTriedAgain_41 lkX11_at ml_X11_208 isX11_at rfl (Nat.le_of_ble_eq_true rfl) rfl (c_Mat hG.nd (g := i) (r := a) (by omega) (by omega) (am_up (am_up (am_up (am_up (am_up (am_up (am_up (am_up (am_up (am_up (am_up (am_up I 0 91 i (nI 1)) 0 60 51 (nI i)) 0 60 52 (-1 : Int32)) 0 60 53 (nI 0)) 0 60 54 (nI 0)) 0 60 55 (nI 0)) 0 60 56 (nI 0)) 0 60 61 (nI 0)) 0 60 52 (nI a)) 0 60 53 (nI 1)) 0 60 56 (nI 0)) 0 60 61 (nI 0))) ?_
  refine am_iald (a := 136 * i + a) dX11_isTriedAgain_44 (hG.m0 (by decide)) rfl rfl (show 136 * i + a < 544 from (by omega)) (show 544 < 2 ^ 31 by decide) ?_
  refine am_top (show (am_up (am_up (am_up (am_up (am_up (am_up (am_up (am_up (am_up (am_up (am_up (am_up I 0 91 i (nI 1)) 0 60 51 (nI i)) 0 60 52 (-1 : Int32)) 0 60 53 (nI 0)) 0 60 54 (nI 0)) 0 60 55 (nI 0)) 0 60 56 (nI 0)) 0 60 61 (nI 0)) 0 60 52 (nI a)) 0 60 53 (nI 1)) 0 60 56 (nI 0)) 0 60 61 (nI 0)) 0 81 (136 * i + a) = nI 0 from (by simp [am_up, am_upf, upd, hkd, ha, hp, hl0, hls, htr])) ?_
  refine am_if_ne (tgt := 59) dX11_isTriedAgain_45 (by decide) (fun h => absurd h (by decide)) (fun _ => ?_)
  refine am_aload_n dX11_isTriedAgain_48 rfl ?_
  refine am_get (v := .inr (0, 92)) dX11_isTriedAgain_49 fl_11_96 (hG.m0 (by decide)) rfl ?_
  refine am_iload_n dX11_isTriedAgain_52 rfl ?_
  refine am_iald (a := i) dX11_isTriedAgain_53 (hG.m0 (by decide)) rfl rfl (show i < 4 from (by omega)) (show 4 < 2 ^ 31 by decide) ?_
  refine am_top (show (am_up (am_up (am_up (am_up (am_up (am_up (am_up (am_up (am_up (am_up (am_up (am_up I 0 91 i (nI 1)) 0 60 51 (nI i)) 0 60 52 (-1 : Int32)) 0 60 53 (nI 0)) 0 60 54 (nI 0)) 0 60 55 (nI 0)) 0 60 56 (nI 0)) 0 60 61 (nI 0)) 0 60 52 (nI a)) 0 60 53 (nI 1)) 0 60 56 (nI 0)) 0 60 61 (nI 0)) 0 92 i = nI 0 from (by simp [am_up, am_upf, upd, hkd, ha, hp, hl0, hls, htr])) ?_
  refine am_iconst (v := nI 1) dX11_isTriedAgain_54 (by decide) ?_
  refine am_iadd dX11_isTriedAgain_55 ?_
  refine am_top (show (nI 0) + (nI 1) = nI 1 by decide) ?_
  refine am_goto (tgt := 65) dX11_isTriedAgain_56 (by decide) ?_
  refine am_iast (a := i) dX11_isTriedAgain_65 (hG.m0 (by decide)) rfl rfl (show i < 4 from (by omega)) (show 4 < 2 ^ 31 by decide) ?_
  refine am_aload_n dX11_isTriedAgain_66 rfl ?_
  refine am_get (v := .inr (0, 81)) dX11_isTriedAgain_67 fl_11_63 (hG.m0 (by decide)) rfl ?_
  refine am_iload_n dX11_isTriedAgain_70 rfl ?_
  refine am_aload_n dX11_isTriedAgain_71 rfl ?_
  refine am_get (v := .inl ((am_up (am_up (am_up (am_up (am_up (am_up (am_up (am_up (am_up (am_up (am_up (am_up (am_up I 0 91 i (nI 1)) 0 60 51 (nI i)) 0 60 52 (-1 : Int32)) 0 60 53 (nI 0)) 0 60 54 (nI 0)) 0 60 55 (nI 0)) 0 60 56 (nI 0)) 0 60 61 (nI 0)) 0 60 52 (nI a)) 0 60 53 (nI 1)) 0 60 56 (nI 0)) 0 60 61 (nI 0)) 0 92 i (nI 1)) 0 60 52)) dX11_isTriedAgain_72 fl_11_295 (hG.m0 (by decide)) rfl ?_
  refine am_top (show (am_up (am_up (am_up (am_up (am_up (am_up (am_up (am_up (am_up (am_up (am_up (am_up (am_up I 0 91 i (nI 1)) 0 60 51 (nI i)) 0 60 52 (-1 : Int32)) 0 60 53 (nI 0)) 0 60 54 (nI 0)) 0 60 55 (nI 0)) 0 60 56 (nI 0)) 0 60 61 (nI 0)) 0 60 52 (nI a)) 0 60 53 (nI 1)) 0 60 56 (nI 0)) 0 60 61 (nI 0)) 0 92 i (nI 1)) 0 60 52 = nI a from (by simp [am_up, am_upf, upd, hkd, ha, hp, hl0, hls, htr])) ?_
  refine am_callSx (as := [.inl (nI i), .inl (nI a)]) (rest := [.inr (0, 81)]) dX11_isTriedAgain_75 lkX11_at ml_X11_208 isX11_at rfl (Nat.le_of_ble_eq_true rfl) rfl (c_Mat hG.nd (g := i) (r := a) (by omega) (by omega) (am_up (am_up (am_up (am_up (am_up (am_up (am_up (am_up (am_up (am_up (am_up (am_up (am_up I 0 91 i (nI 1)) 0 60 51 (nI i)) 0 60 52 (-1 : Int32)) 0 60 53 (nI 0)) 0 60 54 (nI 0)) 0 60 55 (nI 0)) 0 60 56 (nI 0)) 0 60 61 (nI 0)) 0 60 52 (nI a)) 0 60 53 (nI 1)) 0 60 56 (nI 0)) 0 60 61 (nI 0)) 0 92 i (nI 1))) ?_
  refine am_aload_n dX11_isTriedAgain_78 rfl ?_
  refine am_get (v := .inl ((am_up (am_up (am_up (am_up (am_up (am_up (am_up (am_up (am_up (am_up (am_up (am_up (am_up I 0 91 i (nI 1)) 0 60 51 (nI i)) 0 60 52 (-1 : Int32)) 0 60 53 (nI 0)) 0 60 54 (nI 0)) 0 60 55 (nI 0)) 0 60 56 (nI 0)) 0 60 61 (nI 0)) 0 60 52 (nI a)) 0 60 53 (nI 1)) 0 60 56 (nI 0)) 0 60 61 (nI 0)) 0 92 i (nI 1)) 0 60 53)) dX11_isTriedAgain_79 fl_11_301 (hG.m0 (by decide)) rfl ?_
  refine am_top (show (am_up (am_up (am_up (am_up (am_up (am_up (am_up (am_up (am_up (am_up (am_up (am_up (am_up I 0 91 i (nI 1)) 0 60 51 (nI i)) 0 60 52 (-1 : Int32)) 0 60 53 (nI 0)) 0 60 54 (nI 0)) 0 60 55 (nI 0)) 0 60 56 (nI 0)) 0 60 61 (nI 0)) 0 60 52 (nI a)) 0 60 53 (nI 1)) 0 60 56 (nI 0)) 0 60 61 (nI 0)) 0 92 i (nI 1)) 0 60 53 = nI 1 from (by simp [am_up, am_upf, upd, hkd, ha, hp, hl0, hls, htr])) ?_
  refine am_iast (a := 136 * i + a) dX11_isTriedAgain_82 (hG.m0 (by decide)) rfl rfl (show 136 * i + a < 544 from (by omega)) (show 544 < 2 ^ 31 by decide) ?_
  refine am_aload_n dX11_isTriedAgain_83 rfl ?_
  refine am_iload_n dX11_isTriedAgain_84 rfl ?_
  refine am_callVe (i := 0) (j := 60) (as := [.inl (nI i)]) (rest := []) dX11_isTriedAgain_85 lkX11_unpin ml_X11_271 imX11_unpin seX11_unpin rfl rfl (hG.m0 (by decide)) rfl (Nat.le_of_ble_eq_true rfl) rfl (c_Munpin0 hG hi (fun k hk => by simp [am_up, am_upf, hpz k hk])) ?_
  refine am_iconst (v := nI 1) dX11_isTriedAgain_88 (by decide) ?_
  refine am_iret dX11_isTriedAgain_89 rfl (am_nz (by decide)).1 ?_
  exact ⟨rfl, rfl⟩
theorem c_MtriedAgain1 {G : am_G} (hG : am_okM G) {d : Nat} {i a : Nat} (hi : i < G.2.2.2.1) (hab : a < 128) (I : am_I) (hpz : ∀ k, k < 544 → I 0 79 k = nI 0)  (hkd : I 0 82 i = nI 1) (ha : I 0 83 i = nI a) (hp : I 0 79 (136 * i + a) = nI 0) (hl0 : I 0 81 (136 * i + a) = nI 0) (hls : I 0 92 i = nI 0) (htr : I 0 91 i = nI 0) : am_C G (d + 5) mX11_isTriedAgain [.inr (0, 60), .inl (nI i)] I (am_E (some (nI 1)) (am_up (am_up (am_up (am_up (am_up (am_up (am_up (am_up (am_up (am_up (am_up (am_up (am_up (am_up I 0 91 i (nI 1)) 0 60 51 (nI i)) 0 60 52 (-1 : Int32)) 0 60 53 (nI 0)) 0 60 54 (nI 0)) 0 60 55 (nI 0)) 0 60 56 (nI 0)) 0 60 61 (nI 0)) 0 60 52 (nI a)) 0 60 53 (nI 2)) 0 60 56 (nI 0)) 0 60 61 (nI 0)) 0 92 i (nI 1)) 0 81 (136 * i + a) (nI 2))) := by
  have hn4 := hG.hi
  have hn2 := hG.lo
  refine am_of (by decide +kernel) hG.nd (Nat.le_of_ble_eq_true rfl) ?_
  refine am_aload_n dX11_isTriedAgain_0 rfl ?_
  refine am_get (v := .inr (0, 91)) dX11_isTriedAgain_1 fl_11_93 (hG.m0 (by decide)) rfl ?_
  refine am_iload_n dX11_isTriedAgain_4 rfl ?_
  refine am_dup2 dX11_isTriedAgain_5 ?_
  refine am_iald (a := i) dX11_isTriedAgain_6 (hG.m0 (by decide)) rfl rfl (show i < 4 from (by omega)) (show 4 < 2 ^ 31 by decide) ?_
  refine am_top (show I 0 91 i = nI 0 from (by simp [am_up, am_upf, upd, hkd, ha, hp, hl0, hls, htr])) ?_
  refine am_iconst (v := nI 1) dX11_isTriedAgain_7 (by decide) ?_
  refine am_iadd dX11_isTriedAgain_8 ?_
  refine am_top (show (nI 0) + (nI 1) = nI 1 by decide) ?_
  refine am_iast (a := i) dX11_isTriedAgain_9 (hG.m0 (by decide)) rfl rfl (show i < 4 from (by omega)) (show 4 < 2 ^ 31 by decide) ?_
  refine am_aload_n dX11_isTriedAgain_10 rfl ?_
  refine am_iload_n dX11_isTriedAgain_11 rfl ?_
  refine am_callVe (i := 0) (j := 60) (as := [.inl (nI i)]) (rest := []) dX11_isTriedAgain_12 lkX11_attempt ml_X11_292 imX11_attempt seX11_attempt rfl rfl (hG.m0 (by decide)) rfl (Nat.le_of_ble_eq_true rfl) rfl (c_Mattempt1 (a := a) hG hi (by omega) (am_up I 0 91 i (nI 1)) (by simp [am_up, am_upf, upd, hkd, ha, hp, hl0, hls, htr]) (by simp [am_up, am_upf, upd, hkd, ha, hp, hl0, hls, htr]) (by simp [am_up, am_upf, upd, hkd, ha, hp, hl0, hls, htr])) ?_
  refine am_aload_n dX11_isTriedAgain_15 rfl ?_
  refine am_get (v := .inl ((am_up (am_up (am_up (am_up (am_up (am_up (am_up (am_up (am_up (am_up I 0 91 i (nI 1)) 0 60 51 (nI i)) 0 60 52 (-1 : Int32)) 0 60 53 (nI 0)) 0 60 54 (nI 0)) 0 60 55 (nI 0)) 0 60 56 (nI 0)) 0 60 61 (nI 0)) 0 60 52 (nI a)) 0 60 53 (nI 2)) 0 60 52)) dX11_isTriedAgain_16 fl_11_295 (hG.m0 (by decide)) rfl ?_
  refine am_top (show (am_up (am_up (am_up (am_up (am_up (am_up (am_up (am_up (am_up (am_up I 0 91 i (nI 1)) 0 60 51 (nI i)) 0 60 52 (-1 : Int32)) 0 60 53 (nI 0)) 0 60 54 (nI 0)) 0 60 55 (nI 0)) 0 60 56 (nI 0)) 0 60 61 (nI 0)) 0 60 52 (nI a)) 0 60 53 (nI 2)) 0 60 52 = nI a from (by simp [am_up, am_upf, upd, hkd, ha, hp, hl0, hls, htr])) ?_
  refine am_iconst (v := (-1 : Int32)) dX11_isTriedAgain_19 (by decide) ?_
  refine am_icmp_eq (tgt := 90) dX11_isTriedAgain_20 (by decide) (fun h => absurd h (am_nn1 (by omega))) (fun _ => ?_)
  refine am_aload_n dX11_isTriedAgain_23 rfl ?_
  refine am_callVe (i := 0) (j := 60) (as := []) (rest := []) dX11_isTriedAgain_24 lkX11_undo ml_X11_298 imX11_undo seX11_undo rfl rfl (hG.m0 (by decide)) rfl (Nat.le_of_ble_eq_true rfl) rfl (c_Mundo0 hG (am_up (am_up (am_up (am_up (am_up (am_up (am_up (am_up (am_up (am_up I 0 91 i (nI 1)) 0 60 51 (nI i)) 0 60 52 (-1 : Int32)) 0 60 53 (nI 0)) 0 60 54 (nI 0)) 0 60 55 (nI 0)) 0 60 56 (nI 0)) 0 60 61 (nI 0)) 0 60 52 (nI a)) 0 60 53 (nI 2)) (by simp [am_up, am_upf, upd, hkd, ha, hp, hl0, hls, htr])) ?_
  refine am_aload_n dX11_isTriedAgain_27 rfl ?_
  refine am_get (v := .inr (0, 92)) dX11_isTriedAgain_28 fl_11_96 (hG.m0 (by decide)) rfl ?_
  refine am_iload_n dX11_isTriedAgain_31 rfl ?_
  refine am_aload_n dX11_isTriedAgain_32 rfl ?_
  refine am_get (v := .inr (0, 81)) dX11_isTriedAgain_33 fl_11_63 (hG.m0 (by decide)) rfl ?_
  refine am_iload_n dX11_isTriedAgain_36 rfl ?_
  refine am_aload_n dX11_isTriedAgain_37 rfl ?_
  refine am_get (v := .inl ((am_up (am_up (am_up (am_up (am_up (am_up (am_up (am_up (am_up (am_up (am_up (am_up I 0 91 i (nI 1)) 0 60 51 (nI i)) 0 60 52 (-1 : Int32)) 0 60 53 (nI 0)) 0 60 54 (nI 0)) 0 60 55 (nI 0)) 0 60 56 (nI 0)) 0 60 61 (nI 0)) 0 60 52 (nI a)) 0 60 53 (nI 2)) 0 60 56 (nI 0)) 0 60 61 (nI 0)) 0 60 52)) dX11_isTriedAgain_38 fl_11_295 (hG.m0 (by decide)) rfl ?_
  refine am_top (show (am_up (am_up (am_up (am_up (am_up (am_up (am_up (am_up (am_up (am_up (am_up (am_up I 0 91 i (nI 1)) 0 60 51 (nI i)) 0 60 52 (-1 : Int32)) 0 60 53 (nI 0)) 0 60 54 (nI 0)) 0 60 55 (nI 0)) 0 60 56 (nI 0)) 0 60 61 (nI 0)) 0 60 52 (nI a)) 0 60 53 (nI 2)) 0 60 56 (nI 0)) 0 60 61 (nI 0)) 0 60 52 = nI a from (by simp [am_up, am_upf, upd, hkd, ha, hp, hl0, hls, htr])) ?_
  refine am_callSx (as := [.inl (nI i), .inl (nI a)]) (rest := [.inr (0, 81), .inl (nI i), .inr (0, 92)]) dX11_isTriedAgain_41 lkX11_at ml_X11_208 isX11_at rfl (Nat.le_of_ble_eq_true rfl) rfl (c_Mat hG.nd (g := i) (r := a) (by omega) (by omega) (am_up (am_up (am_up (am_up (am_up (am_up (am_up (am_up (am_up (am_up (am_up (am_up I 0 91 i (nI 1)) 0 60 51 (nI i)) 0 60 52 (-1 : Int32)) 0 60 53 (nI 0)) 0 60 54 (nI 0)) 0 60 55 (nI 0)) 0 60 56 (nI 0)) 0 60 61 (nI 0)) 0 60 52 (nI a)) 0 60 53 (nI 2)) 0 60 56 (nI 0)) 0 60 61 (nI 0))) ?_
  refine am_iald (a := 136 * i + a) dX11_isTriedAgain_44 (hG.m0 (by decide)) rfl rfl (show 136 * i + a < 544 from (by omega)) (show 544 < 2 ^ 31 by decide) ?_
  refine am_top (show (am_up (am_up (am_up (am_up (am_up (am_up (am_up (am_up (am_up (am_up (am_up (am_up I 0 91 i (nI 1)) 0 60 51 (nI i)) 0 60 52 (-1 : Int32)) 0 60 53 (nI 0)) 0 60 54 (nI 0)) 0 60 55 (nI 0)) 0 60 56 (nI 0)) 0 60 61 (nI 0)) 0 60 52 (nI a)) 0 60 53 (nI 2)) 0 60 56 (nI 0)) 0 60 61 (nI 0)) 0 81 (136 * i + a) = nI 0 from (by simp [am_up, am_upf, upd, hkd, ha, hp, hl0, hls, htr])) ?_
  refine am_if_ne (tgt := 59) dX11_isTriedAgain_45 (by decide) (fun h => absurd h (by decide)) (fun _ => ?_)
  refine am_aload_n dX11_isTriedAgain_48 rfl ?_
  refine am_get (v := .inr (0, 92)) dX11_isTriedAgain_49 fl_11_96 (hG.m0 (by decide)) rfl ?_
  refine am_iload_n dX11_isTriedAgain_52 rfl ?_
  refine am_iald (a := i) dX11_isTriedAgain_53 (hG.m0 (by decide)) rfl rfl (show i < 4 from (by omega)) (show 4 < 2 ^ 31 by decide) ?_
  refine am_top (show (am_up (am_up (am_up (am_up (am_up (am_up (am_up (am_up (am_up (am_up (am_up (am_up I 0 91 i (nI 1)) 0 60 51 (nI i)) 0 60 52 (-1 : Int32)) 0 60 53 (nI 0)) 0 60 54 (nI 0)) 0 60 55 (nI 0)) 0 60 56 (nI 0)) 0 60 61 (nI 0)) 0 60 52 (nI a)) 0 60 53 (nI 2)) 0 60 56 (nI 0)) 0 60 61 (nI 0)) 0 92 i = nI 0 from (by simp [am_up, am_upf, upd, hkd, ha, hp, hl0, hls, htr])) ?_
  refine am_iconst (v := nI 1) dX11_isTriedAgain_54 (by decide) ?_
  refine am_iadd dX11_isTriedAgain_55 ?_
  refine am_top (show (nI 0) + (nI 1) = nI 1 by decide) ?_
  refine am_goto (tgt := 65) dX11_isTriedAgain_56 (by decide) ?_
  refine am_iast (a := i) dX11_isTriedAgain_65 (hG.m0 (by decide)) rfl rfl (show i < 4 from (by omega)) (show 4 < 2 ^ 31 by decide) ?_
  refine am_aload_n dX11_isTriedAgain_66 rfl ?_
  refine am_get (v := .inr (0, 81)) dX11_isTriedAgain_67 fl_11_63 (hG.m0 (by decide)) rfl ?_
  refine am_iload_n dX11_isTriedAgain_70 rfl ?_
  refine am_aload_n dX11_isTriedAgain_71 rfl ?_
  refine am_get (v := .inl ((am_up (am_up (am_up (am_up (am_up (am_up (am_up (am_up (am_up (am_up (am_up (am_up (am_up I 0 91 i (nI 1)) 0 60 51 (nI i)) 0 60 52 (-1 : Int32)) 0 60 53 (nI 0)) 0 60 54 (nI 0)) 0 60 55 (nI 0)) 0 60 56 (nI 0)) 0 60 61 (nI 0)) 0 60 52 (nI a)) 0 60 53 (nI 2)) 0 60 56 (nI 0)) 0 60 61 (nI 0)) 0 92 i (nI 1)) 0 60 52)) dX11_isTriedAgain_72 fl_11_295 (hG.m0 (by decide)) rfl ?_
  refine am_top (show (am_up (am_up (am_up (am_up (am_up (am_up (am_up (am_up (am_up (am_up (am_up (am_up (am_up I 0 91 i (nI 1)) 0 60 51 (nI i)) 0 60 52 (-1 : Int32)) 0 60 53 (nI 0)) 0 60 54 (nI 0)) 0 60 55 (nI 0)) 0 60 56 (nI 0)) 0 60 61 (nI 0)) 0 60 52 (nI a)) 0 60 53 (nI 2)) 0 60 56 (nI 0)) 0 60 61 (nI 0)) 0 92 i (nI 1)) 0 60 52 = nI a from (by simp [am_up, am_upf, upd, hkd, ha, hp, hl0, hls, htr])) ?_
  refine am_callSx (as := [.inl (nI i), .inl (nI a)]) (rest := [.inr (0, 81)]) dX11_isTriedAgain_75 lkX11_at ml_X11_208 isX11_at rfl (Nat.le_of_ble_eq_true rfl) rfl (c_Mat hG.nd (g := i) (r := a) (by omega) (by omega) (am_up (am_up (am_up (am_up (am_up (am_up (am_up (am_up (am_up (am_up (am_up (am_up (am_up I 0 91 i (nI 1)) 0 60 51 (nI i)) 0 60 52 (-1 : Int32)) 0 60 53 (nI 0)) 0 60 54 (nI 0)) 0 60 55 (nI 0)) 0 60 56 (nI 0)) 0 60 61 (nI 0)) 0 60 52 (nI a)) 0 60 53 (nI 2)) 0 60 56 (nI 0)) 0 60 61 (nI 0)) 0 92 i (nI 1))) ?_
  refine am_aload_n dX11_isTriedAgain_78 rfl ?_
  refine am_get (v := .inl ((am_up (am_up (am_up (am_up (am_up (am_up (am_up (am_up (am_up (am_up (am_up (am_up (am_up I 0 91 i (nI 1)) 0 60 51 (nI i)) 0 60 52 (-1 : Int32)) 0 60 53 (nI 0)) 0 60 54 (nI 0)) 0 60 55 (nI 0)) 0 60 56 (nI 0)) 0 60 61 (nI 0)) 0 60 52 (nI a)) 0 60 53 (nI 2)) 0 60 56 (nI 0)) 0 60 61 (nI 0)) 0 92 i (nI 1)) 0 60 53)) dX11_isTriedAgain_79 fl_11_301 (hG.m0 (by decide)) rfl ?_
  refine am_top (show (am_up (am_up (am_up (am_up (am_up (am_up (am_up (am_up (am_up (am_up (am_up (am_up (am_up I 0 91 i (nI 1)) 0 60 51 (nI i)) 0 60 52 (-1 : Int32)) 0 60 53 (nI 0)) 0 60 54 (nI 0)) 0 60 55 (nI 0)) 0 60 56 (nI 0)) 0 60 61 (nI 0)) 0 60 52 (nI a)) 0 60 53 (nI 2)) 0 60 56 (nI 0)) 0 60 61 (nI 0)) 0 92 i (nI 1)) 0 60 53 = nI 2 from (by simp [am_up, am_upf, upd, hkd, ha, hp, hl0, hls, htr])) ?_
  refine am_iast (a := 136 * i + a) dX11_isTriedAgain_82 (hG.m0 (by decide)) rfl rfl (show 136 * i + a < 544 from (by omega)) (show 544 < 2 ^ 31 by decide) ?_
  refine am_aload_n dX11_isTriedAgain_83 rfl ?_
  refine am_iload_n dX11_isTriedAgain_84 rfl ?_
  refine am_callVe (i := 0) (j := 60) (as := [.inl (nI i)]) (rest := []) dX11_isTriedAgain_85 lkX11_unpin ml_X11_271 imX11_unpin seX11_unpin rfl rfl (hG.m0 (by decide)) rfl (Nat.le_of_ble_eq_true rfl) rfl (c_Munpin0 hG hi (fun k hk => by simp [am_up, am_upf, hpz k hk])) ?_
  refine am_iconst (v := nI 1) dX11_isTriedAgain_88 (by decide) ?_
  refine am_iret dX11_isTriedAgain_89 rfl (am_nz (by decide)).1 ?_
  exact ⟨rfl, rfl⟩
theorem c_MtriedAgain2 {G : am_G} (hG : am_okM G) {d : Nat} {i a : Nat} (hi : i < G.2.2.2.1) (hab : a < 128) (I : am_I) (hpz : ∀ k, k < 544 → I 0 79 k = nI 0)  (hkd : I 0 82 i = nI 2) (ha : I 0 83 i = nI a) (hp : I 0 79 (136 * i + a) = nI 0) (hl0 : I 0 81 (136 * i + a) = nI 0) (hls : I 0 92 i = nI 0) (htr : I 0 91 i = nI 0) : am_C G (d + 5) mX11_isTriedAgain [.inr (0, 60), .inl (nI i)] I (am_E (some (nI 1)) (am_up (am_up (am_up (am_up (am_up (am_up (am_up (am_up (am_up (am_up (am_up (am_up (am_up (am_up I 0 91 i (nI 1)) 0 60 51 (nI i)) 0 60 52 (-1 : Int32)) 0 60 53 (nI 0)) 0 60 54 (nI 0)) 0 60 55 (nI 0)) 0 60 56 (nI 0)) 0 60 61 (nI 0)) 0 60 52 (nI a)) 0 60 53 (nI 2)) 0 60 56 (nI 0)) 0 60 61 (nI 0)) 0 92 i (nI 1)) 0 81 (136 * i + a) (nI 2))) := by
  have hn4 := hG.hi
  have hn2 := hG.lo
  refine am_of (by decide +kernel) hG.nd (Nat.le_of_ble_eq_true rfl) ?_
  refine am_aload_n dX11_isTriedAgain_0 rfl ?_
  refine am_get (v := .inr (0, 91)) dX11_isTriedAgain_1 fl_11_93 (hG.m0 (by decide)) rfl ?_
  refine am_iload_n dX11_isTriedAgain_4 rfl ?_
  refine am_dup2 dX11_isTriedAgain_5 ?_
  refine am_iald (a := i) dX11_isTriedAgain_6 (hG.m0 (by decide)) rfl rfl (show i < 4 from (by omega)) (show 4 < 2 ^ 31 by decide) ?_
  refine am_top (show I 0 91 i = nI 0 from (by simp [am_up, am_upf, upd, hkd, ha, hp, hl0, hls, htr])) ?_
  refine am_iconst (v := nI 1) dX11_isTriedAgain_7 (by decide) ?_
  refine am_iadd dX11_isTriedAgain_8 ?_
  refine am_top (show (nI 0) + (nI 1) = nI 1 by decide) ?_
  refine am_iast (a := i) dX11_isTriedAgain_9 (hG.m0 (by decide)) rfl rfl (show i < 4 from (by omega)) (show 4 < 2 ^ 31 by decide) ?_
  refine am_aload_n dX11_isTriedAgain_10 rfl ?_
  refine am_iload_n dX11_isTriedAgain_11 rfl ?_
  refine am_callVe (i := 0) (j := 60) (as := [.inl (nI i)]) (rest := []) dX11_isTriedAgain_12 lkX11_attempt ml_X11_292 imX11_attempt seX11_attempt rfl rfl (hG.m0 (by decide)) rfl (Nat.le_of_ble_eq_true rfl) rfl (c_Mattempt2 (a := a) hG hi (by omega) (am_up I 0 91 i (nI 1)) (by simp [am_up, am_upf, upd, hkd, ha, hp, hl0, hls, htr]) (by simp [am_up, am_upf, upd, hkd, ha, hp, hl0, hls, htr]) (by simp [am_up, am_upf, upd, hkd, ha, hp, hl0, hls, htr])) ?_
  refine am_aload_n dX11_isTriedAgain_15 rfl ?_
  refine am_get (v := .inl ((am_up (am_up (am_up (am_up (am_up (am_up (am_up (am_up (am_up (am_up I 0 91 i (nI 1)) 0 60 51 (nI i)) 0 60 52 (-1 : Int32)) 0 60 53 (nI 0)) 0 60 54 (nI 0)) 0 60 55 (nI 0)) 0 60 56 (nI 0)) 0 60 61 (nI 0)) 0 60 52 (nI a)) 0 60 53 (nI 2)) 0 60 52)) dX11_isTriedAgain_16 fl_11_295 (hG.m0 (by decide)) rfl ?_
  refine am_top (show (am_up (am_up (am_up (am_up (am_up (am_up (am_up (am_up (am_up (am_up I 0 91 i (nI 1)) 0 60 51 (nI i)) 0 60 52 (-1 : Int32)) 0 60 53 (nI 0)) 0 60 54 (nI 0)) 0 60 55 (nI 0)) 0 60 56 (nI 0)) 0 60 61 (nI 0)) 0 60 52 (nI a)) 0 60 53 (nI 2)) 0 60 52 = nI a from (by simp [am_up, am_upf, upd, hkd, ha, hp, hl0, hls, htr])) ?_
  refine am_iconst (v := (-1 : Int32)) dX11_isTriedAgain_19 (by decide) ?_
  refine am_icmp_eq (tgt := 90) dX11_isTriedAgain_20 (by decide) (fun h => absurd h (am_nn1 (by omega))) (fun _ => ?_)
  refine am_aload_n dX11_isTriedAgain_23 rfl ?_
  refine am_callVe (i := 0) (j := 60) (as := []) (rest := []) dX11_isTriedAgain_24 lkX11_undo ml_X11_298 imX11_undo seX11_undo rfl rfl (hG.m0 (by decide)) rfl (Nat.le_of_ble_eq_true rfl) rfl (c_Mundo0 hG (am_up (am_up (am_up (am_up (am_up (am_up (am_up (am_up (am_up (am_up I 0 91 i (nI 1)) 0 60 51 (nI i)) 0 60 52 (-1 : Int32)) 0 60 53 (nI 0)) 0 60 54 (nI 0)) 0 60 55 (nI 0)) 0 60 56 (nI 0)) 0 60 61 (nI 0)) 0 60 52 (nI a)) 0 60 53 (nI 2)) (by simp [am_up, am_upf, upd, hkd, ha, hp, hl0, hls, htr])) ?_
  refine am_aload_n dX11_isTriedAgain_27 rfl ?_
  refine am_get (v := .inr (0, 92)) dX11_isTriedAgain_28 fl_11_96 (hG.m0 (by decide)) rfl ?_
  refine am_iload_n dX11_isTriedAgain_31 rfl ?_
  refine am_aload_n dX11_isTriedAgain_32 rfl ?_
  refine am_get (v := .inr (0, 81)) dX11_isTriedAgain_33 fl_11_63 (hG.m0 (by decide)) rfl ?_
  refine am_iload_n dX11_isTriedAgain_36 rfl ?_
  refine am_aload_n dX11_isTriedAgain_37 rfl ?_
  refine am_get (v := .inl ((am_up (am_up (am_up (am_up (am_up (am_up (am_up (am_up (am_up (am_up (am_up (am_up I 0 91 i (nI 1)) 0 60 51 (nI i)) 0 60 52 (-1 : Int32)) 0 60 53 (nI 0)) 0 60 54 (nI 0)) 0 60 55 (nI 0)) 0 60 56 (nI 0)) 0 60 61 (nI 0)) 0 60 52 (nI a)) 0 60 53 (nI 2)) 0 60 56 (nI 0)) 0 60 61 (nI 0)) 0 60 52)) dX11_isTriedAgain_38 fl_11_295 (hG.m0 (by decide)) rfl ?_
  refine am_top (show (am_up (am_up (am_up (am_up (am_up (am_up (am_up (am_up (am_up (am_up (am_up (am_up I 0 91 i (nI 1)) 0 60 51 (nI i)) 0 60 52 (-1 : Int32)) 0 60 53 (nI 0)) 0 60 54 (nI 0)) 0 60 55 (nI 0)) 0 60 56 (nI 0)) 0 60 61 (nI 0)) 0 60 52 (nI a)) 0 60 53 (nI 2)) 0 60 56 (nI 0)) 0 60 61 (nI 0)) 0 60 52 = nI a from (by simp [am_up, am_upf, upd, hkd, ha, hp, hl0, hls, htr])) ?_
  refine am_callSx (as := [.inl (nI i), .inl (nI a)]) (rest := [.inr (0, 81), .inl (nI i), .inr (0, 92)]) dX11_isTriedAgain_41 lkX11_at ml_X11_208 isX11_at rfl (Nat.le_of_ble_eq_true rfl) rfl (c_Mat hG.nd (g := i) (r := a) (by omega) (by omega) (am_up (am_up (am_up (am_up (am_up (am_up (am_up (am_up (am_up (am_up (am_up (am_up I 0 91 i (nI 1)) 0 60 51 (nI i)) 0 60 52 (-1 : Int32)) 0 60 53 (nI 0)) 0 60 54 (nI 0)) 0 60 55 (nI 0)) 0 60 56 (nI 0)) 0 60 61 (nI 0)) 0 60 52 (nI a)) 0 60 53 (nI 2)) 0 60 56 (nI 0)) 0 60 61 (nI 0))) ?_
  refine am_iald (a := 136 * i + a) dX11_isTriedAgain_44 (hG.m0 (by decide)) rfl rfl (show 136 * i + a < 544 from (by omega)) (show 544 < 2 ^ 31 by decide) ?_
  refine am_top (show (am_up (am_up (am_up (am_up (am_up (am_up (am_up (am_up (am_up (am_up (am_up (am_up I 0 91 i (nI 1)) 0 60 51 (nI i)) 0 60 52 (-1 : Int32)) 0 60 53 (nI 0)) 0 60 54 (nI 0)) 0 60 55 (nI 0)) 0 60 56 (nI 0)) 0 60 61 (nI 0)) 0 60 52 (nI a)) 0 60 53 (nI 2)) 0 60 56 (nI 0)) 0 60 61 (nI 0)) 0 81 (136 * i + a) = nI 0 from (by simp [am_up, am_upf, upd, hkd, ha, hp, hl0, hls, htr])) ?_
  refine am_if_ne (tgt := 59) dX11_isTriedAgain_45 (by decide) (fun h => absurd h (by decide)) (fun _ => ?_)
  refine am_aload_n dX11_isTriedAgain_48 rfl ?_
  refine am_get (v := .inr (0, 92)) dX11_isTriedAgain_49 fl_11_96 (hG.m0 (by decide)) rfl ?_
  refine am_iload_n dX11_isTriedAgain_52 rfl ?_
  refine am_iald (a := i) dX11_isTriedAgain_53 (hG.m0 (by decide)) rfl rfl (show i < 4 from (by omega)) (show 4 < 2 ^ 31 by decide) ?_
  refine am_top (show (am_up (am_up (am_up (am_up (am_up (am_up (am_up (am_up (am_up (am_up (am_up (am_up I 0 91 i (nI 1)) 0 60 51 (nI i)) 0 60 52 (-1 : Int32)) 0 60 53 (nI 0)) 0 60 54 (nI 0)) 0 60 55 (nI 0)) 0 60 56 (nI 0)) 0 60 61 (nI 0)) 0 60 52 (nI a)) 0 60 53 (nI 2)) 0 60 56 (nI 0)) 0 60 61 (nI 0)) 0 92 i = nI 0 from (by simp [am_up, am_upf, upd, hkd, ha, hp, hl0, hls, htr])) ?_
  refine am_iconst (v := nI 1) dX11_isTriedAgain_54 (by decide) ?_
  refine am_iadd dX11_isTriedAgain_55 ?_
  refine am_top (show (nI 0) + (nI 1) = nI 1 by decide) ?_
  refine am_goto (tgt := 65) dX11_isTriedAgain_56 (by decide) ?_
  refine am_iast (a := i) dX11_isTriedAgain_65 (hG.m0 (by decide)) rfl rfl (show i < 4 from (by omega)) (show 4 < 2 ^ 31 by decide) ?_
  refine am_aload_n dX11_isTriedAgain_66 rfl ?_
  refine am_get (v := .inr (0, 81)) dX11_isTriedAgain_67 fl_11_63 (hG.m0 (by decide)) rfl ?_
  refine am_iload_n dX11_isTriedAgain_70 rfl ?_
  refine am_aload_n dX11_isTriedAgain_71 rfl ?_
  refine am_get (v := .inl ((am_up (am_up (am_up (am_up (am_up (am_up (am_up (am_up (am_up (am_up (am_up (am_up (am_up I 0 91 i (nI 1)) 0 60 51 (nI i)) 0 60 52 (-1 : Int32)) 0 60 53 (nI 0)) 0 60 54 (nI 0)) 0 60 55 (nI 0)) 0 60 56 (nI 0)) 0 60 61 (nI 0)) 0 60 52 (nI a)) 0 60 53 (nI 2)) 0 60 56 (nI 0)) 0 60 61 (nI 0)) 0 92 i (nI 1)) 0 60 52)) dX11_isTriedAgain_72 fl_11_295 (hG.m0 (by decide)) rfl ?_
  refine am_top (show (am_up (am_up (am_up (am_up (am_up (am_up (am_up (am_up (am_up (am_up (am_up (am_up (am_up I 0 91 i (nI 1)) 0 60 51 (nI i)) 0 60 52 (-1 : Int32)) 0 60 53 (nI 0)) 0 60 54 (nI 0)) 0 60 55 (nI 0)) 0 60 56 (nI 0)) 0 60 61 (nI 0)) 0 60 52 (nI a)) 0 60 53 (nI 2)) 0 60 56 (nI 0)) 0 60 61 (nI 0)) 0 92 i (nI 1)) 0 60 52 = nI a from (by simp [am_up, am_upf, upd, hkd, ha, hp, hl0, hls, htr])) ?_
  refine am_callSx (as := [.inl (nI i), .inl (nI a)]) (rest := [.inr (0, 81)]) dX11_isTriedAgain_75 lkX11_at ml_X11_208 isX11_at rfl (Nat.le_of_ble_eq_true rfl) rfl (c_Mat hG.nd (g := i) (r := a) (by omega) (by omega) (am_up (am_up (am_up (am_up (am_up (am_up (am_up (am_up (am_up (am_up (am_up (am_up (am_up I 0 91 i (nI 1)) 0 60 51 (nI i)) 0 60 52 (-1 : Int32)) 0 60 53 (nI 0)) 0 60 54 (nI 0)) 0 60 55 (nI 0)) 0 60 56 (nI 0)) 0 60 61 (nI 0)) 0 60 52 (nI a)) 0 60 53 (nI 2)) 0 60 56 (nI 0)) 0 60 61 (nI 0)) 0 92 i (nI 1))) ?_
  refine am_aload_n dX11_isTriedAgain_78 rfl ?_
  refine am_get (v := .inl ((am_up (am_up (am_up (am_up (am_up (am_up (am_up (am_up (am_up (am_up (am_up (am_up (am_up I 0 91 i (nI 1)) 0 60 51 (nI i)) 0 60 52 (-1 : Int32)) 0 60 53 (nI 0)) 0 60 54 (nI 0)) 0 60 55 (nI 0)) 0 60 56 (nI 0)) 0 60 61 (nI 0)) 0 60 52 (nI a)) 0 60 53 (nI 2)) 0 60 56 (nI 0)) 0 60 61 (nI 0)) 0 92 i (nI 1)) 0 60 53)) dX11_isTriedAgain_79 fl_11_301 (hG.m0 (by decide)) rfl ?_
  refine am_top (show (am_up (am_up (am_up (am_up (am_up (am_up (am_up (am_up (am_up (am_up (am_up (am_up (am_up I 0 91 i (nI 1)) 0 60 51 (nI i)) 0 60 52 (-1 : Int32)) 0 60 53 (nI 0)) 0 60 54 (nI 0)) 0 60 55 (nI 0)) 0 60 56 (nI 0)) 0 60 61 (nI 0)) 0 60 52 (nI a)) 0 60 53 (nI 2)) 0 60 56 (nI 0)) 0 60 61 (nI 0)) 0 92 i (nI 1)) 0 60 53 = nI 2 from (by simp [am_up, am_upf, upd, hkd, ha, hp, hl0, hls, htr])) ?_
  refine am_iast (a := 136 * i + a) dX11_isTriedAgain_82 (hG.m0 (by decide)) rfl rfl (show 136 * i + a < 544 from (by omega)) (show 544 < 2 ^ 31 by decide) ?_
  refine am_aload_n dX11_isTriedAgain_83 rfl ?_
  refine am_iload_n dX11_isTriedAgain_84 rfl ?_
  refine am_callVe (i := 0) (j := 60) (as := [.inl (nI i)]) (rest := []) dX11_isTriedAgain_85 lkX11_unpin ml_X11_271 imX11_unpin seX11_unpin rfl rfl (hG.m0 (by decide)) rfl (Nat.le_of_ble_eq_true rfl) rfl (c_Munpin0 hG hi (fun k hk => by simp [am_up, am_upf, hpz k hk])) ?_
  refine am_iconst (v := nI 1) dX11_isTriedAgain_88 (by decide) ?_
  refine am_iret dX11_isTriedAgain_89 rfl (am_nz (by decide)).1 ?_
  exact ⟨rfl, rfl⟩
theorem c_MtriedAgain3 {G : am_G} (hG : am_okM G) {d : Nat} {i a : Nat} (hi : i < G.2.2.2.1) (hab : a < 128) (I : am_I) (hpz : ∀ k, k < 544 → I 0 79 k = nI 0)  (hkd : I 0 82 i = nI 3) (ha : I 0 83 i = nI a) (hp : I 0 79 (136 * i + a) = nI 0) (hl0 : I 0 81 (136 * i + a) = nI 0) (hls : I 0 92 i = nI 0) (htr : I 0 91 i = nI 0) : am_C G (d + 5) mX11_isTriedAgain [.inr (0, 60), .inl (nI i)] I (am_E (some (nI 1)) (am_up (am_up (am_up (am_up (am_up (am_up (am_up (am_up (am_up (am_up (am_up (am_up (am_up (am_up I 0 91 i (nI 1)) 0 60 51 (nI i)) 0 60 52 (-1 : Int32)) 0 60 53 (nI 0)) 0 60 54 (nI 0)) 0 60 55 (nI 0)) 0 60 56 (nI 0)) 0 60 61 (nI 0)) 0 60 52 (nI a)) 0 60 53 (nI 2)) 0 60 56 (nI 0)) 0 60 61 (nI 0)) 0 92 i (nI 1)) 0 81 (136 * i + a) (nI 2))) := by
  have hn4 := hG.hi
  have hn2 := hG.lo
  refine am_of (by decide +kernel) hG.nd (Nat.le_of_ble_eq_true rfl) ?_
  refine am_aload_n dX11_isTriedAgain_0 rfl ?_
  refine am_get (v := .inr (0, 91)) dX11_isTriedAgain_1 fl_11_93 (hG.m0 (by decide)) rfl ?_
  refine am_iload_n dX11_isTriedAgain_4 rfl ?_
  refine am_dup2 dX11_isTriedAgain_5 ?_
  refine am_iald (a := i) dX11_isTriedAgain_6 (hG.m0 (by decide)) rfl rfl (show i < 4 from (by omega)) (show 4 < 2 ^ 31 by decide) ?_
  refine am_top (show I 0 91 i = nI 0 from (by simp [am_up, am_upf, upd, hkd, ha, hp, hl0, hls, htr])) ?_
  refine am_iconst (v := nI 1) dX11_isTriedAgain_7 (by decide) ?_
  refine am_iadd dX11_isTriedAgain_8 ?_
  refine am_top (show (nI 0) + (nI 1) = nI 1 by decide) ?_
  refine am_iast (a := i) dX11_isTriedAgain_9 (hG.m0 (by decide)) rfl rfl (show i < 4 from (by omega)) (show 4 < 2 ^ 31 by decide) ?_
  refine am_aload_n dX11_isTriedAgain_10 rfl ?_
  refine am_iload_n dX11_isTriedAgain_11 rfl ?_
  refine am_callVe (i := 0) (j := 60) (as := [.inl (nI i)]) (rest := []) dX11_isTriedAgain_12 lkX11_attempt ml_X11_292 imX11_attempt seX11_attempt rfl rfl (hG.m0 (by decide)) rfl (Nat.le_of_ble_eq_true rfl) rfl (c_Mattempt3 (a := a) hG hi (by omega) (am_up I 0 91 i (nI 1)) (by simp [am_up, am_upf, upd, hkd, ha, hp, hl0, hls, htr]) (by simp [am_up, am_upf, upd, hkd, ha, hp, hl0, hls, htr]) (by simp [am_up, am_upf, upd, hkd, ha, hp, hl0, hls, htr])) ?_
  refine am_aload_n dX11_isTriedAgain_15 rfl ?_
  refine am_get (v := .inl ((am_up (am_up (am_up (am_up (am_up (am_up (am_up (am_up (am_up (am_up I 0 91 i (nI 1)) 0 60 51 (nI i)) 0 60 52 (-1 : Int32)) 0 60 53 (nI 0)) 0 60 54 (nI 0)) 0 60 55 (nI 0)) 0 60 56 (nI 0)) 0 60 61 (nI 0)) 0 60 52 (nI a)) 0 60 53 (nI 2)) 0 60 52)) dX11_isTriedAgain_16 fl_11_295 (hG.m0 (by decide)) rfl ?_
  refine am_top (show (am_up (am_up (am_up (am_up (am_up (am_up (am_up (am_up (am_up (am_up I 0 91 i (nI 1)) 0 60 51 (nI i)) 0 60 52 (-1 : Int32)) 0 60 53 (nI 0)) 0 60 54 (nI 0)) 0 60 55 (nI 0)) 0 60 56 (nI 0)) 0 60 61 (nI 0)) 0 60 52 (nI a)) 0 60 53 (nI 2)) 0 60 52 = nI a from (by simp [am_up, am_upf, upd, hkd, ha, hp, hl0, hls, htr])) ?_
  refine am_iconst (v := (-1 : Int32)) dX11_isTriedAgain_19 (by decide) ?_
  refine am_icmp_eq (tgt := 90) dX11_isTriedAgain_20 (by decide) (fun h => absurd h (am_nn1 (by omega))) (fun _ => ?_)
  refine am_aload_n dX11_isTriedAgain_23 rfl ?_
  refine am_callVe (i := 0) (j := 60) (as := []) (rest := []) dX11_isTriedAgain_24 lkX11_undo ml_X11_298 imX11_undo seX11_undo rfl rfl (hG.m0 (by decide)) rfl (Nat.le_of_ble_eq_true rfl) rfl (c_Mundo0 hG (am_up (am_up (am_up (am_up (am_up (am_up (am_up (am_up (am_up (am_up I 0 91 i (nI 1)) 0 60 51 (nI i)) 0 60 52 (-1 : Int32)) 0 60 53 (nI 0)) 0 60 54 (nI 0)) 0 60 55 (nI 0)) 0 60 56 (nI 0)) 0 60 61 (nI 0)) 0 60 52 (nI a)) 0 60 53 (nI 2)) (by simp [am_up, am_upf, upd, hkd, ha, hp, hl0, hls, htr])) ?_
  refine am_aload_n dX11_isTriedAgain_27 rfl ?_
  refine am_get (v := .inr (0, 92)) dX11_isTriedAgain_28 fl_11_96 (hG.m0 (by decide)) rfl ?_
  refine am_iload_n dX11_isTriedAgain_31 rfl ?_
  refine am_aload_n dX11_isTriedAgain_32 rfl ?_
  refine am_get (v := .inr (0, 81)) dX11_isTriedAgain_33 fl_11_63 (hG.m0 (by decide)) rfl ?_
  refine am_iload_n dX11_isTriedAgain_36 rfl ?_
  refine am_aload_n dX11_isTriedAgain_37 rfl ?_
  refine am_get (v := .inl ((am_up (am_up (am_up (am_up (am_up (am_up (am_up (am_up (am_up (am_up (am_up (am_up I 0 91 i (nI 1)) 0 60 51 (nI i)) 0 60 52 (-1 : Int32)) 0 60 53 (nI 0)) 0 60 54 (nI 0)) 0 60 55 (nI 0)) 0 60 56 (nI 0)) 0 60 61 (nI 0)) 0 60 52 (nI a)) 0 60 53 (nI 2)) 0 60 56 (nI 0)) 0 60 61 (nI 0)) 0 60 52)) dX11_isTriedAgain_38 fl_11_295 (hG.m0 (by decide)) rfl ?_
  refine am_top (show (am_up (am_up (am_up (am_up (am_up (am_up (am_up (am_up (am_up (am_up (am_up (am_up I 0 91 i (nI 1)) 0 60 51 (nI i)) 0 60 52 (-1 : Int32)) 0 60 53 (nI 0)) 0 60 54 (nI 0)) 0 60 55 (nI 0)) 0 60 56 (nI 0)) 0 60 61 (nI 0)) 0 60 52 (nI a)) 0 60 53 (nI 2)) 0 60 56 (nI 0)) 0 60 61 (nI 0)) 0 60 52 = nI a from (by simp [am_up, am_upf, upd, hkd, ha, hp, hl0, hls, htr])) ?_
  refine am_callSx (as := [.inl (nI i), .inl (nI a)]) (rest := [.inr (0, 81), .inl (nI i), .inr (0, 92)]) dX11_isTriedAgain_41 lkX11_at ml_X11_208 isX11_at rfl (Nat.le_of_ble_eq_true rfl) rfl (c_Mat hG.nd (g := i) (r := a) (by omega) (by omega) (am_up (am_up (am_up (am_up (am_up (am_up (am_up (am_up (am_up (am_up (am_up (am_up I 0 91 i (nI 1)) 0 60 51 (nI i)) 0 60 52 (-1 : Int32)) 0 60 53 (nI 0)) 0 60 54 (nI 0)) 0 60 55 (nI 0)) 0 60 56 (nI 0)) 0 60 61 (nI 0)) 0 60 52 (nI a)) 0 60 53 (nI 2)) 0 60 56 (nI 0)) 0 60 61 (nI 0))) ?_
  refine am_iald (a := 136 * i + a) dX11_isTriedAgain_44 (hG.m0 (by decide)) rfl rfl (show 136 * i + a < 544 from (by omega)) (show 544 < 2 ^ 31 by decide) ?_
  refine am_top (show (am_up (am_up (am_up (am_up (am_up (am_up (am_up (am_up (am_up (am_up (am_up (am_up I 0 91 i (nI 1)) 0 60 51 (nI i)) 0 60 52 (-1 : Int32)) 0 60 53 (nI 0)) 0 60 54 (nI 0)) 0 60 55 (nI 0)) 0 60 56 (nI 0)) 0 60 61 (nI 0)) 0 60 52 (nI a)) 0 60 53 (nI 2)) 0 60 56 (nI 0)) 0 60 61 (nI 0)) 0 81 (136 * i + a) = nI 0 from (by simp [am_up, am_upf, upd, hkd, ha, hp, hl0, hls, htr])) ?_
  refine am_if_ne (tgt := 59) dX11_isTriedAgain_45 (by decide) (fun h => absurd h (by decide)) (fun _ => ?_)
  refine am_aload_n dX11_isTriedAgain_48 rfl ?_
  refine am_get (v := .inr (0, 92)) dX11_isTriedAgain_49 fl_11_96 (hG.m0 (by decide)) rfl ?_
  refine am_iload_n dX11_isTriedAgain_52 rfl ?_
  refine am_iald (a := i) dX11_isTriedAgain_53 (hG.m0 (by decide)) rfl rfl (show i < 4 from (by omega)) (show 4 < 2 ^ 31 by decide) ?_
  refine am_top (show (am_up (am_up (am_up (am_up (am_up (am_up (am_up (am_up (am_up (am_up (am_up (am_up I 0 91 i (nI 1)) 0 60 51 (nI i)) 0 60 52 (-1 : Int32)) 0 60 53 (nI 0)) 0 60 54 (nI 0)) 0 60 55 (nI 0)) 0 60 56 (nI 0)) 0 60 61 (nI 0)) 0 60 52 (nI a)) 0 60 53 (nI 2)) 0 60 56 (nI 0)) 0 60 61 (nI 0)) 0 92 i = nI 0 from (by simp [am_up, am_upf, upd, hkd, ha, hp, hl0, hls, htr])) ?_
  refine am_iconst (v := nI 1) dX11_isTriedAgain_54 (by decide) ?_
  refine am_iadd dX11_isTriedAgain_55 ?_
  refine am_top (show (nI 0) + (nI 1) = nI 1 by decide) ?_
  refine am_goto (tgt := 65) dX11_isTriedAgain_56 (by decide) ?_
  refine am_iast (a := i) dX11_isTriedAgain_65 (hG.m0 (by decide)) rfl rfl (show i < 4 from (by omega)) (show 4 < 2 ^ 31 by decide) ?_
  refine am_aload_n dX11_isTriedAgain_66 rfl ?_
  refine am_get (v := .inr (0, 81)) dX11_isTriedAgain_67 fl_11_63 (hG.m0 (by decide)) rfl ?_
  refine am_iload_n dX11_isTriedAgain_70 rfl ?_
  refine am_aload_n dX11_isTriedAgain_71 rfl ?_
  refine am_get (v := .inl ((am_up (am_up (am_up (am_up (am_up (am_up (am_up (am_up (am_up (am_up (am_up (am_up (am_up I 0 91 i (nI 1)) 0 60 51 (nI i)) 0 60 52 (-1 : Int32)) 0 60 53 (nI 0)) 0 60 54 (nI 0)) 0 60 55 (nI 0)) 0 60 56 (nI 0)) 0 60 61 (nI 0)) 0 60 52 (nI a)) 0 60 53 (nI 2)) 0 60 56 (nI 0)) 0 60 61 (nI 0)) 0 92 i (nI 1)) 0 60 52)) dX11_isTriedAgain_72 fl_11_295 (hG.m0 (by decide)) rfl ?_
  refine am_top (show (am_up (am_up (am_up (am_up (am_up (am_up (am_up (am_up (am_up (am_up (am_up (am_up (am_up I 0 91 i (nI 1)) 0 60 51 (nI i)) 0 60 52 (-1 : Int32)) 0 60 53 (nI 0)) 0 60 54 (nI 0)) 0 60 55 (nI 0)) 0 60 56 (nI 0)) 0 60 61 (nI 0)) 0 60 52 (nI a)) 0 60 53 (nI 2)) 0 60 56 (nI 0)) 0 60 61 (nI 0)) 0 92 i (nI 1)) 0 60 52 = nI a from (by simp [am_up, am_upf, upd, hkd, ha, hp, hl0, hls, htr])) ?_
  refine am_callSx (as := [.inl (nI i), .inl (nI a)]) (rest := [.inr (0, 81)]) dX11_isTriedAgain_75 lkX11_at ml_X11_208 isX11_at rfl (Nat.le_of_ble_eq_true rfl) rfl (c_Mat hG.nd (g := i) (r := a) (by omega) (by omega) (am_up (am_up (am_up (am_up (am_up (am_up (am_up (am_up (am_up (am_up (am_up (am_up (am_up I 0 91 i (nI 1)) 0 60 51 (nI i)) 0 60 52 (-1 : Int32)) 0 60 53 (nI 0)) 0 60 54 (nI 0)) 0 60 55 (nI 0)) 0 60 56 (nI 0)) 0 60 61 (nI 0)) 0 60 52 (nI a)) 0 60 53 (nI 2)) 0 60 56 (nI 0)) 0 60 61 (nI 0)) 0 92 i (nI 1))) ?_
  refine am_aload_n dX11_isTriedAgain_78 rfl ?_
  refine am_get (v := .inl ((am_up (am_up (am_up (am_up (am_up (am_up (am_up (am_up (am_up (am_up (am_up (am_up (am_up I 0 91 i (nI 1)) 0 60 51 (nI i)) 0 60 52 (-1 : Int32)) 0 60 53 (nI 0)) 0 60 54 (nI 0)) 0 60 55 (nI 0)) 0 60 56 (nI 0)) 0 60 61 (nI 0)) 0 60 52 (nI a)) 0 60 53 (nI 2)) 0 60 56 (nI 0)) 0 60 61 (nI 0)) 0 92 i (nI 1)) 0 60 53)) dX11_isTriedAgain_79 fl_11_301 (hG.m0 (by decide)) rfl ?_
  refine am_top (show (am_up (am_up (am_up (am_up (am_up (am_up (am_up (am_up (am_up (am_up (am_up (am_up (am_up I 0 91 i (nI 1)) 0 60 51 (nI i)) 0 60 52 (-1 : Int32)) 0 60 53 (nI 0)) 0 60 54 (nI 0)) 0 60 55 (nI 0)) 0 60 56 (nI 0)) 0 60 61 (nI 0)) 0 60 52 (nI a)) 0 60 53 (nI 2)) 0 60 56 (nI 0)) 0 60 61 (nI 0)) 0 92 i (nI 1)) 0 60 53 = nI 2 from (by simp [am_up, am_upf, upd, hkd, ha, hp, hl0, hls, htr])) ?_
  refine am_iast (a := 136 * i + a) dX11_isTriedAgain_82 (hG.m0 (by decide)) rfl rfl (show 136 * i + a < 544 from (by omega)) (show 544 < 2 ^ 31 by decide) ?_
  refine am_aload_n dX11_isTriedAgain_83 rfl ?_
  refine am_iload_n dX11_isTriedAgain_84 rfl ?_
  refine am_callVe (i := 0) (j := 60) (as := [.inl (nI i)]) (rest := []) dX11_isTriedAgain_85 lkX11_unpin ml_X11_271 imX11_unpin seX11_unpin rfl rfl (hG.m0 (by decide)) rfl (Nat.le_of_ble_eq_true rfl) rfl (c_Munpin0 hG hi (fun k hk => by simp [am_up, am_upf, hpz k hk])) ?_
  refine am_iconst (v := nI 1) dX11_isTriedAgain_88 (by decide) ?_
  refine am_iret dX11_isTriedAgain_89 rfl (am_nz (by decide)).1 ?_
  exact ⟨rfl, rfl⟩
theorem c_MtriedAgain4 {G : am_G} (hG : am_okM G) {d : Nat} {i a : Nat} (hi : i < G.2.2.2.1) (hab : a < 128) (I : am_I) (hpz : ∀ k, k < 544 → I 0 79 k = nI 0)  (hkd : I 0 82 i = nI 4) (ha : I 0 83 i = nI a) (hp : I 0 79 (136 * i + a) = nI 0) (hl0 : I 0 81 (136 * i + a) = nI 0) (hls : I 0 92 i = nI 0) (htr : I 0 91 i = nI 0) : am_C G (d + 5) mX11_isTriedAgain [.inr (0, 60), .inl (nI i)] I (am_E (some (nI 1)) (am_up (am_up (am_up (am_up (am_up (am_up (am_up (am_up (am_up (am_up (am_up (am_up (am_up (am_up I 0 91 i (nI 1)) 0 60 51 (nI i)) 0 60 52 (-1 : Int32)) 0 60 53 (nI 0)) 0 60 54 (nI 0)) 0 60 55 (nI 0)) 0 60 56 (nI 0)) 0 60 61 (nI 0)) 0 60 52 (nI a)) 0 60 53 (nI 2)) 0 60 56 (nI 0)) 0 60 61 (nI 0)) 0 92 i (nI 1)) 0 81 (136 * i + a) (nI 2))) := by
  have hn4 := hG.hi
  have hn2 := hG.lo
  refine am_of (by decide +kernel) hG.nd (Nat.le_of_ble_eq_true rfl) ?_
  refine am_aload_n dX11_isTriedAgain_0 rfl ?_
  refine am_get (v := .inr (0, 91)) dX11_isTriedAgain_1 fl_11_93 (hG.m0 (by decide)) rfl ?_
  refine am_iload_n dX11_isTriedAgain_4 rfl ?_
  refine am_dup2 dX11_isTriedAgain_5 ?_
  refine am_iald (a := i) dX11_isTriedAgain_6 (hG.m0 (by decide)) rfl rfl (show i < 4 from (by omega)) (show 4 < 2 ^ 31 by decide) ?_
  refine am_top (show I 0 91 i = nI 0 from (by simp [am_up, am_upf, upd, hkd, ha, hp, hl0, hls, htr])) ?_
  refine am_iconst (v := nI 1) dX11_isTriedAgain_7 (by decide) ?_
  refine am_iadd dX11_isTriedAgain_8 ?_
  refine am_top (show (nI 0) + (nI 1) = nI 1 by decide) ?_
  refine am_iast (a := i) dX11_isTriedAgain_9 (hG.m0 (by decide)) rfl rfl (show i < 4 from (by omega)) (show 4 < 2 ^ 31 by decide) ?_
  refine am_aload_n dX11_isTriedAgain_10 rfl ?_
  refine am_iload_n dX11_isTriedAgain_11 rfl ?_
  refine am_callVe (i := 0) (j := 60) (as := [.inl (nI i)]) (rest := []) dX11_isTriedAgain_12 lkX11_attempt ml_X11_292 imX11_attempt seX11_attempt rfl rfl (hG.m0 (by decide)) rfl (Nat.le_of_ble_eq_true rfl) rfl (c_Mattempt4 (a := a) hG hi (by omega) (am_up I 0 91 i (nI 1)) (by simp [am_up, am_upf, upd, hkd, ha, hp, hl0, hls, htr]) (by simp [am_up, am_upf, upd, hkd, ha, hp, hl0, hls, htr]) (by simp [am_up, am_upf, upd, hkd, ha, hp, hl0, hls, htr])) ?_
  refine am_aload_n dX11_isTriedAgain_15 rfl ?_
  refine am_get (v := .inl ((am_up (am_up (am_up (am_up (am_up (am_up (am_up (am_up (am_up (am_up I 0 91 i (nI 1)) 0 60 51 (nI i)) 0 60 52 (-1 : Int32)) 0 60 53 (nI 0)) 0 60 54 (nI 0)) 0 60 55 (nI 0)) 0 60 56 (nI 0)) 0 60 61 (nI 0)) 0 60 52 (nI a)) 0 60 53 (nI 2)) 0 60 52)) dX11_isTriedAgain_16 fl_11_295 (hG.m0 (by decide)) rfl ?_
  refine am_top (show (am_up (am_up (am_up (am_up (am_up (am_up (am_up (am_up (am_up (am_up I 0 91 i (nI 1)) 0 60 51 (nI i)) 0 60 52 (-1 : Int32)) 0 60 53 (nI 0)) 0 60 54 (nI 0)) 0 60 55 (nI 0)) 0 60 56 (nI 0)) 0 60 61 (nI 0)) 0 60 52 (nI a)) 0 60 53 (nI 2)) 0 60 52 = nI a from (by simp [am_up, am_upf, upd, hkd, ha, hp, hl0, hls, htr])) ?_
  refine am_iconst (v := (-1 : Int32)) dX11_isTriedAgain_19 (by decide) ?_
  refine am_icmp_eq (tgt := 90) dX11_isTriedAgain_20 (by decide) (fun h => absurd h (am_nn1 (by omega))) (fun _ => ?_)
  refine am_aload_n dX11_isTriedAgain_23 rfl ?_
  refine am_callVe (i := 0) (j := 60) (as := []) (rest := []) dX11_isTriedAgain_24 lkX11_undo ml_X11_298 imX11_undo seX11_undo rfl rfl (hG.m0 (by decide)) rfl (Nat.le_of_ble_eq_true rfl) rfl (c_Mundo0 hG (am_up (am_up (am_up (am_up (am_up (am_up (am_up (am_up (am_up (am_up I 0 91 i (nI 1)) 0 60 51 (nI i)) 0 60 52 (-1 : Int32)) 0 60 53 (nI 0)) 0 60 54 (nI 0)) 0 60 55 (nI 0)) 0 60 56 (nI 0)) 0 60 61 (nI 0)) 0 60 52 (nI a)) 0 60 53 (nI 2)) (by simp [am_up, am_upf, upd, hkd, ha, hp, hl0, hls, htr])) ?_
  refine am_aload_n dX11_isTriedAgain_27 rfl ?_
  refine am_get (v := .inr (0, 92)) dX11_isTriedAgain_28 fl_11_96 (hG.m0 (by decide)) rfl ?_
  refine am_iload_n dX11_isTriedAgain_31 rfl ?_
  refine am_aload_n dX11_isTriedAgain_32 rfl ?_
  refine am_get (v := .inr (0, 81)) dX11_isTriedAgain_33 fl_11_63 (hG.m0 (by decide)) rfl ?_
  refine am_iload_n dX11_isTriedAgain_36 rfl ?_
  refine am_aload_n dX11_isTriedAgain_37 rfl ?_
  refine am_get (v := .inl ((am_up (am_up (am_up (am_up (am_up (am_up (am_up (am_up (am_up (am_up (am_up (am_up I 0 91 i (nI 1)) 0 60 51 (nI i)) 0 60 52 (-1 : Int32)) 0 60 53 (nI 0)) 0 60 54 (nI 0)) 0 60 55 (nI 0)) 0 60 56 (nI 0)) 0 60 61 (nI 0)) 0 60 52 (nI a)) 0 60 53 (nI 2)) 0 60 56 (nI 0)) 0 60 61 (nI 0)) 0 60 52)) dX11_isTriedAgain_38 fl_11_295 (hG.m0 (by decide)) rfl ?_
  refine am_top (show (am_up (am_up (am_up (am_up (am_up (am_up (am_up (am_up (am_up (am_up (am_up (am_up I 0 91 i (nI 1)) 0 60 51 (nI i)) 0 60 52 (-1 : Int32)) 0 60 53 (nI 0)) 0 60 54 (nI 0)) 0 60 55 (nI 0)) 0 60 56 (nI 0)) 0 60 61 (nI 0)) 0 60 52 (nI a)) 0 60 53 (nI 2)) 0 60 56 (nI 0)) 0 60 61 (nI 0)) 0 60 52 = nI a from (by simp [am_up, am_upf, upd, hkd, ha, hp, hl0, hls, htr])) ?_
  refine am_callSx (as := [.inl (nI i), .inl (nI a)]) (rest := [.inr (0, 81), .inl (nI i), .inr (0, 92)]) dX11_isTriedAgain_41 lkX11_at ml_X11_208 isX11_at rfl (Nat.le_of_ble_eq_true rfl) rfl (c_Mat hG.nd (g := i) (r := a) (by omega) (by omega) (am_up (am_up (am_up (am_up (am_up (am_up (am_up (am_up (am_up (am_up (am_up (am_up I 0 91 i (nI 1)) 0 60 51 (nI i)) 0 60 52 (-1 : Int32)) 0 60 53 (nI 0)) 0 60 54 (nI 0)) 0 60 55 (nI 0)) 0 60 56 (nI 0)) 0 60 61 (nI 0)) 0 60 52 (nI a)) 0 60 53 (nI 2)) 0 60 56 (nI 0)) 0 60 61 (nI 0))) ?_
  refine am_iald (a := 136 * i + a) dX11_isTriedAgain_44 (hG.m0 (by decide)) rfl rfl (show 136 * i + a < 544 from (by omega)) (show 544 < 2 ^ 31 by decide) ?_
  refine am_top (show (am_up (am_up (am_up (am_up (am_up (am_up (am_up (am_up (am_up (am_up (am_up (am_up I 0 91 i (nI 1)) 0 60 51 (nI i)) 0 60 52 (-1 : Int32)) 0 60 53 (nI 0)) 0 60 54 (nI 0)) 0 60 55 (nI 0)) 0 60 56 (nI 0)) 0 60 61 (nI 0)) 0 60 52 (nI a)) 0 60 53 (nI 2)) 0 60 56 (nI 0)) 0 60 61 (nI 0)) 0 81 (136 * i + a) = nI 0 from (by simp [am_up, am_upf, upd, hkd, ha, hp, hl0, hls, htr])) ?_
  refine am_if_ne (tgt := 59) dX11_isTriedAgain_45 (by decide) (fun h => absurd h (by decide)) (fun _ => ?_)
  refine am_aload_n dX11_isTriedAgain_48 rfl ?_
  refine am_get (v := .inr (0, 92)) dX11_isTriedAgain_49 fl_11_96 (hG.m0 (by decide)) rfl ?_
  refine am_iload_n dX11_isTriedAgain_52 rfl ?_
  refine am_iald (a := i) dX11_isTriedAgain_53 (hG.m0 (by decide)) rfl rfl (show i < 4 from (by omega)) (show 4 < 2 ^ 31 by decide) ?_
  refine am_top (show (am_up (am_up (am_up (am_up (am_up (am_up (am_up (am_up (am_up (am_up (am_up (am_up I 0 91 i (nI 1)) 0 60 51 (nI i)) 0 60 52 (-1 : Int32)) 0 60 53 (nI 0)) 0 60 54 (nI 0)) 0 60 55 (nI 0)) 0 60 56 (nI 0)) 0 60 61 (nI 0)) 0 60 52 (nI a)) 0 60 53 (nI 2)) 0 60 56 (nI 0)) 0 60 61 (nI 0)) 0 92 i = nI 0 from (by simp [am_up, am_upf, upd, hkd, ha, hp, hl0, hls, htr])) ?_
  refine am_iconst (v := nI 1) dX11_isTriedAgain_54 (by decide) ?_
  refine am_iadd dX11_isTriedAgain_55 ?_
  refine am_top (show (nI 0) + (nI 1) = nI 1 by decide) ?_
  refine am_goto (tgt := 65) dX11_isTriedAgain_56 (by decide) ?_
  refine am_iast (a := i) dX11_isTriedAgain_65 (hG.m0 (by decide)) rfl rfl (show i < 4 from (by omega)) (show 4 < 2 ^ 31 by decide) ?_
  refine am_aload_n dX11_isTriedAgain_66 rfl ?_
  refine am_get (v := .inr (0, 81)) dX11_isTriedAgain_67 fl_11_63 (hG.m0 (by decide)) rfl ?_
  refine am_iload_n dX11_isTriedAgain_70 rfl ?_
  refine am_aload_n dX11_isTriedAgain_71 rfl ?_
  refine am_get (v := .inl ((am_up (am_up (am_up (am_up (am_up (am_up (am_up (am_up (am_up (am_up (am_up (am_up (am_up I 0 91 i (nI 1)) 0 60 51 (nI i)) 0 60 52 (-1 : Int32)) 0 60 53 (nI 0)) 0 60 54 (nI 0)) 0 60 55 (nI 0)) 0 60 56 (nI 0)) 0 60 61 (nI 0)) 0 60 52 (nI a)) 0 60 53 (nI 2)) 0 60 56 (nI 0)) 0 60 61 (nI 0)) 0 92 i (nI 1)) 0 60 52)) dX11_isTriedAgain_72 fl_11_295 (hG.m0 (by decide)) rfl ?_
  refine am_top (show (am_up (am_up (am_up (am_up (am_up (am_up (am_up (am_up (am_up (am_up (am_up (am_up (am_up I 0 91 i (nI 1)) 0 60 51 (nI i)) 0 60 52 (-1 : Int32)) 0 60 53 (nI 0)) 0 60 54 (nI 0)) 0 60 55 (nI 0)) 0 60 56 (nI 0)) 0 60 61 (nI 0)) 0 60 52 (nI a)) 0 60 53 (nI 2)) 0 60 56 (nI 0)) 0 60 61 (nI 0)) 0 92 i (nI 1)) 0 60 52 = nI a from (by simp [am_up, am_upf, upd, hkd, ha, hp, hl0, hls, htr])) ?_
  refine am_callSx (as := [.inl (nI i), .inl (nI a)]) (rest := [.inr (0, 81)]) dX11_isTriedAgain_75 lkX11_at ml_X11_208 isX11_at rfl (Nat.le_of_ble_eq_true rfl) rfl (c_Mat hG.nd (g := i) (r := a) (by omega) (by omega) (am_up (am_up (am_up (am_up (am_up (am_up (am_up (am_up (am_up (am_up (am_up (am_up (am_up I 0 91 i (nI 1)) 0 60 51 (nI i)) 0 60 52 (-1 : Int32)) 0 60 53 (nI 0)) 0 60 54 (nI 0)) 0 60 55 (nI 0)) 0 60 56 (nI 0)) 0 60 61 (nI 0)) 0 60 52 (nI a)) 0 60 53 (nI 2)) 0 60 56 (nI 0)) 0 60 61 (nI 0)) 0 92 i (nI 1))) ?_
  refine am_aload_n dX11_isTriedAgain_78 rfl ?_
  refine am_get (v := .inl ((am_up (am_up (am_up (am_up (am_up (am_up (am_up (am_up (am_up (am_up (am_up (am_up (am_up I 0 91 i (nI 1)) 0 60 51 (nI i)) 0 60 52 (-1 : Int32)) 0 60 53 (nI 0)) 0 60 54 (nI 0)) 0 60 55 (nI 0)) 0 60 56 (nI 0)) 0 60 61 (nI 0)) 0 60 52 (nI a)) 0 60 53 (nI 2)) 0 60 56 (nI 0)) 0 60 61 (nI 0)) 0 92 i (nI 1)) 0 60 53)) dX11_isTriedAgain_79 fl_11_301 (hG.m0 (by decide)) rfl ?_
  refine am_top (show (am_up (am_up (am_up (am_up (am_up (am_up (am_up (am_up (am_up (am_up (am_up (am_up (am_up I 0 91 i (nI 1)) 0 60 51 (nI i)) 0 60 52 (-1 : Int32)) 0 60 53 (nI 0)) 0 60 54 (nI 0)) 0 60 55 (nI 0)) 0 60 56 (nI 0)) 0 60 61 (nI 0)) 0 60 52 (nI a)) 0 60 53 (nI 2)) 0 60 56 (nI 0)) 0 60 61 (nI 0)) 0 92 i (nI 1)) 0 60 53 = nI 2 from (by simp [am_up, am_upf, upd, hkd, ha, hp, hl0, hls, htr])) ?_
  refine am_iast (a := 136 * i + a) dX11_isTriedAgain_82 (hG.m0 (by decide)) rfl rfl (show 136 * i + a < 544 from (by omega)) (show 544 < 2 ^ 31 by decide) ?_
  refine am_aload_n dX11_isTriedAgain_83 rfl ?_
  refine am_iload_n dX11_isTriedAgain_84 rfl ?_
  refine am_callVe (i := 0) (j := 60) (as := [.inl (nI i)]) (rest := []) dX11_isTriedAgain_85 lkX11_unpin ml_X11_271 imX11_unpin seX11_unpin rfl rfl (hG.m0 (by decide)) rfl (Nat.le_of_ble_eq_true rfl) rfl (c_Munpin0 hG hi (fun k hk => by simp [am_up, am_upf, hpz k hk])) ?_
  refine am_iconst (v := nI 1) dX11_isTriedAgain_88 (by decide) ?_
  refine am_iret dX11_isTriedAgain_89 rfl (am_nz (by decide)).1 ?_
  exact ⟨rfl, rfl⟩
theorem c_MtriedAgain5 {G : am_G} (hG : am_okM G) {d : Nat} {i a : Nat} (hi : i < G.2.2.2.1) (hab : a < 128) (I : am_I) (hpz : ∀ k, k < 544 → I 0 79 k = nI 0)  (hkd : I 0 82 i = nI 5) (ha : I 0 83 i = nI a) (hp : I 0 79 (136 * i + a) = nI 0) (hl0 : I 0 81 (136 * i + a) = nI 0) (hls : I 0 92 i = nI 0) (htr : I 0 91 i = nI 0) : am_C G (d + 5) mX11_isTriedAgain [.inr (0, 60), .inl (nI i)] I (am_E (some (nI 1)) (am_up (am_up (am_up (am_up (am_up (am_up (am_up (am_up (am_up (am_up (am_up (am_up (am_up (am_up I 0 91 i (nI 1)) 0 60 51 (nI i)) 0 60 52 (-1 : Int32)) 0 60 53 (nI 0)) 0 60 54 (nI 0)) 0 60 55 (nI 0)) 0 60 56 (nI 0)) 0 60 61 (nI 0)) 0 60 52 (nI a)) 0 60 53 (nI 1)) 0 60 56 (nI 0)) 0 60 61 (nI 0)) 0 92 i (nI 1)) 0 81 (136 * i + a) (nI 1))) := by
  have hn4 := hG.hi
  have hn2 := hG.lo
  refine am_of (by decide +kernel) hG.nd (Nat.le_of_ble_eq_true rfl) ?_
  refine am_aload_n dX11_isTriedAgain_0 rfl ?_
  refine am_get (v := .inr (0, 91)) dX11_isTriedAgain_1 fl_11_93 (hG.m0 (by decide)) rfl ?_
  refine am_iload_n dX11_isTriedAgain_4 rfl ?_
  refine am_dup2 dX11_isTriedAgain_5 ?_
  refine am_iald (a := i) dX11_isTriedAgain_6 (hG.m0 (by decide)) rfl rfl (show i < 4 from (by omega)) (show 4 < 2 ^ 31 by decide) ?_
  refine am_top (show I 0 91 i = nI 0 from (by simp [am_up, am_upf, upd, hkd, ha, hp, hl0, hls, htr])) ?_
  refine am_iconst (v := nI 1) dX11_isTriedAgain_7 (by decide) ?_
  refine am_iadd dX11_isTriedAgain_8 ?_
  refine am_top (show (nI 0) + (nI 1) = nI 1 by decide) ?_
  refine am_iast (a := i) dX11_isTriedAgain_9 (hG.m0 (by decide)) rfl rfl (show i < 4 from (by omega)) (show 4 < 2 ^ 31 by decide) ?_
  refine am_aload_n dX11_isTriedAgain_10 rfl ?_
  refine am_iload_n dX11_isTriedAgain_11 rfl ?_
  refine am_callVe (i := 0) (j := 60) (as := [.inl (nI i)]) (rest := []) dX11_isTriedAgain_12 lkX11_attempt ml_X11_292 imX11_attempt seX11_attempt rfl rfl (hG.m0 (by decide)) rfl (Nat.le_of_ble_eq_true rfl) rfl (c_Mattempt5 (a := a) hG hi (by omega) (am_up I 0 91 i (nI 1)) (by simp [am_up, am_upf, upd, hkd, ha, hp, hl0, hls, htr]) (by simp [am_up, am_upf, upd, hkd, ha, hp, hl0, hls, htr]) (by simp [am_up, am_upf, upd, hkd, ha, hp, hl0, hls, htr])) ?_
  refine am_aload_n dX11_isTriedAgain_15 rfl ?_
  refine am_get (v := .inl ((am_up (am_up (am_up (am_up (am_up (am_up (am_up (am_up (am_up (am_up I 0 91 i (nI 1)) 0 60 51 (nI i)) 0 60 52 (-1 : Int32)) 0 60 53 (nI 0)) 0 60 54 (nI 0)) 0 60 55 (nI 0)) 0 60 56 (nI 0)) 0 60 61 (nI 0)) 0 60 52 (nI a)) 0 60 53 (nI 1)) 0 60 52)) dX11_isTriedAgain_16 fl_11_295 (hG.m0 (by decide)) rfl ?_
  refine am_top (show (am_up (am_up (am_up (am_up (am_up (am_up (am_up (am_up (am_up (am_up I 0 91 i (nI 1)) 0 60 51 (nI i)) 0 60 52 (-1 : Int32)) 0 60 53 (nI 0)) 0 60 54 (nI 0)) 0 60 55 (nI 0)) 0 60 56 (nI 0)) 0 60 61 (nI 0)) 0 60 52 (nI a)) 0 60 53 (nI 1)) 0 60 52 = nI a from (by simp [am_up, am_upf, upd, hkd, ha, hp, hl0, hls, htr])) ?_
  refine am_iconst (v := (-1 : Int32)) dX11_isTriedAgain_19 (by decide) ?_
  refine am_icmp_eq (tgt := 90) dX11_isTriedAgain_20 (by decide) (fun h => absurd h (am_nn1 (by omega))) (fun _ => ?_)
  refine am_aload_n dX11_isTriedAgain_23 rfl ?_
  refine am_callVe (i := 0) (j := 60) (as := []) (rest := []) dX11_isTriedAgain_24 lkX11_undo ml_X11_298 imX11_undo seX11_undo rfl rfl (hG.m0 (by decide)) rfl (Nat.le_of_ble_eq_true rfl) rfl (c_Mundo0 hG (am_up (am_up (am_up (am_up (am_up (am_up (am_up (am_up (am_up (am_up I 0 91 i (nI 1)) 0 60 51 (nI i)) 0 60 52 (-1 : Int32)) 0 60 53 (nI 0)) 0 60 54 (nI 0)) 0 60 55 (nI 0)) 0 60 56 (nI 0)) 0 60 61 (nI 0)) 0 60 52 (nI a)) 0 60 53 (nI 1)) (by simp [am_up, am_upf, upd, hkd, ha, hp, hl0, hls, htr])) ?_
  refine am_aload_n dX11_isTriedAgain_27 rfl ?_
  refine am_get (v := .inr (0, 92)) dX11_isTriedAgain_28 fl_11_96 (hG.m0 (by decide)) rfl ?_
  refine am_iload_n dX11_isTriedAgain_31 rfl ?_
  refine am_aload_n dX11_isTriedAgain_32 rfl ?_
  refine am_get (v := .inr (0, 81)) dX11_isTriedAgain_33 fl_11_63 (hG.m0 (by decide)) rfl ?_
  refine am_iload_n dX11_isTriedAgain_36 rfl ?_
  refine am_aload_n dX11_isTriedAgain_37 rfl ?_
  refine am_get (v := .inl ((am_up (am_up (am_up (am_up (am_up (am_up (am_up (am_up (am_up (am_up (am_up (am_up I 0 91 i (nI 1)) 0 60 51 (nI i)) 0 60 52 (-1 : Int32)) 0 60 53 (nI 0)) 0 60 54 (nI 0)) 0 60 55 (nI 0)) 0 60 56 (nI 0)) 0 60 61 (nI 0)) 0 60 52 (nI a)) 0 60 53 (nI 1)) 0 60 56 (nI 0)) 0 60 61 (nI 0)) 0 60 52)) dX11_isTriedAgain_38 fl_11_295 (hG.m0 (by decide)) rfl ?_
  refine am_top (show (am_up (am_up (am_up (am_up (am_up (am_up (am_up (am_up (am_up (am_up (am_up (am_up I 0 91 i (nI 1)) 0 60 51 (nI i)) 0 60 52 (-1 : Int32)) 0 60 53 (nI 0)) 0 60 54 (nI 0)) 0 60 55 (nI 0)) 0 60 56 (nI 0)) 0 60 61 (nI 0)) 0 60 52 (nI a)) 0 60 53 (nI 1)) 0 60 56 (nI 0)) 0 60 61 (nI 0)) 0 60 52 = nI a from (by simp [am_up, am_upf, upd, hkd, ha, hp, hl0, hls, htr])) ?_
  refine am_callSx (as := [.inl (nI i), .inl (nI a)]) (rest := [.inr (0, 81), .inl (nI i), .inr (0, 92)]) dX11_isTriedAgain_41 lkX11_at ml_X11_208 isX11_at rfl (Nat.le_of_ble_eq_true rfl) rfl (c_Mat hG.nd (g := i) (r := a) (by omega) (by omega) (am_up (am_up (am_up (am_up (am_up (am_up (am_up (am_up (am_up (am_up (am_up (am_up I 0 91 i (nI 1)) 0 60 51 (nI i)) 0 60 52 (-1 : Int32)) 0 60 53 (nI 0)) 0 60 54 (nI 0)) 0 60 55 (nI 0)) 0 60 56 (nI 0)) 0 60 61 (nI 0)) 0 60 52 (nI a)) 0 60 53 (nI 1)) 0 60 56 (nI 0)) 0 60 61 (nI 0))) ?_
  refine am_iald (a := 136 * i + a) dX11_isTriedAgain_44 (hG.m0 (by decide)) rfl rfl (show 136 * i + a < 544 from (by omega)) (show 544 < 2 ^ 31 by decide) ?_
  refine am_top (show (am_up (am_up (am_up (am_up (am_up (am_up (am_up (am_up (am_up (am_up (am_up (am_up I 0 91 i (nI 1)) 0 60 51 (nI i)) 0 60 52 (-1 : Int32)) 0 60 53 (nI 0)) 0 60 54 (nI 0)) 0 60 55 (nI 0)) 0 60 56 (nI 0)) 0 60 61 (nI 0)) 0 60 52 (nI a)) 0 60 53 (nI 1)) 0 60 56 (nI 0)) 0 60 61 (nI 0)) 0 81 (136 * i + a) = nI 0 from (by simp [am_up, am_upf, upd, hkd, ha, hp, hl0, hls, htr])) ?_
  refine am_if_ne (tgt := 59) dX11_isTriedAgain_45 (by decide) (fun h => absurd h (by decide)) (fun _ => ?_)
  refine am_aload_n dX11_isTriedAgain_48 rfl ?_
  refine am_get (v := .inr (0, 92)) dX11_isTriedAgain_49 fl_11_96 (hG.m0 (by decide)) rfl ?_
  refine am_iload_n dX11_isTriedAgain_52 rfl ?_
  refine am_iald (a := i) dX11_isTriedAgain_53 (hG.m0 (by decide)) rfl rfl (show i < 4 from (by omega)) (show 4 < 2 ^ 31 by decide) ?_
  refine am_top (show (am_up (am_up (am_up (am_up (am_up (am_up (am_up (am_up (am_up (am_up (am_up (am_up I 0 91 i (nI 1)) 0 60 51 (nI i)) 0 60 52 (-1 : Int32)) 0 60 53 (nI 0)) 0 60 54 (nI 0)) 0 60 55 (nI 0)) 0 60 56 (nI 0)) 0 60 61 (nI 0)) 0 60 52 (nI a)) 0 60 53 (nI 1)) 0 60 56 (nI 0)) 0 60 61 (nI 0)) 0 92 i = nI 0 from (by simp [am_up, am_upf, upd, hkd, ha, hp, hl0, hls, htr])) ?_
  refine am_iconst (v := nI 1) dX11_isTriedAgain_54 (by decide) ?_
  refine am_iadd dX11_isTriedAgain_55 ?_
  refine am_top (show (nI 0) + (nI 1) = nI 1 by decide) ?_
  refine am_goto (tgt := 65) dX11_isTriedAgain_56 (by decide) ?_
  refine am_iast (a := i) dX11_isTriedAgain_65 (hG.m0 (by decide)) rfl rfl (show i < 4 from (by omega)) (show 4 < 2 ^ 31 by decide) ?_
  refine am_aload_n dX11_isTriedAgain_66 rfl ?_
  refine am_get (v := .inr (0, 81)) dX11_isTriedAgain_67 fl_11_63 (hG.m0 (by decide)) rfl ?_
  refine am_iload_n dX11_isTriedAgain_70 rfl ?_
  refine am_aload_n dX11_isTriedAgain_71 rfl ?_
  refine am_get (v := .inl ((am_up (am_up (am_up (am_up (am_up (am_up (am_up (am_up (am_up (am_up (am_up (am_up (am_up I 0 91 i (nI 1)) 0 60 51 (nI i)) 0 60 52 (-1 : Int32)) 0 60 53 (nI 0)) 0 60 54 (nI 0)) 0 60 55 (nI 0)) 0 60 56 (nI 0)) 0 60 61 (nI 0)) 0 60 52 (nI a)) 0 60 53 (nI 1)) 0 60 56 (nI 0)) 0 60 61 (nI 0)) 0 92 i (nI 1)) 0 60 52)) dX11_isTriedAgain_72 fl_11_295 (hG.m0 (by decide)) rfl ?_
  refine am_top (show (am_up (am_up (am_up (am_up (am_up (am_up (am_up (am_up (am_up (am_up (am_up (am_up (am_up I 0 91 i (nI 1)) 0 60 51 (nI i)) 0 60 52 (-1 : Int32)) 0 60 53 (nI 0)) 0 60 54 (nI 0)) 0 60 55 (nI 0)) 0 60 56 (nI 0)) 0 60 61 (nI 0)) 0 60 52 (nI a)) 0 60 53 (nI 1)) 0 60 56 (nI 0)) 0 60 61 (nI 0)) 0 92 i (nI 1)) 0 60 52 = nI a from (by simp [am_up, am_upf, upd, hkd, ha, hp, hl0, hls, htr])) ?_
  refine am_callSx (as := [.inl (nI i), .inl (nI a)]) (rest := [.inr (0, 81)]) dX11_isTriedAgain_75 lkX11_at ml_X11_208 isX11_at rfl (Nat.le_of_ble_eq_true rfl) rfl (c_Mat hG.nd (g := i) (r := a) (by omega) (by omega) (am_up (am_up (am_up (am_up (am_up (am_up (am_up (am_up (am_up (am_up (am_up (am_up (am_up I 0 91 i (nI 1)) 0 60 51 (nI i)) 0 60 52 (-1 : Int32)) 0 60 53 (nI 0)) 0 60 54 (nI 0)) 0 60 55 (nI 0)) 0 60 56 (nI 0)) 0 60 61 (nI 0)) 0 60 52 (nI a)) 0 60 53 (nI 1)) 0 60 56 (nI 0)) 0 60 61 (nI 0)) 0 92 i (nI 1))) ?_
  refine am_aload_n dX11_isTriedAgain_78 rfl ?_
  refine am_get (v := .inl ((am_up (am_up (am_up (am_up (am_up (am_up (am_up (am_up (am_up (am_up (am_up (am_up (am_up I 0 91 i (nI 1)) 0 60 51 (nI i)) 0 60 52 (-1 : Int32)) 0 60 53 (nI 0)) 0 60 54 (nI 0)) 0 60 55 (nI 0)) 0 60 56 (nI 0)) 0 60 61 (nI 0)) 0 60 52 (nI a)) 0 60 53 (nI 1)) 0 60 56 (nI 0)) 0 60 61 (nI 0)) 0 92 i (nI 1)) 0 60 53)) dX11_isTriedAgain_79 fl_11_301 (hG.m0 (by decide)) rfl ?_
  refine am_top (show (am_up (am_up (am_up (am_up (am_up (am_up (am_up (am_up (am_up (am_up (am_up (am_up (am_up I 0 91 i (nI 1)) 0 60 51 (nI i)) 0 60 52 (-1 : Int32)) 0 60 53 (nI 0)) 0 60 54 (nI 0)) 0 60 55 (nI 0)) 0 60 56 (nI 0)) 0 60 61 (nI 0)) 0 60 52 (nI a)) 0 60 53 (nI 1)) 0 60 56 (nI 0)) 0 60 61 (nI 0)) 0 92 i (nI 1)) 0 60 53 = nI 1 from (by simp [am_up, am_upf, upd, hkd, ha, hp, hl0, hls, htr])) ?_
  refine am_iast (a := 136 * i + a) dX11_isTriedAgain_82 (hG.m0 (by decide)) rfl rfl (show 136 * i + a < 544 from (by omega)) (show 544 < 2 ^ 31 by decide) ?_
  refine am_aload_n dX11_isTriedAgain_83 rfl ?_
  refine am_iload_n dX11_isTriedAgain_84 rfl ?_
  refine am_callVe (i := 0) (j := 60) (as := [.inl (nI i)]) (rest := []) dX11_isTriedAgain_85 lkX11_unpin ml_X11_271 imX11_unpin seX11_unpin rfl rfl (hG.m0 (by decide)) rfl (Nat.le_of_ble_eq_true rfl) rfl (c_Munpin0 hG hi (fun k hk => by simp [am_up, am_upf, hpz k hk])) ?_
  refine am_iconst (v := nI 1) dX11_isTriedAgain_88 (by decide) ?_
  refine am_iret dX11_isTriedAgain_89 rfl (am_nz (by decide)).1 ?_
  exact ⟨rfl, rfl⟩
theorem c_MtriedAgain6 {G : am_G} (hG : am_okM G) {d : Nat} {i a : Nat} (hi : i < G.2.2.2.1) (hab : a < 128) (I : am_I) (hpz : ∀ k, k < 544 → I 0 79 k = nI 0)  (hkd : I 0 82 i = nI 6) (ha : I 0 83 i = nI a) (hp : I 0 79 (136 * i + a) = nI 0) (hl0 : I 0 81 (136 * i + a) = nI 0) (hls : I 0 92 i = nI 0) (htr : I 0 91 i = nI 0) : am_C G (d + 5) mX11_isTriedAgain [.inr (0, 60), .inl (nI i)] I (am_E (some (nI 1)) (am_up (am_up (am_up (am_up (am_up (am_up (am_up (am_up (am_up (am_up (am_up (am_up (am_up (am_up I 0 91 i (nI 1)) 0 60 51 (nI i)) 0 60 52 (-1 : Int32)) 0 60 53 (nI 0)) 0 60 54 (nI 0)) 0 60 55 (nI 0)) 0 60 56 (nI 0)) 0 60 61 (nI 0)) 0 60 52 (nI a)) 0 60 53 (nI 2)) 0 60 56 (nI 0)) 0 60 61 (nI 0)) 0 92 i (nI 1)) 0 81 (136 * i + a) (nI 2))) := by
  have hn4 := hG.hi
  have hn2 := hG.lo
  refine am_of (by decide +kernel) hG.nd (Nat.le_of_ble_eq_true rfl) ?_
  refine am_aload_n dX11_isTriedAgain_0 rfl ?_
  refine am_get (v := .inr (0, 91)) dX11_isTriedAgain_1 fl_11_93 (hG.m0 (by decide)) rfl ?_
  refine am_iload_n dX11_isTriedAgain_4 rfl ?_
  refine am_dup2 dX11_isTriedAgain_5 ?_
  refine am_iald (a := i) dX11_isTriedAgain_6 (hG.m0 (by decide)) rfl rfl (show i < 4 from (by omega)) (show 4 < 2 ^ 31 by decide) ?_
  refine am_top (show I 0 91 i = nI 0 from (by simp [am_up, am_upf, upd, hkd, ha, hp, hl0, hls, htr])) ?_
  refine am_iconst (v := nI 1) dX11_isTriedAgain_7 (by decide) ?_
  refine am_iadd dX11_isTriedAgain_8 ?_
  refine am_top (show (nI 0) + (nI 1) = nI 1 by decide) ?_
  refine am_iast (a := i) dX11_isTriedAgain_9 (hG.m0 (by decide)) rfl rfl (show i < 4 from (by omega)) (show 4 < 2 ^ 31 by decide) ?_
  refine am_aload_n dX11_isTriedAgain_10 rfl ?_
  refine am_iload_n dX11_isTriedAgain_11 rfl ?_
  refine am_callVe (i := 0) (j := 60) (as := [.inl (nI i)]) (rest := []) dX11_isTriedAgain_12 lkX11_attempt ml_X11_292 imX11_attempt seX11_attempt rfl rfl (hG.m0 (by decide)) rfl (Nat.le_of_ble_eq_true rfl) rfl (c_Mattempt6 (a := a) hG hi (by omega) (am_up I 0 91 i (nI 1)) (by simp [am_up, am_upf, upd, hkd, ha, hp, hl0, hls, htr]) (by simp [am_up, am_upf, upd, hkd, ha, hp, hl0, hls, htr]) (by simp [am_up, am_upf, upd, hkd, ha, hp, hl0, hls, htr])) ?_
  refine am_aload_n dX11_isTriedAgain_15 rfl ?_
  refine am_get (v := .inl ((am_up (am_up (am_up (am_up (am_up (am_up (am_up (am_up (am_up (am_up I 0 91 i (nI 1)) 0 60 51 (nI i)) 0 60 52 (-1 : Int32)) 0 60 53 (nI 0)) 0 60 54 (nI 0)) 0 60 55 (nI 0)) 0 60 56 (nI 0)) 0 60 61 (nI 0)) 0 60 52 (nI a)) 0 60 53 (nI 2)) 0 60 52)) dX11_isTriedAgain_16 fl_11_295 (hG.m0 (by decide)) rfl ?_
  refine am_top (show (am_up (am_up (am_up (am_up (am_up (am_up (am_up (am_up (am_up (am_up I 0 91 i (nI 1)) 0 60 51 (nI i)) 0 60 52 (-1 : Int32)) 0 60 53 (nI 0)) 0 60 54 (nI 0)) 0 60 55 (nI 0)) 0 60 56 (nI 0)) 0 60 61 (nI 0)) 0 60 52 (nI a)) 0 60 53 (nI 2)) 0 60 52 = nI a from (by simp [am_up, am_upf, upd, hkd, ha, hp, hl0, hls, htr])) ?_
  refine am_iconst (v := (-1 : Int32)) dX11_isTriedAgain_19 (by decide) ?_
  refine am_icmp_eq (tgt := 90) dX11_isTriedAgain_20 (by decide) (fun h => absurd h (am_nn1 (by omega))) (fun _ => ?_)
  refine am_aload_n dX11_isTriedAgain_23 rfl ?_
  refine am_callVe (i := 0) (j := 60) (as := []) (rest := []) dX11_isTriedAgain_24 lkX11_undo ml_X11_298 imX11_undo seX11_undo rfl rfl (hG.m0 (by decide)) rfl (Nat.le_of_ble_eq_true rfl) rfl (c_Mundo0 hG (am_up (am_up (am_up (am_up (am_up (am_up (am_up (am_up (am_up (am_up I 0 91 i (nI 1)) 0 60 51 (nI i)) 0 60 52 (-1 : Int32)) 0 60 53 (nI 0)) 0 60 54 (nI 0)) 0 60 55 (nI 0)) 0 60 56 (nI 0)) 0 60 61 (nI 0)) 0 60 52 (nI a)) 0 60 53 (nI 2)) (by simp [am_up, am_upf, upd, hkd, ha, hp, hl0, hls, htr])) ?_
  refine am_aload_n dX11_isTriedAgain_27 rfl ?_
  refine am_get (v := .inr (0, 92)) dX11_isTriedAgain_28 fl_11_96 (hG.m0 (by decide)) rfl ?_
  refine am_iload_n dX11_isTriedAgain_31 rfl ?_
  refine am_aload_n dX11_isTriedAgain_32 rfl ?_
  refine am_get (v := .inr (0, 81)) dX11_isTriedAgain_33 fl_11_63 (hG.m0 (by decide)) rfl ?_
  refine am_iload_n dX11_isTriedAgain_36 rfl ?_
  refine am_aload_n dX11_isTriedAgain_37 rfl ?_
  refine am_get (v := .inl ((am_up (am_up (am_up (am_up (am_up (am_up (am_up (am_up (am_up (am_up (am_up (am_up I 0 91 i (nI 1)) 0 60 51 (nI i)) 0 60 52 (-1 : Int32)) 0 60 53 (nI 0)) 0 60 54 (nI 0)) 0 60 55 (nI 0)) 0 60 56 (nI 0)) 0 60 61 (nI 0)) 0 60 52 (nI a)) 0 60 53 (nI 2)) 0 60 56 (nI 0)) 0 60 61 (nI 0)) 0 60 52)) dX11_isTriedAgain_38 fl_11_295 (hG.m0 (by decide)) rfl ?_
  refine am_top (show (am_up (am_up (am_up (am_up (am_up (am_up (am_up (am_up (am_up (am_up (am_up (am_up I 0 91 i (nI 1)) 0 60 51 (nI i)) 0 60 52 (-1 : Int32)) 0 60 53 (nI 0)) 0 60 54 (nI 0)) 0 60 55 (nI 0)) 0 60 56 (nI 0)) 0 60 61 (nI 0)) 0 60 52 (nI a)) 0 60 53 (nI 2)) 0 60 56 (nI 0)) 0 60 61 (nI 0)) 0 60 52 = nI a from (by simp [am_up, am_upf, upd, hkd, ha, hp, hl0, hls, htr])) ?_
  refine am_callSx (as := [.inl (nI i), .inl (nI a)]) (rest := [.inr (0, 81), .inl (nI i), .inr (0, 92)]) dX11_isTriedAgain_41 lkX11_at ml_X11_208 isX11_at rfl (Nat.le_of_ble_eq_true rfl) rfl (c_Mat hG.nd (g := i) (r := a) (by omega) (by omega) (am_up (am_up (am_up (am_up (am_up (am_up (am_up (am_up (am_up (am_up (am_up (am_up I 0 91 i (nI 1)) 0 60 51 (nI i)) 0 60 52 (-1 : Int32)) 0 60 53 (nI 0)) 0 60 54 (nI 0)) 0 60 55 (nI 0)) 0 60 56 (nI 0)) 0 60 61 (nI 0)) 0 60 52 (nI a)) 0 60 53 (nI 2)) 0 60 56 (nI 0)) 0 60 61 (nI 0))) ?_
  refine am_iald (a := 136 * i + a) dX11_isTriedAgain_44 (hG.m0 (by decide)) rfl rfl (show 136 * i + a < 544 from (by omega)) (show 544 < 2 ^ 31 by decide) ?_
  refine am_top (show (am_up (am_up (am_up (am_up (am_up (am_up (am_up (am_up (am_up (am_up (am_up (am_up I 0 91 i (nI 1)) 0 60 51 (nI i)) 0 60 52 (-1 : Int32)) 0 60 53 (nI 0)) 0 60 54 (nI 0)) 0 60 55 (nI 0)) 0 60 56 (nI 0)) 0 60 61 (nI 0)) 0 60 52 (nI a)) 0 60 53 (nI 2)) 0 60 56 (nI 0)) 0 60 61 (nI 0)) 0 81 (136 * i + a) = nI 0 from (by simp [am_up, am_upf, upd, hkd, ha, hp, hl0, hls, htr])) ?_
  refine am_if_ne (tgt := 59) dX11_isTriedAgain_45 (by decide) (fun h => absurd h (by decide)) (fun _ => ?_)
  refine am_aload_n dX11_isTriedAgain_48 rfl ?_
  refine am_get (v := .inr (0, 92)) dX11_isTriedAgain_49 fl_11_96 (hG.m0 (by decide)) rfl ?_
  refine am_iload_n dX11_isTriedAgain_52 rfl ?_
  refine am_iald (a := i) dX11_isTriedAgain_53 (hG.m0 (by decide)) rfl rfl (show i < 4 from (by omega)) (show 4 < 2 ^ 31 by decide) ?_
  refine am_top (show (am_up (am_up (am_up (am_up (am_up (am_up (am_up (am_up (am_up (am_up (am_up (am_up I 0 91 i (nI 1)) 0 60 51 (nI i)) 0 60 52 (-1 : Int32)) 0 60 53 (nI 0)) 0 60 54 (nI 0)) 0 60 55 (nI 0)) 0 60 56 (nI 0)) 0 60 61 (nI 0)) 0 60 52 (nI a)) 0 60 53 (nI 2)) 0 60 56 (nI 0)) 0 60 61 (nI 0)) 0 92 i = nI 0 from (by simp [am_up, am_upf, upd, hkd, ha, hp, hl0, hls, htr])) ?_
  refine am_iconst (v := nI 1) dX11_isTriedAgain_54 (by decide) ?_
  refine am_iadd dX11_isTriedAgain_55 ?_
  refine am_top (show (nI 0) + (nI 1) = nI 1 by decide) ?_
  refine am_goto (tgt := 65) dX11_isTriedAgain_56 (by decide) ?_
  refine am_iast (a := i) dX11_isTriedAgain_65 (hG.m0 (by decide)) rfl rfl (show i < 4 from (by omega)) (show 4 < 2 ^ 31 by decide) ?_
  refine am_aload_n dX11_isTriedAgain_66 rfl ?_
  refine am_get (v := .inr (0, 81)) dX11_isTriedAgain_67 fl_11_63 (hG.m0 (by decide)) rfl ?_
  refine am_iload_n dX11_isTriedAgain_70 rfl ?_
  refine am_aload_n dX11_isTriedAgain_71 rfl ?_
  refine am_get (v := .inl ((am_up (am_up (am_up (am_up (am_up (am_up (am_up (am_up (am_up (am_up (am_up (am_up (am_up I 0 91 i (nI 1)) 0 60 51 (nI i)) 0 60 52 (-1 : Int32)) 0 60 53 (nI 0)) 0 60 54 (nI 0)) 0 60 55 (nI 0)) 0 60 56 (nI 0)) 0 60 61 (nI 0)) 0 60 52 (nI a)) 0 60 53 (nI 2)) 0 60 56 (nI 0)) 0 60 61 (nI 0)) 0 92 i (nI 1)) 0 60 52)) dX11_isTriedAgain_72 fl_11_295 (hG.m0 (by decide)) rfl ?_
  refine am_top (show (am_up (am_up (am_up (am_up (am_up (am_up (am_up (am_up (am_up (am_up (am_up (am_up (am_up I 0 91 i (nI 1)) 0 60 51 (nI i)) 0 60 52 (-1 : Int32)) 0 60 53 (nI 0)) 0 60 54 (nI 0)) 0 60 55 (nI 0)) 0 60 56 (nI 0)) 0 60 61 (nI 0)) 0 60 52 (nI a)) 0 60 53 (nI 2)) 0 60 56 (nI 0)) 0 60 61 (nI 0)) 0 92 i (nI 1)) 0 60 52 = nI a from (by simp [am_up, am_upf, upd, hkd, ha, hp, hl0, hls, htr])) ?_
  refine am_callSx (as := [.inl (nI i), .inl (nI a)]) (rest := [.inr (0, 81)]) dX11_isTriedAgain_75 lkX11_at ml_X11_208 isX11_at rfl (Nat.le_of_ble_eq_true rfl) rfl (c_Mat hG.nd (g := i) (r := a) (by omega) (by omega) (am_up (am_up (am_up (am_up (am_up (am_up (am_up (am_up (am_up (am_up (am_up (am_up (am_up I 0 91 i (nI 1)) 0 60 51 (nI i)) 0 60 52 (-1 : Int32)) 0 60 53 (nI 0)) 0 60 54 (nI 0)) 0 60 55 (nI 0)) 0 60 56 (nI 0)) 0 60 61 (nI 0)) 0 60 52 (nI a)) 0 60 53 (nI 2)) 0 60 56 (nI 0)) 0 60 61 (nI 0)) 0 92 i (nI 1))) ?_
  refine am_aload_n dX11_isTriedAgain_78 rfl ?_
  refine am_get (v := .inl ((am_up (am_up (am_up (am_up (am_up (am_up (am_up (am_up (am_up (am_up (am_up (am_up (am_up I 0 91 i (nI 1)) 0 60 51 (nI i)) 0 60 52 (-1 : Int32)) 0 60 53 (nI 0)) 0 60 54 (nI 0)) 0 60 55 (nI 0)) 0 60 56 (nI 0)) 0 60 61 (nI 0)) 0 60 52 (nI a)) 0 60 53 (nI 2)) 0 60 56 (nI 0)) 0 60 61 (nI 0)) 0 92 i (nI 1)) 0 60 53)) dX11_isTriedAgain_79 fl_11_301 (hG.m0 (by decide)) rfl ?_
  refine am_top (show (am_up (am_up (am_up (am_up (am_up (am_up (am_up (am_up (am_up (am_up (am_up (am_up (am_up I 0 91 i (nI 1)) 0 60 51 (nI i)) 0 60 52 (-1 : Int32)) 0 60 53 (nI 0)) 0 60 54 (nI 0)) 0 60 55 (nI 0)) 0 60 56 (nI 0)) 0 60 61 (nI 0)) 0 60 52 (nI a)) 0 60 53 (nI 2)) 0 60 56 (nI 0)) 0 60 61 (nI 0)) 0 92 i (nI 1)) 0 60 53 = nI 2 from (by simp [am_up, am_upf, upd, hkd, ha, hp, hl0, hls, htr])) ?_
  refine am_iast (a := 136 * i + a) dX11_isTriedAgain_82 (hG.m0 (by decide)) rfl rfl (show 136 * i + a < 544 from (by omega)) (show 544 < 2 ^ 31 by decide) ?_
  refine am_aload_n dX11_isTriedAgain_83 rfl ?_
  refine am_iload_n dX11_isTriedAgain_84 rfl ?_
  refine am_callVe (i := 0) (j := 60) (as := [.inl (nI i)]) (rest := []) dX11_isTriedAgain_85 lkX11_unpin ml_X11_271 imX11_unpin seX11_unpin rfl rfl (hG.m0 (by decide)) rfl (Nat.le_of_ble_eq_true rfl) rfl (c_Munpin0 hG hi (fun k hk => by simp [am_up, am_upf, hpz k hk])) ?_
  refine am_iconst (v := nI 1) dX11_isTriedAgain_88 (by decide) ?_
  refine am_iret dX11_isTriedAgain_89 rfl (am_nz (by decide)).1 ?_
  exact ⟨rfl, rfl⟩
theorem c_MtriedAgain7 {G : am_G} (hG : am_okM G) {d : Nat} {i a : Nat} (hi : i < G.2.2.2.1) (hab : a < 128) (I : am_I) (hpz : ∀ k, k < 544 → I 0 79 k = nI 0)  (hkd : I 0 82 i = nI 7) (ha : I 0 83 i = nI a) (hp : I 0 79 (136 * i + a) = nI 0) (hl0 : I 0 81 (136 * i + a) = nI 0) (hls : I 0 92 i = nI 0) (htr : I 0 91 i = nI 0) : am_C G (d + 5) mX11_isTriedAgain [.inr (0, 60), .inl (nI i)] I (am_E (some (nI 1)) (am_up (am_up (am_up (am_up (am_up (am_up (am_up (am_up (am_up (am_up (am_up (am_up (am_up (am_up I 0 91 i (nI 1)) 0 60 51 (nI i)) 0 60 52 (-1 : Int32)) 0 60 53 (nI 0)) 0 60 54 (nI 0)) 0 60 55 (nI 0)) 0 60 56 (nI 0)) 0 60 61 (nI 0)) 0 60 52 (nI a)) 0 60 53 (nI 2)) 0 60 56 (nI 0)) 0 60 61 (nI 0)) 0 92 i (nI 1)) 0 81 (136 * i + a) (nI 2))) := by
  have hn4 := hG.hi
  have hn2 := hG.lo
  refine am_of (by decide +kernel) hG.nd (Nat.le_of_ble_eq_true rfl) ?_
  refine am_aload_n dX11_isTriedAgain_0 rfl ?_
  refine am_get (v := .inr (0, 91)) dX11_isTriedAgain_1 fl_11_93 (hG.m0 (by decide)) rfl ?_
  refine am_iload_n dX11_isTriedAgain_4 rfl ?_
  refine am_dup2 dX11_isTriedAgain_5 ?_
  refine am_iald (a := i) dX11_isTriedAgain_6 (hG.m0 (by decide)) rfl rfl (show i < 4 from (by omega)) (show 4 < 2 ^ 31 by decide) ?_
  refine am_top (show I 0 91 i = nI 0 from (by simp [am_up, am_upf, upd, hkd, ha, hp, hl0, hls, htr])) ?_
  refine am_iconst (v := nI 1) dX11_isTriedAgain_7 (by decide) ?_
  refine am_iadd dX11_isTriedAgain_8 ?_
  refine am_top (show (nI 0) + (nI 1) = nI 1 by decide) ?_
  refine am_iast (a := i) dX11_isTriedAgain_9 (hG.m0 (by decide)) rfl rfl (show i < 4 from (by omega)) (show 4 < 2 ^ 31 by decide) ?_
  refine am_aload_n dX11_isTriedAgain_10 rfl ?_
  refine am_iload_n dX11_isTriedAgain_11 rfl ?_
  refine am_callVe (i := 0) (j := 60) (as := [.inl (nI i)]) (rest := []) dX11_isTriedAgain_12 lkX11_attempt ml_X11_292 imX11_attempt seX11_attempt rfl rfl (hG.m0 (by decide)) rfl (Nat.le_of_ble_eq_true rfl) rfl (c_Mattempt7 (a := a) hG hi (by omega) (am_up I 0 91 i (nI 1)) (by simp [am_up, am_upf, upd, hkd, ha, hp, hl0, hls, htr]) (by simp [am_up, am_upf, upd, hkd, ha, hp, hl0, hls, htr]) (by simp [am_up, am_upf, upd, hkd, ha, hp, hl0, hls, htr])) ?_
  refine am_aload_n dX11_isTriedAgain_15 rfl ?_
  refine am_get (v := .inl ((am_up (am_up (am_up (am_up (am_up (am_up (am_up (am_up (am_up (am_up I 0 91 i (nI 1)) 0 60 51 (nI i)) 0 60 52 (-1 : Int32)) 0 60 53 (nI 0)) 0 60 54 (nI 0)) 0 60 55 (nI 0)) 0 60 56 (nI 0)) 0 60 61 (nI 0)) 0 60 52 (nI a)) 0 60 53 (nI 2)) 0 60 52)) dX11_isTriedAgain_16 fl_11_295 (hG.m0 (by decide)) rfl ?_
  refine am_top (show (am_up (am_up (am_up (am_up (am_up (am_up (am_up (am_up (am_up (am_up I 0 91 i (nI 1)) 0 60 51 (nI i)) 0 60 52 (-1 : Int32)) 0 60 53 (nI 0)) 0 60 54 (nI 0)) 0 60 55 (nI 0)) 0 60 56 (nI 0)) 0 60 61 (nI 0)) 0 60 52 (nI a)) 0 60 53 (nI 2)) 0 60 52 = nI a from (by simp [am_up, am_upf, upd, hkd, ha, hp, hl0, hls, htr])) ?_
  refine am_iconst (v := (-1 : Int32)) dX11_isTriedAgain_19 (by decide) ?_
  refine am_icmp_eq (tgt := 90) dX11_isTriedAgain_20 (by decide) (fun h => absurd h (am_nn1 (by omega))) (fun _ => ?_)
  refine am_aload_n dX11_isTriedAgain_23 rfl ?_
  refine am_callVe (i := 0) (j := 60) (as := []) (rest := []) dX11_isTriedAgain_24 lkX11_undo ml_X11_298 imX11_undo seX11_undo rfl rfl (hG.m0 (by decide)) rfl (Nat.le_of_ble_eq_true rfl) rfl (c_Mundo0 hG (am_up (am_up (am_up (am_up (am_up (am_up (am_up (am_up (am_up (am_up I 0 91 i (nI 1)) 0 60 51 (nI i)) 0 60 52 (-1 : Int32)) 0 60 53 (nI 0)) 0 60 54 (nI 0)) 0 60 55 (nI 0)) 0 60 56 (nI 0)) 0 60 61 (nI 0)) 0 60 52 (nI a)) 0 60 53 (nI 2)) (by simp [am_up, am_upf, upd, hkd, ha, hp, hl0, hls, htr])) ?_
  refine am_aload_n dX11_isTriedAgain_27 rfl ?_
  refine am_get (v := .inr (0, 92)) dX11_isTriedAgain_28 fl_11_96 (hG.m0 (by decide)) rfl ?_
  refine am_iload_n dX11_isTriedAgain_31 rfl ?_
  refine am_aload_n dX11_isTriedAgain_32 rfl ?_
  refine am_get (v := .inr (0, 81)) dX11_isTriedAgain_33 fl_11_63 (hG.m0 (by decide)) rfl ?_
  refine am_iload_n dX11_isTriedAgain_36 rfl ?_
  refine am_aload_n dX11_isTriedAgain_37 rfl ?_
  refine am_get (v := .inl ((am_up (am_up (am_up (am_up (am_up (am_up (am_up (am_up (am_up (am_up (am_up (am_up I 0 91 i (nI 1)) 0 60 51 (nI i)) 0 60 52 (-1 : Int32)) 0 60 53 (nI 0)) 0 60 54 (nI 0)) 0 60 55 (nI 0)) 0 60 56 (nI 0)) 0 60 61 (nI 0)) 0 60 52 (nI a)) 0 60 53 (nI 2)) 0 60 56 (nI 0)) 0 60 61 (nI 0)) 0 60 52)) dX11_isTriedAgain_38 fl_11_295 (hG.m0 (by decide)) rfl ?_
  refine am_top (show (am_up (am_up (am_up (am_up (am_up (am_up (am_up (am_up (am_up (am_up (am_up (am_up I 0 91 i (nI 1)) 0 60 51 (nI i)) 0 60 52 (-1 : Int32)) 0 60 53 (nI 0)) 0 60 54 (nI 0)) 0 60 55 (nI 0)) 0 60 56 (nI 0)) 0 60 61 (nI 0)) 0 60 52 (nI a)) 0 60 53 (nI 2)) 0 60 56 (nI 0)) 0 60 61 (nI 0)) 0 60 52 = nI a from (by simp [am_up, am_upf, upd, hkd, ha, hp, hl0, hls, htr])) ?_
  refine am_callSx (as := [.inl (nI i), .inl (nI a)]) (rest := [.inr (0, 81), .inl (nI i), .inr (0, 92)]) dX11_isTriedAgain_41 lkX11_at ml_X11_208 isX11_at rfl (Nat.le_of_ble_eq_true rfl) rfl (c_Mat hG.nd (g := i) (r := a) (by omega) (by omega) (am_up (am_up (am_up (am_up (am_up (am_up (am_up (am_up (am_up (am_up (am_up (am_up I 0 91 i (nI 1)) 0 60 51 (nI i)) 0 60 52 (-1 : Int32)) 0 60 53 (nI 0)) 0 60 54 (nI 0)) 0 60 55 (nI 0)) 0 60 56 (nI 0)) 0 60 61 (nI 0)) 0 60 52 (nI a)) 0 60 53 (nI 2)) 0 60 56 (nI 0)) 0 60 61 (nI 0))) ?_
  refine am_iald (a := 136 * i + a) dX11_isTriedAgain_44 (hG.m0 (by decide)) rfl rfl (show 136 * i + a < 544 from (by omega)) (show 544 < 2 ^ 31 by decide) ?_
  refine am_top (show (am_up (am_up (am_up (am_up (am_up (am_up (am_up (am_up (am_up (am_up (am_up (am_up I 0 91 i (nI 1)) 0 60 51 (nI i)) 0 60 52 (-1 : Int32)) 0 60 53 (nI 0)) 0 60 54 (nI 0)) 0 60 55 (nI 0)) 0 60 56 (nI 0)) 0 60 61 (nI 0)) 0 60 52 (nI a)) 0 60 53 (nI 2)) 0 60 56 (nI 0)) 0 60 61 (nI 0)) 0 81 (136 * i + a) = nI 0 from (by simp [am_up, am_upf, upd, hkd, ha, hp, hl0, hls, htr])) ?_
  refine am_if_ne (tgt := 59) dX11_isTriedAgain_45 (by decide) (fun h => absurd h (by decide)) (fun _ => ?_)
  refine am_aload_n dX11_isTriedAgain_48 rfl ?_
  refine am_get (v := .inr (0, 92)) dX11_isTriedAgain_49 fl_11_96 (hG.m0 (by decide)) rfl ?_
  refine am_iload_n dX11_isTriedAgain_52 rfl ?_
  refine am_iald (a := i) dX11_isTriedAgain_53 (hG.m0 (by decide)) rfl rfl (show i < 4 from (by omega)) (show 4 < 2 ^ 31 by decide) ?_
  refine am_top (show (am_up (am_up (am_up (am_up (am_up (am_up (am_up (am_up (am_up (am_up (am_up (am_up I 0 91 i (nI 1)) 0 60 51 (nI i)) 0 60 52 (-1 : Int32)) 0 60 53 (nI 0)) 0 60 54 (nI 0)) 0 60 55 (nI 0)) 0 60 56 (nI 0)) 0 60 61 (nI 0)) 0 60 52 (nI a)) 0 60 53 (nI 2)) 0 60 56 (nI 0)) 0 60 61 (nI 0)) 0 92 i = nI 0 from (by simp [am_up, am_upf, upd, hkd, ha, hp, hl0, hls, htr])) ?_
  refine am_iconst (v := nI 1) dX11_isTriedAgain_54 (by decide) ?_
  refine am_iadd dX11_isTriedAgain_55 ?_
  refine am_top (show (nI 0) + (nI 1) = nI 1 by decide) ?_
  refine am_goto (tgt := 65) dX11_isTriedAgain_56 (by decide) ?_
  refine am_iast (a := i) dX11_isTriedAgain_65 (hG.m0 (by decide)) rfl rfl (show i < 4 from (by omega)) (show 4 < 2 ^ 31 by decide) ?_
  refine am_aload_n dX11_isTriedAgain_66 rfl ?_
  refine am_get (v := .inr (0, 81)) dX11_isTriedAgain_67 fl_11_63 (hG.m0 (by decide)) rfl ?_
  refine am_iload_n dX11_isTriedAgain_70 rfl ?_
  refine am_aload_n dX11_isTriedAgain_71 rfl ?_
  refine am_get (v := .inl ((am_up (am_up (am_up (am_up (am_up (am_up (am_up (am_up (am_up (am_up (am_up (am_up (am_up I 0 91 i (nI 1)) 0 60 51 (nI i)) 0 60 52 (-1 : Int32)) 0 60 53 (nI 0)) 0 60 54 (nI 0)) 0 60 55 (nI 0)) 0 60 56 (nI 0)) 0 60 61 (nI 0)) 0 60 52 (nI a)) 0 60 53 (nI 2)) 0 60 56 (nI 0)) 0 60 61 (nI 0)) 0 92 i (nI 1)) 0 60 52)) dX11_isTriedAgain_72 fl_11_295 (hG.m0 (by decide)) rfl ?_
  refine am_top (show (am_up (am_up (am_up (am_up (am_up (am_up (am_up (am_up (am_up (am_up (am_up (am_up (am_up I 0 91 i (nI 1)) 0 60 51 (nI i)) 0 60 52 (-1 : Int32)) 0 60 53 (nI 0)) 0 60 54 (nI 0)) 0 60 55 (nI 0)) 0 60 56 (nI 0)) 0 60 61 (nI 0)) 0 60 52 (nI a)) 0 60 53 (nI 2)) 0 60 56 (nI 0)) 0 60 61 (nI 0)) 0 92 i (nI 1)) 0 60 52 = nI a from (by simp [am_up, am_upf, upd, hkd, ha, hp, hl0, hls, htr])) ?_
  refine am_callSx (as := [.inl (nI i), .inl (nI a)]) (rest := [.inr (0, 81)]) dX11_isTriedAgain_75 lkX11_at ml_X11_208 isX11_at rfl (Nat.le_of_ble_eq_true rfl) rfl (c_Mat hG.nd (g := i) (r := a) (by omega) (by omega) (am_up (am_up (am_up (am_up (am_up (am_up (am_up (am_up (am_up (am_up (am_up (am_up (am_up I 0 91 i (nI 1)) 0 60 51 (nI i)) 0 60 52 (-1 : Int32)) 0 60 53 (nI 0)) 0 60 54 (nI 0)) 0 60 55 (nI 0)) 0 60 56 (nI 0)) 0 60 61 (nI 0)) 0 60 52 (nI a)) 0 60 53 (nI 2)) 0 60 56 (nI 0)) 0 60 61 (nI 0)) 0 92 i (nI 1))) ?_
  refine am_aload_n dX11_isTriedAgain_78 rfl ?_
  refine am_get (v := .inl ((am_up (am_up (am_up (am_up (am_up (am_up (am_up (am_up (am_up (am_up (am_up (am_up (am_up I 0 91 i (nI 1)) 0 60 51 (nI i)) 0 60 52 (-1 : Int32)) 0 60 53 (nI 0)) 0 60 54 (nI 0)) 0 60 55 (nI 0)) 0 60 56 (nI 0)) 0 60 61 (nI 0)) 0 60 52 (nI a)) 0 60 53 (nI 2)) 0 60 56 (nI 0)) 0 60 61 (nI 0)) 0 92 i (nI 1)) 0 60 53)) dX11_isTriedAgain_79 fl_11_301 (hG.m0 (by decide)) rfl ?_
  refine am_top (show (am_up (am_up (am_up (am_up (am_up (am_up (am_up (am_up (am_up (am_up (am_up (am_up (am_up I 0 91 i (nI 1)) 0 60 51 (nI i)) 0 60 52 (-1 : Int32)) 0 60 53 (nI 0)) 0 60 54 (nI 0)) 0 60 55 (nI 0)) 0 60 56 (nI 0)) 0 60 61 (nI 0)) 0 60 52 (nI a)) 0 60 53 (nI 2)) 0 60 56 (nI 0)) 0 60 61 (nI 0)) 0 92 i (nI 1)) 0 60 53 = nI 2 from (by simp [am_up, am_upf, upd, hkd, ha, hp, hl0, hls, htr])) ?_
  refine am_iast (a := 136 * i + a) dX11_isTriedAgain_82 (hG.m0 (by decide)) rfl rfl (show 136 * i + a < 544 from (by omega)) (show 544 < 2 ^ 31 by decide) ?_
  refine am_aload_n dX11_isTriedAgain_83 rfl ?_
  refine am_iload_n dX11_isTriedAgain_84 rfl ?_
  refine am_callVe (i := 0) (j := 60) (as := [.inl (nI i)]) (rest := []) dX11_isTriedAgain_85 lkX11_unpin ml_X11_271 imX11_unpin seX11_unpin rfl rfl (hG.m0 (by decide)) rfl (Nat.le_of_ble_eq_true rfl) rfl (c_Munpin0 hG hi (fun k hk => by simp [am_up, am_upf, hpz k hk])) ?_
  refine am_iconst (v := nI 1) dX11_isTriedAgain_88 (by decide) ?_
  refine am_iret dX11_isTriedAgain_89 rfl (am_nz (by decide)).1 ?_
  exact ⟨rfl, rfl⟩
theorem c_MtriedAgain8 {G : am_G} (hG : am_okM G) {d : Nat} {i a : Nat} (hi : i < G.2.2.2.1) (hab : a < 128) (I : am_I) (hpz : ∀ k, k < 544 → I 0 79 k = nI 0)  (hkd : I 0 82 i = nI 8) (ha : I 0 83 i = nI a) (hp : I 0 79 (136 * i + a) = nI 0) (hl0 : I 0 81 (136 * i + a) = nI 0) (hls : I 0 92 i = nI 0) (htr : I 0 91 i = nI 0) : am_C G (d + 5) mX11_isTriedAgain [.inr (0, 60), .inl (nI i)] I (am_E (some (nI 1)) (am_up (am_up (am_up (am_up (am_up (am_up (am_up (am_up (am_up (am_up (am_up (am_up (am_up (am_up I 0 91 i (nI 1)) 0 60 51 (nI i)) 0 60 52 (-1 : Int32)) 0 60 53 (nI 0)) 0 60 54 (nI 0)) 0 60 55 (nI 0)) 0 60 56 (nI 0)) 0 60 61 (nI 0)) 0 60 52 (nI a)) 0 60 53 (nI 1)) 0 60 56 (nI 0)) 0 60 61 (nI 0)) 0 92 i (nI 1)) 0 81 (136 * i + a) (nI 1))) := by
  have hn4 := hG.hi
  have hn2 := hG.lo
  refine am_of (by decide +kernel) hG.nd (Nat.le_of_ble_eq_true rfl) ?_
  refine am_aload_n dX11_isTriedAgain_0 rfl ?_
  refine am_get (v := .inr (0, 91)) dX11_isTriedAgain_1 fl_11_93 (hG.m0 (by decide)) rfl ?_
  refine am_iload_n dX11_isTriedAgain_4 rfl ?_
  refine am_dup2 dX11_isTriedAgain_5 ?_
  refine am_iald (a := i) dX11_isTriedAgain_6 (hG.m0 (by decide)) rfl rfl (show i < 4 from (by omega)) (show 4 < 2 ^ 31 by decide) ?_
  refine am_top (show I 0 91 i = nI 0 from (by simp [am_up, am_upf, upd, hkd, ha, hp, hl0, hls, htr])) ?_
  refine am_iconst (v := nI 1) dX11_isTriedAgain_7 (by decide) ?_
  refine am_iadd dX11_isTriedAgain_8 ?_
  refine am_top (show (nI 0) + (nI 1) = nI 1 by decide) ?_
  refine am_iast (a := i) dX11_isTriedAgain_9 (hG.m0 (by decide)) rfl rfl (show i < 4 from (by omega)) (show 4 < 2 ^ 31 by decide) ?_
  refine am_aload_n dX11_isTriedAgain_10 rfl ?_
  refine am_iload_n dX11_isTriedAgain_11 rfl ?_
  refine am_callVe (i := 0) (j := 60) (as := [.inl (nI i)]) (rest := []) dX11_isTriedAgain_12 lkX11_attempt ml_X11_292 imX11_attempt seX11_attempt rfl rfl (hG.m0 (by decide)) rfl (Nat.le_of_ble_eq_true rfl) rfl (c_Mattempt8 (a := a) hG hi (by omega) (am_up I 0 91 i (nI 1)) (by simp [am_up, am_upf, upd, hkd, ha, hp, hl0, hls, htr]) (by simp [am_up, am_upf, upd, hkd, ha, hp, hl0, hls, htr]) (by simp [am_up, am_upf, upd, hkd, ha, hp, hl0, hls, htr])) ?_
  refine am_aload_n dX11_isTriedAgain_15 rfl ?_
  refine am_get (v := .inl ((am_up (am_up (am_up (am_up (am_up (am_up (am_up (am_up (am_up (am_up I 0 91 i (nI 1)) 0 60 51 (nI i)) 0 60 52 (-1 : Int32)) 0 60 53 (nI 0)) 0 60 54 (nI 0)) 0 60 55 (nI 0)) 0 60 56 (nI 0)) 0 60 61 (nI 0)) 0 60 52 (nI a)) 0 60 53 (nI 1)) 0 60 52)) dX11_isTriedAgain_16 fl_11_295 (hG.m0 (by decide)) rfl ?_
  refine am_top (show (am_up (am_up (am_up (am_up (am_up (am_up (am_up (am_up (am_up (am_up I 0 91 i (nI 1)) 0 60 51 (nI i)) 0 60 52 (-1 : Int32)) 0 60 53 (nI 0)) 0 60 54 (nI 0)) 0 60 55 (nI 0)) 0 60 56 (nI 0)) 0 60 61 (nI 0)) 0 60 52 (nI a)) 0 60 53 (nI 1)) 0 60 52 = nI a from (by simp [am_up, am_upf, upd, hkd, ha, hp, hl0, hls, htr])) ?_
  refine am_iconst (v := (-1 : Int32)) dX11_isTriedAgain_19 (by decide) ?_
  refine am_icmp_eq (tgt := 90) dX11_isTriedAgain_20 (by decide) (fun h => absurd h (am_nn1 (by omega))) (fun _ => ?_)
  refine am_aload_n dX11_isTriedAgain_23 rfl ?_
  refine am_callVe (i := 0) (j := 60) (as := []) (rest := []) dX11_isTriedAgain_24 lkX11_undo ml_X11_298 imX11_undo seX11_undo rfl rfl (hG.m0 (by decide)) rfl (Nat.le_of_ble_eq_true rfl) rfl (c_Mundo0 hG (am_up (am_up (am_up (am_up (am_up (am_up (am_up (am_up (am_up (am_up I 0 91 i (nI 1)) 0 60 51 (nI i)) 0 60 52 (-1 : Int32)) 0 60 53 (nI 0)) 0 60 54 (nI 0)) 0 60 55 (nI 0)) 0 60 56 (nI 0)) 0 60 61 (nI 0)) 0 60 52 (nI a)) 0 60 53 (nI 1)) (by simp [am_up, am_upf, upd, hkd, ha, hp, hl0, hls, htr])) ?_
  refine am_aload_n dX11_isTriedAgain_27 rfl ?_
  refine am_get (v := .inr (0, 92)) dX11_isTriedAgain_28 fl_11_96 (hG.m0 (by decide)) rfl ?_
  refine am_iload_n dX11_isTriedAgain_31 rfl ?_
  refine am_aload_n dX11_isTriedAgain_32 rfl ?_
  refine am_get (v := .inr (0, 81)) dX11_isTriedAgain_33 fl_11_63 (hG.m0 (by decide)) rfl ?_
  refine am_iload_n dX11_isTriedAgain_36 rfl ?_
  refine am_aload_n dX11_isTriedAgain_37 rfl ?_
  refine am_get (v := .inl ((am_up (am_up (am_up (am_up (am_up (am_up (am_up (am_up (am_up (am_up (am_up (am_up I 0 91 i (nI 1)) 0 60 51 (nI i)) 0 60 52 (-1 : Int32)) 0 60 53 (nI 0)) 0 60 54 (nI 0)) 0 60 55 (nI 0)) 0 60 56 (nI 0)) 0 60 61 (nI 0)) 0 60 52 (nI a)) 0 60 53 (nI 1)) 0 60 56 (nI 0)) 0 60 61 (nI 0)) 0 60 52)) dX11_isTriedAgain_38 fl_11_295 (hG.m0 (by decide)) rfl ?_
  refine am_top (show (am_up (am_up (am_up (am_up (am_up (am_up (am_up (am_up (am_up (am_up (am_up (am_up I 0 91 i (nI 1)) 0 60 51 (nI i)) 0 60 52 (-1 : Int32)) 0 60 53 (nI 0)) 0 60 54 (nI 0)) 0 60 55 (nI 0)) 0 60 56 (nI 0)) 0 60 61 (nI 0)) 0 60 52 (nI a)) 0 60 53 (nI 1)) 0 60 56 (nI 0)) 0 60 61 (nI 0)) 0 60 52 = nI a from (by simp [am_up, am_upf, upd, hkd, ha, hp, hl0, hls, htr])) ?_
  refine am_callSx (as := [.inl (nI i), .inl (nI a)]) (rest := [.inr (0, 81), .inl (nI i), .inr (0, 92)]) dX11_isTriedAgain_41 lkX11_at ml_X11_208 isX11_at rfl (Nat.le_of_ble_eq_true rfl) rfl (c_Mat hG.nd (g := i) (r := a) (by omega) (by omega) (am_up (am_up (am_up (am_up (am_up (am_up (am_up (am_up (am_up (am_up (am_up (am_up I 0 91 i (nI 1)) 0 60 51 (nI i)) 0 60 52 (-1 : Int32)) 0 60 53 (nI 0)) 0 60 54 (nI 0)) 0 60 55 (nI 0)) 0 60 56 (nI 0)) 0 60 61 (nI 0)) 0 60 52 (nI a)) 0 60 53 (nI 1)) 0 60 56 (nI 0)) 0 60 61 (nI 0))) ?_
  refine am_iald (a := 136 * i + a) dX11_isTriedAgain_44 (hG.m0 (by decide)) rfl rfl (show 136 * i + a < 544 from (by omega)) (show 544 < 2 ^ 31 by decide) ?_
  refine am_top (show (am_up (am_up (am_up (am_up (am_up (am_up (am_up (am_up (am_up (am_up (am_up (am_up I 0 91 i (nI 1)) 0 60 51 (nI i)) 0 60 52 (-1 : Int32)) 0 60 53 (nI 0)) 0 60 54 (nI 0)) 0 60 55 (nI 0)) 0 60 56 (nI 0)) 0 60 61 (nI 0)) 0 60 52 (nI a)) 0 60 53 (nI 1)) 0 60 56 (nI 0)) 0 60 61 (nI 0)) 0 81 (136 * i + a) = nI 0 from (by simp [am_up, am_upf, upd, hkd, ha, hp, hl0, hls, htr])) ?_
  refine am_if_ne (tgt := 59) dX11_isTriedAgain_45 (by decide) (fun h => absurd h (by decide)) (fun _ => ?_)
  refine am_aload_n dX11_isTriedAgain_48 rfl ?_
  refine am_get (v := .inr (0, 92)) dX11_isTriedAgain_49 fl_11_96 (hG.m0 (by decide)) rfl ?_
  refine am_iload_n dX11_isTriedAgain_52 rfl ?_
  refine am_iald (a := i) dX11_isTriedAgain_53 (hG.m0 (by decide)) rfl rfl (show i < 4 from (by omega)) (show 4 < 2 ^ 31 by decide) ?_
  refine am_top (show (am_up (am_up (am_up (am_up (am_up (am_up (am_up (am_up (am_up (am_up (am_up (am_up I 0 91 i (nI 1)) 0 60 51 (nI i)) 0 60 52 (-1 : Int32)) 0 60 53 (nI 0)) 0 60 54 (nI 0)) 0 60 55 (nI 0)) 0 60 56 (nI 0)) 0 60 61 (nI 0)) 0 60 52 (nI a)) 0 60 53 (nI 1)) 0 60 56 (nI 0)) 0 60 61 (nI 0)) 0 92 i = nI 0 from (by simp [am_up, am_upf, upd, hkd, ha, hp, hl0, hls, htr])) ?_
  refine am_iconst (v := nI 1) dX11_isTriedAgain_54 (by decide) ?_
  refine am_iadd dX11_isTriedAgain_55 ?_
  refine am_top (show (nI 0) + (nI 1) = nI 1 by decide) ?_
  refine am_goto (tgt := 65) dX11_isTriedAgain_56 (by decide) ?_
  refine am_iast (a := i) dX11_isTriedAgain_65 (hG.m0 (by decide)) rfl rfl (show i < 4 from (by omega)) (show 4 < 2 ^ 31 by decide) ?_
  refine am_aload_n dX11_isTriedAgain_66 rfl ?_
  refine am_get (v := .inr (0, 81)) dX11_isTriedAgain_67 fl_11_63 (hG.m0 (by decide)) rfl ?_
  refine am_iload_n dX11_isTriedAgain_70 rfl ?_
  refine am_aload_n dX11_isTriedAgain_71 rfl ?_
  refine am_get (v := .inl ((am_up (am_up (am_up (am_up (am_up (am_up (am_up (am_up (am_up (am_up (am_up (am_up (am_up I 0 91 i (nI 1)) 0 60 51 (nI i)) 0 60 52 (-1 : Int32)) 0 60 53 (nI 0)) 0 60 54 (nI 0)) 0 60 55 (nI 0)) 0 60 56 (nI 0)) 0 60 61 (nI 0)) 0 60 52 (nI a)) 0 60 53 (nI 1)) 0 60 56 (nI 0)) 0 60 61 (nI 0)) 0 92 i (nI 1)) 0 60 52)) dX11_isTriedAgain_72 fl_11_295 (hG.m0 (by decide)) rfl ?_
  refine am_top (show (am_up (am_up (am_up (am_up (am_up (am_up (am_up (am_up (am_up (am_up (am_up (am_up (am_up I 0 91 i (nI 1)) 0 60 51 (nI i)) 0 60 52 (-1 : Int32)) 0 60 53 (nI 0)) 0 60 54 (nI 0)) 0 60 55 (nI 0)) 0 60 56 (nI 0)) 0 60 61 (nI 0)) 0 60 52 (nI a)) 0 60 53 (nI 1)) 0 60 56 (nI 0)) 0 60 61 (nI 0)) 0 92 i (nI 1)) 0 60 52 = nI a from (by simp [am_up, am_upf, upd, hkd, ha, hp, hl0, hls, htr])) ?_
  refine am_callSx (as := [.inl (nI i), .inl (nI a)]) (rest := [.inr (0, 81)]) dX11_isTriedAgain_75 lkX11_at ml_X11_208 isX11_at rfl (Nat.le_of_ble_eq_true rfl) rfl (c_Mat hG.nd (g := i) (r := a) (by omega) (by omega) (am_up (am_up (am_up (am_up (am_up (am_up (am_up (am_up (am_up (am_up (am_up (am_up (am_up I 0 91 i (nI 1)) 0 60 51 (nI i)) 0 60 52 (-1 : Int32)) 0 60 53 (nI 0)) 0 60 54 (nI 0)) 0 60 55 (nI 0)) 0 60 56 (nI 0)) 0 60 61 (nI 0)) 0 60 52 (nI a)) 0 60 53 (nI 1)) 0 60 56 (nI 0)) 0 60 61 (nI 0)) 0 92 i (nI 1))) ?_
  refine am_aload_n dX11_isTriedAgain_78 rfl ?_
  refine am_get (v := .inl ((am_up (am_up (am_up (am_up (am_up (am_up (am_up (am_up (am_up (am_up (am_up (am_up (am_up I 0 91 i (nI 1)) 0 60 51 (nI i)) 0 60 52 (-1 : Int32)) 0 60 53 (nI 0)) 0 60 54 (nI 0)) 0 60 55 (nI 0)) 0 60 56 (nI 0)) 0 60 61 (nI 0)) 0 60 52 (nI a)) 0 60 53 (nI 1)) 0 60 56 (nI 0)) 0 60 61 (nI 0)) 0 92 i (nI 1)) 0 60 53)) dX11_isTriedAgain_79 fl_11_301 (hG.m0 (by decide)) rfl ?_
  refine am_top (show (am_up (am_up (am_up (am_up (am_up (am_up (am_up (am_up (am_up (am_up (am_up (am_up (am_up I 0 91 i (nI 1)) 0 60 51 (nI i)) 0 60 52 (-1 : Int32)) 0 60 53 (nI 0)) 0 60 54 (nI 0)) 0 60 55 (nI 0)) 0 60 56 (nI 0)) 0 60 61 (nI 0)) 0 60 52 (nI a)) 0 60 53 (nI 1)) 0 60 56 (nI 0)) 0 60 61 (nI 0)) 0 92 i (nI 1)) 0 60 53 = nI 1 from (by simp [am_up, am_upf, upd, hkd, ha, hp, hl0, hls, htr])) ?_
  refine am_iast (a := 136 * i + a) dX11_isTriedAgain_82 (hG.m0 (by decide)) rfl rfl (show 136 * i + a < 544 from (by omega)) (show 544 < 2 ^ 31 by decide) ?_
  refine am_aload_n dX11_isTriedAgain_83 rfl ?_
  refine am_iload_n dX11_isTriedAgain_84 rfl ?_
  refine am_callVe (i := 0) (j := 60) (as := [.inl (nI i)]) (rest := []) dX11_isTriedAgain_85 lkX11_unpin ml_X11_271 imX11_unpin seX11_unpin rfl rfl (hG.m0 (by decide)) rfl (Nat.le_of_ble_eq_true rfl) rfl (c_Munpin0 hG hi (fun k hk => by simp [am_up, am_upf, hpz k hk])) ?_
  refine am_iconst (v := nI 1) dX11_isTriedAgain_88 (by decide) ?_
  refine am_iret dX11_isTriedAgain_89 rfl (am_nz (by decide)).1 ?_
  exact ⟨rfl, rfl⟩
theorem c_MtriedAgain9 {G : am_G} (hG : am_okM G) {d : Nat} {i a : Nat} (hi : i < G.2.2.2.1) (hab : a < 128) (I : am_I) (hpz : ∀ k, k < 544 → I 0 79 k = nI 0)  (hkd : I 0 82 i = nI 9) (ha : I 0 83 i = nI a) (hp : I 0 79 (136 * i + a) = nI 0) (hl0 : I 0 81 (136 * i + a) = nI 0) (hls : I 0 92 i = nI 0) (htr : I 0 91 i = nI 0) : am_C G (d + 5) mX11_isTriedAgain [.inr (0, 60), .inl (nI i)] I (am_E (some (nI 1)) (am_up (am_up (am_up (am_up (am_up (am_up (am_up (am_up (am_up (am_up (am_up (am_up (am_up (am_up I 0 91 i (nI 1)) 0 60 51 (nI i)) 0 60 52 (-1 : Int32)) 0 60 53 (nI 0)) 0 60 54 (nI 0)) 0 60 55 (nI 0)) 0 60 56 (nI 0)) 0 60 61 (nI 0)) 0 60 52 (nI a)) 0 60 53 (nI 1)) 0 60 56 (nI 0)) 0 60 61 (nI 0)) 0 92 i (nI 1)) 0 81 (136 * i + a) (nI 1))) := by
  have hn4 := hG.hi
  have hn2 := hG.lo
  refine am_of (by decide +kernel) hG.nd (Nat.le_of_ble_eq_true rfl) ?_
  refine am_aload_n dX11_isTriedAgain_0 rfl ?_
  refine am_get (v := .inr (0, 91)) dX11_isTriedAgain_1 fl_11_93 (hG.m0 (by decide)) rfl ?_
  refine am_iload_n dX11_isTriedAgain_4 rfl ?_
  refine am_dup2 dX11_isTriedAgain_5 ?_
  refine am_iald (a := i) dX11_isTriedAgain_6 (hG.m0 (by decide)) rfl rfl (show i < 4 from (by omega)) (show 4 < 2 ^ 31 by decide) ?_
  refine am_top (show I 0 91 i = nI 0 from (by simp [am_up, am_upf, upd, hkd, ha, hp, hl0, hls, htr])) ?_
  refine am_iconst (v := nI 1) dX11_isTriedAgain_7 (by decide) ?_
  refine am_iadd dX11_isTriedAgain_8 ?_
  refine am_top (show (nI 0) + (nI 1) = nI 1 by decide) ?_
  refine am_iast (a := i) dX11_isTriedAgain_9 (hG.m0 (by decide)) rfl rfl (show i < 4 from (by omega)) (show 4 < 2 ^ 31 by decide) ?_
  refine am_aload_n dX11_isTriedAgain_10 rfl ?_
  refine am_iload_n dX11_isTriedAgain_11 rfl ?_
  refine am_callVe (i := 0) (j := 60) (as := [.inl (nI i)]) (rest := []) dX11_isTriedAgain_12 lkX11_attempt ml_X11_292 imX11_attempt seX11_attempt rfl rfl (hG.m0 (by decide)) rfl (Nat.le_of_ble_eq_true rfl) rfl (c_Mattempt9 (a := a) hG hi (by omega) (am_up I 0 91 i (nI 1)) (by simp [am_up, am_upf, upd, hkd, ha, hp, hl0, hls, htr]) (by simp [am_up, am_upf, upd, hkd, ha, hp, hl0, hls, htr]) (by simp [am_up, am_upf, upd, hkd, ha, hp, hl0, hls, htr])) ?_
  refine am_aload_n dX11_isTriedAgain_15 rfl ?_
  refine am_get (v := .inl ((am_up (am_up (am_up (am_up (am_up (am_up (am_up (am_up (am_up (am_up I 0 91 i (nI 1)) 0 60 51 (nI i)) 0 60 52 (-1 : Int32)) 0 60 53 (nI 0)) 0 60 54 (nI 0)) 0 60 55 (nI 0)) 0 60 56 (nI 0)) 0 60 61 (nI 0)) 0 60 52 (nI a)) 0 60 53 (nI 1)) 0 60 52)) dX11_isTriedAgain_16 fl_11_295 (hG.m0 (by decide)) rfl ?_
  refine am_top (show (am_up (am_up (am_up (am_up (am_up (am_up (am_up (am_up (am_up (am_up I 0 91 i (nI 1)) 0 60 51 (nI i)) 0 60 52 (-1 : Int32)) 0 60 53 (nI 0)) 0 60 54 (nI 0)) 0 60 55 (nI 0)) 0 60 56 (nI 0)) 0 60 61 (nI 0)) 0 60 52 (nI a)) 0 60 53 (nI 1)) 0 60 52 = nI a from (by simp [am_up, am_upf, upd, hkd, ha, hp, hl0, hls, htr])) ?_
  refine am_iconst (v := (-1 : Int32)) dX11_isTriedAgain_19 (by decide) ?_
  refine am_icmp_eq (tgt := 90) dX11_isTriedAgain_20 (by decide) (fun h => absurd h (am_nn1 (by omega))) (fun _ => ?_)
  refine am_aload_n dX11_isTriedAgain_23 rfl ?_
  refine am_callVe (i := 0) (j := 60) (as := []) (rest := []) dX11_isTriedAgain_24 lkX11_undo ml_X11_298 imX11_undo seX11_undo rfl rfl (hG.m0 (by decide)) rfl (Nat.le_of_ble_eq_true rfl) rfl (c_Mundo0 hG (am_up (am_up (am_up (am_up (am_up (am_up (am_up (am_up (am_up (am_up I 0 91 i (nI 1)) 0 60 51 (nI i)) 0 60 52 (-1 : Int32)) 0 60 53 (nI 0)) 0 60 54 (nI 0)) 0 60 55 (nI 0)) 0 60 56 (nI 0)) 0 60 61 (nI 0)) 0 60 52 (nI a)) 0 60 53 (nI 1)) (by simp [am_up, am_upf, upd, hkd, ha, hp, hl0, hls, htr])) ?_
  refine am_aload_n dX11_isTriedAgain_27 rfl ?_
  refine am_get (v := .inr (0, 92)) dX11_isTriedAgain_28 fl_11_96 (hG.m0 (by decide)) rfl ?_
  refine am_iload_n dX11_isTriedAgain_31 rfl ?_
  refine am_aload_n dX11_isTriedAgain_32 rfl ?_
  refine am_get (v := .inr (0, 81)) dX11_isTriedAgain_33 fl_11_63 (hG.m0 (by decide)) rfl ?_
  refine am_iload_n dX11_isTriedAgain_36 rfl ?_
  refine am_aload_n dX11_isTriedAgain_37 rfl ?_
  refine am_get (v := .inl ((am_up (am_up (am_up (am_up (am_up (am_up (am_up (am_up (am_up (am_up (am_up (am_up I 0 91 i (nI 1)) 0 60 51 (nI i)) 0 60 52 (-1 : Int32)) 0 60 53 (nI 0)) 0 60 54 (nI 0)) 0 60 55 (nI 0)) 0 60 56 (nI 0)) 0 60 61 (nI 0)) 0 60 52 (nI a)) 0 60 53 (nI 1)) 0 60 56 (nI 0)) 0 60 61 (nI 0)) 0 60 52)) dX11_isTriedAgain_38 fl_11_295 (hG.m0 (by decide)) rfl ?_
  refine am_top (show (am_up (am_up (am_up (am_up (am_up (am_up (am_up (am_up (am_up (am_up (am_up (am_up I 0 91 i (nI 1)) 0 60 51 (nI i)) 0 60 52 (-1 : Int32)) 0 60 53 (nI 0)) 0 60 54 (nI 0)) 0 60 55 (nI 0)) 0 60 56 (nI 0)) 0 60 61 (nI 0)) 0 60 52 (nI a)) 0 60 53 (nI 1)) 0 60 56 (nI 0)) 0 60 61 (nI 0)) 0 60 52 = nI a from (by simp [am_up, am_upf, upd, hkd, ha, hp, hl0, hls, htr])) ?_
  refine am_callSx (as := [.inl (nI i), .inl (nI a)]) (rest := [.inr (0, 81), .inl (nI i), .inr (0, 92)]) dX11_isTriedAgain_41 lkX11_at ml_X11_208 isX11_at rfl (Nat.le_of_ble_eq_true rfl) rfl (c_Mat hG.nd (g := i) (r := a) (by omega) (by omega) (am_up (am_up (am_up (am_up (am_up (am_up (am_up (am_up (am_up (am_up (am_up (am_up I 0 91 i (nI 1)) 0 60 51 (nI i)) 0 60 52 (-1 : Int32)) 0 60 53 (nI 0)) 0 60 54 (nI 0)) 0 60 55 (nI 0)) 0 60 56 (nI 0)) 0 60 61 (nI 0)) 0 60 52 (nI a)) 0 60 53 (nI 1)) 0 60 56 (nI 0)) 0 60 61 (nI 0))) ?_
  refine am_iald (a := 136 * i + a) dX11_isTriedAgain_44 (hG.m0 (by decide)) rfl rfl (show 136 * i + a < 544 from (by omega)) (show 544 < 2 ^ 31 by decide) ?_
  refine am_top (show (am_up (am_up (am_up (am_up (am_up (am_up (am_up (am_up (am_up (am_up (am_up (am_up I 0 91 i (nI 1)) 0 60 51 (nI i)) 0 60 52 (-1 : Int32)) 0 60 53 (nI 0)) 0 60 54 (nI 0)) 0 60 55 (nI 0)) 0 60 56 (nI 0)) 0 60 61 (nI 0)) 0 60 52 (nI a)) 0 60 53 (nI 1)) 0 60 56 (nI 0)) 0 60 61 (nI 0)) 0 81 (136 * i + a) = nI 0 from (by simp [am_up, am_upf, upd, hkd, ha, hp, hl0, hls, htr])) ?_
  refine am_if_ne (tgt := 59) dX11_isTriedAgain_45 (by decide) (fun h => absurd h (by decide)) (fun _ => ?_)
  refine am_aload_n dX11_isTriedAgain_48 rfl ?_
  refine am_get (v := .inr (0, 92)) dX11_isTriedAgain_49 fl_11_96 (hG.m0 (by decide)) rfl ?_
  refine am_iload_n dX11_isTriedAgain_52 rfl ?_
  refine am_iald (a := i) dX11_isTriedAgain_53 (hG.m0 (by decide)) rfl rfl (show i < 4 from (by omega)) (show 4 < 2 ^ 31 by decide) ?_
  refine am_top (show (am_up (am_up (am_up (am_up (am_up (am_up (am_up (am_up (am_up (am_up (am_up (am_up I 0 91 i (nI 1)) 0 60 51 (nI i)) 0 60 52 (-1 : Int32)) 0 60 53 (nI 0)) 0 60 54 (nI 0)) 0 60 55 (nI 0)) 0 60 56 (nI 0)) 0 60 61 (nI 0)) 0 60 52 (nI a)) 0 60 53 (nI 1)) 0 60 56 (nI 0)) 0 60 61 (nI 0)) 0 92 i = nI 0 from (by simp [am_up, am_upf, upd, hkd, ha, hp, hl0, hls, htr])) ?_
  refine am_iconst (v := nI 1) dX11_isTriedAgain_54 (by decide) ?_
  refine am_iadd dX11_isTriedAgain_55 ?_
  refine am_top (show (nI 0) + (nI 1) = nI 1 by decide) ?_
  refine am_goto (tgt := 65) dX11_isTriedAgain_56 (by decide) ?_
  refine am_iast (a := i) dX11_isTriedAgain_65 (hG.m0 (by decide)) rfl rfl (show i < 4 from (by omega)) (show 4 < 2 ^ 31 by decide) ?_
  refine am_aload_n dX11_isTriedAgain_66 rfl ?_
  refine am_get (v := .inr (0, 81)) dX11_isTriedAgain_67 fl_11_63 (hG.m0 (by decide)) rfl ?_
  refine am_iload_n dX11_isTriedAgain_70 rfl ?_
  refine am_aload_n dX11_isTriedAgain_71 rfl ?_
  refine am_get (v := .inl ((am_up (am_up (am_up (am_up (am_up (am_up (am_up (am_up (am_up (am_up (am_up (am_up (am_up I 0 91 i (nI 1)) 0 60 51 (nI i)) 0 60 52 (-1 : Int32)) 0 60 53 (nI 0)) 0 60 54 (nI 0)) 0 60 55 (nI 0)) 0 60 56 (nI 0)) 0 60 61 (nI 0)) 0 60 52 (nI a)) 0 60 53 (nI 1)) 0 60 56 (nI 0)) 0 60 61 (nI 0)) 0 92 i (nI 1)) 0 60 52)) dX11_isTriedAgain_72 fl_11_295 (hG.m0 (by decide)) rfl ?_
  refine am_top (show (am_up (am_up (am_up (am_up (am_up (am_up (am_up (am_up (am_up (am_up (am_up (am_up (am_up I 0 91 i (nI 1)) 0 60 51 (nI i)) 0 60 52 (-1 : Int32)) 0 60 53 (nI 0)) 0 60 54 (nI 0)) 0 60 55 (nI 0)) 0 60 56 (nI 0)) 0 60 61 (nI 0)) 0 60 52 (nI a)) 0 60 53 (nI 1)) 0 60 56 (nI 0)) 0 60 61 (nI 0)) 0 92 i (nI 1)) 0 60 52 = nI a from (by simp [am_up, am_upf, upd, hkd, ha, hp, hl0, hls, htr])) ?_
  refine am_callSx (as := [.inl (nI i), .inl (nI a)]) (rest := [.inr (0, 81)]) dX11_isTriedAgain_75 lkX11_at ml_X11_208 isX11_at rfl (Nat.le_of_ble_eq_true rfl) rfl (c_Mat hG.nd (g := i) (r := a) (by omega) (by omega) (am_up (am_up (am_up (am_up (am_up (am_up (am_up (am_up (am_up (am_up (am_up (am_up (am_up I 0 91 i (nI 1)) 0 60 51 (nI i)) 0 60 52 (-1 : Int32)) 0 60 53 (nI 0)) 0 60 54 (nI 0)) 0 60 55 (nI 0)) 0 60 56 (nI 0)) 0 60 61 (nI 0)) 0 60 52 (nI a)) 0 60 53 (nI 1)) 0 60 56 (nI 0)) 0 60 61 (nI 0)) 0 92 i (nI 1))) ?_
  refine am_aload_n dX11_isTriedAgain_78 rfl ?_
  refine am_get (v := .inl ((am_up (am_up (am_up (am_up (am_up (am_up (am_up (am_up (am_up (am_up (am_up (am_up (am_up I 0 91 i (nI 1)) 0 60 51 (nI i)) 0 60 52 (-1 : Int32)) 0 60 53 (nI 0)) 0 60 54 (nI 0)) 0 60 55 (nI 0)) 0 60 56 (nI 0)) 0 60 61 (nI 0)) 0 60 52 (nI a)) 0 60 53 (nI 1)) 0 60 56 (nI 0)) 0 60 61 (nI 0)) 0 92 i (nI 1)) 0 60 53)) dX11_isTriedAgain_79 fl_11_301 (hG.m0 (by decide)) rfl ?_
  refine am_top (show (am_up (am_up (am_up (am_up (am_up (am_up (am_up (am_up (am_up (am_up (am_up (am_up (am_up I 0 91 i (nI 1)) 0 60 51 (nI i)) 0 60 52 (-1 : Int32)) 0 60 53 (nI 0)) 0 60 54 (nI 0)) 0 60 55 (nI 0)) 0 60 56 (nI 0)) 0 60 61 (nI 0)) 0 60 52 (nI a)) 0 60 53 (nI 1)) 0 60 56 (nI 0)) 0 60 61 (nI 0)) 0 92 i (nI 1)) 0 60 53 = nI 1 from (by simp [am_up, am_upf, upd, hkd, ha, hp, hl0, hls, htr])) ?_
  refine am_iast (a := 136 * i + a) dX11_isTriedAgain_82 (hG.m0 (by decide)) rfl rfl (show 136 * i + a < 544 from (by omega)) (show 544 < 2 ^ 31 by decide) ?_
  refine am_aload_n dX11_isTriedAgain_83 rfl ?_
  refine am_iload_n dX11_isTriedAgain_84 rfl ?_
  refine am_callVe (i := 0) (j := 60) (as := [.inl (nI i)]) (rest := []) dX11_isTriedAgain_85 lkX11_unpin ml_X11_271 imX11_unpin seX11_unpin rfl rfl (hG.m0 (by decide)) rfl (Nat.le_of_ble_eq_true rfl) rfl (c_Munpin0 hG hi (fun k hk => by simp [am_up, am_upf, hpz k hk])) ?_
  refine am_iconst (v := nI 1) dX11_isTriedAgain_88 (by decide) ?_
  refine am_iret dX11_isTriedAgain_89 rfl (am_nz (by decide)).1 ?_
  exact ⟨rfl, rfl⟩
theorem c_MtriedAgain11 {G : am_G} (hG : am_okM G) {d : Nat} {i a : Nat} (hi : i < G.2.2.2.1) (hab : a < 128) (I : am_I) (hpz : ∀ k, k < 544 → I 0 79 k = nI 0)  (hkd : I 0 82 i = nI 11) (ha : I 0 83 i = nI a) (hp : I 0 79 (136 * i + a) = nI 0) (hl0 : I 0 81 (136 * i + a) = nI 0) (hls : I 0 92 i = nI 0) (htr : I 0 91 i = nI 0) : am_C G (d + 5) mX11_isTriedAgain [.inr (0, 60), .inl (nI i)] I (am_E (some (nI 1)) (am_up (am_up (am_up (am_up (am_up (am_up (am_up (am_up (am_up (am_up (am_up (am_up (am_up (am_up I 0 91 i (nI 1)) 0 60 51 (nI i)) 0 60 52 (-1 : Int32)) 0 60 53 (nI 0)) 0 60 54 (nI 0)) 0 60 55 (nI 0)) 0 60 56 (nI 0)) 0 60 61 (nI 0)) 0 60 52 (nI a)) 0 60 53 (nI 2)) 0 60 56 (nI 0)) 0 60 61 (nI 0)) 0 92 i (nI 1)) 0 81 (136 * i + a) (nI 2))) := by
  have hn4 := hG.hi
  have hn2 := hG.lo
  refine am_of (by decide +kernel) hG.nd (Nat.le_of_ble_eq_true rfl) ?_
  refine am_aload_n dX11_isTriedAgain_0 rfl ?_
  refine am_get (v := .inr (0, 91)) dX11_isTriedAgain_1 fl_11_93 (hG.m0 (by decide)) rfl ?_
  refine am_iload_n dX11_isTriedAgain_4 rfl ?_
  refine am_dup2 dX11_isTriedAgain_5 ?_
  refine am_iald (a := i) dX11_isTriedAgain_6 (hG.m0 (by decide)) rfl rfl (show i < 4 from (by omega)) (show 4 < 2 ^ 31 by decide) ?_
  refine am_top (show I 0 91 i = nI 0 from (by simp [am_up, am_upf, upd, hkd, ha, hp, hl0, hls, htr])) ?_
  refine am_iconst (v := nI 1) dX11_isTriedAgain_7 (by decide) ?_
  refine am_iadd dX11_isTriedAgain_8 ?_
  refine am_top (show (nI 0) + (nI 1) = nI 1 by decide) ?_
  refine am_iast (a := i) dX11_isTriedAgain_9 (hG.m0 (by decide)) rfl rfl (show i < 4 from (by omega)) (show 4 < 2 ^ 31 by decide) ?_
  refine am_aload_n dX11_isTriedAgain_10 rfl ?_
  refine am_iload_n dX11_isTriedAgain_11 rfl ?_
  refine am_callVe (i := 0) (j := 60) (as := [.inl (nI i)]) (rest := []) dX11_isTriedAgain_12 lkX11_attempt ml_X11_292 imX11_attempt seX11_attempt rfl rfl (hG.m0 (by decide)) rfl (Nat.le_of_ble_eq_true rfl) rfl (c_Mattempt11 (a := a) hG hi (by omega) (am_up I 0 91 i (nI 1)) (by simp [am_up, am_upf, upd, hkd, ha, hp, hl0, hls, htr]) (by simp [am_up, am_upf, upd, hkd, ha, hp, hl0, hls, htr]) (by simp [am_up, am_upf, upd, hkd, ha, hp, hl0, hls, htr])) ?_
  refine am_aload_n dX11_isTriedAgain_15 rfl ?_
  refine am_get (v := .inl ((am_up (am_up (am_up (am_up (am_up (am_up (am_up (am_up (am_up (am_up I 0 91 i (nI 1)) 0 60 51 (nI i)) 0 60 52 (-1 : Int32)) 0 60 53 (nI 0)) 0 60 54 (nI 0)) 0 60 55 (nI 0)) 0 60 56 (nI 0)) 0 60 61 (nI 0)) 0 60 52 (nI a)) 0 60 53 (nI 2)) 0 60 52)) dX11_isTriedAgain_16 fl_11_295 (hG.m0 (by decide)) rfl ?_
  refine am_top (show (am_up (am_up (am_up (am_up (am_up (am_up (am_up (am_up (am_up (am_up I 0 91 i (nI 1)) 0 60 51 (nI i)) 0 60 52 (-1 : Int32)) 0 60 53 (nI 0)) 0 60 54 (nI 0)) 0 60 55 (nI 0)) 0 60 56 (nI 0)) 0 60 61 (nI 0)) 0 60 52 (nI a)) 0 60 53 (nI 2)) 0 60 52 = nI a from (by simp [am_up, am_upf, upd, hkd, ha, hp, hl0, hls, htr])) ?_
  refine am_iconst (v := (-1 : Int32)) dX11_isTriedAgain_19 (by decide) ?_
  refine am_icmp_eq (tgt := 90) dX11_isTriedAgain_20 (by decide) (fun h => absurd h (am_nn1 (by omega))) (fun _ => ?_)
  refine am_aload_n dX11_isTriedAgain_23 rfl ?_
  refine am_callVe (i := 0) (j := 60) (as := []) (rest := []) dX11_isTriedAgain_24 lkX11_undo ml_X11_298 imX11_undo seX11_undo rfl rfl (hG.m0 (by decide)) rfl (Nat.le_of_ble_eq_true rfl) rfl (c_Mundo0 hG (am_up (am_up (am_up (am_up (am_up (am_up (am_up (am_up (am_up (am_up I 0 91 i (nI 1)) 0 60 51 (nI i)) 0 60 52 (-1 : Int32)) 0 60 53 (nI 0)) 0 60 54 (nI 0)) 0 60 55 (nI 0)) 0 60 56 (nI 0)) 0 60 61 (nI 0)) 0 60 52 (nI a)) 0 60 53 (nI 2)) (by simp [am_up, am_upf, upd, hkd, ha, hp, hl0, hls, htr])) ?_
  refine am_aload_n dX11_isTriedAgain_27 rfl ?_
  refine am_get (v := .inr (0, 92)) dX11_isTriedAgain_28 fl_11_96 (hG.m0 (by decide)) rfl ?_
  refine am_iload_n dX11_isTriedAgain_31 rfl ?_
  refine am_aload_n dX11_isTriedAgain_32 rfl ?_
  refine am_get (v := .inr (0, 81)) dX11_isTriedAgain_33 fl_11_63 (hG.m0 (by decide)) rfl ?_
  refine am_iload_n dX11_isTriedAgain_36 rfl ?_
  refine am_aload_n dX11_isTriedAgain_37 rfl ?_
  refine am_get (v := .inl ((am_up (am_up (am_up (am_up (am_up (am_up (am_up (am_up (am_up (am_up (am_up (am_up I 0 91 i (nI 1)) 0 60 51 (nI i)) 0 60 52 (-1 : Int32)) 0 60 53 (nI 0)) 0 60 54 (nI 0)) 0 60 55 (nI 0)) 0 60 56 (nI 0)) 0 60 61 (nI 0)) 0 60 52 (nI a)) 0 60 53 (nI 2)) 0 60 56 (nI 0)) 0 60 61 (nI 0)) 0 60 52)) dX11_isTriedAgain_38 fl_11_295 (hG.m0 (by decide)) rfl ?_
  refine am_top (show (am_up (am_up (am_up (am_up (am_up (am_up (am_up (am_up (am_up (am_up (am_up (am_up I 0 91 i (nI 1)) 0 60 51 (nI i)) 0 60 52 (-1 : Int32)) 0 60 53 (nI 0)) 0 60 54 (nI 0)) 0 60 55 (nI 0)) 0 60 56 (nI 0)) 0 60 61 (nI 0)) 0 60 52 (nI a)) 0 60 53 (nI 2)) 0 60 56 (nI 0)) 0 60 61 (nI 0)) 0 60 52 = nI a from (by simp [am_up, am_upf, upd, hkd, ha, hp, hl0, hls, htr])) ?_
  refine am_callSx (as := [.inl (nI i), .inl (nI a)]) (rest := [.inr (0, 81), .inl (nI i), .inr (0, 92)]) dX11_isTriedAgain_41 lkX11_at ml_X11_208 isX11_at rfl (Nat.le_of_ble_eq_true rfl) rfl (c_Mat hG.nd (g := i) (r := a) (by omega) (by omega) (am_up (am_up (am_up (am_up (am_up (am_up (am_up (am_up (am_up (am_up (am_up (am_up I 0 91 i (nI 1)) 0 60 51 (nI i)) 0 60 52 (-1 : Int32)) 0 60 53 (nI 0)) 0 60 54 (nI 0)) 0 60 55 (nI 0)) 0 60 56 (nI 0)) 0 60 61 (nI 0)) 0 60 52 (nI a)) 0 60 53 (nI 2)) 0 60 56 (nI 0)) 0 60 61 (nI 0))) ?_
  refine am_iald (a := 136 * i + a) dX11_isTriedAgain_44 (hG.m0 (by decide)) rfl rfl (show 136 * i + a < 544 from (by omega)) (show 544 < 2 ^ 31 by decide) ?_
  refine am_top (show (am_up (am_up (am_up (am_up (am_up (am_up (am_up (am_up (am_up (am_up (am_up (am_up I 0 91 i (nI 1)) 0 60 51 (nI i)) 0 60 52 (-1 : Int32)) 0 60 53 (nI 0)) 0 60 54 (nI 0)) 0 60 55 (nI 0)) 0 60 56 (nI 0)) 0 60 61 (nI 0)) 0 60 52 (nI a)) 0 60 53 (nI 2)) 0 60 56 (nI 0)) 0 60 61 (nI 0)) 0 81 (136 * i + a) = nI 0 from (by simp [am_up, am_upf, upd, hkd, ha, hp, hl0, hls, htr])) ?_
  refine am_if_ne (tgt := 59) dX11_isTriedAgain_45 (by decide) (fun h => absurd h (by decide)) (fun _ => ?_)
  refine am_aload_n dX11_isTriedAgain_48 rfl ?_
  refine am_get (v := .inr (0, 92)) dX11_isTriedAgain_49 fl_11_96 (hG.m0 (by decide)) rfl ?_
  refine am_iload_n dX11_isTriedAgain_52 rfl ?_
  refine am_iald (a := i) dX11_isTriedAgain_53 (hG.m0 (by decide)) rfl rfl (show i < 4 from (by omega)) (show 4 < 2 ^ 31 by decide) ?_
  refine am_top (show (am_up (am_up (am_up (am_up (am_up (am_up (am_up (am_up (am_up (am_up (am_up (am_up I 0 91 i (nI 1)) 0 60 51 (nI i)) 0 60 52 (-1 : Int32)) 0 60 53 (nI 0)) 0 60 54 (nI 0)) 0 60 55 (nI 0)) 0 60 56 (nI 0)) 0 60 61 (nI 0)) 0 60 52 (nI a)) 0 60 53 (nI 2)) 0 60 56 (nI 0)) 0 60 61 (nI 0)) 0 92 i = nI 0 from (by simp [am_up, am_upf, upd, hkd, ha, hp, hl0, hls, htr])) ?_
  refine am_iconst (v := nI 1) dX11_isTriedAgain_54 (by decide) ?_
  refine am_iadd dX11_isTriedAgain_55 ?_
  refine am_top (show (nI 0) + (nI 1) = nI 1 by decide) ?_
  refine am_goto (tgt := 65) dX11_isTriedAgain_56 (by decide) ?_
  refine am_iast (a := i) dX11_isTriedAgain_65 (hG.m0 (by decide)) rfl rfl (show i < 4 from (by omega)) (show 4 < 2 ^ 31 by decide) ?_
  refine am_aload_n dX11_isTriedAgain_66 rfl ?_
  refine am_get (v := .inr (0, 81)) dX11_isTriedAgain_67 fl_11_63 (hG.m0 (by decide)) rfl ?_
  refine am_iload_n dX11_isTriedAgain_70 rfl ?_
  refine am_aload_n dX11_isTriedAgain_71 rfl ?_
  refine am_get (v := .inl ((am_up (am_up (am_up (am_up (am_up (am_up (am_up (am_up (am_up (am_up (am_up (am_up (am_up I 0 91 i (nI 1)) 0 60 51 (nI i)) 0 60 52 (-1 : Int32)) 0 60 53 (nI 0)) 0 60 54 (nI 0)) 0 60 55 (nI 0)) 0 60 56 (nI 0)) 0 60 61 (nI 0)) 0 60 52 (nI a)) 0 60 53 (nI 2)) 0 60 56 (nI 0)) 0 60 61 (nI 0)) 0 92 i (nI 1)) 0 60 52)) dX11_isTriedAgain_72 fl_11_295 (hG.m0 (by decide)) rfl ?_
  refine am_top (show (am_up (am_up (am_up (am_up (am_up (am_up (am_up (am_up (am_up (am_up (am_up (am_up (am_up I 0 91 i (nI 1)) 0 60 51 (nI i)) 0 60 52 (-1 : Int32)) 0 60 53 (nI 0)) 0 60 54 (nI 0)) 0 60 55 (nI 0)) 0 60 56 (nI 0)) 0 60 61 (nI 0)) 0 60 52 (nI a)) 0 60 53 (nI 2)) 0 60 56 (nI 0)) 0 60 61 (nI 0)) 0 92 i (nI 1)) 0 60 52 = nI a from (by simp [am_up, am_upf, upd, hkd, ha, hp, hl0, hls, htr])) ?_
  refine am_callSx (as := [.inl (nI i), .inl (nI a)]) (rest := [.inr (0, 81)]) dX11_isTriedAgain_75 lkX11_at ml_X11_208 isX11_at rfl (Nat.le_of_ble_eq_true rfl) rfl (c_Mat hG.nd (g := i) (r := a) (by omega) (by omega) (am_up (am_up (am_up (am_up (am_up (am_up (am_up (am_up (am_up (am_up (am_up (am_up (am_up I 0 91 i (nI 1)) 0 60 51 (nI i)) 0 60 52 (-1 : Int32)) 0 60 53 (nI 0)) 0 60 54 (nI 0)) 0 60 55 (nI 0)) 0 60 56 (nI 0)) 0 60 61 (nI 0)) 0 60 52 (nI a)) 0 60 53 (nI 2)) 0 60 56 (nI 0)) 0 60 61 (nI 0)) 0 92 i (nI 1))) ?_
  refine am_aload_n dX11_isTriedAgain_78 rfl ?_
  refine am_get (v := .inl ((am_up (am_up (am_up (am_up (am_up (am_up (am_up (am_up (am_up (am_up (am_up (am_up (am_up I 0 91 i (nI 1)) 0 60 51 (nI i)) 0 60 52 (-1 : Int32)) 0 60 53 (nI 0)) 0 60 54 (nI 0)) 0 60 55 (nI 0)) 0 60 56 (nI 0)) 0 60 61 (nI 0)) 0 60 52 (nI a)) 0 60 53 (nI 2)) 0 60 56 (nI 0)) 0 60 61 (nI 0)) 0 92 i (nI 1)) 0 60 53)) dX11_isTriedAgain_79 fl_11_301 (hG.m0 (by decide)) rfl ?_
  refine am_top (show (am_up (am_up (am_up (am_up (am_up (am_up (am_up (am_up (am_up (am_up (am_up (am_up (am_up I 0 91 i (nI 1)) 0 60 51 (nI i)) 0 60 52 (-1 : Int32)) 0 60 53 (nI 0)) 0 60 54 (nI 0)) 0 60 55 (nI 0)) 0 60 56 (nI 0)) 0 60 61 (nI 0)) 0 60 52 (nI a)) 0 60 53 (nI 2)) 0 60 56 (nI 0)) 0 60 61 (nI 0)) 0 92 i (nI 1)) 0 60 53 = nI 2 from (by simp [am_up, am_upf, upd, hkd, ha, hp, hl0, hls, htr])) ?_
  refine am_iast (a := 136 * i + a) dX11_isTriedAgain_82 (hG.m0 (by decide)) rfl rfl (show 136 * i + a < 544 from (by omega)) (show 544 < 2 ^ 31 by decide) ?_
  refine am_aload_n dX11_isTriedAgain_83 rfl ?_
  refine am_iload_n dX11_isTriedAgain_84 rfl ?_
  refine am_callVe (i := 0) (j := 60) (as := [.inl (nI i)]) (rest := []) dX11_isTriedAgain_85 lkX11_unpin ml_X11_271 imX11_unpin seX11_unpin rfl rfl (hG.m0 (by decide)) rfl (Nat.le_of_ble_eq_true rfl) rfl (c_Munpin0 hG hi (fun k hk => by simp [am_up, am_upf, hpz k hk])) ?_
  refine am_iconst (v := nI 1) dX11_isTriedAgain_88 (by decide) ?_
  refine am_iret dX11_isTriedAgain_89 rfl (am_nz (by decide)).1 ?_
  exact ⟨rfl, rfl⟩
theorem c_MtriedAgain12 {G : am_G} (hG : am_okM G) {d : Nat} {i a : Nat} (hi : i < G.2.2.2.1) (hab : a < 128) (I : am_I) (hpz : ∀ k, k < 544 → I 0 79 k = nI 0)  (hkd : I 0 82 i = nI 12) (ha : I 0 83 i = nI a) (hp : I 0 79 (136 * i + a) = nI 0) (hl0 : I 0 81 (136 * i + a) = nI 0) (hls : I 0 92 i = nI 0) (htr : I 0 91 i = nI 0) : am_C G (d + 5) mX11_isTriedAgain [.inr (0, 60), .inl (nI i)] I (am_E (some (nI 1)) (am_up (am_up (am_up (am_up (am_up (am_up (am_up (am_up (am_up (am_up (am_up (am_up (am_up (am_up I 0 91 i (nI 1)) 0 60 51 (nI i)) 0 60 52 (-1 : Int32)) 0 60 53 (nI 0)) 0 60 54 (nI 0)) 0 60 55 (nI 0)) 0 60 56 (nI 0)) 0 60 61 (nI 0)) 0 60 52 (nI a)) 0 60 53 (nI 2)) 0 60 56 (nI 0)) 0 60 61 (nI 0)) 0 92 i (nI 1)) 0 81 (136 * i + a) (nI 2))) := by
  have hn4 := hG.hi
  have hn2 := hG.lo
  refine am_of (by decide +kernel) hG.nd (Nat.le_of_ble_eq_true rfl) ?_
  refine am_aload_n dX11_isTriedAgain_0 rfl ?_
  refine am_get (v := .inr (0, 91)) dX11_isTriedAgain_1 fl_11_93 (hG.m0 (by decide)) rfl ?_
  refine am_iload_n dX11_isTriedAgain_4 rfl ?_
  refine am_dup2 dX11_isTriedAgain_5 ?_
  refine am_iald (a := i) dX11_isTriedAgain_6 (hG.m0 (by decide)) rfl rfl (show i < 4 from (by omega)) (show 4 < 2 ^ 31 by decide) ?_
  refine am_top (show I 0 91 i = nI 0 from (by simp [am_up, am_upf, upd, hkd, ha, hp, hl0, hls, htr])) ?_
  refine am_iconst (v := nI 1) dX11_isTriedAgain_7 (by decide) ?_
  refine am_iadd dX11_isTriedAgain_8 ?_
  refine am_top (show (nI 0) + (nI 1) = nI 1 by decide) ?_
  refine am_iast (a := i) dX11_isTriedAgain_9 (hG.m0 (by decide)) rfl rfl (show i < 4 from (by omega)) (show 4 < 2 ^ 31 by decide) ?_
  refine am_aload_n dX11_isTriedAgain_10 rfl ?_
  refine am_iload_n dX11_isTriedAgain_11 rfl ?_
  refine am_callVe (i := 0) (j := 60) (as := [.inl (nI i)]) (rest := []) dX11_isTriedAgain_12 lkX11_attempt ml_X11_292 imX11_attempt seX11_attempt rfl rfl (hG.m0 (by decide)) rfl (Nat.le_of_ble_eq_true rfl) rfl (c_Mattempt12 (a := a) hG hi (by omega) (am_up I 0 91 i (nI 1)) (by simp [am_up, am_upf, upd, hkd, ha, hp, hl0, hls, htr]) (by simp [am_up, am_upf, upd, hkd, ha, hp, hl0, hls, htr]) (by simp [am_up, am_upf, upd, hkd, ha, hp, hl0, hls, htr])) ?_
  refine am_aload_n dX11_isTriedAgain_15 rfl ?_
  refine am_get (v := .inl ((am_up (am_up (am_up (am_up (am_up (am_up (am_up (am_up (am_up (am_up I 0 91 i (nI 1)) 0 60 51 (nI i)) 0 60 52 (-1 : Int32)) 0 60 53 (nI 0)) 0 60 54 (nI 0)) 0 60 55 (nI 0)) 0 60 56 (nI 0)) 0 60 61 (nI 0)) 0 60 52 (nI a)) 0 60 53 (nI 2)) 0 60 52)) dX11_isTriedAgain_16 fl_11_295 (hG.m0 (by decide)) rfl ?_
  refine am_top (show (am_up (am_up (am_up (am_up (am_up (am_up (am_up (am_up (am_up (am_up I 0 91 i (nI 1)) 0 60 51 (nI i)) 0 60 52 (-1 : Int32)) 0 60 53 (nI 0)) 0 60 54 (nI 0)) 0 60 55 (nI 0)) 0 60 56 (nI 0)) 0 60 61 (nI 0)) 0 60 52 (nI a)) 0 60 53 (nI 2)) 0 60 52 = nI a from (by simp [am_up, am_upf, upd, hkd, ha, hp, hl0, hls, htr])) ?_
  refine am_iconst (v := (-1 : Int32)) dX11_isTriedAgain_19 (by decide) ?_
  refine am_icmp_eq (tgt := 90) dX11_isTriedAgain_20 (by decide) (fun h => absurd h (am_nn1 (by omega))) (fun _ => ?_)
  refine am_aload_n dX11_isTriedAgain_23 rfl ?_
  refine am_callVe (i := 0) (j := 60) (as := []) (rest := []) dX11_isTriedAgain_24 lkX11_undo ml_X11_298 imX11_undo seX11_undo rfl rfl (hG.m0 (by decide)) rfl (Nat.le_of_ble_eq_true rfl) rfl (c_Mundo0 hG (am_up (am_up (am_up (am_up (am_up (am_up (am_up (am_up (am_up (am_up I 0 91 i (nI 1)) 0 60 51 (nI i)) 0 60 52 (-1 : Int32)) 0 60 53 (nI 0)) 0 60 54 (nI 0)) 0 60 55 (nI 0)) 0 60 56 (nI 0)) 0 60 61 (nI 0)) 0 60 52 (nI a)) 0 60 53 (nI 2)) (by simp [am_up, am_upf, upd, hkd, ha, hp, hl0, hls, htr])) ?_
  refine am_aload_n dX11_isTriedAgain_27 rfl ?_
  refine am_get (v := .inr (0, 92)) dX11_isTriedAgain_28 fl_11_96 (hG.m0 (by decide)) rfl ?_
  refine am_iload_n dX11_isTriedAgain_31 rfl ?_
  refine am_aload_n dX11_isTriedAgain_32 rfl ?_
  refine am_get (v := .inr (0, 81)) dX11_isTriedAgain_33 fl_11_63 (hG.m0 (by decide)) rfl ?_
  refine am_iload_n dX11_isTriedAgain_36 rfl ?_
  refine am_aload_n dX11_isTriedAgain_37 rfl ?_
  refine am_get (v := .inl ((am_up (am_up (am_up (am_up (am_up (am_up (am_up (am_up (am_up (am_up (am_up (am_up I 0 91 i (nI 1)) 0 60 51 (nI i)) 0 60 52 (-1 : Int32)) 0 60 53 (nI 0)) 0 60 54 (nI 0)) 0 60 55 (nI 0)) 0 60 56 (nI 0)) 0 60 61 (nI 0)) 0 60 52 (nI a)) 0 60 53 (nI 2)) 0 60 56 (nI 0)) 0 60 61 (nI 0)) 0 60 52)) dX11_isTriedAgain_38 fl_11_295 (hG.m0 (by decide)) rfl ?_
  refine am_top (show (am_up (am_up (am_up (am_up (am_up (am_up (am_up (am_up (am_up (am_up (am_up (am_up I 0 91 i (nI 1)) 0 60 51 (nI i)) 0 60 52 (-1 : Int32)) 0 60 53 (nI 0)) 0 60 54 (nI 0)) 0 60 55 (nI 0)) 0 60 56 (nI 0)) 0 60 61 (nI 0)) 0 60 52 (nI a)) 0 60 53 (nI 2)) 0 60 56 (nI 0)) 0 60 61 (nI 0)) 0 60 52 = nI a from (by simp [am_up, am_upf, upd, hkd, ha, hp, hl0, hls, htr])) ?_
  refine am_callSx (as := [.inl (nI i), .inl (nI a)]) (rest := [.inr (0, 81), .inl (nI i), .inr (0, 92)]) dX11_isTriedAgain_41 lkX11_at ml_X11_208 isX11_at rfl (Nat.le_of_ble_eq_true rfl) rfl (c_Mat hG.nd (g := i) (r := a) (by omega) (by omega) (am_up (am_up (am_up (am_up (am_up (am_up (am_up (am_up (am_up (am_up (am_up (am_up I 0 91 i (nI 1)) 0 60 51 (nI i)) 0 60 52 (-1 : Int32)) 0 60 53 (nI 0)) 0 60 54 (nI 0)) 0 60 55 (nI 0)) 0 60 56 (nI 0)) 0 60 61 (nI 0)) 0 60 52 (nI a)) 0 60 53 (nI 2)) 0 60 56 (nI 0)) 0 60 61 (nI 0))) ?_
  refine am_iald (a := 136 * i + a) dX11_isTriedAgain_44 (hG.m0 (by decide)) rfl rfl (show 136 * i + a < 544 from (by omega)) (show 544 < 2 ^ 31 by decide) ?_
  refine am_top (show (am_up (am_up (am_up (am_up (am_up (am_up (am_up (am_up (am_up (am_up (am_up (am_up I 0 91 i (nI 1)) 0 60 51 (nI i)) 0 60 52 (-1 : Int32)) 0 60 53 (nI 0)) 0 60 54 (nI 0)) 0 60 55 (nI 0)) 0 60 56 (nI 0)) 0 60 61 (nI 0)) 0 60 52 (nI a)) 0 60 53 (nI 2)) 0 60 56 (nI 0)) 0 60 61 (nI 0)) 0 81 (136 * i + a) = nI 0 from (by simp [am_up, am_upf, upd, hkd, ha, hp, hl0, hls, htr])) ?_
  refine am_if_ne (tgt := 59) dX11_isTriedAgain_45 (by decide) (fun h => absurd h (by decide)) (fun _ => ?_)
  refine am_aload_n dX11_isTriedAgain_48 rfl ?_
  refine am_get (v := .inr (0, 92)) dX11_isTriedAgain_49 fl_11_96 (hG.m0 (by decide)) rfl ?_
  refine am_iload_n dX11_isTriedAgain_52 rfl ?_
  refine am_iald (a := i) dX11_isTriedAgain_53 (hG.m0 (by decide)) rfl rfl (show i < 4 from (by omega)) (show 4 < 2 ^ 31 by decide) ?_
  refine am_top (show (am_up (am_up (am_up (am_up (am_up (am_up (am_up (am_up (am_up (am_up (am_up (am_up I 0 91 i (nI 1)) 0 60 51 (nI i)) 0 60 52 (-1 : Int32)) 0 60 53 (nI 0)) 0 60 54 (nI 0)) 0 60 55 (nI 0)) 0 60 56 (nI 0)) 0 60 61 (nI 0)) 0 60 52 (nI a)) 0 60 53 (nI 2)) 0 60 56 (nI 0)) 0 60 61 (nI 0)) 0 92 i = nI 0 from (by simp [am_up, am_upf, upd, hkd, ha, hp, hl0, hls, htr])) ?_
  refine am_iconst (v := nI 1) dX11_isTriedAgain_54 (by decide) ?_
  refine am_iadd dX11_isTriedAgain_55 ?_
  refine am_top (show (nI 0) + (nI 1) = nI 1 by decide) ?_
  refine am_goto (tgt := 65) dX11_isTriedAgain_56 (by decide) ?_
  refine am_iast (a := i) dX11_isTriedAgain_65 (hG.m0 (by decide)) rfl rfl (show i < 4 from (by omega)) (show 4 < 2 ^ 31 by decide) ?_
  refine am_aload_n dX11_isTriedAgain_66 rfl ?_
  refine am_get (v := .inr (0, 81)) dX11_isTriedAgain_67 fl_11_63 (hG.m0 (by decide)) rfl ?_
  refine am_iload_n dX11_isTriedAgain_70 rfl ?_
  refine am_aload_n dX11_isTriedAgain_71 rfl ?_
  refine am_get (v := .inl ((am_up (am_up (am_up (am_up (am_up (am_up (am_up (am_up (am_up (am_up (am_up (am_up (am_up I 0 91 i (nI 1)) 0 60 51 (nI i)) 0 60 52 (-1 : Int32)) 0 60 53 (nI 0)) 0 60 54 (nI 0)) 0 60 55 (nI 0)) 0 60 56 (nI 0)) 0 60 61 (nI 0)) 0 60 52 (nI a)) 0 60 53 (nI 2)) 0 60 56 (nI 0)) 0 60 61 (nI 0)) 0 92 i (nI 1)) 0 60 52)) dX11_isTriedAgain_72 fl_11_295 (hG.m0 (by decide)) rfl ?_
  refine am_top (show (am_up (am_up (am_up (am_up (am_up (am_up (am_up (am_up (am_up (am_up (am_up (am_up (am_up I 0 91 i (nI 1)) 0 60 51 (nI i)) 0 60 52 (-1 : Int32)) 0 60 53 (nI 0)) 0 60 54 (nI 0)) 0 60 55 (nI 0)) 0 60 56 (nI 0)) 0 60 61 (nI 0)) 0 60 52 (nI a)) 0 60 53 (nI 2)) 0 60 56 (nI 0)) 0 60 61 (nI 0)) 0 92 i (nI 1)) 0 60 52 = nI a from (by simp [am_up, am_upf, upd, hkd, ha, hp, hl0, hls, htr])) ?_
  refine am_callSx (as := [.inl (nI i), .inl (nI a)]) (rest := [.inr (0, 81)]) dX11_isTriedAgain_75 lkX11_at ml_X11_208 isX11_at rfl (Nat.le_of_ble_eq_true rfl) rfl (c_Mat hG.nd (g := i) (r := a) (by omega) (by omega) (am_up (am_up (am_up (am_up (am_up (am_up (am_up (am_up (am_up (am_up (am_up (am_up (am_up I 0 91 i (nI 1)) 0 60 51 (nI i)) 0 60 52 (-1 : Int32)) 0 60 53 (nI 0)) 0 60 54 (nI 0)) 0 60 55 (nI 0)) 0 60 56 (nI 0)) 0 60 61 (nI 0)) 0 60 52 (nI a)) 0 60 53 (nI 2)) 0 60 56 (nI 0)) 0 60 61 (nI 0)) 0 92 i (nI 1))) ?_
  refine am_aload_n dX11_isTriedAgain_78 rfl ?_
  refine am_get (v := .inl ((am_up (am_up (am_up (am_up (am_up (am_up (am_up (am_up (am_up (am_up (am_up (am_up (am_up I 0 91 i (nI 1)) 0 60 51 (nI i)) 0 60 52 (-1 : Int32)) 0 60 53 (nI 0)) 0 60 54 (nI 0)) 0 60 55 (nI 0)) 0 60 56 (nI 0)) 0 60 61 (nI 0)) 0 60 52 (nI a)) 0 60 53 (nI 2)) 0 60 56 (nI 0)) 0 60 61 (nI 0)) 0 92 i (nI 1)) 0 60 53)) dX11_isTriedAgain_79 fl_11_301 (hG.m0 (by decide)) rfl ?_
  refine am_top (show (am_up (am_up (am_up (am_up (am_up (am_up (am_up (am_up (am_up (am_up (am_up (am_up (am_up I 0 91 i (nI 1)) 0 60 51 (nI i)) 0 60 52 (-1 : Int32)) 0 60 53 (nI 0)) 0 60 54 (nI 0)) 0 60 55 (nI 0)) 0 60 56 (nI 0)) 0 60 61 (nI 0)) 0 60 52 (nI a)) 0 60 53 (nI 2)) 0 60 56 (nI 0)) 0 60 61 (nI 0)) 0 92 i (nI 1)) 0 60 53 = nI 2 from (by simp [am_up, am_upf, upd, hkd, ha, hp, hl0, hls, htr])) ?_
  refine am_iast (a := 136 * i + a) dX11_isTriedAgain_82 (hG.m0 (by decide)) rfl rfl (show 136 * i + a < 544 from (by omega)) (show 544 < 2 ^ 31 by decide) ?_
  refine am_aload_n dX11_isTriedAgain_83 rfl ?_
  refine am_iload_n dX11_isTriedAgain_84 rfl ?_
  refine am_callVe (i := 0) (j := 60) (as := [.inl (nI i)]) (rest := []) dX11_isTriedAgain_85 lkX11_unpin ml_X11_271 imX11_unpin seX11_unpin rfl rfl (hG.m0 (by decide)) rfl (Nat.le_of_ble_eq_true rfl) rfl (c_Munpin0 hG hi (fun k hk => by simp [am_up, am_upf, hpz k hk])) ?_
  refine am_iconst (v := nI 1) dX11_isTriedAgain_88 (by decide) ?_
  refine am_iret dX11_isTriedAgain_89 rfl (am_nz (by decide)).1 ?_
  exact ⟨rfl, rfl⟩
theorem c_MtriedAgain13 {G : am_G} (hG : am_okM G) {d : Nat} {i a : Nat} (hi : i < G.2.2.2.1) (hab : a < 128) (I : am_I) (hpz : ∀ k, k < 544 → I 0 79 k = nI 0)  (hkd : I 0 82 i = nI 13) (ha : I 0 83 i = nI a) (hp : I 0 79 (136 * i + a) = nI 0) (hl0 : I 0 81 (136 * i + a) = nI 0) (hls : I 0 92 i = nI 0) (htr : I 0 91 i = nI 0) : am_C G (d + 5) mX11_isTriedAgain [.inr (0, 60), .inl (nI i)] I (am_E (some (nI 1)) (am_up (am_up (am_up (am_up (am_up (am_up (am_up (am_up (am_up (am_up (am_up (am_up (am_up (am_up I 0 91 i (nI 1)) 0 60 51 (nI i)) 0 60 52 (-1 : Int32)) 0 60 53 (nI 0)) 0 60 54 (nI 0)) 0 60 55 (nI 0)) 0 60 56 (nI 0)) 0 60 61 (nI 0)) 0 60 52 (nI a)) 0 60 53 (nI 1)) 0 60 56 (nI 0)) 0 60 61 (nI 0)) 0 92 i (nI 1)) 0 81 (136 * i + a) (nI 1))) := by
  have hn4 := hG.hi
  have hn2 := hG.lo
  refine am_of (by decide +kernel) hG.nd (Nat.le_of_ble_eq_true rfl) ?_
  refine am_aload_n dX11_isTriedAgain_0 rfl ?_
  refine am_get (v := .inr (0, 91)) dX11_isTriedAgain_1 fl_11_93 (hG.m0 (by decide)) rfl ?_
  refine am_iload_n dX11_isTriedAgain_4 rfl ?_
  refine am_dup2 dX11_isTriedAgain_5 ?_
  refine am_iald (a := i) dX11_isTriedAgain_6 (hG.m0 (by decide)) rfl rfl (show i < 4 from (by omega)) (show 4 < 2 ^ 31 by decide) ?_
  refine am_top (show I 0 91 i = nI 0 from (by simp [am_up, am_upf, upd, hkd, ha, hp, hl0, hls, htr])) ?_
  refine am_iconst (v := nI 1) dX11_isTriedAgain_7 (by decide) ?_
  refine am_iadd dX11_isTriedAgain_8 ?_
  refine am_top (show (nI 0) + (nI 1) = nI 1 by decide) ?_
  refine am_iast (a := i) dX11_isTriedAgain_9 (hG.m0 (by decide)) rfl rfl (show i < 4 from (by omega)) (show 4 < 2 ^ 31 by decide) ?_
  refine am_aload_n dX11_isTriedAgain_10 rfl ?_
  refine am_iload_n dX11_isTriedAgain_11 rfl ?_
  refine am_callVe (i := 0) (j := 60) (as := [.inl (nI i)]) (rest := []) dX11_isTriedAgain_12 lkX11_attempt ml_X11_292 imX11_attempt seX11_attempt rfl rfl (hG.m0 (by decide)) rfl (Nat.le_of_ble_eq_true rfl) rfl (c_Mattempt13 (a := a) hG hi (by omega) (am_up I 0 91 i (nI 1)) (by simp [am_up, am_upf, upd, hkd, ha, hp, hl0, hls, htr]) (by simp [am_up, am_upf, upd, hkd, ha, hp, hl0, hls, htr]) (by simp [am_up, am_upf, upd, hkd, ha, hp, hl0, hls, htr])) ?_
  refine am_aload_n dX11_isTriedAgain_15 rfl ?_
  refine am_get (v := .inl ((am_up (am_up (am_up (am_up (am_up (am_up (am_up (am_up (am_up (am_up I 0 91 i (nI 1)) 0 60 51 (nI i)) 0 60 52 (-1 : Int32)) 0 60 53 (nI 0)) 0 60 54 (nI 0)) 0 60 55 (nI 0)) 0 60 56 (nI 0)) 0 60 61 (nI 0)) 0 60 52 (nI a)) 0 60 53 (nI 1)) 0 60 52)) dX11_isTriedAgain_16 fl_11_295 (hG.m0 (by decide)) rfl ?_
  refine am_top (show (am_up (am_up (am_up (am_up (am_up (am_up (am_up (am_up (am_up (am_up I 0 91 i (nI 1)) 0 60 51 (nI i)) 0 60 52 (-1 : Int32)) 0 60 53 (nI 0)) 0 60 54 (nI 0)) 0 60 55 (nI 0)) 0 60 56 (nI 0)) 0 60 61 (nI 0)) 0 60 52 (nI a)) 0 60 53 (nI 1)) 0 60 52 = nI a from (by simp [am_up, am_upf, upd, hkd, ha, hp, hl0, hls, htr])) ?_
  refine am_iconst (v := (-1 : Int32)) dX11_isTriedAgain_19 (by decide) ?_
  refine am_icmp_eq (tgt := 90) dX11_isTriedAgain_20 (by decide) (fun h => absurd h (am_nn1 (by omega))) (fun _ => ?_)
  refine am_aload_n dX11_isTriedAgain_23 rfl ?_
  refine am_callVe (i := 0) (j := 60) (as := []) (rest := []) dX11_isTriedAgain_24 lkX11_undo ml_X11_298 imX11_undo seX11_undo rfl rfl (hG.m0 (by decide)) rfl (Nat.le_of_ble_eq_true rfl) rfl (c_Mundo0 hG (am_up (am_up (am_up (am_up (am_up (am_up (am_up (am_up (am_up (am_up I 0 91 i (nI 1)) 0 60 51 (nI i)) 0 60 52 (-1 : Int32)) 0 60 53 (nI 0)) 0 60 54 (nI 0)) 0 60 55 (nI 0)) 0 60 56 (nI 0)) 0 60 61 (nI 0)) 0 60 52 (nI a)) 0 60 53 (nI 1)) (by simp [am_up, am_upf, upd, hkd, ha, hp, hl0, hls, htr])) ?_
  refine am_aload_n dX11_isTriedAgain_27 rfl ?_
  refine am_get (v := .inr (0, 92)) dX11_isTriedAgain_28 fl_11_96 (hG.m0 (by decide)) rfl ?_
  refine am_iload_n dX11_isTriedAgain_31 rfl ?_
  refine am_aload_n dX11_isTriedAgain_32 rfl ?_
  refine am_get (v := .inr (0, 81)) dX11_isTriedAgain_33 fl_11_63 (hG.m0 (by decide)) rfl ?_
  refine am_iload_n dX11_isTriedAgain_36 rfl ?_
  refine am_aload_n dX11_isTriedAgain_37 rfl ?_
  refine am_get (v := .inl ((am_up (am_up (am_up (am_up (am_up (am_up (am_up (am_up (am_up (am_up (am_up (am_up I 0 91 i (nI 1)) 0 60 51 (nI i)) 0 60 52 (-1 : Int32)) 0 60 53 (nI 0)) 0 60 54 (nI 0)) 0 60 55 (nI 0)) 0 60 56 (nI 0)) 0 60 61 (nI 0)) 0 60 52 (nI a)) 0 60 53 (nI 1)) 0 60 56 (nI 0)) 0 60 61 (nI 0)) 0 60 52)) dX11_isTriedAgain_38 fl_11_295 (hG.m0 (by decide)) rfl ?_
  refine am_top (show (am_up (am_up (am_up (am_up (am_up (am_up (am_up (am_up (am_up (am_up (am_up (am_up I 0 91 i (nI 1)) 0 60 51 (nI i)) 0 60 52 (-1 : Int32)) 0 60 53 (nI 0)) 0 60 54 (nI 0)) 0 60 55 (nI 0)) 0 60 56 (nI 0)) 0 60 61 (nI 0)) 0 60 52 (nI a)) 0 60 53 (nI 1)) 0 60 56 (nI 0)) 0 60 61 (nI 0)) 0 60 52 = nI a from (by simp [am_up, am_upf, upd, hkd, ha, hp, hl0, hls, htr])) ?_
  refine am_callSx (as := [.inl (nI i), .inl (nI a)]) (rest := [.inr (0, 81), .inl (nI i), .inr (0, 92)]) dX11_isTriedAgain_41 lkX11_at ml_X11_208 isX11_at rfl (Nat.le_of_ble_eq_true rfl) rfl (c_Mat hG.nd (g := i) (r := a) (by omega) (by omega) (am_up (am_up (am_up (am_up (am_up (am_up (am_up (am_up (am_up (am_up (am_up (am_up I 0 91 i (nI 1)) 0 60 51 (nI i)) 0 60 52 (-1 : Int32)) 0 60 53 (nI 0)) 0 60 54 (nI 0)) 0 60 55 (nI 0)) 0 60 56 (nI 0)) 0 60 61 (nI 0)) 0 60 52 (nI a)) 0 60 53 (nI 1)) 0 60 56 (nI 0)) 0 60 61 (nI 0))) ?_
  refine am_iald (a := 136 * i + a) dX11_isTriedAgain_44 (hG.m0 (by decide)) rfl rfl (show 136 * i + a < 544 from (by omega)) (show 544 < 2 ^ 31 by decide) ?_
  refine am_top (show (am_up (am_up (am_up (am_up (am_up (am_up (am_up (am_up (am_up (am_up (am_up (am_up I 0 91 i (nI 1)) 0 60 51 (nI i)) 0 60 52 (-1 : Int32)) 0 60 53 (nI 0)) 0 60 54 (nI 0)) 0 60 55 (nI 0)) 0 60 56 (nI 0)) 0 60 61 (nI 0)) 0 60 52 (nI a)) 0 60 53 (nI 1)) 0 60 56 (nI 0)) 0 60 61 (nI 0)) 0 81 (136 * i + a) = nI 0 from (by simp [am_up, am_upf, upd, hkd, ha, hp, hl0, hls, htr])) ?_
  refine am_if_ne (tgt := 59) dX11_isTriedAgain_45 (by decide) (fun h => absurd h (by decide)) (fun _ => ?_)
  refine am_aload_n dX11_isTriedAgain_48 rfl ?_
  refine am_get (v := .inr (0, 92)) dX11_isTriedAgain_49 fl_11_96 (hG.m0 (by decide)) rfl ?_
  refine am_iload_n dX11_isTriedAgain_52 rfl ?_
  refine am_iald (a := i) dX11_isTriedAgain_53 (hG.m0 (by decide)) rfl rfl (show i < 4 from (by omega)) (show 4 < 2 ^ 31 by decide) ?_
  refine am_top (show (am_up (am_up (am_up (am_up (am_up (am_up (am_up (am_up (am_up (am_up (am_up (am_up I 0 91 i (nI 1)) 0 60 51 (nI i)) 0 60 52 (-1 : Int32)) 0 60 53 (nI 0)) 0 60 54 (nI 0)) 0 60 55 (nI 0)) 0 60 56 (nI 0)) 0 60 61 (nI 0)) 0 60 52 (nI a)) 0 60 53 (nI 1)) 0 60 56 (nI 0)) 0 60 61 (nI 0)) 0 92 i = nI 0 from (by simp [am_up, am_upf, upd, hkd, ha, hp, hl0, hls, htr])) ?_
  refine am_iconst (v := nI 1) dX11_isTriedAgain_54 (by decide) ?_
  refine am_iadd dX11_isTriedAgain_55 ?_
  refine am_top (show (nI 0) + (nI 1) = nI 1 by decide) ?_
  refine am_goto (tgt := 65) dX11_isTriedAgain_56 (by decide) ?_
  refine am_iast (a := i) dX11_isTriedAgain_65 (hG.m0 (by decide)) rfl rfl (show i < 4 from (by omega)) (show 4 < 2 ^ 31 by decide) ?_
  refine am_aload_n dX11_isTriedAgain_66 rfl ?_
  refine am_get (v := .inr (0, 81)) dX11_isTriedAgain_67 fl_11_63 (hG.m0 (by decide)) rfl ?_
  refine am_iload_n dX11_isTriedAgain_70 rfl ?_
  refine am_aload_n dX11_isTriedAgain_71 rfl ?_
  refine am_get (v := .inl ((am_up (am_up (am_up (am_up (am_up (am_up (am_up (am_up (am_up (am_up (am_up (am_up (am_up I 0 91 i (nI 1)) 0 60 51 (nI i)) 0 60 52 (-1 : Int32)) 0 60 53 (nI 0)) 0 60 54 (nI 0)) 0 60 55 (nI 0)) 0 60 56 (nI 0)) 0 60 61 (nI 0)) 0 60 52 (nI a)) 0 60 53 (nI 1)) 0 60 56 (nI 0)) 0 60 61 (nI 0)) 0 92 i (nI 1)) 0 60 52)) dX11_isTriedAgain_72 fl_11_295 (hG.m0 (by decide)) rfl ?_
  refine am_top (show (am_up (am_up (am_up (am_up (am_up (am_up (am_up (am_up (am_up (am_up (am_up (am_up (am_up I 0 91 i (nI 1)) 0 60 51 (nI i)) 0 60 52 (-1 : Int32)) 0 60 53 (nI 0)) 0 60 54 (nI 0)) 0 60 55 (nI 0)) 0 60 56 (nI 0)) 0 60 61 (nI 0)) 0 60 52 (nI a)) 0 60 53 (nI 1)) 0 60 56 (nI 0)) 0 60 61 (nI 0)) 0 92 i (nI 1)) 0 60 52 = nI a from (by simp [am_up, am_upf, upd, hkd, ha, hp, hl0, hls, htr])) ?_
  refine am_callSx (as := [.inl (nI i), .inl (nI a)]) (rest := [.inr (0, 81)]) dX11_isTriedAgain_75 lkX11_at ml_X11_208 isX11_at rfl (Nat.le_of_ble_eq_true rfl) rfl (c_Mat hG.nd (g := i) (r := a) (by omega) (by omega) (am_up (am_up (am_up (am_up (am_up (am_up (am_up (am_up (am_up (am_up (am_up (am_up (am_up I 0 91 i (nI 1)) 0 60 51 (nI i)) 0 60 52 (-1 : Int32)) 0 60 53 (nI 0)) 0 60 54 (nI 0)) 0 60 55 (nI 0)) 0 60 56 (nI 0)) 0 60 61 (nI 0)) 0 60 52 (nI a)) 0 60 53 (nI 1)) 0 60 56 (nI 0)) 0 60 61 (nI 0)) 0 92 i (nI 1))) ?_
  refine am_aload_n dX11_isTriedAgain_78 rfl ?_
  refine am_get (v := .inl ((am_up (am_up (am_up (am_up (am_up (am_up (am_up (am_up (am_up (am_up (am_up (am_up (am_up I 0 91 i (nI 1)) 0 60 51 (nI i)) 0 60 52 (-1 : Int32)) 0 60 53 (nI 0)) 0 60 54 (nI 0)) 0 60 55 (nI 0)) 0 60 56 (nI 0)) 0 60 61 (nI 0)) 0 60 52 (nI a)) 0 60 53 (nI 1)) 0 60 56 (nI 0)) 0 60 61 (nI 0)) 0 92 i (nI 1)) 0 60 53)) dX11_isTriedAgain_79 fl_11_301 (hG.m0 (by decide)) rfl ?_
  refine am_top (show (am_up (am_up (am_up (am_up (am_up (am_up (am_up (am_up (am_up (am_up (am_up (am_up (am_up I 0 91 i (nI 1)) 0 60 51 (nI i)) 0 60 52 (-1 : Int32)) 0 60 53 (nI 0)) 0 60 54 (nI 0)) 0 60 55 (nI 0)) 0 60 56 (nI 0)) 0 60 61 (nI 0)) 0 60 52 (nI a)) 0 60 53 (nI 1)) 0 60 56 (nI 0)) 0 60 61 (nI 0)) 0 92 i (nI 1)) 0 60 53 = nI 1 from (by simp [am_up, am_upf, upd, hkd, ha, hp, hl0, hls, htr])) ?_
  refine am_iast (a := 136 * i + a) dX11_isTriedAgain_82 (hG.m0 (by decide)) rfl rfl (show 136 * i + a < 544 from (by omega)) (show 544 < 2 ^ 31 by decide) ?_
  refine am_aload_n dX11_isTriedAgain_83 rfl ?_
  refine am_iload_n dX11_isTriedAgain_84 rfl ?_
  refine am_callVe (i := 0) (j := 60) (as := [.inl (nI i)]) (rest := []) dX11_isTriedAgain_85 lkX11_unpin ml_X11_271 imX11_unpin seX11_unpin rfl rfl (hG.m0 (by decide)) rfl (Nat.le_of_ble_eq_true rfl) rfl (c_Munpin0 hG hi (fun k hk => by simp [am_up, am_upf, hpz k hk])) ?_
  refine am_iconst (v := nI 1) dX11_isTriedAgain_88 (by decide) ?_
  refine am_iret dX11_isTriedAgain_89 rfl (am_nz (by decide)).1 ?_
  exact ⟨rfl, rfl⟩
theorem c_MtriedAgain14 {G : am_G} (hG : am_okM G) {d : Nat} {i : Nat} (hi : i < G.2.2.2.1) (I : am_I) (hpz : ∀ k, k < 544 → I 0 79 k = nI 0)  (hkd : I 0 82 i = nI 14) (hp : I 0 79 (136 * i + 128) = nI 0) (hl0 : I 0 81 (136 * i + 128) = nI 0) (hls : I 0 92 i = nI 0) (htr : I 0 91 i = nI 0) : am_C G (d + 5) mX11_isTriedAgain [.inr (0, 60), .inl (nI i)] I (am_E (some (nI 1)) (am_up (am_up (am_up (am_up (am_up (am_up (am_up (am_up (am_up (am_up (am_up (am_up (am_up (am_up I 0 91 i (nI 1)) 0 60 51 (nI i)) 0 60 52 (-1 : Int32)) 0 60 53 (nI 0)) 0 60 54 (nI 0)) 0 60 55 (nI 0)) 0 60 56 (nI 0)) 0 60 61 (nI 0)) 0 60 52 (nI 128)) 0 60 53 (nI 1)) 0 60 56 (nI 0)) 0 60 61 (nI 0)) 0 92 i (nI 1)) 0 81 (136 * i + 128) (nI 1))) := by
  have hn4 := hG.hi
  have hn2 := hG.lo
  refine am_of (by decide +kernel) hG.nd (Nat.le_of_ble_eq_true rfl) ?_
  refine am_aload_n dX11_isTriedAgain_0 rfl ?_
  refine am_get (v := .inr (0, 91)) dX11_isTriedAgain_1 fl_11_93 (hG.m0 (by decide)) rfl ?_
  refine am_iload_n dX11_isTriedAgain_4 rfl ?_
  refine am_dup2 dX11_isTriedAgain_5 ?_
  refine am_iald (a := i) dX11_isTriedAgain_6 (hG.m0 (by decide)) rfl rfl (show i < 4 from (by omega)) (show 4 < 2 ^ 31 by decide) ?_
  refine am_top (show I 0 91 i = nI 0 from (by simp [am_up, am_upf, upd, hkd, hp, hl0, hls, htr])) ?_
  refine am_iconst (v := nI 1) dX11_isTriedAgain_7 (by decide) ?_
  refine am_iadd dX11_isTriedAgain_8 ?_
  refine am_top (show (nI 0) + (nI 1) = nI 1 by decide) ?_
  refine am_iast (a := i) dX11_isTriedAgain_9 (hG.m0 (by decide)) rfl rfl (show i < 4 from (by omega)) (show 4 < 2 ^ 31 by decide) ?_
  refine am_aload_n dX11_isTriedAgain_10 rfl ?_
  refine am_iload_n dX11_isTriedAgain_11 rfl ?_
  refine am_callVe (i := 0) (j := 60) (as := [.inl (nI i)]) (rest := []) dX11_isTriedAgain_12 lkX11_attempt ml_X11_292 imX11_attempt seX11_attempt rfl rfl (hG.m0 (by decide)) rfl (Nat.le_of_ble_eq_true rfl) rfl (c_Mattempt14 hG hi (am_up I 0 91 i (nI 1)) (by simp [am_up, am_upf, upd, hkd, hp, hl0, hls, htr]) (by simp [am_up, am_upf, upd, hkd, hp, hl0, hls, htr])) ?_
  refine am_aload_n dX11_isTriedAgain_15 rfl ?_
  refine am_get (v := .inl ((am_up (am_up (am_up (am_up (am_up (am_up (am_up (am_up (am_up (am_up I 0 91 i (nI 1)) 0 60 51 (nI i)) 0 60 52 (-1 : Int32)) 0 60 53 (nI 0)) 0 60 54 (nI 0)) 0 60 55 (nI 0)) 0 60 56 (nI 0)) 0 60 61 (nI 0)) 0 60 52 (nI 128)) 0 60 53 (nI 1)) 0 60 52)) dX11_isTriedAgain_16 fl_11_295 (hG.m0 (by decide)) rfl ?_
  refine am_top (show (am_up (am_up (am_up (am_up (am_up (am_up (am_up (am_up (am_up (am_up I 0 91 i (nI 1)) 0 60 51 (nI i)) 0 60 52 (-1 : Int32)) 0 60 53 (nI 0)) 0 60 54 (nI 0)) 0 60 55 (nI 0)) 0 60 56 (nI 0)) 0 60 61 (nI 0)) 0 60 52 (nI 128)) 0 60 53 (nI 1)) 0 60 52 = nI 128 from (by simp [am_up, am_upf, upd, hkd, hp, hl0, hls, htr])) ?_
  refine am_iconst (v := (-1 : Int32)) dX11_isTriedAgain_19 (by decide) ?_
  refine am_icmp_eq (tgt := 90) dX11_isTriedAgain_20 (by decide) (fun h => absurd h (am_nn1 (by omega))) (fun _ => ?_)
  refine am_aload_n dX11_isTriedAgain_23 rfl ?_
  refine am_callVe (i := 0) (j := 60) (as := []) (rest := []) dX11_isTriedAgain_24 lkX11_undo ml_X11_298 imX11_undo seX11_undo rfl rfl (hG.m0 (by decide)) rfl (Nat.le_of_ble_eq_true rfl) rfl (c_Mundo0 hG (am_up (am_up (am_up (am_up (am_up (am_up (am_up (am_up (am_up (am_up I 0 91 i (nI 1)) 0 60 51 (nI i)) 0 60 52 (-1 : Int32)) 0 60 53 (nI 0)) 0 60 54 (nI 0)) 0 60 55 (nI 0)) 0 60 56 (nI 0)) 0 60 61 (nI 0)) 0 60 52 (nI 128)) 0 60 53 (nI 1)) (by simp [am_up, am_upf, upd, hkd, hp, hl0, hls, htr])) ?_
  refine am_aload_n dX11_isTriedAgain_27 rfl ?_
  refine am_get (v := .inr (0, 92)) dX11_isTriedAgain_28 fl_11_96 (hG.m0 (by decide)) rfl ?_
  refine am_iload_n dX11_isTriedAgain_31 rfl ?_
  refine am_aload_n dX11_isTriedAgain_32 rfl ?_
  refine am_get (v := .inr (0, 81)) dX11_isTriedAgain_33 fl_11_63 (hG.m0 (by decide)) rfl ?_
  refine am_iload_n dX11_isTriedAgain_36 rfl ?_
  refine am_aload_n dX11_isTriedAgain_37 rfl ?_
  refine am_get (v := .inl ((am_up (am_up (am_up (am_up (am_up (am_up (am_up (am_up (am_up (am_up (am_up (am_up I 0 91 i (nI 1)) 0 60 51 (nI i)) 0 60 52 (-1 : Int32)) 0 60 53 (nI 0)) 0 60 54 (nI 0)) 0 60 55 (nI 0)) 0 60 56 (nI 0)) 0 60 61 (nI 0)) 0 60 52 (nI 128)) 0 60 53 (nI 1)) 0 60 56 (nI 0)) 0 60 61 (nI 0)) 0 60 52)) dX11_isTriedAgain_38 fl_11_295 (hG.m0 (by decide)) rfl ?_
  refine am_top (show (am_up (am_up (am_up (am_up (am_up (am_up (am_up (am_up (am_up (am_up (am_up (am_up I 0 91 i (nI 1)) 0 60 51 (nI i)) 0 60 52 (-1 : Int32)) 0 60 53 (nI 0)) 0 60 54 (nI 0)) 0 60 55 (nI 0)) 0 60 56 (nI 0)) 0 60 61 (nI 0)) 0 60 52 (nI 128)) 0 60 53 (nI 1)) 0 60 56 (nI 0)) 0 60 61 (nI 0)) 0 60 52 = nI 128 from (by simp [am_up, am_upf, upd, hkd, hp, hl0, hls, htr])) ?_
  refine am_callSx (as := [.inl (nI i), .inl (nI 128)]) (rest := [.inr (0, 81), .inl (nI i), .inr (0, 92)]) dX11_isTriedAgain_41 lkX11_at ml_X11_208 isX11_at rfl (Nat.le_of_ble_eq_true rfl) rfl (c_Mat hG.nd (g := i) (r := 128) (by omega) (by omega) (am_up (am_up (am_up (am_up (am_up (am_up (am_up (am_up (am_up (am_up (am_up (am_up I 0 91 i (nI 1)) 0 60 51 (nI i)) 0 60 52 (-1 : Int32)) 0 60 53 (nI 0)) 0 60 54 (nI 0)) 0 60 55 (nI 0)) 0 60 56 (nI 0)) 0 60 61 (nI 0)) 0 60 52 (nI 128)) 0 60 53 (nI 1)) 0 60 56 (nI 0)) 0 60 61 (nI 0))) ?_
  refine am_iald (a := 136 * i + 128) dX11_isTriedAgain_44 (hG.m0 (by decide)) rfl rfl (show 136 * i + 128 < 544 from (by omega)) (show 544 < 2 ^ 31 by decide) ?_
  refine am_top (show (am_up (am_up (am_up (am_up (am_up (am_up (am_up (am_up (am_up (am_up (am_up (am_up I 0 91 i (nI 1)) 0 60 51 (nI i)) 0 60 52 (-1 : Int32)) 0 60 53 (nI 0)) 0 60 54 (nI 0)) 0 60 55 (nI 0)) 0 60 56 (nI 0)) 0 60 61 (nI 0)) 0 60 52 (nI 128)) 0 60 53 (nI 1)) 0 60 56 (nI 0)) 0 60 61 (nI 0)) 0 81 (136 * i + 128) = nI 0 from (by simp [am_up, am_upf, upd, hkd, hp, hl0, hls, htr])) ?_
  refine am_if_ne (tgt := 59) dX11_isTriedAgain_45 (by decide) (fun h => absurd h (by decide)) (fun _ => ?_)
  refine am_aload_n dX11_isTriedAgain_48 rfl ?_
  refine am_get (v := .inr (0, 92)) dX11_isTriedAgain_49 fl_11_96 (hG.m0 (by decide)) rfl ?_
  refine am_iload_n dX11_isTriedAgain_52 rfl ?_
  refine am_iald (a := i) dX11_isTriedAgain_53 (hG.m0 (by decide)) rfl rfl (show i < 4 from (by omega)) (show 4 < 2 ^ 31 by decide) ?_
  refine am_top (show (am_up (am_up (am_up (am_up (am_up (am_up (am_up (am_up (am_up (am_up (am_up (am_up I 0 91 i (nI 1)) 0 60 51 (nI i)) 0 60 52 (-1 : Int32)) 0 60 53 (nI 0)) 0 60 54 (nI 0)) 0 60 55 (nI 0)) 0 60 56 (nI 0)) 0 60 61 (nI 0)) 0 60 52 (nI 128)) 0 60 53 (nI 1)) 0 60 56 (nI 0)) 0 60 61 (nI 0)) 0 92 i = nI 0 from (by simp [am_up, am_upf, upd, hkd, hp, hl0, hls, htr])) ?_
  refine am_iconst (v := nI 1) dX11_isTriedAgain_54 (by decide) ?_
  refine am_iadd dX11_isTriedAgain_55 ?_
  refine am_top (show (nI 0) + (nI 1) = nI 1 by decide) ?_
  refine am_goto (tgt := 65) dX11_isTriedAgain_56 (by decide) ?_
  refine am_iast (a := i) dX11_isTriedAgain_65 (hG.m0 (by decide)) rfl rfl (show i < 4 from (by omega)) (show 4 < 2 ^ 31 by decide) ?_
  refine am_aload_n dX11_isTriedAgain_66 rfl ?_
  refine am_get (v := .inr (0, 81)) dX11_isTriedAgain_67 fl_11_63 (hG.m0 (by decide)) rfl ?_
  refine am_iload_n dX11_isTriedAgain_70 rfl ?_
  refine am_aload_n dX11_isTriedAgain_71 rfl ?_
  refine am_get (v := .inl ((am_up (am_up (am_up (am_up (am_up (am_up (am_up (am_up (am_up (am_up (am_up (am_up (am_up I 0 91 i (nI 1)) 0 60 51 (nI i)) 0 60 52 (-1 : Int32)) 0 60 53 (nI 0)) 0 60 54 (nI 0)) 0 60 55 (nI 0)) 0 60 56 (nI 0)) 0 60 61 (nI 0)) 0 60 52 (nI 128)) 0 60 53 (nI 1)) 0 60 56 (nI 0)) 0 60 61 (nI 0)) 0 92 i (nI 1)) 0 60 52)) dX11_isTriedAgain_72 fl_11_295 (hG.m0 (by decide)) rfl ?_
  refine am_top (show (am_up (am_up (am_up (am_up (am_up (am_up (am_up (am_up (am_up (am_up (am_up (am_up (am_up I 0 91 i (nI 1)) 0 60 51 (nI i)) 0 60 52 (-1 : Int32)) 0 60 53 (nI 0)) 0 60 54 (nI 0)) 0 60 55 (nI 0)) 0 60 56 (nI 0)) 0 60 61 (nI 0)) 0 60 52 (nI 128)) 0 60 53 (nI 1)) 0 60 56 (nI 0)) 0 60 61 (nI 0)) 0 92 i (nI 1)) 0 60 52 = nI 128 from (by simp [am_up, am_upf, upd, hkd, hp, hl0, hls, htr])) ?_
  refine am_callSx (as := [.inl (nI i), .inl (nI 128)]) (rest := [.inr (0, 81)]) dX11_isTriedAgain_75 lkX11_at ml_X11_208 isX11_at rfl (Nat.le_of_ble_eq_true rfl) rfl (c_Mat hG.nd (g := i) (r := 128) (by omega) (by omega) (am_up (am_up (am_up (am_up (am_up (am_up (am_up (am_up (am_up (am_up (am_up (am_up (am_up I 0 91 i (nI 1)) 0 60 51 (nI i)) 0 60 52 (-1 : Int32)) 0 60 53 (nI 0)) 0 60 54 (nI 0)) 0 60 55 (nI 0)) 0 60 56 (nI 0)) 0 60 61 (nI 0)) 0 60 52 (nI 128)) 0 60 53 (nI 1)) 0 60 56 (nI 0)) 0 60 61 (nI 0)) 0 92 i (nI 1))) ?_
  refine am_aload_n dX11_isTriedAgain_78 rfl ?_
  refine am_get (v := .inl ((am_up (am_up (am_up (am_up (am_up (am_up (am_up (am_up (am_up (am_up (am_up (am_up (am_up I 0 91 i (nI 1)) 0 60 51 (nI i)) 0 60 52 (-1 : Int32)) 0 60 53 (nI 0)) 0 60 54 (nI 0)) 0 60 55 (nI 0)) 0 60 56 (nI 0)) 0 60 61 (nI 0)) 0 60 52 (nI 128)) 0 60 53 (nI 1)) 0 60 56 (nI 0)) 0 60 61 (nI 0)) 0 92 i (nI 1)) 0 60 53)) dX11_isTriedAgain_79 fl_11_301 (hG.m0 (by decide)) rfl ?_
  refine am_top (show (am_up (am_up (am_up (am_up (am_up (am_up (am_up (am_up (am_up (am_up (am_up (am_up (am_up I 0 91 i (nI 1)) 0 60 51 (nI i)) 0 60 52 (-1 : Int32)) 0 60 53 (nI 0)) 0 60 54 (nI 0)) 0 60 55 (nI 0)) 0 60 56 (nI 0)) 0 60 61 (nI 0)) 0 60 52 (nI 128)) 0 60 53 (nI 1)) 0 60 56 (nI 0)) 0 60 61 (nI 0)) 0 92 i (nI 1)) 0 60 53 = nI 1 from (by simp [am_up, am_upf, upd, hkd, hp, hl0, hls, htr])) ?_
  refine am_iast (a := 136 * i + 128) dX11_isTriedAgain_82 (hG.m0 (by decide)) rfl rfl (show 136 * i + 128 < 544 from (by omega)) (show 544 < 2 ^ 31 by decide) ?_
  refine am_aload_n dX11_isTriedAgain_83 rfl ?_
  refine am_iload_n dX11_isTriedAgain_84 rfl ?_
  refine am_callVe (i := 0) (j := 60) (as := [.inl (nI i)]) (rest := []) dX11_isTriedAgain_85 lkX11_unpin ml_X11_271 imX11_unpin seX11_unpin rfl rfl (hG.m0 (by decide)) rfl (Nat.le_of_ble_eq_true rfl) rfl (c_Munpin0 hG hi (fun k hk => by simp [am_up, am_upf, hpz k hk])) ?_
  refine am_iconst (v := nI 1) dX11_isTriedAgain_88 (by decide) ?_
  refine am_iret dX11_isTriedAgain_89 rfl (am_nz (by decide)).1 ?_
  exact ⟨rfl, rfl⟩
theorem c_Mnote0 {G : am_G} (hG : am_okM G) {d : Nat} {i : Nat} (hi : i < G.2.2.2.1) (I : am_I)  (htl : I 0 60 63 = nI 0) : am_C G d mX11_note [.inr (0, 60), .inl (nI i), .inl (nI 2), .inl (nI 0), .inl (nI 0)] I (am_E none (am_up (am_up (am_up (am_up (am_up (am_up (am_up (am_up (am_up (am_up (am_up (am_up I 0 125 0 (nI i)) 0 125 1 ((am_up I 0 125 0 (nI i)) 0 82 i)) 0 125 2 ((am_up (am_up I 0 125 0 (nI i)) 0 125 1 ((am_up I 0 125 0 (nI i)) 0 82 i)) 0 83 i)) 0 125 3 ((am_up (am_up (am_up I 0 125 0 (nI i)) 0 125 1 ((am_up I 0 125 0 (nI i)) 0 82 i)) 0 125 2 ((am_up (am_up I 0 125 0 (nI i)) 0 125 1 ((am_up I 0 125 0 (nI i)) 0 82 i)) 0 83 i)) 0 84 i)) 0 125 4 ((am_up (am_up (am_up (am_up I 0 125 0 (nI i)) 0 125 1 ((am_up I 0 125 0 (nI i)) 0 82 i)) 0 125 2 ((am_up (am_up I 0 125 0 (nI i)) 0 125 1 ((am_up I 0 125 0 (nI i)) 0 82 i)) 0 83 i)) 0 125 3 ((am_up (am_up (am_up I 0 125 0 (nI i)) 0 125 1 ((am_up I 0 125 0 (nI i)) 0 82 i)) 0 125 2 ((am_up (am_up I 0 125 0 (nI i)) 0 125 1 ((am_up I 0 125 0 (nI i)) 0 82 i)) 0 83 i)) 0 84 i)) 0 85 i)) 0 125 5 ((am_up (am_up (am_up (am_up (am_up I 0 125 0 (nI i)) 0 125 1 ((am_up I 0 125 0 (nI i)) 0 82 i)) 0 125 2 ((am_up (am_up I 0 125 0 (nI i)) 0 125 1 ((am_up I 0 125 0 (nI i)) 0 82 i)) 0 83 i)) 0 125 3 ((am_up (am_up (am_up I 0 125 0 (nI i)) 0 125 1 ((am_up I 0 125 0 (nI i)) 0 82 i)) 0 125 2 ((am_up (am_up I 0 125 0 (nI i)) 0 125 1 ((am_up I 0 125 0 (nI i)) 0 82 i)) 0 83 i)) 0 84 i)) 0 125 4 ((am_up (am_up (am_up (am_up I 0 125 0 (nI i)) 0 125 1 ((am_up I 0 125 0 (nI i)) 0 82 i)) 0 125 2 ((am_up (am_up I 0 125 0 (nI i)) 0 125 1 ((am_up I 0 125 0 (nI i)) 0 82 i)) 0 83 i)) 0 125 3 ((am_up (am_up (am_up I 0 125 0 (nI i)) 0 125 1 ((am_up I 0 125 0 (nI i)) 0 82 i)) 0 125 2 ((am_up (am_up I 0 125 0 (nI i)) 0 125 1 ((am_up I 0 125 0 (nI i)) 0 82 i)) 0 83 i)) 0 84 i)) 0 85 i)) 0 86 i)) 0 125 6 (nI 2)) 0 125 7 (nI 0)) 0 125 8 ((am_up (am_up (am_up (am_up (am_up (am_up (am_up (am_up I 0 125 0 (nI i)) 0 125 1 ((am_up I 0 125 0 (nI i)) 0 82 i)) 0 125 2 ((am_up (am_up I 0 125 0 (nI i)) 0 125 1 ((am_up I 0 125 0 (nI i)) 0 82 i)) 0 83 i)) 0 125 3 ((am_up (am_up (am_up I 0 125 0 (nI i)) 0 125 1 ((am_up I 0 125 0 (nI i)) 0 82 i)) 0 125 2 ((am_up (am_up I 0 125 0 (nI i)) 0 125 1 ((am_up I 0 125 0 (nI i)) 0 82 i)) 0 83 i)) 0 84 i)) 0 125 4 ((am_up (am_up (am_up (am_up I 0 125 0 (nI i)) 0 125 1 ((am_up I 0 125 0 (nI i)) 0 82 i)) 0 125 2 ((am_up (am_up I 0 125 0 (nI i)) 0 125 1 ((am_up I 0 125 0 (nI i)) 0 82 i)) 0 83 i)) 0 125 3 ((am_up (am_up (am_up I 0 125 0 (nI i)) 0 125 1 ((am_up I 0 125 0 (nI i)) 0 82 i)) 0 125 2 ((am_up (am_up I 0 125 0 (nI i)) 0 125 1 ((am_up I 0 125 0 (nI i)) 0 82 i)) 0 83 i)) 0 84 i)) 0 85 i)) 0 125 5 ((am_up (am_up (am_up (am_up (am_up I 0 125 0 (nI i)) 0 125 1 ((am_up I 0 125 0 (nI i)) 0 82 i)) 0 125 2 ((am_up (am_up I 0 125 0 (nI i)) 0 125 1 ((am_up I 0 125 0 (nI i)) 0 82 i)) 0 83 i)) 0 125 3 ((am_up (am_up (am_up I 0 125 0 (nI i)) 0 125 1 ((am_up I 0 125 0 (nI i)) 0 82 i)) 0 125 2 ((am_up (am_up I 0 125 0 (nI i)) 0 125 1 ((am_up I 0 125 0 (nI i)) 0 82 i)) 0 83 i)) 0 84 i)) 0 125 4 ((am_up (am_up (am_up (am_up I 0 125 0 (nI i)) 0 125 1 ((am_up I 0 125 0 (nI i)) 0 82 i)) 0 125 2 ((am_up (am_up I 0 125 0 (nI i)) 0 125 1 ((am_up I 0 125 0 (nI i)) 0 82 i)) 0 83 i)) 0 125 3 ((am_up (am_up (am_up I 0 125 0 (nI i)) 0 125 1 ((am_up I 0 125 0 (nI i)) 0 82 i)) 0 125 2 ((am_up (am_up I 0 125 0 (nI i)) 0 125 1 ((am_up I 0 125 0 (nI i)) 0 82 i)) 0 83 i)) 0 84 i)) 0 85 i)) 0 86 i)) 0 125 6 (nI 2)) 0 125 7 (nI 0)) 0 60 2)) 0 125 9 (nI 0)) 0 126 0 (nI 0)) 0 60 63 (nI 1))) := by
  have hn4 := hG.hi
  have hn2 := hG.lo
  refine am_of (by decide +kernel) hG.nd (Nat.le_of_ble_eq_true rfl) ?_
  refine am_aload_n dX11_note_0 rfl ?_
  refine am_get (v := .inl (I 0 60 63)) dX11_note_1 fl_11_274 (hG.m0 (by decide)) rfl ?_
  refine am_top (show I 0 60 63 = nI 0 from (by simp [am_up, am_upf, upd, htl])) ?_
  refine am_sipush (v := nI 400) dX11_note_4 (by decide) ?_
  refine am_icmp_ne (tgt := 11) dX11_note_7 (by decide) (fun _ => ?_) (fun h => absurd h (by decide))
  refine am_bipush (v := nI 10) dX11_note_11 (by decide) ?_
  refine am_aload_n dX11_note_13 rfl ?_
  refine am_get (v := .inl (I 0 60 63)) dX11_note_14 fl_11_274 (hG.m0 (by decide)) rfl ?_
  refine am_top (show I 0 60 63 = nI 0 from (by simp [am_up, am_upf, upd, htl])) ?_
  refine am_imul dX11_note_17 ?_
  refine am_top (show (nI 10) * (nI 0) = nI 0 by decide) ?_
  refine am_istore dX11_note_18 (by decide) ?_
  refine am_aload_n dX11_note_20 rfl ?_
  refine am_get (v := .inr (0, 125)) dX11_note_21 fl_11_156 (hG.m0 (by decide)) rfl ?_
  refine am_iload dX11_note_24 rfl ?_
  refine am_iload_n dX11_note_26 rfl ?_
  refine am_iast (a := 0) dX11_note_27 (hG.m0 (by decide)) rfl rfl (show 0 < 4000 from (by omega)) (show 4000 < 2 ^ 31 by decide) ?_
  refine am_aload_n dX11_note_28 rfl ?_
  refine am_get (v := .inr (0, 125)) dX11_note_29 fl_11_156 (hG.m0 (by decide)) rfl ?_
  refine am_iload dX11_note_32 rfl ?_
  refine am_iconst (v := nI 1) dX11_note_34 (by decide) ?_
  refine am_iadd dX11_note_35 ?_
  refine am_top (show (nI 0) + (nI 1) = nI 1 by decide) ?_
  refine am_aload_n dX11_note_36 rfl ?_
  refine am_get (v := .inr (0, 82)) dX11_note_37 fl_11_66 (hG.m0 (by decide)) rfl ?_
  refine am_iload_n dX11_note_40 rfl ?_
  refine am_iald (a := i) dX11_note_41 (hG.m0 (by decide)) rfl rfl (show i < 4 from (by omega)) (show 4 < 2 ^ 31 by decide) ?_
  refine am_iast (a := 1) dX11_note_42 (hG.m0 (by decide)) rfl rfl (show 1 < 4000 from (by omega)) (show 4000 < 2 ^ 31 by decide) ?_
  refine am_aload_n dX11_note_43 rfl ?_
  refine am_get (v := .inr (0, 125)) dX11_note_44 fl_11_156 (hG.m0 (by decide)) rfl ?_
  refine am_iload dX11_note_47 rfl ?_
  refine am_iconst (v := nI 2) dX11_note_49 (by decide) ?_
  refine am_iadd dX11_note_50 ?_
  refine am_top (show (nI 0) + (nI 2) = nI 2 by decide) ?_
  refine am_aload_n dX11_note_51 rfl ?_
  refine am_get (v := .inr (0, 83)) dX11_note_52 fl_11_69 (hG.m0 (by decide)) rfl ?_
  refine am_iload_n dX11_note_55 rfl ?_
  refine am_iald (a := i) dX11_note_56 (hG.m0 (by decide)) rfl rfl (show i < 4 from (by omega)) (show 4 < 2 ^ 31 by decide) ?_
  refine am_iast (a := 2) dX11_note_57 (hG.m0 (by decide)) rfl rfl (show 2 < 4000 from (by omega)) (show 4000 < 2 ^ 31 by decide) ?_
  refine am_aload_n dX11_note_58 rfl ?_
  refine am_get (v := .inr (0, 125)) dX11_note_59 fl_11_156 (hG.m0 (by decide)) rfl ?_
  refine am_iload dX11_note_62 rfl ?_
  refine am_iconst (v := nI 3) dX11_note_64 (by decide) ?_
  refine am_iadd dX11_note_65 ?_
  refine am_top (show (nI 0) + (nI 3) = nI 3 by decide) ?_
  refine am_aload_n dX11_note_66 rfl ?_
  refine am_get (v := .inr (0, 84)) dX11_note_67 fl_11_72 (hG.m0 (by decide)) rfl ?_
  refine am_iload_n dX11_note_70 rfl ?_
  refine am_iald (a := i) dX11_note_71 (hG.m0 (by decide)) rfl rfl (show i < 4 from (by omega)) (show 4 < 2 ^ 31 by decide) ?_
  refine am_iast (a := 3) dX11_note_72 (hG.m0 (by decide)) rfl rfl (show 3 < 4000 from (by omega)) (show 4000 < 2 ^ 31 by decide) ?_
  refine am_aload_n dX11_note_73 rfl ?_
  refine am_get (v := .inr (0, 125)) dX11_note_74 fl_11_156 (hG.m0 (by decide)) rfl ?_
  refine am_iload dX11_note_77 rfl ?_
  refine am_iconst (v := nI 4) dX11_note_79 (by decide) ?_
  refine am_iadd dX11_note_80 ?_
  refine am_top (show (nI 0) + (nI 4) = nI 4 by decide) ?_
  refine am_aload_n dX11_note_81 rfl ?_
  refine am_get (v := .inr (0, 85)) dX11_note_82 fl_11_75 (hG.m0 (by decide)) rfl ?_
  refine am_iload_n dX11_note_85 rfl ?_
  refine am_iald (a := i) dX11_note_86 (hG.m0 (by decide)) rfl rfl (show i < 4 from (by omega)) (show 4 < 2 ^ 31 by decide) ?_
  refine am_iast (a := 4) dX11_note_87 (hG.m0 (by decide)) rfl rfl (show 4 < 4000 from (by omega)) (show 4000 < 2 ^ 31 by decide) ?_
  refine am_aload_n dX11_note_88 rfl ?_
  refine am_get (v := .inr (0, 125)) dX11_note_89 fl_11_156 (hG.m0 (by decide)) rfl ?_
  refine am_iload dX11_note_92 rfl ?_
  refine am_iconst (v := nI 5) dX11_note_94 (by decide) ?_
  refine am_iadd dX11_note_95 ?_
  refine am_top (show (nI 0) + (nI 5) = nI 5 by decide) ?_
  refine am_aload_n dX11_note_96 rfl ?_
  refine am_get (v := .inr (0, 86)) dX11_note_97 fl_11_78 (hG.m0 (by decide)) rfl ?_
  refine am_iload_n dX11_note_100 rfl ?_
  refine am_iald (a := i) dX11_note_101 (hG.m0 (by decide)) rfl rfl (show i < 4 from (by omega)) (show 4 < 2 ^ 31 by decide) ?_
  refine am_iast (a := 5) dX11_note_102 (hG.m0 (by decide)) rfl rfl (show 5 < 4000 from (by omega)) (show 4000 < 2 ^ 31 by decide) ?_
  refine am_aload_n dX11_note_103 rfl ?_
  refine am_get (v := .inr (0, 125)) dX11_note_104 fl_11_156 (hG.m0 (by decide)) rfl ?_
  refine am_iload dX11_note_107 rfl ?_
  refine am_bipush (v := nI 6) dX11_note_109 (by decide) ?_
  refine am_iadd dX11_note_111 ?_
  refine am_top (show (nI 0) + (nI 6) = nI 6 by decide) ?_
  refine am_iload_n dX11_note_112 rfl ?_
  refine am_iast (a := 6) dX11_note_113 (hG.m0 (by decide)) rfl rfl (show 6 < 4000 from (by omega)) (show 4000 < 2 ^ 31 by decide) ?_
  refine am_aload_n dX11_note_114 rfl ?_
  refine am_get (v := .inr (0, 125)) dX11_note_115 fl_11_156 (hG.m0 (by decide)) rfl ?_
  refine am_iload dX11_note_118 rfl ?_
  refine am_bipush (v := nI 7) dX11_note_120 (by decide) ?_
  refine am_iadd dX11_note_122 ?_
  refine am_top (show (nI 0) + (nI 7) = nI 7 by decide) ?_
  refine am_iload_n dX11_note_123 rfl ?_
  refine am_iast (a := 7) dX11_note_124 (hG.m0 (by decide)) rfl rfl (show 7 < 4000 from (by omega)) (show 4000 < 2 ^ 31 by decide) ?_
  refine am_aload_n dX11_note_125 rfl ?_
  refine am_get (v := .inr (0, 125)) dX11_note_126 fl_11_156 (hG.m0 (by decide)) rfl ?_
  refine am_iload dX11_note_129 rfl ?_
  refine am_bipush (v := nI 8) dX11_note_131 (by decide) ?_
  refine am_iadd dX11_note_133 ?_
  refine am_top (show (nI 0) + (nI 8) = nI 8 by decide) ?_
  refine am_aload_n dX11_note_134 rfl ?_
  refine am_get (v := .inl ((am_up (am_up (am_up (am_up (am_up (am_up (am_up (am_up I 0 125 0 (nI i)) 0 125 1 ((am_up I 0 125 0 (nI i)) 0 82 i)) 0 125 2 ((am_up (am_up I 0 125 0 (nI i)) 0 125 1 ((am_up I 0 125 0 (nI i)) 0 82 i)) 0 83 i)) 0 125 3 ((am_up (am_up (am_up I 0 125 0 (nI i)) 0 125 1 ((am_up I 0 125 0 (nI i)) 0 82 i)) 0 125 2 ((am_up (am_up I 0 125 0 (nI i)) 0 125 1 ((am_up I 0 125 0 (nI i)) 0 82 i)) 0 83 i)) 0 84 i)) 0 125 4 ((am_up (am_up (am_up (am_up I 0 125 0 (nI i)) 0 125 1 ((am_up I 0 125 0 (nI i)) 0 82 i)) 0 125 2 ((am_up (am_up I 0 125 0 (nI i)) 0 125 1 ((am_up I 0 125 0 (nI i)) 0 82 i)) 0 83 i)) 0 125 3 ((am_up (am_up (am_up I 0 125 0 (nI i)) 0 125 1 ((am_up I 0 125 0 (nI i)) 0 82 i)) 0 125 2 ((am_up (am_up I 0 125 0 (nI i)) 0 125 1 ((am_up I 0 125 0 (nI i)) 0 82 i)) 0 83 i)) 0 84 i)) 0 85 i)) 0 125 5 ((am_up (am_up (am_up (am_up (am_up I 0 125 0 (nI i)) 0 125 1 ((am_up I 0 125 0 (nI i)) 0 82 i)) 0 125 2 ((am_up (am_up I 0 125 0 (nI i)) 0 125 1 ((am_up I 0 125 0 (nI i)) 0 82 i)) 0 83 i)) 0 125 3 ((am_up (am_up (am_up I 0 125 0 (nI i)) 0 125 1 ((am_up I 0 125 0 (nI i)) 0 82 i)) 0 125 2 ((am_up (am_up I 0 125 0 (nI i)) 0 125 1 ((am_up I 0 125 0 (nI i)) 0 82 i)) 0 83 i)) 0 84 i)) 0 125 4 ((am_up (am_up (am_up (am_up I 0 125 0 (nI i)) 0 125 1 ((am_up I 0 125 0 (nI i)) 0 82 i)) 0 125 2 ((am_up (am_up I 0 125 0 (nI i)) 0 125 1 ((am_up I 0 125 0 (nI i)) 0 82 i)) 0 83 i)) 0 125 3 ((am_up (am_up (am_up I 0 125 0 (nI i)) 0 125 1 ((am_up I 0 125 0 (nI i)) 0 82 i)) 0 125 2 ((am_up (am_up I 0 125 0 (nI i)) 0 125 1 ((am_up I 0 125 0 (nI i)) 0 82 i)) 0 83 i)) 0 84 i)) 0 85 i)) 0 86 i)) 0 125 6 (nI 2)) 0 125 7 (nI 0)) 0 60 2)) dX11_note_135 fl_11_194 (hG.m0 (by decide)) rfl ?_
  refine am_iast (a := 8) dX11_note_138 (hG.m0 (by decide)) rfl rfl (show 8 < 4000 from (by omega)) (show 4000 < 2 ^ 31 by decide) ?_
  refine am_aload_n dX11_note_139 rfl ?_
  refine am_get (v := .inr (0, 125)) dX11_note_140 fl_11_156 (hG.m0 (by decide)) rfl ?_
  refine am_iload dX11_note_143 rfl ?_
  refine am_bipush (v := nI 9) dX11_note_145 (by decide) ?_
  refine am_iadd dX11_note_147 ?_
  refine am_top (show (nI 0) + (nI 9) = nI 9 by decide) ?_
  refine am_iload dX11_note_148 rfl ?_
  refine am_iast (a := 9) dX11_note_150 (hG.m0 (by decide)) rfl rfl (show 9 < 4000 from (by omega)) (show 4000 < 2 ^ 31 by decide) ?_
  refine am_aload_n dX11_note_151 rfl ?_
  refine am_get (v := .inr (0, 126)) dX11_note_152 fl_11_159 (hG.m0 (by decide)) rfl ?_
  refine am_aload_n dX11_note_155 rfl ?_
  refine am_get (v := .inl ((am_up (am_up (am_up (am_up (am_up (am_up (am_up (am_up (am_up (am_up I 0 125 0 (nI i)) 0 125 1 ((am_up I 0 125 0 (nI i)) 0 82 i)) 0 125 2 ((am_up (am_up I 0 125 0 (nI i)) 0 125 1 ((am_up I 0 125 0 (nI i)) 0 82 i)) 0 83 i)) 0 125 3 ((am_up (am_up (am_up I 0 125 0 (nI i)) 0 125 1 ((am_up I 0 125 0 (nI i)) 0 82 i)) 0 125 2 ((am_up (am_up I 0 125 0 (nI i)) 0 125 1 ((am_up I 0 125 0 (nI i)) 0 82 i)) 0 83 i)) 0 84 i)) 0 125 4 ((am_up (am_up (am_up (am_up I 0 125 0 (nI i)) 0 125 1 ((am_up I 0 125 0 (nI i)) 0 82 i)) 0 125 2 ((am_up (am_up I 0 125 0 (nI i)) 0 125 1 ((am_up I 0 125 0 (nI i)) 0 82 i)) 0 83 i)) 0 125 3 ((am_up (am_up (am_up I 0 125 0 (nI i)) 0 125 1 ((am_up I 0 125 0 (nI i)) 0 82 i)) 0 125 2 ((am_up (am_up I 0 125 0 (nI i)) 0 125 1 ((am_up I 0 125 0 (nI i)) 0 82 i)) 0 83 i)) 0 84 i)) 0 85 i)) 0 125 5 ((am_up (am_up (am_up (am_up (am_up I 0 125 0 (nI i)) 0 125 1 ((am_up I 0 125 0 (nI i)) 0 82 i)) 0 125 2 ((am_up (am_up I 0 125 0 (nI i)) 0 125 1 ((am_up I 0 125 0 (nI i)) 0 82 i)) 0 83 i)) 0 125 3 ((am_up (am_up (am_up I 0 125 0 (nI i)) 0 125 1 ((am_up I 0 125 0 (nI i)) 0 82 i)) 0 125 2 ((am_up (am_up I 0 125 0 (nI i)) 0 125 1 ((am_up I 0 125 0 (nI i)) 0 82 i)) 0 83 i)) 0 84 i)) 0 125 4 ((am_up (am_up (am_up (am_up I 0 125 0 (nI i)) 0 125 1 ((am_up I 0 125 0 (nI i)) 0 82 i)) 0 125 2 ((am_up (am_up I 0 125 0 (nI i)) 0 125 1 ((am_up I 0 125 0 (nI i)) 0 82 i)) 0 83 i)) 0 125 3 ((am_up (am_up (am_up I 0 125 0 (nI i)) 0 125 1 ((am_up I 0 125 0 (nI i)) 0 82 i)) 0 125 2 ((am_up (am_up I 0 125 0 (nI i)) 0 125 1 ((am_up I 0 125 0 (nI i)) 0 82 i)) 0 83 i)) 0 84 i)) 0 85 i)) 0 86 i)) 0 125 6 (nI 2)) 0 125 7 (nI 0)) 0 125 8 ((am_up (am_up (am_up (am_up (am_up (am_up (am_up (am_up I 0 125 0 (nI i)) 0 125 1 ((am_up I 0 125 0 (nI i)) 0 82 i)) 0 125 2 ((am_up (am_up I 0 125 0 (nI i)) 0 125 1 ((am_up I 0 125 0 (nI i)) 0 82 i)) 0 83 i)) 0 125 3 ((am_up (am_up (am_up I 0 125 0 (nI i)) 0 125 1 ((am_up I 0 125 0 (nI i)) 0 82 i)) 0 125 2 ((am_up (am_up I 0 125 0 (nI i)) 0 125 1 ((am_up I 0 125 0 (nI i)) 0 82 i)) 0 83 i)) 0 84 i)) 0 125 4 ((am_up (am_up (am_up (am_up I 0 125 0 (nI i)) 0 125 1 ((am_up I 0 125 0 (nI i)) 0 82 i)) 0 125 2 ((am_up (am_up I 0 125 0 (nI i)) 0 125 1 ((am_up I 0 125 0 (nI i)) 0 82 i)) 0 83 i)) 0 125 3 ((am_up (am_up (am_up I 0 125 0 (nI i)) 0 125 1 ((am_up I 0 125 0 (nI i)) 0 82 i)) 0 125 2 ((am_up (am_up I 0 125 0 (nI i)) 0 125 1 ((am_up I 0 125 0 (nI i)) 0 82 i)) 0 83 i)) 0 84 i)) 0 85 i)) 0 125 5 ((am_up (am_up (am_up (am_up (am_up I 0 125 0 (nI i)) 0 125 1 ((am_up I 0 125 0 (nI i)) 0 82 i)) 0 125 2 ((am_up (am_up I 0 125 0 (nI i)) 0 125 1 ((am_up I 0 125 0 (nI i)) 0 82 i)) 0 83 i)) 0 125 3 ((am_up (am_up (am_up I 0 125 0 (nI i)) 0 125 1 ((am_up I 0 125 0 (nI i)) 0 82 i)) 0 125 2 ((am_up (am_up I 0 125 0 (nI i)) 0 125 1 ((am_up I 0 125 0 (nI i)) 0 82 i)) 0 83 i)) 0 84 i)) 0 125 4 ((am_up (am_up (am_up (am_up I 0 125 0 (nI i)) 0 125 1 ((am_up I 0 125 0 (nI i)) 0 82 i)) 0 125 2 ((am_up (am_up I 0 125 0 (nI i)) 0 125 1 ((am_up I 0 125 0 (nI i)) 0 82 i)) 0 83 i)) 0 125 3 ((am_up (am_up (am_up I 0 125 0 (nI i)) 0 125 1 ((am_up I 0 125 0 (nI i)) 0 82 i)) 0 125 2 ((am_up (am_up I 0 125 0 (nI i)) 0 125 1 ((am_up I 0 125 0 (nI i)) 0 82 i)) 0 83 i)) 0 84 i)) 0 85 i)) 0 86 i)) 0 125 6 (nI 2)) 0 125 7 (nI 0)) 0 60 2)) 0 125 9 (nI 0)) 0 60 63)) dX11_note_156 fl_11_274 (hG.m0 (by decide)) rfl ?_
  refine am_top (show (am_up (am_up (am_up (am_up (am_up (am_up (am_up (am_up (am_up (am_up I 0 125 0 (nI i)) 0 125 1 ((am_up I 0 125 0 (nI i)) 0 82 i)) 0 125 2 ((am_up (am_up I 0 125 0 (nI i)) 0 125 1 ((am_up I 0 125 0 (nI i)) 0 82 i)) 0 83 i)) 0 125 3 ((am_up (am_up (am_up I 0 125 0 (nI i)) 0 125 1 ((am_up I 0 125 0 (nI i)) 0 82 i)) 0 125 2 ((am_up (am_up I 0 125 0 (nI i)) 0 125 1 ((am_up I 0 125 0 (nI i)) 0 82 i)) 0 83 i)) 0 84 i)) 0 125 4 ((am_up (am_up (am_up (am_up I 0 125 0 (nI i)) 0 125 1 ((am_up I 0 125 0 (nI i)) 0 82 i)) 0 125 2 ((am_up (am_up I 0 125 0 (nI i)) 0 125 1 ((am_up I 0 125 0 (nI i)) 0 82 i)) 0 83 i)) 0 125 3 ((am_up (am_up (am_up I 0 125 0 (nI i)) 0 125 1 ((am_up I 0 125 0 (nI i)) 0 82 i)) 0 125 2 ((am_up (am_up I 0 125 0 (nI i)) 0 125 1 ((am_up I 0 125 0 (nI i)) 0 82 i)) 0 83 i)) 0 84 i)) 0 85 i)) 0 125 5 ((am_up (am_up (am_up (am_up (am_up I 0 125 0 (nI i)) 0 125 1 ((am_up I 0 125 0 (nI i)) 0 82 i)) 0 125 2 ((am_up (am_up I 0 125 0 (nI i)) 0 125 1 ((am_up I 0 125 0 (nI i)) 0 82 i)) 0 83 i)) 0 125 3 ((am_up (am_up (am_up I 0 125 0 (nI i)) 0 125 1 ((am_up I 0 125 0 (nI i)) 0 82 i)) 0 125 2 ((am_up (am_up I 0 125 0 (nI i)) 0 125 1 ((am_up I 0 125 0 (nI i)) 0 82 i)) 0 83 i)) 0 84 i)) 0 125 4 ((am_up (am_up (am_up (am_up I 0 125 0 (nI i)) 0 125 1 ((am_up I 0 125 0 (nI i)) 0 82 i)) 0 125 2 ((am_up (am_up I 0 125 0 (nI i)) 0 125 1 ((am_up I 0 125 0 (nI i)) 0 82 i)) 0 83 i)) 0 125 3 ((am_up (am_up (am_up I 0 125 0 (nI i)) 0 125 1 ((am_up I 0 125 0 (nI i)) 0 82 i)) 0 125 2 ((am_up (am_up I 0 125 0 (nI i)) 0 125 1 ((am_up I 0 125 0 (nI i)) 0 82 i)) 0 83 i)) 0 84 i)) 0 85 i)) 0 86 i)) 0 125 6 (nI 2)) 0 125 7 (nI 0)) 0 125 8 ((am_up (am_up (am_up (am_up (am_up (am_up (am_up (am_up I 0 125 0 (nI i)) 0 125 1 ((am_up I 0 125 0 (nI i)) 0 82 i)) 0 125 2 ((am_up (am_up I 0 125 0 (nI i)) 0 125 1 ((am_up I 0 125 0 (nI i)) 0 82 i)) 0 83 i)) 0 125 3 ((am_up (am_up (am_up I 0 125 0 (nI i)) 0 125 1 ((am_up I 0 125 0 (nI i)) 0 82 i)) 0 125 2 ((am_up (am_up I 0 125 0 (nI i)) 0 125 1 ((am_up I 0 125 0 (nI i)) 0 82 i)) 0 83 i)) 0 84 i)) 0 125 4 ((am_up (am_up (am_up (am_up I 0 125 0 (nI i)) 0 125 1 ((am_up I 0 125 0 (nI i)) 0 82 i)) 0 125 2 ((am_up (am_up I 0 125 0 (nI i)) 0 125 1 ((am_up I 0 125 0 (nI i)) 0 82 i)) 0 83 i)) 0 125 3 ((am_up (am_up (am_up I 0 125 0 (nI i)) 0 125 1 ((am_up I 0 125 0 (nI i)) 0 82 i)) 0 125 2 ((am_up (am_up I 0 125 0 (nI i)) 0 125 1 ((am_up I 0 125 0 (nI i)) 0 82 i)) 0 83 i)) 0 84 i)) 0 85 i)) 0 125 5 ((am_up (am_up (am_up (am_up (am_up I 0 125 0 (nI i)) 0 125 1 ((am_up I 0 125 0 (nI i)) 0 82 i)) 0 125 2 ((am_up (am_up I 0 125 0 (nI i)) 0 125 1 ((am_up I 0 125 0 (nI i)) 0 82 i)) 0 83 i)) 0 125 3 ((am_up (am_up (am_up I 0 125 0 (nI i)) 0 125 1 ((am_up I 0 125 0 (nI i)) 0 82 i)) 0 125 2 ((am_up (am_up I 0 125 0 (nI i)) 0 125 1 ((am_up I 0 125 0 (nI i)) 0 82 i)) 0 83 i)) 0 84 i)) 0 125 4 ((am_up (am_up (am_up (am_up I 0 125 0 (nI i)) 0 125 1 ((am_up I 0 125 0 (nI i)) 0 82 i)) 0 125 2 ((am_up (am_up I 0 125 0 (nI i)) 0 125 1 ((am_up I 0 125 0 (nI i)) 0 82 i)) 0 83 i)) 0 125 3 ((am_up (am_up (am_up I 0 125 0 (nI i)) 0 125 1 ((am_up I 0 125 0 (nI i)) 0 82 i)) 0 125 2 ((am_up (am_up I 0 125 0 (nI i)) 0 125 1 ((am_up I 0 125 0 (nI i)) 0 82 i)) 0 83 i)) 0 84 i)) 0 85 i)) 0 86 i)) 0 125 6 (nI 2)) 0 125 7 (nI 0)) 0 60 2)) 0 125 9 (nI 0)) 0 60 63 = nI 0 from (by simp [am_up, am_upf, upd, htl])) ?_
  refine am_iconst (v := nI 0) dX11_note_159 (by decide) ?_
  refine am_zast (a := 0) dX11_note_160 (hG.m0 (by decide)) rfl (by decide) rfl (show 0 < 400 from (by omega)) (show 400 < 2 ^ 31 by decide) ?_
  refine am_aload_n dX11_note_161 rfl ?_
  refine am_dup dX11_note_162 ?_
  refine am_get (v := .inl ((am_up (am_up (am_up (am_up (am_up (am_up (am_up (am_up (am_up (am_up (am_up I 0 125 0 (nI i)) 0 125 1 ((am_up I 0 125 0 (nI i)) 0 82 i)) 0 125 2 ((am_up (am_up I 0 125 0 (nI i)) 0 125 1 ((am_up I 0 125 0 (nI i)) 0 82 i)) 0 83 i)) 0 125 3 ((am_up (am_up (am_up I 0 125 0 (nI i)) 0 125 1 ((am_up I 0 125 0 (nI i)) 0 82 i)) 0 125 2 ((am_up (am_up I 0 125 0 (nI i)) 0 125 1 ((am_up I 0 125 0 (nI i)) 0 82 i)) 0 83 i)) 0 84 i)) 0 125 4 ((am_up (am_up (am_up (am_up I 0 125 0 (nI i)) 0 125 1 ((am_up I 0 125 0 (nI i)) 0 82 i)) 0 125 2 ((am_up (am_up I 0 125 0 (nI i)) 0 125 1 ((am_up I 0 125 0 (nI i)) 0 82 i)) 0 83 i)) 0 125 3 ((am_up (am_up (am_up I 0 125 0 (nI i)) 0 125 1 ((am_up I 0 125 0 (nI i)) 0 82 i)) 0 125 2 ((am_up (am_up I 0 125 0 (nI i)) 0 125 1 ((am_up I 0 125 0 (nI i)) 0 82 i)) 0 83 i)) 0 84 i)) 0 85 i)) 0 125 5 ((am_up (am_up (am_up (am_up (am_up I 0 125 0 (nI i)) 0 125 1 ((am_up I 0 125 0 (nI i)) 0 82 i)) 0 125 2 ((am_up (am_up I 0 125 0 (nI i)) 0 125 1 ((am_up I 0 125 0 (nI i)) 0 82 i)) 0 83 i)) 0 125 3 ((am_up (am_up (am_up I 0 125 0 (nI i)) 0 125 1 ((am_up I 0 125 0 (nI i)) 0 82 i)) 0 125 2 ((am_up (am_up I 0 125 0 (nI i)) 0 125 1 ((am_up I 0 125 0 (nI i)) 0 82 i)) 0 83 i)) 0 84 i)) 0 125 4 ((am_up (am_up (am_up (am_up I 0 125 0 (nI i)) 0 125 1 ((am_up I 0 125 0 (nI i)) 0 82 i)) 0 125 2 ((am_up (am_up I 0 125 0 (nI i)) 0 125 1 ((am_up I 0 125 0 (nI i)) 0 82 i)) 0 83 i)) 0 125 3 ((am_up (am_up (am_up I 0 125 0 (nI i)) 0 125 1 ((am_up I 0 125 0 (nI i)) 0 82 i)) 0 125 2 ((am_up (am_up I 0 125 0 (nI i)) 0 125 1 ((am_up I 0 125 0 (nI i)) 0 82 i)) 0 83 i)) 0 84 i)) 0 85 i)) 0 86 i)) 0 125 6 (nI 2)) 0 125 7 (nI 0)) 0 125 8 ((am_up (am_up (am_up (am_up (am_up (am_up (am_up (am_up I 0 125 0 (nI i)) 0 125 1 ((am_up I 0 125 0 (nI i)) 0 82 i)) 0 125 2 ((am_up (am_up I 0 125 0 (nI i)) 0 125 1 ((am_up I 0 125 0 (nI i)) 0 82 i)) 0 83 i)) 0 125 3 ((am_up (am_up (am_up I 0 125 0 (nI i)) 0 125 1 ((am_up I 0 125 0 (nI i)) 0 82 i)) 0 125 2 ((am_up (am_up I 0 125 0 (nI i)) 0 125 1 ((am_up I 0 125 0 (nI i)) 0 82 i)) 0 83 i)) 0 84 i)) 0 125 4 ((am_up (am_up (am_up (am_up I 0 125 0 (nI i)) 0 125 1 ((am_up I 0 125 0 (nI i)) 0 82 i)) 0 125 2 ((am_up (am_up I 0 125 0 (nI i)) 0 125 1 ((am_up I 0 125 0 (nI i)) 0 82 i)) 0 83 i)) 0 125 3 ((am_up (am_up (am_up I 0 125 0 (nI i)) 0 125 1 ((am_up I 0 125 0 (nI i)) 0 82 i)) 0 125 2 ((am_up (am_up I 0 125 0 (nI i)) 0 125 1 ((am_up I 0 125 0 (nI i)) 0 82 i)) 0 83 i)) 0 84 i)) 0 85 i)) 0 125 5 ((am_up (am_up (am_up (am_up (am_up I 0 125 0 (nI i)) 0 125 1 ((am_up I 0 125 0 (nI i)) 0 82 i)) 0 125 2 ((am_up (am_up I 0 125 0 (nI i)) 0 125 1 ((am_up I 0 125 0 (nI i)) 0 82 i)) 0 83 i)) 0 125 3 ((am_up (am_up (am_up I 0 125 0 (nI i)) 0 125 1 ((am_up I 0 125 0 (nI i)) 0 82 i)) 0 125 2 ((am_up (am_up I 0 125 0 (nI i)) 0 125 1 ((am_up I 0 125 0 (nI i)) 0 82 i)) 0 83 i)) 0 84 i)) 0 125 4 ((am_up (am_up (am_up (am_up I 0 125 0 (nI i)) 0 125 1 ((am_up I 0 125 0 (nI i)) 0 82 i)) 0 125 2 ((am_up (am_up I 0 125 0 (nI i)) 0 125 1 ((am_up I 0 125 0 (nI i)) 0 82 i)) 0 83 i)) 0 125 3 ((am_up (am_up (am_up I 0 125 0 (nI i)) 0 125 1 ((am_up I 0 125 0 (nI i)) 0 82 i)) 0 125 2 ((am_up (am_up I 0 125 0 (nI i)) 0 125 1 ((am_up I 0 125 0 (nI i)) 0 82 i)) 0 83 i)) 0 84 i)) 0 85 i)) 0 86 i)) 0 125 6 (nI 2)) 0 125 7 (nI 0)) 0 60 2)) 0 125 9 (nI 0)) 0 126 0 (nI 0)) 0 60 63)) dX11_note_163 fl_11_274 (hG.m0 (by decide)) rfl ?_
  refine am_top (show (am_up (am_up (am_up (am_up (am_up (am_up (am_up (am_up (am_up (am_up (am_up I 0 125 0 (nI i)) 0 125 1 ((am_up I 0 125 0 (nI i)) 0 82 i)) 0 125 2 ((am_up (am_up I 0 125 0 (nI i)) 0 125 1 ((am_up I 0 125 0 (nI i)) 0 82 i)) 0 83 i)) 0 125 3 ((am_up (am_up (am_up I 0 125 0 (nI i)) 0 125 1 ((am_up I 0 125 0 (nI i)) 0 82 i)) 0 125 2 ((am_up (am_up I 0 125 0 (nI i)) 0 125 1 ((am_up I 0 125 0 (nI i)) 0 82 i)) 0 83 i)) 0 84 i)) 0 125 4 ((am_up (am_up (am_up (am_up I 0 125 0 (nI i)) 0 125 1 ((am_up I 0 125 0 (nI i)) 0 82 i)) 0 125 2 ((am_up (am_up I 0 125 0 (nI i)) 0 125 1 ((am_up I 0 125 0 (nI i)) 0 82 i)) 0 83 i)) 0 125 3 ((am_up (am_up (am_up I 0 125 0 (nI i)) 0 125 1 ((am_up I 0 125 0 (nI i)) 0 82 i)) 0 125 2 ((am_up (am_up I 0 125 0 (nI i)) 0 125 1 ((am_up I 0 125 0 (nI i)) 0 82 i)) 0 83 i)) 0 84 i)) 0 85 i)) 0 125 5 ((am_up (am_up (am_up (am_up (am_up I 0 125 0 (nI i)) 0 125 1 ((am_up I 0 125 0 (nI i)) 0 82 i)) 0 125 2 ((am_up (am_up I 0 125 0 (nI i)) 0 125 1 ((am_up I 0 125 0 (nI i)) 0 82 i)) 0 83 i)) 0 125 3 ((am_up (am_up (am_up I 0 125 0 (nI i)) 0 125 1 ((am_up I 0 125 0 (nI i)) 0 82 i)) 0 125 2 ((am_up (am_up I 0 125 0 (nI i)) 0 125 1 ((am_up I 0 125 0 (nI i)) 0 82 i)) 0 83 i)) 0 84 i)) 0 125 4 ((am_up (am_up (am_up (am_up I 0 125 0 (nI i)) 0 125 1 ((am_up I 0 125 0 (nI i)) 0 82 i)) 0 125 2 ((am_up (am_up I 0 125 0 (nI i)) 0 125 1 ((am_up I 0 125 0 (nI i)) 0 82 i)) 0 83 i)) 0 125 3 ((am_up (am_up (am_up I 0 125 0 (nI i)) 0 125 1 ((am_up I 0 125 0 (nI i)) 0 82 i)) 0 125 2 ((am_up (am_up I 0 125 0 (nI i)) 0 125 1 ((am_up I 0 125 0 (nI i)) 0 82 i)) 0 83 i)) 0 84 i)) 0 85 i)) 0 86 i)) 0 125 6 (nI 2)) 0 125 7 (nI 0)) 0 125 8 ((am_up (am_up (am_up (am_up (am_up (am_up (am_up (am_up I 0 125 0 (nI i)) 0 125 1 ((am_up I 0 125 0 (nI i)) 0 82 i)) 0 125 2 ((am_up (am_up I 0 125 0 (nI i)) 0 125 1 ((am_up I 0 125 0 (nI i)) 0 82 i)) 0 83 i)) 0 125 3 ((am_up (am_up (am_up I 0 125 0 (nI i)) 0 125 1 ((am_up I 0 125 0 (nI i)) 0 82 i)) 0 125 2 ((am_up (am_up I 0 125 0 (nI i)) 0 125 1 ((am_up I 0 125 0 (nI i)) 0 82 i)) 0 83 i)) 0 84 i)) 0 125 4 ((am_up (am_up (am_up (am_up I 0 125 0 (nI i)) 0 125 1 ((am_up I 0 125 0 (nI i)) 0 82 i)) 0 125 2 ((am_up (am_up I 0 125 0 (nI i)) 0 125 1 ((am_up I 0 125 0 (nI i)) 0 82 i)) 0 83 i)) 0 125 3 ((am_up (am_up (am_up I 0 125 0 (nI i)) 0 125 1 ((am_up I 0 125 0 (nI i)) 0 82 i)) 0 125 2 ((am_up (am_up I 0 125 0 (nI i)) 0 125 1 ((am_up I 0 125 0 (nI i)) 0 82 i)) 0 83 i)) 0 84 i)) 0 85 i)) 0 125 5 ((am_up (am_up (am_up (am_up (am_up I 0 125 0 (nI i)) 0 125 1 ((am_up I 0 125 0 (nI i)) 0 82 i)) 0 125 2 ((am_up (am_up I 0 125 0 (nI i)) 0 125 1 ((am_up I 0 125 0 (nI i)) 0 82 i)) 0 83 i)) 0 125 3 ((am_up (am_up (am_up I 0 125 0 (nI i)) 0 125 1 ((am_up I 0 125 0 (nI i)) 0 82 i)) 0 125 2 ((am_up (am_up I 0 125 0 (nI i)) 0 125 1 ((am_up I 0 125 0 (nI i)) 0 82 i)) 0 83 i)) 0 84 i)) 0 125 4 ((am_up (am_up (am_up (am_up I 0 125 0 (nI i)) 0 125 1 ((am_up I 0 125 0 (nI i)) 0 82 i)) 0 125 2 ((am_up (am_up I 0 125 0 (nI i)) 0 125 1 ((am_up I 0 125 0 (nI i)) 0 82 i)) 0 83 i)) 0 125 3 ((am_up (am_up (am_up I 0 125 0 (nI i)) 0 125 1 ((am_up I 0 125 0 (nI i)) 0 82 i)) 0 125 2 ((am_up (am_up I 0 125 0 (nI i)) 0 125 1 ((am_up I 0 125 0 (nI i)) 0 82 i)) 0 83 i)) 0 84 i)) 0 85 i)) 0 86 i)) 0 125 6 (nI 2)) 0 125 7 (nI 0)) 0 60 2)) 0 125 9 (nI 0)) 0 126 0 (nI 0)) 0 60 63 = nI 0 from (by simp [am_up, am_upf, upd, htl])) ?_
  refine am_iconst (v := nI 1) dX11_note_166 (by decide) ?_
  refine am_iadd dX11_note_167 ?_
  refine am_top (show (nI 0) + (nI 1) = nI 1 by decide) ?_
  refine am_put (x := nI 1) dX11_note_168 fp_11_274 (hG.m0 (by decide)) (Nat.le_of_ble_eq_true rfl) rfl ?_
  refine am_vret dX11_note_171 rfl ?_
  exact ⟨rfl, rfl⟩
theorem c_Mend0 {G : am_G} (hG : am_okM G) {d : Nat} {i : Nat} (hi : i < G.2.2.2.1) (I : am_I) (hpz : ∀ k, k < 544 → I 0 79 k = nI 0)  : am_C G (d + 2) mX11_end [.inr (0, 60), .inl (nI i), .inl (nI 2), .inl (nI 0)] I (am_E none (am_up (am_up (am_up (am_up I 0 87 i (nI 2)) 0 88 i (nI 0)) 0 90 i (((am_up (am_up I 0 87 i (nI 2)) 0 88 i (nI 0)) 0 60 2) - ((am_up (am_up I 0 87 i (nI 2)) 0 88 i (nI 0)) 0 89 i))) 0 60 49 (((am_up (am_up (am_up I 0 87 i (nI 2)) 0 88 i (nI 0)) 0 90 i (((am_up (am_up I 0 87 i (nI 2)) 0 88 i (nI 0)) 0 60 2) - ((am_up (am_up I 0 87 i (nI 2)) 0 88 i (nI 0)) 0 89 i))) 0 60 49) + (nI 1)))) := by
  have hn4 := hG.hi
  have hn2 := hG.lo
  refine am_of (by decide +kernel) hG.nd (Nat.le_of_ble_eq_true rfl) ?_
  refine am_aload_n dX11_end_0 rfl ?_
  refine am_get (v := .inr (0, 87)) dX11_end_1 fl_11_81 (hG.m0 (by decide)) rfl ?_
  refine am_iload_n dX11_end_4 rfl ?_
  refine am_iload_n dX11_end_5 rfl ?_
  refine am_iast (a := i) dX11_end_6 (hG.m0 (by decide)) rfl rfl (show i < 4 from (by omega)) (show 4 < 2 ^ 31 by decide) ?_
  refine am_aload_n dX11_end_7 rfl ?_
  refine am_get (v := .inr (0, 88)) dX11_end_8 fl_11_84 (hG.m0 (by decide)) rfl ?_
  refine am_iload_n dX11_end_11 rfl ?_
  refine am_iload_n dX11_end_12 rfl ?_
  refine am_iast (a := i) dX11_end_13 (hG.m0 (by decide)) rfl rfl (show i < 4 from (by omega)) (show 4 < 2 ^ 31 by decide) ?_
  refine am_aload_n dX11_end_14 rfl ?_
  refine am_get (v := .inr (0, 90)) dX11_end_15 fl_11_90 (hG.m0 (by decide)) rfl ?_
  refine am_iload_n dX11_end_18 rfl ?_
  refine am_aload_n dX11_end_19 rfl ?_
  refine am_get (v := .inl ((am_up (am_up I 0 87 i (nI 2)) 0 88 i (nI 0)) 0 60 2)) dX11_end_20 fl_11_194 (hG.m0 (by decide)) rfl ?_
  refine am_aload_n dX11_end_23 rfl ?_
  refine am_get (v := .inr (0, 89)) dX11_end_24 fl_11_87 (hG.m0 (by decide)) rfl ?_
  refine am_iload_n dX11_end_27 rfl ?_
  refine am_iald (a := i) dX11_end_28 (hG.m0 (by decide)) rfl rfl (show i < 4 from (by omega)) (show 4 < 2 ^ 31 by decide) ?_
  refine am_isub dX11_end_29 ?_
  refine am_iast (a := i) dX11_end_30 (hG.m0 (by decide)) rfl rfl (show i < 4 from (by omega)) (show 4 < 2 ^ 31 by decide) ?_
  refine am_aload_n dX11_end_31 rfl ?_
  refine am_dup dX11_end_32 ?_
  refine am_get (v := .inl ((am_up (am_up (am_up I 0 87 i (nI 2)) 0 88 i (nI 0)) 0 90 i (((am_up (am_up I 0 87 i (nI 2)) 0 88 i (nI 0)) 0 60 2) - ((am_up (am_up I 0 87 i (nI 2)) 0 88 i (nI 0)) 0 89 i))) 0 60 49)) dX11_end_33 fl_11_268 (hG.m0 (by decide)) rfl ?_
  refine am_iconst (v := nI 1) dX11_end_36 (by decide) ?_
  refine am_iadd dX11_end_37 ?_
  refine am_put (x := ((am_up (am_up (am_up I 0 87 i (nI 2)) 0 88 i (nI 0)) 0 90 i (((am_up (am_up I 0 87 i (nI 2)) 0 88 i (nI 0)) 0 60 2) - ((am_up (am_up I 0 87 i (nI 2)) 0 88 i (nI 0)) 0 89 i))) 0 60 49) + (nI 1)) dX11_end_38 fp_11_268 (hG.m0 (by decide)) (Nat.le_of_ble_eq_true rfl) rfl ?_
  refine am_aload_n dX11_end_41 rfl ?_
  refine am_iload_n dX11_end_42 rfl ?_
  refine am_callVe (i := 0) (j := 60) (as := [.inl (nI i)]) (rest := []) dX11_end_43 lkX11_unpin ml_X11_271 imX11_unpin seX11_unpin rfl rfl (hG.m0 (by decide)) rfl (Nat.le_of_ble_eq_true rfl) rfl (c_Munpin0 hG hi (fun k hk => by simp [am_up, am_upf, hpz k hk])) ?_
  refine am_vret dX11_end_46 rfl ?_
  exact ⟨rfl, rfl⟩
theorem c_MgoOnSync0 {G : am_G} (hG : am_okM G) {d : Nat} {i : Nat} (hi : i < G.2.2.2.1) (I : am_I) (hpz : ∀ k, k < 544 → I 0 79 k = nI 0)  (hfm : I 0 72 i = nI 0) (hlg : I 0 70 i = nI 0) (htl : I 0 60 63 = nI 0) : am_C G (d + 3) mX11_goOnSync [.inr (0, 60), .inl (nI i)] I (fun r J => r = none ∧ J 0 87 i = nI 2 ∧ J 0 60 0 = I 0 60 0) := by
  have hn4 := hG.hi
  have hn2 := hG.lo
  refine am_of (by decide +kernel) hG.nd (Nat.le_of_ble_eq_true rfl) ?_
  refine am_aload_n dX11_goOnSync_0 rfl ?_
  refine am_get (v := .inr (0, 72)) dX11_goOnSync_1 fl_11_36 (hG.m0 (by decide)) rfl ?_
  refine am_iload_n dX11_goOnSync_4 rfl ?_
  refine am_iald (a := i) dX11_goOnSync_5 (hG.m0 (by decide)) rfl rfl (show i < 4 from (by omega)) (show 4 < 2 ^ 31 by decide) ?_
  refine am_top (show I 0 72 i = nI 0 from (by simp [am_up, am_upf, upd, hfm, hlg, htl])) ?_
  refine am_if_ne (tgt := 46) dX11_goOnSync_6 (by decide) (fun h => absurd h (by decide)) (fun _ => ?_)
  refine am_aload_n dX11_goOnSync_9 rfl ?_
  refine am_get (v := .inr (0, 70)) dX11_goOnSync_10 fl_11_30 (hG.m0 (by decide)) rfl ?_
  refine am_iload_n dX11_goOnSync_13 rfl ?_
  refine am_iald (a := i) dX11_goOnSync_14 (hG.m0 (by decide)) rfl rfl (show i < 4 from (by omega)) (show 4 < 2 ^ 31 by decide) ?_
  refine am_top (show I 0 70 i = nI 0 from (by simp [am_up, am_upf, upd, hfm, hlg, htl])) ?_
  refine am_if_ne (tgt := 46) dX11_goOnSync_15 (by decide) (fun h => absurd h (by decide)) (fun _ => ?_)
  refine am_aload_n dX11_goOnSync_18 rfl ?_
  refine am_get (v := .inr (0, 91)) dX11_goOnSync_19 fl_11_93 (hG.m0 (by decide)) rfl ?_
  refine am_iload_n dX11_goOnSync_22 rfl ?_
  refine am_dup2 dX11_goOnSync_23 ?_
  refine am_iald (a := i) dX11_goOnSync_24 (hG.m0 (by decide)) rfl rfl (show i < 4 from (by omega)) (show 4 < 2 ^ 31 by decide) ?_
  refine am_iconst (v := nI 1) dX11_goOnSync_25 (by decide) ?_
  refine am_iadd dX11_goOnSync_26 ?_
  refine am_iast (a := i) dX11_goOnSync_27 (hG.m0 (by decide)) rfl rfl (show i < 4 from (by omega)) (show 4 < 2 ^ 31 by decide) ?_
  refine am_aload_n dX11_goOnSync_28 rfl ?_
  refine am_iload_n dX11_goOnSync_29 rfl ?_
  refine am_iconst (v := nI 2) dX11_goOnSync_30 (by decide) ?_
  refine am_iconst (v := nI 0) dX11_goOnSync_31 (by decide) ?_
  refine am_iconst (v := nI 0) dX11_goOnSync_32 (by decide) ?_
  refine am_callVe (i := 0) (j := 60) (as := [.inl (nI i), .inl (nI 2), .inl (nI 0), .inl (nI 0)]) (rest := []) dX11_goOnSync_33 lkX11_note ml_X11_286 imX11_note seX11_note rfl rfl (hG.m0 (by decide)) rfl (Nat.le_of_ble_eq_true rfl) rfl (c_Mnote0 hG hi (am_up I 0 91 i ((I 0 91 i) + (nI 1))) (by simp [am_up, am_upf, upd, hfm, hlg, htl])) ?_
  refine am_nm (fun I1 hI1 => ?_)
  refine am_aload_n dX11_goOnSync_36 rfl ?_
  refine am_iload_n dX11_goOnSync_37 rfl ?_
  refine am_iconst (v := nI 2) dX11_goOnSync_38 (by decide) ?_
  refine am_iconst (v := nI 0) dX11_goOnSync_39 (by decide) ?_
  refine am_callVe (i := 0) (j := 60) (as := [.inl (nI i), .inl (nI 2), .inl (nI 0)]) (rest := []) dX11_goOnSync_40 lkX11_end ml_X11_289 imX11_end seX11_end rfl rfl (hG.m0 (by decide)) rfl (Nat.le_of_ble_eq_true rfl) rfl (c_Mend0 hG hi I1 (fun k hk => by simp [am_up, am_upf, hpz k hk, hI1])) ?_
  refine am_nm (fun I2 hI2 => ?_)
  refine am_goto (tgt := 60) dX11_goOnSync_43 (by decide) ?_
  refine am_vret dX11_goOnSync_60 rfl ?_
  exact ⟨rfl, (by simp [am_up, am_upf, upd, hfm, hlg, htl, hI1, hI2]), (by simp [am_up, am_upf, upd, hfm, hlg, htl, hI1, hI2])⟩
theorem c_MgoOn0 {G : am_G} (hG : am_okM G) {d : Nat} {i a : Nat} (hi : i < G.2.2.2.1) (hab : a < 128) (I : am_I) (hpz : ∀ k, k < 544 → I 0 79 k = nI 0) (hlz : ∀ k, k < 544 → I 0 81 k = nI 0) (hj : ∀ x, x < G.2.2.2.1 → I 0 66 x = nI 1) (hu : ∀ x, x < G.2.2.2.1 → I 0 65 x = nI 1) (hdl : ∀ f t, I 0 107 (4 * f + t) = nI 1) (hld : ∀ f t, I 0 108 (4 * f + t) = nI 0)  (hkd : I 0 82 i = nI 0) (hst : I 0 87 i = nI 1) (hfl : I 0 93 i = nI 0) (hfm : I 0 72 i = nI 0) (hms : I 0 60 38 = nI 0) (htm : I 0 60 2 = nI 0) (hnn : I 0 60 1 = nI G.2.2.2.1) (ha : I 0 83 i = nI a) (hp : I 0 79 (136 * i + a) = nI 0) (hl0 : I 0 81 (136 * i + a) = nI 0) (hls : I 0 92 i = nI 0) (htr : I 0 91 i = nI 0) (hha : I 0 76 (136 * i + a) = nI 0) (hba : I 0 78 (136 * i + a) = (-1 : Int32)) (haa : I 0 77 (136 * i + a) = nI 0) : am_C G (d + 6) mX11_goOn [.inr (0, 60), .inl (nI i)] I (fun r J => r = none ∧ J 0 87 i = nI 1 ∧ J 0 60 0 = I 0 60 0) := by
  have hn4 := hG.hi
  have hn2 := hG.lo
  refine am_of (by decide +kernel) hG.nd (Nat.le_of_ble_eq_true rfl) ?_
  refine am_aload_n dX11_goOn_0 rfl ?_
  refine am_iload_n dX11_goOn_1 rfl ?_
  refine am_callVx (i := 0) (j := 60) (as := [.inl (nI i)]) (rest := []) dX11_goOn_2 lkX11_isCalling ml_X11_264 imX11_isCalling seX11_isCalling rfl rfl (hG.m0 (by decide)) rfl (Nat.le_of_ble_eq_true rfl) rfl (c_MisCalling1 hG hi I (by simp [am_up, am_upf, upd, hkd, hst, hfl, hfm, hms, htm, hnn, ha, hp, hl0, hls, htr, hha, hba, haa])) ?_
  refine am_istore_n dX11_goOn_5 (by decide) ?_
  refine am_iload_n dX11_goOn_6 rfl ?_
  refine am_if_eq (tgt := 86) dX11_goOn_7 (by decide) (fun h => absurd h (by decide)) (fun _ => ?_)
  refine am_aload_n dX11_goOn_10 rfl ?_
  refine am_get (v := .inr (0, 82)) dX11_goOn_11 fl_11_66 (hG.m0 (by decide)) rfl ?_
  refine am_iload_n dX11_goOn_14 rfl ?_
  refine am_iald (a := i) dX11_goOn_15 (hG.m0 (by decide)) rfl rfl (show i < 4 from (by omega)) (show 4 < 2 ^ 31 by decide) ?_
  refine am_top (show I 0 82 i = nI 0 from (by simp [am_up, am_upf, upd, hkd, hst, hfl, hfm, hms, htm, hnn, ha, hp, hl0, hls, htr, hha, hba, haa])) ?_
  refine am_bipush (v := nI 10) dX11_goOn_16 (by decide) ?_
  refine am_icmp_ne (tgt := 31) dX11_goOn_18 (by decide) (fun _ => ?_) (fun h => absurd h (by decide))
  refine am_aload_n dX11_goOn_31 rfl ?_
  refine am_get (v := .inr (0, 93)) dX11_goOn_32 fl_11_99 (hG.m0 (by decide)) rfl ?_
  refine am_iload_n dX11_goOn_35 rfl ?_
  refine am_zald (a := i) dX11_goOn_36 (hG.m0 (by decide)) rfl rfl (show i < 4 from (by omega)) (show 4 < 2 ^ 31 by decide) ?_
  refine am_top (show I 0 93 i = nI 0 from (by simp [am_up, am_upf, upd, hkd, hst, hfl, hfm, hms, htm, hnn, ha, hp, hl0, hls, htr, hha, hba, haa])) ?_
  refine am_if_eq (tgt := 54) dX11_goOn_37 (by decide) (fun _ => ?_) (fun h => absurd h (by decide))
  refine am_aload_n dX11_goOn_54 rfl ?_
  refine am_get (v := .inr (0, 93)) dX11_goOn_55 fl_11_99 (hG.m0 (by decide)) rfl ?_
  refine am_iload_n dX11_goOn_58 rfl ?_
  refine am_iconst (v := nI 0) dX11_goOn_59 (by decide) ?_
  refine am_zast (a := i) dX11_goOn_60 (hG.m0 (by decide)) rfl (by decide) rfl (show i < 4 from (by omega)) (show 4 < 2 ^ 31 by decide) ?_
  refine am_aload_n dX11_goOn_61 rfl ?_
  refine am_iload_n dX11_goOn_62 rfl ?_
  refine am_callVx (i := 0) (j := 60) (as := [.inl (nI i)]) (rest := []) dX11_goOn_63 lkX11_pinAll ml_X11_280 imX11_pinAll seX11_pinAll rfl rfl (hG.m0 (by decide)) rfl (Nat.le_of_ble_eq_true rfl) rfl (c_MpinAll0 hG hi (fun k hk => by simp [am_up, am_upf, hlz k hk])) ?_
  refine am_if_eq (tgt := 81) dX11_goOn_66 (by decide) (fun h => absurd h (by decide)) (fun _ => ?_)
  refine am_aload_n dX11_goOn_69 rfl ?_
  refine am_iload_n dX11_goOn_70 rfl ?_
  refine am_callVx (i := 0) (j := 60) (as := [.inl (nI i)]) (rest := []) dX11_goOn_71 lkX11_isTriedAgain ml_X11_283 imX11_isTriedAgain seX11_isTriedAgain rfl rfl (hG.m0 (by decide)) rfl (Nat.le_of_ble_eq_true rfl) rfl (c_MtriedAgain0 (a := a) hG hi (by omega) (am_up I 0 93 i (nI 0)) (fun k hk => by simp [am_up, am_upf, hpz k hk]) (by simp [am_up, am_upf, upd, hkd, hst, hfl, hfm, hms, htm, hnn, ha, hp, hl0, hls, htr, hha, hba, haa]) (by simp [am_up, am_upf, upd, hkd, hst, hfl, hfm, hms, htm, hnn, ha, hp, hl0, hls, htr, hha, hba, haa]) (by simp [am_up, am_upf, upd, hkd, hst, hfl, hfm, hms, htm, hnn, ha, hp, hl0, hls, htr, hha, hba, haa]) (by simp [am_up, am_upf, upd, hkd, hst, hfl, hfm, hms, htm, hnn, ha, hp, hl0, hls, htr, hha, hba, haa]) (by simp [am_up, am_upf, upd, hkd, hst, hfl, hfm, hms, htm, hnn, ha, hp, hl0, hls, htr, hha, hba, haa]) (by simp [am_up, am_upf, upd, hkd, hst, hfl, hfm, hms, htm, hnn, ha, hp, hl0, hls, htr, hha, hba, haa])) ?_
  refine am_nm (fun I1 hI1 => ?_)
  refine am_if_eq (tgt := 81) dX11_goOn_74 (by decide) (fun h => absurd h (by decide)) (fun _ => ?_)
  refine am_iconst (v := nI 1) dX11_goOn_77 (by decide) ?_
  refine am_goto (tgt := 82) dX11_goOn_78 (by decide) ?_
  refine am_istore_n dX11_goOn_82 (by decide) ?_
  refine am_goto (tgt := 6) dX11_goOn_83 (by decide) ?_
  refine am_iload_n dX11_goOn_6 rfl ?_
  refine am_if_eq (tgt := 86) dX11_goOn_7 (by decide) (fun h => absurd h (by decide)) (fun _ => ?_)
  refine am_aload_n dX11_goOn_10 rfl ?_
  refine am_get (v := .inr (0, 82)) dX11_goOn_11 fl_11_66 (hG.m0 (by decide)) rfl ?_
  refine am_iload_n dX11_goOn_14 rfl ?_
  refine am_iald (a := i) dX11_goOn_15 (hG.m0 (by decide)) rfl rfl (show i < 4 from (by omega)) (show 4 < 2 ^ 31 by decide) ?_
  refine am_top (show I1 0 82 i = nI 0 from (by simp [am_up, am_upf, upd, hkd, hst, hfl, hfm, hms, htm, hnn, ha, hp, hl0, hls, htr, hha, hba, haa, hI1])) ?_
  refine am_bipush (v := nI 10) dX11_goOn_16 (by decide) ?_
  refine am_icmp_ne (tgt := 31) dX11_goOn_18 (by decide) (fun _ => ?_) (fun h => absurd h (by decide))
  refine am_aload_n dX11_goOn_31 rfl ?_
  refine am_get (v := .inr (0, 93)) dX11_goOn_32 fl_11_99 (hG.m0 (by decide)) rfl ?_
  refine am_iload_n dX11_goOn_35 rfl ?_
  refine am_zald (a := i) dX11_goOn_36 (hG.m0 (by decide)) rfl rfl (show i < 4 from (by omega)) (show 4 < 2 ^ 31 by decide) ?_
  refine am_top (show I1 0 93 i = nI 0 from (by simp [am_up, am_upf, upd, hkd, hst, hfl, hfm, hms, htm, hnn, ha, hp, hl0, hls, htr, hha, hba, haa, hI1])) ?_
  refine am_if_eq (tgt := 54) dX11_goOn_37 (by decide) (fun _ => ?_) (fun h => absurd h (by decide))
  refine am_aload_n dX11_goOn_54 rfl ?_
  refine am_get (v := .inr (0, 93)) dX11_goOn_55 fl_11_99 (hG.m0 (by decide)) rfl ?_
  refine am_iload_n dX11_goOn_58 rfl ?_
  refine am_iconst (v := nI 0) dX11_goOn_59 (by decide) ?_
  refine am_zast (a := i) dX11_goOn_60 (hG.m0 (by decide)) rfl (by decide) rfl (show i < 4 from (by omega)) (show 4 < 2 ^ 31 by decide) ?_
  refine am_aload_n dX11_goOn_61 rfl ?_
  refine am_iload_n dX11_goOn_62 rfl ?_
  refine am_callVi (i := 0) (j := 60) (as := [.inl (nI i)]) (rest := []) dX11_goOn_63 lkX11_pinAll ml_X11_280 imX11_pinAll seX11_pinAll rfl rfl (hG.m0 (by decide)) rfl (Nat.le_of_ble_eq_true rfl) rfl (c_MpinAll1_1 (a := a) hG hi (by omega) (fun x hx => by simp [am_up, am_upf, upd, hj x hx, hI1]) (fun x hx => by simp [am_up, am_upf, upd, hu x hx, hI1]) (fun f t => by simp [am_up, am_upf, upd, hdl f t, hI1]) (fun f t => by simp [am_up, am_upf, upd, hld f t, hI1]) (fun k hk hne => by simp [am_up, am_upf, upd, hne, hlz k hk, hI1]) (by simp [am_up, am_upf, upd, hkd, hst, hfl, hfm, hms, htm, hnn, ha, hp, hl0, hls, htr, hha, hba, haa, hI1]) (by simp [am_up, am_upf, upd, hkd, hst, hfl, hfm, hms, htm, hnn, ha, hp, hl0, hls, htr, hha, hba, haa, hI1]) (by simp [am_up, am_upf, upd, hkd, hst, hfl, hfm, hms, htm, hnn, ha, hp, hl0, hls, htr, hha, hba, haa, hI1]) (by simp [am_up, am_upf, upd, hkd, hst, hfl, hfm, hms, htm, hnn, ha, hp, hl0, hls, htr, hha, hba, haa, hI1]) (by simp [am_up, am_upf, upd, hkd, hst, hfl, hfm, hms, htm, hnn, ha, hp, hl0, hls, htr, hha, hba, haa, hI1]) (by simp [am_up, am_upf, upd, hkd, hst, hfl, hfm, hms, htm, hnn, ha, hp, hl0, hls, htr, hha, hba, haa, hI1]) (by simp [am_up, am_upf, upd, hkd, hst, hfl, hfm, hms, htm, hnn, ha, hp, hl0, hls, htr, hha, hba, haa, hI1]) (by simp [am_up, am_upf, upd, hkd, hst, hfl, hfm, hms, htm, hnn, ha, hp, hl0, hls, htr, hha, hba, haa, hI1])) rfl (fun r9 I9 hq => ?_)
  obtain rfl := Option.some.inj hq.1
  have hst9 := hq.2.1
  have hth9 := hq.2.2
  refine am_nm (fun I2 hI2 => ?_)
  refine am_if_eq (tgt := 81) dX11_goOn_66 (by decide) (fun _ => ?_) (fun h => absurd h (by decide))
  refine am_iconst (v := nI 0) dX11_goOn_81 (by decide) ?_
  refine am_istore_n dX11_goOn_82 (by decide) ?_
  refine am_goto (tgt := 6) dX11_goOn_83 (by decide) ?_
  refine am_iload_n dX11_goOn_6 rfl ?_
  refine am_if_eq (tgt := 86) dX11_goOn_7 (by decide) (fun _ => ?_) (fun h => absurd h (by decide))
  refine am_vret dX11_goOn_86 rfl ?_
  exact ⟨rfl, (by simp [am_up, am_upf, upd, hkd, hst, hfl, hfm, hms, htm, hnn, ha, hp, hl0, hls, htr, hha, hba, haa, hI1, hst9, hth9, hI2]), (by simp [am_up, am_upf, upd, hkd, hst, hfl, hfm, hms, htm, hnn, ha, hp, hl0, hls, htr, hha, hba, haa, hI1, hst9, hth9, hI2])⟩
theorem c_MgoOn1 {G : am_G} (hG : am_okM G) {d : Nat} {i a : Nat} (hi : i < G.2.2.2.1) (hab : a < 128) (I : am_I) (hpz : ∀ k, k < 544 → I 0 79 k = nI 0) (hlz : ∀ k, k < 544 → I 0 81 k = nI 0) (hj : ∀ x, x < G.2.2.2.1 → I 0 66 x = nI 1) (hu : ∀ x, x < G.2.2.2.1 → I 0 65 x = nI 1) (hdl : ∀ f t, I 0 107 (4 * f + t) = nI 1) (hld : ∀ f t, I 0 108 (4 * f + t) = nI 0)  (hkd : I 0 82 i = nI 1) (hst : I 0 87 i = nI 1) (hfl : I 0 93 i = nI 0) (hfm : I 0 72 i = nI 0) (hms : I 0 60 38 = nI 0) (htm : I 0 60 2 = nI 0) (hnn : I 0 60 1 = nI G.2.2.2.1) (ha : I 0 83 i = nI a) (hp : I 0 79 (136 * i + a) = nI 0) (hl0 : I 0 81 (136 * i + a) = nI 0) (hls : I 0 92 i = nI 0) (htr : I 0 91 i = nI 0) (hha : I 0 76 (136 * i + a) = nI 0) (hba : I 0 78 (136 * i + a) = (-1 : Int32)) (haa : I 0 77 (136 * i + a) = nI 0) : am_C G (d + 6) mX11_goOn [.inr (0, 60), .inl (nI i)] I (fun r J => r = none ∧ J 0 87 i = nI 1 ∧ J 0 60 0 = I 0 60 0) := by
  have hn4 := hG.hi
  have hn2 := hG.lo
  refine am_of (by decide +kernel) hG.nd (Nat.le_of_ble_eq_true rfl) ?_
  refine am_aload_n dX11_goOn_0 rfl ?_
  refine am_iload_n dX11_goOn_1 rfl ?_
  refine am_callVx (i := 0) (j := 60) (as := [.inl (nI i)]) (rest := []) dX11_goOn_2 lkX11_isCalling ml_X11_264 imX11_isCalling seX11_isCalling rfl rfl (hG.m0 (by decide)) rfl (Nat.le_of_ble_eq_true rfl) rfl (c_MisCalling1 hG hi I (by simp [am_up, am_upf, upd, hkd, hst, hfl, hfm, hms, htm, hnn, ha, hp, hl0, hls, htr, hha, hba, haa])) ?_
  refine am_istore_n dX11_goOn_5 (by decide) ?_
  refine am_iload_n dX11_goOn_6 rfl ?_
  refine am_if_eq (tgt := 86) dX11_goOn_7 (by decide) (fun h => absurd h (by decide)) (fun _ => ?_)
  refine am_aload_n dX11_goOn_10 rfl ?_
  refine am_get (v := .inr (0, 82)) dX11_goOn_11 fl_11_66 (hG.m0 (by decide)) rfl ?_
  refine am_iload_n dX11_goOn_14 rfl ?_
  refine am_iald (a := i) dX11_goOn_15 (hG.m0 (by decide)) rfl rfl (show i < 4 from (by omega)) (show 4 < 2 ^ 31 by decide) ?_
  refine am_top (show I 0 82 i = nI 1 from (by simp [am_up, am_upf, upd, hkd, hst, hfl, hfm, hms, htm, hnn, ha, hp, hl0, hls, htr, hha, hba, haa])) ?_
  refine am_bipush (v := nI 10) dX11_goOn_16 (by decide) ?_
  refine am_icmp_ne (tgt := 31) dX11_goOn_18 (by decide) (fun _ => ?_) (fun h => absurd h (by decide))
  refine am_aload_n dX11_goOn_31 rfl ?_
  refine am_get (v := .inr (0, 93)) dX11_goOn_32 fl_11_99 (hG.m0 (by decide)) rfl ?_
  refine am_iload_n dX11_goOn_35 rfl ?_
  refine am_zald (a := i) dX11_goOn_36 (hG.m0 (by decide)) rfl rfl (show i < 4 from (by omega)) (show 4 < 2 ^ 31 by decide) ?_
  refine am_top (show I 0 93 i = nI 0 from (by simp [am_up, am_upf, upd, hkd, hst, hfl, hfm, hms, htm, hnn, ha, hp, hl0, hls, htr, hha, hba, haa])) ?_
  refine am_if_eq (tgt := 54) dX11_goOn_37 (by decide) (fun _ => ?_) (fun h => absurd h (by decide))
  refine am_aload_n dX11_goOn_54 rfl ?_
  refine am_get (v := .inr (0, 93)) dX11_goOn_55 fl_11_99 (hG.m0 (by decide)) rfl ?_
  refine am_iload_n dX11_goOn_58 rfl ?_
  refine am_iconst (v := nI 0) dX11_goOn_59 (by decide) ?_
  refine am_zast (a := i) dX11_goOn_60 (hG.m0 (by decide)) rfl (by decide) rfl (show i < 4 from (by omega)) (show 4 < 2 ^ 31 by decide) ?_
  refine am_aload_n dX11_goOn_61 rfl ?_
  refine am_iload_n dX11_goOn_62 rfl ?_
  refine am_callVx (i := 0) (j := 60) (as := [.inl (nI i)]) (rest := []) dX11_goOn_63 lkX11_pinAll ml_X11_280 imX11_pinAll seX11_pinAll rfl rfl (hG.m0 (by decide)) rfl (Nat.le_of_ble_eq_true rfl) rfl (c_MpinAll0 hG hi (fun k hk => by simp [am_up, am_upf, hlz k hk])) ?_
  refine am_if_eq (tgt := 81) dX11_goOn_66 (by decide) (fun h => absurd h (by decide)) (fun _ => ?_)
  refine am_aload_n dX11_goOn_69 rfl ?_
  refine am_iload_n dX11_goOn_70 rfl ?_
  refine am_callVx (i := 0) (j := 60) (as := [.inl (nI i)]) (rest := []) dX11_goOn_71 lkX11_isTriedAgain ml_X11_283 imX11_isTriedAgain seX11_isTriedAgain rfl rfl (hG.m0 (by decide)) rfl (Nat.le_of_ble_eq_true rfl) rfl (c_MtriedAgain1 (a := a) hG hi (by omega) (am_up I 0 93 i (nI 0)) (fun k hk => by simp [am_up, am_upf, hpz k hk]) (by simp [am_up, am_upf, upd, hkd, hst, hfl, hfm, hms, htm, hnn, ha, hp, hl0, hls, htr, hha, hba, haa]) (by simp [am_up, am_upf, upd, hkd, hst, hfl, hfm, hms, htm, hnn, ha, hp, hl0, hls, htr, hha, hba, haa]) (by simp [am_up, am_upf, upd, hkd, hst, hfl, hfm, hms, htm, hnn, ha, hp, hl0, hls, htr, hha, hba, haa]) (by simp [am_up, am_upf, upd, hkd, hst, hfl, hfm, hms, htm, hnn, ha, hp, hl0, hls, htr, hha, hba, haa]) (by simp [am_up, am_upf, upd, hkd, hst, hfl, hfm, hms, htm, hnn, ha, hp, hl0, hls, htr, hha, hba, haa]) (by simp [am_up, am_upf, upd, hkd, hst, hfl, hfm, hms, htm, hnn, ha, hp, hl0, hls, htr, hha, hba, haa])) ?_
  refine am_nm (fun I1 hI1 => ?_)
  refine am_if_eq (tgt := 81) dX11_goOn_74 (by decide) (fun h => absurd h (by decide)) (fun _ => ?_)
  refine am_iconst (v := nI 1) dX11_goOn_77 (by decide) ?_
  refine am_goto (tgt := 82) dX11_goOn_78 (by decide) ?_
  refine am_istore_n dX11_goOn_82 (by decide) ?_
  refine am_goto (tgt := 6) dX11_goOn_83 (by decide) ?_
  refine am_iload_n dX11_goOn_6 rfl ?_
  refine am_if_eq (tgt := 86) dX11_goOn_7 (by decide) (fun h => absurd h (by decide)) (fun _ => ?_)
  refine am_aload_n dX11_goOn_10 rfl ?_
  refine am_get (v := .inr (0, 82)) dX11_goOn_11 fl_11_66 (hG.m0 (by decide)) rfl ?_
  refine am_iload_n dX11_goOn_14 rfl ?_
  refine am_iald (a := i) dX11_goOn_15 (hG.m0 (by decide)) rfl rfl (show i < 4 from (by omega)) (show 4 < 2 ^ 31 by decide) ?_
  refine am_top (show I1 0 82 i = nI 1 from (by simp [am_up, am_upf, upd, hkd, hst, hfl, hfm, hms, htm, hnn, ha, hp, hl0, hls, htr, hha, hba, haa, hI1])) ?_
  refine am_bipush (v := nI 10) dX11_goOn_16 (by decide) ?_
  refine am_icmp_ne (tgt := 31) dX11_goOn_18 (by decide) (fun _ => ?_) (fun h => absurd h (by decide))
  refine am_aload_n dX11_goOn_31 rfl ?_
  refine am_get (v := .inr (0, 93)) dX11_goOn_32 fl_11_99 (hG.m0 (by decide)) rfl ?_
  refine am_iload_n dX11_goOn_35 rfl ?_
  refine am_zald (a := i) dX11_goOn_36 (hG.m0 (by decide)) rfl rfl (show i < 4 from (by omega)) (show 4 < 2 ^ 31 by decide) ?_
  refine am_top (show I1 0 93 i = nI 0 from (by simp [am_up, am_upf, upd, hkd, hst, hfl, hfm, hms, htm, hnn, ha, hp, hl0, hls, htr, hha, hba, haa, hI1])) ?_
  refine am_if_eq (tgt := 54) dX11_goOn_37 (by decide) (fun _ => ?_) (fun h => absurd h (by decide))
  refine am_aload_n dX11_goOn_54 rfl ?_
  refine am_get (v := .inr (0, 93)) dX11_goOn_55 fl_11_99 (hG.m0 (by decide)) rfl ?_
  refine am_iload_n dX11_goOn_58 rfl ?_
  refine am_iconst (v := nI 0) dX11_goOn_59 (by decide) ?_
  refine am_zast (a := i) dX11_goOn_60 (hG.m0 (by decide)) rfl (by decide) rfl (show i < 4 from (by omega)) (show 4 < 2 ^ 31 by decide) ?_
  refine am_aload_n dX11_goOn_61 rfl ?_
  refine am_iload_n dX11_goOn_62 rfl ?_
  refine am_callVi (i := 0) (j := 60) (as := [.inl (nI i)]) (rest := []) dX11_goOn_63 lkX11_pinAll ml_X11_280 imX11_pinAll seX11_pinAll rfl rfl (hG.m0 (by decide)) rfl (Nat.le_of_ble_eq_true rfl) rfl (c_MpinAll1_2 (a := a) hG hi (by omega) (fun x hx => by simp [am_up, am_upf, upd, hj x hx, hI1]) (fun x hx => by simp [am_up, am_upf, upd, hu x hx, hI1]) (fun f t => by simp [am_up, am_upf, upd, hdl f t, hI1]) (fun f t => by simp [am_up, am_upf, upd, hld f t, hI1]) (fun k hk hne => by simp [am_up, am_upf, upd, hne, hlz k hk, hI1]) (by simp [am_up, am_upf, upd, hkd, hst, hfl, hfm, hms, htm, hnn, ha, hp, hl0, hls, htr, hha, hba, haa, hI1]) (by simp [am_up, am_upf, upd, hkd, hst, hfl, hfm, hms, htm, hnn, ha, hp, hl0, hls, htr, hha, hba, haa, hI1]) (by simp [am_up, am_upf, upd, hkd, hst, hfl, hfm, hms, htm, hnn, ha, hp, hl0, hls, htr, hha, hba, haa, hI1]) (by simp [am_up, am_upf, upd, hkd, hst, hfl, hfm, hms, htm, hnn, ha, hp, hl0, hls, htr, hha, hba, haa, hI1]) (by simp [am_up, am_upf, upd, hkd, hst, hfl, hfm, hms, htm, hnn, ha, hp, hl0, hls, htr, hha, hba, haa, hI1]) (by simp [am_up, am_upf, upd, hkd, hst, hfl, hfm, hms, htm, hnn, ha, hp, hl0, hls, htr, hha, hba, haa, hI1]) (by simp [am_up, am_upf, upd, hkd, hst, hfl, hfm, hms, htm, hnn, ha, hp, hl0, hls, htr, hha, hba, haa, hI1]) (by simp [am_up, am_upf, upd, hkd, hst, hfl, hfm, hms, htm, hnn, ha, hp, hl0, hls, htr, hha, hba, haa, hI1])) rfl (fun r9 I9 hq => ?_)
  obtain rfl := Option.some.inj hq.1
  have hst9 := hq.2.1
  have hth9 := hq.2.2
  refine am_nm (fun I2 hI2 => ?_)
  refine am_if_eq (tgt := 81) dX11_goOn_66 (by decide) (fun _ => ?_) (fun h => absurd h (by decide))
  refine am_iconst (v := nI 0) dX11_goOn_81 (by decide) ?_
  refine am_istore_n dX11_goOn_82 (by decide) ?_
  refine am_goto (tgt := 6) dX11_goOn_83 (by decide) ?_
  refine am_iload_n dX11_goOn_6 rfl ?_
  refine am_if_eq (tgt := 86) dX11_goOn_7 (by decide) (fun _ => ?_) (fun h => absurd h (by decide))
  refine am_vret dX11_goOn_86 rfl ?_
  exact ⟨rfl, (by simp [am_up, am_upf, upd, hkd, hst, hfl, hfm, hms, htm, hnn, ha, hp, hl0, hls, htr, hha, hba, haa, hI1, hst9, hth9, hI2]), (by simp [am_up, am_upf, upd, hkd, hst, hfl, hfm, hms, htm, hnn, ha, hp, hl0, hls, htr, hha, hba, haa, hI1, hst9, hth9, hI2])⟩
theorem c_MgoOn2 {G : am_G} (hG : am_okM G) {d : Nat} {i a : Nat} (hi : i < G.2.2.2.1) (hab : a < 128) (I : am_I) (hpz : ∀ k, k < 544 → I 0 79 k = nI 0) (hlz : ∀ k, k < 544 → I 0 81 k = nI 0) (hj : ∀ x, x < G.2.2.2.1 → I 0 66 x = nI 1) (hu : ∀ x, x < G.2.2.2.1 → I 0 65 x = nI 1) (hdl : ∀ f t, I 0 107 (4 * f + t) = nI 1) (hld : ∀ f t, I 0 108 (4 * f + t) = nI 0)  (hkd : I 0 82 i = nI 2) (hst : I 0 87 i = nI 1) (hfl : I 0 93 i = nI 0) (hfm : I 0 72 i = nI 0) (hms : I 0 60 38 = nI 0) (htm : I 0 60 2 = nI 0) (hnn : I 0 60 1 = nI G.2.2.2.1) (ha : I 0 83 i = nI a) (hp : I 0 79 (136 * i + a) = nI 0) (hl0 : I 0 81 (136 * i + a) = nI 0) (hls : I 0 92 i = nI 0) (htr : I 0 91 i = nI 0) (hha : I 0 76 (136 * i + a) = nI 0) (hba : I 0 78 (136 * i + a) = (-1 : Int32)) (haa : I 0 77 (136 * i + a) = nI 0) : am_C G (d + 6) mX11_goOn [.inr (0, 60), .inl (nI i)] I (fun r J => r = none ∧ J 0 87 i = nI 1 ∧ J 0 60 0 = I 0 60 0) := by
  have hn4 := hG.hi
  have hn2 := hG.lo
  refine am_of (by decide +kernel) hG.nd (Nat.le_of_ble_eq_true rfl) ?_
  refine am_aload_n dX11_goOn_0 rfl ?_
  refine am_iload_n dX11_goOn_1 rfl ?_
  refine am_callVx (i := 0) (j := 60) (as := [.inl (nI i)]) (rest := []) dX11_goOn_2 lkX11_isCalling ml_X11_264 imX11_isCalling seX11_isCalling rfl rfl (hG.m0 (by decide)) rfl (Nat.le_of_ble_eq_true rfl) rfl (c_MisCalling1 hG hi I (by simp [am_up, am_upf, upd, hkd, hst, hfl, hfm, hms, htm, hnn, ha, hp, hl0, hls, htr, hha, hba, haa])) ?_
  refine am_istore_n dX11_goOn_5 (by decide) ?_
  refine am_iload_n dX11_goOn_6 rfl ?_
  refine am_if_eq (tgt := 86) dX11_goOn_7 (by decide) (fun h => absurd h (by decide)) (fun _ => ?_)
  refine am_aload_n dX11_goOn_10 rfl ?_
  refine am_get (v := .inr (0, 82)) dX11_goOn_11 fl_11_66 (hG.m0 (by decide)) rfl ?_
  refine am_iload_n dX11_goOn_14 rfl ?_
  refine am_iald (a := i) dX11_goOn_15 (hG.m0 (by decide)) rfl rfl (show i < 4 from (by omega)) (show 4 < 2 ^ 31 by decide) ?_
  refine am_top (show I 0 82 i = nI 2 from (by simp [am_up, am_upf, upd, hkd, hst, hfl, hfm, hms, htm, hnn, ha, hp, hl0, hls, htr, hha, hba, haa])) ?_
  refine am_bipush (v := nI 10) dX11_goOn_16 (by decide) ?_
  refine am_icmp_ne (tgt := 31) dX11_goOn_18 (by decide) (fun _ => ?_) (fun h => absurd h (by decide))
  refine am_aload_n dX11_goOn_31 rfl ?_
  refine am_get (v := .inr (0, 93)) dX11_goOn_32 fl_11_99 (hG.m0 (by decide)) rfl ?_
  refine am_iload_n dX11_goOn_35 rfl ?_
  refine am_zald (a := i) dX11_goOn_36 (hG.m0 (by decide)) rfl rfl (show i < 4 from (by omega)) (show 4 < 2 ^ 31 by decide) ?_
  refine am_top (show I 0 93 i = nI 0 from (by simp [am_up, am_upf, upd, hkd, hst, hfl, hfm, hms, htm, hnn, ha, hp, hl0, hls, htr, hha, hba, haa])) ?_
  refine am_if_eq (tgt := 54) dX11_goOn_37 (by decide) (fun _ => ?_) (fun h => absurd h (by decide))
  refine am_aload_n dX11_goOn_54 rfl ?_
  refine am_get (v := .inr (0, 93)) dX11_goOn_55 fl_11_99 (hG.m0 (by decide)) rfl ?_
  refine am_iload_n dX11_goOn_58 rfl ?_
  refine am_iconst (v := nI 0) dX11_goOn_59 (by decide) ?_
  refine am_zast (a := i) dX11_goOn_60 (hG.m0 (by decide)) rfl (by decide) rfl (show i < 4 from (by omega)) (show 4 < 2 ^ 31 by decide) ?_
  refine am_aload_n dX11_goOn_61 rfl ?_
  refine am_iload_n dX11_goOn_62 rfl ?_
  refine am_callVx (i := 0) (j := 60) (as := [.inl (nI i)]) (rest := []) dX11_goOn_63 lkX11_pinAll ml_X11_280 imX11_pinAll seX11_pinAll rfl rfl (hG.m0 (by decide)) rfl (Nat.le_of_ble_eq_true rfl) rfl (c_MpinAll0 hG hi (fun k hk => by simp [am_up, am_upf, hlz k hk])) ?_
  refine am_if_eq (tgt := 81) dX11_goOn_66 (by decide) (fun h => absurd h (by decide)) (fun _ => ?_)
  refine am_aload_n dX11_goOn_69 rfl ?_
  refine am_iload_n dX11_goOn_70 rfl ?_
  refine am_callVx (i := 0) (j := 60) (as := [.inl (nI i)]) (rest := []) dX11_goOn_71 lkX11_isTriedAgain ml_X11_283 imX11_isTriedAgain seX11_isTriedAgain rfl rfl (hG.m0 (by decide)) rfl (Nat.le_of_ble_eq_true rfl) rfl (c_MtriedAgain2 (a := a) hG hi (by omega) (am_up I 0 93 i (nI 0)) (fun k hk => by simp [am_up, am_upf, hpz k hk]) (by simp [am_up, am_upf, upd, hkd, hst, hfl, hfm, hms, htm, hnn, ha, hp, hl0, hls, htr, hha, hba, haa]) (by simp [am_up, am_upf, upd, hkd, hst, hfl, hfm, hms, htm, hnn, ha, hp, hl0, hls, htr, hha, hba, haa]) (by simp [am_up, am_upf, upd, hkd, hst, hfl, hfm, hms, htm, hnn, ha, hp, hl0, hls, htr, hha, hba, haa]) (by simp [am_up, am_upf, upd, hkd, hst, hfl, hfm, hms, htm, hnn, ha, hp, hl0, hls, htr, hha, hba, haa]) (by simp [am_up, am_upf, upd, hkd, hst, hfl, hfm, hms, htm, hnn, ha, hp, hl0, hls, htr, hha, hba, haa]) (by simp [am_up, am_upf, upd, hkd, hst, hfl, hfm, hms, htm, hnn, ha, hp, hl0, hls, htr, hha, hba, haa])) ?_
  refine am_nm (fun I1 hI1 => ?_)
  refine am_if_eq (tgt := 81) dX11_goOn_74 (by decide) (fun h => absurd h (by decide)) (fun _ => ?_)
  refine am_iconst (v := nI 1) dX11_goOn_77 (by decide) ?_
  refine am_goto (tgt := 82) dX11_goOn_78 (by decide) ?_
  refine am_istore_n dX11_goOn_82 (by decide) ?_
  refine am_goto (tgt := 6) dX11_goOn_83 (by decide) ?_
  refine am_iload_n dX11_goOn_6 rfl ?_
  refine am_if_eq (tgt := 86) dX11_goOn_7 (by decide) (fun h => absurd h (by decide)) (fun _ => ?_)
  refine am_aload_n dX11_goOn_10 rfl ?_
  refine am_get (v := .inr (0, 82)) dX11_goOn_11 fl_11_66 (hG.m0 (by decide)) rfl ?_
  refine am_iload_n dX11_goOn_14 rfl ?_
  refine am_iald (a := i) dX11_goOn_15 (hG.m0 (by decide)) rfl rfl (show i < 4 from (by omega)) (show 4 < 2 ^ 31 by decide) ?_
  refine am_top (show I1 0 82 i = nI 2 from (by simp [am_up, am_upf, upd, hkd, hst, hfl, hfm, hms, htm, hnn, ha, hp, hl0, hls, htr, hha, hba, haa, hI1])) ?_
  refine am_bipush (v := nI 10) dX11_goOn_16 (by decide) ?_
  refine am_icmp_ne (tgt := 31) dX11_goOn_18 (by decide) (fun _ => ?_) (fun h => absurd h (by decide))
  refine am_aload_n dX11_goOn_31 rfl ?_
  refine am_get (v := .inr (0, 93)) dX11_goOn_32 fl_11_99 (hG.m0 (by decide)) rfl ?_
  refine am_iload_n dX11_goOn_35 rfl ?_
  refine am_zald (a := i) dX11_goOn_36 (hG.m0 (by decide)) rfl rfl (show i < 4 from (by omega)) (show 4 < 2 ^ 31 by decide) ?_
  refine am_top (show I1 0 93 i = nI 0 from (by simp [am_up, am_upf, upd, hkd, hst, hfl, hfm, hms, htm, hnn, ha, hp, hl0, hls, htr, hha, hba, haa, hI1])) ?_
  refine am_if_eq (tgt := 54) dX11_goOn_37 (by decide) (fun _ => ?_) (fun h => absurd h (by decide))
  refine am_aload_n dX11_goOn_54 rfl ?_
  refine am_get (v := .inr (0, 93)) dX11_goOn_55 fl_11_99 (hG.m0 (by decide)) rfl ?_
  refine am_iload_n dX11_goOn_58 rfl ?_
  refine am_iconst (v := nI 0) dX11_goOn_59 (by decide) ?_
  refine am_zast (a := i) dX11_goOn_60 (hG.m0 (by decide)) rfl (by decide) rfl (show i < 4 from (by omega)) (show 4 < 2 ^ 31 by decide) ?_
  refine am_aload_n dX11_goOn_61 rfl ?_
  refine am_iload_n dX11_goOn_62 rfl ?_
  refine am_callVi (i := 0) (j := 60) (as := [.inl (nI i)]) (rest := []) dX11_goOn_63 lkX11_pinAll ml_X11_280 imX11_pinAll seX11_pinAll rfl rfl (hG.m0 (by decide)) rfl (Nat.le_of_ble_eq_true rfl) rfl (c_MpinAll1_2 (a := a) hG hi (by omega) (fun x hx => by simp [am_up, am_upf, upd, hj x hx, hI1]) (fun x hx => by simp [am_up, am_upf, upd, hu x hx, hI1]) (fun f t => by simp [am_up, am_upf, upd, hdl f t, hI1]) (fun f t => by simp [am_up, am_upf, upd, hld f t, hI1]) (fun k hk hne => by simp [am_up, am_upf, upd, hne, hlz k hk, hI1]) (by simp [am_up, am_upf, upd, hkd, hst, hfl, hfm, hms, htm, hnn, ha, hp, hl0, hls, htr, hha, hba, haa, hI1]) (by simp [am_up, am_upf, upd, hkd, hst, hfl, hfm, hms, htm, hnn, ha, hp, hl0, hls, htr, hha, hba, haa, hI1]) (by simp [am_up, am_upf, upd, hkd, hst, hfl, hfm, hms, htm, hnn, ha, hp, hl0, hls, htr, hha, hba, haa, hI1]) (by simp [am_up, am_upf, upd, hkd, hst, hfl, hfm, hms, htm, hnn, ha, hp, hl0, hls, htr, hha, hba, haa, hI1]) (by simp [am_up, am_upf, upd, hkd, hst, hfl, hfm, hms, htm, hnn, ha, hp, hl0, hls, htr, hha, hba, haa, hI1]) (by simp [am_up, am_upf, upd, hkd, hst, hfl, hfm, hms, htm, hnn, ha, hp, hl0, hls, htr, hha, hba, haa, hI1]) (by simp [am_up, am_upf, upd, hkd, hst, hfl, hfm, hms, htm, hnn, ha, hp, hl0, hls, htr, hha, hba, haa, hI1]) (by simp [am_up, am_upf, upd, hkd, hst, hfl, hfm, hms, htm, hnn, ha, hp, hl0, hls, htr, hha, hba, haa, hI1])) rfl (fun r9 I9 hq => ?_)
  obtain rfl := Option.some.inj hq.1
  have hst9 := hq.2.1
  have hth9 := hq.2.2
  refine am_nm (fun I2 hI2 => ?_)
  refine am_if_eq (tgt := 81) dX11_goOn_66 (by decide) (fun _ => ?_) (fun h => absurd h (by decide))
  refine am_iconst (v := nI 0) dX11_goOn_81 (by decide) ?_
  refine am_istore_n dX11_goOn_82 (by decide) ?_
  refine am_goto (tgt := 6) dX11_goOn_83 (by decide) ?_
  refine am_iload_n dX11_goOn_6 rfl ?_
  refine am_if_eq (tgt := 86) dX11_goOn_7 (by decide) (fun _ => ?_) (fun h => absurd h (by decide))
  refine am_vret dX11_goOn_86 rfl ?_
  exact ⟨rfl, (by simp [am_up, am_upf, upd, hkd, hst, hfl, hfm, hms, htm, hnn, ha, hp, hl0, hls, htr, hha, hba, haa, hI1, hst9, hth9, hI2]), (by simp [am_up, am_upf, upd, hkd, hst, hfl, hfm, hms, htm, hnn, ha, hp, hl0, hls, htr, hha, hba, haa, hI1, hst9, hth9, hI2])⟩
theorem c_MgoOn3 {G : am_G} (hG : am_okM G) {d : Nat} {i a : Nat} (hi : i < G.2.2.2.1) (hab : a < 128) (I : am_I) (hpz : ∀ k, k < 544 → I 0 79 k = nI 0) (hlz : ∀ k, k < 544 → I 0 81 k = nI 0) (hj : ∀ x, x < G.2.2.2.1 → I 0 66 x = nI 1) (hu : ∀ x, x < G.2.2.2.1 → I 0 65 x = nI 1) (hdl : ∀ f t, I 0 107 (4 * f + t) = nI 1) (hld : ∀ f t, I 0 108 (4 * f + t) = nI 0)  (hkd : I 0 82 i = nI 3) (hst : I 0 87 i = nI 1) (hfl : I 0 93 i = nI 0) (hfm : I 0 72 i = nI 0) (hms : I 0 60 38 = nI 0) (htm : I 0 60 2 = nI 0) (hnn : I 0 60 1 = nI G.2.2.2.1) (ha : I 0 83 i = nI a) (hp : I 0 79 (136 * i + a) = nI 0) (hl0 : I 0 81 (136 * i + a) = nI 0) (hls : I 0 92 i = nI 0) (htr : I 0 91 i = nI 0) (hha : I 0 76 (136 * i + a) = nI 0) (hba : I 0 78 (136 * i + a) = (-1 : Int32)) (haa : I 0 77 (136 * i + a) = nI 0) : am_C G (d + 6) mX11_goOn [.inr (0, 60), .inl (nI i)] I (fun r J => r = none ∧ J 0 87 i = nI 1 ∧ J 0 60 0 = I 0 60 0) := by
  have hn4 := hG.hi
  have hn2 := hG.lo
  refine am_of (by decide +kernel) hG.nd (Nat.le_of_ble_eq_true rfl) ?_
  refine am_aload_n dX11_goOn_0 rfl ?_
  refine am_iload_n dX11_goOn_1 rfl ?_
  refine am_callVx (i := 0) (j := 60) (as := [.inl (nI i)]) (rest := []) dX11_goOn_2 lkX11_isCalling ml_X11_264 imX11_isCalling seX11_isCalling rfl rfl (hG.m0 (by decide)) rfl (Nat.le_of_ble_eq_true rfl) rfl (c_MisCalling1 hG hi I (by simp [am_up, am_upf, upd, hkd, hst, hfl, hfm, hms, htm, hnn, ha, hp, hl0, hls, htr, hha, hba, haa])) ?_
  refine am_istore_n dX11_goOn_5 (by decide) ?_
  refine am_iload_n dX11_goOn_6 rfl ?_
  refine am_if_eq (tgt := 86) dX11_goOn_7 (by decide) (fun h => absurd h (by decide)) (fun _ => ?_)
  refine am_aload_n dX11_goOn_10 rfl ?_
  refine am_get (v := .inr (0, 82)) dX11_goOn_11 fl_11_66 (hG.m0 (by decide)) rfl ?_
  refine am_iload_n dX11_goOn_14 rfl ?_
  refine am_iald (a := i) dX11_goOn_15 (hG.m0 (by decide)) rfl rfl (show i < 4 from (by omega)) (show 4 < 2 ^ 31 by decide) ?_
  refine am_top (show I 0 82 i = nI 3 from (by simp [am_up, am_upf, upd, hkd, hst, hfl, hfm, hms, htm, hnn, ha, hp, hl0, hls, htr, hha, hba, haa])) ?_
  refine am_bipush (v := nI 10) dX11_goOn_16 (by decide) ?_
  refine am_icmp_ne (tgt := 31) dX11_goOn_18 (by decide) (fun _ => ?_) (fun h => absurd h (by decide))
  refine am_aload_n dX11_goOn_31 rfl ?_
  refine am_get (v := .inr (0, 93)) dX11_goOn_32 fl_11_99 (hG.m0 (by decide)) rfl ?_
  refine am_iload_n dX11_goOn_35 rfl ?_
  refine am_zald (a := i) dX11_goOn_36 (hG.m0 (by decide)) rfl rfl (show i < 4 from (by omega)) (show 4 < 2 ^ 31 by decide) ?_
  refine am_top (show I 0 93 i = nI 0 from (by simp [am_up, am_upf, upd, hkd, hst, hfl, hfm, hms, htm, hnn, ha, hp, hl0, hls, htr, hha, hba, haa])) ?_
  refine am_if_eq (tgt := 54) dX11_goOn_37 (by decide) (fun _ => ?_) (fun h => absurd h (by decide))
  refine am_aload_n dX11_goOn_54 rfl ?_
  refine am_get (v := .inr (0, 93)) dX11_goOn_55 fl_11_99 (hG.m0 (by decide)) rfl ?_
  refine am_iload_n dX11_goOn_58 rfl ?_
  refine am_iconst (v := nI 0) dX11_goOn_59 (by decide) ?_
  refine am_zast (a := i) dX11_goOn_60 (hG.m0 (by decide)) rfl (by decide) rfl (show i < 4 from (by omega)) (show 4 < 2 ^ 31 by decide) ?_
  refine am_aload_n dX11_goOn_61 rfl ?_
  refine am_iload_n dX11_goOn_62 rfl ?_
  refine am_callVx (i := 0) (j := 60) (as := [.inl (nI i)]) (rest := []) dX11_goOn_63 lkX11_pinAll ml_X11_280 imX11_pinAll seX11_pinAll rfl rfl (hG.m0 (by decide)) rfl (Nat.le_of_ble_eq_true rfl) rfl (c_MpinAll0 hG hi (fun k hk => by simp [am_up, am_upf, hlz k hk])) ?_
  refine am_if_eq (tgt := 81) dX11_goOn_66 (by decide) (fun h => absurd h (by decide)) (fun _ => ?_)
  refine am_aload_n dX11_goOn_69 rfl ?_
  refine am_iload_n dX11_goOn_70 rfl ?_
  refine am_callVx (i := 0) (j := 60) (as := [.inl (nI i)]) (rest := []) dX11_goOn_71 lkX11_isTriedAgain ml_X11_283 imX11_isTriedAgain seX11_isTriedAgain rfl rfl (hG.m0 (by decide)) rfl (Nat.le_of_ble_eq_true rfl) rfl (c_MtriedAgain3 (a := a) hG hi (by omega) (am_up I 0 93 i (nI 0)) (fun k hk => by simp [am_up, am_upf, hpz k hk]) (by simp [am_up, am_upf, upd, hkd, hst, hfl, hfm, hms, htm, hnn, ha, hp, hl0, hls, htr, hha, hba, haa]) (by simp [am_up, am_upf, upd, hkd, hst, hfl, hfm, hms, htm, hnn, ha, hp, hl0, hls, htr, hha, hba, haa]) (by simp [am_up, am_upf, upd, hkd, hst, hfl, hfm, hms, htm, hnn, ha, hp, hl0, hls, htr, hha, hba, haa]) (by simp [am_up, am_upf, upd, hkd, hst, hfl, hfm, hms, htm, hnn, ha, hp, hl0, hls, htr, hha, hba, haa]) (by simp [am_up, am_upf, upd, hkd, hst, hfl, hfm, hms, htm, hnn, ha, hp, hl0, hls, htr, hha, hba, haa]) (by simp [am_up, am_upf, upd, hkd, hst, hfl, hfm, hms, htm, hnn, ha, hp, hl0, hls, htr, hha, hba, haa])) ?_
  refine am_nm (fun I1 hI1 => ?_)
  refine am_if_eq (tgt := 81) dX11_goOn_74 (by decide) (fun h => absurd h (by decide)) (fun _ => ?_)
  refine am_iconst (v := nI 1) dX11_goOn_77 (by decide) ?_
  refine am_goto (tgt := 82) dX11_goOn_78 (by decide) ?_
  refine am_istore_n dX11_goOn_82 (by decide) ?_
  refine am_goto (tgt := 6) dX11_goOn_83 (by decide) ?_
  refine am_iload_n dX11_goOn_6 rfl ?_
  refine am_if_eq (tgt := 86) dX11_goOn_7 (by decide) (fun h => absurd h (by decide)) (fun _ => ?_)
  refine am_aload_n dX11_goOn_10 rfl ?_
  refine am_get (v := .inr (0, 82)) dX11_goOn_11 fl_11_66 (hG.m0 (by decide)) rfl ?_
  refine am_iload_n dX11_goOn_14 rfl ?_
  refine am_iald (a := i) dX11_goOn_15 (hG.m0 (by decide)) rfl rfl (show i < 4 from (by omega)) (show 4 < 2 ^ 31 by decide) ?_
  refine am_top (show I1 0 82 i = nI 3 from (by simp [am_up, am_upf, upd, hkd, hst, hfl, hfm, hms, htm, hnn, ha, hp, hl0, hls, htr, hha, hba, haa, hI1])) ?_
  refine am_bipush (v := nI 10) dX11_goOn_16 (by decide) ?_
  refine am_icmp_ne (tgt := 31) dX11_goOn_18 (by decide) (fun _ => ?_) (fun h => absurd h (by decide))
  refine am_aload_n dX11_goOn_31 rfl ?_
  refine am_get (v := .inr (0, 93)) dX11_goOn_32 fl_11_99 (hG.m0 (by decide)) rfl ?_
  refine am_iload_n dX11_goOn_35 rfl ?_
  refine am_zald (a := i) dX11_goOn_36 (hG.m0 (by decide)) rfl rfl (show i < 4 from (by omega)) (show 4 < 2 ^ 31 by decide) ?_
  refine am_top (show I1 0 93 i = nI 0 from (by simp [am_up, am_upf, upd, hkd, hst, hfl, hfm, hms, htm, hnn, ha, hp, hl0, hls, htr, hha, hba, haa, hI1])) ?_
  refine am_if_eq (tgt := 54) dX11_goOn_37 (by decide) (fun _ => ?_) (fun h => absurd h (by decide))
  refine am_aload_n dX11_goOn_54 rfl ?_
  refine am_get (v := .inr (0, 93)) dX11_goOn_55 fl_11_99 (hG.m0 (by decide)) rfl ?_
  refine am_iload_n dX11_goOn_58 rfl ?_
  refine am_iconst (v := nI 0) dX11_goOn_59 (by decide) ?_
  refine am_zast (a := i) dX11_goOn_60 (hG.m0 (by decide)) rfl (by decide) rfl (show i < 4 from (by omega)) (show 4 < 2 ^ 31 by decide) ?_
  refine am_aload_n dX11_goOn_61 rfl ?_
  refine am_iload_n dX11_goOn_62 rfl ?_
  refine am_callVi (i := 0) (j := 60) (as := [.inl (nI i)]) (rest := []) dX11_goOn_63 lkX11_pinAll ml_X11_280 imX11_pinAll seX11_pinAll rfl rfl (hG.m0 (by decide)) rfl (Nat.le_of_ble_eq_true rfl) rfl (c_MpinAll1_2 (a := a) hG hi (by omega) (fun x hx => by simp [am_up, am_upf, upd, hj x hx, hI1]) (fun x hx => by simp [am_up, am_upf, upd, hu x hx, hI1]) (fun f t => by simp [am_up, am_upf, upd, hdl f t, hI1]) (fun f t => by simp [am_up, am_upf, upd, hld f t, hI1]) (fun k hk hne => by simp [am_up, am_upf, upd, hne, hlz k hk, hI1]) (by simp [am_up, am_upf, upd, hkd, hst, hfl, hfm, hms, htm, hnn, ha, hp, hl0, hls, htr, hha, hba, haa, hI1]) (by simp [am_up, am_upf, upd, hkd, hst, hfl, hfm, hms, htm, hnn, ha, hp, hl0, hls, htr, hha, hba, haa, hI1]) (by simp [am_up, am_upf, upd, hkd, hst, hfl, hfm, hms, htm, hnn, ha, hp, hl0, hls, htr, hha, hba, haa, hI1]) (by simp [am_up, am_upf, upd, hkd, hst, hfl, hfm, hms, htm, hnn, ha, hp, hl0, hls, htr, hha, hba, haa, hI1]) (by simp [am_up, am_upf, upd, hkd, hst, hfl, hfm, hms, htm, hnn, ha, hp, hl0, hls, htr, hha, hba, haa, hI1]) (by simp [am_up, am_upf, upd, hkd, hst, hfl, hfm, hms, htm, hnn, ha, hp, hl0, hls, htr, hha, hba, haa, hI1]) (by simp [am_up, am_upf, upd, hkd, hst, hfl, hfm, hms, htm, hnn, ha, hp, hl0, hls, htr, hha, hba, haa, hI1]) (by simp [am_up, am_upf, upd, hkd, hst, hfl, hfm, hms, htm, hnn, ha, hp, hl0, hls, htr, hha, hba, haa, hI1])) rfl (fun r9 I9 hq => ?_)
  obtain rfl := Option.some.inj hq.1
  have hst9 := hq.2.1
  have hth9 := hq.2.2
  refine am_nm (fun I2 hI2 => ?_)
  refine am_if_eq (tgt := 81) dX11_goOn_66 (by decide) (fun _ => ?_) (fun h => absurd h (by decide))
  refine am_iconst (v := nI 0) dX11_goOn_81 (by decide) ?_
  refine am_istore_n dX11_goOn_82 (by decide) ?_
  refine am_goto (tgt := 6) dX11_goOn_83 (by decide) ?_
  refine am_iload_n dX11_goOn_6 rfl ?_
  refine am_if_eq (tgt := 86) dX11_goOn_7 (by decide) (fun _ => ?_) (fun h => absurd h (by decide))
  refine am_vret dX11_goOn_86 rfl ?_
  exact ⟨rfl, (by simp [am_up, am_upf, upd, hkd, hst, hfl, hfm, hms, htm, hnn, ha, hp, hl0, hls, htr, hha, hba, haa, hI1, hst9, hth9, hI2]), (by simp [am_up, am_upf, upd, hkd, hst, hfl, hfm, hms, htm, hnn, ha, hp, hl0, hls, htr, hha, hba, haa, hI1, hst9, hth9, hI2])⟩
theorem c_MgoOn4 {G : am_G} (hG : am_okM G) {d : Nat} {i a : Nat} (hi : i < G.2.2.2.1) (hab : a < 128) (I : am_I) (hpz : ∀ k, k < 544 → I 0 79 k = nI 0) (hlz : ∀ k, k < 544 → I 0 81 k = nI 0) (hj : ∀ x, x < G.2.2.2.1 → I 0 66 x = nI 1) (hu : ∀ x, x < G.2.2.2.1 → I 0 65 x = nI 1) (hdl : ∀ f t, I 0 107 (4 * f + t) = nI 1) (hld : ∀ f t, I 0 108 (4 * f + t) = nI 0)  (hkd : I 0 82 i = nI 4) (hst : I 0 87 i = nI 1) (hfl : I 0 93 i = nI 0) (hfm : I 0 72 i = nI 0) (hms : I 0 60 38 = nI 0) (htm : I 0 60 2 = nI 0) (hnn : I 0 60 1 = nI G.2.2.2.1) (ha : I 0 83 i = nI a) (hp : I 0 79 (136 * i + a) = nI 0) (hl0 : I 0 81 (136 * i + a) = nI 0) (hls : I 0 92 i = nI 0) (htr : I 0 91 i = nI 0) (hha : I 0 76 (136 * i + a) = nI 0) (hba : I 0 78 (136 * i + a) = (-1 : Int32)) (haa : I 0 77 (136 * i + a) = nI 0) : am_C G (d + 6) mX11_goOn [.inr (0, 60), .inl (nI i)] I (fun r J => r = none ∧ J 0 87 i = nI 1 ∧ J 0 60 0 = I 0 60 0) := by
  have hn4 := hG.hi
  have hn2 := hG.lo
  refine am_of (by decide +kernel) hG.nd (Nat.le_of_ble_eq_true rfl) ?_
  refine am_aload_n dX11_goOn_0 rfl ?_
  refine am_iload_n dX11_goOn_1 rfl ?_
  refine am_callVx (i := 0) (j := 60) (as := [.inl (nI i)]) (rest := []) dX11_goOn_2 lkX11_isCalling ml_X11_264 imX11_isCalling seX11_isCalling rfl rfl (hG.m0 (by decide)) rfl (Nat.le_of_ble_eq_true rfl) rfl (c_MisCalling1 hG hi I (by simp [am_up, am_upf, upd, hkd, hst, hfl, hfm, hms, htm, hnn, ha, hp, hl0, hls, htr, hha, hba, haa])) ?_
  refine am_istore_n dX11_goOn_5 (by decide) ?_
  refine am_iload_n dX11_goOn_6 rfl ?_
  refine am_if_eq (tgt := 86) dX11_goOn_7 (by decide) (fun h => absurd h (by decide)) (fun _ => ?_)
  refine am_aload_n dX11_goOn_10 rfl ?_
  refine am_get (v := .inr (0, 82)) dX11_goOn_11 fl_11_66 (hG.m0 (by decide)) rfl ?_
  refine am_iload_n dX11_goOn_14 rfl ?_
  refine am_iald (a := i) dX11_goOn_15 (hG.m0 (by decide)) rfl rfl (show i < 4 from (by omega)) (show 4 < 2 ^ 31 by decide) ?_
  refine am_top (show I 0 82 i = nI 4 from (by simp [am_up, am_upf, upd, hkd, hst, hfl, hfm, hms, htm, hnn, ha, hp, hl0, hls, htr, hha, hba, haa])) ?_
  refine am_bipush (v := nI 10) dX11_goOn_16 (by decide) ?_
  refine am_icmp_ne (tgt := 31) dX11_goOn_18 (by decide) (fun _ => ?_) (fun h => absurd h (by decide))
  refine am_aload_n dX11_goOn_31 rfl ?_
  refine am_get (v := .inr (0, 93)) dX11_goOn_32 fl_11_99 (hG.m0 (by decide)) rfl ?_
  refine am_iload_n dX11_goOn_35 rfl ?_
  refine am_zald (a := i) dX11_goOn_36 (hG.m0 (by decide)) rfl rfl (show i < 4 from (by omega)) (show 4 < 2 ^ 31 by decide) ?_
  refine am_top (show I 0 93 i = nI 0 from (by simp [am_up, am_upf, upd, hkd, hst, hfl, hfm, hms, htm, hnn, ha, hp, hl0, hls, htr, hha, hba, haa])) ?_
  refine am_if_eq (tgt := 54) dX11_goOn_37 (by decide) (fun _ => ?_) (fun h => absurd h (by decide))
  refine am_aload_n dX11_goOn_54 rfl ?_
  refine am_get (v := .inr (0, 93)) dX11_goOn_55 fl_11_99 (hG.m0 (by decide)) rfl ?_
  refine am_iload_n dX11_goOn_58 rfl ?_
  refine am_iconst (v := nI 0) dX11_goOn_59 (by decide) ?_
  refine am_zast (a := i) dX11_goOn_60 (hG.m0 (by decide)) rfl (by decide) rfl (show i < 4 from (by omega)) (show 4 < 2 ^ 31 by decide) ?_
  refine am_aload_n dX11_goOn_61 rfl ?_
  refine am_iload_n dX11_goOn_62 rfl ?_
  refine am_callVx (i := 0) (j := 60) (as := [.inl (nI i)]) (rest := []) dX11_goOn_63 lkX11_pinAll ml_X11_280 imX11_pinAll seX11_pinAll rfl rfl (hG.m0 (by decide)) rfl (Nat.le_of_ble_eq_true rfl) rfl (c_MpinAll0 hG hi (fun k hk => by simp [am_up, am_upf, hlz k hk])) ?_
  refine am_if_eq (tgt := 81) dX11_goOn_66 (by decide) (fun h => absurd h (by decide)) (fun _ => ?_)
  refine am_aload_n dX11_goOn_69 rfl ?_
  refine am_iload_n dX11_goOn_70 rfl ?_
  refine am_callVx (i := 0) (j := 60) (as := [.inl (nI i)]) (rest := []) dX11_goOn_71 lkX11_isTriedAgain ml_X11_283 imX11_isTriedAgain seX11_isTriedAgain rfl rfl (hG.m0 (by decide)) rfl (Nat.le_of_ble_eq_true rfl) rfl (c_MtriedAgain4 (a := a) hG hi (by omega) (am_up I 0 93 i (nI 0)) (fun k hk => by simp [am_up, am_upf, hpz k hk]) (by simp [am_up, am_upf, upd, hkd, hst, hfl, hfm, hms, htm, hnn, ha, hp, hl0, hls, htr, hha, hba, haa]) (by simp [am_up, am_upf, upd, hkd, hst, hfl, hfm, hms, htm, hnn, ha, hp, hl0, hls, htr, hha, hba, haa]) (by simp [am_up, am_upf, upd, hkd, hst, hfl, hfm, hms, htm, hnn, ha, hp, hl0, hls, htr, hha, hba, haa]) (by simp [am_up, am_upf, upd, hkd, hst, hfl, hfm, hms, htm, hnn, ha, hp, hl0, hls, htr, hha, hba, haa]) (by simp [am_up, am_upf, upd, hkd, hst, hfl, hfm, hms, htm, hnn, ha, hp, hl0, hls, htr, hha, hba, haa]) (by simp [am_up, am_upf, upd, hkd, hst, hfl, hfm, hms, htm, hnn, ha, hp, hl0, hls, htr, hha, hba, haa])) ?_
  refine am_nm (fun I1 hI1 => ?_)
  refine am_if_eq (tgt := 81) dX11_goOn_74 (by decide) (fun h => absurd h (by decide)) (fun _ => ?_)
  refine am_iconst (v := nI 1) dX11_goOn_77 (by decide) ?_
  refine am_goto (tgt := 82) dX11_goOn_78 (by decide) ?_
  refine am_istore_n dX11_goOn_82 (by decide) ?_
  refine am_goto (tgt := 6) dX11_goOn_83 (by decide) ?_
  refine am_iload_n dX11_goOn_6 rfl ?_
  refine am_if_eq (tgt := 86) dX11_goOn_7 (by decide) (fun h => absurd h (by decide)) (fun _ => ?_)
  refine am_aload_n dX11_goOn_10 rfl ?_
  refine am_get (v := .inr (0, 82)) dX11_goOn_11 fl_11_66 (hG.m0 (by decide)) rfl ?_
  refine am_iload_n dX11_goOn_14 rfl ?_
  refine am_iald (a := i) dX11_goOn_15 (hG.m0 (by decide)) rfl rfl (show i < 4 from (by omega)) (show 4 < 2 ^ 31 by decide) ?_
  refine am_top (show I1 0 82 i = nI 4 from (by simp [am_up, am_upf, upd, hkd, hst, hfl, hfm, hms, htm, hnn, ha, hp, hl0, hls, htr, hha, hba, haa, hI1])) ?_
  refine am_bipush (v := nI 10) dX11_goOn_16 (by decide) ?_
  refine am_icmp_ne (tgt := 31) dX11_goOn_18 (by decide) (fun _ => ?_) (fun h => absurd h (by decide))
  refine am_aload_n dX11_goOn_31 rfl ?_
  refine am_get (v := .inr (0, 93)) dX11_goOn_32 fl_11_99 (hG.m0 (by decide)) rfl ?_
  refine am_iload_n dX11_goOn_35 rfl ?_
  refine am_zald (a := i) dX11_goOn_36 (hG.m0 (by decide)) rfl rfl (show i < 4 from (by omega)) (show 4 < 2 ^ 31 by decide) ?_
  refine am_top (show I1 0 93 i = nI 0 from (by simp [am_up, am_upf, upd, hkd, hst, hfl, hfm, hms, htm, hnn, ha, hp, hl0, hls, htr, hha, hba, haa, hI1])) ?_
  refine am_if_eq (tgt := 54) dX11_goOn_37 (by decide) (fun _ => ?_) (fun h => absurd h (by decide))
  refine am_aload_n dX11_goOn_54 rfl ?_
  refine am_get (v := .inr (0, 93)) dX11_goOn_55 fl_11_99 (hG.m0 (by decide)) rfl ?_
  refine am_iload_n dX11_goOn_58 rfl ?_
  refine am_iconst (v := nI 0) dX11_goOn_59 (by decide) ?_
  refine am_zast (a := i) dX11_goOn_60 (hG.m0 (by decide)) rfl (by decide) rfl (show i < 4 from (by omega)) (show 4 < 2 ^ 31 by decide) ?_
  refine am_aload_n dX11_goOn_61 rfl ?_
  refine am_iload_n dX11_goOn_62 rfl ?_
  refine am_callVi (i := 0) (j := 60) (as := [.inl (nI i)]) (rest := []) dX11_goOn_63 lkX11_pinAll ml_X11_280 imX11_pinAll seX11_pinAll rfl rfl (hG.m0 (by decide)) rfl (Nat.le_of_ble_eq_true rfl) rfl (c_MpinAll1_2 (a := a) hG hi (by omega) (fun x hx => by simp [am_up, am_upf, upd, hj x hx, hI1]) (fun x hx => by simp [am_up, am_upf, upd, hu x hx, hI1]) (fun f t => by simp [am_up, am_upf, upd, hdl f t, hI1]) (fun f t => by simp [am_up, am_upf, upd, hld f t, hI1]) (fun k hk hne => by simp [am_up, am_upf, upd, hne, hlz k hk, hI1]) (by simp [am_up, am_upf, upd, hkd, hst, hfl, hfm, hms, htm, hnn, ha, hp, hl0, hls, htr, hha, hba, haa, hI1]) (by simp [am_up, am_upf, upd, hkd, hst, hfl, hfm, hms, htm, hnn, ha, hp, hl0, hls, htr, hha, hba, haa, hI1]) (by simp [am_up, am_upf, upd, hkd, hst, hfl, hfm, hms, htm, hnn, ha, hp, hl0, hls, htr, hha, hba, haa, hI1]) (by simp [am_up, am_upf, upd, hkd, hst, hfl, hfm, hms, htm, hnn, ha, hp, hl0, hls, htr, hha, hba, haa, hI1]) (by simp [am_up, am_upf, upd, hkd, hst, hfl, hfm, hms, htm, hnn, ha, hp, hl0, hls, htr, hha, hba, haa, hI1]) (by simp [am_up, am_upf, upd, hkd, hst, hfl, hfm, hms, htm, hnn, ha, hp, hl0, hls, htr, hha, hba, haa, hI1]) (by simp [am_up, am_upf, upd, hkd, hst, hfl, hfm, hms, htm, hnn, ha, hp, hl0, hls, htr, hha, hba, haa, hI1]) (by simp [am_up, am_upf, upd, hkd, hst, hfl, hfm, hms, htm, hnn, ha, hp, hl0, hls, htr, hha, hba, haa, hI1])) rfl (fun r9 I9 hq => ?_)
  obtain rfl := Option.some.inj hq.1
  have hst9 := hq.2.1
  have hth9 := hq.2.2
  refine am_nm (fun I2 hI2 => ?_)
  refine am_if_eq (tgt := 81) dX11_goOn_66 (by decide) (fun _ => ?_) (fun h => absurd h (by decide))
  refine am_iconst (v := nI 0) dX11_goOn_81 (by decide) ?_
  refine am_istore_n dX11_goOn_82 (by decide) ?_
  refine am_goto (tgt := 6) dX11_goOn_83 (by decide) ?_
  refine am_iload_n dX11_goOn_6 rfl ?_
  refine am_if_eq (tgt := 86) dX11_goOn_7 (by decide) (fun _ => ?_) (fun h => absurd h (by decide))
  refine am_vret dX11_goOn_86 rfl ?_
  exact ⟨rfl, (by simp [am_up, am_upf, upd, hkd, hst, hfl, hfm, hms, htm, hnn, ha, hp, hl0, hls, htr, hha, hba, haa, hI1, hst9, hth9, hI2]), (by simp [am_up, am_upf, upd, hkd, hst, hfl, hfm, hms, htm, hnn, ha, hp, hl0, hls, htr, hha, hba, haa, hI1, hst9, hth9, hI2])⟩
theorem c_MgoOn5 {G : am_G} (hG : am_okM G) {d : Nat} {i a : Nat} (hi : i < G.2.2.2.1) (hab : a < 128) (I : am_I) (hpz : ∀ k, k < 544 → I 0 79 k = nI 0) (hlz : ∀ k, k < 544 → I 0 81 k = nI 0) (hj : ∀ x, x < G.2.2.2.1 → I 0 66 x = nI 1) (hu : ∀ x, x < G.2.2.2.1 → I 0 65 x = nI 1) (hdl : ∀ f t, I 0 107 (4 * f + t) = nI 1) (hld : ∀ f t, I 0 108 (4 * f + t) = nI 0)  (hkd : I 0 82 i = nI 5) (hst : I 0 87 i = nI 1) (hfl : I 0 93 i = nI 0) (hfm : I 0 72 i = nI 0) (hms : I 0 60 38 = nI 0) (htm : I 0 60 2 = nI 0) (hnn : I 0 60 1 = nI G.2.2.2.1) (ha : I 0 83 i = nI a) (hp : I 0 79 (136 * i + a) = nI 0) (hl0 : I 0 81 (136 * i + a) = nI 0) (hls : I 0 92 i = nI 0) (htr : I 0 91 i = nI 0) (hha : I 0 76 (136 * i + a) = nI 0) (hba : I 0 78 (136 * i + a) = (-1 : Int32)) (haa : I 0 77 (136 * i + a) = nI 0) : am_C G (d + 6) mX11_goOn [.inr (0, 60), .inl (nI i)] I (fun r J => r = none ∧ J 0 87 i = nI 1 ∧ J 0 60 0 = I 0 60 0) := by
  have hn4 := hG.hi
  have hn2 := hG.lo
  refine am_of (by decide +kernel) hG.nd (Nat.le_of_ble_eq_true rfl) ?_
  refine am_aload_n dX11_goOn_0 rfl ?_
  refine am_iload_n dX11_goOn_1 rfl ?_
  refine am_callVx (i := 0) (j := 60) (as := [.inl (nI i)]) (rest := []) dX11_goOn_2 lkX11_isCalling ml_X11_264 imX11_isCalling seX11_isCalling rfl rfl (hG.m0 (by decide)) rfl (Nat.le_of_ble_eq_true rfl) rfl (c_MisCalling1 hG hi I (by simp [am_up, am_upf, upd, hkd, hst, hfl, hfm, hms, htm, hnn, ha, hp, hl0, hls, htr, hha, hba, haa])) ?_
  refine am_istore_n dX11_goOn_5 (by decide) ?_
  refine am_iload_n dX11_goOn_6 rfl ?_
  refine am_if_eq (tgt := 86) dX11_goOn_7 (by decide) (fun h => absurd h (by decide)) (fun _ => ?_)
  refine am_aload_n dX11_goOn_10 rfl ?_
  refine am_get (v := .inr (0, 82)) dX11_goOn_11 fl_11_66 (hG.m0 (by decide)) rfl ?_
  refine am_iload_n dX11_goOn_14 rfl ?_
  refine am_iald (a := i) dX11_goOn_15 (hG.m0 (by decide)) rfl rfl (show i < 4 from (by omega)) (show 4 < 2 ^ 31 by decide) ?_
  refine am_top (show I 0 82 i = nI 5 from (by simp [am_up, am_upf, upd, hkd, hst, hfl, hfm, hms, htm, hnn, ha, hp, hl0, hls, htr, hha, hba, haa])) ?_
  refine am_bipush (v := nI 10) dX11_goOn_16 (by decide) ?_
  refine am_icmp_ne (tgt := 31) dX11_goOn_18 (by decide) (fun _ => ?_) (fun h => absurd h (by decide))
  refine am_aload_n dX11_goOn_31 rfl ?_
  refine am_get (v := .inr (0, 93)) dX11_goOn_32 fl_11_99 (hG.m0 (by decide)) rfl ?_
  refine am_iload_n dX11_goOn_35 rfl ?_
  refine am_zald (a := i) dX11_goOn_36 (hG.m0 (by decide)) rfl rfl (show i < 4 from (by omega)) (show 4 < 2 ^ 31 by decide) ?_
  refine am_top (show I 0 93 i = nI 0 from (by simp [am_up, am_upf, upd, hkd, hst, hfl, hfm, hms, htm, hnn, ha, hp, hl0, hls, htr, hha, hba, haa])) ?_
  refine am_if_eq (tgt := 54) dX11_goOn_37 (by decide) (fun _ => ?_) (fun h => absurd h (by decide))
  refine am_aload_n dX11_goOn_54 rfl ?_
  refine am_get (v := .inr (0, 93)) dX11_goOn_55 fl_11_99 (hG.m0 (by decide)) rfl ?_
  refine am_iload_n dX11_goOn_58 rfl ?_
  refine am_iconst (v := nI 0) dX11_goOn_59 (by decide) ?_
  refine am_zast (a := i) dX11_goOn_60 (hG.m0 (by decide)) rfl (by decide) rfl (show i < 4 from (by omega)) (show 4 < 2 ^ 31 by decide) ?_
  refine am_aload_n dX11_goOn_61 rfl ?_
  refine am_iload_n dX11_goOn_62 rfl ?_
  refine am_callVx (i := 0) (j := 60) (as := [.inl (nI i)]) (rest := []) dX11_goOn_63 lkX11_pinAll ml_X11_280 imX11_pinAll seX11_pinAll rfl rfl (hG.m0 (by decide)) rfl (Nat.le_of_ble_eq_true rfl) rfl (c_MpinAll0 hG hi (fun k hk => by simp [am_up, am_upf, hlz k hk])) ?_
  refine am_if_eq (tgt := 81) dX11_goOn_66 (by decide) (fun h => absurd h (by decide)) (fun _ => ?_)
  refine am_aload_n dX11_goOn_69 rfl ?_
  refine am_iload_n dX11_goOn_70 rfl ?_
  refine am_callVx (i := 0) (j := 60) (as := [.inl (nI i)]) (rest := []) dX11_goOn_71 lkX11_isTriedAgain ml_X11_283 imX11_isTriedAgain seX11_isTriedAgain rfl rfl (hG.m0 (by decide)) rfl (Nat.le_of_ble_eq_true rfl) rfl (c_MtriedAgain5 (a := a) hG hi (by omega) (am_up I 0 93 i (nI 0)) (fun k hk => by simp [am_up, am_upf, hpz k hk]) (by simp [am_up, am_upf, upd, hkd, hst, hfl, hfm, hms, htm, hnn, ha, hp, hl0, hls, htr, hha, hba, haa]) (by simp [am_up, am_upf, upd, hkd, hst, hfl, hfm, hms, htm, hnn, ha, hp, hl0, hls, htr, hha, hba, haa]) (by simp [am_up, am_upf, upd, hkd, hst, hfl, hfm, hms, htm, hnn, ha, hp, hl0, hls, htr, hha, hba, haa]) (by simp [am_up, am_upf, upd, hkd, hst, hfl, hfm, hms, htm, hnn, ha, hp, hl0, hls, htr, hha, hba, haa]) (by simp [am_up, am_upf, upd, hkd, hst, hfl, hfm, hms, htm, hnn, ha, hp, hl0, hls, htr, hha, hba, haa]) (by simp [am_up, am_upf, upd, hkd, hst, hfl, hfm, hms, htm, hnn, ha, hp, hl0, hls, htr, hha, hba, haa])) ?_
  refine am_nm (fun I1 hI1 => ?_)
  refine am_if_eq (tgt := 81) dX11_goOn_74 (by decide) (fun h => absurd h (by decide)) (fun _ => ?_)
  refine am_iconst (v := nI 1) dX11_goOn_77 (by decide) ?_
  refine am_goto (tgt := 82) dX11_goOn_78 (by decide) ?_
  refine am_istore_n dX11_goOn_82 (by decide) ?_
  refine am_goto (tgt := 6) dX11_goOn_83 (by decide) ?_
  refine am_iload_n dX11_goOn_6 rfl ?_
  refine am_if_eq (tgt := 86) dX11_goOn_7 (by decide) (fun h => absurd h (by decide)) (fun _ => ?_)
  refine am_aload_n dX11_goOn_10 rfl ?_
  refine am_get (v := .inr (0, 82)) dX11_goOn_11 fl_11_66 (hG.m0 (by decide)) rfl ?_
  refine am_iload_n dX11_goOn_14 rfl ?_
  refine am_iald (a := i) dX11_goOn_15 (hG.m0 (by decide)) rfl rfl (show i < 4 from (by omega)) (show 4 < 2 ^ 31 by decide) ?_
  refine am_top (show I1 0 82 i = nI 5 from (by simp [am_up, am_upf, upd, hkd, hst, hfl, hfm, hms, htm, hnn, ha, hp, hl0, hls, htr, hha, hba, haa, hI1])) ?_
  refine am_bipush (v := nI 10) dX11_goOn_16 (by decide) ?_
  refine am_icmp_ne (tgt := 31) dX11_goOn_18 (by decide) (fun _ => ?_) (fun h => absurd h (by decide))
  refine am_aload_n dX11_goOn_31 rfl ?_
  refine am_get (v := .inr (0, 93)) dX11_goOn_32 fl_11_99 (hG.m0 (by decide)) rfl ?_
  refine am_iload_n dX11_goOn_35 rfl ?_
  refine am_zald (a := i) dX11_goOn_36 (hG.m0 (by decide)) rfl rfl (show i < 4 from (by omega)) (show 4 < 2 ^ 31 by decide) ?_
  refine am_top (show I1 0 93 i = nI 0 from (by simp [am_up, am_upf, upd, hkd, hst, hfl, hfm, hms, htm, hnn, ha, hp, hl0, hls, htr, hha, hba, haa, hI1])) ?_
  refine am_if_eq (tgt := 54) dX11_goOn_37 (by decide) (fun _ => ?_) (fun h => absurd h (by decide))
  refine am_aload_n dX11_goOn_54 rfl ?_
  refine am_get (v := .inr (0, 93)) dX11_goOn_55 fl_11_99 (hG.m0 (by decide)) rfl ?_
  refine am_iload_n dX11_goOn_58 rfl ?_
  refine am_iconst (v := nI 0) dX11_goOn_59 (by decide) ?_
  refine am_zast (a := i) dX11_goOn_60 (hG.m0 (by decide)) rfl (by decide) rfl (show i < 4 from (by omega)) (show 4 < 2 ^ 31 by decide) ?_
  refine am_aload_n dX11_goOn_61 rfl ?_
  refine am_iload_n dX11_goOn_62 rfl ?_
  refine am_callVi (i := 0) (j := 60) (as := [.inl (nI i)]) (rest := []) dX11_goOn_63 lkX11_pinAll ml_X11_280 imX11_pinAll seX11_pinAll rfl rfl (hG.m0 (by decide)) rfl (Nat.le_of_ble_eq_true rfl) rfl (c_MpinAll1_1 (a := a) hG hi (by omega) (fun x hx => by simp [am_up, am_upf, upd, hj x hx, hI1]) (fun x hx => by simp [am_up, am_upf, upd, hu x hx, hI1]) (fun f t => by simp [am_up, am_upf, upd, hdl f t, hI1]) (fun f t => by simp [am_up, am_upf, upd, hld f t, hI1]) (fun k hk hne => by simp [am_up, am_upf, upd, hne, hlz k hk, hI1]) (by simp [am_up, am_upf, upd, hkd, hst, hfl, hfm, hms, htm, hnn, ha, hp, hl0, hls, htr, hha, hba, haa, hI1]) (by simp [am_up, am_upf, upd, hkd, hst, hfl, hfm, hms, htm, hnn, ha, hp, hl0, hls, htr, hha, hba, haa, hI1]) (by simp [am_up, am_upf, upd, hkd, hst, hfl, hfm, hms, htm, hnn, ha, hp, hl0, hls, htr, hha, hba, haa, hI1]) (by simp [am_up, am_upf, upd, hkd, hst, hfl, hfm, hms, htm, hnn, ha, hp, hl0, hls, htr, hha, hba, haa, hI1]) (by simp [am_up, am_upf, upd, hkd, hst, hfl, hfm, hms, htm, hnn, ha, hp, hl0, hls, htr, hha, hba, haa, hI1]) (by simp [am_up, am_upf, upd, hkd, hst, hfl, hfm, hms, htm, hnn, ha, hp, hl0, hls, htr, hha, hba, haa, hI1]) (by simp [am_up, am_upf, upd, hkd, hst, hfl, hfm, hms, htm, hnn, ha, hp, hl0, hls, htr, hha, hba, haa, hI1]) (by simp [am_up, am_upf, upd, hkd, hst, hfl, hfm, hms, htm, hnn, ha, hp, hl0, hls, htr, hha, hba, haa, hI1])) rfl (fun r9 I9 hq => ?_)
  obtain rfl := Option.some.inj hq.1
  have hst9 := hq.2.1
  have hth9 := hq.2.2
  refine am_nm (fun I2 hI2 => ?_)
  refine am_if_eq (tgt := 81) dX11_goOn_66 (by decide) (fun _ => ?_) (fun h => absurd h (by decide))
  refine am_iconst (v := nI 0) dX11_goOn_81 (by decide) ?_
  refine am_istore_n dX11_goOn_82 (by decide) ?_
  refine am_goto (tgt := 6) dX11_goOn_83 (by decide) ?_
  refine am_iload_n dX11_goOn_6 rfl ?_
  refine am_if_eq (tgt := 86) dX11_goOn_7 (by decide) (fun _ => ?_) (fun h => absurd h (by decide))
  refine am_vret dX11_goOn_86 rfl ?_
  exact ⟨rfl, (by simp [am_up, am_upf, upd, hkd, hst, hfl, hfm, hms, htm, hnn, ha, hp, hl0, hls, htr, hha, hba, haa, hI1, hst9, hth9, hI2]), (by simp [am_up, am_upf, upd, hkd, hst, hfl, hfm, hms, htm, hnn, ha, hp, hl0, hls, htr, hha, hba, haa, hI1, hst9, hth9, hI2])⟩
theorem c_MgoOn6 {G : am_G} (hG : am_okM G) {d : Nat} {i a : Nat} (hi : i < G.2.2.2.1) (hab : a < 128) (I : am_I) (hpz : ∀ k, k < 544 → I 0 79 k = nI 0) (hlz : ∀ k, k < 544 → I 0 81 k = nI 0) (hj : ∀ x, x < G.2.2.2.1 → I 0 66 x = nI 1) (hu : ∀ x, x < G.2.2.2.1 → I 0 65 x = nI 1) (hdl : ∀ f t, I 0 107 (4 * f + t) = nI 1) (hld : ∀ f t, I 0 108 (4 * f + t) = nI 0)  (hkd : I 0 82 i = nI 6) (hst : I 0 87 i = nI 1) (hfl : I 0 93 i = nI 0) (hfm : I 0 72 i = nI 0) (hms : I 0 60 38 = nI 0) (htm : I 0 60 2 = nI 0) (hnn : I 0 60 1 = nI G.2.2.2.1) (ha : I 0 83 i = nI a) (hp : I 0 79 (136 * i + a) = nI 0) (hl0 : I 0 81 (136 * i + a) = nI 0) (hls : I 0 92 i = nI 0) (htr : I 0 91 i = nI 0) (hha : I 0 76 (136 * i + a) = nI 0) (hba : I 0 78 (136 * i + a) = (-1 : Int32)) (haa : I 0 77 (136 * i + a) = nI 0) : am_C G (d + 6) mX11_goOn [.inr (0, 60), .inl (nI i)] I (fun r J => r = none ∧ J 0 87 i = nI 1 ∧ J 0 60 0 = I 0 60 0) := by
  have hn4 := hG.hi
  have hn2 := hG.lo
  refine am_of (by decide +kernel) hG.nd (Nat.le_of_ble_eq_true rfl) ?_
  refine am_aload_n dX11_goOn_0 rfl ?_
  refine am_iload_n dX11_goOn_1 rfl ?_
  refine am_callVx (i := 0) (j := 60) (as := [.inl (nI i)]) (rest := []) dX11_goOn_2 lkX11_isCalling ml_X11_264 imX11_isCalling seX11_isCalling rfl rfl (hG.m0 (by decide)) rfl (Nat.le_of_ble_eq_true rfl) rfl (c_MisCalling1 hG hi I (by simp [am_up, am_upf, upd, hkd, hst, hfl, hfm, hms, htm, hnn, ha, hp, hl0, hls, htr, hha, hba, haa])) ?_
  refine am_istore_n dX11_goOn_5 (by decide) ?_
  refine am_iload_n dX11_goOn_6 rfl ?_
  refine am_if_eq (tgt := 86) dX11_goOn_7 (by decide) (fun h => absurd h (by decide)) (fun _ => ?_)
  refine am_aload_n dX11_goOn_10 rfl ?_
  refine am_get (v := .inr (0, 82)) dX11_goOn_11 fl_11_66 (hG.m0 (by decide)) rfl ?_
  refine am_iload_n dX11_goOn_14 rfl ?_
  refine am_iald (a := i) dX11_goOn_15 (hG.m0 (by decide)) rfl rfl (show i < 4 from (by omega)) (show 4 < 2 ^ 31 by decide) ?_
  refine am_top (show I 0 82 i = nI 6 from (by simp [am_up, am_upf, upd, hkd, hst, hfl, hfm, hms, htm, hnn, ha, hp, hl0, hls, htr, hha, hba, haa])) ?_
  refine am_bipush (v := nI 10) dX11_goOn_16 (by decide) ?_
  refine am_icmp_ne (tgt := 31) dX11_goOn_18 (by decide) (fun _ => ?_) (fun h => absurd h (by decide))
  refine am_aload_n dX11_goOn_31 rfl ?_
  refine am_get (v := .inr (0, 93)) dX11_goOn_32 fl_11_99 (hG.m0 (by decide)) rfl ?_
  refine am_iload_n dX11_goOn_35 rfl ?_
  refine am_zald (a := i) dX11_goOn_36 (hG.m0 (by decide)) rfl rfl (show i < 4 from (by omega)) (show 4 < 2 ^ 31 by decide) ?_
  refine am_top (show I 0 93 i = nI 0 from (by simp [am_up, am_upf, upd, hkd, hst, hfl, hfm, hms, htm, hnn, ha, hp, hl0, hls, htr, hha, hba, haa])) ?_
  refine am_if_eq (tgt := 54) dX11_goOn_37 (by decide) (fun _ => ?_) (fun h => absurd h (by decide))
  refine am_aload_n dX11_goOn_54 rfl ?_
  refine am_get (v := .inr (0, 93)) dX11_goOn_55 fl_11_99 (hG.m0 (by decide)) rfl ?_
  refine am_iload_n dX11_goOn_58 rfl ?_
  refine am_iconst (v := nI 0) dX11_goOn_59 (by decide) ?_
  refine am_zast (a := i) dX11_goOn_60 (hG.m0 (by decide)) rfl (by decide) rfl (show i < 4 from (by omega)) (show 4 < 2 ^ 31 by decide) ?_
  refine am_aload_n dX11_goOn_61 rfl ?_
  refine am_iload_n dX11_goOn_62 rfl ?_
  refine am_callVx (i := 0) (j := 60) (as := [.inl (nI i)]) (rest := []) dX11_goOn_63 lkX11_pinAll ml_X11_280 imX11_pinAll seX11_pinAll rfl rfl (hG.m0 (by decide)) rfl (Nat.le_of_ble_eq_true rfl) rfl (c_MpinAll0 hG hi (fun k hk => by simp [am_up, am_upf, hlz k hk])) ?_
  refine am_if_eq (tgt := 81) dX11_goOn_66 (by decide) (fun h => absurd h (by decide)) (fun _ => ?_)
  refine am_aload_n dX11_goOn_69 rfl ?_
  refine am_iload_n dX11_goOn_70 rfl ?_
  refine am_callVx (i := 0) (j := 60) (as := [.inl (nI i)]) (rest := []) dX11_goOn_71 lkX11_isTriedAgain ml_X11_283 imX11_isTriedAgain seX11_isTriedAgain rfl rfl (hG.m0 (by decide)) rfl (Nat.le_of_ble_eq_true rfl) rfl (c_MtriedAgain6 (a := a) hG hi (by omega) (am_up I 0 93 i (nI 0)) (fun k hk => by simp [am_up, am_upf, hpz k hk]) (by simp [am_up, am_upf, upd, hkd, hst, hfl, hfm, hms, htm, hnn, ha, hp, hl0, hls, htr, hha, hba, haa]) (by simp [am_up, am_upf, upd, hkd, hst, hfl, hfm, hms, htm, hnn, ha, hp, hl0, hls, htr, hha, hba, haa]) (by simp [am_up, am_upf, upd, hkd, hst, hfl, hfm, hms, htm, hnn, ha, hp, hl0, hls, htr, hha, hba, haa]) (by simp [am_up, am_upf, upd, hkd, hst, hfl, hfm, hms, htm, hnn, ha, hp, hl0, hls, htr, hha, hba, haa]) (by simp [am_up, am_upf, upd, hkd, hst, hfl, hfm, hms, htm, hnn, ha, hp, hl0, hls, htr, hha, hba, haa]) (by simp [am_up, am_upf, upd, hkd, hst, hfl, hfm, hms, htm, hnn, ha, hp, hl0, hls, htr, hha, hba, haa])) ?_
  refine am_nm (fun I1 hI1 => ?_)
  refine am_if_eq (tgt := 81) dX11_goOn_74 (by decide) (fun h => absurd h (by decide)) (fun _ => ?_)
  refine am_iconst (v := nI 1) dX11_goOn_77 (by decide) ?_
  refine am_goto (tgt := 82) dX11_goOn_78 (by decide) ?_
  refine am_istore_n dX11_goOn_82 (by decide) ?_
  refine am_goto (tgt := 6) dX11_goOn_83 (by decide) ?_
  refine am_iload_n dX11_goOn_6 rfl ?_
  refine am_if_eq (tgt := 86) dX11_goOn_7 (by decide) (fun h => absurd h (by decide)) (fun _ => ?_)
  refine am_aload_n dX11_goOn_10 rfl ?_
  refine am_get (v := .inr (0, 82)) dX11_goOn_11 fl_11_66 (hG.m0 (by decide)) rfl ?_
  refine am_iload_n dX11_goOn_14 rfl ?_
  refine am_iald (a := i) dX11_goOn_15 (hG.m0 (by decide)) rfl rfl (show i < 4 from (by omega)) (show 4 < 2 ^ 31 by decide) ?_
  refine am_top (show I1 0 82 i = nI 6 from (by simp [am_up, am_upf, upd, hkd, hst, hfl, hfm, hms, htm, hnn, ha, hp, hl0, hls, htr, hha, hba, haa, hI1])) ?_
  refine am_bipush (v := nI 10) dX11_goOn_16 (by decide) ?_
  refine am_icmp_ne (tgt := 31) dX11_goOn_18 (by decide) (fun _ => ?_) (fun h => absurd h (by decide))
  refine am_aload_n dX11_goOn_31 rfl ?_
  refine am_get (v := .inr (0, 93)) dX11_goOn_32 fl_11_99 (hG.m0 (by decide)) rfl ?_
  refine am_iload_n dX11_goOn_35 rfl ?_
  refine am_zald (a := i) dX11_goOn_36 (hG.m0 (by decide)) rfl rfl (show i < 4 from (by omega)) (show 4 < 2 ^ 31 by decide) ?_
  refine am_top (show I1 0 93 i = nI 0 from (by simp [am_up, am_upf, upd, hkd, hst, hfl, hfm, hms, htm, hnn, ha, hp, hl0, hls, htr, hha, hba, haa, hI1])) ?_
  refine am_if_eq (tgt := 54) dX11_goOn_37 (by decide) (fun _ => ?_) (fun h => absurd h (by decide))
  refine am_aload_n dX11_goOn_54 rfl ?_
  refine am_get (v := .inr (0, 93)) dX11_goOn_55 fl_11_99 (hG.m0 (by decide)) rfl ?_
  refine am_iload_n dX11_goOn_58 rfl ?_
  refine am_iconst (v := nI 0) dX11_goOn_59 (by decide) ?_
  refine am_zast (a := i) dX11_goOn_60 (hG.m0 (by decide)) rfl (by decide) rfl (show i < 4 from (by omega)) (show 4 < 2 ^ 31 by decide) ?_
  refine am_aload_n dX11_goOn_61 rfl ?_
  refine am_iload_n dX11_goOn_62 rfl ?_
  refine am_callVi (i := 0) (j := 60) (as := [.inl (nI i)]) (rest := []) dX11_goOn_63 lkX11_pinAll ml_X11_280 imX11_pinAll seX11_pinAll rfl rfl (hG.m0 (by decide)) rfl (Nat.le_of_ble_eq_true rfl) rfl (c_MpinAll1_2 (a := a) hG hi (by omega) (fun x hx => by simp [am_up, am_upf, upd, hj x hx, hI1]) (fun x hx => by simp [am_up, am_upf, upd, hu x hx, hI1]) (fun f t => by simp [am_up, am_upf, upd, hdl f t, hI1]) (fun f t => by simp [am_up, am_upf, upd, hld f t, hI1]) (fun k hk hne => by simp [am_up, am_upf, upd, hne, hlz k hk, hI1]) (by simp [am_up, am_upf, upd, hkd, hst, hfl, hfm, hms, htm, hnn, ha, hp, hl0, hls, htr, hha, hba, haa, hI1]) (by simp [am_up, am_upf, upd, hkd, hst, hfl, hfm, hms, htm, hnn, ha, hp, hl0, hls, htr, hha, hba, haa, hI1]) (by simp [am_up, am_upf, upd, hkd, hst, hfl, hfm, hms, htm, hnn, ha, hp, hl0, hls, htr, hha, hba, haa, hI1]) (by simp [am_up, am_upf, upd, hkd, hst, hfl, hfm, hms, htm, hnn, ha, hp, hl0, hls, htr, hha, hba, haa, hI1]) (by simp [am_up, am_upf, upd, hkd, hst, hfl, hfm, hms, htm, hnn, ha, hp, hl0, hls, htr, hha, hba, haa, hI1]) (by simp [am_up, am_upf, upd, hkd, hst, hfl, hfm, hms, htm, hnn, ha, hp, hl0, hls, htr, hha, hba, haa, hI1]) (by simp [am_up, am_upf, upd, hkd, hst, hfl, hfm, hms, htm, hnn, ha, hp, hl0, hls, htr, hha, hba, haa, hI1]) (by simp [am_up, am_upf, upd, hkd, hst, hfl, hfm, hms, htm, hnn, ha, hp, hl0, hls, htr, hha, hba, haa, hI1])) rfl (fun r9 I9 hq => ?_)
  obtain rfl := Option.some.inj hq.1
  have hst9 := hq.2.1
  have hth9 := hq.2.2
  refine am_nm (fun I2 hI2 => ?_)
  refine am_if_eq (tgt := 81) dX11_goOn_66 (by decide) (fun _ => ?_) (fun h => absurd h (by decide))
  refine am_iconst (v := nI 0) dX11_goOn_81 (by decide) ?_
  refine am_istore_n dX11_goOn_82 (by decide) ?_
  refine am_goto (tgt := 6) dX11_goOn_83 (by decide) ?_
  refine am_iload_n dX11_goOn_6 rfl ?_
  refine am_if_eq (tgt := 86) dX11_goOn_7 (by decide) (fun _ => ?_) (fun h => absurd h (by decide))
  refine am_vret dX11_goOn_86 rfl ?_
  exact ⟨rfl, (by simp [am_up, am_upf, upd, hkd, hst, hfl, hfm, hms, htm, hnn, ha, hp, hl0, hls, htr, hha, hba, haa, hI1, hst9, hth9, hI2]), (by simp [am_up, am_upf, upd, hkd, hst, hfl, hfm, hms, htm, hnn, ha, hp, hl0, hls, htr, hha, hba, haa, hI1, hst9, hth9, hI2])⟩
theorem c_MgoOn7 {G : am_G} (hG : am_okM G) {d : Nat} {i a : Nat} (hi : i < G.2.2.2.1) (hab : a < 128) (I : am_I) (hpz : ∀ k, k < 544 → I 0 79 k = nI 0) (hlz : ∀ k, k < 544 → I 0 81 k = nI 0) (hj : ∀ x, x < G.2.2.2.1 → I 0 66 x = nI 1) (hu : ∀ x, x < G.2.2.2.1 → I 0 65 x = nI 1) (hdl : ∀ f t, I 0 107 (4 * f + t) = nI 1) (hld : ∀ f t, I 0 108 (4 * f + t) = nI 0)  (hkd : I 0 82 i = nI 7) (hst : I 0 87 i = nI 1) (hfl : I 0 93 i = nI 0) (hfm : I 0 72 i = nI 0) (hms : I 0 60 38 = nI 0) (htm : I 0 60 2 = nI 0) (hnn : I 0 60 1 = nI G.2.2.2.1) (ha : I 0 83 i = nI a) (hp : I 0 79 (136 * i + a) = nI 0) (hl0 : I 0 81 (136 * i + a) = nI 0) (hls : I 0 92 i = nI 0) (htr : I 0 91 i = nI 0) (hha : I 0 76 (136 * i + a) = nI 0) (hba : I 0 78 (136 * i + a) = (-1 : Int32)) (haa : I 0 77 (136 * i + a) = nI 0) : am_C G (d + 6) mX11_goOn [.inr (0, 60), .inl (nI i)] I (fun r J => r = none ∧ J 0 87 i = nI 1 ∧ J 0 60 0 = I 0 60 0) := by
  have hn4 := hG.hi
  have hn2 := hG.lo
  refine am_of (by decide +kernel) hG.nd (Nat.le_of_ble_eq_true rfl) ?_
  refine am_aload_n dX11_goOn_0 rfl ?_
  refine am_iload_n dX11_goOn_1 rfl ?_
  refine am_callVx (i := 0) (j := 60) (as := [.inl (nI i)]) (rest := []) dX11_goOn_2 lkX11_isCalling ml_X11_264 imX11_isCalling seX11_isCalling rfl rfl (hG.m0 (by decide)) rfl (Nat.le_of_ble_eq_true rfl) rfl (c_MisCalling1 hG hi I (by simp [am_up, am_upf, upd, hkd, hst, hfl, hfm, hms, htm, hnn, ha, hp, hl0, hls, htr, hha, hba, haa])) ?_
  refine am_istore_n dX11_goOn_5 (by decide) ?_
  refine am_iload_n dX11_goOn_6 rfl ?_
  refine am_if_eq (tgt := 86) dX11_goOn_7 (by decide) (fun h => absurd h (by decide)) (fun _ => ?_)
  refine am_aload_n dX11_goOn_10 rfl ?_
  refine am_get (v := .inr (0, 82)) dX11_goOn_11 fl_11_66 (hG.m0 (by decide)) rfl ?_
  refine am_iload_n dX11_goOn_14 rfl ?_
  refine am_iald (a := i) dX11_goOn_15 (hG.m0 (by decide)) rfl rfl (show i < 4 from (by omega)) (show 4 < 2 ^ 31 by decide) ?_
  refine am_top (show I 0 82 i = nI 7 from (by simp [am_up, am_upf, upd, hkd, hst, hfl, hfm, hms, htm, hnn, ha, hp, hl0, hls, htr, hha, hba, haa])) ?_
  refine am_bipush (v := nI 10) dX11_goOn_16 (by decide) ?_
  refine am_icmp_ne (tgt := 31) dX11_goOn_18 (by decide) (fun _ => ?_) (fun h => absurd h (by decide))
  refine am_aload_n dX11_goOn_31 rfl ?_
  refine am_get (v := .inr (0, 93)) dX11_goOn_32 fl_11_99 (hG.m0 (by decide)) rfl ?_
  refine am_iload_n dX11_goOn_35 rfl ?_
  refine am_zald (a := i) dX11_goOn_36 (hG.m0 (by decide)) rfl rfl (show i < 4 from (by omega)) (show 4 < 2 ^ 31 by decide) ?_
  refine am_top (show I 0 93 i = nI 0 from (by simp [am_up, am_upf, upd, hkd, hst, hfl, hfm, hms, htm, hnn, ha, hp, hl0, hls, htr, hha, hba, haa])) ?_
  refine am_if_eq (tgt := 54) dX11_goOn_37 (by decide) (fun _ => ?_) (fun h => absurd h (by decide))
  refine am_aload_n dX11_goOn_54 rfl ?_
  refine am_get (v := .inr (0, 93)) dX11_goOn_55 fl_11_99 (hG.m0 (by decide)) rfl ?_
  refine am_iload_n dX11_goOn_58 rfl ?_
  refine am_iconst (v := nI 0) dX11_goOn_59 (by decide) ?_
  refine am_zast (a := i) dX11_goOn_60 (hG.m0 (by decide)) rfl (by decide) rfl (show i < 4 from (by omega)) (show 4 < 2 ^ 31 by decide) ?_
  refine am_aload_n dX11_goOn_61 rfl ?_
  refine am_iload_n dX11_goOn_62 rfl ?_
  refine am_callVx (i := 0) (j := 60) (as := [.inl (nI i)]) (rest := []) dX11_goOn_63 lkX11_pinAll ml_X11_280 imX11_pinAll seX11_pinAll rfl rfl (hG.m0 (by decide)) rfl (Nat.le_of_ble_eq_true rfl) rfl (c_MpinAll0 hG hi (fun k hk => by simp [am_up, am_upf, hlz k hk])) ?_
  refine am_if_eq (tgt := 81) dX11_goOn_66 (by decide) (fun h => absurd h (by decide)) (fun _ => ?_)
  refine am_aload_n dX11_goOn_69 rfl ?_
  refine am_iload_n dX11_goOn_70 rfl ?_
  refine am_callVx (i := 0) (j := 60) (as := [.inl (nI i)]) (rest := []) dX11_goOn_71 lkX11_isTriedAgain ml_X11_283 imX11_isTriedAgain seX11_isTriedAgain rfl rfl (hG.m0 (by decide)) rfl (Nat.le_of_ble_eq_true rfl) rfl (c_MtriedAgain7 (a := a) hG hi (by omega) (am_up I 0 93 i (nI 0)) (fun k hk => by simp [am_up, am_upf, hpz k hk]) (by simp [am_up, am_upf, upd, hkd, hst, hfl, hfm, hms, htm, hnn, ha, hp, hl0, hls, htr, hha, hba, haa]) (by simp [am_up, am_upf, upd, hkd, hst, hfl, hfm, hms, htm, hnn, ha, hp, hl0, hls, htr, hha, hba, haa]) (by simp [am_up, am_upf, upd, hkd, hst, hfl, hfm, hms, htm, hnn, ha, hp, hl0, hls, htr, hha, hba, haa]) (by simp [am_up, am_upf, upd, hkd, hst, hfl, hfm, hms, htm, hnn, ha, hp, hl0, hls, htr, hha, hba, haa]) (by simp [am_up, am_upf, upd, hkd, hst, hfl, hfm, hms, htm, hnn, ha, hp, hl0, hls, htr, hha, hba, haa]) (by simp [am_up, am_upf, upd, hkd, hst, hfl, hfm, hms, htm, hnn, ha, hp, hl0, hls, htr, hha, hba, haa])) ?_
  refine am_nm (fun I1 hI1 => ?_)
  refine am_if_eq (tgt := 81) dX11_goOn_74 (by decide) (fun h => absurd h (by decide)) (fun _ => ?_)
  refine am_iconst (v := nI 1) dX11_goOn_77 (by decide) ?_
  refine am_goto (tgt := 82) dX11_goOn_78 (by decide) ?_
  refine am_istore_n dX11_goOn_82 (by decide) ?_
  refine am_goto (tgt := 6) dX11_goOn_83 (by decide) ?_
  refine am_iload_n dX11_goOn_6 rfl ?_
  refine am_if_eq (tgt := 86) dX11_goOn_7 (by decide) (fun h => absurd h (by decide)) (fun _ => ?_)
  refine am_aload_n dX11_goOn_10 rfl ?_
  refine am_get (v := .inr (0, 82)) dX11_goOn_11 fl_11_66 (hG.m0 (by decide)) rfl ?_
  refine am_iload_n dX11_goOn_14 rfl ?_
  refine am_iald (a := i) dX11_goOn_15 (hG.m0 (by decide)) rfl rfl (show i < 4 from (by omega)) (show 4 < 2 ^ 31 by decide) ?_
  refine am_top (show I1 0 82 i = nI 7 from (by simp [am_up, am_upf, upd, hkd, hst, hfl, hfm, hms, htm, hnn, ha, hp, hl0, hls, htr, hha, hba, haa, hI1])) ?_
  refine am_bipush (v := nI 10) dX11_goOn_16 (by decide) ?_
  refine am_icmp_ne (tgt := 31) dX11_goOn_18 (by decide) (fun _ => ?_) (fun h => absurd h (by decide))
  refine am_aload_n dX11_goOn_31 rfl ?_
  refine am_get (v := .inr (0, 93)) dX11_goOn_32 fl_11_99 (hG.m0 (by decide)) rfl ?_
  refine am_iload_n dX11_goOn_35 rfl ?_
  refine am_zald (a := i) dX11_goOn_36 (hG.m0 (by decide)) rfl rfl (show i < 4 from (by omega)) (show 4 < 2 ^ 31 by decide) ?_
  refine am_top (show I1 0 93 i = nI 0 from (by simp [am_up, am_upf, upd, hkd, hst, hfl, hfm, hms, htm, hnn, ha, hp, hl0, hls, htr, hha, hba, haa, hI1])) ?_
  refine am_if_eq (tgt := 54) dX11_goOn_37 (by decide) (fun _ => ?_) (fun h => absurd h (by decide))
  refine am_aload_n dX11_goOn_54 rfl ?_
  refine am_get (v := .inr (0, 93)) dX11_goOn_55 fl_11_99 (hG.m0 (by decide)) rfl ?_
  refine am_iload_n dX11_goOn_58 rfl ?_
  refine am_iconst (v := nI 0) dX11_goOn_59 (by decide) ?_
  refine am_zast (a := i) dX11_goOn_60 (hG.m0 (by decide)) rfl (by decide) rfl (show i < 4 from (by omega)) (show 4 < 2 ^ 31 by decide) ?_
  refine am_aload_n dX11_goOn_61 rfl ?_
  refine am_iload_n dX11_goOn_62 rfl ?_
  refine am_callVi (i := 0) (j := 60) (as := [.inl (nI i)]) (rest := []) dX11_goOn_63 lkX11_pinAll ml_X11_280 imX11_pinAll seX11_pinAll rfl rfl (hG.m0 (by decide)) rfl (Nat.le_of_ble_eq_true rfl) rfl (c_MpinAll1_2 (a := a) hG hi (by omega) (fun x hx => by simp [am_up, am_upf, upd, hj x hx, hI1]) (fun x hx => by simp [am_up, am_upf, upd, hu x hx, hI1]) (fun f t => by simp [am_up, am_upf, upd, hdl f t, hI1]) (fun f t => by simp [am_up, am_upf, upd, hld f t, hI1]) (fun k hk hne => by simp [am_up, am_upf, upd, hne, hlz k hk, hI1]) (by simp [am_up, am_upf, upd, hkd, hst, hfl, hfm, hms, htm, hnn, ha, hp, hl0, hls, htr, hha, hba, haa, hI1]) (by simp [am_up, am_upf, upd, hkd, hst, hfl, hfm, hms, htm, hnn, ha, hp, hl0, hls, htr, hha, hba, haa, hI1]) (by simp [am_up, am_upf, upd, hkd, hst, hfl, hfm, hms, htm, hnn, ha, hp, hl0, hls, htr, hha, hba, haa, hI1]) (by simp [am_up, am_upf, upd, hkd, hst, hfl, hfm, hms, htm, hnn, ha, hp, hl0, hls, htr, hha, hba, haa, hI1]) (by simp [am_up, am_upf, upd, hkd, hst, hfl, hfm, hms, htm, hnn, ha, hp, hl0, hls, htr, hha, hba, haa, hI1]) (by simp [am_up, am_upf, upd, hkd, hst, hfl, hfm, hms, htm, hnn, ha, hp, hl0, hls, htr, hha, hba, haa, hI1]) (by simp [am_up, am_upf, upd, hkd, hst, hfl, hfm, hms, htm, hnn, ha, hp, hl0, hls, htr, hha, hba, haa, hI1]) (by simp [am_up, am_upf, upd, hkd, hst, hfl, hfm, hms, htm, hnn, ha, hp, hl0, hls, htr, hha, hba, haa, hI1])) rfl (fun r9 I9 hq => ?_)
  obtain rfl := Option.some.inj hq.1
  have hst9 := hq.2.1
  have hth9 := hq.2.2
  refine am_nm (fun I2 hI2 => ?_)
  refine am_if_eq (tgt := 81) dX11_goOn_66 (by decide) (fun _ => ?_) (fun h => absurd h (by decide))
  refine am_iconst (v := nI 0) dX11_goOn_81 (by decide) ?_
  refine am_istore_n dX11_goOn_82 (by decide) ?_
  refine am_goto (tgt := 6) dX11_goOn_83 (by decide) ?_
  refine am_iload_n dX11_goOn_6 rfl ?_
  refine am_if_eq (tgt := 86) dX11_goOn_7 (by decide) (fun _ => ?_) (fun h => absurd h (by decide))
  refine am_vret dX11_goOn_86 rfl ?_
  exact ⟨rfl, (by simp [am_up, am_upf, upd, hkd, hst, hfl, hfm, hms, htm, hnn, ha, hp, hl0, hls, htr, hha, hba, haa, hI1, hst9, hth9, hI2]), (by simp [am_up, am_upf, upd, hkd, hst, hfl, hfm, hms, htm, hnn, ha, hp, hl0, hls, htr, hha, hba, haa, hI1, hst9, hth9, hI2])⟩
theorem c_MgoOn8 {G : am_G} (hG : am_okM G) {d : Nat} {i a : Nat} (hi : i < G.2.2.2.1) (hab : a < 128) (I : am_I) (hpz : ∀ k, k < 544 → I 0 79 k = nI 0) (hlz : ∀ k, k < 544 → I 0 81 k = nI 0) (hj : ∀ x, x < G.2.2.2.1 → I 0 66 x = nI 1) (hu : ∀ x, x < G.2.2.2.1 → I 0 65 x = nI 1) (hdl : ∀ f t, I 0 107 (4 * f + t) = nI 1) (hld : ∀ f t, I 0 108 (4 * f + t) = nI 0)  (hkd : I 0 82 i = nI 8) (hst : I 0 87 i = nI 1) (hfl : I 0 93 i = nI 0) (hfm : I 0 72 i = nI 0) (hms : I 0 60 38 = nI 0) (htm : I 0 60 2 = nI 0) (hnn : I 0 60 1 = nI G.2.2.2.1) (ha : I 0 83 i = nI a) (hp : I 0 79 (136 * i + a) = nI 0) (hl0 : I 0 81 (136 * i + a) = nI 0) (hls : I 0 92 i = nI 0) (htr : I 0 91 i = nI 0) (hha : I 0 76 (136 * i + a) = nI 0) (hba : I 0 78 (136 * i + a) = (-1 : Int32)) (haa : I 0 77 (136 * i + a) = nI 0) : am_C G (d + 6) mX11_goOn [.inr (0, 60), .inl (nI i)] I (fun r J => r = none ∧ J 0 87 i = nI 1 ∧ J 0 60 0 = I 0 60 0) := by
  have hn4 := hG.hi
  have hn2 := hG.lo
  refine am_of (by decide +kernel) hG.nd (Nat.le_of_ble_eq_true rfl) ?_
  refine am_aload_n dX11_goOn_0 rfl ?_
  refine am_iload_n dX11_goOn_1 rfl ?_
  refine am_callVx (i := 0) (j := 60) (as := [.inl (nI i)]) (rest := []) dX11_goOn_2 lkX11_isCalling ml_X11_264 imX11_isCalling seX11_isCalling rfl rfl (hG.m0 (by decide)) rfl (Nat.le_of_ble_eq_true rfl) rfl (c_MisCalling1 hG hi I (by simp [am_up, am_upf, upd, hkd, hst, hfl, hfm, hms, htm, hnn, ha, hp, hl0, hls, htr, hha, hba, haa])) ?_
  refine am_istore_n dX11_goOn_5 (by decide) ?_
  refine am_iload_n dX11_goOn_6 rfl ?_
  refine am_if_eq (tgt := 86) dX11_goOn_7 (by decide) (fun h => absurd h (by decide)) (fun _ => ?_)
  refine am_aload_n dX11_goOn_10 rfl ?_
  refine am_get (v := .inr (0, 82)) dX11_goOn_11 fl_11_66 (hG.m0 (by decide)) rfl ?_
  refine am_iload_n dX11_goOn_14 rfl ?_
  refine am_iald (a := i) dX11_goOn_15 (hG.m0 (by decide)) rfl rfl (show i < 4 from (by omega)) (show 4 < 2 ^ 31 by decide) ?_
  refine am_top (show I 0 82 i = nI 8 from (by simp [am_up, am_upf, upd, hkd, hst, hfl, hfm, hms, htm, hnn, ha, hp, hl0, hls, htr, hha, hba, haa])) ?_
  refine am_bipush (v := nI 10) dX11_goOn_16 (by decide) ?_
  refine am_icmp_ne (tgt := 31) dX11_goOn_18 (by decide) (fun _ => ?_) (fun h => absurd h (by decide))
  refine am_aload_n dX11_goOn_31 rfl ?_
  refine am_get (v := .inr (0, 93)) dX11_goOn_32 fl_11_99 (hG.m0 (by decide)) rfl ?_
  refine am_iload_n dX11_goOn_35 rfl ?_
  refine am_zald (a := i) dX11_goOn_36 (hG.m0 (by decide)) rfl rfl (show i < 4 from (by omega)) (show 4 < 2 ^ 31 by decide) ?_
  refine am_top (show I 0 93 i = nI 0 from (by simp [am_up, am_upf, upd, hkd, hst, hfl, hfm, hms, htm, hnn, ha, hp, hl0, hls, htr, hha, hba, haa])) ?_
  refine am_if_eq (tgt := 54) dX11_goOn_37 (by decide) (fun _ => ?_) (fun h => absurd h (by decide))
  refine am_aload_n dX11_goOn_54 rfl ?_
  refine am_get (v := .inr (0, 93)) dX11_goOn_55 fl_11_99 (hG.m0 (by decide)) rfl ?_
  refine am_iload_n dX11_goOn_58 rfl ?_
  refine am_iconst (v := nI 0) dX11_goOn_59 (by decide) ?_
  refine am_zast (a := i) dX11_goOn_60 (hG.m0 (by decide)) rfl (by decide) rfl (show i < 4 from (by omega)) (show 4 < 2 ^ 31 by decide) ?_
  refine am_aload_n dX11_goOn_61 rfl ?_
  refine am_iload_n dX11_goOn_62 rfl ?_
  refine am_callVx (i := 0) (j := 60) (as := [.inl (nI i)]) (rest := []) dX11_goOn_63 lkX11_pinAll ml_X11_280 imX11_pinAll seX11_pinAll rfl rfl (hG.m0 (by decide)) rfl (Nat.le_of_ble_eq_true rfl) rfl (c_MpinAll0 hG hi (fun k hk => by simp [am_up, am_upf, hlz k hk])) ?_
  refine am_if_eq (tgt := 81) dX11_goOn_66 (by decide) (fun h => absurd h (by decide)) (fun _ => ?_)
  refine am_aload_n dX11_goOn_69 rfl ?_
  refine am_iload_n dX11_goOn_70 rfl ?_
  refine am_callVx (i := 0) (j := 60) (as := [.inl (nI i)]) (rest := []) dX11_goOn_71 lkX11_isTriedAgain ml_X11_283 imX11_isTriedAgain seX11_isTriedAgain rfl rfl (hG.m0 (by decide)) rfl (Nat.le_of_ble_eq_true rfl) rfl (c_MtriedAgain8 (a := a) hG hi (by omega) (am_up I 0 93 i (nI 0)) (fun k hk => by simp [am_up, am_upf, hpz k hk]) (by simp [am_up, am_upf, upd, hkd, hst, hfl, hfm, hms, htm, hnn, ha, hp, hl0, hls, htr, hha, hba, haa]) (by simp [am_up, am_upf, upd, hkd, hst, hfl, hfm, hms, htm, hnn, ha, hp, hl0, hls, htr, hha, hba, haa]) (by simp [am_up, am_upf, upd, hkd, hst, hfl, hfm, hms, htm, hnn, ha, hp, hl0, hls, htr, hha, hba, haa]) (by simp [am_up, am_upf, upd, hkd, hst, hfl, hfm, hms, htm, hnn, ha, hp, hl0, hls, htr, hha, hba, haa]) (by simp [am_up, am_upf, upd, hkd, hst, hfl, hfm, hms, htm, hnn, ha, hp, hl0, hls, htr, hha, hba, haa]) (by simp [am_up, am_upf, upd, hkd, hst, hfl, hfm, hms, htm, hnn, ha, hp, hl0, hls, htr, hha, hba, haa])) ?_
  refine am_nm (fun I1 hI1 => ?_)
  refine am_if_eq (tgt := 81) dX11_goOn_74 (by decide) (fun h => absurd h (by decide)) (fun _ => ?_)
  refine am_iconst (v := nI 1) dX11_goOn_77 (by decide) ?_
  refine am_goto (tgt := 82) dX11_goOn_78 (by decide) ?_
  refine am_istore_n dX11_goOn_82 (by decide) ?_
  refine am_goto (tgt := 6) dX11_goOn_83 (by decide) ?_
  refine am_iload_n dX11_goOn_6 rfl ?_
  refine am_if_eq (tgt := 86) dX11_goOn_7 (by decide) (fun h => absurd h (by decide)) (fun _ => ?_)
  refine am_aload_n dX11_goOn_10 rfl ?_
  refine am_get (v := .inr (0, 82)) dX11_goOn_11 fl_11_66 (hG.m0 (by decide)) rfl ?_
  refine am_iload_n dX11_goOn_14 rfl ?_
  refine am_iald (a := i) dX11_goOn_15 (hG.m0 (by decide)) rfl rfl (show i < 4 from (by omega)) (show 4 < 2 ^ 31 by decide) ?_
  refine am_top (show I1 0 82 i = nI 8 from (by simp [am_up, am_upf, upd, hkd, hst, hfl, hfm, hms, htm, hnn, ha, hp, hl0, hls, htr, hha, hba, haa, hI1])) ?_
  refine am_bipush (v := nI 10) dX11_goOn_16 (by decide) ?_
  refine am_icmp_ne (tgt := 31) dX11_goOn_18 (by decide) (fun _ => ?_) (fun h => absurd h (by decide))
  refine am_aload_n dX11_goOn_31 rfl ?_
  refine am_get (v := .inr (0, 93)) dX11_goOn_32 fl_11_99 (hG.m0 (by decide)) rfl ?_
  refine am_iload_n dX11_goOn_35 rfl ?_
  refine am_zald (a := i) dX11_goOn_36 (hG.m0 (by decide)) rfl rfl (show i < 4 from (by omega)) (show 4 < 2 ^ 31 by decide) ?_
  refine am_top (show I1 0 93 i = nI 0 from (by simp [am_up, am_upf, upd, hkd, hst, hfl, hfm, hms, htm, hnn, ha, hp, hl0, hls, htr, hha, hba, haa, hI1])) ?_
  refine am_if_eq (tgt := 54) dX11_goOn_37 (by decide) (fun _ => ?_) (fun h => absurd h (by decide))
  refine am_aload_n dX11_goOn_54 rfl ?_
  refine am_get (v := .inr (0, 93)) dX11_goOn_55 fl_11_99 (hG.m0 (by decide)) rfl ?_
  refine am_iload_n dX11_goOn_58 rfl ?_
  refine am_iconst (v := nI 0) dX11_goOn_59 (by decide) ?_
  refine am_zast (a := i) dX11_goOn_60 (hG.m0 (by decide)) rfl (by decide) rfl (show i < 4 from (by omega)) (show 4 < 2 ^ 31 by decide) ?_
  refine am_aload_n dX11_goOn_61 rfl ?_
  refine am_iload_n dX11_goOn_62 rfl ?_
  refine am_callVi (i := 0) (j := 60) (as := [.inl (nI i)]) (rest := []) dX11_goOn_63 lkX11_pinAll ml_X11_280 imX11_pinAll seX11_pinAll rfl rfl (hG.m0 (by decide)) rfl (Nat.le_of_ble_eq_true rfl) rfl (c_MpinAll1_1 (a := a) hG hi (by omega) (fun x hx => by simp [am_up, am_upf, upd, hj x hx, hI1]) (fun x hx => by simp [am_up, am_upf, upd, hu x hx, hI1]) (fun f t => by simp [am_up, am_upf, upd, hdl f t, hI1]) (fun f t => by simp [am_up, am_upf, upd, hld f t, hI1]) (fun k hk hne => by simp [am_up, am_upf, upd, hne, hlz k hk, hI1]) (by simp [am_up, am_upf, upd, hkd, hst, hfl, hfm, hms, htm, hnn, ha, hp, hl0, hls, htr, hha, hba, haa, hI1]) (by simp [am_up, am_upf, upd, hkd, hst, hfl, hfm, hms, htm, hnn, ha, hp, hl0, hls, htr, hha, hba, haa, hI1]) (by simp [am_up, am_upf, upd, hkd, hst, hfl, hfm, hms, htm, hnn, ha, hp, hl0, hls, htr, hha, hba, haa, hI1]) (by simp [am_up, am_upf, upd, hkd, hst, hfl, hfm, hms, htm, hnn, ha, hp, hl0, hls, htr, hha, hba, haa, hI1]) (by simp [am_up, am_upf, upd, hkd, hst, hfl, hfm, hms, htm, hnn, ha, hp, hl0, hls, htr, hha, hba, haa, hI1]) (by simp [am_up, am_upf, upd, hkd, hst, hfl, hfm, hms, htm, hnn, ha, hp, hl0, hls, htr, hha, hba, haa, hI1]) (by simp [am_up, am_upf, upd, hkd, hst, hfl, hfm, hms, htm, hnn, ha, hp, hl0, hls, htr, hha, hba, haa, hI1]) (by simp [am_up, am_upf, upd, hkd, hst, hfl, hfm, hms, htm, hnn, ha, hp, hl0, hls, htr, hha, hba, haa, hI1])) rfl (fun r9 I9 hq => ?_)
  obtain rfl := Option.some.inj hq.1
  have hst9 := hq.2.1
  have hth9 := hq.2.2
  refine am_nm (fun I2 hI2 => ?_)
  refine am_if_eq (tgt := 81) dX11_goOn_66 (by decide) (fun _ => ?_) (fun h => absurd h (by decide))
  refine am_iconst (v := nI 0) dX11_goOn_81 (by decide) ?_
  refine am_istore_n dX11_goOn_82 (by decide) ?_
  refine am_goto (tgt := 6) dX11_goOn_83 (by decide) ?_
  refine am_iload_n dX11_goOn_6 rfl ?_
  refine am_if_eq (tgt := 86) dX11_goOn_7 (by decide) (fun _ => ?_) (fun h => absurd h (by decide))
  refine am_vret dX11_goOn_86 rfl ?_
  exact ⟨rfl, (by simp [am_up, am_upf, upd, hkd, hst, hfl, hfm, hms, htm, hnn, ha, hp, hl0, hls, htr, hha, hba, haa, hI1, hst9, hth9, hI2]), (by simp [am_up, am_upf, upd, hkd, hst, hfl, hfm, hms, htm, hnn, ha, hp, hl0, hls, htr, hha, hba, haa, hI1, hst9, hth9, hI2])⟩
theorem c_MgoOn9 {G : am_G} (hG : am_okM G) {d : Nat} {i a : Nat} (hi : i < G.2.2.2.1) (hab : a < 128) (I : am_I) (hpz : ∀ k, k < 544 → I 0 79 k = nI 0) (hlz : ∀ k, k < 544 → I 0 81 k = nI 0) (hj : ∀ x, x < G.2.2.2.1 → I 0 66 x = nI 1) (hu : ∀ x, x < G.2.2.2.1 → I 0 65 x = nI 1) (hdl : ∀ f t, I 0 107 (4 * f + t) = nI 1) (hld : ∀ f t, I 0 108 (4 * f + t) = nI 0)  (hkd : I 0 82 i = nI 9) (hst : I 0 87 i = nI 1) (hfl : I 0 93 i = nI 0) (hfm : I 0 72 i = nI 0) (hms : I 0 60 38 = nI 0) (htm : I 0 60 2 = nI 0) (hnn : I 0 60 1 = nI G.2.2.2.1) (ha : I 0 83 i = nI a) (hp : I 0 79 (136 * i + a) = nI 0) (hl0 : I 0 81 (136 * i + a) = nI 0) (hls : I 0 92 i = nI 0) (htr : I 0 91 i = nI 0) (hha : I 0 76 (136 * i + a) = nI 0) (hba : I 0 78 (136 * i + a) = (-1 : Int32)) (haa : I 0 77 (136 * i + a) = nI 0) : am_C G (d + 6) mX11_goOn [.inr (0, 60), .inl (nI i)] I (fun r J => r = none ∧ J 0 87 i = nI 1 ∧ J 0 60 0 = I 0 60 0) := by
  have hn4 := hG.hi
  have hn2 := hG.lo
  refine am_of (by decide +kernel) hG.nd (Nat.le_of_ble_eq_true rfl) ?_
  refine am_aload_n dX11_goOn_0 rfl ?_
  refine am_iload_n dX11_goOn_1 rfl ?_
  refine am_callVx (i := 0) (j := 60) (as := [.inl (nI i)]) (rest := []) dX11_goOn_2 lkX11_isCalling ml_X11_264 imX11_isCalling seX11_isCalling rfl rfl (hG.m0 (by decide)) rfl (Nat.le_of_ble_eq_true rfl) rfl (c_MisCalling1 hG hi I (by simp [am_up, am_upf, upd, hkd, hst, hfl, hfm, hms, htm, hnn, ha, hp, hl0, hls, htr, hha, hba, haa])) ?_
  refine am_istore_n dX11_goOn_5 (by decide) ?_
  refine am_iload_n dX11_goOn_6 rfl ?_
  refine am_if_eq (tgt := 86) dX11_goOn_7 (by decide) (fun h => absurd h (by decide)) (fun _ => ?_)
  refine am_aload_n dX11_goOn_10 rfl ?_
  refine am_get (v := .inr (0, 82)) dX11_goOn_11 fl_11_66 (hG.m0 (by decide)) rfl ?_
  refine am_iload_n dX11_goOn_14 rfl ?_
  refine am_iald (a := i) dX11_goOn_15 (hG.m0 (by decide)) rfl rfl (show i < 4 from (by omega)) (show 4 < 2 ^ 31 by decide) ?_
  refine am_top (show I 0 82 i = nI 9 from (by simp [am_up, am_upf, upd, hkd, hst, hfl, hfm, hms, htm, hnn, ha, hp, hl0, hls, htr, hha, hba, haa])) ?_
  refine am_bipush (v := nI 10) dX11_goOn_16 (by decide) ?_
  refine am_icmp_ne (tgt := 31) dX11_goOn_18 (by decide) (fun _ => ?_) (fun h => absurd h (by decide))
  refine am_aload_n dX11_goOn_31 rfl ?_
  refine am_get (v := .inr (0, 93)) dX11_goOn_32 fl_11_99 (hG.m0 (by decide)) rfl ?_
  refine am_iload_n dX11_goOn_35 rfl ?_
  refine am_zald (a := i) dX11_goOn_36 (hG.m0 (by decide)) rfl rfl (show i < 4 from (by omega)) (show 4 < 2 ^ 31 by decide) ?_
  refine am_top (show I 0 93 i = nI 0 from (by simp [am_up, am_upf, upd, hkd, hst, hfl, hfm, hms, htm, hnn, ha, hp, hl0, hls, htr, hha, hba, haa])) ?_
  refine am_if_eq (tgt := 54) dX11_goOn_37 (by decide) (fun _ => ?_) (fun h => absurd h (by decide))
  refine am_aload_n dX11_goOn_54 rfl ?_
  refine am_get (v := .inr (0, 93)) dX11_goOn_55 fl_11_99 (hG.m0 (by decide)) rfl ?_
  refine am_iload_n dX11_goOn_58 rfl ?_
  refine am_iconst (v := nI 0) dX11_goOn_59 (by decide) ?_
  refine am_zast (a := i) dX11_goOn_60 (hG.m0 (by decide)) rfl (by decide) rfl (show i < 4 from (by omega)) (show 4 < 2 ^ 31 by decide) ?_
  refine am_aload_n dX11_goOn_61 rfl ?_
  refine am_iload_n dX11_goOn_62 rfl ?_
  refine am_callVx (i := 0) (j := 60) (as := [.inl (nI i)]) (rest := []) dX11_goOn_63 lkX11_pinAll ml_X11_280 imX11_pinAll seX11_pinAll rfl rfl (hG.m0 (by decide)) rfl (Nat.le_of_ble_eq_true rfl) rfl (c_MpinAll0 hG hi (fun k hk => by simp [am_up, am_upf, hlz k hk])) ?_
  refine am_if_eq (tgt := 81) dX11_goOn_66 (by decide) (fun h => absurd h (by decide)) (fun _ => ?_)
  refine am_aload_n dX11_goOn_69 rfl ?_
  refine am_iload_n dX11_goOn_70 rfl ?_
  refine am_callVx (i := 0) (j := 60) (as := [.inl (nI i)]) (rest := []) dX11_goOn_71 lkX11_isTriedAgain ml_X11_283 imX11_isTriedAgain seX11_isTriedAgain rfl rfl (hG.m0 (by decide)) rfl (Nat.le_of_ble_eq_true rfl) rfl (c_MtriedAgain9 (a := a) hG hi (by omega) (am_up I 0 93 i (nI 0)) (fun k hk => by simp [am_up, am_upf, hpz k hk]) (by simp [am_up, am_upf, upd, hkd, hst, hfl, hfm, hms, htm, hnn, ha, hp, hl0, hls, htr, hha, hba, haa]) (by simp [am_up, am_upf, upd, hkd, hst, hfl, hfm, hms, htm, hnn, ha, hp, hl0, hls, htr, hha, hba, haa]) (by simp [am_up, am_upf, upd, hkd, hst, hfl, hfm, hms, htm, hnn, ha, hp, hl0, hls, htr, hha, hba, haa]) (by simp [am_up, am_upf, upd, hkd, hst, hfl, hfm, hms, htm, hnn, ha, hp, hl0, hls, htr, hha, hba, haa]) (by simp [am_up, am_upf, upd, hkd, hst, hfl, hfm, hms, htm, hnn, ha, hp, hl0, hls, htr, hha, hba, haa]) (by simp [am_up, am_upf, upd, hkd, hst, hfl, hfm, hms, htm, hnn, ha, hp, hl0, hls, htr, hha, hba, haa])) ?_
  refine am_nm (fun I1 hI1 => ?_)
  refine am_if_eq (tgt := 81) dX11_goOn_74 (by decide) (fun h => absurd h (by decide)) (fun _ => ?_)
  refine am_iconst (v := nI 1) dX11_goOn_77 (by decide) ?_
  refine am_goto (tgt := 82) dX11_goOn_78 (by decide) ?_
  refine am_istore_n dX11_goOn_82 (by decide) ?_
  refine am_goto (tgt := 6) dX11_goOn_83 (by decide) ?_
  refine am_iload_n dX11_goOn_6 rfl ?_
  refine am_if_eq (tgt := 86) dX11_goOn_7 (by decide) (fun h => absurd h (by decide)) (fun _ => ?_)
  refine am_aload_n dX11_goOn_10 rfl ?_
  refine am_get (v := .inr (0, 82)) dX11_goOn_11 fl_11_66 (hG.m0 (by decide)) rfl ?_
  refine am_iload_n dX11_goOn_14 rfl ?_
  refine am_iald (a := i) dX11_goOn_15 (hG.m0 (by decide)) rfl rfl (show i < 4 from (by omega)) (show 4 < 2 ^ 31 by decide) ?_
  refine am_top (show I1 0 82 i = nI 9 from (by simp [am_up, am_upf, upd, hkd, hst, hfl, hfm, hms, htm, hnn, ha, hp, hl0, hls, htr, hha, hba, haa, hI1])) ?_
  refine am_bipush (v := nI 10) dX11_goOn_16 (by decide) ?_
  refine am_icmp_ne (tgt := 31) dX11_goOn_18 (by decide) (fun _ => ?_) (fun h => absurd h (by decide))
  refine am_aload_n dX11_goOn_31 rfl ?_
  refine am_get (v := .inr (0, 93)) dX11_goOn_32 fl_11_99 (hG.m0 (by decide)) rfl ?_
  refine am_iload_n dX11_goOn_35 rfl ?_
  refine am_zald (a := i) dX11_goOn_36 (hG.m0 (by decide)) rfl rfl (show i < 4 from (by omega)) (show 4 < 2 ^ 31 by decide) ?_
  refine am_top (show I1 0 93 i = nI 0 from (by simp [am_up, am_upf, upd, hkd, hst, hfl, hfm, hms, htm, hnn, ha, hp, hl0, hls, htr, hha, hba, haa, hI1])) ?_
  refine am_if_eq (tgt := 54) dX11_goOn_37 (by decide) (fun _ => ?_) (fun h => absurd h (by decide))
  refine am_aload_n dX11_goOn_54 rfl ?_
  refine am_get (v := .inr (0, 93)) dX11_goOn_55 fl_11_99 (hG.m0 (by decide)) rfl ?_
  refine am_iload_n dX11_goOn_58 rfl ?_
  refine am_iconst (v := nI 0) dX11_goOn_59 (by decide) ?_
  refine am_zast (a := i) dX11_goOn_60 (hG.m0 (by decide)) rfl (by decide) rfl (show i < 4 from (by omega)) (show 4 < 2 ^ 31 by decide) ?_
  refine am_aload_n dX11_goOn_61 rfl ?_
  refine am_iload_n dX11_goOn_62 rfl ?_
  refine am_callVi (i := 0) (j := 60) (as := [.inl (nI i)]) (rest := []) dX11_goOn_63 lkX11_pinAll ml_X11_280 imX11_pinAll seX11_pinAll rfl rfl (hG.m0 (by decide)) rfl (Nat.le_of_ble_eq_true rfl) rfl (c_MpinAll1_1 (a := a) hG hi (by omega) (fun x hx => by simp [am_up, am_upf, upd, hj x hx, hI1]) (fun x hx => by simp [am_up, am_upf, upd, hu x hx, hI1]) (fun f t => by simp [am_up, am_upf, upd, hdl f t, hI1]) (fun f t => by simp [am_up, am_upf, upd, hld f t, hI1]) (fun k hk hne => by simp [am_up, am_upf, upd, hne, hlz k hk, hI1]) (by simp [am_up, am_upf, upd, hkd, hst, hfl, hfm, hms, htm, hnn, ha, hp, hl0, hls, htr, hha, hba, haa, hI1]) (by simp [am_up, am_upf, upd, hkd, hst, hfl, hfm, hms, htm, hnn, ha, hp, hl0, hls, htr, hha, hba, haa, hI1]) (by simp [am_up, am_upf, upd, hkd, hst, hfl, hfm, hms, htm, hnn, ha, hp, hl0, hls, htr, hha, hba, haa, hI1]) (by simp [am_up, am_upf, upd, hkd, hst, hfl, hfm, hms, htm, hnn, ha, hp, hl0, hls, htr, hha, hba, haa, hI1]) (by simp [am_up, am_upf, upd, hkd, hst, hfl, hfm, hms, htm, hnn, ha, hp, hl0, hls, htr, hha, hba, haa, hI1]) (by simp [am_up, am_upf, upd, hkd, hst, hfl, hfm, hms, htm, hnn, ha, hp, hl0, hls, htr, hha, hba, haa, hI1]) (by simp [am_up, am_upf, upd, hkd, hst, hfl, hfm, hms, htm, hnn, ha, hp, hl0, hls, htr, hha, hba, haa, hI1]) (by simp [am_up, am_upf, upd, hkd, hst, hfl, hfm, hms, htm, hnn, ha, hp, hl0, hls, htr, hha, hba, haa, hI1])) rfl (fun r9 I9 hq => ?_)
  obtain rfl := Option.some.inj hq.1
  have hst9 := hq.2.1
  have hth9 := hq.2.2
  refine am_nm (fun I2 hI2 => ?_)
  refine am_if_eq (tgt := 81) dX11_goOn_66 (by decide) (fun _ => ?_) (fun h => absurd h (by decide))
  refine am_iconst (v := nI 0) dX11_goOn_81 (by decide) ?_
  refine am_istore_n dX11_goOn_82 (by decide) ?_
  refine am_goto (tgt := 6) dX11_goOn_83 (by decide) ?_
  refine am_iload_n dX11_goOn_6 rfl ?_
  refine am_if_eq (tgt := 86) dX11_goOn_7 (by decide) (fun _ => ?_) (fun h => absurd h (by decide))
  refine am_vret dX11_goOn_86 rfl ?_
  exact ⟨rfl, (by simp [am_up, am_upf, upd, hkd, hst, hfl, hfm, hms, htm, hnn, ha, hp, hl0, hls, htr, hha, hba, haa, hI1, hst9, hth9, hI2]), (by simp [am_up, am_upf, upd, hkd, hst, hfl, hfm, hms, htm, hnn, ha, hp, hl0, hls, htr, hha, hba, haa, hI1, hst9, hth9, hI2])⟩
theorem c_MgoOn10 {G : am_G} (hG : am_okM G) {d : Nat} {i : Nat} (hi : i < G.2.2.2.1) (I : am_I) (hpz : ∀ k, k < 544 → I 0 79 k = nI 0) (hlz : ∀ k, k < 544 → I 0 81 k = nI 0) (hj : ∀ x, x < G.2.2.2.1 → I 0 66 x = nI 1) (hu : ∀ x, x < G.2.2.2.1 → I 0 65 x = nI 1) (hdl : ∀ f t, I 0 107 (4 * f + t) = nI 1) (hld : ∀ f t, I 0 108 (4 * f + t) = nI 0)  (hkd : I 0 82 i = nI 10) (hst : I 0 87 i = nI 1) (hfl : I 0 93 i = nI 0) (hfm : I 0 72 i = nI 0) (hms : I 0 60 38 = nI 0) (htm : I 0 60 2 = nI 0) (hnn : I 0 60 1 = nI G.2.2.2.1) (hlg : I 0 70 i = nI 0) (htl : I 0 60 63 = nI 0) : am_C G (d + 6) mX11_goOn [.inr (0, 60), .inl (nI i)] I (fun r J => r = none ∧ J 0 87 i = nI 2 ∧ J 0 60 0 = I 0 60 0) := by
  have hn4 := hG.hi
  have hn2 := hG.lo
  refine am_of (by decide +kernel) hG.nd (Nat.le_of_ble_eq_true rfl) ?_
  refine am_aload_n dX11_goOn_0 rfl ?_
  refine am_iload_n dX11_goOn_1 rfl ?_
  refine am_callVx (i := 0) (j := 60) (as := [.inl (nI i)]) (rest := []) dX11_goOn_2 lkX11_isCalling ml_X11_264 imX11_isCalling seX11_isCalling rfl rfl (hG.m0 (by decide)) rfl (Nat.le_of_ble_eq_true rfl) rfl (c_MisCalling1 hG hi I (by simp [am_up, am_upf, upd, hkd, hst, hfl, hfm, hms, htm, hnn, hlg, htl])) ?_
  refine am_istore_n dX11_goOn_5 (by decide) ?_
  refine am_iload_n dX11_goOn_6 rfl ?_
  refine am_if_eq (tgt := 86) dX11_goOn_7 (by decide) (fun h => absurd h (by decide)) (fun _ => ?_)
  refine am_aload_n dX11_goOn_10 rfl ?_
  refine am_get (v := .inr (0, 82)) dX11_goOn_11 fl_11_66 (hG.m0 (by decide)) rfl ?_
  refine am_iload_n dX11_goOn_14 rfl ?_
  refine am_iald (a := i) dX11_goOn_15 (hG.m0 (by decide)) rfl rfl (show i < 4 from (by omega)) (show 4 < 2 ^ 31 by decide) ?_
  refine am_top (show I 0 82 i = nI 10 from (by simp [am_up, am_upf, upd, hkd, hst, hfl, hfm, hms, htm, hnn, hlg, htl])) ?_
  refine am_bipush (v := nI 10) dX11_goOn_16 (by decide) ?_
  refine am_icmp_ne (tgt := 31) dX11_goOn_18 (by decide) (fun h => absurd h (by decide)) (fun _ => ?_)
  refine am_iconst (v := nI 0) dX11_goOn_21 (by decide) ?_
  refine am_istore_n dX11_goOn_22 (by decide) ?_
  refine am_aload_n dX11_goOn_23 rfl ?_
  refine am_iload_n dX11_goOn_24 rfl ?_
  refine am_callVv (i := 0) (j := 60) (as := [.inl (nI i)]) (rest := []) dX11_goOn_25 lkX11_goOnSync ml_X11_277 imX11_goOnSync seX11_goOnSync rfl rfl (hG.m0 (by decide)) rfl (Nat.le_of_ble_eq_true rfl) rfl (c_MgoOnSync0 hG hi I (fun k hk => by simp [am_up, am_upf, hpz k hk]) (by simp [am_up, am_upf, upd, hkd, hst, hfl, hfm, hms, htm, hnn, hlg, htl]) (by simp [am_up, am_upf, upd, hkd, hst, hfl, hfm, hms, htm, hnn, hlg, htl]) (by simp [am_up, am_upf, upd, hkd, hst, hfl, hfm, hms, htm, hnn, hlg, htl])) rfl (fun I9 hq => ?_)
  have hst9 := hq.2.1
  have hth9 := hq.2.2
  refine am_nm (fun I1 hI1 => ?_)
  refine am_goto (tgt := 6) dX11_goOn_28 (by decide) ?_
  refine am_iload_n dX11_goOn_6 rfl ?_
  refine am_if_eq (tgt := 86) dX11_goOn_7 (by decide) (fun _ => ?_) (fun h => absurd h (by decide))
  refine am_vret dX11_goOn_86 rfl ?_
  exact ⟨rfl, (by simp [am_up, am_upf, upd, hkd, hst, hfl, hfm, hms, htm, hnn, hlg, htl, hst9, hth9, hI1]), (by simp [am_up, am_upf, upd, hkd, hst, hfl, hfm, hms, htm, hnn, hlg, htl, hst9, hth9, hI1])⟩
theorem c_MgoOn11 {G : am_G} (hG : am_okM G) {d : Nat} {i a : Nat} (hi : i < G.2.2.2.1) (hab : a < 128) (I : am_I) (hpz : ∀ k, k < 544 → I 0 79 k = nI 0) (hlz : ∀ k, k < 544 → I 0 81 k = nI 0) (hj : ∀ x, x < G.2.2.2.1 → I 0 66 x = nI 1) (hu : ∀ x, x < G.2.2.2.1 → I 0 65 x = nI 1) (hdl : ∀ f t, I 0 107 (4 * f + t) = nI 1) (hld : ∀ f t, I 0 108 (4 * f + t) = nI 0)  (hkd : I 0 82 i = nI 11) (hst : I 0 87 i = nI 1) (hfl : I 0 93 i = nI 0) (hfm : I 0 72 i = nI 0) (hms : I 0 60 38 = nI 0) (htm : I 0 60 2 = nI 0) (hnn : I 0 60 1 = nI G.2.2.2.1) (ha : I 0 83 i = nI a) (hp : I 0 79 (136 * i + a) = nI 0) (hl0 : I 0 81 (136 * i + a) = nI 0) (hls : I 0 92 i = nI 0) (htr : I 0 91 i = nI 0) (hha : I 0 76 (136 * i + a) = nI 0) (hba : I 0 78 (136 * i + a) = (-1 : Int32)) (haa : I 0 77 (136 * i + a) = nI 0) : am_C G (d + 6) mX11_goOn [.inr (0, 60), .inl (nI i)] I (fun r J => r = none ∧ J 0 87 i = nI 1 ∧ J 0 60 0 = I 0 60 0) := by
  have hn4 := hG.hi
  have hn2 := hG.lo
  refine am_of (by decide +kernel) hG.nd (Nat.le_of_ble_eq_true rfl) ?_
  refine am_aload_n dX11_goOn_0 rfl ?_
  refine am_iload_n dX11_goOn_1 rfl ?_
  refine am_callVx (i := 0) (j := 60) (as := [.inl (nI i)]) (rest := []) dX11_goOn_2 lkX11_isCalling ml_X11_264 imX11_isCalling seX11_isCalling rfl rfl (hG.m0 (by decide)) rfl (Nat.le_of_ble_eq_true rfl) rfl (c_MisCalling1 hG hi I (by simp [am_up, am_upf, upd, hkd, hst, hfl, hfm, hms, htm, hnn, ha, hp, hl0, hls, htr, hha, hba, haa])) ?_
  refine am_istore_n dX11_goOn_5 (by decide) ?_
  refine am_iload_n dX11_goOn_6 rfl ?_
  refine am_if_eq (tgt := 86) dX11_goOn_7 (by decide) (fun h => absurd h (by decide)) (fun _ => ?_)
  refine am_aload_n dX11_goOn_10 rfl ?_
  refine am_get (v := .inr (0, 82)) dX11_goOn_11 fl_11_66 (hG.m0 (by decide)) rfl ?_
  refine am_iload_n dX11_goOn_14 rfl ?_
  refine am_iald (a := i) dX11_goOn_15 (hG.m0 (by decide)) rfl rfl (show i < 4 from (by omega)) (show 4 < 2 ^ 31 by decide) ?_
  refine am_top (show I 0 82 i = nI 11 from (by simp [am_up, am_upf, upd, hkd, hst, hfl, hfm, hms, htm, hnn, ha, hp, hl0, hls, htr, hha, hba, haa])) ?_
  refine am_bipush (v := nI 10) dX11_goOn_16 (by decide) ?_
  refine am_icmp_ne (tgt := 31) dX11_goOn_18 (by decide) (fun _ => ?_) (fun h => absurd h (by decide))
  refine am_aload_n dX11_goOn_31 rfl ?_
  refine am_get (v := .inr (0, 93)) dX11_goOn_32 fl_11_99 (hG.m0 (by decide)) rfl ?_
  refine am_iload_n dX11_goOn_35 rfl ?_
  refine am_zald (a := i) dX11_goOn_36 (hG.m0 (by decide)) rfl rfl (show i < 4 from (by omega)) (show 4 < 2 ^ 31 by decide) ?_
  refine am_top (show I 0 93 i = nI 0 from (by simp [am_up, am_upf, upd, hkd, hst, hfl, hfm, hms, htm, hnn, ha, hp, hl0, hls, htr, hha, hba, haa])) ?_
  refine am_if_eq (tgt := 54) dX11_goOn_37 (by decide) (fun _ => ?_) (fun h => absurd h (by decide))
  refine am_aload_n dX11_goOn_54 rfl ?_
  refine am_get (v := .inr (0, 93)) dX11_goOn_55 fl_11_99 (hG.m0 (by decide)) rfl ?_
  refine am_iload_n dX11_goOn_58 rfl ?_
  refine am_iconst (v := nI 0) dX11_goOn_59 (by decide) ?_
  refine am_zast (a := i) dX11_goOn_60 (hG.m0 (by decide)) rfl (by decide) rfl (show i < 4 from (by omega)) (show 4 < 2 ^ 31 by decide) ?_
  refine am_aload_n dX11_goOn_61 rfl ?_
  refine am_iload_n dX11_goOn_62 rfl ?_
  refine am_callVx (i := 0) (j := 60) (as := [.inl (nI i)]) (rest := []) dX11_goOn_63 lkX11_pinAll ml_X11_280 imX11_pinAll seX11_pinAll rfl rfl (hG.m0 (by decide)) rfl (Nat.le_of_ble_eq_true rfl) rfl (c_MpinAll0 hG hi (fun k hk => by simp [am_up, am_upf, hlz k hk])) ?_
  refine am_if_eq (tgt := 81) dX11_goOn_66 (by decide) (fun h => absurd h (by decide)) (fun _ => ?_)
  refine am_aload_n dX11_goOn_69 rfl ?_
  refine am_iload_n dX11_goOn_70 rfl ?_
  refine am_callVx (i := 0) (j := 60) (as := [.inl (nI i)]) (rest := []) dX11_goOn_71 lkX11_isTriedAgain ml_X11_283 imX11_isTriedAgain seX11_isTriedAgain rfl rfl (hG.m0 (by decide)) rfl (Nat.le_of_ble_eq_true rfl) rfl (c_MtriedAgain11 (a := a) hG hi (by omega) (am_up I 0 93 i (nI 0)) (fun k hk => by simp [am_up, am_upf, hpz k hk]) (by simp [am_up, am_upf, upd, hkd, hst, hfl, hfm, hms, htm, hnn, ha, hp, hl0, hls, htr, hha, hba, haa]) (by simp [am_up, am_upf, upd, hkd, hst, hfl, hfm, hms, htm, hnn, ha, hp, hl0, hls, htr, hha, hba, haa]) (by simp [am_up, am_upf, upd, hkd, hst, hfl, hfm, hms, htm, hnn, ha, hp, hl0, hls, htr, hha, hba, haa]) (by simp [am_up, am_upf, upd, hkd, hst, hfl, hfm, hms, htm, hnn, ha, hp, hl0, hls, htr, hha, hba, haa]) (by simp [am_up, am_upf, upd, hkd, hst, hfl, hfm, hms, htm, hnn, ha, hp, hl0, hls, htr, hha, hba, haa]) (by simp [am_up, am_upf, upd, hkd, hst, hfl, hfm, hms, htm, hnn, ha, hp, hl0, hls, htr, hha, hba, haa])) ?_
  refine am_nm (fun I1 hI1 => ?_)
  refine am_if_eq (tgt := 81) dX11_goOn_74 (by decide) (fun h => absurd h (by decide)) (fun _ => ?_)
  refine am_iconst (v := nI 1) dX11_goOn_77 (by decide) ?_
  refine am_goto (tgt := 82) dX11_goOn_78 (by decide) ?_
  refine am_istore_n dX11_goOn_82 (by decide) ?_
  refine am_goto (tgt := 6) dX11_goOn_83 (by decide) ?_
  refine am_iload_n dX11_goOn_6 rfl ?_
  refine am_if_eq (tgt := 86) dX11_goOn_7 (by decide) (fun h => absurd h (by decide)) (fun _ => ?_)
  refine am_aload_n dX11_goOn_10 rfl ?_
  refine am_get (v := .inr (0, 82)) dX11_goOn_11 fl_11_66 (hG.m0 (by decide)) rfl ?_
  refine am_iload_n dX11_goOn_14 rfl ?_
  refine am_iald (a := i) dX11_goOn_15 (hG.m0 (by decide)) rfl rfl (show i < 4 from (by omega)) (show 4 < 2 ^ 31 by decide) ?_
  refine am_top (show I1 0 82 i = nI 11 from (by simp [am_up, am_upf, upd, hkd, hst, hfl, hfm, hms, htm, hnn, ha, hp, hl0, hls, htr, hha, hba, haa, hI1])) ?_
  refine am_bipush (v := nI 10) dX11_goOn_16 (by decide) ?_
  refine am_icmp_ne (tgt := 31) dX11_goOn_18 (by decide) (fun _ => ?_) (fun h => absurd h (by decide))
  refine am_aload_n dX11_goOn_31 rfl ?_
  refine am_get (v := .inr (0, 93)) dX11_goOn_32 fl_11_99 (hG.m0 (by decide)) rfl ?_
  refine am_iload_n dX11_goOn_35 rfl ?_
  refine am_zald (a := i) dX11_goOn_36 (hG.m0 (by decide)) rfl rfl (show i < 4 from (by omega)) (show 4 < 2 ^ 31 by decide) ?_
  refine am_top (show I1 0 93 i = nI 0 from (by simp [am_up, am_upf, upd, hkd, hst, hfl, hfm, hms, htm, hnn, ha, hp, hl0, hls, htr, hha, hba, haa, hI1])) ?_
  refine am_if_eq (tgt := 54) dX11_goOn_37 (by decide) (fun _ => ?_) (fun h => absurd h (by decide))
  refine am_aload_n dX11_goOn_54 rfl ?_
  refine am_get (v := .inr (0, 93)) dX11_goOn_55 fl_11_99 (hG.m0 (by decide)) rfl ?_
  refine am_iload_n dX11_goOn_58 rfl ?_
  refine am_iconst (v := nI 0) dX11_goOn_59 (by decide) ?_
  refine am_zast (a := i) dX11_goOn_60 (hG.m0 (by decide)) rfl (by decide) rfl (show i < 4 from (by omega)) (show 4 < 2 ^ 31 by decide) ?_
  refine am_aload_n dX11_goOn_61 rfl ?_
  refine am_iload_n dX11_goOn_62 rfl ?_
  refine am_callVi (i := 0) (j := 60) (as := [.inl (nI i)]) (rest := []) dX11_goOn_63 lkX11_pinAll ml_X11_280 imX11_pinAll seX11_pinAll rfl rfl (hG.m0 (by decide)) rfl (Nat.le_of_ble_eq_true rfl) rfl (c_MpinAll1_2 (a := a) hG hi (by omega) (fun x hx => by simp [am_up, am_upf, upd, hj x hx, hI1]) (fun x hx => by simp [am_up, am_upf, upd, hu x hx, hI1]) (fun f t => by simp [am_up, am_upf, upd, hdl f t, hI1]) (fun f t => by simp [am_up, am_upf, upd, hld f t, hI1]) (fun k hk hne => by simp [am_up, am_upf, upd, hne, hlz k hk, hI1]) (by simp [am_up, am_upf, upd, hkd, hst, hfl, hfm, hms, htm, hnn, ha, hp, hl0, hls, htr, hha, hba, haa, hI1]) (by simp [am_up, am_upf, upd, hkd, hst, hfl, hfm, hms, htm, hnn, ha, hp, hl0, hls, htr, hha, hba, haa, hI1]) (by simp [am_up, am_upf, upd, hkd, hst, hfl, hfm, hms, htm, hnn, ha, hp, hl0, hls, htr, hha, hba, haa, hI1]) (by simp [am_up, am_upf, upd, hkd, hst, hfl, hfm, hms, htm, hnn, ha, hp, hl0, hls, htr, hha, hba, haa, hI1]) (by simp [am_up, am_upf, upd, hkd, hst, hfl, hfm, hms, htm, hnn, ha, hp, hl0, hls, htr, hha, hba, haa, hI1]) (by simp [am_up, am_upf, upd, hkd, hst, hfl, hfm, hms, htm, hnn, ha, hp, hl0, hls, htr, hha, hba, haa, hI1]) (by simp [am_up, am_upf, upd, hkd, hst, hfl, hfm, hms, htm, hnn, ha, hp, hl0, hls, htr, hha, hba, haa, hI1]) (by simp [am_up, am_upf, upd, hkd, hst, hfl, hfm, hms, htm, hnn, ha, hp, hl0, hls, htr, hha, hba, haa, hI1])) rfl (fun r9 I9 hq => ?_)
  obtain rfl := Option.some.inj hq.1
  have hst9 := hq.2.1
  have hth9 := hq.2.2
  refine am_nm (fun I2 hI2 => ?_)
  refine am_if_eq (tgt := 81) dX11_goOn_66 (by decide) (fun _ => ?_) (fun h => absurd h (by decide))
  refine am_iconst (v := nI 0) dX11_goOn_81 (by decide) ?_
  refine am_istore_n dX11_goOn_82 (by decide) ?_
  refine am_goto (tgt := 6) dX11_goOn_83 (by decide) ?_
  refine am_iload_n dX11_goOn_6 rfl ?_
  refine am_if_eq (tgt := 86) dX11_goOn_7 (by decide) (fun _ => ?_) (fun h => absurd h (by decide))
  refine am_vret dX11_goOn_86 rfl ?_
  exact ⟨rfl, (by simp [am_up, am_upf, upd, hkd, hst, hfl, hfm, hms, htm, hnn, ha, hp, hl0, hls, htr, hha, hba, haa, hI1, hst9, hth9, hI2]), (by simp [am_up, am_upf, upd, hkd, hst, hfl, hfm, hms, htm, hnn, ha, hp, hl0, hls, htr, hha, hba, haa, hI1, hst9, hth9, hI2])⟩
theorem c_MgoOn12 {G : am_G} (hG : am_okM G) {d : Nat} {i a : Nat} (hi : i < G.2.2.2.1) (hab : a < 128) (I : am_I) (hpz : ∀ k, k < 544 → I 0 79 k = nI 0) (hlz : ∀ k, k < 544 → I 0 81 k = nI 0) (hj : ∀ x, x < G.2.2.2.1 → I 0 66 x = nI 1) (hu : ∀ x, x < G.2.2.2.1 → I 0 65 x = nI 1) (hdl : ∀ f t, I 0 107 (4 * f + t) = nI 1) (hld : ∀ f t, I 0 108 (4 * f + t) = nI 0)  (hkd : I 0 82 i = nI 12) (hst : I 0 87 i = nI 1) (hfl : I 0 93 i = nI 0) (hfm : I 0 72 i = nI 0) (hms : I 0 60 38 = nI 0) (htm : I 0 60 2 = nI 0) (hnn : I 0 60 1 = nI G.2.2.2.1) (ha : I 0 83 i = nI a) (hp : I 0 79 (136 * i + a) = nI 0) (hl0 : I 0 81 (136 * i + a) = nI 0) (hls : I 0 92 i = nI 0) (htr : I 0 91 i = nI 0) (hha : I 0 76 (136 * i + a) = nI 0) (hba : I 0 78 (136 * i + a) = (-1 : Int32)) (haa : I 0 77 (136 * i + a) = nI 0) : am_C G (d + 6) mX11_goOn [.inr (0, 60), .inl (nI i)] I (fun r J => r = none ∧ J 0 87 i = nI 1 ∧ J 0 60 0 = I 0 60 0) := by
  have hn4 := hG.hi
  have hn2 := hG.lo
  refine am_of (by decide +kernel) hG.nd (Nat.le_of_ble_eq_true rfl) ?_
  refine am_aload_n dX11_goOn_0 rfl ?_
  refine am_iload_n dX11_goOn_1 rfl ?_
  refine am_callVx (i := 0) (j := 60) (as := [.inl (nI i)]) (rest := []) dX11_goOn_2 lkX11_isCalling ml_X11_264 imX11_isCalling seX11_isCalling rfl rfl (hG.m0 (by decide)) rfl (Nat.le_of_ble_eq_true rfl) rfl (c_MisCalling1 hG hi I (by simp [am_up, am_upf, upd, hkd, hst, hfl, hfm, hms, htm, hnn, ha, hp, hl0, hls, htr, hha, hba, haa])) ?_
  refine am_istore_n dX11_goOn_5 (by decide) ?_
  refine am_iload_n dX11_goOn_6 rfl ?_
  refine am_if_eq (tgt := 86) dX11_goOn_7 (by decide) (fun h => absurd h (by decide)) (fun _ => ?_)
  refine am_aload_n dX11_goOn_10 rfl ?_
  refine am_get (v := .inr (0, 82)) dX11_goOn_11 fl_11_66 (hG.m0 (by decide)) rfl ?_
  refine am_iload_n dX11_goOn_14 rfl ?_
  refine am_iald (a := i) dX11_goOn_15 (hG.m0 (by decide)) rfl rfl (show i < 4 from (by omega)) (show 4 < 2 ^ 31 by decide) ?_
  refine am_top (show I 0 82 i = nI 12 from (by simp [am_up, am_upf, upd, hkd, hst, hfl, hfm, hms, htm, hnn, ha, hp, hl0, hls, htr, hha, hba, haa])) ?_
  refine am_bipush (v := nI 10) dX11_goOn_16 (by decide) ?_
  refine am_icmp_ne (tgt := 31) dX11_goOn_18 (by decide) (fun _ => ?_) (fun h => absurd h (by decide))
  refine am_aload_n dX11_goOn_31 rfl ?_
  refine am_get (v := .inr (0, 93)) dX11_goOn_32 fl_11_99 (hG.m0 (by decide)) rfl ?_
  refine am_iload_n dX11_goOn_35 rfl ?_
  refine am_zald (a := i) dX11_goOn_36 (hG.m0 (by decide)) rfl rfl (show i < 4 from (by omega)) (show 4 < 2 ^ 31 by decide) ?_
  refine am_top (show I 0 93 i = nI 0 from (by simp [am_up, am_upf, upd, hkd, hst, hfl, hfm, hms, htm, hnn, ha, hp, hl0, hls, htr, hha, hba, haa])) ?_
  refine am_if_eq (tgt := 54) dX11_goOn_37 (by decide) (fun _ => ?_) (fun h => absurd h (by decide))
  refine am_aload_n dX11_goOn_54 rfl ?_
  refine am_get (v := .inr (0, 93)) dX11_goOn_55 fl_11_99 (hG.m0 (by decide)) rfl ?_
  refine am_iload_n dX11_goOn_58 rfl ?_
  refine am_iconst (v := nI 0) dX11_goOn_59 (by decide) ?_
  refine am_zast (a := i) dX11_goOn_60 (hG.m0 (by decide)) rfl (by decide) rfl (show i < 4 from (by omega)) (show 4 < 2 ^ 31 by decide) ?_
  refine am_aload_n dX11_goOn_61 rfl ?_
  refine am_iload_n dX11_goOn_62 rfl ?_
  refine am_callVx (i := 0) (j := 60) (as := [.inl (nI i)]) (rest := []) dX11_goOn_63 lkX11_pinAll ml_X11_280 imX11_pinAll seX11_pinAll rfl rfl (hG.m0 (by decide)) rfl (Nat.le_of_ble_eq_true rfl) rfl (c_MpinAll0 hG hi (fun k hk => by simp [am_up, am_upf, hlz k hk])) ?_
  refine am_if_eq (tgt := 81) dX11_goOn_66 (by decide) (fun h => absurd h (by decide)) (fun _ => ?_)
  refine am_aload_n dX11_goOn_69 rfl ?_
  refine am_iload_n dX11_goOn_70 rfl ?_
  refine am_callVx (i := 0) (j := 60) (as := [.inl (nI i)]) (rest := []) dX11_goOn_71 lkX11_isTriedAgain ml_X11_283 imX11_isTriedAgain seX11_isTriedAgain rfl rfl (hG.m0 (by decide)) rfl (Nat.le_of_ble_eq_true rfl) rfl (c_MtriedAgain12 (a := a) hG hi (by omega) (am_up I 0 93 i (nI 0)) (fun k hk => by simp [am_up, am_upf, hpz k hk]) (by simp [am_up, am_upf, upd, hkd, hst, hfl, hfm, hms, htm, hnn, ha, hp, hl0, hls, htr, hha, hba, haa]) (by simp [am_up, am_upf, upd, hkd, hst, hfl, hfm, hms, htm, hnn, ha, hp, hl0, hls, htr, hha, hba, haa]) (by simp [am_up, am_upf, upd, hkd, hst, hfl, hfm, hms, htm, hnn, ha, hp, hl0, hls, htr, hha, hba, haa]) (by simp [am_up, am_upf, upd, hkd, hst, hfl, hfm, hms, htm, hnn, ha, hp, hl0, hls, htr, hha, hba, haa]) (by simp [am_up, am_upf, upd, hkd, hst, hfl, hfm, hms, htm, hnn, ha, hp, hl0, hls, htr, hha, hba, haa]) (by simp [am_up, am_upf, upd, hkd, hst, hfl, hfm, hms, htm, hnn, ha, hp, hl0, hls, htr, hha, hba, haa])) ?_
  refine am_nm (fun I1 hI1 => ?_)
  refine am_if_eq (tgt := 81) dX11_goOn_74 (by decide) (fun h => absurd h (by decide)) (fun _ => ?_)
  refine am_iconst (v := nI 1) dX11_goOn_77 (by decide) ?_
  refine am_goto (tgt := 82) dX11_goOn_78 (by decide) ?_
  refine am_istore_n dX11_goOn_82 (by decide) ?_
  refine am_goto (tgt := 6) dX11_goOn_83 (by decide) ?_
  refine am_iload_n dX11_goOn_6 rfl ?_
  refine am_if_eq (tgt := 86) dX11_goOn_7 (by decide) (fun h => absurd h (by decide)) (fun _ => ?_)
  refine am_aload_n dX11_goOn_10 rfl ?_
  refine am_get (v := .inr (0, 82)) dX11_goOn_11 fl_11_66 (hG.m0 (by decide)) rfl ?_
  refine am_iload_n dX11_goOn_14 rfl ?_
  refine am_iald (a := i) dX11_goOn_15 (hG.m0 (by decide)) rfl rfl (show i < 4 from (by omega)) (show 4 < 2 ^ 31 by decide) ?_
  refine am_top (show I1 0 82 i = nI 12 from (by simp [am_up, am_upf, upd, hkd, hst, hfl, hfm, hms, htm, hnn, ha, hp, hl0, hls, htr, hha, hba, haa, hI1])) ?_
  refine am_bipush (v := nI 10) dX11_goOn_16 (by decide) ?_
  refine am_icmp_ne (tgt := 31) dX11_goOn_18 (by decide) (fun _ => ?_) (fun h => absurd h (by decide))
  refine am_aload_n dX11_goOn_31 rfl ?_
  refine am_get (v := .inr (0, 93)) dX11_goOn_32 fl_11_99 (hG.m0 (by decide)) rfl ?_
  refine am_iload_n dX11_goOn_35 rfl ?_
  refine am_zald (a := i) dX11_goOn_36 (hG.m0 (by decide)) rfl rfl (show i < 4 from (by omega)) (show 4 < 2 ^ 31 by decide) ?_
  refine am_top (show I1 0 93 i = nI 0 from (by simp [am_up, am_upf, upd, hkd, hst, hfl, hfm, hms, htm, hnn, ha, hp, hl0, hls, htr, hha, hba, haa, hI1])) ?_
  refine am_if_eq (tgt := 54) dX11_goOn_37 (by decide) (fun _ => ?_) (fun h => absurd h (by decide))
  refine am_aload_n dX11_goOn_54 rfl ?_
  refine am_get (v := .inr (0, 93)) dX11_goOn_55 fl_11_99 (hG.m0 (by decide)) rfl ?_
  refine am_iload_n dX11_goOn_58 rfl ?_
  refine am_iconst (v := nI 0) dX11_goOn_59 (by decide) ?_
  refine am_zast (a := i) dX11_goOn_60 (hG.m0 (by decide)) rfl (by decide) rfl (show i < 4 from (by omega)) (show 4 < 2 ^ 31 by decide) ?_
  refine am_aload_n dX11_goOn_61 rfl ?_
  refine am_iload_n dX11_goOn_62 rfl ?_
  refine am_callVi (i := 0) (j := 60) (as := [.inl (nI i)]) (rest := []) dX11_goOn_63 lkX11_pinAll ml_X11_280 imX11_pinAll seX11_pinAll rfl rfl (hG.m0 (by decide)) rfl (Nat.le_of_ble_eq_true rfl) rfl (c_MpinAll1_2 (a := a) hG hi (by omega) (fun x hx => by simp [am_up, am_upf, upd, hj x hx, hI1]) (fun x hx => by simp [am_up, am_upf, upd, hu x hx, hI1]) (fun f t => by simp [am_up, am_upf, upd, hdl f t, hI1]) (fun f t => by simp [am_up, am_upf, upd, hld f t, hI1]) (fun k hk hne => by simp [am_up, am_upf, upd, hne, hlz k hk, hI1]) (by simp [am_up, am_upf, upd, hkd, hst, hfl, hfm, hms, htm, hnn, ha, hp, hl0, hls, htr, hha, hba, haa, hI1]) (by simp [am_up, am_upf, upd, hkd, hst, hfl, hfm, hms, htm, hnn, ha, hp, hl0, hls, htr, hha, hba, haa, hI1]) (by simp [am_up, am_upf, upd, hkd, hst, hfl, hfm, hms, htm, hnn, ha, hp, hl0, hls, htr, hha, hba, haa, hI1]) (by simp [am_up, am_upf, upd, hkd, hst, hfl, hfm, hms, htm, hnn, ha, hp, hl0, hls, htr, hha, hba, haa, hI1]) (by simp [am_up, am_upf, upd, hkd, hst, hfl, hfm, hms, htm, hnn, ha, hp, hl0, hls, htr, hha, hba, haa, hI1]) (by simp [am_up, am_upf, upd, hkd, hst, hfl, hfm, hms, htm, hnn, ha, hp, hl0, hls, htr, hha, hba, haa, hI1]) (by simp [am_up, am_upf, upd, hkd, hst, hfl, hfm, hms, htm, hnn, ha, hp, hl0, hls, htr, hha, hba, haa, hI1]) (by simp [am_up, am_upf, upd, hkd, hst, hfl, hfm, hms, htm, hnn, ha, hp, hl0, hls, htr, hha, hba, haa, hI1])) rfl (fun r9 I9 hq => ?_)
  obtain rfl := Option.some.inj hq.1
  have hst9 := hq.2.1
  have hth9 := hq.2.2
  refine am_nm (fun I2 hI2 => ?_)
  refine am_if_eq (tgt := 81) dX11_goOn_66 (by decide) (fun _ => ?_) (fun h => absurd h (by decide))
  refine am_iconst (v := nI 0) dX11_goOn_81 (by decide) ?_
  refine am_istore_n dX11_goOn_82 (by decide) ?_
  refine am_goto (tgt := 6) dX11_goOn_83 (by decide) ?_
  refine am_iload_n dX11_goOn_6 rfl ?_
  refine am_if_eq (tgt := 86) dX11_goOn_7 (by decide) (fun _ => ?_) (fun h => absurd h (by decide))
  refine am_vret dX11_goOn_86 rfl ?_
  exact ⟨rfl, (by simp [am_up, am_upf, upd, hkd, hst, hfl, hfm, hms, htm, hnn, ha, hp, hl0, hls, htr, hha, hba, haa, hI1, hst9, hth9, hI2]), (by simp [am_up, am_upf, upd, hkd, hst, hfl, hfm, hms, htm, hnn, ha, hp, hl0, hls, htr, hha, hba, haa, hI1, hst9, hth9, hI2])⟩
theorem c_MgoOn13 {G : am_G} (hG : am_okM G) {d : Nat} {i a : Nat} (hi : i < G.2.2.2.1) (hab : a < 128) (I : am_I) (hpz : ∀ k, k < 544 → I 0 79 k = nI 0) (hlz : ∀ k, k < 544 → I 0 81 k = nI 0) (hj : ∀ x, x < G.2.2.2.1 → I 0 66 x = nI 1) (hu : ∀ x, x < G.2.2.2.1 → I 0 65 x = nI 1) (hdl : ∀ f t, I 0 107 (4 * f + t) = nI 1) (hld : ∀ f t, I 0 108 (4 * f + t) = nI 0)  (hkd : I 0 82 i = nI 13) (hst : I 0 87 i = nI 1) (hfl : I 0 93 i = nI 0) (hfm : I 0 72 i = nI 0) (hms : I 0 60 38 = nI 0) (htm : I 0 60 2 = nI 0) (hnn : I 0 60 1 = nI G.2.2.2.1) (ha : I 0 83 i = nI a) (hp : I 0 79 (136 * i + a) = nI 0) (hl0 : I 0 81 (136 * i + a) = nI 0) (hls : I 0 92 i = nI 0) (htr : I 0 91 i = nI 0) (hha : I 0 76 (136 * i + a) = nI 0) (hba : I 0 78 (136 * i + a) = (-1 : Int32)) (haa : I 0 77 (136 * i + a) = nI 0) : am_C G (d + 6) mX11_goOn [.inr (0, 60), .inl (nI i)] I (fun r J => r = none ∧ J 0 87 i = nI 1 ∧ J 0 60 0 = I 0 60 0) := by
  have hn4 := hG.hi
  have hn2 := hG.lo
  refine am_of (by decide +kernel) hG.nd (Nat.le_of_ble_eq_true rfl) ?_
  refine am_aload_n dX11_goOn_0 rfl ?_
  refine am_iload_n dX11_goOn_1 rfl ?_
  refine am_callVx (i := 0) (j := 60) (as := [.inl (nI i)]) (rest := []) dX11_goOn_2 lkX11_isCalling ml_X11_264 imX11_isCalling seX11_isCalling rfl rfl (hG.m0 (by decide)) rfl (Nat.le_of_ble_eq_true rfl) rfl (c_MisCalling1 hG hi I (by simp [am_up, am_upf, upd, hkd, hst, hfl, hfm, hms, htm, hnn, ha, hp, hl0, hls, htr, hha, hba, haa])) ?_
  refine am_istore_n dX11_goOn_5 (by decide) ?_
  refine am_iload_n dX11_goOn_6 rfl ?_
  refine am_if_eq (tgt := 86) dX11_goOn_7 (by decide) (fun h => absurd h (by decide)) (fun _ => ?_)
  refine am_aload_n dX11_goOn_10 rfl ?_
  refine am_get (v := .inr (0, 82)) dX11_goOn_11 fl_11_66 (hG.m0 (by decide)) rfl ?_
  refine am_iload_n dX11_goOn_14 rfl ?_
  refine am_iald (a := i) dX11_goOn_15 (hG.m0 (by decide)) rfl rfl (show i < 4 from (by omega)) (show 4 < 2 ^ 31 by decide) ?_
  refine am_top (show I 0 82 i = nI 13 from (by simp [am_up, am_upf, upd, hkd, hst, hfl, hfm, hms, htm, hnn, ha, hp, hl0, hls, htr, hha, hba, haa])) ?_
  refine am_bipush (v := nI 10) dX11_goOn_16 (by decide) ?_
  refine am_icmp_ne (tgt := 31) dX11_goOn_18 (by decide) (fun _ => ?_) (fun h => absurd h (by decide))
  refine am_aload_n dX11_goOn_31 rfl ?_
  refine am_get (v := .inr (0, 93)) dX11_goOn_32 fl_11_99 (hG.m0 (by decide)) rfl ?_
  refine am_iload_n dX11_goOn_35 rfl ?_
  refine am_zald (a := i) dX11_goOn_36 (hG.m0 (by decide)) rfl rfl (show i < 4 from (by omega)) (show 4 < 2 ^ 31 by decide) ?_
  refine am_top (show I 0 93 i = nI 0 from (by simp [am_up, am_upf, upd, hkd, hst, hfl, hfm, hms, htm, hnn, ha, hp, hl0, hls, htr, hha, hba, haa])) ?_
  refine am_if_eq (tgt := 54) dX11_goOn_37 (by decide) (fun _ => ?_) (fun h => absurd h (by decide))
  refine am_aload_n dX11_goOn_54 rfl ?_
  refine am_get (v := .inr (0, 93)) dX11_goOn_55 fl_11_99 (hG.m0 (by decide)) rfl ?_
  refine am_iload_n dX11_goOn_58 rfl ?_
  refine am_iconst (v := nI 0) dX11_goOn_59 (by decide) ?_
  refine am_zast (a := i) dX11_goOn_60 (hG.m0 (by decide)) rfl (by decide) rfl (show i < 4 from (by omega)) (show 4 < 2 ^ 31 by decide) ?_
  refine am_aload_n dX11_goOn_61 rfl ?_
  refine am_iload_n dX11_goOn_62 rfl ?_
  refine am_callVx (i := 0) (j := 60) (as := [.inl (nI i)]) (rest := []) dX11_goOn_63 lkX11_pinAll ml_X11_280 imX11_pinAll seX11_pinAll rfl rfl (hG.m0 (by decide)) rfl (Nat.le_of_ble_eq_true rfl) rfl (c_MpinAll0 hG hi (fun k hk => by simp [am_up, am_upf, hlz k hk])) ?_
  refine am_if_eq (tgt := 81) dX11_goOn_66 (by decide) (fun h => absurd h (by decide)) (fun _ => ?_)
  refine am_aload_n dX11_goOn_69 rfl ?_
  refine am_iload_n dX11_goOn_70 rfl ?_
  refine am_callVx (i := 0) (j := 60) (as := [.inl (nI i)]) (rest := []) dX11_goOn_71 lkX11_isTriedAgain ml_X11_283 imX11_isTriedAgain seX11_isTriedAgain rfl rfl (hG.m0 (by decide)) rfl (Nat.le_of_ble_eq_true rfl) rfl (c_MtriedAgain13 (a := a) hG hi (by omega) (am_up I 0 93 i (nI 0)) (fun k hk => by simp [am_up, am_upf, hpz k hk]) (by simp [am_up, am_upf, upd, hkd, hst, hfl, hfm, hms, htm, hnn, ha, hp, hl0, hls, htr, hha, hba, haa]) (by simp [am_up, am_upf, upd, hkd, hst, hfl, hfm, hms, htm, hnn, ha, hp, hl0, hls, htr, hha, hba, haa]) (by simp [am_up, am_upf, upd, hkd, hst, hfl, hfm, hms, htm, hnn, ha, hp, hl0, hls, htr, hha, hba, haa]) (by simp [am_up, am_upf, upd, hkd, hst, hfl, hfm, hms, htm, hnn, ha, hp, hl0, hls, htr, hha, hba, haa]) (by simp [am_up, am_upf, upd, hkd, hst, hfl, hfm, hms, htm, hnn, ha, hp, hl0, hls, htr, hha, hba, haa]) (by simp [am_up, am_upf, upd, hkd, hst, hfl, hfm, hms, htm, hnn, ha, hp, hl0, hls, htr, hha, hba, haa])) ?_
  refine am_nm (fun I1 hI1 => ?_)
  refine am_if_eq (tgt := 81) dX11_goOn_74 (by decide) (fun h => absurd h (by decide)) (fun _ => ?_)
  refine am_iconst (v := nI 1) dX11_goOn_77 (by decide) ?_
  refine am_goto (tgt := 82) dX11_goOn_78 (by decide) ?_
  refine am_istore_n dX11_goOn_82 (by decide) ?_
  refine am_goto (tgt := 6) dX11_goOn_83 (by decide) ?_
  refine am_iload_n dX11_goOn_6 rfl ?_
  refine am_if_eq (tgt := 86) dX11_goOn_7 (by decide) (fun h => absurd h (by decide)) (fun _ => ?_)
  refine am_aload_n dX11_goOn_10 rfl ?_
  refine am_get (v := .inr (0, 82)) dX11_goOn_11 fl_11_66 (hG.m0 (by decide)) rfl ?_
  refine am_iload_n dX11_goOn_14 rfl ?_
  refine am_iald (a := i) dX11_goOn_15 (hG.m0 (by decide)) rfl rfl (show i < 4 from (by omega)) (show 4 < 2 ^ 31 by decide) ?_
  refine am_top (show I1 0 82 i = nI 13 from (by simp [am_up, am_upf, upd, hkd, hst, hfl, hfm, hms, htm, hnn, ha, hp, hl0, hls, htr, hha, hba, haa, hI1])) ?_
  refine am_bipush (v := nI 10) dX11_goOn_16 (by decide) ?_
  refine am_icmp_ne (tgt := 31) dX11_goOn_18 (by decide) (fun _ => ?_) (fun h => absurd h (by decide))
  refine am_aload_n dX11_goOn_31 rfl ?_
  refine am_get (v := .inr (0, 93)) dX11_goOn_32 fl_11_99 (hG.m0 (by decide)) rfl ?_
  refine am_iload_n dX11_goOn_35 rfl ?_
  refine am_zald (a := i) dX11_goOn_36 (hG.m0 (by decide)) rfl rfl (show i < 4 from (by omega)) (show 4 < 2 ^ 31 by decide) ?_
  refine am_top (show I1 0 93 i = nI 0 from (by simp [am_up, am_upf, upd, hkd, hst, hfl, hfm, hms, htm, hnn, ha, hp, hl0, hls, htr, hha, hba, haa, hI1])) ?_
  refine am_if_eq (tgt := 54) dX11_goOn_37 (by decide) (fun _ => ?_) (fun h => absurd h (by decide))
  refine am_aload_n dX11_goOn_54 rfl ?_
  refine am_get (v := .inr (0, 93)) dX11_goOn_55 fl_11_99 (hG.m0 (by decide)) rfl ?_
  refine am_iload_n dX11_goOn_58 rfl ?_
  refine am_iconst (v := nI 0) dX11_goOn_59 (by decide) ?_
  refine am_zast (a := i) dX11_goOn_60 (hG.m0 (by decide)) rfl (by decide) rfl (show i < 4 from (by omega)) (show 4 < 2 ^ 31 by decide) ?_
  refine am_aload_n dX11_goOn_61 rfl ?_
  refine am_iload_n dX11_goOn_62 rfl ?_
  refine am_callVi (i := 0) (j := 60) (as := [.inl (nI i)]) (rest := []) dX11_goOn_63 lkX11_pinAll ml_X11_280 imX11_pinAll seX11_pinAll rfl rfl (hG.m0 (by decide)) rfl (Nat.le_of_ble_eq_true rfl) rfl (c_MpinAll1_1 (a := a) hG hi (by omega) (fun x hx => by simp [am_up, am_upf, upd, hj x hx, hI1]) (fun x hx => by simp [am_up, am_upf, upd, hu x hx, hI1]) (fun f t => by simp [am_up, am_upf, upd, hdl f t, hI1]) (fun f t => by simp [am_up, am_upf, upd, hld f t, hI1]) (fun k hk hne => by simp [am_up, am_upf, upd, hne, hlz k hk, hI1]) (by simp [am_up, am_upf, upd, hkd, hst, hfl, hfm, hms, htm, hnn, ha, hp, hl0, hls, htr, hha, hba, haa, hI1]) (by simp [am_up, am_upf, upd, hkd, hst, hfl, hfm, hms, htm, hnn, ha, hp, hl0, hls, htr, hha, hba, haa, hI1]) (by simp [am_up, am_upf, upd, hkd, hst, hfl, hfm, hms, htm, hnn, ha, hp, hl0, hls, htr, hha, hba, haa, hI1]) (by simp [am_up, am_upf, upd, hkd, hst, hfl, hfm, hms, htm, hnn, ha, hp, hl0, hls, htr, hha, hba, haa, hI1]) (by simp [am_up, am_upf, upd, hkd, hst, hfl, hfm, hms, htm, hnn, ha, hp, hl0, hls, htr, hha, hba, haa, hI1]) (by simp [am_up, am_upf, upd, hkd, hst, hfl, hfm, hms, htm, hnn, ha, hp, hl0, hls, htr, hha, hba, haa, hI1]) (by simp [am_up, am_upf, upd, hkd, hst, hfl, hfm, hms, htm, hnn, ha, hp, hl0, hls, htr, hha, hba, haa, hI1]) (by simp [am_up, am_upf, upd, hkd, hst, hfl, hfm, hms, htm, hnn, ha, hp, hl0, hls, htr, hha, hba, haa, hI1])) rfl (fun r9 I9 hq => ?_)
  obtain rfl := Option.some.inj hq.1
  have hst9 := hq.2.1
  have hth9 := hq.2.2
  refine am_nm (fun I2 hI2 => ?_)
  refine am_if_eq (tgt := 81) dX11_goOn_66 (by decide) (fun _ => ?_) (fun h => absurd h (by decide))
  refine am_iconst (v := nI 0) dX11_goOn_81 (by decide) ?_
  refine am_istore_n dX11_goOn_82 (by decide) ?_
  refine am_goto (tgt := 6) dX11_goOn_83 (by decide) ?_
  refine am_iload_n dX11_goOn_6 rfl ?_
  refine am_if_eq (tgt := 86) dX11_goOn_7 (by decide) (fun _ => ?_) (fun h => absurd h (by decide))
  refine am_vret dX11_goOn_86 rfl ?_
  exact ⟨rfl, (by simp [am_up, am_upf, upd, hkd, hst, hfl, hfm, hms, htm, hnn, ha, hp, hl0, hls, htr, hha, hba, haa, hI1, hst9, hth9, hI2]), (by simp [am_up, am_upf, upd, hkd, hst, hfl, hfm, hms, htm, hnn, ha, hp, hl0, hls, htr, hha, hba, haa, hI1, hst9, hth9, hI2])⟩
theorem c_MgoOn14 {G : am_G} (hG : am_okM G) {d : Nat} {i : Nat} (hi : i < G.2.2.2.1) (I : am_I) (hpz : ∀ k, k < 544 → I 0 79 k = nI 0) (hlz : ∀ k, k < 544 → I 0 81 k = nI 0) (hj : ∀ x, x < G.2.2.2.1 → I 0 66 x = nI 1) (hu : ∀ x, x < G.2.2.2.1 → I 0 65 x = nI 1) (hdl : ∀ f t, I 0 107 (4 * f + t) = nI 1) (hld : ∀ f t, I 0 108 (4 * f + t) = nI 0)  (hkd : I 0 82 i = nI 14) (hst : I 0 87 i = nI 1) (hfl : I 0 93 i = nI 0) (hfm : I 0 72 i = nI 0) (hms : I 0 60 38 = nI 0) (htm : I 0 60 2 = nI 0) (hnn : I 0 60 1 = nI G.2.2.2.1) (hp : I 0 79 (136 * i + 128) = nI 0) (hl0 : I 0 81 (136 * i + 128) = nI 0) (hls : I 0 92 i = nI 0) (htr : I 0 91 i = nI 0) (hha : I 0 76 (136 * i + 128) = nI 0) (hba : I 0 78 (136 * i + 128) = (-1 : Int32)) (haa : I 0 77 (136 * i + 128) = nI 0) : am_C G (d + 6) mX11_goOn [.inr (0, 60), .inl (nI i)] I (fun r J => r = none ∧ J 0 87 i = nI 1 ∧ J 0 60 0 = I 0 60 0) := by
  have hn4 := hG.hi
  have hn2 := hG.lo
  refine am_of (by decide +kernel) hG.nd (Nat.le_of_ble_eq_true rfl) ?_
  refine am_aload_n dX11_goOn_0 rfl ?_
  refine am_iload_n dX11_goOn_1 rfl ?_
  refine am_callVx (i := 0) (j := 60) (as := [.inl (nI i)]) (rest := []) dX11_goOn_2 lkX11_isCalling ml_X11_264 imX11_isCalling seX11_isCalling rfl rfl (hG.m0 (by decide)) rfl (Nat.le_of_ble_eq_true rfl) rfl (c_MisCalling1 hG hi I (by simp [am_up, am_upf, upd, hkd, hst, hfl, hfm, hms, htm, hnn, hp, hl0, hls, htr, hha, hba, haa])) ?_
  refine am_istore_n dX11_goOn_5 (by decide) ?_
  refine am_iload_n dX11_goOn_6 rfl ?_
  refine am_if_eq (tgt := 86) dX11_goOn_7 (by decide) (fun h => absurd h (by decide)) (fun _ => ?_)
  refine am_aload_n dX11_goOn_10 rfl ?_
  refine am_get (v := .inr (0, 82)) dX11_goOn_11 fl_11_66 (hG.m0 (by decide)) rfl ?_
  refine am_iload_n dX11_goOn_14 rfl ?_
  refine am_iald (a := i) dX11_goOn_15 (hG.m0 (by decide)) rfl rfl (show i < 4 from (by omega)) (show 4 < 2 ^ 31 by decide) ?_
  refine am_top (show I 0 82 i = nI 14 from (by simp [am_up, am_upf, upd, hkd, hst, hfl, hfm, hms, htm, hnn, hp, hl0, hls, htr, hha, hba, haa])) ?_
  refine am_bipush (v := nI 10) dX11_goOn_16 (by decide) ?_
  refine am_icmp_ne (tgt := 31) dX11_goOn_18 (by decide) (fun _ => ?_) (fun h => absurd h (by decide))
  refine am_aload_n dX11_goOn_31 rfl ?_
  refine am_get (v := .inr (0, 93)) dX11_goOn_32 fl_11_99 (hG.m0 (by decide)) rfl ?_
  refine am_iload_n dX11_goOn_35 rfl ?_
  refine am_zald (a := i) dX11_goOn_36 (hG.m0 (by decide)) rfl rfl (show i < 4 from (by omega)) (show 4 < 2 ^ 31 by decide) ?_
  refine am_top (show I 0 93 i = nI 0 from (by simp [am_up, am_upf, upd, hkd, hst, hfl, hfm, hms, htm, hnn, hp, hl0, hls, htr, hha, hba, haa])) ?_
  refine am_if_eq (tgt := 54) dX11_goOn_37 (by decide) (fun _ => ?_) (fun h => absurd h (by decide))
  refine am_aload_n dX11_goOn_54 rfl ?_
  refine am_get (v := .inr (0, 93)) dX11_goOn_55 fl_11_99 (hG.m0 (by decide)) rfl ?_
  refine am_iload_n dX11_goOn_58 rfl ?_
  refine am_iconst (v := nI 0) dX11_goOn_59 (by decide) ?_
  refine am_zast (a := i) dX11_goOn_60 (hG.m0 (by decide)) rfl (by decide) rfl (show i < 4 from (by omega)) (show 4 < 2 ^ 31 by decide) ?_
  refine am_aload_n dX11_goOn_61 rfl ?_
  refine am_iload_n dX11_goOn_62 rfl ?_
  refine am_callVx (i := 0) (j := 60) (as := [.inl (nI i)]) (rest := []) dX11_goOn_63 lkX11_pinAll ml_X11_280 imX11_pinAll seX11_pinAll rfl rfl (hG.m0 (by decide)) rfl (Nat.le_of_ble_eq_true rfl) rfl (c_MpinAll0 hG hi (fun k hk => by simp [am_up, am_upf, hlz k hk])) ?_
  refine am_if_eq (tgt := 81) dX11_goOn_66 (by decide) (fun h => absurd h (by decide)) (fun _ => ?_)
  refine am_aload_n dX11_goOn_69 rfl ?_
  refine am_iload_n dX11_goOn_70 rfl ?_
  refine am_callVx (i := 0) (j := 60) (as := [.inl (nI i)]) (rest := []) dX11_goOn_71 lkX11_isTriedAgain ml_X11_283 imX11_isTriedAgain seX11_isTriedAgain rfl rfl (hG.m0 (by decide)) rfl (Nat.le_of_ble_eq_true rfl) rfl (c_MtriedAgain14 hG hi (am_up I 0 93 i (nI 0)) (fun k hk => by simp [am_up, am_upf, hpz k hk]) (by simp [am_up, am_upf, upd, hkd, hst, hfl, hfm, hms, htm, hnn, hp, hl0, hls, htr, hha, hba, haa]) (by simp [am_up, am_upf, upd, hkd, hst, hfl, hfm, hms, htm, hnn, hp, hl0, hls, htr, hha, hba, haa]) (by simp [am_up, am_upf, upd, hkd, hst, hfl, hfm, hms, htm, hnn, hp, hl0, hls, htr, hha, hba, haa]) (by simp [am_up, am_upf, upd, hkd, hst, hfl, hfm, hms, htm, hnn, hp, hl0, hls, htr, hha, hba, haa]) (by simp [am_up, am_upf, upd, hkd, hst, hfl, hfm, hms, htm, hnn, hp, hl0, hls, htr, hha, hba, haa])) ?_
  refine am_nm (fun I1 hI1 => ?_)
  refine am_if_eq (tgt := 81) dX11_goOn_74 (by decide) (fun h => absurd h (by decide)) (fun _ => ?_)
  refine am_iconst (v := nI 1) dX11_goOn_77 (by decide) ?_
  refine am_goto (tgt := 82) dX11_goOn_78 (by decide) ?_
  refine am_istore_n dX11_goOn_82 (by decide) ?_
  refine am_goto (tgt := 6) dX11_goOn_83 (by decide) ?_
  refine am_iload_n dX11_goOn_6 rfl ?_
  refine am_if_eq (tgt := 86) dX11_goOn_7 (by decide) (fun h => absurd h (by decide)) (fun _ => ?_)
  refine am_aload_n dX11_goOn_10 rfl ?_
  refine am_get (v := .inr (0, 82)) dX11_goOn_11 fl_11_66 (hG.m0 (by decide)) rfl ?_
  refine am_iload_n dX11_goOn_14 rfl ?_
  refine am_iald (a := i) dX11_goOn_15 (hG.m0 (by decide)) rfl rfl (show i < 4 from (by omega)) (show 4 < 2 ^ 31 by decide) ?_
  refine am_top (show I1 0 82 i = nI 14 from (by simp [am_up, am_upf, upd, hkd, hst, hfl, hfm, hms, htm, hnn, hp, hl0, hls, htr, hha, hba, haa, hI1])) ?_
  refine am_bipush (v := nI 10) dX11_goOn_16 (by decide) ?_
  refine am_icmp_ne (tgt := 31) dX11_goOn_18 (by decide) (fun _ => ?_) (fun h => absurd h (by decide))
  refine am_aload_n dX11_goOn_31 rfl ?_
  refine am_get (v := .inr (0, 93)) dX11_goOn_32 fl_11_99 (hG.m0 (by decide)) rfl ?_
  refine am_iload_n dX11_goOn_35 rfl ?_
  refine am_zald (a := i) dX11_goOn_36 (hG.m0 (by decide)) rfl rfl (show i < 4 from (by omega)) (show 4 < 2 ^ 31 by decide) ?_
  refine am_top (show I1 0 93 i = nI 0 from (by simp [am_up, am_upf, upd, hkd, hst, hfl, hfm, hms, htm, hnn, hp, hl0, hls, htr, hha, hba, haa, hI1])) ?_
  refine am_if_eq (tgt := 54) dX11_goOn_37 (by decide) (fun _ => ?_) (fun h => absurd h (by decide))
  refine am_aload_n dX11_goOn_54 rfl ?_
  refine am_get (v := .inr (0, 93)) dX11_goOn_55 fl_11_99 (hG.m0 (by decide)) rfl ?_
  refine am_iload_n dX11_goOn_58 rfl ?_
  refine am_iconst (v := nI 0) dX11_goOn_59 (by decide) ?_
  refine am_zast (a := i) dX11_goOn_60 (hG.m0 (by decide)) rfl (by decide) rfl (show i < 4 from (by omega)) (show 4 < 2 ^ 31 by decide) ?_
  refine am_aload_n dX11_goOn_61 rfl ?_
  refine am_iload_n dX11_goOn_62 rfl ?_
  refine am_callVi (i := 0) (j := 60) (as := [.inl (nI i)]) (rest := []) dX11_goOn_63 lkX11_pinAll ml_X11_280 imX11_pinAll seX11_pinAll rfl rfl (hG.m0 (by decide)) rfl (Nat.le_of_ble_eq_true rfl) rfl (c_MpinAll1_1 (a := 128) hG hi (by omega) (fun x hx => by simp [am_up, am_upf, upd, hj x hx, hI1]) (fun x hx => by simp [am_up, am_upf, upd, hu x hx, hI1]) (fun f t => by simp [am_up, am_upf, upd, hdl f t, hI1]) (fun f t => by simp [am_up, am_upf, upd, hld f t, hI1]) (fun k hk hne => by simp [am_up, am_upf, upd, hne, hlz k hk, hI1]) (by simp [am_up, am_upf, upd, hkd, hst, hfl, hfm, hms, htm, hnn, hp, hl0, hls, htr, hha, hba, haa, hI1]) (by simp [am_up, am_upf, upd, hkd, hst, hfl, hfm, hms, htm, hnn, hp, hl0, hls, htr, hha, hba, haa, hI1]) (by simp [am_up, am_upf, upd, hkd, hst, hfl, hfm, hms, htm, hnn, hp, hl0, hls, htr, hha, hba, haa, hI1]) (by simp [am_up, am_upf, upd, hkd, hst, hfl, hfm, hms, htm, hnn, hp, hl0, hls, htr, hha, hba, haa, hI1]) (by simp [am_up, am_upf, upd, hkd, hst, hfl, hfm, hms, htm, hnn, hp, hl0, hls, htr, hha, hba, haa, hI1]) (by simp [am_up, am_upf, upd, hkd, hst, hfl, hfm, hms, htm, hnn, hp, hl0, hls, htr, hha, hba, haa, hI1]) (by simp [am_up, am_upf, upd, hkd, hst, hfl, hfm, hms, htm, hnn, hp, hl0, hls, htr, hha, hba, haa, hI1]) (by simp [am_up, am_upf, upd, hkd, hst, hfl, hfm, hms, htm, hnn, hp, hl0, hls, htr, hha, hba, haa, hI1])) rfl (fun r9 I9 hq => ?_)
  obtain rfl := Option.some.inj hq.1
  have hst9 := hq.2.1
  have hth9 := hq.2.2
  refine am_nm (fun I2 hI2 => ?_)
  refine am_if_eq (tgt := 81) dX11_goOn_66 (by decide) (fun _ => ?_) (fun h => absurd h (by decide))
  refine am_iconst (v := nI 0) dX11_goOn_81 (by decide) ?_
  refine am_istore_n dX11_goOn_82 (by decide) ?_
  refine am_goto (tgt := 6) dX11_goOn_83 (by decide) ?_
  refine am_iload_n dX11_goOn_6 rfl ?_
  refine am_if_eq (tgt := 86) dX11_goOn_7 (by decide) (fun _ => ?_) (fun h => absurd h (by decide))
  refine am_vret dX11_goOn_86 rfl ?_
  exact ⟨rfl, (by simp [am_up, am_upf, upd, hkd, hst, hfl, hfm, hms, htm, hnn, hp, hl0, hls, htr, hha, hba, haa, hI1, hst9, hth9, hI2]), (by simp [am_up, am_upf, upd, hkd, hst, hfl, hfm, hms, htm, hnn, hp, hl0, hls, htr, hha, hba, haa, hI1, hst9, hth9, hI2])⟩
