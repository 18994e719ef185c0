theorem c_run0 {G : am_G} (hG : am_ok G) {d : Nat} {i a : Nat} (hi : i < G.2.2.2.1) (hab : a < 128) (I : am_I)  (hkd : I i 55 0 = nI 0) (hp : I i 52 a = nI 0) (ha : I i 55 1 = nI a) : am_C G (d + 3) mX9_run [.inr (0, 15), .inr (i, 40)] I (am_E none (am_up (am_up (am_up (am_up (am_up (am_up (am_up (am_up I 0 15 8 (nI i)) 0 15 9 (nI 0)) 0 15 10 (nI 0)) 0 15 13 (-1 : Int32)) 0 15 16 (-1 : Int32)) 0 15 9 (nI 3)) 0 15 11 (nI a)) 0 15 12 (nI 1))) := by
  have hn4 := hG.hi
  refine am_of (by decide +kernel) hG.nd (Nat.le_of_ble_eq_true rfl) ?_
  refine am_aload_n dX9_run_0 rfl ?_
  refine am_get (v := .inr (i, 55)) dX9_run_1 fl_9_35 (hG.mn hi (by decide) (by decide)) rfl ?_
  refine am_astore_n dX9_run_4 (by decide) ?_
  refine am_aload_n dX9_run_5 rfl ?_
  refine am_aload_n dX9_run_6 rfl ?_
  refine am_putN dX9_run_7 fp_9_31 (hG.m0 (by decide)) (by omega) ?_
  refine am_aload_n dX9_run_10 rfl ?_
  refine am_iconst (v := nI 0) dX9_run_11 (by decide) ?_
  refine am_put (x := nI 0) dX9_run_12 fp_9_41 (hG.m0 (by decide)) (Nat.le_of_ble_eq_true rfl) rfl ?_
  refine am_aload_n dX9_run_15 rfl ?_
  refine am_iconst (v := nI 0) dX9_run_16 (by decide) ?_
  refine am_put (x := nI 0) dX9_run_17 fp_9_45 (hG.m0 (by decide)) (Nat.le_of_ble_eq_true rfl) rfl ?_
  refine am_aload_n dX9_run_20 rfl ?_
  refine am_iconst (v := (-1 : Int32)) dX9_run_21 (by decide) ?_
  refine am_put (x := (-1 : Int32)) dX9_run_22 fp_9_48 (hG.m0 (by decide)) (Nat.le_of_ble_eq_true rfl) rfl ?_
  refine am_aload_n dX9_run_25 rfl ?_
  refine am_iconst (v := (-1 : Int32)) dX9_run_26 (by decide) ?_
  refine am_put (x := (-1 : Int32)) dX9_run_27 fp_9_51 (hG.m0 (by decide)) (Nat.le_of_ble_eq_true rfl) rfl ?_
  refine am_aload_n dX9_run_30 rfl ?_
  refine am_get (v := .inl ((am_up (am_up (am_up (am_up (am_up I 0 15 8 (nI i)) 0 15 9 (nI 0)) 0 15 10 (nI 0)) 0 15 13 (-1 : Int32)) 0 15 16 (-1 : Int32)) i 55 0)) dX9_run_31 fl_9_54 (hG.mn hi (by decide) (by decide)) rfl ?_
  refine am_top (show (am_up (am_up (am_up (am_up (am_up I 0 15 8 (nI i)) 0 15 9 (nI 0)) 0 15 10 (nI 0)) 0 15 13 (-1 : Int32)) 0 15 16 (-1 : Int32)) i 55 0 = nI 0 from (by simp [am_up, am_upf, upd, hkd, hp, ha])) ?_
  refine am_tabIn (off := 74) (tgt := 108) dX9_run_34 (by decide) (by decide) rfl (by decide) ?_
  refine am_aload_n dX9_run_108 rfl ?_
  refine am_aload_n dX9_run_109 rfl ?_
  refine am_callVe (i := 0) (j := 15) (as := [.inr (i, 55)]) (rest := []) dX9_run_110 lkX9_seek ml_X9_59 imX9_seek seX9_seek rfl rfl (hG.m0 (by decide)) rfl (Nat.le_of_ble_eq_true rfl) rfl (c_seekNo hG hi (by omega) (am_up (am_up (am_up (am_up (am_up I 0 15 8 (nI i)) 0 15 9 (nI 0)) 0 15 10 (nI 0)) 0 15 13 (-1 : Int32)) 0 15 16 (-1 : Int32)) (by simp [am_up, am_upf, upd, hkd, hp, ha]) (by simp [am_up, am_upf, upd, hkd, hp, ha]) (by simp [am_up, am_upf, upd, hkd, hp, ha])) ?_
  refine am_goto (tgt := 203) dX9_run_113 (by decide) ?_
  refine am_aload_n dX9_run_203 rfl ?_
  refine am_get (v := .inl ((am_up (am_up (am_up (am_up (am_up (am_up (am_up (am_up I 0 15 8 (nI i)) 0 15 9 (nI 0)) 0 15 10 (nI 0)) 0 15 13 (-1 : Int32)) 0 15 16 (-1 : Int32)) 0 15 9 (nI 3)) 0 15 11 (nI a)) 0 15 12 (nI 1)) 0 15 9)) dX9_run_204 fl_9_41 (hG.m0 (by decide)) rfl ?_
  refine am_top (show (am_up (am_up (am_up (am_up (am_up (am_up (am_up (am_up I 0 15 8 (nI i)) 0 15 9 (nI 0)) 0 15 10 (nI 0)) 0 15 13 (-1 : Int32)) 0 15 16 (-1 : Int32)) 0 15 9 (nI 3)) 0 15 11 (nI a)) 0 15 12 (nI 1)) 0 15 9 = nI 3 from (by simp [am_up, am_upf, upd, hkd, hp, ha])) ?_
  refine am_if_ne (tgt := 228) dX9_run_207 (by decide) (fun _ => ?_) (fun h => absurd h (by decide))
  refine am_aload_n dX9_run_228 rfl ?_
  refine am_get (v := .inl ((am_up (am_up (am_up (am_up (am_up (am_up (am_up (am_up I 0 15 8 (nI i)) 0 15 9 (nI 0)) 0 15 10 (nI 0)) 0 15 13 (-1 : Int32)) 0 15 16 (-1 : Int32)) 0 15 9 (nI 3)) 0 15 11 (nI a)) 0 15 12 (nI 1)) 0 15 9)) dX9_run_229 fl_9_41 (hG.m0 (by decide)) rfl ?_
  refine am_top (show (am_up (am_up (am_up (am_up (am_up (am_up (am_up (am_up I 0 15 8 (nI i)) 0 15 9 (nI 0)) 0 15 10 (nI 0)) 0 15 13 (-1 : Int32)) 0 15 16 (-1 : Int32)) 0 15 9 (nI 3)) 0 15 11 (nI a)) 0 15 12 (nI 1)) 0 15 9 = nI 3 from (by simp [am_up, am_upf, upd, hkd, hp, ha])) ?_
  refine am_if_ne (tgt := 249) dX9_run_232 (by decide) (fun _ => ?_) (fun h => absurd h (by decide))
  refine am_aload_n dX9_run_249 rfl ?_
  refine am_get (v := .inl ((am_up (am_up (am_up (am_up (am_up (am_up (am_up (am_up I 0 15 8 (nI i)) 0 15 9 (nI 0)) 0 15 10 (nI 0)) 0 15 13 (-1 : Int32)) 0 15 16 (-1 : Int32)) 0 15 9 (nI 3)) 0 15 11 (nI a)) 0 15 12 (nI 1)) 0 15 9)) dX9_run_250 fl_9_41 (hG.m0 (by decide)) rfl ?_
  refine am_top (show (am_up (am_up (am_up (am_up (am_up (am_up (am_up (am_up I 0 15 8 (nI i)) 0 15 9 (nI 0)) 0 15 10 (nI 0)) 0 15 13 (-1 : Int32)) 0 15 16 (-1 : Int32)) 0 15 9 (nI 3)) 0 15 11 (nI a)) 0 15 12 (nI 1)) 0 15 9 = nI 3 from (by simp [am_up, am_upf, upd, hkd, hp, ha])) ?_
  refine am_if_ne (tgt := 261) dX9_run_253 (by decide) (fun _ => ?_) (fun h => absurd h (by decide))
  refine am_vret dX9_run_261 rfl ?_
  exact ⟨rfl, rfl⟩
theorem c_run1 {G : am_G} (hG : am_ok G) {d : Nat} {i a : Nat} (hi : i < G.2.2.2.1) (hab : a < 128) (I : am_I)  (hkd : I i 55 0 = nI 1) (hp : I i 52 a = nI 0) (ha : I i 55 1 = nI a) : am_C G (d + 3) mX9_run [.inr (0, 15), .inr (i, 40)] I (am_E none (am_up (am_up (am_up (am_up (am_up (am_up (am_up (am_up I 0 15 8 (nI i)) 0 15 9 (nI 0)) 0 15 10 (nI 0)) 0 15 13 (-1 : Int32)) 0 15 16 (-1 : Int32)) 0 15 9 (nI 3)) 0 15 11 (nI a)) 0 15 12 (nI 2))) := by
  have hn4 := hG.hi
  refine am_of (by decide +kernel) hG.nd (Nat.le_of_ble_eq_true rfl) ?_
  refine am_aload_n dX9_run_0 rfl ?_
  refine am_get (v := .inr (i, 55)) dX9_run_1 fl_9_35 (hG.mn hi (by decide) (by decide)) rfl ?_
  refine am_astore_n dX9_run_4 (by decide) ?_
  refine am_aload_n dX9_run_5 rfl ?_
  refine am_aload_n dX9_run_6 rfl ?_
  refine am_putN dX9_run_7 fp_9_31 (hG.m0 (by decide)) (by omega) ?_
  refine am_aload_n dX9_run_10 rfl ?_
  refine am_iconst (v := nI 0) dX9_run_11 (by decide) ?_
  refine am_put (x := nI 0) dX9_run_12 fp_9_41 (hG.m0 (by decide)) (Nat.le_of_ble_eq_true rfl) rfl ?_
  refine am_aload_n dX9_run_15 rfl ?_
  refine am_iconst (v := nI 0) dX9_run_16 (by decide) ?_
  refine am_put (x := nI 0) dX9_run_17 fp_9_45 (hG.m0 (by decide)) (Nat.le_of_ble_eq_true rfl) rfl ?_
  refine am_aload_n dX9_run_20 rfl ?_
  refine am_iconst (v := (-1 : Int32)) dX9_run_21 (by decide) ?_
  refine am_put (x := (-1 : Int32)) dX9_run_22 fp_9_48 (hG.m0 (by decide)) (Nat.le_of_ble_eq_true rfl) rfl ?_
  refine am_aload_n dX9_run_25 rfl ?_
  refine am_iconst (v := (-1 : Int32)) dX9_run_26 (by decide) ?_
  refine am_put (x := (-1 : Int32)) dX9_run_27 fp_9_51 (hG.m0 (by decide)) (Nat.le_of_ble_eq_true rfl) rfl ?_
  refine am_aload_n dX9_run_30 rfl ?_
  refine am_get (v := .inl ((am_up (am_up (am_up (am_up (am_up I 0 15 8 (nI i)) 0 15 9 (nI 0)) 0 15 10 (nI 0)) 0 15 13 (-1 : Int32)) 0 15 16 (-1 : Int32)) i 55 0)) dX9_run_31 fl_9_54 (hG.mn hi (by decide) (by decide)) rfl ?_
  refine am_top (show (am_up (am_up (am_up (am_up (am_up I 0 15 8 (nI i)) 0 15 9 (nI 0)) 0 15 10 (nI 0)) 0 15 13 (-1 : Int32)) 0 15 16 (-1 : Int32)) i 55 0 = nI 1 from (by simp [am_up, am_upf, upd, hkd, hp, ha])) ?_
  refine am_tabIn (off := 82) (tgt := 116) dX9_run_34 (by decide) (by decide) rfl (by decide) ?_
  refine am_aload_n dX9_run_116 rfl ?_
  refine am_aload_n dX9_run_117 rfl ?_
  refine am_callVe (i := 0) (j := 15) (as := [.inr (i, 55)]) (rest := []) dX9_run_118 lkX9_make ml_X9_63 imX9_make seX9_make rfl rfl (hG.m0 (by decide)) rfl (Nat.le_of_ble_eq_true rfl) rfl (c_makeNo hG hi (by omega) (am_up (am_up (am_up (am_up (am_up I 0 15 8 (nI i)) 0 15 9 (nI 0)) 0 15 10 (nI 0)) 0 15 13 (-1 : Int32)) 0 15 16 (-1 : Int32)) (by simp [am_up, am_upf, upd, hkd, hp, ha]) (by simp [am_up, am_upf, upd, hkd, hp, ha]) (by simp [am_up, am_upf, upd, hkd, hp, ha])) ?_
  refine am_goto (tgt := 203) dX9_run_121 (by decide) ?_
  refine am_aload_n dX9_run_203 rfl ?_
  refine am_get (v := .inl ((am_up (am_up (am_up (am_up (am_up (am_up (am_up (am_up I 0 15 8 (nI i)) 0 15 9 (nI 0)) 0 15 10 (nI 0)) 0 15 13 (-1 : Int32)) 0 15 16 (-1 : Int32)) 0 15 9 (nI 3)) 0 15 11 (nI a)) 0 15 12 (nI 2)) 0 15 9)) dX9_run_204 fl_9_41 (hG.m0 (by decide)) rfl ?_
  refine am_top (show (am_up (am_up (am_up (am_up (am_up (am_up (am_up (am_up I 0 15 8 (nI i)) 0 15 9 (nI 0)) 0 15 10 (nI 0)) 0 15 13 (-1 : Int32)) 0 15 16 (-1 : Int32)) 0 15 9 (nI 3)) 0 15 11 (nI a)) 0 15 12 (nI 2)) 0 15 9 = nI 3 from (by simp [am_up, am_upf, upd, hkd, hp, ha])) ?_
  refine am_if_ne (tgt := 228) dX9_run_207 (by decide) (fun _ => ?_) (fun h => absurd h (by decide))
  refine am_aload_n dX9_run_228 rfl ?_
  refine am_get (v := .inl ((am_up (am_up (am_up (am_up (am_up (am_up (am_up (am_up I 0 15 8 (nI i)) 0 15 9 (nI 0)) 0 15 10 (nI 0)) 0 15 13 (-1 : Int32)) 0 15 16 (-1 : Int32)) 0 15 9 (nI 3)) 0 15 11 (nI a)) 0 15 12 (nI 2)) 0 15 9)) dX9_run_229 fl_9_41 (hG.m0 (by decide)) rfl ?_
  refine am_top (show (am_up (am_up (am_up (am_up (am_up (am_up (am_up (am_up I 0 15 8 (nI i)) 0 15 9 (nI 0)) 0 15 10 (nI 0)) 0 15 13 (-1 : Int32)) 0 15 16 (-1 : Int32)) 0 15 9 (nI 3)) 0 15 11 (nI a)) 0 15 12 (nI 2)) 0 15 9 = nI 3 from (by simp [am_up, am_upf, upd, hkd, hp, ha])) ?_
  refine am_if_ne (tgt := 249) dX9_run_232 (by decide) (fun _ => ?_) (fun h => absurd h (by decide))
  refine am_aload_n dX9_run_249 rfl ?_
  refine am_get (v := .inl ((am_up (am_up (am_up (am_up (am_up (am_up (am_up (am_up I 0 15 8 (nI i)) 0 15 9 (nI 0)) 0 15 10 (nI 0)) 0 15 13 (-1 : Int32)) 0 15 16 (-1 : Int32)) 0 15 9 (nI 3)) 0 15 11 (nI a)) 0 15 12 (nI 2)) 0 15 9)) dX9_run_250 fl_9_41 (hG.m0 (by decide)) rfl ?_
  refine am_top (show (am_up (am_up (am_up (am_up (am_up (am_up (am_up (am_up I 0 15 8 (nI i)) 0 15 9 (nI 0)) 0 15 10 (nI 0)) 0 15 13 (-1 : Int32)) 0 15 16 (-1 : Int32)) 0 15 9 (nI 3)) 0 15 11 (nI a)) 0 15 12 (nI 2)) 0 15 9 = nI 3 from (by simp [am_up, am_upf, upd, hkd, hp, ha])) ?_
  refine am_if_ne (tgt := 261) dX9_run_253 (by decide) (fun _ => ?_) (fun h => absurd h (by decide))
  refine am_vret dX9_run_261 rfl ?_
  exact ⟨rfl, rfl⟩
theorem c_run2 {G : am_G} (hG : am_ok G) {d : Nat} {i a : Nat} (hi : i < G.2.2.2.1) (hab : a < 128) (I : am_I)  (hkd : I i 55 0 = nI 2) (hp : I i 52 a = nI 0) (ha : I i 55 1 = nI a) : am_C G (d + 3) mX9_run [.inr (0, 15), .inr (i, 40)] I (am_E none (am_up (am_up (am_up (am_up (am_up (am_up (am_up (am_up I 0 15 8 (nI i)) 0 15 9 (nI 0)) 0 15 10 (nI 0)) 0 15 13 (-1 : Int32)) 0 15 16 (-1 : Int32)) 0 15 9 (nI 3)) 0 15 11 (nI a)) 0 15 12 (nI 2))) := by
  have hn4 := hG.hi
  refine am_of (by decide +kernel) hG.nd (Nat.le_of_ble_eq_true rfl) ?_
  refine am_aload_n dX9_run_0 rfl ?_
  refine am_get (v := .inr (i, 55)) dX9_run_1 fl_9_35 (hG.mn hi (by decide) (by decide)) rfl ?_
  refine am_astore_n dX9_run_4 (by decide) ?_
  refine am_aload_n dX9_run_5 rfl ?_
  refine am_aload_n dX9_run_6 rfl ?_
  refine am_putN dX9_run_7 fp_9_31 (hG.m0 (by decide)) (by omega) ?_
  refine am_aload_n dX9_run_10 rfl ?_
  refine am_iconst (v := nI 0) dX9_run_11 (by decide) ?_
  refine am_put (x := nI 0) dX9_run_12 fp_9_41 (hG.m0 (by decide)) (Nat.le_of_ble_eq_true rfl) rfl ?_
  refine am_aload_n dX9_run_15 rfl ?_
  refine am_iconst (v := nI 0) dX9_run_16 (by decide) ?_
  refine am_put (x := nI 0) dX9_run_17 fp_9_45 (hG.m0 (by decide)) (Nat.le_of_ble_eq_true rfl) rfl ?_
  refine am_aload_n dX9_run_20 rfl ?_
  refine am_iconst (v := (-1 : Int32)) dX9_run_21 (by decide) ?_
  refine am_put (x := (-1 : Int32)) dX9_run_22 fp_9_48 (hG.m0 (by decide)) (Nat.le_of_ble_eq_true rfl) rfl ?_
  refine am_aload_n dX9_run_25 rfl ?_
  refine am_iconst (v := (-1 : Int32)) dX9_run_26 (by decide) ?_
  refine am_put (x := (-1 : Int32)) dX9_run_27 fp_9_51 (hG.m0 (by decide)) (Nat.le_of_ble_eq_true rfl) rfl ?_
  refine am_aload_n dX9_run_30 rfl ?_
  refine am_get (v := .inl ((am_up (am_up (am_up (am_up (am_up I 0 15 8 (nI i)) 0 15 9 (nI 0)) 0 15 10 (nI 0)) 0 15 13 (-1 : Int32)) 0 15 16 (-1 : Int32)) i 55 0)) dX9_run_31 fl_9_54 (hG.mn hi (by decide) (by decide)) rfl ?_
  refine am_top (show (am_up (am_up (am_up (am_up (am_up I 0 15 8 (nI i)) 0 15 9 (nI 0)) 0 15 10 (nI 0)) 0 15 13 (-1 : Int32)) 0 15 16 (-1 : Int32)) i 55 0 = nI 2 from (by simp [am_up, am_upf, upd, hkd, hp, ha])) ?_
  refine am_tabIn (off := 90) (tgt := 124) dX9_run_34 (by decide) (by decide) rfl (by decide) ?_
  refine am_aload_n dX9_run_124 rfl ?_
  refine am_aload_n dX9_run_125 rfl ?_
  refine am_callVe (i := 0) (j := 15) (as := [.inr (i, 55)]) (rest := []) dX9_run_126 lkX9_remove ml_X9_66 imX9_remove seX9_remove rfl rfl (hG.m0 (by decide)) rfl (Nat.le_of_ble_eq_true rfl) rfl (c_removeNo hG hi (by omega) (am_up (am_up (am_up (am_up (am_up I 0 15 8 (nI i)) 0 15 9 (nI 0)) 0 15 10 (nI 0)) 0 15 13 (-1 : Int32)) 0 15 16 (-1 : Int32)) (by simp [am_up, am_upf, upd, hkd, hp, ha]) (by simp [am_up, am_upf, upd, hkd, hp, ha]) (by simp [am_up, am_upf, upd, hkd, hp, ha])) ?_
  refine am_goto (tgt := 203) dX9_run_129 (by decide) ?_
  refine am_aload_n dX9_run_203 rfl ?_
  refine am_get (v := .inl ((am_up (am_up (am_up (am_up (am_up (am_up (am_up (am_up I 0 15 8 (nI i)) 0 15 9 (nI 0)) 0 15 10 (nI 0)) 0 15 13 (-1 : Int32)) 0 15 16 (-1 : Int32)) 0 15 9 (nI 3)) 0 15 11 (nI a)) 0 15 12 (nI 2)) 0 15 9)) dX9_run_204 fl_9_41 (hG.m0 (by decide)) rfl ?_
  refine am_top (show (am_up (am_up (am_up (am_up (am_up (am_up (am_up (am_up I 0 15 8 (nI i)) 0 15 9 (nI 0)) 0 15 10 (nI 0)) 0 15 13 (-1 : Int32)) 0 15 16 (-1 : Int32)) 0 15 9 (nI 3)) 0 15 11 (nI a)) 0 15 12 (nI 2)) 0 15 9 = nI 3 from (by simp [am_up, am_upf, upd, hkd, hp, ha])) ?_
  refine am_if_ne (tgt := 228) dX9_run_207 (by decide) (fun _ => ?_) (fun h => absurd h (by decide))
  refine am_aload_n dX9_run_228 rfl ?_
  refine am_get (v := .inl ((am_up (am_up (am_up (am_up (am_up (am_up (am_up (am_up I 0 15 8 (nI i)) 0 15 9 (nI 0)) 0 15 10 (nI 0)) 0 15 13 (-1 : Int32)) 0 15 16 (-1 : Int32)) 0 15 9 (nI 3)) 0 15 11 (nI a)) 0 15 12 (nI 2)) 0 15 9)) dX9_run_229 fl_9_41 (hG.m0 (by decide)) rfl ?_
  refine am_top (show (am_up (am_up (am_up (am_up (am_up (am_up (am_up (am_up I 0 15 8 (nI i)) 0 15 9 (nI 0)) 0 15 10 (nI 0)) 0 15 13 (-1 : Int32)) 0 15 16 (-1 : Int32)) 0 15 9 (nI 3)) 0 15 11 (nI a)) 0 15 12 (nI 2)) 0 15 9 = nI 3 from (by simp [am_up, am_upf, upd, hkd, hp, ha])) ?_
  refine am_if_ne (tgt := 249) dX9_run_232 (by decide) (fun _ => ?_) (fun h => absurd h (by decide))
  refine am_aload_n dX9_run_249 rfl ?_
  refine am_get (v := .inl ((am_up (am_up (am_up (am_up (am_up (am_up (am_up (am_up I 0 15 8 (nI i)) 0 15 9 (nI 0)) 0 15 10 (nI 0)) 0 15 13 (-1 : Int32)) 0 15 16 (-1 : Int32)) 0 15 9 (nI 3)) 0 15 11 (nI a)) 0 15 12 (nI 2)) 0 15 9)) dX9_run_250 fl_9_41 (hG.m0 (by decide)) rfl ?_
  refine am_top (show (am_up (am_up (am_up (am_up (am_up (am_up (am_up (am_up I 0 15 8 (nI i)) 0 15 9 (nI 0)) 0 15 10 (nI 0)) 0 15 13 (-1 : Int32)) 0 15 16 (-1 : Int32)) 0 15 9 (nI 3)) 0 15 11 (nI a)) 0 15 12 (nI 2)) 0 15 9 = nI 3 from (by simp [am_up, am_upf, upd, hkd, hp, ha])) ?_
  refine am_if_ne (tgt := 261) dX9_run_253 (by decide) (fun _ => ?_) (fun h => absurd h (by decide))
  refine am_vret dX9_run_261 rfl ?_
  exact ⟨rfl, rfl⟩
theorem c_run3 {G : am_G} (hG : am_ok G) {d : Nat} {i a : Nat} (hi : i < G.2.2.2.1) (hab : a < 128) (I : am_I)  (hkd : I i 55 0 = nI 3) (hp : I i 52 a = nI 0) (ha : I i 55 1 = nI a) : am_C G (d + 3) mX9_run [.inr (0, 15), .inr (i, 40)] I (am_E none (am_up (am_up (am_up (am_up (am_up (am_up (am_up (am_up I 0 15 8 (nI i)) 0 15 9 (nI 0)) 0 15 10 (nI 0)) 0 15 13 (-1 : Int32)) 0 15 16 (-1 : Int32)) 0 15 9 (nI 3)) 0 15 11 (nI a)) 0 15 12 (nI 2))) := by
  have hn4 := hG.hi
  refine am_of (by decide +kernel) hG.nd (Nat.le_of_ble_eq_true rfl) ?_
  refine am_aload_n dX9_run_0 rfl ?_
  refine am_get (v := .inr (i, 55)) dX9_run_1 fl_9_35 (hG.mn hi (by decide) (by decide)) rfl ?_
  refine am_astore_n dX9_run_4 (by decide) ?_
  refine am_aload_n dX9_run_5 rfl ?_
  refine am_aload_n dX9_run_6 rfl ?_
  refine am_putN dX9_run_7 fp_9_31 (hG.m0 (by decide)) (by omega) ?_
  refine am_aload_n dX9_run_10 rfl ?_
  refine am_iconst (v := nI 0) dX9_run_11 (by decide) ?_
  refine am_put (x := nI 0) dX9_run_12 fp_9_41 (hG.m0 (by decide)) (Nat.le_of_ble_eq_true rfl) rfl ?_
  refine am_aload_n dX9_run_15 rfl ?_
  refine am_iconst (v := nI 0) dX9_run_16 (by decide) ?_
  refine am_put (x := nI 0) dX9_run_17 fp_9_45 (hG.m0 (by decide)) (Nat.le_of_ble_eq_true rfl) rfl ?_
  refine am_aload_n dX9_run_20 rfl ?_
  refine am_iconst (v := (-1 : Int32)) dX9_run_21 (by decide) ?_
  refine am_put (x := (-1 : Int32)) dX9_run_22 fp_9_48 (hG.m0 (by decide)) (Nat.le_of_ble_eq_true rfl) rfl ?_
  refine am_aload_n dX9_run_25 rfl ?_
  refine am_iconst (v := (-1 : Int32)) dX9_run_26 (by decide) ?_
  refine am_put (x := (-1 : Int32)) dX9_run_27 fp_9_51 (hG.m0 (by decide)) (Nat.le_of_ble_eq_true rfl) rfl ?_
  refine am_aload_n dX9_run_30 rfl ?_
  refine am_get (v := .inl ((am_up (am_up (am_up (am_up (am_up I 0 15 8 (nI i)) 0 15 9 (nI 0)) 0 15 10 (nI 0)) 0 15 13 (-1 : Int32)) 0 15 16 (-1 : Int32)) i 55 0)) dX9_run_31 fl_9_54 (hG.mn hi (by decide) (by decide)) rfl ?_
  refine am_top (show (am_up (am_up (am_up (am_up (am_up I 0 15 8 (nI i)) 0 15 9 (nI 0)) 0 15 10 (nI 0)) 0 15 13 (-1 : Int32)) 0 15 16 (-1 : Int32)) i 55 0 = nI 3 from (by simp [am_up, am_upf, upd, hkd, hp, ha])) ?_
  refine am_tabIn (off := 98) (tgt := 132) dX9_run_34 (by decide) (by decide) rfl (by decide) ?_
  refine am_aload_n dX9_run_132 rfl ?_
  refine am_aload_n dX9_run_133 rfl ?_
  refine am_callVe (i := 0) (j := 15) (as := [.inr (i, 55)]) (rest := []) dX9_run_134 lkX9_link ml_X9_69 imX9_link seX9_link rfl rfl (hG.m0 (by decide)) rfl (Nat.le_of_ble_eq_true rfl) rfl (c_linkNo hG hi (by omega) (am_up (am_up (am_up (am_up (am_up I 0 15 8 (nI i)) 0 15 9 (nI 0)) 0 15 10 (nI 0)) 0 15 13 (-1 : Int32)) 0 15 16 (-1 : Int32)) (by simp [am_up, am_upf, upd, hkd, hp, ha]) (by simp [am_up, am_upf, upd, hkd, hp, ha]) (by simp [am_up, am_upf, upd, hkd, hp, ha])) ?_
  refine am_goto (tgt := 203) dX9_run_137 (by decide) ?_
  refine am_aload_n dX9_run_203 rfl ?_
  refine am_get (v := .inl ((am_up (am_up (am_up (am_up (am_up (am_up (am_up (am_up I 0 15 8 (nI i)) 0 15 9 (nI 0)) 0 15 10 (nI 0)) 0 15 13 (-1 : Int32)) 0 15 16 (-1 : Int32)) 0 15 9 (nI 3)) 0 15 11 (nI a)) 0 15 12 (nI 2)) 0 15 9)) dX9_run_204 fl_9_41 (hG.m0 (by decide)) rfl ?_
  refine am_top (show (am_up (am_up (am_up (am_up (am_up (am_up (am_up (am_up I 0 15 8 (nI i)) 0 15 9 (nI 0)) 0 15 10 (nI 0)) 0 15 13 (-1 : Int32)) 0 15 16 (-1 : Int32)) 0 15 9 (nI 3)) 0 15 11 (nI a)) 0 15 12 (nI 2)) 0 15 9 = nI 3 from (by simp [am_up, am_upf, upd, hkd, hp, ha])) ?_
  refine am_if_ne (tgt := 228) dX9_run_207 (by decide) (fun _ => ?_) (fun h => absurd h (by decide))
  refine am_aload_n dX9_run_228 rfl ?_
  refine am_get (v := .inl ((am_up (am_up (am_up (am_up (am_up (am_up (am_up (am_up I 0 15 8 (nI i)) 0 15 9 (nI 0)) 0 15 10 (nI 0)) 0 15 13 (-1 : Int32)) 0 15 16 (-1 : Int32)) 0 15 9 (nI 3)) 0 15 11 (nI a)) 0 15 12 (nI 2)) 0 15 9)) dX9_run_229 fl_9_41 (hG.m0 (by decide)) rfl ?_
  refine am_top (show (am_up (am_up (am_up (am_up (am_up (am_up (am_up (am_up I 0 15 8 (nI i)) 0 15 9 (nI 0)) 0 15 10 (nI 0)) 0 15 13 (-1 : Int32)) 0 15 16 (-1 : Int32)) 0 15 9 (nI 3)) 0 15 11 (nI a)) 0 15 12 (nI 2)) 0 15 9 = nI 3 from (by simp [am_up, am_upf, upd, hkd, hp, ha])) ?_
  refine am_if_ne (tgt := 249) dX9_run_232 (by decide) (fun _ => ?_) (fun h => absurd h (by decide))
  refine am_aload_n dX9_run_249 rfl ?_
  refine am_get (v := .inl ((am_up (am_up (am_up (am_up (am_up (am_up (am_up (am_up I 0 15 8 (nI i)) 0 15 9 (nI 0)) 0 15 10 (nI 0)) 0 15 13 (-1 : Int32)) 0 15 16 (-1 : Int32)) 0 15 9 (nI 3)) 0 15 11 (nI a)) 0 15 12 (nI 2)) 0 15 9)) dX9_run_250 fl_9_41 (hG.m0 (by decide)) rfl ?_
  refine am_top (show (am_up (am_up (am_up (am_up (am_up (am_up (am_up (am_up I 0 15 8 (nI i)) 0 15 9 (nI 0)) 0 15 10 (nI 0)) 0 15 13 (-1 : Int32)) 0 15 16 (-1 : Int32)) 0 15 9 (nI 3)) 0 15 11 (nI a)) 0 15 12 (nI 2)) 0 15 9 = nI 3 from (by simp [am_up, am_upf, upd, hkd, hp, ha])) ?_
  refine am_if_ne (tgt := 261) dX9_run_253 (by decide) (fun _ => ?_) (fun h => absurd h (by decide))
  refine am_vret dX9_run_261 rfl ?_
  exact ⟨rfl, rfl⟩
theorem c_run4 {G : am_G} (hG : am_ok G) {d : Nat} {i a : Nat} (hi : i < G.2.2.2.1) (hab : a < 128) (I : am_I)  (hkd : I i 55 0 = nI 4) (hp : I i 52 a = nI 0) (ha : I i 55 1 = nI a) : am_C G (d + 3) mX9_run [.inr (0, 15), .inr (i, 40)] I (am_E none (am_up (am_up (am_up (am_up (am_up (am_up (am_up (am_up I 0 15 8 (nI i)) 0 15 9 (nI 0)) 0 15 10 (nI 0)) 0 15 13 (-1 : Int32)) 0 15 16 (-1 : Int32)) 0 15 9 (nI 3)) 0 15 11 (nI a)) 0 15 12 (nI 2))) := by
  have hn4 := hG.hi
  refine am_of (by decide +kernel) hG.nd (Nat.le_of_ble_eq_true rfl) ?_
  refine am_aload_n dX9_run_0 rfl ?_
  refine am_get (v := .inr (i, 55)) dX9_run_1 fl_9_35 (hG.mn hi (by decide) (by decide)) rfl ?_
  refine am_astore_n dX9_run_4 (by decide) ?_
  refine am_aload_n dX9_run_5 rfl ?_
  refine am_aload_n dX9_run_6 rfl ?_
  refine am_putN dX9_run_7 fp_9_31 (hG.m0 (by decide)) (by omega) ?_
  refine am_aload_n dX9_run_10 rfl ?_
  refine am_iconst (v := nI 0) dX9_run_11 (by decide) ?_
  refine am_put (x := nI 0) dX9_run_12 fp_9_41 (hG.m0 (by decide)) (Nat.le_of_ble_eq_true rfl) rfl ?_
  refine am_aload_n dX9_run_15 rfl ?_
  refine am_iconst (v := nI 0) dX9_run_16 (by decide) ?_
  refine am_put (x := nI 0) dX9_run_17 fp_9_45 (hG.m0 (by decide)) (Nat.le_of_ble_eq_true rfl) rfl ?_
  refine am_aload_n dX9_run_20 rfl ?_
  refine am_iconst (v := (-1 : Int32)) dX9_run_21 (by decide) ?_
  refine am_put (x := (-1 : Int32)) dX9_run_22 fp_9_48 (hG.m0 (by decide)) (Nat.le_of_ble_eq_true rfl) rfl ?_
  refine am_aload_n dX9_run_25 rfl ?_
  refine am_iconst (v := (-1 : Int32)) dX9_run_26 (by decide) ?_
  refine am_put (x := (-1 : Int32)) dX9_run_27 fp_9_51 (hG.m0 (by decide)) (Nat.le_of_ble_eq_true rfl) rfl ?_
  refine am_aload_n dX9_run_30 rfl ?_
  refine am_get (v := .inl ((am_up (am_up (am_up (am_up (am_up I 0 15 8 (nI i)) 0 15 9 (nI 0)) 0 15 10 (nI 0)) 0 15 13 (-1 : Int32)) 0 15 16 (-1 : Int32)) i 55 0)) dX9_run_31 fl_9_54 (hG.mn hi (by decide) (by decide)) rfl ?_
  refine am_top (show (am_up (am_up (am_up (am_up (am_up I 0 15 8 (nI i)) 0 15 9 (nI 0)) 0 15 10 (nI 0)) 0 15 13 (-1 : Int32)) 0 15 16 (-1 : Int32)) i 55 0 = nI 4 from (by simp [am_up, am_upf, upd, hkd, hp, ha])) ?_
  refine am_tabIn (off := 106) (tgt := 140) dX9_run_34 (by decide) (by decide) rfl (by decide) ?_
  refine am_aload_n dX9_run_140 rfl ?_
  refine am_aload_n dX9_run_141 rfl ?_
  refine am_callVe (i := 0) (j := 15) (as := [.inr (i, 55)]) (rest := []) dX9_run_142 lkX9_rename ml_X9_72 imX9_rename seX9_rename rfl rfl (hG.m0 (by decide)) rfl (Nat.le_of_ble_eq_true rfl) rfl (c_renameNo hG hi (by omega) (am_up (am_up (am_up (am_up (am_up I 0 15 8 (nI i)) 0 15 9 (nI 0)) 0 15 10 (nI 0)) 0 15 13 (-1 : Int32)) 0 15 16 (-1 : Int32)) (by simp [am_up, am_upf, upd, hkd, hp, ha]) (by simp [am_up, am_upf, upd, hkd, hp, ha]) (by simp [am_up, am_upf, upd, hkd, hp, ha])) ?_
  refine am_goto (tgt := 203) dX9_run_145 (by decide) ?_
  refine am_aload_n dX9_run_203 rfl ?_
  refine am_get (v := .inl ((am_up (am_up (am_up (am_up (am_up (am_up (am_up (am_up I 0 15 8 (nI i)) 0 15 9 (nI 0)) 0 15 10 (nI 0)) 0 15 13 (-1 : Int32)) 0 15 16 (-1 : Int32)) 0 15 9 (nI 3)) 0 15 11 (nI a)) 0 15 12 (nI 2)) 0 15 9)) dX9_run_204 fl_9_41 (hG.m0 (by decide)) rfl ?_
  refine am_top (show (am_up (am_up (am_up (am_up (am_up (am_up (am_up (am_up I 0 15 8 (nI i)) 0 15 9 (nI 0)) 0 15 10 (nI 0)) 0 15 13 (-1 : Int32)) 0 15 16 (-1 : Int32)) 0 15 9 (nI 3)) 0 15 11 (nI a)) 0 15 12 (nI 2)) 0 15 9 = nI 3 from (by simp [am_up, am_upf, upd, hkd, hp, ha])) ?_
  refine am_if_ne (tgt := 228) dX9_run_207 (by decide) (fun _ => ?_) (fun h => absurd h (by decide))
  refine am_aload_n dX9_run_228 rfl ?_
  refine am_get (v := .inl ((am_up (am_up (am_up (am_up (am_up (am_up (am_up (am_up I 0 15 8 (nI i)) 0 15 9 (nI 0)) 0 15 10 (nI 0)) 0 15 13 (-1 : Int32)) 0 15 16 (-1 : Int32)) 0 15 9 (nI 3)) 0 15 11 (nI a)) 0 15 12 (nI 2)) 0 15 9)) dX9_run_229 fl_9_41 (hG.m0 (by decide)) rfl ?_
  refine am_top (show (am_up (am_up (am_up (am_up (am_up (am_up (am_up (am_up I 0 15 8 (nI i)) 0 15 9 (nI 0)) 0 15 10 (nI 0)) 0 15 13 (-1 : Int32)) 0 15 16 (-1 : Int32)) 0 15 9 (nI 3)) 0 15 11 (nI a)) 0 15 12 (nI 2)) 0 15 9 = nI 3 from (by simp [am_up, am_upf, upd, hkd, hp, ha])) ?_
  refine am_if_ne (tgt := 249) dX9_run_232 (by decide) (fun _ => ?_) (fun h => absurd h (by decide))
  refine am_aload_n dX9_run_249 rfl ?_
  refine am_get (v := .inl ((am_up (am_up (am_up (am_up (am_up (am_up (am_up (am_up I 0 15 8 (nI i)) 0 15 9 (nI 0)) 0 15 10 (nI 0)) 0 15 13 (-1 : Int32)) 0 15 16 (-1 : Int32)) 0 15 9 (nI 3)) 0 15 11 (nI a)) 0 15 12 (nI 2)) 0 15 9)) dX9_run_250 fl_9_41 (hG.m0 (by decide)) rfl ?_
  refine am_top (show (am_up (am_up (am_up (am_up (am_up (am_up (am_up (am_up I 0 15 8 (nI i)) 0 15 9 (nI 0)) 0 15 10 (nI 0)) 0 15 13 (-1 : Int32)) 0 15 16 (-1 : Int32)) 0 15 9 (nI 3)) 0 15 11 (nI a)) 0 15 12 (nI 2)) 0 15 9 = nI 3 from (by simp [am_up, am_upf, upd, hkd, hp, ha])) ?_
  refine am_if_ne (tgt := 261) dX9_run_253 (by decide) (fun _ => ?_) (fun h => absurd h (by decide))
  refine am_vret dX9_run_261 rfl ?_
  exact ⟨rfl, rfl⟩
theorem c_run5 {G : am_G} (hG : am_ok G) {d : Nat} {i a : Nat} (hi : i < G.2.2.2.1) (hab : a < 128) (I : am_I)  (hkd : I i 55 0 = nI 5) (hp : I i 52 a = nI 0) (ha : I i 55 1 = nI a) : am_C G (d + 3) mX9_run [.inr (0, 15), .inr (i, 40)] I (am_E none (am_up (am_up (am_up (am_up (am_up (am_up (am_up (am_up I 0 15 8 (nI i)) 0 15 9 (nI 0)) 0 15 10 (nI 0)) 0 15 13 (-1 : Int32)) 0 15 16 (-1 : Int32)) 0 15 9 (nI 3)) 0 15 11 (nI a)) 0 15 12 (nI 1))) := by
  have hn4 := hG.hi
  refine am_of (by decide +kernel) hG.nd (Nat.le_of_ble_eq_true rfl) ?_
  refine am_aload_n dX9_run_0 rfl ?_
  refine am_get (v := .inr (i, 55)) dX9_run_1 fl_9_35 (hG.mn hi (by decide) (by decide)) rfl ?_
  refine am_astore_n dX9_run_4 (by decide) ?_
  refine am_aload_n dX9_run_5 rfl ?_
  refine am_aload_n dX9_run_6 rfl ?_
  refine am_putN dX9_run_7 fp_9_31 (hG.m0 (by decide)) (by omega) ?_
  refine am_aload_n dX9_run_10 rfl ?_
  refine am_iconst (v := nI 0) dX9_run_11 (by decide) ?_
  refine am_put (x := nI 0) dX9_run_12 fp_9_41 (hG.m0 (by decide)) (Nat.le_of_ble_eq_true rfl) rfl ?_
  refine am_aload_n dX9_run_15 rfl ?_
  refine am_iconst (v := nI 0) dX9_run_16 (by decide) ?_
  refine am_put (x := nI 0) dX9_run_17 fp_9_45 (hG.m0 (by decide)) (Nat.le_of_ble_eq_true rfl) rfl ?_
  refine am_aload_n dX9_run_20 rfl ?_
  refine am_iconst (v := (-1 : Int32)) dX9_run_21 (by decide) ?_
  refine am_put (x := (-1 : Int32)) dX9_run_22 fp_9_48 (hG.m0 (by decide)) (Nat.le_of_ble_eq_true rfl) rfl ?_
  refine am_aload_n dX9_run_25 rfl ?_
  refine am_iconst (v := (-1 : Int32)) dX9_run_26 (by decide) ?_
  refine am_put (x := (-1 : Int32)) dX9_run_27 fp_9_51 (hG.m0 (by decide)) (Nat.le_of_ble_eq_true rfl) rfl ?_
  refine am_aload_n dX9_run_30 rfl ?_
  refine am_get (v := .inl ((am_up (am_up (am_up (am_up (am_up I 0 15 8 (nI i)) 0 15 9 (nI 0)) 0 15 10 (nI 0)) 0 15 13 (-1 : Int32)) 0 15 16 (-1 : Int32)) i 55 0)) dX9_run_31 fl_9_54 (hG.mn hi (by decide) (by decide)) rfl ?_
  refine am_top (show (am_up (am_up (am_up (am_up (am_up I 0 15 8 (nI i)) 0 15 9 (nI 0)) 0 15 10 (nI 0)) 0 15 13 (-1 : Int32)) 0 15 16 (-1 : Int32)) i 55 0 = nI 5 from (by simp [am_up, am_upf, upd, hkd, hp, ha])) ?_
  refine am_tabIn (off := 114) (tgt := 148) dX9_run_34 (by decide) (by decide) rfl (by decide) ?_
  refine am_aload_n dX9_run_148 rfl ?_
  refine am_aload_n dX9_run_149 rfl ?_
  refine am_callVe (i := 0) (j := 15) (as := [.inr (i, 55)]) (rest := []) dX9_run_150 lkX9_readWord ml_X9_75 imX9_readWord seX9_readWord rfl rfl (hG.m0 (by decide)) rfl (Nat.le_of_ble_eq_true rfl) rfl (c_readWordNo hG hi (by omega) (am_up (am_up (am_up (am_up (am_up I 0 15 8 (nI i)) 0 15 9 (nI 0)) 0 15 10 (nI 0)) 0 15 13 (-1 : Int32)) 0 15 16 (-1 : Int32)) (by simp [am_up, am_upf, upd, hkd, hp, ha]) (by simp [am_up, am_upf, upd, hkd, hp, ha]) (by simp [am_up, am_upf, upd, hkd, hp, ha])) ?_
  refine am_goto (tgt := 203) dX9_run_153 (by decide) ?_
  refine am_aload_n dX9_run_203 rfl ?_
  refine am_get (v := .inl ((am_up (am_up (am_up (am_up (am_up (am_up (am_up (am_up I 0 15 8 (nI i)) 0 15 9 (nI 0)) 0 15 10 (nI 0)) 0 15 13 (-1 : Int32)) 0 15 16 (-1 : Int32)) 0 15 9 (nI 3)) 0 15 11 (nI a)) 0 15 12 (nI 1)) 0 15 9)) dX9_run_204 fl_9_41 (hG.m0 (by decide)) rfl ?_
  refine am_top (show (am_up (am_up (am_up (am_up (am_up (am_up (am_up (am_up I 0 15 8 (nI i)) 0 15 9 (nI 0)) 0 15 10 (nI 0)) 0 15 13 (-1 : Int32)) 0 15 16 (-1 : Int32)) 0 15 9 (nI 3)) 0 15 11 (nI a)) 0 15 12 (nI 1)) 0 15 9 = nI 3 from (by simp [am_up, am_upf, upd, hkd, hp, ha])) ?_
  refine am_if_ne (tgt := 228) dX9_run_207 (by decide) (fun _ => ?_) (fun h => absurd h (by decide))
  refine am_aload_n dX9_run_228 rfl ?_
  refine am_get (v := .inl ((am_up (am_up (am_up (am_up (am_up (am_up (am_up (am_up I 0 15 8 (nI i)) 0 15 9 (nI 0)) 0 15 10 (nI 0)) 0 15 13 (-1 : Int32)) 0 15 16 (-1 : Int32)) 0 15 9 (nI 3)) 0 15 11 (nI a)) 0 15 12 (nI 1)) 0 15 9)) dX9_run_229 fl_9_41 (hG.m0 (by decide)) rfl ?_
  refine am_top (show (am_up (am_up (am_up (am_up (am_up (am_up (am_up (am_up I 0 15 8 (nI i)) 0 15 9 (nI 0)) 0 15 10 (nI 0)) 0 15 13 (-1 : Int32)) 0 15 16 (-1 : Int32)) 0 15 9 (nI 3)) 0 15 11 (nI a)) 0 15 12 (nI 1)) 0 15 9 = nI 3 from (by simp [am_up, am_upf, upd, hkd, hp, ha])) ?_
  refine am_if_ne (tgt := 249) dX9_run_232 (by decide) (fun _ => ?_) (fun h => absurd h (by decide))
  refine am_aload_n dX9_run_249 rfl ?_
  refine am_get (v := .inl ((am_up (am_up (am_up (am_up (am_up (am_up (am_up (am_up I 0 15 8 (nI i)) 0 15 9 (nI 0)) 0 15 10 (nI 0)) 0 15 13 (-1 : Int32)) 0 15 16 (-1 : Int32)) 0 15 9 (nI 3)) 0 15 11 (nI a)) 0 15 12 (nI 1)) 0 15 9)) dX9_run_250 fl_9_41 (hG.m0 (by decide)) rfl ?_
  refine am_top (show (am_up (am_up (am_up (am_up (am_up (am_up (am_up (am_up I 0 15 8 (nI i)) 0 15 9 (nI 0)) 0 15 10 (nI 0)) 0 15 13 (-1 : Int32)) 0 15 16 (-1 : Int32)) 0 15 9 (nI 3)) 0 15 11 (nI a)) 0 15 12 (nI 1)) 0 15 9 = nI 3 from (by simp [am_up, am_upf, upd, hkd, hp, ha])) ?_
  refine am_if_ne (tgt := 261) dX9_run_253 (by decide) (fun _ => ?_) (fun h => absurd h (by decide))
  refine am_vret dX9_run_261 rfl ?_
  exact ⟨rfl, rfl⟩
theorem c_run6 {G : am_G} (hG : am_ok G) {d : Nat} {i a : Nat} (hi : i < G.2.2.2.1) (hab : a < 128) (I : am_I)  (hkd : I i 55 0 = nI 6) (hp : I i 52 a = nI 0) (ha : I i 55 1 = nI a) : am_C G (d + 3) mX9_run [.inr (0, 15), .inr (i, 40)] I (am_E none (am_up (am_up (am_up (am_up (am_up (am_up (am_up (am_up I 0 15 8 (nI i)) 0 15 9 (nI 0)) 0 15 10 (nI 0)) 0 15 13 (-1 : Int32)) 0 15 16 (-1 : Int32)) 0 15 9 (nI 3)) 0 15 11 (nI a)) 0 15 12 (nI 2))) := by
  have hn4 := hG.hi
  refine am_of (by decide +kernel) hG.nd (Nat.le_of_ble_eq_true rfl) ?_
  refine am_aload_n dX9_run_0 rfl ?_
  refine am_get (v := .inr (i, 55)) dX9_run_1 fl_9_35 (hG.mn hi (by decide) (by decide)) rfl ?_
  refine am_astore_n dX9_run_4 (by decide) ?_
  refine am_aload_n dX9_run_5 rfl ?_
  refine am_aload_n dX9_run_6 rfl ?_
  refine am_putN dX9_run_7 fp_9_31 (hG.m0 (by decide)) (by omega) ?_
  refine am_aload_n dX9_run_10 rfl ?_
  refine am_iconst (v := nI 0) dX9_run_11 (by decide) ?_
  refine am_put (x := nI 0) dX9_run_12 fp_9_41 (hG.m0 (by decide)) (Nat.le_of_ble_eq_true rfl) rfl ?_
  refine am_aload_n dX9_run_15 rfl ?_
  refine am_iconst (v := nI 0) dX9_run_16 (by decide) ?_
  refine am_put (x := nI 0) dX9_run_17 fp_9_45 (hG.m0 (by decide)) (Nat.le_of_ble_eq_true rfl) rfl ?_
  refine am_aload_n dX9_run_20 rfl ?_
  refine am_iconst (v := (-1 : Int32)) dX9_run_21 (by decide) ?_
  refine am_put (x := (-1 : Int32)) dX9_run_22 fp_9_48 (hG.m0 (by decide)) (Nat.le_of_ble_eq_true rfl) rfl ?_
  refine am_aload_n dX9_run_25 rfl ?_
  refine am_iconst (v := (-1 : Int32)) dX9_run_26 (by decide) ?_
  refine am_put (x := (-1 : Int32)) dX9_run_27 fp_9_51 (hG.m0 (by decide)) (Nat.le_of_ble_eq_true rfl) rfl ?_
  refine am_aload_n dX9_run_30 rfl ?_
  refine am_get (v := .inl ((am_up (am_up (am_up (am_up (am_up I 0 15 8 (nI i)) 0 15 9 (nI 0)) 0 15 10 (nI 0)) 0 15 13 (-1 : Int32)) 0 15 16 (-1 : Int32)) i 55 0)) dX9_run_31 fl_9_54 (hG.mn hi (by decide) (by decide)) rfl ?_
  refine am_top (show (am_up (am_up (am_up (am_up (am_up I 0 15 8 (nI i)) 0 15 9 (nI 0)) 0 15 10 (nI 0)) 0 15 13 (-1 : Int32)) 0 15 16 (-1 : Int32)) i 55 0 = nI 6 from (by simp [am_up, am_upf, upd, hkd, hp, ha])) ?_
  refine am_tabIn (off := 122) (tgt := 156) dX9_run_34 (by decide) (by decide) rfl (by decide) ?_
  refine am_aload_n dX9_run_156 rfl ?_
  refine am_aload_n dX9_run_157 rfl ?_
  refine am_callVe (i := 0) (j := 15) (as := [.inr (i, 55)]) (rest := []) dX9_run_158 lkX9_writeWord ml_X9_78 imX9_writeWord seX9_writeWord rfl rfl (hG.m0 (by decide)) rfl (Nat.le_of_ble_eq_true rfl) rfl (c_writeWordNo hG hi (by omega) (am_up (am_up (am_up (am_up (am_up I 0 15 8 (nI i)) 0 15 9 (nI 0)) 0 15 10 (nI 0)) 0 15 13 (-1 : Int32)) 0 15 16 (-1 : Int32)) (by simp [am_up, am_upf, upd, hkd, hp, ha]) (by simp [am_up, am_upf, upd, hkd, hp, ha]) (by simp [am_up, am_upf, upd, hkd, hp, ha])) ?_
  refine am_goto (tgt := 203) dX9_run_161 (by decide) ?_
  refine am_aload_n dX9_run_203 rfl ?_
  refine am_get (v := .inl ((am_up (am_up (am_up (am_up (am_up (am_up (am_up (am_up I 0 15 8 (nI i)) 0 15 9 (nI 0)) 0 15 10 (nI 0)) 0 15 13 (-1 : Int32)) 0 15 16 (-1 : Int32)) 0 15 9 (nI 3)) 0 15 11 (nI a)) 0 15 12 (nI 2)) 0 15 9)) dX9_run_204 fl_9_41 (hG.m0 (by decide)) rfl ?_
  refine am_top (show (am_up (am_up (am_up (am_up (am_up (am_up (am_up (am_up I 0 15 8 (nI i)) 0 15 9 (nI 0)) 0 15 10 (nI 0)) 0 15 13 (-1 : Int32)) 0 15 16 (-1 : Int32)) 0 15 9 (nI 3)) 0 15 11 (nI a)) 0 15 12 (nI 2)) 0 15 9 = nI 3 from (by simp [am_up, am_upf, upd, hkd, hp, ha])) ?_
  refine am_if_ne (tgt := 228) dX9_run_207 (by decide) (fun _ => ?_) (fun h => absurd h (by decide))
  refine am_aload_n dX9_run_228 rfl ?_
  refine am_get (v := .inl ((am_up (am_up (am_up (am_up (am_up (am_up (am_up (am_up I 0 15 8 (nI i)) 0 15 9 (nI 0)) 0 15 10 (nI 0)) 0 15 13 (-1 : Int32)) 0 15 16 (-1 : Int32)) 0 15 9 (nI 3)) 0 15 11 (nI a)) 0 15 12 (nI 2)) 0 15 9)) dX9_run_229 fl_9_41 (hG.m0 (by decide)) rfl ?_
  refine am_top (show (am_up (am_up (am_up (am_up (am_up (am_up (am_up (am_up I 0 15 8 (nI i)) 0 15 9 (nI 0)) 0 15 10 (nI 0)) 0 15 13 (-1 : Int32)) 0 15 16 (-1 : Int32)) 0 15 9 (nI 3)) 0 15 11 (nI a)) 0 15 12 (nI 2)) 0 15 9 = nI 3 from (by simp [am_up, am_upf, upd, hkd, hp, ha])) ?_
  refine am_if_ne (tgt := 249) dX9_run_232 (by decide) (fun _ => ?_) (fun h => absurd h (by decide))
  refine am_aload_n dX9_run_249 rfl ?_
  refine am_get (v := .inl ((am_up (am_up (am_up (am_up (am_up (am_up (am_up (am_up I 0 15 8 (nI i)) 0 15 9 (nI 0)) 0 15 10 (nI 0)) 0 15 13 (-1 : Int32)) 0 15 16 (-1 : Int32)) 0 15 9 (nI 3)) 0 15 11 (nI a)) 0 15 12 (nI 2)) 0 15 9)) dX9_run_250 fl_9_41 (hG.m0 (by decide)) rfl ?_
  refine am_top (show (am_up (am_up (am_up (am_up (am_up (am_up (am_up (am_up I 0 15 8 (nI i)) 0 15 9 (nI 0)) 0 15 10 (nI 0)) 0 15 13 (-1 : Int32)) 0 15 16 (-1 : Int32)) 0 15 9 (nI 3)) 0 15 11 (nI a)) 0 15 12 (nI 2)) 0 15 9 = nI 3 from (by simp [am_up, am_upf, upd, hkd, hp, ha])) ?_
  refine am_if_ne (tgt := 261) dX9_run_253 (by decide) (fun _ => ?_) (fun h => absurd h (by decide))
  refine am_vret dX9_run_261 rfl ?_
  exact ⟨rfl, rfl⟩
theorem c_run7 {G : am_G} (hG : am_ok G) {d : Nat} {i a : Nat} (hi : i < G.2.2.2.1) (hab : a < 128) (I : am_I)  (hkd : I i 55 0 = nI 7) (hp : I i 52 a = nI 0) (ha : I i 55 1 = nI a) : am_C G (d + 3) mX9_run [.inr (0, 15), .inr (i, 40)] I (am_E none (am_up (am_up (am_up (am_up (am_up (am_up (am_up (am_up I 0 15 8 (nI i)) 0 15 9 (nI 0)) 0 15 10 (nI 0)) 0 15 13 (-1 : Int32)) 0 15 16 (-1 : Int32)) 0 15 9 (nI 3)) 0 15 11 (nI a)) 0 15 12 (nI 2))) := by
  have hn4 := hG.hi
  refine am_of (by decide +kernel) hG.nd (Nat.le_of_ble_eq_true rfl) ?_
  refine am_aload_n dX9_run_0 rfl ?_
  refine am_get (v := .inr (i, 55)) dX9_run_1 fl_9_35 (hG.mn hi (by decide) (by decide)) rfl ?_
  refine am_astore_n dX9_run_4 (by decide) ?_
  refine am_aload_n dX9_run_5 rfl ?_
  refine am_aload_n dX9_run_6 rfl ?_
  refine am_putN dX9_run_7 fp_9_31 (hG.m0 (by decide)) (by omega) ?_
  refine am_aload_n dX9_run_10 rfl ?_
  refine am_iconst (v := nI 0) dX9_run_11 (by decide) ?_
  refine am_put (x := nI 0) dX9_run_12 fp_9_41 (hG.m0 (by decide)) (Nat.le_of_ble_eq_true rfl) rfl ?_
  refine am_aload_n dX9_run_15 rfl ?_
  refine am_iconst (v := nI 0) dX9_run_16 (by decide) ?_
  refine am_put (x := nI 0) dX9_run_17 fp_9_45 (hG.m0 (by decide)) (Nat.le_of_ble_eq_true rfl) rfl ?_
  refine am_aload_n dX9_run_20 rfl ?_
  refine am_iconst (v := (-1 : Int32)) dX9_run_21 (by decide) ?_
  refine am_put (x := (-1 : Int32)) dX9_run_22 fp_9_48 (hG.m0 (by decide)) (Nat.le_of_ble_eq_true rfl) rfl ?_
  refine am_aload_n dX9_run_25 rfl ?_
  refine am_iconst (v := (-1 : Int32)) dX9_run_26 (by decide) ?_
  refine am_put (x := (-1 : Int32)) dX9_run_27 fp_9_51 (hG.m0 (by decide)) (Nat.le_of_ble_eq_true rfl) rfl ?_
  refine am_aload_n dX9_run_30 rfl ?_
  refine am_get (v := .inl ((am_up (am_up (am_up (am_up (am_up I 0 15 8 (nI i)) 0 15 9 (nI 0)) 0 15 10 (nI 0)) 0 15 13 (-1 : Int32)) 0 15 16 (-1 : Int32)) i 55 0)) dX9_run_31 fl_9_54 (hG.mn hi (by decide) (by decide)) rfl ?_
  refine am_top (show (am_up (am_up (am_up (am_up (am_up I 0 15 8 (nI i)) 0 15 9 (nI 0)) 0 15 10 (nI 0)) 0 15 13 (-1 : Int32)) 0 15 16 (-1 : Int32)) i 55 0 = nI 7 from (by simp [am_up, am_upf, upd, hkd, hp, ha])) ?_
  refine am_tabIn (off := 130) (tgt := 164) dX9_run_34 (by decide) (by decide) rfl (by decide) ?_
  refine am_aload_n dX9_run_164 rfl ?_
  refine am_aload_n dX9_run_165 rfl ?_
  refine am_callVe (i := 0) (j := 15) (as := [.inr (i, 55)]) (rest := []) dX9_run_166 lkX9_cut ml_X9_81 imX9_cut seX9_cut rfl rfl (hG.m0 (by decide)) rfl (Nat.le_of_ble_eq_true rfl) rfl (c_cutNo hG hi (by omega) (am_up (am_up (am_up (am_up (am_up I 0 15 8 (nI i)) 0 15 9 (nI 0)) 0 15 10 (nI 0)) 0 15 13 (-1 : Int32)) 0 15 16 (-1 : Int32)) (by simp [am_up, am_upf, upd, hkd, hp, ha]) (by simp [am_up, am_upf, upd, hkd, hp, ha]) (by simp [am_up, am_upf, upd, hkd, hp, ha])) ?_
  refine am_goto (tgt := 203) dX9_run_169 (by decide) ?_
  refine am_aload_n dX9_run_203 rfl ?_
  refine am_get (v := .inl ((am_up (am_up (am_up (am_up (am_up (am_up (am_up (am_up I 0 15 8 (nI i)) 0 15 9 (nI 0)) 0 15 10 (nI 0)) 0 15 13 (-1 : Int32)) 0 15 16 (-1 : Int32)) 0 15 9 (nI 3)) 0 15 11 (nI a)) 0 15 12 (nI 2)) 0 15 9)) dX9_run_204 fl_9_41 (hG.m0 (by decide)) rfl ?_
  refine am_top (show (am_up (am_up (am_up (am_up (am_up (am_up (am_up (am_up I 0 15 8 (nI i)) 0 15 9 (nI 0)) 0 15 10 (nI 0)) 0 15 13 (-1 : Int32)) 0 15 16 (-1 : Int32)) 0 15 9 (nI 3)) 0 15 11 (nI a)) 0 15 12 (nI 2)) 0 15 9 = nI 3 from (by simp [am_up, am_upf, upd, hkd, hp, ha])) ?_
  refine am_if_ne (tgt := 228) dX9_run_207 (by decide) (fun _ => ?_) (fun h => absurd h (by decide))
  refine am_aload_n dX9_run_228 rfl ?_
  refine am_get (v := .inl ((am_up (am_up (am_up (am_up (am_up (am_up (am_up (am_up I 0 15 8 (nI i)) 0 15 9 (nI 0)) 0 15 10 (nI 0)) 0 15 13 (-1 : Int32)) 0 15 16 (-1 : Int32)) 0 15 9 (nI 3)) 0 15 11 (nI a)) 0 15 12 (nI 2)) 0 15 9)) dX9_run_229 fl_9_41 (hG.m0 (by decide)) rfl ?_
  refine am_top (show (am_up (am_up (am_up (am_up (am_up (am_up (am_up (am_up I 0 15 8 (nI i)) 0 15 9 (nI 0)) 0 15 10 (nI 0)) 0 15 13 (-1 : Int32)) 0 15 16 (-1 : Int32)) 0 15 9 (nI 3)) 0 15 11 (nI a)) 0 15 12 (nI 2)) 0 15 9 = nI 3 from (by simp [am_up, am_upf, upd, hkd, hp, ha])) ?_
  refine am_if_ne (tgt := 249) dX9_run_232 (by decide) (fun _ => ?_) (fun h => absurd h (by decide))
  refine am_aload_n dX9_run_249 rfl ?_
  refine am_get (v := .inl ((am_up (am_up (am_up (am_up (am_up (am_up (am_up (am_up I 0 15 8 (nI i)) 0 15 9 (nI 0)) 0 15 10 (nI 0)) 0 15 13 (-1 : Int32)) 0 15 16 (-1 : Int32)) 0 15 9 (nI 3)) 0 15 11 (nI a)) 0 15 12 (nI 2)) 0 15 9)) dX9_run_250 fl_9_41 (hG.m0 (by decide)) rfl ?_
  refine am_top (show (am_up (am_up (am_up (am_up (am_up (am_up (am_up (am_up I 0 15 8 (nI i)) 0 15 9 (nI 0)) 0 15 10 (nI 0)) 0 15 13 (-1 : Int32)) 0 15 16 (-1 : Int32)) 0 15 9 (nI 3)) 0 15 11 (nI a)) 0 15 12 (nI 2)) 0 15 9 = nI 3 from (by simp [am_up, am_upf, upd, hkd, hp, ha])) ?_
  refine am_if_ne (tgt := 261) dX9_run_253 (by decide) (fun _ => ?_) (fun h => absurd h (by decide))
  refine am_vret dX9_run_261 rfl ?_
  exact ⟨rfl, rfl⟩
theorem c_run8 {G : am_G} (hG : am_ok G) {d : Nat} {i a : Nat} (hi : i < G.2.2.2.1) (hab : a < 128) (I : am_I)  (hkd : I i 55 0 = nI 8) (hp : I i 52 a = nI 0) (ha : I i 55 1 = nI a) : am_C G (d + 3) mX9_run [.inr (0, 15), .inr (i, 40)] I (am_E none (am_up (am_up (am_up (am_up (am_up (am_up (am_up (am_up I 0 15 8 (nI i)) 0 15 9 (nI 0)) 0 15 10 (nI 0)) 0 15 13 (-1 : Int32)) 0 15 16 (-1 : Int32)) 0 15 9 (nI 3)) 0 15 11 (nI a)) 0 15 12 (nI 1))) := by
  have hn4 := hG.hi
  refine am_of (by decide +kernel) hG.nd (Nat.le_of_ble_eq_true rfl) ?_
  refine am_aload_n dX9_run_0 rfl ?_
  refine am_get (v := .inr (i, 55)) dX9_run_1 fl_9_35 (hG.mn hi (by decide) (by decide)) rfl ?_
  refine am_astore_n dX9_run_4 (by decide) ?_
  refine am_aload_n dX9_run_5 rfl ?_
  refine am_aload_n dX9_run_6 rfl ?_
  refine am_putN dX9_run_7 fp_9_31 (hG.m0 (by decide)) (by omega) ?_
  refine am_aload_n dX9_run_10 rfl ?_
  refine am_iconst (v := nI 0) dX9_run_11 (by decide) ?_
  refine am_put (x := nI 0) dX9_run_12 fp_9_41 (hG.m0 (by decide)) (Nat.le_of_ble_eq_true rfl) rfl ?_
  refine am_aload_n dX9_run_15 rfl ?_
  refine am_iconst (v := nI 0) dX9_run_16 (by decide) ?_
  refine am_put (x := nI 0) dX9_run_17 fp_9_45 (hG.m0 (by decide)) (Nat.le_of_ble_eq_true rfl) rfl ?_
  refine am_aload_n dX9_run_20 rfl ?_
  refine am_iconst (v := (-1 : Int32)) dX9_run_21 (by decide) ?_
  refine am_put (x := (-1 : Int32)) dX9_run_22 fp_9_48 (hG.m0 (by decide)) (Nat.le_of_ble_eq_true rfl) rfl ?_
  refine am_aload_n dX9_run_25 rfl ?_
  refine am_iconst (v := (-1 : Int32)) dX9_run_26 (by decide) ?_
  refine am_put (x := (-1 : Int32)) dX9_run_27 fp_9_51 (hG.m0 (by decide)) (Nat.le_of_ble_eq_true rfl) rfl ?_
  refine am_aload_n dX9_run_30 rfl ?_
  refine am_get (v := .inl ((am_up (am_up (am_up (am_up (am_up I 0 15 8 (nI i)) 0 15 9 (nI 0)) 0 15 10 (nI 0)) 0 15 13 (-1 : Int32)) 0 15 16 (-1 : Int32)) i 55 0)) dX9_run_31 fl_9_54 (hG.mn hi (by decide) (by decide)) rfl ?_
  refine am_top (show (am_up (am_up (am_up (am_up (am_up I 0 15 8 (nI i)) 0 15 9 (nI 0)) 0 15 10 (nI 0)) 0 15 13 (-1 : Int32)) 0 15 16 (-1 : Int32)) i 55 0 = nI 8 from (by simp [am_up, am_upf, upd, hkd, hp, ha])) ?_
  refine am_tabIn (off := 138) (tgt := 172) dX9_run_34 (by decide) (by decide) rfl (by decide) ?_
  refine am_aload_n dX9_run_172 rfl ?_
  refine am_aload_n dX9_run_173 rfl ?_
  refine am_callVe (i := 0) (j := 15) (as := [.inr (i, 55)]) (rest := []) dX9_run_174 lkX9_entry ml_X9_84 imX9_entry seX9_entry rfl rfl (hG.m0 (by decide)) rfl (Nat.le_of_ble_eq_true rfl) rfl (c_entryNo hG hi (by omega) (am_up (am_up (am_up (am_up (am_up I 0 15 8 (nI i)) 0 15 9 (nI 0)) 0 15 10 (nI 0)) 0 15 13 (-1 : Int32)) 0 15 16 (-1 : Int32)) (by simp [am_up, am_upf, upd, hkd, hp, ha]) (by simp [am_up, am_upf, upd, hkd, hp, ha]) (by simp [am_up, am_upf, upd, hkd, hp, ha])) ?_
  refine am_goto (tgt := 203) dX9_run_177 (by decide) ?_
  refine am_aload_n dX9_run_203 rfl ?_
  refine am_get (v := .inl ((am_up (am_up (am_up (am_up (am_up (am_up (am_up (am_up I 0 15 8 (nI i)) 0 15 9 (nI 0)) 0 15 10 (nI 0)) 0 15 13 (-1 : Int32)) 0 15 16 (-1 : Int32)) 0 15 9 (nI 3)) 0 15 11 (nI a)) 0 15 12 (nI 1)) 0 15 9)) dX9_run_204 fl_9_41 (hG.m0 (by decide)) rfl ?_
  refine am_top (show (am_up (am_up (am_up (am_up (am_up (am_up (am_up (am_up I 0 15 8 (nI i)) 0 15 9 (nI 0)) 0 15 10 (nI 0)) 0 15 13 (-1 : Int32)) 0 15 16 (-1 : Int32)) 0 15 9 (nI 3)) 0 15 11 (nI a)) 0 15 12 (nI 1)) 0 15 9 = nI 3 from (by simp [am_up, am_upf, upd, hkd, hp, ha])) ?_
  refine am_if_ne (tgt := 228) dX9_run_207 (by decide) (fun _ => ?_) (fun h => absurd h (by decide))
  refine am_aload_n dX9_run_228 rfl ?_
  refine am_get (v := .inl ((am_up (am_up (am_up (am_up (am_up (am_up (am_up (am_up I 0 15 8 (nI i)) 0 15 9 (nI 0)) 0 15 10 (nI 0)) 0 15 13 (-1 : Int32)) 0 15 16 (-1 : Int32)) 0 15 9 (nI 3)) 0 15 11 (nI a)) 0 15 12 (nI 1)) 0 15 9)) dX9_run_229 fl_9_41 (hG.m0 (by decide)) rfl ?_
  refine am_top (show (am_up (am_up (am_up (am_up (am_up (am_up (am_up (am_up I 0 15 8 (nI i)) 0 15 9 (nI 0)) 0 15 10 (nI 0)) 0 15 13 (-1 : Int32)) 0 15 16 (-1 : Int32)) 0 15 9 (nI 3)) 0 15 11 (nI a)) 0 15 12 (nI 1)) 0 15 9 = nI 3 from (by simp [am_up, am_upf, upd, hkd, hp, ha])) ?_
  refine am_if_ne (tgt := 249) dX9_run_232 (by decide) (fun _ => ?_) (fun h => absurd h (by decide))
  refine am_aload_n dX9_run_249 rfl ?_
  refine am_get (v := .inl ((am_up (am_up (am_up (am_up (am_up (am_up (am_up (am_up I 0 15 8 (nI i)) 0 15 9 (nI 0)) 0 15 10 (nI 0)) 0 15 13 (-1 : Int32)) 0 15 16 (-1 : Int32)) 0 15 9 (nI 3)) 0 15 11 (nI a)) 0 15 12 (nI 1)) 0 15 9)) dX9_run_250 fl_9_41 (hG.m0 (by decide)) rfl ?_
  refine am_top (show (am_up (am_up (am_up (am_up (am_up (am_up (am_up (am_up I 0 15 8 (nI i)) 0 15 9 (nI 0)) 0 15 10 (nI 0)) 0 15 13 (-1 : Int32)) 0 15 16 (-1 : Int32)) 0 15 9 (nI 3)) 0 15 11 (nI a)) 0 15 12 (nI 1)) 0 15 9 = nI 3 from (by simp [am_up, am_upf, upd, hkd, hp, ha])) ?_
  refine am_if_ne (tgt := 261) dX9_run_253 (by decide) (fun _ => ?_) (fun h => absurd h (by decide))
  refine am_vret dX9_run_261 rfl ?_
  exact ⟨rfl, rfl⟩
theorem c_run9 {G : am_G} (hG : am_ok G) {d : Nat} {i a : Nat} (hi : i < G.2.2.2.1) (hab : a < 128) (I : am_I)  (hkd : I i 55 0 = nI 9) (hp : I i 52 a = nI 0) (ha : I i 55 1 = nI a) : am_C G (d + 3) mX9_run [.inr (0, 15), .inr (i, 40)] I (am_E none (am_up (am_up (am_up (am_up (am_up (am_up (am_up (am_up I 0 15 8 (nI i)) 0 15 9 (nI 0)) 0 15 10 (nI 0)) 0 15 13 (-1 : Int32)) 0 15 16 (-1 : Int32)) 0 15 9 (nI 3)) 0 15 11 (nI a)) 0 15 12 (nI 1))) := by
  have hn4 := hG.hi
  refine am_of (by decide +kernel) hG.nd (Nat.le_of_ble_eq_true rfl) ?_
  refine am_aload_n dX9_run_0 rfl ?_
  refine am_get (v := .inr (i, 55)) dX9_run_1 fl_9_35 (hG.mn hi (by decide) (by decide)) rfl ?_
  refine am_astore_n dX9_run_4 (by decide) ?_
  refine am_aload_n dX9_run_5 rfl ?_
  refine am_aload_n dX9_run_6 rfl ?_
  refine am_putN dX9_run_7 fp_9_31 (hG.m0 (by decide)) (by omega) ?_
  refine am_aload_n dX9_run_10 rfl ?_
  refine am_iconst (v := nI 0) dX9_run_11 (by decide) ?_
  refine am_put (x := nI 0) dX9_run_12 fp_9_41 (hG.m0 (by decide)) (Nat.le_of_ble_eq_true rfl) rfl ?_
  refine am_aload_n dX9_run_15 rfl ?_
  refine am_iconst (v := nI 0) dX9_run_16 (by decide) ?_
  refine am_put (x := nI 0) dX9_run_17 fp_9_45 (hG.m0 (by decide)) (Nat.le_of_ble_eq_true rfl) rfl ?_
  refine am_aload_n dX9_run_20 rfl ?_
  refine am_iconst (v := (-1 : Int32)) dX9_run_21 (by decide) ?_
  refine am_put (x := (-1 : Int32)) dX9_run_22 fp_9_48 (hG.m0 (by decide)) (Nat.le_of_ble_eq_true rfl) rfl ?_
  refine am_aload_n dX9_run_25 rfl ?_
  refine am_iconst (v := (-1 : Int32)) dX9_run_26 (by decide) ?_
  refine am_put (x := (-1 : Int32)) dX9_run_27 fp_9_51 (hG.m0 (by decide)) (Nat.le_of_ble_eq_true rfl) rfl ?_
  refine am_aload_n dX9_run_30 rfl ?_
  refine am_get (v := .inl ((am_up (am_up (am_up (am_up (am_up I 0 15 8 (nI i)) 0 15 9 (nI 0)) 0 15 10 (nI 0)) 0 15 13 (-1 : Int32)) 0 15 16 (-1 : Int32)) i 55 0)) dX9_run_31 fl_9_54 (hG.mn hi (by decide) (by decide)) rfl ?_
  refine am_top (show (am_up (am_up (am_up (am_up (am_up I 0 15 8 (nI i)) 0 15 9 (nI 0)) 0 15 10 (nI 0)) 0 15 13 (-1 : Int32)) 0 15 16 (-1 : Int32)) i 55 0 = nI 9 from (by simp [am_up, am_upf, upd, hkd, hp, ha])) ?_
  refine am_tabIn (off := 146) (tgt := 180) dX9_run_34 (by decide) (by decide) rfl (by decide) ?_
  refine am_aload_n dX9_run_180 rfl ?_
  refine am_aload_n dX9_run_181 rfl ?_
  refine am_callVe (i := 0) (j := 15) (as := [.inr (i, 55)]) (rest := []) dX9_run_182 lkX9_stat ml_X9_87 imX9_stat seX9_stat rfl rfl (hG.m0 (by decide)) rfl (Nat.le_of_ble_eq_true rfl) rfl (c_statNo hG hi (by omega) (am_up (am_up (am_up (am_up (am_up I 0 15 8 (nI i)) 0 15 9 (nI 0)) 0 15 10 (nI 0)) 0 15 13 (-1 : Int32)) 0 15 16 (-1 : Int32)) (by simp [am_up, am_upf, upd, hkd, hp, ha]) (by simp [am_up, am_upf, upd, hkd, hp, ha]) (by simp [am_up, am_upf, upd, hkd, hp, ha])) ?_
  refine am_goto (tgt := 203) dX9_run_185 (by decide) ?_
  refine am_aload_n dX9_run_203 rfl ?_
  refine am_get (v := .inl ((am_up (am_up (am_up (am_up (am_up (am_up (am_up (am_up I 0 15 8 (nI i)) 0 15 9 (nI 0)) 0 15 10 (nI 0)) 0 15 13 (-1 : Int32)) 0 15 16 (-1 : Int32)) 0 15 9 (nI 3)) 0 15 11 (nI a)) 0 15 12 (nI 1)) 0 15 9)) dX9_run_204 fl_9_41 (hG.m0 (by decide)) rfl ?_
  refine am_top (show (am_up (am_up (am_up (am_up (am_up (am_up (am_up (am_up I 0 15 8 (nI i)) 0 15 9 (nI 0)) 0 15 10 (nI 0)) 0 15 13 (-1 : Int32)) 0 15 16 (-1 : Int32)) 0 15 9 (nI 3)) 0 15 11 (nI a)) 0 15 12 (nI 1)) 0 15 9 = nI 3 from (by simp [am_up, am_upf, upd, hkd, hp, ha])) ?_
  refine am_if_ne (tgt := 228) dX9_run_207 (by decide) (fun _ => ?_) (fun h => absurd h (by decide))
  refine am_aload_n dX9_run_228 rfl ?_
  refine am_get (v := .inl ((am_up (am_up (am_up (am_up (am_up (am_up (am_up (am_up I 0 15 8 (nI i)) 0 15 9 (nI 0)) 0 15 10 (nI 0)) 0 15 13 (-1 : Int32)) 0 15 16 (-1 : Int32)) 0 15 9 (nI 3)) 0 15 11 (nI a)) 0 15 12 (nI 1)) 0 15 9)) dX9_run_229 fl_9_41 (hG.m0 (by decide)) rfl ?_
  refine am_top (show (am_up (am_up (am_up (am_up (am_up (am_up (am_up (am_up I 0 15 8 (nI i)) 0 15 9 (nI 0)) 0 15 10 (nI 0)) 0 15 13 (-1 : Int32)) 0 15 16 (-1 : Int32)) 0 15 9 (nI 3)) 0 15 11 (nI a)) 0 15 12 (nI 1)) 0 15 9 = nI 3 from (by simp [am_up, am_upf, upd, hkd, hp, ha])) ?_
  refine am_if_ne (tgt := 249) dX9_run_232 (by decide) (fun _ => ?_) (fun h => absurd h (by decide))
  refine am_aload_n dX9_run_249 rfl ?_
  refine am_get (v := .inl ((am_up (am_up (am_up (am_up (am_up (am_up (am_up (am_up I 0 15 8 (nI i)) 0 15 9 (nI 0)) 0 15 10 (nI 0)) 0 15 13 (-1 : Int32)) 0 15 16 (-1 : Int32)) 0 15 9 (nI 3)) 0 15 11 (nI a)) 0 15 12 (nI 1)) 0 15 9)) dX9_run_250 fl_9_41 (hG.m0 (by decide)) rfl ?_
  refine am_top (show (am_up (am_up (am_up (am_up (am_up (am_up (am_up (am_up I 0 15 8 (nI i)) 0 15 9 (nI 0)) 0 15 10 (nI 0)) 0 15 13 (-1 : Int32)) 0 15 16 (-1 : Int32)) 0 15 9 (nI 3)) 0 15 11 (nI a)) 0 15 12 (nI 1)) 0 15 9 = nI 3 from (by simp [am_up, am_upf, upd, hkd, hp, ha])) ?_
  refine am_if_ne (tgt := 261) dX9_run_253 (by decide) (fun _ => ?_) (fun h => absurd h (by decide))
  refine am_vret dX9_run_261 rfl ?_
  exact ⟨rfl, rfl⟩
theorem c_run10 {G : am_G} (hG : am_ok G) {d : Nat} {i : Nat} (hi : i < G.2.2.2.1) (I : am_I)  (hkd : I i 55 0 = nI 10) : am_C G (d + 3) mX9_run [.inr (0, 15), .inr (i, 40)] I (am_E none (am_up (am_up (am_up (am_up (am_up (am_up I 0 15 8 (nI i)) 0 15 9 (nI 0)) 0 15 10 (nI 0)) 0 15 13 (-1 : Int32)) 0 15 16 (-1 : Int32)) 0 15 9 (nI 1))) := by
  have hn4 := hG.hi
  refine am_of (by decide +kernel) hG.nd (Nat.le_of_ble_eq_true rfl) ?_
  refine am_aload_n dX9_run_0 rfl ?_
  refine am_get (v := .inr (i, 55)) dX9_run_1 fl_9_35 (hG.mn hi (by decide) (by decide)) rfl ?_
  refine am_astore_n dX9_run_4 (by decide) ?_
  refine am_aload_n dX9_run_5 rfl ?_
  refine am_aload_n dX9_run_6 rfl ?_
  refine am_putN dX9_run_7 fp_9_31 (hG.m0 (by decide)) (by omega) ?_
  refine am_aload_n dX9_run_10 rfl ?_
  refine am_iconst (v := nI 0) dX9_run_11 (by decide) ?_
  refine am_put (x := nI 0) dX9_run_12 fp_9_41 (hG.m0 (by decide)) (Nat.le_of_ble_eq_true rfl) rfl ?_
  refine am_aload_n dX9_run_15 rfl ?_
  refine am_iconst (v := nI 0) dX9_run_16 (by decide) ?_
  refine am_put (x := nI 0) dX9_run_17 fp_9_45 (hG.m0 (by decide)) (Nat.le_of_ble_eq_true rfl) rfl ?_
  refine am_aload_n dX9_run_20 rfl ?_
  refine am_iconst (v := (-1 : Int32)) dX9_run_21 (by decide) ?_
  refine am_put (x := (-1 : Int32)) dX9_run_22 fp_9_48 (hG.m0 (by decide)) (Nat.le_of_ble_eq_true rfl) rfl ?_
  refine am_aload_n dX9_run_25 rfl ?_
  refine am_iconst (v := (-1 : Int32)) dX9_run_26 (by decide) ?_
  refine am_put (x := (-1 : Int32)) dX9_run_27 fp_9_51 (hG.m0 (by decide)) (Nat.le_of_ble_eq_true rfl) rfl ?_
  refine am_aload_n dX9_run_30 rfl ?_
  refine am_get (v := .inl ((am_up (am_up (am_up (am_up (am_up I 0 15 8 (nI i)) 0 15 9 (nI 0)) 0 15 10 (nI 0)) 0 15 13 (-1 : Int32)) 0 15 16 (-1 : Int32)) i 55 0)) dX9_run_31 fl_9_54 (hG.mn hi (by decide) (by decide)) rfl ?_
  refine am_top (show (am_up (am_up (am_up (am_up (am_up I 0 15 8 (nI i)) 0 15 9 (nI 0)) 0 15 10 (nI 0)) 0 15 13 (-1 : Int32)) 0 15 16 (-1 : Int32)) i 55 0 = nI 10 from (by simp [am_up, am_upf, upd, hkd])) ?_
  refine am_tabIn (off := 169) (tgt := 203) dX9_run_34 (by decide) (by decide) rfl (by decide) ?_
  refine am_aload_n dX9_run_203 rfl ?_
  refine am_get (v := .inl ((am_up (am_up (am_up (am_up (am_up I 0 15 8 (nI i)) 0 15 9 (nI 0)) 0 15 10 (nI 0)) 0 15 13 (-1 : Int32)) 0 15 16 (-1 : Int32)) 0 15 9)) dX9_run_204 fl_9_41 (hG.m0 (by decide)) rfl ?_
  refine am_top (show (am_up (am_up (am_up (am_up (am_up I 0 15 8 (nI i)) 0 15 9 (nI 0)) 0 15 10 (nI 0)) 0 15 13 (-1 : Int32)) 0 15 16 (-1 : Int32)) 0 15 9 = nI 0 from (by simp [am_up, am_upf, upd, hkd])) ?_
  refine am_if_ne (tgt := 228) dX9_run_207 (by decide) (fun h => absurd h (by decide)) (fun _ => ?_)
  refine am_aload_n dX9_run_210 rfl ?_
  refine am_get (v := .inl ((am_up (am_up (am_up (am_up (am_up I 0 15 8 (nI i)) 0 15 9 (nI 0)) 0 15 10 (nI 0)) 0 15 13 (-1 : Int32)) 0 15 16 (-1 : Int32)) 0 15 16)) dX9_run_211 fl_9_51 (hG.m0 (by decide)) rfl ?_
  refine am_top (show (am_up (am_up (am_up (am_up (am_up I 0 15 8 (nI i)) 0 15 9 (nI 0)) 0 15 10 (nI 0)) 0 15 13 (-1 : Int32)) 0 15 16 (-1 : Int32)) 0 15 16 = (-1 : Int32) from (by simp [am_up, am_upf, upd, hkd])) ?_
  refine am_callSNx (as := [.inl (-1 : Int32)]) (rest := []) dX9_run_214 lkX10_isInode nl_X9_96 isX10_isInode rfl (Nat.le_of_ble_eq_true rfl) rfl (c_isInode hG.nd (-1 : Int32) (am_up (am_up (am_up (am_up (am_up I 0 15 8 (nI i)) 0 15 9 (nI 0)) 0 15 10 (nI 0)) 0 15 13 (-1 : Int32)) 0 15 16 (-1 : Int32))) ?_
  refine am_top (show am_b (decide (0 ≤ (-1 : Int32).toInt ∧ (-1 : Int32).toInt < 128)) = nI 0 by decide) ?_
  refine am_if_eq (tgt := 228) dX9_run_217 (by decide) (fun _ => ?_) (fun h => absurd h (by decide))
  refine am_aload_n dX9_run_228 rfl ?_
  refine am_get (v := .inl ((am_up (am_up (am_up (am_up (am_up I 0 15 8 (nI i)) 0 15 9 (nI 0)) 0 15 10 (nI 0)) 0 15 13 (-1 : Int32)) 0 15 16 (-1 : Int32)) 0 15 9)) dX9_run_229 fl_9_41 (hG.m0 (by decide)) rfl ?_
  refine am_top (show (am_up (am_up (am_up (am_up (am_up I 0 15 8 (nI i)) 0 15 9 (nI 0)) 0 15 10 (nI 0)) 0 15 13 (-1 : Int32)) 0 15 16 (-1 : Int32)) 0 15 9 = nI 0 from (by simp [am_up, am_upf, upd, hkd])) ?_
  refine am_if_ne (tgt := 249) dX9_run_232 (by decide) (fun h => absurd h (by decide)) (fun _ => ?_)
  refine am_aload_n dX9_run_235 rfl ?_
  refine am_get (v := .inl ((am_up (am_up (am_up (am_up (am_up I 0 15 8 (nI i)) 0 15 9 (nI 0)) 0 15 10 (nI 0)) 0 15 13 (-1 : Int32)) 0 15 16 (-1 : Int32)) 0 15 13)) dX9_run_236 fl_9_48 (hG.m0 (by decide)) rfl ?_
  refine am_top (show (am_up (am_up (am_up (am_up (am_up I 0 15 8 (nI i)) 0 15 9 (nI 0)) 0 15 10 (nI 0)) 0 15 13 (-1 : Int32)) 0 15 16 (-1 : Int32)) 0 15 13 = (-1 : Int32) from (by simp [am_up, am_upf, upd, hkd])) ?_
  refine am_callSNx (as := [.inl (-1 : Int32)]) (rest := []) dX9_run_239 lkX10_isInode nl_X9_96 isX10_isInode rfl (Nat.le_of_ble_eq_true rfl) rfl (c_isInode hG.nd (-1 : Int32) (am_up (am_up (am_up (am_up (am_up I 0 15 8 (nI i)) 0 15 9 (nI 0)) 0 15 10 (nI 0)) 0 15 13 (-1 : Int32)) 0 15 16 (-1 : Int32))) ?_
  refine am_top (show am_b (decide (0 ≤ (-1 : Int32).toInt ∧ (-1 : Int32).toInt < 128)) = nI 0 by decide) ?_
  refine am_if_eq (tgt := 249) dX9_run_242 (by decide) (fun _ => ?_) (fun h => absurd h (by decide))
  refine am_aload_n dX9_run_249 rfl ?_
  refine am_get (v := .inl ((am_up (am_up (am_up (am_up (am_up I 0 15 8 (nI i)) 0 15 9 (nI 0)) 0 15 10 (nI 0)) 0 15 13 (-1 : Int32)) 0 15 16 (-1 : Int32)) 0 15 9)) dX9_run_250 fl_9_41 (hG.m0 (by decide)) rfl ?_
  refine am_top (show (am_up (am_up (am_up (am_up (am_up I 0 15 8 (nI i)) 0 15 9 (nI 0)) 0 15 10 (nI 0)) 0 15 13 (-1 : Int32)) 0 15 16 (-1 : Int32)) 0 15 9 = nI 0 from (by simp [am_up, am_upf, upd, hkd])) ?_
  refine am_if_ne (tgt := 261) dX9_run_253 (by decide) (fun h => absurd h (by decide)) (fun _ => ?_)
  refine am_aload_n dX9_run_256 rfl ?_
  refine am_iconst (v := nI 1) dX9_run_257 (by decide) ?_
  refine am_put (x := nI 1) dX9_run_258 fp_9_41 (hG.m0 (by decide)) (Nat.le_of_ble_eq_true rfl) rfl ?_
  refine am_vret dX9_run_261 rfl ?_
  exact ⟨rfl, rfl⟩
theorem c_run11 {G : am_G} (hG : am_ok G) {d : Nat} {i a : Nat} (hi : i < G.2.2.2.1) (hab : a < 128) (I : am_I)  (hkd : I i 55 0 = nI 11) (hp : I i 52 a = nI 0) (ha : I i 55 1 = nI a) : am_C G (d + 3) mX9_run [.inr (0, 15), .inr (i, 40)] I (am_E none (am_up (am_up (am_up (am_up (am_up (am_up (am_up (am_up I 0 15 8 (nI i)) 0 15 9 (nI 0)) 0 15 10 (nI 0)) 0 15 13 (-1 : Int32)) 0 15 16 (-1 : Int32)) 0 15 9 (nI 3)) 0 15 11 (nI a)) 0 15 12 (nI 2))) := by
  have hn4 := hG.hi
  refine am_of (by decide +kernel) hG.nd (Nat.le_of_ble_eq_true rfl) ?_
  refine am_aload_n dX9_run_0 rfl ?_
  refine am_get (v := .inr (i, 55)) dX9_run_1 fl_9_35 (hG.mn hi (by decide) (by decide)) rfl ?_
  refine am_astore_n dX9_run_4 (by decide) ?_
  refine am_aload_n dX9_run_5 rfl ?_
  refine am_aload_n dX9_run_6 rfl ?_
  refine am_putN dX9_run_7 fp_9_31 (hG.m0 (by decide)) (by omega) ?_
  refine am_aload_n dX9_run_10 rfl ?_
  refine am_iconst (v := nI 0) dX9_run_11 (by decide) ?_
  refine am_put (x := nI 0) dX9_run_12 fp_9_41 (hG.m0 (by decide)) (Nat.le_of_ble_eq_true rfl) rfl ?_
  refine am_aload_n dX9_run_15 rfl ?_
  refine am_iconst (v := nI 0) dX9_run_16 (by decide) ?_
  refine am_put (x := nI 0) dX9_run_17 fp_9_45 (hG.m0 (by decide)) (Nat.le_of_ble_eq_true rfl) rfl ?_
  refine am_aload_n dX9_run_20 rfl ?_
  refine am_iconst (v := (-1 : Int32)) dX9_run_21 (by decide) ?_
  refine am_put (x := (-1 : Int32)) dX9_run_22 fp_9_48 (hG.m0 (by decide)) (Nat.le_of_ble_eq_true rfl) rfl ?_
  refine am_aload_n dX9_run_25 rfl ?_
  refine am_iconst (v := (-1 : Int32)) dX9_run_26 (by decide) ?_
  refine am_put (x := (-1 : Int32)) dX9_run_27 fp_9_51 (hG.m0 (by decide)) (Nat.le_of_ble_eq_true rfl) rfl ?_
  refine am_aload_n dX9_run_30 rfl ?_
  refine am_get (v := .inl ((am_up (am_up (am_up (am_up (am_up I 0 15 8 (nI i)) 0 15 9 (nI 0)) 0 15 10 (nI 0)) 0 15 13 (-1 : Int32)) 0 15 16 (-1 : Int32)) i 55 0)) dX9_run_31 fl_9_54 (hG.mn hi (by decide) (by decide)) rfl ?_
  refine am_top (show (am_up (am_up (am_up (am_up (am_up I 0 15 8 (nI i)) 0 15 9 (nI 0)) 0 15 10 (nI 0)) 0 15 13 (-1 : Int32)) 0 15 16 (-1 : Int32)) i 55 0 = nI 11 from (by simp [am_up, am_upf, upd, hkd, hp, ha])) ?_
  refine am_tabIn (off := 122) (tgt := 156) dX9_run_34 (by decide) (by decide) rfl (by decide) ?_
  refine am_aload_n dX9_run_156 rfl ?_
  refine am_aload_n dX9_run_157 rfl ?_
  refine am_callVe (i := 0) (j := 15) (as := [.inr (i, 55)]) (rest := []) dX9_run_158 lkX9_writeWord ml_X9_78 imX9_writeWord seX9_writeWord rfl rfl (hG.m0 (by decide)) rfl (Nat.le_of_ble_eq_true rfl) rfl (c_writeWordNo hG hi (by omega) (am_up (am_up (am_up (am_up (am_up I 0 15 8 (nI i)) 0 15 9 (nI 0)) 0 15 10 (nI 0)) 0 15 13 (-1 : Int32)) 0 15 16 (-1 : Int32)) (by simp [am_up, am_upf, upd, hkd, hp, ha]) (by simp [am_up, am_upf, upd, hkd, hp, ha]) (by simp [am_up, am_upf, upd, hkd, hp, ha])) ?_
  refine am_goto (tgt := 203) dX9_run_161 (by decide) ?_
  refine am_aload_n dX9_run_203 rfl ?_
  refine am_get (v := .inl ((am_up (am_up (am_up (am_up (am_up (am_up (am_up (am_up I 0 15 8 (nI i)) 0 15 9 (nI 0)) 0 15 10 (nI 0)) 0 15 13 (-1 : Int32)) 0 15 16 (-1 : Int32)) 0 15 9 (nI 3)) 0 15 11 (nI a)) 0 15 12 (nI 2)) 0 15 9)) dX9_run_204 fl_9_41 (hG.m0 (by decide)) rfl ?_
  refine am_top (show (am_up (am_up (am_up (am_up (am_up (am_up (am_up (am_up I 0 15 8 (nI i)) 0 15 9 (nI 0)) 0 15 10 (nI 0)) 0 15 13 (-1 : Int32)) 0 15 16 (-1 : Int32)) 0 15 9 (nI 3)) 0 15 11 (nI a)) 0 15 12 (nI 2)) 0 15 9 = nI 3 from (by simp [am_up, am_upf, upd, hkd, hp, ha])) ?_
  refine am_if_ne (tgt := 228) dX9_run_207 (by decide) (fun _ => ?_) (fun h => absurd h (by decide))
  refine am_aload_n dX9_run_228 rfl ?_
  refine am_get (v := .inl ((am_up (am_up (am_up (am_up (am_up (am_up (am_up (am_up I 0 15 8 (nI i)) 0 15 9 (nI 0)) 0 15 10 (nI 0)) 0 15 13 (-1 : Int32)) 0 15 16 (-1 : Int32)) 0 15 9 (nI 3)) 0 15 11 (nI a)) 0 15 12 (nI 2)) 0 15 9)) dX9_run_229 fl_9_41 (hG.m0 (by decide)) rfl ?_
  refine am_top (show (am_up (am_up (am_up (am_up (am_up (am_up (am_up (am_up I 0 15 8 (nI i)) 0 15 9 (nI 0)) 0 15 10 (nI 0)) 0 15 13 (-1 : Int32)) 0 15 16 (-1 : Int32)) 0 15 9 (nI 3)) 0 15 11 (nI a)) 0 15 12 (nI 2)) 0 15 9 = nI 3 from (by simp [am_up, am_upf, upd, hkd, hp, ha])) ?_
  refine am_if_ne (tgt := 249) dX9_run_232 (by decide) (fun _ => ?_) (fun h => absurd h (by decide))
  refine am_aload_n dX9_run_249 rfl ?_
  refine am_get (v := .inl ((am_up (am_up (am_up (am_up (am_up (am_up (am_up (am_up I 0 15 8 (nI i)) 0 15 9 (nI 0)) 0 15 10 (nI 0)) 0 15 13 (-1 : Int32)) 0 15 16 (-1 : Int32)) 0 15 9 (nI 3)) 0 15 11 (nI a)) 0 15 12 (nI 2)) 0 15 9)) dX9_run_250 fl_9_41 (hG.m0 (by decide)) rfl ?_
  refine am_top (show (am_up (am_up (am_up (am_up (am_up (am_up (am_up (am_up I 0 15 8 (nI i)) 0 15 9 (nI 0)) 0 15 10 (nI 0)) 0 15 13 (-1 : Int32)) 0 15 16 (-1 : Int32)) 0 15 9 (nI 3)) 0 15 11 (nI a)) 0 15 12 (nI 2)) 0 15 9 = nI 3 from (by simp [am_up, am_upf, upd, hkd, hp, ha])) ?_
  refine am_if_ne (tgt := 261) dX9_run_253 (by decide) (fun _ => ?_) (fun h => absurd h (by decide))
  refine am_vret dX9_run_261 rfl ?_
  exact ⟨rfl, rfl⟩
theorem c_run12 {G : am_G} (hG : am_ok G) {d : Nat} {i a : Nat} (hi : i < G.2.2.2.1) (hab : a < 128) (I : am_I)  (hkd : I i 55 0 = nI 12) (hp : I i 52 a = nI 0) (ha : I i 55 1 = nI a) : am_C G (d + 3) mX9_run [.inr (0, 15), .inr (i, 40)] I (am_E none (am_up (am_up (am_up (am_up (am_up (am_up (am_up (am_up I 0 15 8 (nI i)) 0 15 9 (nI 0)) 0 15 10 (nI 0)) 0 15 13 (-1 : Int32)) 0 15 16 (-1 : Int32)) 0 15 9 (nI 3)) 0 15 11 (nI a)) 0 15 12 (nI 2))) := by
  have hn4 := hG.hi
  refine am_of (by decide +kernel) hG.nd (Nat.le_of_ble_eq_true rfl) ?_
  refine am_aload_n dX9_run_0 rfl ?_
  refine am_get (v := .inr (i, 55)) dX9_run_1 fl_9_35 (hG.mn hi (by decide) (by decide)) rfl ?_
  refine am_astore_n dX9_run_4 (by decide) ?_
  refine am_aload_n dX9_run_5 rfl ?_
  refine am_aload_n dX9_run_6 rfl ?_
  refine am_putN dX9_run_7 fp_9_31 (hG.m0 (by decide)) (by omega) ?_
  refine am_aload_n dX9_run_10 rfl ?_
  refine am_iconst (v := nI 0) dX9_run_11 (by decide) ?_
  refine am_put (x := nI 0) dX9_run_12 fp_9_41 (hG.m0 (by decide)) (Nat.le_of_ble_eq_true rfl) rfl ?_
  refine am_aload_n dX9_run_15 rfl ?_
  refine am_iconst (v := nI 0) dX9_run_16 (by decide) ?_
  refine am_put (x := nI 0) dX9_run_17 fp_9_45 (hG.m0 (by decide)) (Nat.le_of_ble_eq_true rfl) rfl ?_
  refine am_aload_n dX9_run_20 rfl ?_
  refine am_iconst (v := (-1 : Int32)) dX9_run_21 (by decide) ?_
  refine am_put (x := (-1 : Int32)) dX9_run_22 fp_9_48 (hG.m0 (by decide)) (Nat.le_of_ble_eq_true rfl) rfl ?_
  refine am_aload_n dX9_run_25 rfl ?_
  refine am_iconst (v := (-1 : Int32)) dX9_run_26 (by decide) ?_
  refine am_put (x := (-1 : Int32)) dX9_run_27 fp_9_51 (hG.m0 (by decide)) (Nat.le_of_ble_eq_true rfl) rfl ?_
  refine am_aload_n dX9_run_30 rfl ?_
  refine am_get (v := .inl ((am_up (am_up (am_up (am_up (am_up I 0 15 8 (nI i)) 0 15 9 (nI 0)) 0 15 10 (nI 0)) 0 15 13 (-1 : Int32)) 0 15 16 (-1 : Int32)) i 55 0)) dX9_run_31 fl_9_54 (hG.mn hi (by decide) (by decide)) rfl ?_
  refine am_top (show (am_up (am_up (am_up (am_up (am_up I 0 15 8 (nI i)) 0 15 9 (nI 0)) 0 15 10 (nI 0)) 0 15 13 (-1 : Int32)) 0 15 16 (-1 : Int32)) i 55 0 = nI 12 from (by simp [am_up, am_upf, upd, hkd, hp, ha])) ?_
  refine am_tabIn (off := 122) (tgt := 156) dX9_run_34 (by decide) (by decide) rfl (by decide) ?_
  refine am_aload_n dX9_run_156 rfl ?_
  refine am_aload_n dX9_run_157 rfl ?_
  refine am_callVe (i := 0) (j := 15) (as := [.inr (i, 55)]) (rest := []) dX9_run_158 lkX9_writeWord ml_X9_78 imX9_writeWord seX9_writeWord rfl rfl (hG.m0 (by decide)) rfl (Nat.le_of_ble_eq_true rfl) rfl (c_writeWordNo hG hi (by omega) (am_up (am_up (am_up (am_up (am_up I 0 15 8 (nI i)) 0 15 9 (nI 0)) 0 15 10 (nI 0)) 0 15 13 (-1 : Int32)) 0 15 16 (-1 : Int32)) (by simp [am_up, am_upf, upd, hkd, hp, ha]) (by simp [am_up, am_upf, upd, hkd, hp, ha]) (by simp [am_up, am_upf, upd, hkd, hp, ha])) ?_
  refine am_goto (tgt := 203) dX9_run_161 (by decide) ?_
  refine am_aload_n dX9_run_203 rfl ?_
  refine am_get (v := .inl ((am_up (am_up (am_up (am_up (am_up (am_up (am_up (am_up I 0 15 8 (nI i)) 0 15 9 (nI 0)) 0 15 10 (nI 0)) 0 15 13 (-1 : Int32)) 0 15 16 (-1 : Int32)) 0 15 9 (nI 3)) 0 15 11 (nI a)) 0 15 12 (nI 2)) 0 15 9)) dX9_run_204 fl_9_41 (hG.m0 (by decide)) rfl ?_
  refine am_top (show (am_up (am_up (am_up (am_up (am_up (am_up (am_up (am_up I 0 15 8 (nI i)) 0 15 9 (nI 0)) 0 15 10 (nI 0)) 0 15 13 (-1 : Int32)) 0 15 16 (-1 : Int32)) 0 15 9 (nI 3)) 0 15 11 (nI a)) 0 15 12 (nI 2)) 0 15 9 = nI 3 from (by simp [am_up, am_upf, upd, hkd, hp, ha])) ?_
  refine am_if_ne (tgt := 228) dX9_run_207 (by decide) (fun _ => ?_) (fun h => absurd h (by decide))
  refine am_aload_n dX9_run_228 rfl ?_
  refine am_get (v := .inl ((am_up (am_up (am_up (am_up (am_up (am_up (am_up (am_up I 0 15 8 (nI i)) 0 15 9 (nI 0)) 0 15 10 (nI 0)) 0 15 13 (-1 : Int32)) 0 15 16 (-1 : Int32)) 0 15 9 (nI 3)) 0 15 11 (nI a)) 0 15 12 (nI 2)) 0 15 9)) dX9_run_229 fl_9_41 (hG.m0 (by decide)) rfl ?_
  refine am_top (show (am_up (am_up (am_up (am_up (am_up (am_up (am_up (am_up I 0 15 8 (nI i)) 0 15 9 (nI 0)) 0 15 10 (nI 0)) 0 15 13 (-1 : Int32)) 0 15 16 (-1 : Int32)) 0 15 9 (nI 3)) 0 15 11 (nI a)) 0 15 12 (nI 2)) 0 15 9 = nI 3 from (by simp [am_up, am_upf, upd, hkd, hp, ha])) ?_
  refine am_if_ne (tgt := 249) dX9_run_232 (by decide) (fun _ => ?_) (fun h => absurd h (by decide))
  refine am_aload_n dX9_run_249 rfl ?_
  refine am_get (v := .inl ((am_up (am_up (am_up (am_up (am_up (am_up (am_up (am_up I 0 15 8 (nI i)) 0 15 9 (nI 0)) 0 15 10 (nI 0)) 0 15 13 (-1 : Int32)) 0 15 16 (-1 : Int32)) 0 15 9 (nI 3)) 0 15 11 (nI a)) 0 15 12 (nI 2)) 0 15 9)) dX9_run_250 fl_9_41 (hG.m0 (by decide)) rfl ?_
  refine am_top (show (am_up (am_up (am_up (am_up (am_up (am_up (am_up (am_up I 0 15 8 (nI i)) 0 15 9 (nI 0)) 0 15 10 (nI 0)) 0 15 13 (-1 : Int32)) 0 15 16 (-1 : Int32)) 0 15 9 (nI 3)) 0 15 11 (nI a)) 0 15 12 (nI 2)) 0 15 9 = nI 3 from (by simp [am_up, am_upf, upd, hkd, hp, ha])) ?_
  refine am_if_ne (tgt := 261) dX9_run_253 (by decide) (fun _ => ?_) (fun h => absurd h (by decide))
  refine am_vret dX9_run_261 rfl ?_
  exact ⟨rfl, rfl⟩
theorem c_run13 {G : am_G} (hG : am_ok G) {d : Nat} {i a : Nat} (hi : i < G.2.2.2.1) (hab : a < 128) (I : am_I)  (hkd : I i 55 0 = nI 13) (hp : I i 52 a = nI 0) (ha : I i 55 1 = nI a) : am_C G (d + 3) mX9_run [.inr (0, 15), .inr (i, 40)] I (am_E none (am_up (am_up (am_up (am_up (am_up (am_up (am_up (am_up I 0 15 8 (nI i)) 0 15 9 (nI 0)) 0 15 10 (nI 0)) 0 15 13 (-1 : Int32)) 0 15 16 (-1 : Int32)) 0 15 9 (nI 3)) 0 15 11 (nI a)) 0 15 12 (nI 1))) := by
  have hn4 := hG.hi
  refine am_of (by decide +kernel) hG.nd (Nat.le_of_ble_eq_true rfl) ?_
  refine am_aload_n dX9_run_0 rfl ?_
  refine am_get (v := .inr (i, 55)) dX9_run_1 fl_9_35 (hG.mn hi (by decide) (by decide)) rfl ?_
  refine am_astore_n dX9_run_4 (by decide) ?_
  refine am_aload_n dX9_run_5 rfl ?_
  refine am_aload_n dX9_run_6 rfl ?_
  refine am_putN dX9_run_7 fp_9_31 (hG.m0 (by decide)) (by omega) ?_
  refine am_aload_n dX9_run_10 rfl ?_
  refine am_iconst (v := nI 0) dX9_run_11 (by decide) ?_
  refine am_put (x := nI 0) dX9_run_12 fp_9_41 (hG.m0 (by decide)) (Nat.le_of_ble_eq_true rfl) rfl ?_
  refine am_aload_n dX9_run_15 rfl ?_
  refine am_iconst (v := nI 0) dX9_run_16 (by decide) ?_
  refine am_put (x := nI 0) dX9_run_17 fp_9_45 (hG.m0 (by decide)) (Nat.le_of_ble_eq_true rfl) rfl ?_
  refine am_aload_n dX9_run_20 rfl ?_
  refine am_iconst (v := (-1 : Int32)) dX9_run_21 (by decide) ?_
  refine am_put (x := (-1 : Int32)) dX9_run_22 fp_9_48 (hG.m0 (by decide)) (Nat.le_of_ble_eq_true rfl) rfl ?_
  refine am_aload_n dX9_run_25 rfl ?_
  refine am_iconst (v := (-1 : Int32)) dX9_run_26 (by decide) ?_
  refine am_put (x := (-1 : Int32)) dX9_run_27 fp_9_51 (hG.m0 (by decide)) (Nat.le_of_ble_eq_true rfl) rfl ?_
  refine am_aload_n dX9_run_30 rfl ?_
  refine am_get (v := .inl ((am_up (am_up (am_up (am_up (am_up I 0 15 8 (nI i)) 0 15 9 (nI 0)) 0 15 10 (nI 0)) 0 15 13 (-1 : Int32)) 0 15 16 (-1 : Int32)) i 55 0)) dX9_run_31 fl_9_54 (hG.mn hi (by decide) (by decide)) rfl ?_
  refine am_top (show (am_up (am_up (am_up (am_up (am_up I 0 15 8 (nI i)) 0 15 9 (nI 0)) 0 15 10 (nI 0)) 0 15 13 (-1 : Int32)) 0 15 16 (-1 : Int32)) i 55 0 = nI 13 from (by simp [am_up, am_upf, upd, hkd, hp, ha])) ?_
  refine am_tabIn (off := 154) (tgt := 188) dX9_run_34 (by decide) (by decide) rfl (by decide) ?_
  refine am_aload_n dX9_run_188 rfl ?_
  refine am_aload_n dX9_run_189 rfl ?_
  refine am_callVe (i := 0) (j := 15) (as := [.inr (i, 55)]) (rest := []) dX9_run_190 lkX9_count ml_X9_90 imX9_count seX9_count rfl rfl (hG.m0 (by decide)) rfl (Nat.le_of_ble_eq_true rfl) rfl (c_countNo hG hi (by omega) (am_up (am_up (am_up (am_up (am_up I 0 15 8 (nI i)) 0 15 9 (nI 0)) 0 15 10 (nI 0)) 0 15 13 (-1 : Int32)) 0 15 16 (-1 : Int32)) (by simp [am_up, am_upf, upd, hkd, hp, ha]) (by simp [am_up, am_upf, upd, hkd, hp, ha]) (by simp [am_up, am_upf, upd, hkd, hp, ha])) ?_
  refine am_goto (tgt := 203) dX9_run_193 (by decide) ?_
  refine am_aload_n dX9_run_203 rfl ?_
  refine am_get (v := .inl ((am_up (am_up (am_up (am_up (am_up (am_up (am_up (am_up I 0 15 8 (nI i)) 0 15 9 (nI 0)) 0 15 10 (nI 0)) 0 15 13 (-1 : Int32)) 0 15 16 (-1 : Int32)) 0 15 9 (nI 3)) 0 15 11 (nI a)) 0 15 12 (nI 1)) 0 15 9)) dX9_run_204 fl_9_41 (hG.m0 (by decide)) rfl ?_
  refine am_top (show (am_up (am_up (am_up (am_up (am_up (am_up (am_up (am_up I 0 15 8 (nI i)) 0 15 9 (nI 0)) 0 15 10 (nI 0)) 0 15 13 (-1 : Int32)) 0 15 16 (-1 : Int32)) 0 15 9 (nI 3)) 0 15 11 (nI a)) 0 15 12 (nI 1)) 0 15 9 = nI 3 from (by simp [am_up, am_upf, upd, hkd, hp, ha])) ?_
  refine am_if_ne (tgt := 228) dX9_run_207 (by decide) (fun _ => ?_) (fun h => absurd h (by decide))
  refine am_aload_n dX9_run_228 rfl ?_
  refine am_get (v := .inl ((am_up (am_up (am_up (am_up (am_up (am_up (am_up (am_up I 0 15 8 (nI i)) 0 15 9 (nI 0)) 0 15 10 (nI 0)) 0 15 13 (-1 : Int32)) 0 15 16 (-1 : Int32)) 0 15 9 (nI 3)) 0 15 11 (nI a)) 0 15 12 (nI 1)) 0 15 9)) dX9_run_229 fl_9_41 (hG.m0 (by decide)) rfl ?_
  refine am_top (show (am_up (am_up (am_up (am_up (am_up (am_up (am_up (am_up I 0 15 8 (nI i)) 0 15 9 (nI 0)) 0 15 10 (nI 0)) 0 15 13 (-1 : Int32)) 0 15 16 (-1 : Int32)) 0 15 9 (nI 3)) 0 15 11 (nI a)) 0 15 12 (nI 1)) 0 15 9 = nI 3 from (by simp [am_up, am_upf, upd, hkd, hp, ha])) ?_
  refine am_if_ne (tgt := 249) dX9_run_232 (by decide) (fun _ => ?_) (fun h => absurd h (by decide))
  refine am_aload_n dX9_run_249 rfl ?_
  refine am_get (v := .inl ((am_up (am_up (am_up (am_up (am_up (am_up (am_up (am_up I 0 15 8 (nI i)) 0 15 9 (nI 0)) 0 15 10 (nI 0)) 0 15 13 (-1 : Int32)) 0 15 16 (-1 : Int32)) 0 15 9 (nI 3)) 0 15 11 (nI a)) 0 15 12 (nI 1)) 0 15 9)) dX9_run_250 fl_9_41 (hG.m0 (by decide)) rfl ?_
  refine am_top (show (am_up (am_up (am_up (am_up (am_up (am_up (am_up (am_up I 0 15 8 (nI i)) 0 15 9 (nI 0)) 0 15 10 (nI 0)) 0 15 13 (-1 : Int32)) 0 15 16 (-1 : Int32)) 0 15 9 (nI 3)) 0 15 11 (nI a)) 0 15 12 (nI 1)) 0 15 9 = nI 3 from (by simp [am_up, am_upf, upd, hkd, hp, ha])) ?_
  refine am_if_ne (tgt := 261) dX9_run_253 (by decide) (fun _ => ?_) (fun h => absurd h (by decide))
  refine am_vret dX9_run_261 rfl ?_
  exact ⟨rfl, rfl⟩
theorem c_run14 {G : am_G} (hG : am_ok G) {d : Nat} {i : Nat} (hi : i < G.2.2.2.1) (I : am_I)  (hkd : I i 55 0 = nI 14) (hp : I i 52 128 = nI 0) : am_C G (d + 3) mX9_run [.inr (0, 15), .inr (i, 40)] I (am_E none (am_up (am_up (am_up (am_up (am_up (am_up (am_up (am_up I 0 15 8 (nI i)) 0 15 9 (nI 0)) 0 15 10 (nI 0)) 0 15 13 (-1 : Int32)) 0 15 16 (-1 : Int32)) 0 15 9 (nI 3)) 0 15 11 (nI 128)) 0 15 12 (nI 1))) := by
  have hn4 := hG.hi
  refine am_of (by decide +kernel) hG.nd (Nat.le_of_ble_eq_true rfl) ?_
  refine am_aload_n dX9_run_0 rfl ?_
  refine am_get (v := .inr (i, 55)) dX9_run_1 fl_9_35 (hG.mn hi (by decide) (by decide)) rfl ?_
  refine am_astore_n dX9_run_4 (by decide) ?_
  refine am_aload_n dX9_run_5 rfl ?_
  refine am_aload_n dX9_run_6 rfl ?_
  refine am_putN dX9_run_7 fp_9_31 (hG.m0 (by decide)) (by omega) ?_
  refine am_aload_n dX9_run_10 rfl ?_
  refine am_iconst (v := nI 0) dX9_run_11 (by decide) ?_
  refine am_put (x := nI 0) dX9_run_12 fp_9_41 (hG.m0 (by decide)) (Nat.le_of_ble_eq_true rfl) rfl ?_
  refine am_aload_n dX9_run_15 rfl ?_
  refine am_iconst (v := nI 0) dX9_run_16 (by decide) ?_
  refine am_put (x := nI 0) dX9_run_17 fp_9_45 (hG.m0 (by decide)) (Nat.le_of_ble_eq_true rfl) rfl ?_
  refine am_aload_n dX9_run_20 rfl ?_
  refine am_iconst (v := (-1 : Int32)) dX9_run_21 (by decide) ?_
  refine am_put (x := (-1 : Int32)) dX9_run_22 fp_9_48 (hG.m0 (by decide)) (Nat.le_of_ble_eq_true rfl) rfl ?_
  refine am_aload_n dX9_run_25 rfl ?_
  refine am_iconst (v := (-1 : Int32)) dX9_run_26 (by decide) ?_
  refine am_put (x := (-1 : Int32)) dX9_run_27 fp_9_51 (hG.m0 (by decide)) (Nat.le_of_ble_eq_true rfl) rfl ?_
  refine am_aload_n dX9_run_30 rfl ?_
  refine am_get (v := .inl ((am_up (am_up (am_up (am_up (am_up I 0 15 8 (nI i)) 0 15 9 (nI 0)) 0 15 10 (nI 0)) 0 15 13 (-1 : Int32)) 0 15 16 (-1 : Int32)) i 55 0)) dX9_run_31 fl_9_54 (hG.mn hi (by decide) (by decide)) rfl ?_
  refine am_top (show (am_up (am_up (am_up (am_up (am_up I 0 15 8 (nI i)) 0 15 9 (nI 0)) 0 15 10 (nI 0)) 0 15 13 (-1 : Int32)) 0 15 16 (-1 : Int32)) i 55 0 = nI 14 from (by simp [am_up, am_upf, upd, hkd, hp])) ?_
  refine am_tabIn (off := 162) (tgt := 196) dX9_run_34 (by decide) (by decide) rfl (by decide) ?_
  refine am_aload_n dX9_run_196 rfl ?_
  refine am_callVe (i := 0) (j := 15) (as := []) (rest := []) dX9_run_197 lkX9_room ml_X9_93 imX9_room seX9_room rfl rfl (hG.m0 (by decide)) rfl (Nat.le_of_ble_eq_true rfl) rfl (c_roomNo hG hi (am_up (am_up (am_up (am_up (am_up I 0 15 8 (nI i)) 0 15 9 (nI 0)) 0 15 10 (nI 0)) 0 15 13 (-1 : Int32)) 0 15 16 (-1 : Int32)) (by simp [am_up, am_upf, upd, hkd, hp]) (by simp [am_up, am_upf, upd, hkd, hp])) ?_
  refine am_goto (tgt := 203) dX9_run_200 (by decide) ?_
  refine am_aload_n dX9_run_203 rfl ?_
  refine am_get (v := .inl ((am_up (am_up (am_up (am_up (am_up (am_up (am_up (am_up I 0 15 8 (nI i)) 0 15 9 (nI 0)) 0 15 10 (nI 0)) 0 15 13 (-1 : Int32)) 0 15 16 (-1 : Int32)) 0 15 9 (nI 3)) 0 15 11 (nI 128)) 0 15 12 (nI 1)) 0 15 9)) dX9_run_204 fl_9_41 (hG.m0 (by decide)) rfl ?_
  refine am_top (show (am_up (am_up (am_up (am_up (am_up (am_up (am_up (am_up I 0 15 8 (nI i)) 0 15 9 (nI 0)) 0 15 10 (nI 0)) 0 15 13 (-1 : Int32)) 0 15 16 (-1 : Int32)) 0 15 9 (nI 3)) 0 15 11 (nI 128)) 0 15 12 (nI 1)) 0 15 9 = nI 3 from (by simp [am_up, am_upf, upd, hkd, hp])) ?_
  refine am_if_ne (tgt := 228) dX9_run_207 (by decide) (fun _ => ?_) (fun h => absurd h (by decide))
  refine am_aload_n dX9_run_228 rfl ?_
  refine am_get (v := .inl ((am_up (am_up (am_up (am_up (am_up (am_up (am_up (am_up I 0 15 8 (nI i)) 0 15 9 (nI 0)) 0 15 10 (nI 0)) 0 15 13 (-1 : Int32)) 0 15 16 (-1 : Int32)) 0 15 9 (nI 3)) 0 15 11 (nI 128)) 0 15 12 (nI 1)) 0 15 9)) dX9_run_229 fl_9_41 (hG.m0 (by decide)) rfl ?_
  refine am_top (show (am_up (am_up (am_up (am_up (am_up (am_up (am_up (am_up I 0 15 8 (nI i)) 0 15 9 (nI 0)) 0 15 10 (nI 0)) 0 15 13 (-1 : Int32)) 0 15 16 (-1 : Int32)) 0 15 9 (nI 3)) 0 15 11 (nI 128)) 0 15 12 (nI 1)) 0 15 9 = nI 3 from (by simp [am_up, am_upf, upd, hkd, hp])) ?_
  refine am_if_ne (tgt := 249) dX9_run_232 (by decide) (fun _ => ?_) (fun h => absurd h (by decide))
  refine am_aload_n dX9_run_249 rfl ?_
  refine am_get (v := .inl ((am_up (am_up (am_up (am_up (am_up (am_up (am_up (am_up I 0 15 8 (nI i)) 0 15 9 (nI 0)) 0 15 10 (nI 0)) 0 15 13 (-1 : Int32)) 0 15 16 (-1 : Int32)) 0 15 9 (nI 3)) 0 15 11 (nI 128)) 0 15 12 (nI 1)) 0 15 9)) dX9_run_250 fl_9_41 (hG.m0 (by decide)) rfl ?_
  refine am_top (show (am_up (am_up (am_up (am_up (am_up (am_up (am_up (am_up I 0 15 8 (nI i)) 0 15 9 (nI 0)) 0 15 10 (nI 0)) 0 15 13 (-1 : Int32)) 0 15 16 (-1 : Int32)) 0 15 9 (nI 3)) 0 15 11 (nI 128)) 0 15 12 (nI 1)) 0 15 9 = nI 3 from (by simp [am_up, am_upf, upd, hkd, hp])) ?_
  refine am_if_ne (tgt := 261) dX9_run_253 (by decide) (fun _ => ?_) (fun h => absurd h (by decide))
  refine am_vret dX9_run_261 rfl ?_
  exact ⟨rfl, rfl⟩
theorem c_forget0 {G : am_G} (hG : am_ok G) {d : Nat} (I : am_I)  (hch : I 0 15 5 = nI 0) : am_C G d mX9_forget [.inr (0, 15)] I (am_E none (am_up (am_up I 0 15 5 (nI 0)) 0 15 7 (nI 0))) := by
  refine am_of (by decide +kernel) hG.nd (Nat.le_of_ble_eq_true rfl) ?_
  refine am_iconst (v := nI 0) dX9_forget_0 (by decide) ?_
  refine am_istore_n dX9_forget_1 (by decide) ?_
  refine am_iload_n dX9_forget_2 rfl ?_
  refine am_aload_n dX9_forget_3 rfl ?_
  refine am_get (v := .inl (I 0 15 5)) dX9_forget_4 fl_9_111 (hG.m0 (by decide)) rfl ?_
  refine am_top (show I 0 15 5 = nI 0 from (by simp [am_up, am_upf, upd, hch])) ?_
  refine am_icmp_ge (tgt := 28) dX9_forget_7 (by decide) (fun _ => ?_) (fun h => absurd h (by decide))
  refine am_aload_n dX9_forget_28 rfl ?_
  refine am_iconst (v := nI 0) dX9_forget_29 (by decide) ?_
  refine am_put (x := nI 0) dX9_forget_30 fp_9_111 (hG.m0 (by decide)) (Nat.le_of_ble_eq_true rfl) rfl ?_
  refine am_aload_n dX9_forget_33 rfl ?_
  refine am_iconst (v := nI 0) dX9_forget_34 (by decide) ?_
  refine am_put (x := nI 0) dX9_forget_35 fp_9_131 (hG.m0 (by decide)) (Nat.le_of_ble_eq_true rfl) rfl ?_
  refine am_vret dX9_forget_38 rfl ?_
  exact ⟨rfl, rfl⟩
theorem c_undo0 {G : am_G} (hG : am_ok G) {d : Nat} {i : Nat} (hi : i < G.2.2.2.1) (I : am_I)  (hch : I 0 15 5 = nI 0) (hnd : I 0 15 8 = nI i) : am_C G (d + 1) mX9_undo [.inr (0, 15)] I (am_E none (am_up (am_up I 0 15 5 (nI 0)) 0 15 7 (nI 0))) := by
  have hn4 := hG.hi
  refine am_of (by decide +kernel) hG.nd (Nat.le_of_ble_eq_true rfl) ?_
  refine am_aload_n dX9_undo_0 rfl ?_
  refine am_get (v := .inr (i, 40)) dX9_undo_1 fl_9_31 (hG.m0 (by decide)) (by show some (Value.ref (G.2.2.1 (I 0 15 8).toNatClampNeg 40)) = some (Value.ref (G.2.2.1 i 40)); rw [show I 0 15 8 = nI i from (by simp [am_up, am_upf, upd, hch, hnd]), nI_clamp (by omega)]) ?_
  refine am_get (v := .inr (i, 41)) dX9_undo_4 fl_9_107 (hG.mn hi (by decide) (by decide)) rfl ?_
  refine am_astore_n dX9_undo_7 (by decide) ?_
  refine am_aload_n dX9_undo_8 rfl ?_
  refine am_get (v := .inl (I 0 15 5)) dX9_undo_9 fl_9_111 (hG.m0 (by decide)) rfl ?_
  refine am_top (show I 0 15 5 = nI 0 from (by simp [am_up, am_upf, upd, hch, hnd])) ?_
  refine am_iconst (v := nI 1) dX9_undo_12 (by decide) ?_
  refine am_isub dX9_undo_13 ?_
  refine am_top (show (nI 0) - (nI 1) = (-1 : Int32) by decide) ?_
  refine am_istore_n dX9_undo_14 (by decide) ?_
  refine am_iload_n dX9_undo_15 rfl ?_
  refine am_if_lt (tgt := 67) dX9_undo_16 (by decide) (fun _ => ?_) (fun h => absurd h (by decide))
  refine am_aload_n dX9_undo_67 rfl ?_
  refine am_callVe (i := 0) (j := 15) (as := []) (rest := []) dX9_undo_68 lkX9_forget ml_X9_128 imX9_forget seX9_forget rfl rfl (hG.m0 (by decide)) rfl (Nat.le_of_ble_eq_true rfl) rfl (c_forget0 hG I (by simp [am_up, am_upf, upd, hch, hnd])) ?_
  refine am_vret dX9_undo_71 rfl ?_
  exact ⟨rfl, rfl⟩
theorem c_settle0 {G : am_G} (hG : am_ok G) {d : Nat} (I : am_I)  (hch : I 0 15 5 = nI 0) (hgv : I 0 15 7 = nI 0) : am_C G (d + 1) mX9_settle [.inr (0, 15)] I (am_E none (am_up (am_up I 0 15 5 (nI 0)) 0 15 7 (nI 0))) := by
  refine am_of (by decide +kernel) hG.nd (Nat.le_of_ble_eq_true rfl) ?_
  refine am_iconst (v := nI 0) dX9_settle_0 (by decide) ?_
  refine am_istore_n dX9_settle_1 (by decide) ?_
  refine am_iload_n dX9_settle_2 rfl ?_
  refine am_aload_n dX9_settle_3 rfl ?_
  refine am_get (v := .inl (I 0 15 7)) dX9_settle_4 fl_9_131 (hG.m0 (by decide)) rfl ?_
  refine am_top (show I 0 15 7 = nI 0 from (by simp [am_up, am_upf, upd, hch, hgv])) ?_
  refine am_icmp_ge (tgt := 48) dX9_settle_7 (by decide) (fun _ => ?_) (fun h => absurd h (by decide))
  refine am_iconst (v := nI 0) dX9_settle_48 (by decide) ?_
  refine am_istore_n dX9_settle_49 (by decide) ?_
  refine am_iload_n dX9_settle_50 rfl ?_
  refine am_aload_n dX9_settle_51 rfl ?_
  refine am_get (v := .inl (I 0 15 5)) dX9_settle_52 fl_9_111 (hG.m0 (by decide)) rfl ?_
  refine am_top (show I 0 15 5 = nI 0 from (by simp [am_up, am_upf, upd, hch, hgv])) ?_
  refine am_icmp_ge (tgt := 93) dX9_settle_55 (by decide) (fun _ => ?_) (fun h => absurd h (by decide))
  refine am_aload_n dX9_settle_93 rfl ?_
  refine am_callVe (i := 0) (j := 15) (as := []) (rest := []) dX9_settle_94 lkX9_forget ml_X9_128 imX9_forget seX9_forget rfl rfl (hG.m0 (by decide)) rfl (Nat.le_of_ble_eq_true rfl) rfl (c_forget0 hG I (by simp [am_up, am_upf, upd, hch, hgv])) ?_
  refine am_vret dX9_settle_97 rfl ?_
  exact ⟨rfl, rfl⟩
theorem c_tooMuch0 {G : am_G} (hG : am_ok G) {d : Nat} {i : Nat} (hi : i < G.2.2.2.1) (I : am_I)  (hch : I 0 15 5 = nI 0) (hnd : I 0 15 8 = nI i) (hlg : I i 44 2 = nI 0) : am_C G d mX9_isTooMuch [.inr (0, 15)] I (am_E (some (nI 0)) (I)) := by
  have hn4 := hG.hi
  refine am_of (by decide +kernel) hG.nd (Nat.le_of_ble_eq_true rfl) ?_
  refine am_iconst (v := nI 0) dX9_isTooMuch_0 (by decide) ?_
  refine am_istore_n dX9_isTooMuch_1 (by decide) ?_
  refine am_iconst (v := nI 0) dX9_isTooMuch_2 (by decide) ?_
  refine am_istore_n dX9_isTooMuch_3 (by decide) ?_
  refine am_iload_n dX9_isTooMuch_4 rfl ?_
  refine am_aload_n dX9_isTooMuch_5 rfl ?_
  refine am_get (v := .inr (i, 40)) dX9_isTooMuch_6 fl_9_31 (hG.m0 (by decide)) (by show some (Value.ref (G.2.2.1 (I 0 15 8).toNatClampNeg 40)) = some (Value.ref (G.2.2.1 i 40)); rw [show I 0 15 8 = nI i from (by simp [am_up, am_upf, upd, hch, hnd, hlg]), nI_clamp (by omega)]) ?_
  refine am_get (v := .inr (i, 44)) dX9_isTooMuch_9 fl_9_134 (hG.mn hi (by decide) (by decide)) rfl ?_
  refine am_get (v := .inl (I i 44 2)) dX9_isTooMuch_12 fl_9_148 (hG.mn hi (by decide) (by decide)) rfl ?_
  refine am_top (show I i 44 2 = nI 0 from (by simp [am_up, am_upf, upd, hch, hnd, hlg])) ?_
  refine am_icmp_ge (tgt := 46) dX9_isTooMuch_15 (by decide) (fun _ => ?_) (fun h => absurd h (by decide))
  refine am_iconst (v := nI 0) dX9_isTooMuch_46 (by decide) ?_
  refine am_istore_n dX9_isTooMuch_47 (by decide) ?_
  refine am_iload_n dX9_isTooMuch_48 rfl ?_
  refine am_aload_n dX9_isTooMuch_49 rfl ?_
  refine am_get (v := .inl (I 0 15 5)) dX9_isTooMuch_50 fl_9_111 (hG.m0 (by decide)) rfl ?_
  refine am_top (show I 0 15 5 = nI 0 from (by simp [am_up, am_upf, upd, hch, hnd, hlg])) ?_
  refine am_icmp_ge (tgt := 97) dX9_isTooMuch_53 (by decide) (fun _ => ?_) (fun h => absurd h (by decide))
  refine am_iload_n dX9_isTooMuch_97 rfl ?_
  refine am_bipush (v := nI 16) dX9_isTooMuch_98 (by decide) ?_
  refine am_icmp_le (tgt := 107) dX9_isTooMuch_100 (by decide) (fun _ => ?_) (fun h => absurd h (by decide))
  refine am_iconst (v := nI 0) dX9_isTooMuch_107 (by decide) ?_
  refine am_iret dX9_isTooMuch_108 rfl (am_nz (by decide)).1 ?_
  exact ⟨rfl, rfl⟩
theorem c_list0 {G : am_G} (hG : am_ok G) {d : Nat} {i : Nat} (hi : i < G.2.2.2.1) {r : Nat} (hr : r < 136) (x : Int32) (I : am_I)  (hlm : I i 54 r = nI 0) (hlc : I i 48 6 = nI 0) : am_C G d mX4_list [.inr (i, 48), .inl (nI r), .inl x] I (am_E none (am_up (am_up (am_up I i 53 0 (nI r)) i 48 6 (nI 1)) i 54 r x)) := by
  refine am_of (by decide +kernel) hG.nd (Nat.le_of_ble_eq_true rfl) ?_
  refine am_aload_n dX4_list_0 rfl ?_
  refine am_get (v := .inr (i, 54)) dX4_list_1 fl_4_28 (hG.mn hi (by decide) (by decide)) rfl ?_
  refine am_iload_n dX4_list_4 rfl ?_
  refine am_iald (a := r) dX4_list_5 (hG.mn hi (by decide) (by decide)) rfl rfl (show r < 136 from (by omega)) (show 136 < 2 ^ 31 by decide) ?_
  refine am_top (show I i 54 r = nI 0 from (by simp [am_up, am_upf, upd, hlm, hlc])) ?_
  refine am_if_ne (tgt := 77) dX4_list_6 (by decide) (fun h => absurd h (by decide)) (fun _ => ?_)
  refine am_aload_n dX4_list_9 rfl ?_
  refine am_get (v := .inl (I i 48 6)) dX4_list_10 fl_4_43 (hG.mn hi (by decide) (by decide)) rfl ?_
  refine am_top (show I i 48 6 = nI 0 from (by simp [am_up, am_upf, upd, hlm, hlc])) ?_
  refine am_sipush (v := nI 136) dX4_list_13 (by decide) ?_
  refine am_icmp_ge (tgt := 77) dX4_list_16 (by decide) (fun h => absurd h (by decide)) (fun _ => ?_)
  refine am_aload_n dX4_list_19 rfl ?_
  refine am_get (v := .inl (I i 48 6)) dX4_list_20 fl_4_43 (hG.mn hi (by decide) (by decide)) rfl ?_
  refine am_top (show I i 48 6 = nI 0 from (by simp [am_up, am_upf, upd, hlm, hlc])) ?_
  refine am_istore_n dX4_list_23 (by decide) ?_
  refine am_iload_n dX4_list_24 rfl ?_
  refine am_if_le (tgt := 60) dX4_list_25 (by decide) (fun _ => ?_) (fun h => absurd h (by decide))
  refine am_aload_n dX4_list_60 rfl ?_
  refine am_get (v := .inr (i, 53)) dX4_list_61 fl_4_25 (hG.mn hi (by decide) (by decide)) rfl ?_
  refine am_iload_n dX4_list_64 rfl ?_
  refine am_iload_n dX4_list_65 rfl ?_
  refine am_iast (a := 0) dX4_list_66 (hG.mn hi (by decide) (by decide)) rfl rfl (show 0 < 136 from (by omega)) (show 136 < 2 ^ 31 by decide) ?_
  refine am_aload_n dX4_list_67 rfl ?_
  refine am_dup dX4_list_68 ?_
  refine am_get (v := .inl ((am_up I i 53 0 (nI r)) i 48 6)) dX4_list_69 fl_4_43 (hG.mn hi (by decide) (by decide)) rfl ?_
  refine am_top (show (am_up I i 53 0 (nI r)) i 48 6 = nI 0 from (by simp [am_up, am_upf, upd, hlm, hlc])) ?_
  refine am_iconst (v := nI 1) dX4_list_72 (by decide) ?_
  refine am_iadd dX4_list_73 ?_
  refine am_top (show (nI 0) + (nI 1) = nI 1 by decide) ?_
  refine am_put (x := nI 1) dX4_list_74 fp_4_43 (hG.mn hi (by decide) (by decide)) (Nat.le_of_ble_eq_true rfl) rfl ?_
  refine am_aload_n dX4_list_77 rfl ?_
  refine am_get (v := .inr (i, 54)) dX4_list_78 fl_4_28 (hG.mn hi (by decide) (by decide)) rfl ?_
  refine am_iload_n dX4_list_81 rfl ?_
  refine am_iload_n dX4_list_82 rfl ?_
  refine am_iast (a := r) dX4_list_83 (hG.mn hi (by decide) (by decide)) rfl rfl (show r < 136 from (by omega)) (show 136 < 2 ^ 31 by decide) ?_
  refine am_vret dX4_list_84 rfl ?_
  exact ⟨rfl, rfl⟩
theorem c_LwaitsNo {G : am_G} (hG : am_ok G) {d : Nat} {i : Nat} (hi : i < G.2.2.2.1) {r : Nat} (hr : r < 136) (I : am_I)  (hbk : I i 51 r = (-1 : Int32)) : am_C G d mX4_waitsToGoDown [.inr (i, 48), .inl (nI r)] I (am_E (some (nI 0)) (I)) := by
  refine am_of (by decide +kernel) hG.nd (Nat.le_of_ble_eq_true rfl) ?_
  refine am_aload_n dX4_waitsToGoDown_0 rfl ?_
  refine am_get (v := .inr (i, 51)) dX4_waitsToGoDown_1 fl_4_18 (hG.mn hi (by decide) (by decide)) rfl ?_
  refine am_iload_n dX4_waitsToGoDown_4 rfl ?_
  refine am_iald (a := r) dX4_waitsToGoDown_5 (hG.mn hi (by decide) (by decide)) rfl rfl (show r < 136 from (by omega)) (show 136 < 2 ^ 31 by decide) ?_
  refine am_top (show I i 51 r = (-1 : Int32) from (by simp [am_up, am_upf, upd, hbk])) ?_
  refine am_iconst (v := (-1 : Int32)) dX4_waitsToGoDown_6 (by decide) ?_
  refine am_icmp_eq (tgt := 23) dX4_waitsToGoDown_7 (by decide) (fun _ => ?_) (fun h => absurd h (by decide))
  refine am_iconst (v := nI 0) dX4_waitsToGoDown_23 (by decide) ?_
  refine am_iret dX4_waitsToGoDown_24 rfl (am_nz (by decide)).1 ?_
  exact ⟨rfl, rfl⟩
theorem c_goDownNo {G : am_G} (hG : am_ok G) {d : Nat} {i r : Nat} (hi : i < G.2.2.2.1) (hr : r < 136) (I : am_I)  (hbk : I i 51 r = (-1 : Int32)) : am_C G (d + 1) mX10_goDown [.inr (0, 0), .inr (i, 40), .inl (nI r)] I (am_E none (I)) := by
  refine am_of (by decide +kernel) hG.nd (Nat.le_of_ble_eq_true rfl) ?_
  refine am_aload_n dX10_goDown_0 rfl ?_
  refine am_get (v := .inr (i, 48)) dX10_goDown_1 fl_10_244 (hG.mn hi (by decide) (by decide)) rfl ?_
  refine am_astore_n dX10_goDown_4 (by decide) ?_
  refine am_aload_n dX10_goDown_5 rfl ?_
  refine am_iload_n dX10_goDown_6 rfl ?_
  refine am_callVx (i := i) (j := 48) (as := [.inl (nI r)]) (rest := []) dX10_goDown_7 lkX4_waitsToGoDown ml_X10_454 imX4_waitsToGoDown seX4_waitsToGoDown rfl rfl (hG.mn hi (by decide) (by decide)) rfl (Nat.le_of_ble_eq_true rfl) rfl (c_LwaitsNo hG hi (by omega) I (by simp [am_up, am_upf, upd, hbk])) ?_
  refine am_if_ne (tgt := 14) dX10_goDown_10 (by decide) (fun h => absurd h (by decide)) (fun _ => ?_)
  refine am_vret dX10_goDown_13 rfl ?_
  exact ⟨rfl, rfl⟩
