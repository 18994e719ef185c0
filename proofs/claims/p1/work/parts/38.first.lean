theorem c_isNodeY {G : am_G} (hG : am_ok G) {d t : Nat} (ht : t < G.2.2.2.1) (I : am_I) : am_C G d mX10_isNode [.inr (0, 0), .inl (nI t)] I (am_E (some (nI 1)) I) := by
  have hn4 := hG.hi
  have h := c_isNode hG (d := d) (nI t) I
  rw [am_bT _ (by rw [nI_toInt (by omega)]; omega)] at h
  exact h
theorem c_masterOf {G : am_G} (hG : am_ok G) {d : Nat} {r : Nat} (hr : r < 136) (I : am_I) (hj : ∀ x, x < G.2.2.2.1 → I x 40 6 = nI 1) : am_C G d mX10_masterOf [.inr (0, 0), .inl (nI r)] I (am_E (some (nI (r % G.2.2.2.1))) I) := by
  have hn4 := hG.hi
  have hn2 := hG.lo
  refine am_of (by decide +kernel) hG.nd (Nat.le_of_ble_eq_true rfl) ?_
  refine am_aload_n dX10_masterOf_0 rfl ?_
  refine am_get (v := .inr (0, 2)) dX10_masterOf_1 fl_10_19 (hG.m0 (by decide)) rfl ?_
  refine am_alen3 dX10_masterOf_4 (hG.m0 (by decide)) rfl ?_
  refine am_istore_n dX10_masterOf_5 (by decide) ?_
  refine am_iload_n dX10_masterOf_6 rfl ?_
  refine am_if_ne (tgt := 12) dX10_masterOf_7 (by decide) (fun _ => ?_) (fun h => absurd ((nI_eq (a := G.2.2.2.1) (b := 0) (by omega) (by omega)).mp h) (by omega))
  refine am_iconst (v := nI 0) dX10_masterOf_12 (by decide) ?_
  refine am_istore_n dX10_masterOf_13 (by decide) ?_
  refine am_iload_n dX10_masterOf_14 rfl ?_
  refine am_iload_n dX10_masterOf_15 rfl ?_
  refine am_icmp_ge (tgt := 48) dX10_masterOf_16 (by decide) (fun h => absurd ((nI_leI (a := G.2.2.2.1) (b := 0) (by omega) (by omega)).mp h) (by omega)) (fun _ => ?_)
  refine am_iload_n dX10_masterOf_19 rfl ?_
  refine am_iload_n dX10_masterOf_20 rfl ?_
  refine am_iadd dX10_masterOf_21 ?_
  refine am_top (show nI r + nI 0 = nI r from nI_add _ _) ?_
  refine am_iload_n dX10_masterOf_22 rfl ?_
  refine am_irem dX10_masterOf_23 (nI_ne0 (by omega) (by omega)) ?_
  refine am_top (pk_rem (by omega) (by omega) (by omega)) ?_
  refine am_istore dX10_masterOf_24 (by decide) ?_
  refine am_aload_n dX10_masterOf_26 rfl ?_
  refine am_get (v := .inr (0, 2)) dX10_masterOf_27 fl_10_19 (hG.m0 (by decide)) rfl ?_
  refine am_iload dX10_masterOf_30 rfl ?_
  refine am_aald (a := r % G.2.2.2.1) dX10_masterOf_32 (hG.m0 (by decide)) rfl rfl (Nat.mod_lt _ (by omega)) hG.n31 ?_
  refine am_get (v := .inl (I (r % G.2.2.2.1) 40 6)) dX10_masterOf_33 fl_10_166 (hG.mn (Nat.mod_lt _ (by omega)) (by decide) (by decide)) rfl ?_
  refine am_top (hj _ (Nat.mod_lt _ (by omega))) ?_
  refine am_if_eq (tgt := 42) dX10_masterOf_36 (by decide) (fun h => absurd h (by decide)) (fun _ => ?_)
  refine am_iload dX10_masterOf_39 rfl ?_
  refine am_iret dX10_masterOf_41 rfl rfl ?_
  exact ⟨rfl, rfl⟩
theorem c_send0 {G : am_G} (hG : am_ok G) {d : Nat} {f : Nat} (hf : f < 4) {t : Nat} (ht : t < 4) (x : Int32) (y : Int32) (z : Int32) (u : Int32) (I : am_I)  (hc : I 0 9 3 = nI 0) : am_C G d mX5_send [.inr (0, 9), .inl (nI f), .inl (nI t), .inl x, .inl y, .inl z, .inl u] I (am_E none (am_up (am_up (am_up (am_up (am_up (am_up (am_up I 0 11 0 (nI f)) 0 11 1 (nI t)) 0 11 2 x) 0 11 3 y) 0 11 4 z) 0 11 5 (u + (I 0 10 (f * 4 + t)))) 0 9 3 (nI 1))) := by
  refine am_of (by decide +kernel) hG.nd (Nat.le_of_ble_eq_true rfl) ?_
  refine am_aload_n dX5_send_0 rfl ?_
  refine am_get (v := .inl (I 0 9 3)) dX5_send_1 fl_5_27 (hG.m0 (by decide)) rfl ?_
  refine am_top (show I 0 9 3 = nI 0 from (by simp [am_up, am_upf, upd, hc])) ?_
  refine am_sipush (v := nI 128) dX5_send_4 (by decide) ?_
  refine am_icmp_lt (tgt := 11) dX5_send_7 (by decide) (fun _ => ?_) (fun h => absurd h (by decide))
  refine am_iload dX5_send_11 rfl ?_
  refine am_aload_n dX5_send_13 rfl ?_
  refine am_get (v := .inr (0, 10)) dX5_send_14 fl_5_9 (hG.m0 (by decide)) rfl ?_
  refine am_iload_n dX5_send_17 rfl ?_
  refine am_iconst (v := nI 4) dX5_send_18 (by decide) ?_
  refine am_imul dX5_send_19 ?_
  refine am_top (pk_mul _ _) ?_
  refine am_iload_n dX5_send_20 rfl ?_
  refine am_iadd dX5_send_21 ?_
  refine am_top (nI_add _ _) ?_
  refine am_iald (a := f * 4 + t) dX5_send_22 (hG.m0 (by decide)) rfl rfl (show f * 4 + t < 16 from (by omega)) (show 16 < 2 ^ 31 by decide) ?_
  refine am_iadd dX5_send_23 ?_
  refine am_istore dX5_send_24 (by decide) ?_
  refine am_iconst (v := nI 0) dX5_send_26 (by decide) ?_
  refine am_istore dX5_send_27 (by decide) ?_
  refine am_iload dX5_send_29 rfl ?_
  refine am_aload_n dX5_send_31 rfl ?_
  refine am_get (v := .inl (I 0 9 3)) dX5_send_32 fl_5_27 (hG.m0 (by decide)) rfl ?_
  refine am_top (show I 0 9 3 = nI 0 from (by simp [am_up, am_upf, upd, hc])) ?_
  refine am_icmp_ge (tgt := 91) dX5_send_35 (by decide) (fun _ => ?_) (fun h => absurd h (by decide))
  refine am_aload_n dX5_send_91 rfl ?_
  refine am_get (v := .inl (I 0 9 3)) dX5_send_92 fl_5_27 (hG.m0 (by decide)) rfl ?_
  refine am_top (show I 0 9 3 = nI 0 from (by simp [am_up, am_upf, upd, hc])) ?_
  refine am_bipush (v := nI 6) dX5_send_95 (by decide) ?_
  refine am_imul dX5_send_97 ?_
  refine am_top (show (nI 0) * (nI 6) = nI 0 by decide) ?_
  refine am_istore dX5_send_98 (by decide) ?_
  refine am_aload_n dX5_send_100 rfl ?_
  refine am_get (v := .inr (0, 11)) dX5_send_101 fl_5_15 (hG.m0 (by decide)) rfl ?_
  refine am_iload dX5_send_104 rfl ?_
  refine am_iload_n dX5_send_106 rfl ?_
  refine am_iast (a := 0) dX5_send_107 (hG.m0 (by decide)) rfl rfl (show 0 < 768 from (by omega)) (show 768 < 2 ^ 31 by decide) ?_
  refine am_aload_n dX5_send_108 rfl ?_
  refine am_get (v := .inr (0, 11)) dX5_send_109 fl_5_15 (hG.m0 (by decide)) rfl ?_
  refine am_iload dX5_send_112 rfl ?_
  refine am_iconst (v := nI 1) dX5_send_114 (by decide) ?_
  refine am_iadd dX5_send_115 ?_
  refine am_top (show (nI 0) + (nI 1) = nI 1 by decide) ?_
  refine am_iload_n dX5_send_116 rfl ?_
  refine am_iast (a := 1) dX5_send_117 (hG.m0 (by decide)) rfl rfl (show 1 < 768 from (by omega)) (show 768 < 2 ^ 31 by decide) ?_
  refine am_aload_n dX5_send_118 rfl ?_
  refine am_get (v := .inr (0, 11)) dX5_send_119 fl_5_15 (hG.m0 (by decide)) rfl ?_
  refine am_iload dX5_send_122 rfl ?_
  refine am_iconst (v := nI 2) dX5_send_124 (by decide) ?_
  refine am_iadd dX5_send_125 ?_
  refine am_top (show (nI 0) + (nI 2) = nI 2 by decide) ?_
  refine am_iload_n dX5_send_126 rfl ?_
  refine am_iast (a := 2) dX5_send_127 (hG.m0 (by decide)) rfl rfl (show 2 < 768 from (by omega)) (show 768 < 2 ^ 31 by decide) ?_
  refine am_aload_n dX5_send_128 rfl ?_
  refine am_get (v := .inr (0, 11)) dX5_send_129 fl_5_15 (hG.m0 (by decide)) rfl ?_
  refine am_iload dX5_send_132 rfl ?_
  refine am_iconst (v := nI 3) dX5_send_134 (by decide) ?_
  refine am_iadd dX5_send_135 ?_
  refine am_top (show (nI 0) + (nI 3) = nI 3 by decide) ?_
  refine am_iload dX5_send_136 rfl ?_
  refine am_iast (a := 3) dX5_send_138 (hG.m0 (by decide)) rfl rfl (show 3 < 768 from (by omega)) (show 768 < 2 ^ 31 by decide) ?_
  refine am_aload_n dX5_send_139 rfl ?_
  refine am_get (v := .inr (0, 11)) dX5_send_140 fl_5_15 (hG.m0 (by decide)) rfl ?_
  refine am_iload dX5_send_143 rfl ?_
  refine am_iconst (v := nI 4) dX5_send_145 (by decide) ?_
  refine am_iadd dX5_send_146 ?_
  refine am_top (show (nI 0) + (nI 4) = nI 4 by decide) ?_
  refine am_iload dX5_send_147 rfl ?_
  refine am_iast (a := 4) dX5_send_149 (hG.m0 (by decide)) rfl rfl (show 4 < 768 from (by omega)) (show 768 < 2 ^ 31 by decide) ?_
  refine am_aload_n dX5_send_150 rfl ?_
  refine am_get (v := .inr (0, 11)) dX5_send_151 fl_5_15 (hG.m0 (by decide)) rfl ?_
  refine am_iload dX5_send_154 rfl ?_
  refine am_iconst (v := nI 5) dX5_send_156 (by decide) ?_
  refine am_iadd dX5_send_157 ?_
  refine am_top (show (nI 0) + (nI 5) = nI 5 by decide) ?_
  refine am_iload dX5_send_158 rfl ?_
  refine am_iast (a := 5) dX5_send_160 (hG.m0 (by decide)) rfl rfl (show 5 < 768 from (by omega)) (show 768 < 2 ^ 31 by decide) ?_
  refine am_aload_n dX5_send_161 rfl ?_
  refine am_dup dX5_send_162 ?_
  refine am_get (v := .inl ((am_up (am_up (am_up (am_up (am_up (am_up I 0 11 0 (nI f)) 0 11 1 (nI t)) 0 11 2 x) 0 11 3 y) 0 11 4 z) 0 11 5 (u + (I 0 10 (f * 4 + t)))) 0 9 3)) dX5_send_163 fl_5_27 (hG.m0 (by decide)) rfl ?_
  refine am_top (show (am_up (am_up (am_up (am_up (am_up (am_up I 0 11 0 (nI f)) 0 11 1 (nI t)) 0 11 2 x) 0 11 3 y) 0 11 4 z) 0 11 5 (u + (I 0 10 (f * 4 + t)))) 0 9 3 = nI 0 from (by simp [am_up, am_upf, upd, hc])) ?_
  refine am_iconst (v := nI 1) dX5_send_166 (by decide) ?_
  refine am_iadd dX5_send_167 ?_
  refine am_top (show (nI 0) + (nI 1) = nI 1 by decide) ?_
  refine am_put (x := nI 1) dX5_send_168 fp_5_27 (hG.m0 (by decide)) (Nat.le_of_ble_eq_true rfl) rfl ?_
  refine am_vret dX5_send_171 rfl ?_
  exact ⟨rfl, rfl⟩
theorem c_post0 {G : am_G} (hG : am_ok G) {d : Nat} {f : Nat} (hf : f < 4) {t : Nat} (ht : t < G.2.2.2.1) (x : Int32) (y : Int32) (z : Int32) (I : am_I)  (hc : I 0 9 3 = nI 0) (hup : I t 40 5 = nI 1) : am_C G (d + 1) mX10_post [.inr (0, 0), .inl (nI f), .inl (nI t), .inl x, .inl y, .inl z] I (am_E none (am_up (am_up (am_up (am_up (am_up (am_up (am_up (am_up I 0 9 4 ((I 0 9 4) + (nI 1))) 0 11 0 (nI f)) 0 11 1 (nI t)) 0 11 2 x) 0 11 3 y) 0 11 4 z) 0 11 5 (((am_up I 0 9 4 ((I 0 9 4) + (nI 1))) 0 0 7) + ((am_up I 0 9 4 ((I 0 9 4) + (nI 1))) 0 10 (f * 4 + t)))) 0 9 3 (nI 1))) := by
  have hn4 := hG.hi
  have hn2 := hG.lo
  refine am_of (by decide +kernel) hG.nd (Nat.le_of_ble_eq_true rfl) ?_
  refine am_aload_n dX10_post_0 rfl ?_
  refine am_get (v := .inr (0, 9)) dX10_post_1 fl_10_36 (hG.m0 (by decide)) rfl ?_
  refine am_dup dX10_post_4 ?_
  refine am_get (v := .inl (I 0 9 4)) dX10_post_5 fl_10_303 (hG.m0 (by decide)) rfl ?_
  refine am_iconst (v := nI 1) dX10_post_8 (by decide) ?_
  refine am_iadd dX10_post_9 ?_
  refine am_put (x := (I 0 9 4) + (nI 1)) dX10_post_10 fp_10_303 (hG.m0 (by decide)) (Nat.le_of_ble_eq_true rfl) rfl ?_
  refine am_aload_n dX10_post_13 rfl ?_
  refine am_iload_n dX10_post_14 rfl ?_
  refine am_callVx (i := 0) (j := 0) (as := [.inl (nI t)]) (rest := []) dX10_post_15 lkX10_isNode ml_X10_65 imX10_isNode seX10_isNode rfl rfl (hG.m0 (by decide)) rfl (Nat.le_of_ble_eq_true rfl) rfl (c_isNodeY hG ht (am_up I 0 9 4 ((I 0 9 4) + (nI 1)))) ?_
  refine am_if_eq (tgt := 51) dX10_post_18 (by decide) (fun h => absurd h (by decide)) (fun _ => ?_)
  refine am_aload_n dX10_post_21 rfl ?_
  refine am_get (v := .inr (0, 2)) dX10_post_22 fl_10_19 (hG.m0 (by decide)) rfl ?_
  refine am_iload_n dX10_post_25 rfl ?_
  refine am_aald (a := t) dX10_post_26 (hG.m0 (by decide)) rfl rfl (by omega) hG.n31 ?_
  refine am_get (v := .inl ((am_up I 0 9 4 ((I 0 9 4) + (nI 1))) t 40 5)) dX10_post_27 fl_10_80 (hG.mn ht (by decide) (by decide)) rfl ?_
  refine am_top (show (am_up I 0 9 4 ((I 0 9 4) + (nI 1))) t 40 5 = nI 1 from (by simp [am_up, am_upf, upd, hc, hup])) ?_
  refine am_if_eq (tgt := 51) dX10_post_30 (by decide) (fun h => absurd h (by decide)) (fun _ => ?_)
  refine am_aload_n dX10_post_33 rfl ?_
  refine am_get (v := .inr (0, 9)) dX10_post_34 fl_10_36 (hG.m0 (by decide)) rfl ?_
  refine am_iload_n dX10_post_37 rfl ?_
  refine am_iload_n dX10_post_38 rfl ?_
  refine am_iload_n dX10_post_39 rfl ?_
  refine am_iload dX10_post_40 rfl ?_
  refine am_iload dX10_post_42 rfl ?_
  refine am_aload_n dX10_post_44 rfl ?_
  refine am_get (v := .inl ((am_up I 0 9 4 ((I 0 9 4) + (nI 1))) 0 0 7)) dX10_post_45 fl_10_99 (hG.m0 (by decide)) rfl ?_
  refine am_callVe (i := 0) (j := 9) (as := [.inl (nI f), .inl (nI t), .inl x, .inl y, .inl z, .inl ((am_up I 0 9 4 ((I 0 9 4) + (nI 1))) 0 0 7)]) (rest := []) dX10_post_48 lkX5_send ml_X10_412 imX5_send seX5_send rfl rfl (hG.m0 (by decide)) rfl (Nat.le_of_ble_eq_true rfl) rfl (c_send0 hG (by omega) (by omega) x y z ((am_up I 0 9 4 ((I 0 9 4) + (nI 1))) 0 0 7) (am_up I 0 9 4 ((I 0 9 4) + (nI 1))) (by simp [am_up, am_upf, upd, hc, hup])) ?_
  refine am_vret dX10_post_51 rfl ?_
  exact ⟨rfl, rfl⟩
theorem c_pinAll0 {G : am_G} (hG : am_ok G) {d : Nat} {i : Nat} (hi : i < G.2.2.2.1) (I : am_I)  (hlc : I i 48 6 = nI 0) : am_C G d mX10_pinAll [.inr (0, 0), .inr (i, 40)] I (am_E (some (nI 1)) (I)) := by
  refine am_of (by decide +kernel) hG.nd (Nat.le_of_ble_eq_true rfl) ?_
  refine am_aload_n dX10_pinAll_0 rfl ?_
  refine am_get (v := .inr (i, 48)) dX10_pinAll_1 fl_10_244 (hG.mn hi (by decide) (by decide)) rfl ?_
  refine am_astore_n dX10_pinAll_4 (by decide) ?_
  refine am_iconst (v := nI 0) dX10_pinAll_5 (by decide) ?_
  refine am_istore_n dX10_pinAll_6 (by decide) ?_
  refine am_iload_n dX10_pinAll_7 rfl ?_
  refine am_aload_n dX10_pinAll_8 rfl ?_
  refine am_get (v := .inl (I i 48 6)) dX10_pinAll_9 fl_10_353 (hG.mn hi (by decide) (by decide)) rfl ?_
  refine am_top (show I i 48 6 = nI 0 from (by simp [am_up, am_upf, upd, hlc])) ?_
  refine am_icmp_ge (tgt := 145) dX10_pinAll_12 (by decide) (fun _ => ?_) (fun h => absurd h (by decide))
  refine am_iconst (v := nI 1) dX10_pinAll_145 (by decide) ?_
  refine am_iret dX10_pinAll_146 rfl (am_nz (by decide)).1 ?_
  exact ⟨rfl, rfl⟩
theorem c_pinAll1_1 {G : am_G} (hG : am_ok G) {d : Nat} {i r : Nat} (hi : i < G.2.2.2.1) (hr : r < 136) (I : am_I) (hj : ∀ x, x < G.2.2.2.1 → I x 40 6 = nI 1) (hu : ∀ x, x < G.2.2.2.1 → I x 40 5 = nI 1) (hlc : I i 48 6 = nI 1) (hl0 : I i 53 0 = nI r) (hpn : I i 52 r = nI 0) (hbk : I i 51 r = (-1 : Int32)) (hhd : I i 49 r = nI 0) (hak : I i 50 r = nI 0) (hnu : I i 40 0 = nI i) (hc : I 0 9 3 = nI 0) (hlm : I i 54 r = nI 1) : am_C G (d + 2) mX10_pinAll [.inr (0, 0), .inr (i, 40)] I (am_E (some (nI 0)) (am_up (am_up (am_up (am_up (am_up (am_up (am_up (am_up (am_up I i 50 r (nI 1)) 0 9 4 (((am_up I i 50 r (nI 1)) 0 9 4) + (nI 1))) 0 11 0 (nI i)) 0 11 1 (nI (r % G.2.2.2.1))) 0 11 2 (nI 0)) 0 11 3 (nI r)) 0 11 4 (nI 1)) 0 11 5 (((am_up (am_up I i 50 r (nI 1)) 0 9 4 (((am_up I i 50 r (nI 1)) 0 9 4) + (nI 1))) 0 0 7) + ((am_up (am_up I i 50 r (nI 1)) 0 9 4 (((am_up I i 50 r (nI 1)) 0 9 4) + (nI 1))) 0 10 (i * 4 + (r % G.2.2.2.1))))) 0 9 3 (nI 1))) := by
  have hn4 := hG.hi
  have hn2 := hG.lo
  refine am_of (by decide +kernel) hG.nd (Nat.le_of_ble_eq_true rfl) ?_
  refine am_aload_n dX10_pinAll_0 rfl ?_
  refine am_get (v := .inr (i, 48)) dX10_pinAll_1 fl_10_244 (hG.mn hi (by decide) (by decide)) rfl ?_
  refine am_astore_n dX10_pinAll_4 (by decide) ?_
  refine am_iconst (v := nI 0) dX10_pinAll_5 (by decide) ?_
  refine am_istore_n dX10_pinAll_6 (by decide) ?_
  refine am_iload_n dX10_pinAll_7 rfl ?_
  refine am_aload_n dX10_pinAll_8 rfl ?_
  refine am_get (v := .inl (I i 48 6)) dX10_pinAll_9 fl_10_353 (hG.mn hi (by decide) (by decide)) rfl ?_
  refine am_top (show I i 48 6 = nI 1 from (by simp [am_up, am_upf, upd, hlc, hl0, hpn, hbk, hhd, hak, hnu, hc, hlm])) ?_
  refine am_icmp_ge (tgt := 145) dX10_pinAll_12 (by decide) (fun h => absurd h (by decide)) (fun _ => ?_)
  refine am_aload_n dX10_pinAll_15 rfl ?_
  refine am_get (v := .inr (i, 53)) dX10_pinAll_16 fl_10_383 (hG.mn hi (by decide) (by decide)) rfl ?_
  refine am_iload_n dX10_pinAll_19 rfl ?_
  refine am_iald (a := 0) dX10_pinAll_20 (hG.mn hi (by decide) (by decide)) rfl rfl (show 0 < 136 from (by omega)) (show 136 < 2 ^ 31 by decide) ?_
  refine am_top (show I i 53 0 = nI r from (by simp [am_up, am_upf, upd, hlc, hl0, hpn, hbk, hhd, hak, hnu, hc, hlm])) ?_
  refine am_istore dX10_pinAll_21 (by decide) ?_
  refine am_aload_n dX10_pinAll_23 rfl ?_
  refine am_get (v := .inr (i, 52)) dX10_pinAll_24 fl_10_385 (hG.mn hi (by decide) (by decide)) rfl ?_
  refine am_iload dX10_pinAll_27 rfl ?_
  refine am_zald (a := r) dX10_pinAll_29 (hG.mn hi (by decide) (by decide)) rfl rfl (show r < 136 from (by omega)) (show 136 < 2 ^ 31 by decide) ?_
  refine am_top (show I i 52 r = nI 0 from (by simp [am_up, am_upf, upd, hlc, hl0, hpn, hbk, hhd, hak, hnu, hc, hlm])) ?_
  refine am_if_eq (tgt := 36) dX10_pinAll_30 (by decide) (fun _ => ?_) (fun h => absurd h (by decide))
  refine am_aload_n dX10_pinAll_36 rfl ?_
  refine am_get (v := .inr (i, 51)) dX10_pinAll_37 fl_10_256 (hG.mn hi (by decide) (by decide)) rfl ?_
  refine am_iload dX10_pinAll_40 rfl ?_
  refine am_iald (a := r) dX10_pinAll_42 (hG.mn hi (by decide) (by decide)) rfl rfl (show r < 136 from (by omega)) (show 136 < 2 ^ 31 by decide) ?_
  refine am_top (show I i 51 r = (-1 : Int32) from (by simp [am_up, am_upf, upd, hlc, hl0, hpn, hbk, hhd, hak, hnu, hc, hlm])) ?_
  refine am_iconst (v := (-1 : Int32)) dX10_pinAll_43 (by decide) ?_
  refine am_icmp_eq (tgt := 51) dX10_pinAll_44 (by decide) (fun _ => ?_) (fun h => absurd h (by decide))
  refine am_iconst (v := nI 0) dX10_pinAll_51 (by decide) ?_
  refine am_istore dX10_pinAll_52 (by decide) ?_
  refine am_iload dX10_pinAll_54 rfl ?_
  refine am_if_ne (tgt := 76) dX10_pinAll_56 (by decide) (fun h => absurd h (by decide)) (fun _ => ?_)
  refine am_aload_n dX10_pinAll_59 rfl ?_
  refine am_get (v := .inr (i, 49)) dX10_pinAll_60 fl_10_248 (hG.mn hi (by decide) (by decide)) rfl ?_
  refine am_iload dX10_pinAll_63 rfl ?_
  refine am_iald (a := r) dX10_pinAll_65 (hG.mn hi (by decide) (by decide)) rfl rfl (show r < 136 from (by omega)) (show 136 < 2 ^ 31 by decide) ?_
  refine am_top (show I i 49 r = nI 0 from (by simp [am_up, am_upf, upd, hlc, hl0, hpn, hbk, hhd, hak, hnu, hc, hlm])) ?_
  refine am_aload_n dX10_pinAll_66 rfl ?_
  refine am_get (v := .inr (i, 54)) dX10_pinAll_67 fl_10_259 (hG.mn hi (by decide) (by decide)) rfl ?_
  refine am_iload dX10_pinAll_70 rfl ?_
  refine am_iald (a := r) dX10_pinAll_72 (hG.mn hi (by decide) (by decide)) rfl rfl (show r < 136 from (by omega)) (show 136 < 2 ^ 31 by decide) ?_
  refine am_top (show I i 54 r = nI 1 from (by simp [am_up, am_upf, upd, hlc, hl0, hpn, hbk, hhd, hak, hnu, hc, hlm])) ?_
  refine am_icmp_ge (tgt := 131) dX10_pinAll_73 (by decide) (fun h => absurd h (by decide)) (fun _ => ?_)
  refine am_iload dX10_pinAll_76 rfl ?_
  refine am_if_ne (tgt := 129) dX10_pinAll_78 (by decide) (fun h => absurd h (by decide)) (fun _ => ?_)
  refine am_aload_n dX10_pinAll_81 rfl ?_
  refine am_get (v := .inr (i, 50)) dX10_pinAll_82 fl_10_253 (hG.mn hi (by decide) (by decide)) rfl ?_
  refine am_iload dX10_pinAll_85 rfl ?_
  refine am_iald (a := r) dX10_pinAll_87 (hG.mn hi (by decide) (by decide)) rfl rfl (show r < 136 from (by omega)) (show 136 < 2 ^ 31 by decide) ?_
  refine am_top (show I i 50 r = nI 0 from (by simp [am_up, am_upf, upd, hlc, hl0, hpn, hbk, hhd, hak, hnu, hc, hlm])) ?_
  refine am_if_ne (tgt := 129) dX10_pinAll_88 (by decide) (fun h => absurd h (by decide)) (fun _ => ?_)
  refine am_aload_n dX10_pinAll_91 rfl ?_
  refine am_get (v := .inr (i, 50)) dX10_pinAll_92 fl_10_253 (hG.mn hi (by decide) (by decide)) rfl ?_
  refine am_iload dX10_pinAll_95 rfl ?_
  refine am_aload_n dX10_pinAll_97 rfl ?_
  refine am_get (v := .inr (i, 54)) dX10_pinAll_98 fl_10_259 (hG.mn hi (by decide) (by decide)) rfl ?_
  refine am_iload dX10_pinAll_101 rfl ?_
  refine am_iald (a := r) dX10_pinAll_103 (hG.mn hi (by decide) (by decide)) rfl rfl (show r < 136 from (by omega)) (show 136 < 2 ^ 31 by decide) ?_
  refine am_top (show I i 54 r = nI 1 from (by simp [am_up, am_upf, upd, hlc, hl0, hpn, hbk, hhd, hak, hnu, hc, hlm])) ?_
  refine am_iast (a := r) dX10_pinAll_104 (hG.mn hi (by decide) (by decide)) rfl rfl (show r < 136 from (by omega)) (show 136 < 2 ^ 31 by decide) ?_
  refine am_aload_n dX10_pinAll_105 rfl ?_
  refine am_aload_n dX10_pinAll_106 rfl ?_
  refine am_get (v := .inl ((am_up I i 50 r (nI 1)) i 40 0)) dX10_pinAll_107 fl_10_388 (hG.mn hi (by decide) (by decide)) rfl ?_
  refine am_top (show (am_up I i 50 r (nI 1)) i 40 0 = nI i from (by simp [am_up, am_upf, upd, hlc, hl0, hpn, hbk, hhd, hak, hnu, hc, hlm])) ?_
  refine am_aload_n dX10_pinAll_110 rfl ?_
  refine am_iload dX10_pinAll_111 rfl ?_
  refine am_callVx (i := 0) (j := 0) (as := [.inl (nI r)]) (rest := [.inl (nI i), .inr (0, 0)]) dX10_pinAll_113 lkX10_masterOf ml_X10_158 imX10_masterOf seX10_masterOf rfl rfl (hG.m0 (by decide)) rfl (Nat.le_of_ble_eq_true rfl) rfl (c_masterOf hG (by omega) (am_up I i 50 r (nI 1)) (fun x hx => by simp [am_up, am_upf, upd, hj x hx])) ?_
  refine am_iconst (v := nI 0) dX10_pinAll_116 (by decide) ?_
  refine am_iload dX10_pinAll_117 rfl ?_
  refine am_aload_n dX10_pinAll_119 rfl ?_
  refine am_get (v := .inr (i, 50)) dX10_pinAll_120 fl_10_253 (hG.mn hi (by decide) (by decide)) rfl ?_
  refine am_iload dX10_pinAll_123 rfl ?_
  refine am_iald (a := r) dX10_pinAll_125 (hG.mn hi (by decide) (by decide)) rfl rfl (show r < 136 from (by omega)) (show 136 < 2 ^ 31 by decide) ?_
  refine am_top (show (am_up I i 50 r (nI 1)) i 50 r = nI 1 from (by simp [am_up, am_upf, upd, hlc, hl0, hpn, hbk, hhd, hak, hnu, hc, hlm])) ?_
  refine am_callVe (i := 0) (j := 0) (as := [.inl (nI i), .inl (nI (r % G.2.2.2.1)), .inl (nI 0), .inl (nI r), .inl (nI 1)]) (rest := []) dX10_pinAll_126 lkX10_post ml_X10_391 imX10_post seX10_post rfl rfl (hG.m0 (by decide)) rfl (Nat.le_of_ble_eq_true rfl) rfl (c_post0 hG (by omega) (Nat.mod_lt _ (by omega)) (nI 0) (nI r) (nI 1) (am_up I i 50 r (nI 1)) (by simp [am_up, am_upf, upd, hlc, hl0, hpn, hbk, hhd, hak, hnu, hc, hlm]) (by simp [am_up, am_upf, upd, hu _ (Nat.mod_lt _ (by omega))])) ?_
  refine am_iconst (v := nI 0) dX10_pinAll_129 (by decide) ?_
  refine am_iret dX10_pinAll_130 rfl (am_nz (by decide)).1 ?_
  exact ⟨rfl, rfl⟩
theorem c_pinAll1_2 {G : am_G} (hG : am_ok G) {d : Nat} {i r : Nat} (hi : i < G.2.2.2.1) (hr : r < 136) (I : am_I) (hj : ∀ x, x < G.2.2.2.1 → I x 40 6 = nI 1) (hu : ∀ x, x < G.2.2.2.1 → I x 40 5 = nI 1) (hlc : I i 48 6 = nI 1) (hl0 : I i 53 0 = nI r) (hpn : I i 52 r = nI 0) (hbk : I i 51 r = (-1 : Int32)) (hhd : I i 49 r = nI 0) (hak : I i 50 r = nI 0) (hnu : I i 40 0 = nI i) (hc : I 0 9 3 = nI 0) (hlm : I i 54 r = nI 2) : am_C G (d + 2) mX10_pinAll [.inr (0, 0), .inr (i, 40)] I (am_E (some (nI 0)) (am_up (am_up (am_up (am_up (am_up (am_up (am_up (am_up (am_up I i 50 r (nI 2)) 0 9 4 (((am_up I i 50 r (nI 2)) 0 9 4) + (nI 1))) 0 11 0 (nI i)) 0 11 1 (nI (r % G.2.2.2.1))) 0 11 2 (nI 0)) 0 11 3 (nI r)) 0 11 4 (nI 2)) 0 11 5 (((am_up (am_up I i 50 r (nI 2)) 0 9 4 (((am_up I i 50 r (nI 2)) 0 9 4) + (nI 1))) 0 0 7) + ((am_up (am_up I i 50 r (nI 2)) 0 9 4 (((am_up I i 50 r (nI 2)) 0 9 4) + (nI 1))) 0 10 (i * 4 + (r % G.2.2.2.1))))) 0 9 3 (nI 1))) := by
  have hn4 := hG.hi
  have hn2 := hG.lo
  refine am_of (by decide +kernel) hG.nd (Nat.le_of_ble_eq_true rfl) ?_
  refine am_aload_n dX10_pinAll_0 rfl ?_
  refine am_get (v := .inr (i, 48)) dX10_pinAll_1 fl_10_244 (hG.mn hi (by decide) (by decide)) rfl ?_
  refine am_astore_n dX10_pinAll_4 (by decide) ?_
  refine am_iconst (v := nI 0) dX10_pinAll_5 (by decide) ?_
  refine am_istore_n dX10_pinAll_6 (by decide) ?_
  refine am_iload_n dX10_pinAll_7 rfl ?_
  refine am_aload_n dX10_pinAll_8 rfl ?_
  refine am_get (v := .inl (I i 48 6)) dX10_pinAll_9 fl_10_353 (hG.mn hi (by decide) (by decide)) rfl ?_
  refine am_top (show I i 48 6 = nI 1 from (by simp [am_up, am_upf, upd, hlc, hl0, hpn, hbk, hhd, hak, hnu, hc, hlm])) ?_
  refine am_icmp_ge (tgt := 145) dX10_pinAll_12 (by decide) (fun h => absurd h (by decide)) (fun _ => ?_)
  refine am_aload_n dX10_pinAll_15 rfl ?_
  refine am_get (v := .inr (i, 53)) dX10_pinAll_16 fl_10_383 (hG.mn hi (by decide) (by decide)) rfl ?_
  refine am_iload_n dX10_pinAll_19 rfl ?_
  refine am_iald (a := 0) dX10_pinAll_20 (hG.mn hi (by decide) (by decide)) rfl rfl (show 0 < 136 from (by omega)) (show 136 < 2 ^ 31 by decide) ?_
  refine am_top (show I i 53 0 = nI r from (by simp [am_up, am_upf, upd, hlc, hl0, hpn, hbk, hhd, hak, hnu, hc, hlm])) ?_
  refine am_istore dX10_pinAll_21 (by decide) ?_
  refine am_aload_n dX10_pinAll_23 rfl ?_
  refine am_get (v := .inr (i, 52)) dX10_pinAll_24 fl_10_385 (hG.mn hi (by decide) (by decide)) rfl ?_
  refine am_iload dX10_pinAll_27 rfl ?_
  refine am_zald (a := r) dX10_pinAll_29 (hG.mn hi (by decide) (by decide)) rfl rfl (show r < 136 from (by omega)) (show 136 < 2 ^ 31 by decide) ?_
  refine am_top (show I i 52 r = nI 0 from (by simp [am_up, am_upf, upd, hlc, hl0, hpn, hbk, hhd, hak, hnu, hc, hlm])) ?_
  refine am_if_eq (tgt := 36) dX10_pinAll_30 (by decide) (fun _ => ?_) (fun h => absurd h (by decide))
  refine am_aload_n dX10_pinAll_36 rfl ?_
  refine am_get (v := .inr (i, 51)) dX10_pinAll_37 fl_10_256 (hG.mn hi (by decide) (by decide)) rfl ?_
  refine am_iload dX10_pinAll_40 rfl ?_
  refine am_iald (a := r) dX10_pinAll_42 (hG.mn hi (by decide) (by decide)) rfl rfl (show r < 136 from (by omega)) (show 136 < 2 ^ 31 by decide) ?_
  refine am_top (show I i 51 r = (-1 : Int32) from (by simp [am_up, am_upf, upd, hlc, hl0, hpn, hbk, hhd, hak, hnu, hc, hlm])) ?_
  refine am_iconst (v := (-1 : Int32)) dX10_pinAll_43 (by decide) ?_
  refine am_icmp_eq (tgt := 51) dX10_pinAll_44 (by decide) (fun _ => ?_) (fun h => absurd h (by decide))
  refine am_iconst (v := nI 0) dX10_pinAll_51 (by decide) ?_
  refine am_istore dX10_pinAll_52 (by decide) ?_
  refine am_iload dX10_pinAll_54 rfl ?_
  refine am_if_ne (tgt := 76) dX10_pinAll_56 (by decide) (fun h => absurd h (by decide)) (fun _ => ?_)
  refine am_aload_n dX10_pinAll_59 rfl ?_
  refine am_get (v := .inr (i, 49)) dX10_pinAll_60 fl_10_248 (hG.mn hi (by decide) (by decide)) rfl ?_
  refine am_iload dX10_pinAll_63 rfl ?_
  refine am_iald (a := r) dX10_pinAll_65 (hG.mn hi (by decide) (by decide)) rfl rfl (show r < 136 from (by omega)) (show 136 < 2 ^ 31 by decide) ?_
  refine am_top (show I i 49 r = nI 0 from (by simp [am_up, am_upf, upd, hlc, hl0, hpn, hbk, hhd, hak, hnu, hc, hlm])) ?_
  refine am_aload_n dX10_pinAll_66 rfl ?_
  refine am_get (v := .inr (i, 54)) dX10_pinAll_67 fl_10_259 (hG.mn hi (by decide) (by decide)) rfl ?_
  refine am_iload dX10_pinAll_70 rfl ?_
  refine am_iald (a := r) dX10_pinAll_72 (hG.mn hi (by decide) (by decide)) rfl rfl (show r < 136 from (by omega)) (show 136 < 2 ^ 31 by decide) ?_
  refine am_top (show I i 54 r = nI 2 from (by simp [am_up, am_upf, upd, hlc, hl0, hpn, hbk, hhd, hak, hnu, hc, hlm])) ?_
  refine am_icmp_ge (tgt := 131) dX10_pinAll_73 (by decide) (fun h => absurd h (by decide)) (fun _ => ?_)
  refine am_iload dX10_pinAll_76 rfl ?_
  refine am_if_ne (tgt := 129) dX10_pinAll_78 (by decide) (fun h => absurd h (by decide)) (fun _ => ?_)
  refine am_aload_n dX10_pinAll_81 rfl ?_
  refine am_get (v := .inr (i, 50)) dX10_pinAll_82 fl_10_253 (hG.mn hi (by decide) (by decide)) rfl ?_
  refine am_iload dX10_pinAll_85 rfl ?_
  refine am_iald (a := r) dX10_pinAll_87 (hG.mn hi (by decide) (by decide)) rfl rfl (show r < 136 from (by omega)) (show 136 < 2 ^ 31 by decide) ?_
  refine am_top (show I i 50 r = nI 0 from (by simp [am_up, am_upf, upd, hlc, hl0, hpn, hbk, hhd, hak, hnu, hc, hlm])) ?_
  refine am_if_ne (tgt := 129) dX10_pinAll_88 (by decide) (fun h => absurd h (by decide)) (fun _ => ?_)
  refine am_aload_n dX10_pinAll_91 rfl ?_
  refine am_get (v := .inr (i, 50)) dX10_pinAll_92 fl_10_253 (hG.mn hi (by decide) (by decide)) rfl ?_
  refine am_iload dX10_pinAll_95 rfl ?_
  refine am_aload_n dX10_pinAll_97 rfl ?_
  refine am_get (v := .inr (i, 54)) dX10_pinAll_98 fl_10_259 (hG.mn hi (by decide) (by decide)) rfl ?_
  refine am_iload dX10_pinAll_101 rfl ?_
  refine am_iald (a := r) dX10_pinAll_103 (hG.mn hi (by decide) (by decide)) rfl rfl (show r < 136 from (by omega)) (show 136 < 2 ^ 31 by decide) ?_
  refine am_top (show I i 54 r = nI 2 from (by simp [am_up, am_upf, upd, hlc, hl0, hpn, hbk, hhd, hak, hnu, hc, hlm])) ?_
  refine am_iast (a := r) dX10_pinAll_104 (hG.mn hi (by decide) (by decide)) rfl rfl (show r < 136 from (by omega)) (show 136 < 2 ^ 31 by decide) ?_
  refine am_aload_n dX10_pinAll_105 rfl ?_
  refine am_aload_n dX10_pinAll_106 rfl ?_
  refine am_get (v := .inl ((am_up I i 50 r (nI 2)) i 40 0)) dX10_pinAll_107 fl_10_388 (hG.mn hi (by decide) (by decide)) rfl ?_
  refine am_top (show (am_up I i 50 r (nI 2)) i 40 0 = nI i from (by simp [am_up, am_upf, upd, hlc, hl0, hpn, hbk, hhd, hak, hnu, hc, hlm])) ?_
  refine am_aload_n dX10_pinAll_110 rfl ?_
  refine am_iload dX10_pinAll_111 rfl ?_
  refine am_callVx (i := 0) (j := 0) (as := [.inl (nI r)]) (rest := [.inl (nI i), .inr (0, 0)]) dX10_pinAll_113 lkX10_masterOf ml_X10_158 imX10_masterOf seX10_masterOf rfl rfl (hG.m0 (by decide)) rfl (Nat.le_of_ble_eq_true rfl) rfl (c_masterOf hG (by omega) (am_up I i 50 r (nI 2)) (fun x hx => by simp [am_up, am_upf, upd, hj x hx])) ?_
  refine am_iconst (v := nI 0) dX10_pinAll_116 (by decide) ?_
  refine am_iload dX10_pinAll_117 rfl ?_
  refine am_aload_n dX10_pinAll_119 rfl ?_
  refine am_get (v := .inr (i, 50)) dX10_pinAll_120 fl_10_253 (hG.mn hi (by decide) (by decide)) rfl ?_
  refine am_iload dX10_pinAll_123 rfl ?_
  refine am_iald (a := r) dX10_pinAll_125 (hG.mn hi (by decide) (by decide)) rfl rfl (show r < 136 from (by omega)) (show 136 < 2 ^ 31 by decide) ?_
  refine am_top (show (am_up I i 50 r (nI 2)) i 50 r = nI 2 from (by simp [am_up, am_upf, upd, hlc, hl0, hpn, hbk, hhd, hak, hnu, hc, hlm])) ?_
  refine am_callVe (i := 0) (j := 0) (as := [.inl (nI i), .inl (nI (r % G.2.2.2.1)), .inl (nI 0), .inl (nI r), .inl (nI 2)]) (rest := []) dX10_pinAll_126 lkX10_post ml_X10_391 imX10_post seX10_post rfl rfl (hG.m0 (by decide)) rfl (Nat.le_of_ble_eq_true rfl) rfl (c_post0 hG (by omega) (Nat.mod_lt _ (by omega)) (nI 0) (nI r) (nI 2) (am_up I i 50 r (nI 2)) (by simp [am_up, am_upf, upd, hlc, hl0, hpn, hbk, hhd, hak, hnu, hc, hlm]) (by simp [am_up, am_upf, upd, hu _ (Nat.mod_lt _ (by omega))])) ?_
  refine am_iconst (v := nI 0) dX10_pinAll_129 (by decide) ?_
  refine am_iret dX10_pinAll_130 rfl (am_nz (by decide)).1 ?_
  exact ⟨rfl, rfl⟩
theorem c_unpinAll0 {G : am_G} (hG : am_ok G) {d : Nat} {i : Nat} (hi : i < G.2.2.2.1) (I : am_I)  (hlc : I i 48 6 = nI 0) : am_C G d mX10_unpinAll [.inr (0, 0), .inr (i, 40)] I (am_E none (I)) := by
  refine am_of (by decide +kernel) hG.nd (Nat.le_of_ble_eq_true rfl) ?_
  refine am_aload_n dX10_unpinAll_0 rfl ?_
  refine am_get (v := .inr (i, 48)) dX10_unpinAll_1 fl_10_244 (hG.mn hi (by decide) (by decide)) rfl ?_
  refine am_astore_n dX10_unpinAll_4 (by decide) ?_
  refine am_iconst (v := nI 0) dX10_unpinAll_5 (by decide) ?_
  refine am_istore_n dX10_unpinAll_6 (by decide) ?_
  refine am_iload_n dX10_unpinAll_7 rfl ?_
  refine am_aload_n dX10_unpinAll_8 rfl ?_
  refine am_get (v := .inl (I i 48 6)) dX10_unpinAll_9 fl_10_353 (hG.mn hi (by decide) (by decide)) rfl ?_
  refine am_top (show I i 48 6 = nI 0 from (by simp [am_up, am_upf, upd, hlc])) ?_
  refine am_icmp_ge (tgt := 33) dX10_unpinAll_12 (by decide) (fun _ => ?_) (fun h => absurd h (by decide))
  refine am_iconst (v := nI 0) dX10_unpinAll_33 (by decide) ?_
  refine am_istore_n dX10_unpinAll_34 (by decide) ?_
  refine am_iload_n dX10_unpinAll_35 rfl ?_
  refine am_aload_n dX10_unpinAll_36 rfl ?_
  refine am_get (v := .inl (I i 48 6)) dX10_unpinAll_37 fl_10_353 (hG.mn hi (by decide) (by decide)) rfl ?_
  refine am_top (show I i 48 6 = nI 0 from (by simp [am_up, am_upf, upd, hlc])) ?_
  refine am_icmp_ge (tgt := 60) dX10_unpinAll_40 (by decide) (fun _ => ?_) (fun h => absurd h (by decide))
  refine am_vret dX10_unpinAll_60 rfl ?_
  exact ⟨rfl, rfl⟩
theorem c_unpinAll1 {G : am_G} (hG : am_ok G) {d : Nat} {i r : Nat} (hi : i < G.2.2.2.1) (hr : r < 136) (I : am_I)  (hlc : I i 48 6 = nI 1) (hl0 : I i 53 0 = nI r) (hbk : I i 51 r = (-1 : Int32)) : am_C G (d + 2) mX10_unpinAll [.inr (0, 0), .inr (i, 40)] I (am_E none (am_up I i 52 r (nI 0))) := by
  refine am_of (by decide +kernel) hG.nd (Nat.le_of_ble_eq_true rfl) ?_
  refine am_aload_n dX10_unpinAll_0 rfl ?_
  refine am_get (v := .inr (i, 48)) dX10_unpinAll_1 fl_10_244 (hG.mn hi (by decide) (by decide)) rfl ?_
  refine am_astore_n dX10_unpinAll_4 (by decide) ?_
  refine am_iconst (v := nI 0) dX10_unpinAll_5 (by decide) ?_
  refine am_istore_n dX10_unpinAll_6 (by decide) ?_
  refine am_iload_n dX10_unpinAll_7 rfl ?_
  refine am_aload_n dX10_unpinAll_8 rfl ?_
  refine am_get (v := .inl (I i 48 6)) dX10_unpinAll_9 fl_10_353 (hG.mn hi (by decide) (by decide)) rfl ?_
  refine am_top (show I i 48 6 = nI 1 from (by simp [am_up, am_upf, upd, hlc, hl0, hbk])) ?_
  refine am_icmp_ge (tgt := 33) dX10_unpinAll_12 (by decide) (fun h => absurd h (by decide)) (fun _ => ?_)
  refine am_aload_n dX10_unpinAll_15 rfl ?_
  refine am_get (v := .inr (i, 52)) dX10_unpinAll_16 fl_10_385 (hG.mn hi (by decide) (by decide)) rfl ?_
  refine am_aload_n dX10_unpinAll_19 rfl ?_
  refine am_get (v := .inr (i, 53)) dX10_unpinAll_20 fl_10_383 (hG.mn hi (by decide) (by decide)) rfl ?_
  refine am_iload_n dX10_unpinAll_23 rfl ?_
  refine am_iald (a := 0) dX10_unpinAll_24 (hG.mn hi (by decide) (by decide)) rfl rfl (show 0 < 136 from (by omega)) (show 136 < 2 ^ 31 by decide) ?_
  refine am_top (show I i 53 0 = nI r from (by simp [am_up, am_upf, upd, hlc, hl0, hbk])) ?_
  refine am_iconst (v := nI 0) dX10_unpinAll_25 (by decide) ?_
  refine am_zast (a := r) dX10_unpinAll_26 (hG.mn hi (by decide) (by decide)) rfl (by decide) rfl (show r < 136 from (by omega)) (show 136 < 2 ^ 31 by decide) ?_
  refine am_iinc (v := nI 1) dX10_unpinAll_27 rfl (by decide) ?_
  refine am_goto (tgt := 7) dX10_unpinAll_30 (by decide) ?_
  refine am_iload_n dX10_unpinAll_7 rfl ?_
  refine am_aload_n dX10_unpinAll_8 rfl ?_
  refine am_get (v := .inl ((am_up I i 52 r (nI 0)) i 48 6)) dX10_unpinAll_9 fl_10_353 (hG.mn hi (by decide) (by decide)) rfl ?_
  refine am_top (show (am_up I i 52 r (nI 0)) i 48 6 = nI 1 from (by simp [am_up, am_upf, upd, hlc, hl0, hbk])) ?_
  refine am_icmp_ge (tgt := 33) dX10_unpinAll_12 (by decide) (fun _ => ?_) (fun h => absurd h (by decide))
  refine am_iconst (v := nI 0) dX10_unpinAll_33 (by decide) ?_
  refine am_istore_n dX10_unpinAll_34 (by decide) ?_
  refine am_iload_n dX10_unpinAll_35 rfl ?_
  refine am_aload_n dX10_unpinAll_36 rfl ?_
  refine am_get (v := .inl ((am_up I i 52 r (nI 0)) i 48 6)) dX10_unpinAll_37 fl_10_353 (hG.mn hi (by decide) (by decide)) rfl ?_
  refine am_top (show (am_up I i 52 r (nI 0)) i 48 6 = nI 1 from (by simp [am_up, am_upf, upd, hlc, hl0, hbk])) ?_
  refine am_icmp_ge (tgt := 60) dX10_unpinAll_40 (by decide) (fun h => absurd h (by decide)) (fun _ => ?_)
  refine am_aload_n dX10_unpinAll_43 rfl ?_
  refine am_aload_n dX10_unpinAll_44 rfl ?_
  refine am_aload_n dX10_unpinAll_45 rfl ?_
  refine am_get (v := .inr (i, 53)) dX10_unpinAll_46 fl_10_383 (hG.mn hi (by decide) (by decide)) rfl ?_
  refine am_iload_n dX10_unpinAll_49 rfl ?_
  refine am_iald (a := 0) dX10_unpinAll_50 (hG.mn hi (by decide) (by decide)) rfl rfl (show 0 < 136 from (by omega)) (show 136 < 2 ^ 31 by decide) ?_
  refine am_top (show (am_up I i 52 r (nI 0)) i 53 0 = nI r from (by simp [am_up, am_upf, upd, hlc, hl0, hbk])) ?_
  refine am_callVe (i := 0) (j := 0) (as := [.inr (i, 40), .inl (nI r)]) (rest := []) dX10_unpinAll_51 lkX10_goDown ml_X10_395 imX10_goDown seX10_goDown rfl rfl (hG.m0 (by decide)) rfl (Nat.le_of_ble_eq_true rfl) rfl (c_goDownNo hG hi (by omega) (am_up I i 52 r (nI 0)) (by simp [am_up, am_upf, upd, hlc, hl0, hbk])) ?_
  refine am_iinc (v := nI 1) dX10_unpinAll_54 rfl (by decide) ?_
  refine am_goto (tgt := 35) dX10_unpinAll_57 (by decide) ?_
  refine am_iload_n dX10_unpinAll_35 rfl ?_
  refine am_aload_n dX10_unpinAll_36 rfl ?_
  refine am_get (v := .inl ((am_up I i 52 r (nI 0)) i 48 6)) dX10_unpinAll_37 fl_10_353 (hG.mn hi (by decide) (by decide)) rfl ?_
  refine am_top (show (am_up I i 52 r (nI 0)) i 48 6 = nI 1 from (by simp [am_up, am_upf, upd, hlc, hl0, hbk])) ?_
  refine am_icmp_ge (tgt := 60) dX10_unpinAll_40 (by decide) (fun _ => ?_) (fun h => absurd h (by decide))
  refine am_vret dX10_unpinAll_60 rfl ?_
  exact ⟨rfl, rfl⟩
