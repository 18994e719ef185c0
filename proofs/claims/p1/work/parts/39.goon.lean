theorem c_Jidle0 {G : am_G} (hG : am_ok G) {d : Nat} {i : Nat} (hi : i < G.2.2.2.1) (I : am_I)  (hct : I i 44 5 = nI 0) (hlg : I i 44 2 = nI 0) : am_C G d mX3_isIdle [.inr (i, 44)] I (am_E (some (nI 1)) (I)) := by
  refine am_of (by decide +kernel) hG.nd (Nat.le_of_ble_eq_true rfl) ?_
  refine am_aload_n dX3_isIdle_0 rfl ?_
  refine am_get (v := .inl (I i 44 5)) dX3_isIdle_1 fl_3_25 (hG.mn hi (by decide) (by decide)) rfl ?_
  refine am_top (show I i 44 5 = nI 0 from (by simp [am_up, am_upf, upd, hct, hlg])) ?_
  refine am_if_ne (tgt := 18) dX3_isIdle_4 (by decide) (fun h => absurd h (by decide)) (fun _ => ?_)
  refine am_aload_n dX3_isIdle_7 rfl ?_
  refine am_get (v := .inl (I i 44 2)) dX3_isIdle_8 fl_3_28 (hG.mn hi (by decide) (by decide)) rfl ?_
  refine am_top (show I i 44 2 = nI 0 from (by simp [am_up, am_upf, upd, hct, hlg])) ?_
  refine am_if_ne (tgt := 18) dX3_isIdle_11 (by decide) (fun h => absurd h (by decide)) (fun _ => ?_)
  refine am_iconst (v := nI 1) dX3_isIdle_14 (by decide) ?_
  refine am_goto (tgt := 19) dX3_isIdle_15 (by decide) ?_
  refine am_iret dX3_isIdle_19 rfl (am_nz (by decide)).1 ?_
  exact ⟨rfl, rfl⟩
theorem c_mayGoOn0 {G : am_G} (hG : am_ok G) {d : Nat} {i : Nat} (hi : i < G.2.2.2.1) (I : am_I)  (hst : I i 55 5 = nI 1) (hwl : I i 55 11 = nI 0) (hkd : I i 55 0 = nI 0) (hct : I i 44 5 = nI 0) (hlg : I i 44 2 = nI 0) : am_C G (d + 1) mX10_mayGoOn [.inr (0, 0), .inr (i, 40)] I (am_E (some (nI 1)) (am_up I i 55 11 (nI 0))) := by
  refine am_of (by decide +kernel) hG.nd (Nat.le_of_ble_eq_true rfl) ?_
  refine am_aload_n dX10_mayGoOn_0 rfl ?_
  refine am_get (v := .inr (i, 55)) dX10_mayGoOn_1 fl_10_84 (hG.mn hi (by decide) (by decide)) rfl ?_
  refine am_astore_n dX10_mayGoOn_4 (by decide) ?_
  refine am_aload_n dX10_mayGoOn_5 rfl ?_
  refine am_get (v := .inl (I i 55 5)) dX10_mayGoOn_6 fl_10_88 (hG.mn hi (by decide) (by decide)) rfl ?_
  refine am_top (show I i 55 5 = nI 1 from (by simp [am_up, am_upf, upd, hst, hwl, hkd, hct, hlg])) ?_
  refine am_iconst (v := nI 1) dX10_mayGoOn_9 (by decide) ?_
  refine am_icmp_ne (tgt := 30) dX10_mayGoOn_10 (by decide) (fun h => absurd h (by decide)) (fun _ => ?_)
  refine am_aload_n dX10_mayGoOn_13 rfl ?_
  refine am_get (v := .inl (I i 55 11)) dX10_mayGoOn_14 fl_10_368 (hG.mn hi (by decide) (by decide)) rfl ?_
  refine am_top (show I i 55 11 = nI 0 from (by simp [am_up, am_upf, upd, hst, hwl, hkd, hct, hlg])) ?_
  refine am_if_eq (tgt := 32) dX10_mayGoOn_17 (by decide) (fun _ => ?_) (fun h => absurd h (by decide))
  refine am_aload_n dX10_mayGoOn_32 rfl ?_
  refine am_iconst (v := nI 0) dX10_mayGoOn_33 (by decide) ?_
  refine am_putz (x := nI 0) dX10_mayGoOn_34 fp_10_368 (hG.mn hi (by decide) (by decide)) (by decide) (Nat.le_of_ble_eq_true rfl) rfl ?_
  refine am_aload_n dX10_mayGoOn_37 rfl ?_
  refine am_get (v := .inl ((am_up I i 55 11 (nI 0)) i 55 0)) dX10_mayGoOn_38 fl_10_374 (hG.mn hi (by decide) (by decide)) rfl ?_
  refine am_top (show (am_up I i 55 11 (nI 0)) i 55 0 = nI 0 from (by simp [am_up, am_upf, upd, hst, hwl, hkd, hct, hlg])) ?_
  refine am_bipush (v := nI 10) dX10_mayGoOn_41 (by decide) ?_
  refine am_icmp_ne (tgt := 63) dX10_mayGoOn_43 (by decide) (fun _ => ?_) (fun h => absurd h (by decide))
  refine am_iconst (v := nI 1) dX10_mayGoOn_63 (by decide) ?_
  refine am_iret dX10_mayGoOn_64 rfl (am_nz (by decide)).1 ?_
  exact ⟨rfl, rfl⟩
theorem c_mayGoOn1 {G : am_G} (hG : am_ok G) {d : Nat} {i : Nat} (hi : i < G.2.2.2.1) (I : am_I)  (hst : I i 55 5 = nI 1) (hwl : I i 55 11 = nI 0) (hkd : I i 55 0 = nI 1) (hct : I i 44 5 = nI 0) (hlg : I i 44 2 = nI 0) : am_C G (d + 1) mX10_mayGoOn [.inr (0, 0), .inr (i, 40)] I (am_E (some (nI 1)) (am_up I i 55 11 (nI 0))) := by
  refine am_of (by decide +kernel) hG.nd (Nat.le_of_ble_eq_true rfl) ?_
  refine am_aload_n dX10_mayGoOn_0 rfl ?_
  refine am_get (v := .inr (i, 55)) dX10_mayGoOn_1 fl_10_84 (hG.mn hi (by decide) (by decide)) rfl ?_
  refine am_astore_n dX10_mayGoOn_4 (by decide) ?_
  refine am_aload_n dX10_mayGoOn_5 rfl ?_
  refine am_get (v := .inl (I i 55 5)) dX10_mayGoOn_6 fl_10_88 (hG.mn hi (by decide) (by decide)) rfl ?_
  refine am_top (show I i 55 5 = nI 1 from (by simp [am_up, am_upf, upd, hst, hwl, hkd, hct, hlg])) ?_
  refine am_iconst (v := nI 1) dX10_mayGoOn_9 (by decide) ?_
  refine am_icmp_ne (tgt := 30) dX10_mayGoOn_10 (by decide) (fun h => absurd h (by decide)) (fun _ => ?_)
  refine am_aload_n dX10_mayGoOn_13 rfl ?_
  refine am_get (v := .inl (I i 55 11)) dX10_mayGoOn_14 fl_10_368 (hG.mn hi (by decide) (by decide)) rfl ?_
  refine am_top (show I i 55 11 = nI 0 from (by simp [am_up, am_upf, upd, hst, hwl, hkd, hct, hlg])) ?_
  refine am_if_eq (tgt := 32) dX10_mayGoOn_17 (by decide) (fun _ => ?_) (fun h => absurd h (by decide))
  refine am_aload_n dX10_mayGoOn_32 rfl ?_
  refine am_iconst (v := nI 0) dX10_mayGoOn_33 (by decide) ?_
  refine am_putz (x := nI 0) dX10_mayGoOn_34 fp_10_368 (hG.mn hi (by decide) (by decide)) (by decide) (Nat.le_of_ble_eq_true rfl) rfl ?_
  refine am_aload_n dX10_mayGoOn_37 rfl ?_
  refine am_get (v := .inl ((am_up I i 55 11 (nI 0)) i 55 0)) dX10_mayGoOn_38 fl_10_374 (hG.mn hi (by decide) (by decide)) rfl ?_
  refine am_top (show (am_up I i 55 11 (nI 0)) i 55 0 = nI 1 from (by simp [am_up, am_upf, upd, hst, hwl, hkd, hct, hlg])) ?_
  refine am_bipush (v := nI 10) dX10_mayGoOn_41 (by decide) ?_
  refine am_icmp_ne (tgt := 63) dX10_mayGoOn_43 (by decide) (fun _ => ?_) (fun h => absurd h (by decide))
  refine am_iconst (v := nI 1) dX10_mayGoOn_63 (by decide) ?_
  refine am_iret dX10_mayGoOn_64 rfl (am_nz (by decide)).1 ?_
  exact ⟨rfl, rfl⟩
theorem c_mayGoOn2 {G : am_G} (hG : am_ok G) {d : Nat} {i : Nat} (hi : i < G.2.2.2.1) (I : am_I)  (hst : I i 55 5 = nI 1) (hwl : I i 55 11 = nI 0) (hkd : I i 55 0 = nI 2) (hct : I i 44 5 = nI 0) (hlg : I i 44 2 = nI 0) : am_C G (d + 1) mX10_mayGoOn [.inr (0, 0), .inr (i, 40)] I (am_E (some (nI 1)) (am_up I i 55 11 (nI 0))) := by
  refine am_of (by decide +kernel) hG.nd (Nat.le_of_ble_eq_true rfl) ?_
  refine am_aload_n dX10_mayGoOn_0 rfl ?_
  refine am_get (v := .inr (i, 55)) dX10_mayGoOn_1 fl_10_84 (hG.mn hi (by decide) (by decide)) rfl ?_
  refine am_astore_n dX10_mayGoOn_4 (by decide) ?_
  refine am_aload_n dX10_mayGoOn_5 rfl ?_
  refine am_get (v := .inl (I i 55 5)) dX10_mayGoOn_6 fl_10_88 (hG.mn hi (by decide) (by decide)) rfl ?_
  refine am_top (show I i 55 5 = nI 1 from (by simp [am_up, am_upf, upd, hst, hwl, hkd, hct, hlg])) ?_
  refine am_iconst (v := nI 1) dX10_mayGoOn_9 (by decide) ?_
  refine am_icmp_ne (tgt := 30) dX10_mayGoOn_10 (by decide) (fun h => absurd h (by decide)) (fun _ => ?_)
  refine am_aload_n dX10_mayGoOn_13 rfl ?_
  refine am_get (v := .inl (I i 55 11)) dX10_mayGoOn_14 fl_10_368 (hG.mn hi (by decide) (by decide)) rfl ?_
  refine am_top (show I i 55 11 = nI 0 from (by simp [am_up, am_upf, upd, hst, hwl, hkd, hct, hlg])) ?_
  refine am_if_eq (tgt := 32) dX10_mayGoOn_17 (by decide) (fun _ => ?_) (fun h => absurd h (by decide))
  refine am_aload_n dX10_mayGoOn_32 rfl ?_
  refine am_iconst (v := nI 0) dX10_mayGoOn_33 (by decide) ?_
  refine am_putz (x := nI 0) dX10_mayGoOn_34 fp_10_368 (hG.mn hi (by decide) (by decide)) (by decide) (Nat.le_of_ble_eq_true rfl) rfl ?_
  refine am_aload_n dX10_mayGoOn_37 rfl ?_
  refine am_get (v := .inl ((am_up I i 55 11 (nI 0)) i 55 0)) dX10_mayGoOn_38 fl_10_374 (hG.mn hi (by decide) (by decide)) rfl ?_
  refine am_top (show (am_up I i 55 11 (nI 0)) i 55 0 = nI 2 from (by simp [am_up, am_upf, upd, hst, hwl, hkd, hct, hlg])) ?_
  refine am_bipush (v := nI 10) dX10_mayGoOn_41 (by decide) ?_
  refine am_icmp_ne (tgt := 63) dX10_mayGoOn_43 (by decide) (fun _ => ?_) (fun h => absurd h (by decide))
  refine am_iconst (v := nI 1) dX10_mayGoOn_63 (by decide) ?_
  refine am_iret dX10_mayGoOn_64 rfl (am_nz (by decide)).1 ?_
  exact ⟨rfl, rfl⟩
theorem c_mayGoOn3 {G : am_G} (hG : am_ok G) {d : Nat} {i : Nat} (hi : i < G.2.2.2.1) (I : am_I)  (hst : I i 55 5 = nI 1) (hwl : I i 55 11 = nI 0) (hkd : I i 55 0 = nI 3) (hct : I i 44 5 = nI 0) (hlg : I i 44 2 = nI 0) : am_C G (d + 1) mX10_mayGoOn [.inr (0, 0), .inr (i, 40)] I (am_E (some (nI 1)) (am_up I i 55 11 (nI 0))) := by
  refine am_of (by decide +kernel) hG.nd (Nat.le_of_ble_eq_true rfl) ?_
  refine am_aload_n dX10_mayGoOn_0 rfl ?_
  refine am_get (v := .inr (i, 55)) dX10_mayGoOn_1 fl_10_84 (hG.mn hi (by decide) (by decide)) rfl ?_
  refine am_astore_n dX10_mayGoOn_4 (by decide) ?_
  refine am_aload_n dX10_mayGoOn_5 rfl ?_
  refine am_get (v := .inl (I i 55 5)) dX10_mayGoOn_6 fl_10_88 (hG.mn hi (by decide) (by decide)) rfl ?_
  refine am_top (show I i 55 5 = nI 1 from (by simp [am_up, am_upf, upd, hst, hwl, hkd, hct, hlg])) ?_
  refine am_iconst (v := nI 1) dX10_mayGoOn_9 (by decide) ?_
  refine am_icmp_ne (tgt := 30) dX10_mayGoOn_10 (by decide) (fun h => absurd h (by decide)) (fun _ => ?_)
  refine am_aload_n dX10_mayGoOn_13 rfl ?_
  refine am_get (v := .inl (I i 55 11)) dX10_mayGoOn_14 fl_10_368 (hG.mn hi (by decide) (by decide)) rfl ?_
  refine am_top (show I i 55 11 = nI 0 from (by simp [am_up, am_upf, upd, hst, hwl, hkd, hct, hlg])) ?_
  refine am_if_eq (tgt := 32) dX10_mayGoOn_17 (by decide) (fun _ => ?_) (fun h => absurd h (by decide))
  refine am_aload_n dX10_mayGoOn_32 rfl ?_
  refine am_iconst (v := nI 0) dX10_mayGoOn_33 (by decide) ?_
  refine am_putz (x := nI 0) dX10_mayGoOn_34 fp_10_368 (hG.mn hi (by decide) (by decide)) (by decide) (Nat.le_of_ble_eq_true rfl) rfl ?_
  refine am_aload_n dX10_mayGoOn_37 rfl ?_
  refine am_get (v := .inl ((am_up I i 55 11 (nI 0)) i 55 0)) dX10_mayGoOn_38 fl_10_374 (hG.mn hi (by decide) (by decide)) rfl ?_
  refine am_top (show (am_up I i 55 11 (nI 0)) i 55 0 = nI 3 from (by simp [am_up, am_upf, upd, hst, hwl, hkd, hct, hlg])) ?_
  refine am_bipush (v := nI 10) dX10_mayGoOn_41 (by decide) ?_
  refine am_icmp_ne (tgt := 63) dX10_mayGoOn_43 (by decide) (fun _ => ?_) (fun h => absurd h (by decide))
  refine am_iconst (v := nI 1) dX10_mayGoOn_63 (by decide) ?_
  refine am_iret dX10_mayGoOn_64 rfl (am_nz (by decide)).1 ?_
  exact ⟨rfl, rfl⟩
theorem c_mayGoOn4 {G : am_G} (hG : am_ok G) {d : Nat} {i : Nat} (hi : i < G.2.2.2.1) (I : am_I)  (hst : I i 55 5 = nI 1) (hwl : I i 55 11 = nI 0) (hkd : I i 55 0 = nI 4) (hct : I i 44 5 = nI 0) (hlg : I i 44 2 = nI 0) : am_C G (d + 1) mX10_mayGoOn [.inr (0, 0), .inr (i, 40)] I (am_E (some (nI 1)) (am_up I i 55 11 (nI 0))) := by
  refine am_of (by decide +kernel) hG.nd (Nat.le_of_ble_eq_true rfl) ?_
  refine am_aload_n dX10_mayGoOn_0 rfl ?_
  refine am_get (v := .inr (i, 55)) dX10_mayGoOn_1 fl_10_84 (hG.mn hi (by decide) (by decide)) rfl ?_
  refine am_astore_n dX10_mayGoOn_4 (by decide) ?_
  refine am_aload_n dX10_mayGoOn_5 rfl ?_
  refine am_get (v := .inl (I i 55 5)) dX10_mayGoOn_6 fl_10_88 (hG.mn hi (by decide) (by decide)) rfl ?_
  refine am_top (show I i 55 5 = nI 1 from (by simp [am_up, am_upf, upd, hst, hwl, hkd, hct, hlg])) ?_
  refine am_iconst (v := nI 1) dX10_mayGoOn_9 (by decide) ?_
  refine am_icmp_ne (tgt := 30) dX10_mayGoOn_10 (by decide) (fun h => absurd h (by decide)) (fun _ => ?_)
  refine am_aload_n dX10_mayGoOn_13 rfl ?_
  refine am_get (v := .inl (I i 55 11)) dX10_mayGoOn_14 fl_10_368 (hG.mn hi (by decide) (by decide)) rfl ?_
  refine am_top (show I i 55 11 = nI 0 from (by simp [am_up, am_upf, upd, hst, hwl, hkd, hct, hlg])) ?_
  refine am_if_eq (tgt := 32) dX10_mayGoOn_17 (by decide) (fun _ => ?_) (fun h => absurd h (by decide))
  refine am_aload_n dX10_mayGoOn_32 rfl ?_
  refine am_iconst (v := nI 0) dX10_mayGoOn_33 (by decide) ?_
  refine am_putz (x := nI 0) dX10_mayGoOn_34 fp_10_368 (hG.mn hi (by decide) (by decide)) (by decide) (Nat.le_of_ble_eq_true rfl) rfl ?_
  refine am_aload_n dX10_mayGoOn_37 rfl ?_
  refine am_get (v := .inl ((am_up I i 55 11 (nI 0)) i 55 0)) dX10_mayGoOn_38 fl_10_374 (hG.mn hi (by decide) (by decide)) rfl ?_
  refine am_top (show (am_up I i 55 11 (nI 0)) i 55 0 = nI 4 from (by simp [am_up, am_upf, upd, hst, hwl, hkd, hct, hlg])) ?_
  refine am_bipush (v := nI 10) dX10_mayGoOn_41 (by decide) ?_
  refine am_icmp_ne (tgt := 63) dX10_mayGoOn_43 (by decide) (fun _ => ?_) (fun h => absurd h (by decide))
  refine am_iconst (v := nI 1) dX10_mayGoOn_63 (by decide) ?_
  refine am_iret dX10_mayGoOn_64 rfl (am_nz (by decide)).1 ?_
  exact ⟨rfl, rfl⟩
theorem c_mayGoOn5 {G : am_G} (hG : am_ok G) {d : Nat} {i : Nat} (hi : i < G.2.2.2.1) (I : am_I)  (hst : I i 55 5 = nI 1) (hwl : I i 55 11 = nI 0) (hkd : I i 55 0 = nI 5) (hct : I i 44 5 = nI 0) (hlg : I i 44 2 = nI 0) : am_C G (d + 1) mX10_mayGoOn [.inr (0, 0), .inr (i, 40)] I (am_E (some (nI 1)) (am_up I i 55 11 (nI 0))) := by
  refine am_of (by decide +kernel) hG.nd (Nat.le_of_ble_eq_true rfl) ?_
  refine am_aload_n dX10_mayGoOn_0 rfl ?_
  refine am_get (v := .inr (i, 55)) dX10_mayGoOn_1 fl_10_84 (hG.mn hi (by decide) (by decide)) rfl ?_
  refine am_astore_n dX10_mayGoOn_4 (by decide) ?_
  refine am_aload_n dX10_mayGoOn_5 rfl ?_
  refine am_get (v := .inl (I i 55 5)) dX10_mayGoOn_6 fl_10_88 (hG.mn hi (by decide) (by decide)) rfl ?_
  refine am_top (show I i 55 5 = nI 1 from (by simp [am_up, am_upf, upd, hst, hwl, hkd, hct, hlg])) ?_
  refine am_iconst (v := nI 1) dX10_mayGoOn_9 (by decide) ?_
  refine am_icmp_ne (tgt := 30) dX10_mayGoOn_10 (by decide) (fun h => absurd h (by decide)) (fun _ => ?_)
  refine am_aload_n dX10_mayGoOn_13 rfl ?_
  refine am_get (v := .inl (I i 55 11)) dX10_mayGoOn_14 fl_10_368 (hG.mn hi (by decide) (by decide)) rfl ?_
  refine am_top (show I i 55 11 = nI 0 from (by simp [am_up, am_upf, upd, hst, hwl, hkd, hct, hlg])) ?_
  refine am_if_eq (tgt := 32) dX10_mayGoOn_17 (by decide) (fun _ => ?_) (fun h => absurd h (by decide))
  refine am_aload_n dX10_mayGoOn_32 rfl ?_
  refine am_iconst (v := nI 0) dX10_mayGoOn_33 (by decide) ?_
  refine am_putz (x := nI 0) dX10_mayGoOn_34 fp_10_368 (hG.mn hi (by decide) (by decide)) (by decide) (Nat.le_of_ble_eq_true rfl) rfl ?_
  refine am_aload_n dX10_mayGoOn_37 rfl ?_
  refine am_get (v := .inl ((am_up I i 55 11 (nI 0)) i 55 0)) dX10_mayGoOn_38 fl_10_374 (hG.mn hi (by decide) (by decide)) rfl ?_
  refine am_top (show (am_up I i 55 11 (nI 0)) i 55 0 = nI 5 from (by simp [am_up, am_upf, upd, hst, hwl, hkd, hct, hlg])) ?_
  refine am_bipush (v := nI 10) dX10_mayGoOn_41 (by decide) ?_
  refine am_icmp_ne (tgt := 63) dX10_mayGoOn_43 (by decide) (fun _ => ?_) (fun h => absurd h (by decide))
  refine am_iconst (v := nI 1) dX10_mayGoOn_63 (by decide) ?_
  refine am_iret dX10_mayGoOn_64 rfl (am_nz (by decide)).1 ?_
  exact ⟨rfl, rfl⟩
theorem c_mayGoOn6 {G : am_G} (hG : am_ok G) {d : Nat} {i : Nat} (hi : i < G.2.2.2.1) (I : am_I)  (hst : I i 55 5 = nI 1) (hwl : I i 55 11 = nI 0) (hkd : I i 55 0 = nI 6) (hct : I i 44 5 = nI 0) (hlg : I i 44 2 = nI 0) : am_C G (d + 1) mX10_mayGoOn [.inr (0, 0), .inr (i, 40)] I (am_E (some (nI 1)) (am_up I i 55 11 (nI 0))) := by
  refine am_of (by decide +kernel) hG.nd (Nat.le_of_ble_eq_true rfl) ?_
  refine am_aload_n dX10_mayGoOn_0 rfl ?_
  refine am_get (v := .inr (i, 55)) dX10_mayGoOn_1 fl_10_84 (hG.mn hi (by decide) (by decide)) rfl ?_
  refine am_astore_n dX10_mayGoOn_4 (by decide) ?_
  refine am_aload_n dX10_mayGoOn_5 rfl ?_
  refine am_get (v := .inl (I i 55 5)) dX10_mayGoOn_6 fl_10_88 (hG.mn hi (by decide) (by decide)) rfl ?_
  refine am_top (show I i 55 5 = nI 1 from (by simp [am_up, am_upf, upd, hst, hwl, hkd, hct, hlg])) ?_
  refine am_iconst (v := nI 1) dX10_mayGoOn_9 (by decide) ?_
  refine am_icmp_ne (tgt := 30) dX10_mayGoOn_10 (by decide) (fun h => absurd h (by decide)) (fun _ => ?_)
  refine am_aload_n dX10_mayGoOn_13 rfl ?_
  refine am_get (v := .inl (I i 55 11)) dX10_mayGoOn_14 fl_10_368 (hG.mn hi (by decide) (by decide)) rfl ?_
  refine am_top (show I i 55 11 = nI 0 from (by simp [am_up, am_upf, upd, hst, hwl, hkd, hct, hlg])) ?_
  refine am_if_eq (tgt := 32) dX10_mayGoOn_17 (by decide) (fun _ => ?_) (fun h => absurd h (by decide))
  refine am_aload_n dX10_mayGoOn_32 rfl ?_
  refine am_iconst (v := nI 0) dX10_mayGoOn_33 (by decide) ?_
  refine am_putz (x := nI 0) dX10_mayGoOn_34 fp_10_368 (hG.mn hi (by decide) (by decide)) (by decide) (Nat.le_of_ble_eq_true rfl) rfl ?_
  refine am_aload_n dX10_mayGoOn_37 rfl ?_
  refine am_get (v := .inl ((am_up I i 55 11 (nI 0)) i 55 0)) dX10_mayGoOn_38 fl_10_374 (hG.mn hi (by decide) (by decide)) rfl ?_
  refine am_top (show (am_up I i 55 11 (nI 0)) i 55 0 = nI 6 from (by simp [am_up, am_upf, upd, hst, hwl, hkd, hct, hlg])) ?_
  refine am_bipush (v := nI 10) dX10_mayGoOn_41 (by decide) ?_
  refine am_icmp_ne (tgt := 63) dX10_mayGoOn_43 (by decide) (fun _ => ?_) (fun h => absurd h (by decide))
  refine am_iconst (v := nI 1) dX10_mayGoOn_63 (by decide) ?_
  refine am_iret dX10_mayGoOn_64 rfl (am_nz (by decide)).1 ?_
  exact ⟨rfl, rfl⟩
theorem c_mayGoOn7 {G : am_G} (hG : am_ok G) {d : Nat} {i : Nat} (hi : i < G.2.2.2.1) (I : am_I)  (hst : I i 55 5 = nI 1) (hwl : I i 55 11 = nI 0) (hkd : I i 55 0 = nI 7) (hct : I i 44 5 = nI 0) (hlg : I i 44 2 = nI 0) : am_C G (d + 1) mX10_mayGoOn [.inr (0, 0), .inr (i, 40)] I (am_E (some (nI 1)) (am_up I i 55 11 (nI 0))) := by
  refine am_of (by decide +kernel) hG.nd (Nat.le_of_ble_eq_true rfl) ?_
  refine am_aload_n dX10_mayGoOn_0 rfl ?_
  refine am_get (v := .inr (i, 55)) dX10_mayGoOn_1 fl_10_84 (hG.mn hi (by decide) (by decide)) rfl ?_
  refine am_astore_n dX10_mayGoOn_4 (by decide) ?_
  refine am_aload_n dX10_mayGoOn_5 rfl ?_
  refine am_get (v := .inl (I i 55 5)) dX10_mayGoOn_6 fl_10_88 (hG.mn hi (by decide) (by decide)) rfl ?_
  refine am_top (show I i 55 5 = nI 1 from (by simp [am_up, am_upf, upd, hst, hwl, hkd, hct, hlg])) ?_
  refine am_iconst (v := nI 1) dX10_mayGoOn_9 (by decide) ?_
  refine am_icmp_ne (tgt := 30) dX10_mayGoOn_10 (by decide) (fun h => absurd h (by decide)) (fun _ => ?_)
  refine am_aload_n dX10_mayGoOn_13 rfl ?_
  refine am_get (v := .inl (I i 55 11)) dX10_mayGoOn_14 fl_10_368 (hG.mn hi (by decide) (by decide)) rfl ?_
  refine am_top (show I i 55 11 = nI 0 from (by simp [am_up, am_upf, upd, hst, hwl, hkd, hct, hlg])) ?_
  refine am_if_eq (tgt := 32) dX10_mayGoOn_17 (by decide) (fun _ => ?_) (fun h => absurd h (by decide))
  refine am_aload_n dX10_mayGoOn_32 rfl ?_
  refine am_iconst (v := nI 0) dX10_mayGoOn_33 (by decide) ?_
  refine am_putz (x := nI 0) dX10_mayGoOn_34 fp_10_368 (hG.mn hi (by decide) (by decide)) (by decide) (Nat.le_of_ble_eq_true rfl) rfl ?_
  refine am_aload_n dX10_mayGoOn_37 rfl ?_
  refine am_get (v := .inl ((am_up I i 55 11 (nI 0)) i 55 0)) dX10_mayGoOn_38 fl_10_374 (hG.mn hi (by decide) (by decide)) rfl ?_
  refine am_top (show (am_up I i 55 11 (nI 0)) i 55 0 = nI 7 from (by simp [am_up, am_upf, upd, hst, hwl, hkd, hct, hlg])) ?_
  refine am_bipush (v := nI 10) dX10_mayGoOn_41 (by decide) ?_
  refine am_icmp_ne (tgt := 63) dX10_mayGoOn_43 (by decide) (fun _ => ?_) (fun h => absurd h (by decide))
  refine am_iconst (v := nI 1) dX10_mayGoOn_63 (by decide) ?_
  refine am_iret dX10_mayGoOn_64 rfl (am_nz (by decide)).1 ?_
  exact ⟨rfl, rfl⟩
theorem c_mayGoOn8 {G : am_G} (hG : am_ok G) {d : Nat} {i : Nat} (hi : i < G.2.2.2.1) (I : am_I)  (hst : I i 55 5 = nI 1) (hwl : I i 55 11 = nI 0) (hkd : I i 55 0 = nI 8) (hct : I i 44 5 = nI 0) (hlg : I i 44 2 = nI 0) : am_C G (d + 1) mX10_mayGoOn [.inr (0, 0), .inr (i, 40)] I (am_E (some (nI 1)) (am_up I i 55 11 (nI 0))) := by
  refine am_of (by decide +kernel) hG.nd (Nat.le_of_ble_eq_true rfl) ?_
  refine am_aload_n dX10_mayGoOn_0 rfl ?_
  refine am_get (v := .inr (i, 55)) dX10_mayGoOn_1 fl_10_84 (hG.mn hi (by decide) (by decide)) rfl ?_
  refine am_astore_n dX10_mayGoOn_4 (by decide) ?_
  refine am_aload_n dX10_mayGoOn_5 rfl ?_
  refine am_get (v := .inl (I i 55 5)) dX10_mayGoOn_6 fl_10_88 (hG.mn hi (by decide) (by decide)) rfl ?_
  refine am_top (show I i 55 5 = nI 1 from (by simp [am_up, am_upf, upd, hst, hwl, hkd, hct, hlg])) ?_
  refine am_iconst (v := nI 1) dX10_mayGoOn_9 (by decide) ?_
  refine am_icmp_ne (tgt := 30) dX10_mayGoOn_10 (by decide) (fun h => absurd h (by decide)) (fun _ => ?_)
  refine am_aload_n dX10_mayGoOn_13 rfl ?_
  refine am_get (v := .inl (I i 55 11)) dX10_mayGoOn_14 fl_10_368 (hG.mn hi (by decide) (by decide)) rfl ?_
  refine am_top (show I i 55 11 = nI 0 from (by simp [am_up, am_upf, upd, hst, hwl, hkd, hct, hlg])) ?_
  refine am_if_eq (tgt := 32) dX10_mayGoOn_17 (by decide) (fun _ => ?_) (fun h => absurd h (by decide))
  refine am_aload_n dX10_mayGoOn_32 rfl ?_
  refine am_iconst (v := nI 0) dX10_mayGoOn_33 (by decide) ?_
  refine am_putz (x := nI 0) dX10_mayGoOn_34 fp_10_368 (hG.mn hi (by decide) (by decide)) (by decide) (Nat.le_of_ble_eq_true rfl) rfl ?_
  refine am_aload_n dX10_mayGoOn_37 rfl ?_
  refine am_get (v := .inl ((am_up I i 55 11 (nI 0)) i 55 0)) dX10_mayGoOn_38 fl_10_374 (hG.mn hi (by decide) (by decide)) rfl ?_
  refine am_top (show (am_up I i 55 11 (nI 0)) i 55 0 = nI 8 from (by simp [am_up, am_upf, upd, hst, hwl, hkd, hct, hlg])) ?_
  refine am_bipush (v := nI 10) dX10_mayGoOn_41 (by decide) ?_
  refine am_icmp_ne (tgt := 63) dX10_mayGoOn_43 (by decide) (fun _ => ?_) (fun h => absurd h (by decide))
  refine am_iconst (v := nI 1) dX10_mayGoOn_63 (by decide) ?_
  refine am_iret dX10_mayGoOn_64 rfl (am_nz (by decide)).1 ?_
  exact ⟨rfl, rfl⟩
theorem c_mayGoOn9 {G : am_G} (hG : am_ok G) {d : Nat} {i : Nat} (hi : i < G.2.2.2.1) (I : am_I)  (hst : I i 55 5 = nI 1) (hwl : I i 55 11 = nI 0) (hkd : I i 55 0 = nI 9) (hct : I i 44 5 = nI 0) (hlg : I i 44 2 = nI 0) : am_C G (d + 1) mX10_mayGoOn [.inr (0, 0), .inr (i, 40)] I (am_E (some (nI 1)) (am_up I i 55 11 (nI 0))) := by
  refine am_of (by decide +kernel) hG.nd (Nat.le_of_ble_eq_true rfl) ?_
  refine am_aload_n dX10_mayGoOn_0 rfl ?_
  refine am_get (v := .inr (i, 55)) dX10_mayGoOn_1 fl_10_84 (hG.mn hi (by decide) (by decide)) rfl ?_
  refine am_astore_n dX10_mayGoOn_4 (by decide) ?_
  refine am_aload_n dX10_mayGoOn_5 rfl ?_
  refine am_get (v := .inl (I i 55 5)) dX10_mayGoOn_6 fl_10_88 (hG.mn hi (by decide) (by decide)) rfl ?_
  refine am_top (show I i 55 5 = nI 1 from (by simp [am_up, am_upf, upd, hst, hwl, hkd, hct, hlg])) ?_
  refine am_iconst (v := nI 1) dX10_mayGoOn_9 (by decide) ?_
  refine am_icmp_ne (tgt := 30) dX10_mayGoOn_10 (by decide) (fun h => absurd h (by decide)) (fun _ => ?_)
  refine am_aload_n dX10_mayGoOn_13 rfl ?_
  refine am_get (v := .inl (I i 55 11)) dX10_mayGoOn_14 fl_10_368 (hG.mn hi (by decide) (by decide)) rfl ?_
  refine am_top (show I i 55 11 = nI 0 from (by simp [am_up, am_upf, upd, hst, hwl, hkd, hct, hlg])) ?_
  refine am_if_eq (tgt := 32) dX10_mayGoOn_17 (by decide) (fun _ => ?_) (fun h => absurd h (by decide))
  refine am_aload_n dX10_mayGoOn_32 rfl ?_
  refine am_iconst (v := nI 0) dX10_mayGoOn_33 (by decide) ?_
  refine am_putz (x := nI 0) dX10_mayGoOn_34 fp_10_368 (hG.mn hi (by decide) (by decide)) (by decide) (Nat.le_of_ble_eq_true rfl) rfl ?_
  refine am_aload_n dX10_mayGoOn_37 rfl ?_
  refine am_get (v := .inl ((am_up I i 55 11 (nI 0)) i 55 0)) dX10_mayGoOn_38 fl_10_374 (hG.mn hi (by decide) (by decide)) rfl ?_
  refine am_top (show (am_up I i 55 11 (nI 0)) i 55 0 = nI 9 from (by simp [am_up, am_upf, upd, hst, hwl, hkd, hct, hlg])) ?_
  refine am_bipush (v := nI 10) dX10_mayGoOn_41 (by decide) ?_
  refine am_icmp_ne (tgt := 63) dX10_mayGoOn_43 (by decide) (fun _ => ?_) (fun h => absurd h (by decide))
  refine am_iconst (v := nI 1) dX10_mayGoOn_63 (by decide) ?_
  refine am_iret dX10_mayGoOn_64 rfl (am_nz (by decide)).1 ?_
  exact ⟨rfl, rfl⟩
theorem c_mayGoOn10 {G : am_G} (hG : am_ok G) {d : Nat} {i : Nat} (hi : i < G.2.2.2.1) (I : am_I)  (hst : I i 55 5 = nI 1) (hwl : I i 55 11 = nI 0) (hkd : I i 55 0 = nI 10) (hct : I i 44 5 = nI 0) (hlg : I i 44 2 = nI 0) : am_C G (d + 1) mX10_mayGoOn [.inr (0, 0), .inr (i, 40)] I (am_E (some (nI 1)) (am_up I i 55 11 (nI 0))) := by
  refine am_of (by decide +kernel) hG.nd (Nat.le_of_ble_eq_true rfl) ?_
  refine am_aload_n dX10_mayGoOn_0 rfl ?_
  refine am_get (v := .inr (i, 55)) dX10_mayGoOn_1 fl_10_84 (hG.mn hi (by decide) (by decide)) rfl ?_
  refine am_astore_n dX10_mayGoOn_4 (by decide) ?_
  refine am_aload_n dX10_mayGoOn_5 rfl ?_
  refine am_get (v := .inl (I i 55 5)) dX10_mayGoOn_6 fl_10_88 (hG.mn hi (by decide) (by decide)) rfl ?_
  refine am_top (show I i 55 5 = nI 1 from (by simp [am_up, am_upf, upd, hst, hwl, hkd, hct, hlg])) ?_
  refine am_iconst (v := nI 1) dX10_mayGoOn_9 (by decide) ?_
  refine am_icmp_ne (tgt := 30) dX10_mayGoOn_10 (by decide) (fun h => absurd h (by decide)) (fun _ => ?_)
  refine am_aload_n dX10_mayGoOn_13 rfl ?_
  refine am_get (v := .inl (I i 55 11)) dX10_mayGoOn_14 fl_10_368 (hG.mn hi (by decide) (by decide)) rfl ?_
  refine am_top (show I i 55 11 = nI 0 from (by simp [am_up, am_upf, upd, hst, hwl, hkd, hct, hlg])) ?_
  refine am_if_eq (tgt := 32) dX10_mayGoOn_17 (by decide) (fun _ => ?_) (fun h => absurd h (by decide))
  refine am_aload_n dX10_mayGoOn_32 rfl ?_
  refine am_iconst (v := nI 0) dX10_mayGoOn_33 (by decide) ?_
  refine am_putz (x := nI 0) dX10_mayGoOn_34 fp_10_368 (hG.mn hi (by decide) (by decide)) (by decide) (Nat.le_of_ble_eq_true rfl) rfl ?_
  refine am_aload_n dX10_mayGoOn_37 rfl ?_
  refine am_get (v := .inl ((am_up I i 55 11 (nI 0)) i 55 0)) dX10_mayGoOn_38 fl_10_374 (hG.mn hi (by decide) (by decide)) rfl ?_
  refine am_top (show (am_up I i 55 11 (nI 0)) i 55 0 = nI 10 from (by simp [am_up, am_upf, upd, hst, hwl, hkd, hct, hlg])) ?_
  refine am_bipush (v := nI 10) dX10_mayGoOn_41 (by decide) ?_
  refine am_icmp_ne (tgt := 63) dX10_mayGoOn_43 (by decide) (fun h => absurd h (by decide)) (fun _ => ?_)
  refine am_aload_n dX10_mayGoOn_46 rfl ?_
  refine am_get (v := .inr (i, 44)) dX10_mayGoOn_47 fl_10_284 (hG.mn hi (by decide) (by decide)) rfl ?_
  refine am_callVx (i := i) (j := 44) (as := []) (rest := []) dX10_mayGoOn_50 lkX3_isIdle ml_X10_377 imX3_isIdle seX3_isIdle rfl rfl (hG.mn hi (by decide) (by decide)) rfl (Nat.le_of_ble_eq_true rfl) rfl (c_Jidle0 hG hi (am_up I i 55 11 (nI 0)) (by simp [am_up, am_upf, upd, hst, hwl, hkd, hct, hlg]) (by simp [am_up, am_upf, upd, hst, hwl, hkd, hct, hlg])) ?_
  refine am_if_ne (tgt := 63) dX10_mayGoOn_53 (by decide) (fun _ => ?_) (fun h => absurd h (by decide))
  refine am_iconst (v := nI 1) dX10_mayGoOn_63 (by decide) ?_
  refine am_iret dX10_mayGoOn_64 rfl (am_nz (by decide)).1 ?_
  exact ⟨rfl, rfl⟩
theorem c_mayGoOn11 {G : am_G} (hG : am_ok G) {d : Nat} {i : Nat} (hi : i < G.2.2.2.1) (I : am_I)  (hst : I i 55 5 = nI 1) (hwl : I i 55 11 = nI 0) (hkd : I i 55 0 = nI 11) (hct : I i 44 5 = nI 0) (hlg : I i 44 2 = nI 0) : am_C G (d + 1) mX10_mayGoOn [.inr (0, 0), .inr (i, 40)] I (am_E (some (nI 1)) (am_up I i 55 11 (nI 0))) := by
  refine am_of (by decide +kernel) hG.nd (Nat.le_of_ble_eq_true rfl) ?_
  refine am_aload_n dX10_mayGoOn_0 rfl ?_
  refine am_get (v := .inr (i, 55)) dX10_mayGoOn_1 fl_10_84 (hG.mn hi (by decide) (by decide)) rfl ?_
  refine am_astore_n dX10_mayGoOn_4 (by decide) ?_
  refine am_aload_n dX10_mayGoOn_5 rfl ?_
  refine am_get (v := .inl (I i 55 5)) dX10_mayGoOn_6 fl_10_88 (hG.mn hi (by decide) (by decide)) rfl ?_
  refine am_top (show I i 55 5 = nI 1 from (by simp [am_up, am_upf, upd, hst, hwl, hkd, hct, hlg])) ?_
  refine am_iconst (v := nI 1) dX10_mayGoOn_9 (by decide) ?_
  refine am_icmp_ne (tgt := 30) dX10_mayGoOn_10 (by decide) (fun h => absurd h (by decide)) (fun _ => ?_)
  refine am_aload_n dX10_mayGoOn_13 rfl ?_
  refine am_get (v := .inl (I i 55 11)) dX10_mayGoOn_14 fl_10_368 (hG.mn hi (by decide) (by decide)) rfl ?_
  refine am_top (show I i 55 11 = nI 0 from (by simp [am_up, am_upf, upd, hst, hwl, hkd, hct, hlg])) ?_
  refine am_if_eq (tgt := 32) dX10_mayGoOn_17 (by decide) (fun _ => ?_) (fun h => absurd h (by decide))
  refine am_aload_n dX10_mayGoOn_32 rfl ?_
  refine am_iconst (v := nI 0) dX10_mayGoOn_33 (by decide) ?_
  refine am_putz (x := nI 0) dX10_mayGoOn_34 fp_10_368 (hG.mn hi (by decide) (by decide)) (by decide) (Nat.le_of_ble_eq_true rfl) rfl ?_
  refine am_aload_n dX10_mayGoOn_37 rfl ?_
  refine am_get (v := .inl ((am_up I i 55 11 (nI 0)) i 55 0)) dX10_mayGoOn_38 fl_10_374 (hG.mn hi (by decide) (by decide)) rfl ?_
  refine am_top (show (am_up I i 55 11 (nI 0)) i 55 0 = nI 11 from (by simp [am_up, am_upf, upd, hst, hwl, hkd, hct, hlg])) ?_
  refine am_bipush (v := nI 10) dX10_mayGoOn_41 (by decide) ?_
  refine am_icmp_ne (tgt := 63) dX10_mayGoOn_43 (by decide) (fun _ => ?_) (fun h => absurd h (by decide))
  refine am_iconst (v := nI 1) dX10_mayGoOn_63 (by decide) ?_
  refine am_iret dX10_mayGoOn_64 rfl (am_nz (by decide)).1 ?_
  exact ⟨rfl, rfl⟩
theorem c_mayGoOn12 {G : am_G} (hG : am_ok G) {d : Nat} {i : Nat} (hi : i < G.2.2.2.1) (I : am_I)  (hst : I i 55 5 = nI 1) (hwl : I i 55 11 = nI 0) (hkd : I i 55 0 = nI 12) (hct : I i 44 5 = nI 0) (hlg : I i 44 2 = nI 0) : am_C G (d + 1) mX10_mayGoOn [.inr (0, 0), .inr (i, 40)] I (am_E (some (nI 1)) (am_up I i 55 11 (nI 0))) := by
  refine am_of (by decide +kernel) hG.nd (Nat.le_of_ble_eq_true rfl) ?_
  refine am_aload_n dX10_mayGoOn_0 rfl ?_
  refine am_get (v := .inr (i, 55)) dX10_mayGoOn_1 fl_10_84 (hG.mn hi (by decide) (by decide)) rfl ?_
  refine am_astore_n dX10_mayGoOn_4 (by decide) ?_
  refine am_aload_n dX10_mayGoOn_5 rfl ?_
  refine am_get (v := .inl (I i 55 5)) dX10_mayGoOn_6 fl_10_88 (hG.mn hi (by decide) (by decide)) rfl ?_
  refine am_top (show I i 55 5 = nI 1 from (by simp [am_up, am_upf, upd, hst, hwl, hkd, hct, hlg])) ?_
  refine am_iconst (v := nI 1) dX10_mayGoOn_9 (by decide) ?_
  refine am_icmp_ne (tgt := 30) dX10_mayGoOn_10 (by decide) (fun h => absurd h (by decide)) (fun _ => ?_)
  refine am_aload_n dX10_mayGoOn_13 rfl ?_
  refine am_get (v := .inl (I i 55 11)) dX10_mayGoOn_14 fl_10_368 (hG.mn hi (by decide) (by decide)) rfl ?_
  refine am_top (show I i 55 11 = nI 0 from (by simp [am_up, am_upf, upd, hst, hwl, hkd, hct, hlg])) ?_
  refine am_if_eq (tgt := 32) dX10_mayGoOn_17 (by decide) (fun _ => ?_) (fun h => absurd h (by decide))
  refine am_aload_n dX10_mayGoOn_32 rfl ?_
  refine am_iconst (v := nI 0) dX10_mayGoOn_33 (by decide) ?_
  refine am_putz (x := nI 0) dX10_mayGoOn_34 fp_10_368 (hG.mn hi (by decide) (by decide)) (by decide) (Nat.le_of_ble_eq_true rfl) rfl ?_
  refine am_aload_n dX10_mayGoOn_37 rfl ?_
  refine am_get (v := .inl ((am_up I i 55 11 (nI 0)) i 55 0)) dX10_mayGoOn_38 fl_10_374 (hG.mn hi (by decide) (by decide)) rfl ?_
  refine am_top (show (am_up I i 55 11 (nI 0)) i 55 0 = nI 12 from (by simp [am_up, am_upf, upd, hst, hwl, hkd, hct, hlg])) ?_
  refine am_bipush (v := nI 10) dX10_mayGoOn_41 (by decide) ?_
  refine am_icmp_ne (tgt := 63) dX10_mayGoOn_43 (by decide) (fun _ => ?_) (fun h => absurd h (by decide))
  refine am_iconst (v := nI 1) dX10_mayGoOn_63 (by decide) ?_
  refine am_iret dX10_mayGoOn_64 rfl (am_nz (by decide)).1 ?_
  exact ⟨rfl, rfl⟩
theorem c_mayGoOn13 {G : am_G} (hG : am_ok G) {d : Nat} {i : Nat} (hi : i < G.2.2.2.1) (I : am_I)  (hst : I i 55 5 = nI 1) (hwl : I i 55 11 = nI 0) (hkd : I i 55 0 = nI 13) (hct : I i 44 5 = nI 0) (hlg : I i 44 2 = nI 0) : am_C G (d + 1) mX10_mayGoOn [.inr (0, 0), .inr (i, 40)] I (am_E (some (nI 1)) (am_up I i 55 11 (nI 0))) := by
  refine am_of (by decide +kernel) hG.nd (Nat.le_of_ble_eq_true rfl) ?_
  refine am_aload_n dX10_mayGoOn_0 rfl ?_
  refine am_get (v := .inr (i, 55)) dX10_mayGoOn_1 fl_10_84 (hG.mn hi (by decide) (by decide)) rfl ?_
  refine am_astore_n dX10_mayGoOn_4 (by decide) ?_
  refine am_aload_n dX10_mayGoOn_5 rfl ?_
  refine am_get (v := .inl (I i 55 5)) dX10_mayGoOn_6 fl_10_88 (hG.mn hi (by decide) (by decide)) rfl ?_
  refine am_top (show I i 55 5 = nI 1 from (by simp [am_up, am_upf, upd, hst, hwl, hkd, hct, hlg])) ?_
  refine am_iconst (v := nI 1) dX10_mayGoOn_9 (by decide) ?_
  refine am_icmp_ne (tgt := 30) dX10_mayGoOn_10 (by decide) (fun h => absurd h (by decide)) (fun _ => ?_)
  refine am_aload_n dX10_mayGoOn_13 rfl ?_
  refine am_get (v := .inl (I i 55 11)) dX10_mayGoOn_14 fl_10_368 (hG.mn hi (by decide) (by decide)) rfl ?_
  refine am_top (show I i 55 11 = nI 0 from (by simp [am_up, am_upf, upd, hst, hwl, hkd, hct, hlg])) ?_
  refine am_if_eq (tgt := 32) dX10_mayGoOn_17 (by decide) (fun _ => ?_) (fun h => absurd h (by decide))
  refine am_aload_n dX10_mayGoOn_32 rfl ?_
  refine am_iconst (v := nI 0) dX10_mayGoOn_33 (by decide) ?_
  refine am_putz (x := nI 0) dX10_mayGoOn_34 fp_10_368 (hG.mn hi (by decide) (by decide)) (by decide) (Nat.le_of_ble_eq_true rfl) rfl ?_
  refine am_aload_n dX10_mayGoOn_37 rfl ?_
  refine am_get (v := .inl ((am_up I i 55 11 (nI 0)) i 55 0)) dX10_mayGoOn_38 fl_10_374 (hG.mn hi (by decide) (by decide)) rfl ?_
  refine am_top (show (am_up I i 55 11 (nI 0)) i 55 0 = nI 13 from (by simp [am_up, am_upf, upd, hst, hwl, hkd, hct, hlg])) ?_
  refine am_bipush (v := nI 10) dX10_mayGoOn_41 (by decide) ?_
  refine am_icmp_ne (tgt := 63) dX10_mayGoOn_43 (by decide) (fun _ => ?_) (fun h => absurd h (by decide))
  refine am_iconst (v := nI 1) dX10_mayGoOn_63 (by decide) ?_
  refine am_iret dX10_mayGoOn_64 rfl (am_nz (by decide)).1 ?_
  exact ⟨rfl, rfl⟩
theorem c_mayGoOn14 {G : am_G} (hG : am_ok G) {d : Nat} {i : Nat} (hi : i < G.2.2.2.1) (I : am_I)  (hst : I i 55 5 = nI 1) (hwl : I i 55 11 = nI 0) (hkd : I i 55 0 = nI 14) (hct : I i 44 5 = nI 0) (hlg : I i 44 2 = nI 0) : am_C G (d + 1) mX10_mayGoOn [.inr (0, 0), .inr (i, 40)] I (am_E (some (nI 1)) (am_up I i 55 11 (nI 0))) := by
  refine am_of (by decide +kernel) hG.nd (Nat.le_of_ble_eq_true rfl) ?_
  refine am_aload_n dX10_mayGoOn_0 rfl ?_
  refine am_get (v := .inr (i, 55)) dX10_mayGoOn_1 fl_10_84 (hG.mn hi (by decide) (by decide)) rfl ?_
  refine am_astore_n dX10_mayGoOn_4 (by decide) ?_
  refine am_aload_n dX10_mayGoOn_5 rfl ?_
  refine am_get (v := .inl (I i 55 5)) dX10_mayGoOn_6 fl_10_88 (hG.mn hi (by decide) (by decide)) rfl ?_
  refine am_top (show I i 55 5 = nI 1 from (by simp [am_up, am_upf, upd, hst, hwl, hkd, hct, hlg])) ?_
  refine am_iconst (v := nI 1) dX10_mayGoOn_9 (by decide) ?_
  refine am_icmp_ne (tgt := 30) dX10_mayGoOn_10 (by decide) (fun h => absurd h (by decide)) (fun _ => ?_)
  refine am_aload_n dX10_mayGoOn_13 rfl ?_
  refine am_get (v := .inl (I i 55 11)) dX10_mayGoOn_14 fl_10_368 (hG.mn hi (by decide) (by decide)) rfl ?_
  refine am_top (show I i 55 11 = nI 0 from (by simp [am_up, am_upf, upd, hst, hwl, hkd, hct, hlg])) ?_
  refine am_if_eq (tgt := 32) dX10_mayGoOn_17 (by decide) (fun _ => ?_) (fun h => absurd h (by decide))
  refine am_aload_n dX10_mayGoOn_32 rfl ?_
  refine am_iconst (v := nI 0) dX10_mayGoOn_33 (by decide) ?_
  refine am_putz (x := nI 0) dX10_mayGoOn_34 fp_10_368 (hG.mn hi (by decide) (by decide)) (by decide) (Nat.le_of_ble_eq_true rfl) rfl ?_
  refine am_aload_n dX10_mayGoOn_37 rfl ?_
  refine am_get (v := .inl ((am_up I i 55 11 (nI 0)) i 55 0)) dX10_mayGoOn_38 fl_10_374 (hG.mn hi (by decide) (by decide)) rfl ?_
  refine am_top (show (am_up I i 55 11 (nI 0)) i 55 0 = nI 14 from (by simp [am_up, am_upf, upd, hst, hwl, hkd, hct, hlg])) ?_
  refine am_bipush (v := nI 10) dX10_mayGoOn_41 (by decide) ?_
  refine am_icmp_ne (tgt := 63) dX10_mayGoOn_43 (by decide) (fun _ => ?_) (fun h => absurd h (by decide))
  refine am_iconst (v := nI 1) dX10_mayGoOn_63 (by decide) ?_
  refine am_iret dX10_mayGoOn_64 rfl (am_nz (by decide)).1 ?_
  exact ⟨rfl, rfl⟩
theorem c_mayGoOnE {G : am_G} (hG : am_ok G) {d : Nat} {i : Nat} (hi : i < G.2.2.2.1) (I : am_I)  (hst : I i 55 5 = nI 2) : am_C G (d + 1) mX10_mayGoOn [.inr (0, 0), .inr (i, 40)] I (am_E (some (nI 0)) (I)) := by
  refine am_of (by decide +kernel) hG.nd (Nat.le_of_ble_eq_true rfl) ?_
  refine am_aload_n dX10_mayGoOn_0 rfl ?_
  refine am_get (v := .inr (i, 55)) dX10_mayGoOn_1 fl_10_84 (hG.mn hi (by decide) (by decide)) rfl ?_
  refine am_astore_n dX10_mayGoOn_4 (by decide) ?_
  refine am_aload_n dX10_mayGoOn_5 rfl ?_
  refine am_get (v := .inl (I i 55 5)) dX10_mayGoOn_6 fl_10_88 (hG.mn hi (by decide) (by decide)) rfl ?_
  refine am_top (show I i 55 5 = nI 2 from (by simp [am_up, am_upf, upd, hst])) ?_
  refine am_iconst (v := nI 1) dX10_mayGoOn_9 (by decide) ?_
  refine am_icmp_ne (tgt := 30) dX10_mayGoOn_10 (by decide) (fun _ => ?_) (fun h => absurd h (by decide))
  refine am_iconst (v := nI 0) dX10_mayGoOn_30 (by decide) ?_
  refine am_iret dX10_mayGoOn_31 rfl (am_nz (by decide)).1 ?_
  exact ⟨rfl, rfl⟩
theorem c_enter0 {G : am_G} (hG : am_ok G) {d : Nat} (x y : Int32) {i : Nat} (hi : i < G.2.2.2.1) (I : am_I)  (hen : I 0 13 1 = nI 0) : am_C G d mX0_enter [.inr (0, 13), .inr (i, 40), .inl x, .inl y] I (am_E none (am_up (am_up (am_up (am_up (am_up (am_up (am_up (am_up (am_up (am_up (am_up I 0 14 0 (I i 40 0)) 0 14 1 ((am_up I 0 14 0 (I i 40 0)) i 55 0)) 0 14 2 ((am_up (am_up I 0 14 0 (I i 40 0)) 0 14 1 ((am_up I 0 14 0 (I i 40 0)) i 55 0)) i 55 1)) 0 14 3 ((am_up (am_up (am_up I 0 14 0 (I i 40 0)) 0 14 1 ((am_up I 0 14 0 (I i 40 0)) i 55 0)) 0 14 2 ((am_up (am_up I 0 14 0 (I i 40 0)) 0 14 1 ((am_up I 0 14 0 (I i 40 0)) i 55 0)) i 55 1)) i 55 2)) 0 14 4 ((am_up (am_up (am_up (am_up I 0 14 0 (I i 40 0)) 0 14 1 ((am_up I 0 14 0 (I i 40 0)) i 55 0)) 0 14 2 ((am_up (am_up I 0 14 0 (I i 40 0)) 0 14 1 ((am_up I 0 14 0 (I i 40 0)) i 55 0)) i 55 1)) 0 14 3 ((am_up (am_up (am_up I 0 14 0 (I i 40 0)) 0 14 1 ((am_up I 0 14 0 (I i 40 0)) i 55 0)) 0 14 2 ((am_up (am_up I 0 14 0 (I i 40 0)) 0 14 1 ((am_up I 0 14 0 (I i 40 0)) i 55 0)) i 55 1)) i 55 2)) i 55 3)) 0 14 5 ((am_up (am_up (am_up (am_up (am_up I 0 14 0 (I i 40 0)) 0 14 1 ((am_up I 0 14 0 (I i 40 0)) i 55 0)) 0 14 2 ((am_up (am_up I 0 14 0 (I i 40 0)) 0 14 1 ((am_up I 0 14 0 (I i 40 0)) i 55 0)) i 55 1)) 0 14 3 ((am_up (am_up (am_up I 0 14 0 (I i 40 0)) 0 14 1 ((am_up I 0 14 0 (I i 40 0)) i 55 0)) 0 14 2 ((am_up (am_up I 0 14 0 (I i 40 0)) 0 14 1 ((am_up I 0 14 0 (I i 40 0)) i 55 0)) i 55 1)) i 55 2)) 0 14 4 ((am_up (am_up (am_up (am_up I 0 14 0 (I i 40 0)) 0 14 1 ((am_up I 0 14 0 (I i 40 0)) i 55 0)) 0 14 2 ((am_up (am_up I 0 14 0 (I i 40 0)) 0 14 1 ((am_up I 0 14 0 (I i 40 0)) i 55 0)) i 55 1)) 0 14 3 ((am_up (am_up (am_up I 0 14 0 (I i 40 0)) 0 14 1 ((am_up I 0 14 0 (I i 40 0)) i 55 0)) 0 14 2 ((am_up (am_up I 0 14 0 (I i 40 0)) 0 14 1 ((am_up I 0 14 0 (I i 40 0)) i 55 0)) i 55 1)) i 55 2)) i 55 3)) i 55 4)) 0 14 6 ((am_up (am_up (am_up (am_up (am_up (am_up I 0 14 0 (I i 40 0)) 0 14 1 ((am_up I 0 14 0 (I i 40 0)) i 55 0)) 0 14 2 ((am_up (am_up I 0 14 0 (I i 40 0)) 0 14 1 ((am_up I 0 14 0 (I i 40 0)) i 55 0)) i 55 1)) 0 14 3 ((am_up (am_up (am_up I 0 14 0 (I i 40 0)) 0 14 1 ((am_up I 0 14 0 (I i 40 0)) i 55 0)) 0 14 2 ((am_up (am_up I 0 14 0 (I i 40 0)) 0 14 1 ((am_up I 0 14 0 (I i 40 0)) i 55 0)) i 55 1)) i 55 2)) 0 14 4 ((am_up (am_up (am_up (am_up I 0 14 0 (I i 40 0)) 0 14 1 ((am_up I 0 14 0 (I i 40 0)) i 55 0)) 0 14 2 ((am_up (am_up I 0 14 0 (I i 40 0)) 0 14 1 ((am_up I 0 14 0 (I i 40 0)) i 55 0)) i 55 1)) 0 14 3 ((am_up (am_up (am_up I 0 14 0 (I i 40 0)) 0 14 1 ((am_up I 0 14 0 (I i 40 0)) i 55 0)) 0 14 2 ((am_up (am_up I 0 14 0 (I i 40 0)) 0 14 1 ((am_up I 0 14 0 (I i 40 0)) i 55 0)) i 55 1)) i 55 2)) i 55 3)) 0 14 5 ((am_up (am_up (am_up (am_up (am_up I 0 14 0 (I i 40 0)) 0 14 1 ((am_up I 0 14 0 (I i 40 0)) i 55 0)) 0 14 2 ((am_up (am_up I 0 14 0 (I i 40 0)) 0 14 1 ((am_up I 0 14 0 (I i 40 0)) i 55 0)) i 55 1)) 0 14 3 ((am_up (am_up (am_up I 0 14 0 (I i 40 0)) 0 14 1 ((am_up I 0 14 0 (I i 40 0)) i 55 0)) 0 14 2 ((am_up (am_up I 0 14 0 (I i 40 0)) 0 14 1 ((am_up I 0 14 0 (I i 40 0)) i 55 0)) i 55 1)) i 55 2)) 0 14 4 ((am_up (am_up (am_up (am_up I 0 14 0 (I i 40 0)) 0 14 1 ((am_up I 0 14 0 (I i 40 0)) i 55 0)) 0 14 2 ((am_up (am_up I 0 14 0 (I i 40 0)) 0 14 1 ((am_up I 0 14 0 (I i 40 0)) i 55 0)) i 55 1)) 0 14 3 ((am_up (am_up (am_up I 0 14 0 (I i 40 0)) 0 14 1 ((am_up I 0 14 0 (I i 40 0)) i 55 0)) 0 14 2 ((am_up (am_up I 0 14 0 (I i 40 0)) 0 14 1 ((am_up I 0 14 0 (I i 40 0)) i 55 0)) i 55 1)) i 55 2)) i 55 3)) i 55 4)) i 55 5)) 0 14 7 ((am_up (am_up (am_up (am_up (am_up (am_up (am_up I 0 14 0 (I i 40 0)) 0 14 1 ((am_up I 0 14 0 (I i 40 0)) i 55 0)) 0 14 2 ((am_up (am_up I 0 14 0 (I i 40 0)) 0 14 1 ((am_up I 0 14 0 (I i 40 0)) i 55 0)) i 55 1)) 0 14 3 ((am_up (am_up (am_up I 0 14 0 (I i 40 0)) 0 14 1 ((am_up I 0 14 0 (I i 40 0)) i 55 0)) 0 14 2 ((am_up (am_up I 0 14 0 (I i 40 0)) 0 14 1 ((am_up I 0 14 0 (I i 40 0)) i 55 0)) i 55 1)) i 55 2)) 0 14 4 ((am_up (am_up (am_up (am_up I 0 14 0 (I i 40 0)) 0 14 1 ((am_up I 0 14 0 (I i 40 0)) i 55 0)) 0 14 2 ((am_up (am_up I 0 14 0 (I i 40 0)) 0 14 1 ((am_up I 0 14 0 (I i 40 0)) i 55 0)) i 55 1)) 0 14 3 ((am_up (am_up (am_up I 0 14 0 (I i 40 0)) 0 14 1 ((am_up I 0 14 0 (I i 40 0)) i 55 0)) 0 14 2 ((am_up (am_up I 0 14 0 (I i 40 0)) 0 14 1 ((am_up I 0 14 0 (I i 40 0)) i 55 0)) i 55 1)) i 55 2)) i 55 3)) 0 14 5 ((am_up (am_up (am_up (am_up (am_up I 0 14 0 (I i 40 0)) 0 14 1 ((am_up I 0 14 0 (I i 40 0)) i 55 0)) 0 14 2 ((am_up (am_up I 0 14 0 (I i 40 0)) 0 14 1 ((am_up I 0 14 0 (I i 40 0)) i 55 0)) i 55 1)) 0 14 3 ((am_up (am_up (am_up I 0 14 0 (I i 40 0)) 0 14 1 ((am_up I 0 14 0 (I i 40 0)) i 55 0)) 0 14 2 ((am_up (am_up I 0 14 0 (I i 40 0)) 0 14 1 ((am_up I 0 14 0 (I i 40 0)) i 55 0)) i 55 1)) i 55 2)) 0 14 4 ((am_up (am_up (am_up (am_up I 0 14 0 (I i 40 0)) 0 14 1 ((am_up I 0 14 0 (I i 40 0)) i 55 0)) 0 14 2 ((am_up (am_up I 0 14 0 (I i 40 0)) 0 14 1 ((am_up I 0 14 0 (I i 40 0)) i 55 0)) i 55 1)) 0 14 3 ((am_up (am_up (am_up I 0 14 0 (I i 40 0)) 0 14 1 ((am_up I 0 14 0 (I i 40 0)) i 55 0)) 0 14 2 ((am_up (am_up I 0 14 0 (I i 40 0)) 0 14 1 ((am_up I 0 14 0 (I i 40 0)) i 55 0)) i 55 1)) i 55 2)) i 55 3)) i 55 4)) 0 14 6 ((am_up (am_up (am_up (am_up (am_up (am_up I 0 14 0 (I i 40 0)) 0 14 1 ((am_up I 0 14 0 (I i 40 0)) i 55 0)) 0 14 2 ((am_up (am_up I 0 14 0 (I i 40 0)) 0 14 1 ((am_up I 0 14 0 (I i 40 0)) i 55 0)) i 55 1)) 0 14 3 ((am_up (am_up (am_up I 0 14 0 (I i 40 0)) 0 14 1 ((am_up I 0 14 0 (I i 40 0)) i 55 0)) 0 14 2 ((am_up (am_up I 0 14 0 (I i 40 0)) 0 14 1 ((am_up I 0 14 0 (I i 40 0)) i 55 0)) i 55 1)) i 55 2)) 0 14 4 ((am_up (am_up (am_up (am_up I 0 14 0 (I i 40 0)) 0 14 1 ((am_up I 0 14 0 (I i 40 0)) i 55 0)) 0 14 2 ((am_up (am_up I 0 14 0 (I i 40 0)) 0 14 1 ((am_up I 0 14 0 (I i 40 0)) i 55 0)) i 55 1)) 0 14 3 ((am_up (am_up (am_up I 0 14 0 (I i 40 0)) 0 14 1 ((am_up I 0 14 0 (I i 40 0)) i 55 0)) 0 14 2 ((am_up (am_up I 0 14 0 (I i 40 0)) 0 14 1 ((am_up I 0 14 0 (I i 40 0)) i 55 0)) i 55 1)) i 55 2)) i 55 3)) 0 14 5 ((am_up (am_up (am_up (am_up (am_up I 0 14 0 (I i 40 0)) 0 14 1 ((am_up I 0 14 0 (I i 40 0)) i 55 0)) 0 14 2 ((am_up (am_up I 0 14 0 (I i 40 0)) 0 14 1 ((am_up I 0 14 0 (I i 40 0)) i 55 0)) i 55 1)) 0 14 3 ((am_up (am_up (am_up I 0 14 0 (I i 40 0)) 0 14 1 ((am_up I 0 14 0 (I i 40 0)) i 55 0)) 0 14 2 ((am_up (am_up I 0 14 0 (I i 40 0)) 0 14 1 ((am_up I 0 14 0 (I i 40 0)) i 55 0)) i 55 1)) i 55 2)) 0 14 4 ((am_up (am_up (am_up (am_up I 0 14 0 (I i 40 0)) 0 14 1 ((am_up I 0 14 0 (I i 40 0)) i 55 0)) 0 14 2 ((am_up (am_up I 0 14 0 (I i 40 0)) 0 14 1 ((am_up I 0 14 0 (I i 40 0)) i 55 0)) i 55 1)) 0 14 3 ((am_up (am_up (am_up I 0 14 0 (I i 40 0)) 0 14 1 ((am_up I 0 14 0 (I i 40 0)) i 55 0)) 0 14 2 ((am_up (am_up I 0 14 0 (I i 40 0)) 0 14 1 ((am_up I 0 14 0 (I i 40 0)) i 55 0)) i 55 1)) i 55 2)) i 55 3)) i 55 4)) i 55 5)) i 55 6)) 0 14 8 x) 0 14 9 y) 0 13 1 (nI 1))) := by
  refine am_of (by decide +kernel) hG.nd (Nat.le_of_ble_eq_true rfl) ?_
  refine am_aload_n dX0_enter_0 rfl ?_
  refine am_get (v := .inl (I 0 13 1)) dX0_enter_1 fl_0_15 (hG.m0 (by decide)) rfl ?_
  refine am_top (show I 0 13 1 = nI 0 from (by simp [am_up, am_upf, upd, hen])) ?_
  refine am_sipush (v := nI 400) dX0_enter_4 (by decide) ?_
  refine am_icmp_ge (tgt := 158) dX0_enter_7 (by decide) (fun h => absurd h (by decide)) (fun _ => ?_)
  refine am_aload_n dX0_enter_10 rfl ?_
  refine am_get (v := .inr (i, 55)) dX0_enter_11 fl_0_25 (hG.mn hi (by decide) (by decide)) rfl ?_
  refine am_astore dX0_enter_14 (by decide) ?_
  refine am_aload_n dX0_enter_16 rfl ?_
  refine am_get (v := .inl (I 0 13 1)) dX0_enter_17 fl_0_15 (hG.m0 (by decide)) rfl ?_
  refine am_top (show I 0 13 1 = nI 0 from (by simp [am_up, am_upf, upd, hen])) ?_
  refine am_bipush (v := nI 10) dX0_enter_20 (by decide) ?_
  refine am_imul dX0_enter_22 ?_
  refine am_top (show (nI 0) * (nI 10) = nI 0 by decide) ?_
  refine am_istore dX0_enter_23 (by decide) ?_
  refine am_aload_n dX0_enter_25 rfl ?_
  refine am_get (v := .inr (0, 14)) dX0_enter_26 fl_0_11 (hG.m0 (by decide)) rfl ?_
  refine am_iload dX0_enter_29 rfl ?_
  refine am_aload_n dX0_enter_31 rfl ?_
  refine am_get (v := .inl (I i 40 0)) dX0_enter_32 fl_0_31 (hG.mn hi (by decide) (by decide)) rfl ?_
  refine am_iast (a := 0) dX0_enter_35 (hG.m0 (by decide)) rfl rfl (show 0 < 4000 from (by omega)) (show 4000 < 2 ^ 31 by decide) ?_
  refine am_aload_n dX0_enter_36 rfl ?_
  refine am_get (v := .inr (0, 14)) dX0_enter_37 fl_0_11 (hG.m0 (by decide)) rfl ?_
  refine am_iload dX0_enter_40 rfl ?_
  refine am_iconst (v := nI 1) dX0_enter_42 (by decide) ?_
  refine am_iadd dX0_enter_43 ?_
  refine am_top (show (nI 0) + (nI 1) = nI 1 by decide) ?_
  refine am_aload dX0_enter_44 rfl ?_
  refine am_get (v := .inl ((am_up I 0 14 0 (I i 40 0)) i 55 0)) dX0_enter_46 fl_0_34 (hG.mn hi (by decide) (by decide)) rfl ?_
  refine am_iast (a := 1) dX0_enter_49 (hG.m0 (by decide)) rfl rfl (show 1 < 4000 from (by omega)) (show 4000 < 2 ^ 31 by decide) ?_
  refine am_aload_n dX0_enter_50 rfl ?_
  refine am_get (v := .inr (0, 14)) dX0_enter_51 fl_0_11 (hG.m0 (by decide)) rfl ?_
  refine am_iload dX0_enter_54 rfl ?_
  refine am_iconst (v := nI 2) dX0_enter_56 (by decide) ?_
  refine am_iadd dX0_enter_57 ?_
  refine am_top (show (nI 0) + (nI 2) = nI 2 by decide) ?_
  refine am_aload dX0_enter_58 rfl ?_
  refine am_get (v := .inl ((am_up (am_up I 0 14 0 (I i 40 0)) 0 14 1 ((am_up I 0 14 0 (I i 40 0)) i 55 0)) i 55 1)) dX0_enter_60 fl_0_39 (hG.mn hi (by decide) (by decide)) rfl ?_
  refine am_iast (a := 2) dX0_enter_63 (hG.m0 (by decide)) rfl rfl (show 2 < 4000 from (by omega)) (show 4000 < 2 ^ 31 by decide) ?_
  refine am_aload_n dX0_enter_64 rfl ?_
  refine am_get (v := .inr (0, 14)) dX0_enter_65 fl_0_11 (hG.m0 (by decide)) rfl ?_
  refine am_iload dX0_enter_68 rfl ?_
  refine am_iconst (v := nI 3) dX0_enter_70 (by decide) ?_
  refine am_iadd dX0_enter_71 ?_
  refine am_top (show (nI 0) + (nI 3) = nI 3 by decide) ?_
  refine am_aload dX0_enter_72 rfl ?_
  refine am_get (v := .inl ((am_up (am_up (am_up I 0 14 0 (I i 40 0)) 0 14 1 ((am_up I 0 14 0 (I i 40 0)) i 55 0)) 0 14 2 ((am_up (am_up I 0 14 0 (I i 40 0)) 0 14 1 ((am_up I 0 14 0 (I i 40 0)) i 55 0)) i 55 1)) i 55 2)) dX0_enter_74 fl_0_42 (hG.mn hi (by decide) (by decide)) rfl ?_
  refine am_iast (a := 3) dX0_enter_77 (hG.m0 (by decide)) rfl rfl (show 3 < 4000 from (by omega)) (show 4000 < 2 ^ 31 by decide) ?_
  refine am_aload_n dX0_enter_78 rfl ?_
  refine am_get (v := .inr (0, 14)) dX0_enter_79 fl_0_11 (hG.m0 (by decide)) rfl ?_
  refine am_iload dX0_enter_82 rfl ?_
  refine am_iconst (v := nI 4) dX0_enter_84 (by decide) ?_
  refine am_iadd dX0_enter_85 ?_
  refine am_top (show (nI 0) + (nI 4) = nI 4 by decide) ?_
  refine am_aload dX0_enter_86 rfl ?_
  refine am_get (v := .inl ((am_up (am_up (am_up (am_up I 0 14 0 (I i 40 0)) 0 14 1 ((am_up I 0 14 0 (I i 40 0)) i 55 0)) 0 14 2 ((am_up (am_up I 0 14 0 (I i 40 0)) 0 14 1 ((am_up I 0 14 0 (I i 40 0)) i 55 0)) i 55 1)) 0 14 3 ((am_up (am_up (am_up I 0 14 0 (I i 40 0)) 0 14 1 ((am_up I 0 14 0 (I i 40 0)) i 55 0)) 0 14 2 ((am_up (am_up I 0 14 0 (I i 40 0)) 0 14 1 ((am_up I 0 14 0 (I i 40 0)) i 55 0)) i 55 1)) i 55 2)) i 55 3)) dX0_enter_88 fl_0_45 (hG.mn hi (by decide) (by decide)) rfl ?_
  refine am_iast (a := 4) dX0_enter_91 (hG.m0 (by decide)) rfl rfl (show 4 < 4000 from (by omega)) (show 4000 < 2 ^ 31 by decide) ?_
  refine am_aload_n dX0_enter_92 rfl ?_
  refine am_get (v := .inr (0, 14)) dX0_enter_93 fl_0_11 (hG.m0 (by decide)) rfl ?_
  refine am_iload dX0_enter_96 rfl ?_
  refine am_iconst (v := nI 5) dX0_enter_98 (by decide) ?_
  refine am_iadd dX0_enter_99 ?_
  refine am_top (show (nI 0) + (nI 5) = nI 5 by decide) ?_
  refine am_aload dX0_enter_100 rfl ?_
  refine am_get (v := .inl ((am_up (am_up (am_up (am_up (am_up I 0 14 0 (I i 40 0)) 0 14 1 ((am_up I 0 14 0 (I i 40 0)) i 55 0)) 0 14 2 ((am_up (am_up I 0 14 0 (I i 40 0)) 0 14 1 ((am_up I 0 14 0 (I i 40 0)) i 55 0)) i 55 1)) 0 14 3 ((am_up (am_up (am_up I 0 14 0 (I i 40 0)) 0 14 1 ((am_up I 0 14 0 (I i 40 0)) i 55 0)) 0 14 2 ((am_up (am_up I 0 14 0 (I i 40 0)) 0 14 1 ((am_up I 0 14 0 (I i 40 0)) i 55 0)) i 55 1)) i 55 2)) 0 14 4 ((am_up (am_up (am_up (am_up I 0 14 0 (I i 40 0)) 0 14 1 ((am_up I 0 14 0 (I i 40 0)) i 55 0)) 0 14 2 ((am_up (am_up I 0 14 0 (I i 40 0)) 0 14 1 ((am_up I 0 14 0 (I i 40 0)) i 55 0)) i 55 1)) 0 14 3 ((am_up (am_up (am_up I 0 14 0 (I i 40 0)) 0 14 1 ((am_up I 0 14 0 (I i 40 0)) i 55 0)) 0 14 2 ((am_up (am_up I 0 14 0 (I i 40 0)) 0 14 1 ((am_up I 0 14 0 (I i 40 0)) i 55 0)) i 55 1)) i 55 2)) i 55 3)) i 55 4)) dX0_enter_102 fl_0_48 (hG.mn hi (by decide) (by decide)) rfl ?_
  refine am_iast (a := 5) dX0_enter_105 (hG.m0 (by decide)) rfl rfl (show 5 < 4000 from (by omega)) (show 4000 < 2 ^ 31 by decide) ?_
  refine am_aload_n dX0_enter_106 rfl ?_
  refine am_get (v := .inr (0, 14)) dX0_enter_107 fl_0_11 (hG.m0 (by decide)) rfl ?_
  refine am_iload dX0_enter_110 rfl ?_
  refine am_bipush (v := nI 6) dX0_enter_112 (by decide) ?_
  refine am_iadd dX0_enter_114 ?_
  refine am_top (show (nI 0) + (nI 6) = nI 6 by decide) ?_
  refine am_aload dX0_enter_115 rfl ?_
  refine am_get (v := .inl ((am_up (am_up (am_up (am_up (am_up (am_up I 0 14 0 (I i 40 0)) 0 14 1 ((am_up I 0 14 0 (I i 40 0)) i 55 0)) 0 14 2 ((am_up (am_up I 0 14 0 (I i 40 0)) 0 14 1 ((am_up I 0 14 0 (I i 40 0)) i 55 0)) i 55 1)) 0 14 3 ((am_up (am_up (am_up I 0 14 0 (I i 40 0)) 0 14 1 ((am_up I 0 14 0 (I i 40 0)) i 55 0)) 0 14 2 ((am_up (am_up I 0 14 0 (I i 40 0)) 0 14 1 ((am_up I 0 14 0 (I i 40 0)) i 55 0)) i 55 1)) i 55 2)) 0 14 4 ((am_up (am_up (am_up (am_up I 0 14 0 (I i 40 0)) 0 14 1 ((am_up I 0 14 0 (I i 40 0)) i 55 0)) 0 14 2 ((am_up (am_up I 0 14 0 (I i 40 0)) 0 14 1 ((am_up I 0 14 0 (I i 40 0)) i 55 0)) i 55 1)) 0 14 3 ((am_up (am_up (am_up I 0 14 0 (I i 40 0)) 0 14 1 ((am_up I 0 14 0 (I i 40 0)) i 55 0)) 0 14 2 ((am_up (am_up I 0 14 0 (I i 40 0)) 0 14 1 ((am_up I 0 14 0 (I i 40 0)) i 55 0)) i 55 1)) i 55 2)) i 55 3)) 0 14 5 ((am_up (am_up (am_up (am_up (am_up I 0 14 0 (I i 40 0)) 0 14 1 ((am_up I 0 14 0 (I i 40 0)) i 55 0)) 0 14 2 ((am_up (am_up I 0 14 0 (I i 40 0)) 0 14 1 ((am_up I 0 14 0 (I i 40 0)) i 55 0)) i 55 1)) 0 14 3 ((am_up (am_up (am_up I 0 14 0 (I i 40 0)) 0 14 1 ((am_up I 0 14 0 (I i 40 0)) i 55 0)) 0 14 2 ((am_up (am_up I 0 14 0 (I i 40 0)) 0 14 1 ((am_up I 0 14 0 (I i 40 0)) i 55 0)) i 55 1)) i 55 2)) 0 14 4 ((am_up (am_up (am_up (am_up I 0 14 0 (I i 40 0)) 0 14 1 ((am_up I 0 14 0 (I i 40 0)) i 55 0)) 0 14 2 ((am_up (am_up I 0 14 0 (I i 40 0)) 0 14 1 ((am_up I 0 14 0 (I i 40 0)) i 55 0)) i 55 1)) 0 14 3 ((am_up (am_up (am_up I 0 14 0 (I i 40 0)) 0 14 1 ((am_up I 0 14 0 (I i 40 0)) i 55 0)) 0 14 2 ((am_up (am_up I 0 14 0 (I i 40 0)) 0 14 1 ((am_up I 0 14 0 (I i 40 0)) i 55 0)) i 55 1)) i 55 2)) i 55 3)) i 55 4)) i 55 5)) dX0_enter_117 fl_0_51 (hG.mn hi (by decide) (by decide)) rfl ?_
  refine am_iast (a := 6) dX0_enter_120 (hG.m0 (by decide)) rfl rfl (show 6 < 4000 from (by omega)) (show 4000 < 2 ^ 31 by decide) ?_
  refine am_aload_n dX0_enter_121 rfl ?_
  refine am_get (v := .inr (0, 14)) dX0_enter_122 fl_0_11 (hG.m0 (by decide)) rfl ?_
  refine am_iload dX0_enter_125 rfl ?_
  refine am_bipush (v := nI 7) dX0_enter_127 (by decide) ?_
  refine am_iadd dX0_enter_129 ?_
  refine am_top (show (nI 0) + (nI 7) = nI 7 by decide) ?_
  refine am_aload dX0_enter_130 rfl ?_
  refine am_get (v := .inl ((am_up (am_up (am_up (am_up (am_up (am_up (am_up I 0 14 0 (I i 40 0)) 0 14 1 ((am_up I 0 14 0 (I i 40 0)) i 55 0)) 0 14 2 ((am_up (am_up I 0 14 0 (I i 40 0)) 0 14 1 ((am_up I 0 14 0 (I i 40 0)) i 55 0)) i 55 1)) 0 14 3 ((am_up (am_up (am_up I 0 14 0 (I i 40 0)) 0 14 1 ((am_up I 0 14 0 (I i 40 0)) i 55 0)) 0 14 2 ((am_up (am_up I 0 14 0 (I i 40 0)) 0 14 1 ((am_up I 0 14 0 (I i 40 0)) i 55 0)) i 55 1)) i 55 2)) 0 14 4 ((am_up (am_up (am_up (am_up I 0 14 0 (I i 40 0)) 0 14 1 ((am_up I 0 14 0 (I i 40 0)) i 55 0)) 0 14 2 ((am_up (am_up I 0 14 0 (I i 40 0)) 0 14 1 ((am_up I 0 14 0 (I i 40 0)) i 55 0)) i 55 1)) 0 14 3 ((am_up (am_up (am_up I 0 14 0 (I i 40 0)) 0 14 1 ((am_up I 0 14 0 (I i 40 0)) i 55 0)) 0 14 2 ((am_up (am_up I 0 14 0 (I i 40 0)) 0 14 1 ((am_up I 0 14 0 (I i 40 0)) i 55 0)) i 55 1)) i 55 2)) i 55 3)) 0 14 5 ((am_up (am_up (am_up (am_up (am_up I 0 14 0 (I i 40 0)) 0 14 1 ((am_up I 0 14 0 (I i 40 0)) i 55 0)) 0 14 2 ((am_up (am_up I 0 14 0 (I i 40 0)) 0 14 1 ((am_up I 0 14 0 (I i 40 0)) i 55 0)) i 55 1)) 0 14 3 ((am_up (am_up (am_up I 0 14 0 (I i 40 0)) 0 14 1 ((am_up I 0 14 0 (I i 40 0)) i 55 0)) 0 14 2 ((am_up (am_up I 0 14 0 (I i 40 0)) 0 14 1 ((am_up I 0 14 0 (I i 40 0)) i 55 0)) i 55 1)) i 55 2)) 0 14 4 ((am_up (am_up (am_up (am_up I 0 14 0 (I i 40 0)) 0 14 1 ((am_up I 0 14 0 (I i 40 0)) i 55 0)) 0 14 2 ((am_up (am_up I 0 14 0 (I i 40 0)) 0 14 1 ((am_up I 0 14 0 (I i 40 0)) i 55 0)) i 55 1)) 0 14 3 ((am_up (am_up (am_up I 0 14 0 (I i 40 0)) 0 14 1 ((am_up I 0 14 0 (I i 40 0)) i 55 0)) 0 14 2 ((am_up (am_up I 0 14 0 (I i 40 0)) 0 14 1 ((am_up I 0 14 0 (I i 40 0)) i 55 0)) i 55 1)) i 55 2)) i 55 3)) i 55 4)) 0 14 6 ((am_up (am_up (am_up (am_up (am_up (am_up I 0 14 0 (I i 40 0)) 0 14 1 ((am_up I 0 14 0 (I i 40 0)) i 55 0)) 0 14 2 ((am_up (am_up I 0 14 0 (I i 40 0)) 0 14 1 ((am_up I 0 14 0 (I i 40 0)) i 55 0)) i 55 1)) 0 14 3 ((am_up (am_up (am_up I 0 14 0 (I i 40 0)) 0 14 1 ((am_up I 0 14 0 (I i 40 0)) i 55 0)) 0 14 2 ((am_up (am_up I 0 14 0 (I i 40 0)) 0 14 1 ((am_up I 0 14 0 (I i 40 0)) i 55 0)) i 55 1)) i 55 2)) 0 14 4 ((am_up (am_up (am_up (am_up I 0 14 0 (I i 40 0)) 0 14 1 ((am_up I 0 14 0 (I i 40 0)) i 55 0)) 0 14 2 ((am_up (am_up I 0 14 0 (I i 40 0)) 0 14 1 ((am_up I 0 14 0 (I i 40 0)) i 55 0)) i 55 1)) 0 14 3 ((am_up (am_up (am_up I 0 14 0 (I i 40 0)) 0 14 1 ((am_up I 0 14 0 (I i 40 0)) i 55 0)) 0 14 2 ((am_up (am_up I 0 14 0 (I i 40 0)) 0 14 1 ((am_up I 0 14 0 (I i 40 0)) i 55 0)) i 55 1)) i 55 2)) i 55 3)) 0 14 5 ((am_up (am_up (am_up (am_up (am_up I 0 14 0 (I i 40 0)) 0 14 1 ((am_up I 0 14 0 (I i 40 0)) i 55 0)) 0 14 2 ((am_up (am_up I 0 14 0 (I i 40 0)) 0 14 1 ((am_up I 0 14 0 (I i 40 0)) i 55 0)) i 55 1)) 0 14 3 ((am_up (am_up (am_up I 0 14 0 (I i 40 0)) 0 14 1 ((am_up I 0 14 0 (I i 40 0)) i 55 0)) 0 14 2 ((am_up (am_up I 0 14 0 (I i 40 0)) 0 14 1 ((am_up I 0 14 0 (I i 40 0)) i 55 0)) i 55 1)) i 55 2)) 0 14 4 ((am_up (am_up (am_up (am_up I 0 14 0 (I i 40 0)) 0 14 1 ((am_up I 0 14 0 (I i 40 0)) i 55 0)) 0 14 2 ((am_up (am_up I 0 14 0 (I i 40 0)) 0 14 1 ((am_up I 0 14 0 (I i 40 0)) i 55 0)) i 55 1)) 0 14 3 ((am_up (am_up (am_up I 0 14 0 (I i 40 0)) 0 14 1 ((am_up I 0 14 0 (I i 40 0)) i 55 0)) 0 14 2 ((am_up (am_up I 0 14 0 (I i 40 0)) 0 14 1 ((am_up I 0 14 0 (I i 40 0)) i 55 0)) i 55 1)) i 55 2)) i 55 3)) i 55 4)) i 55 5)) i 55 6)) dX0_enter_132 fl_0_54 (hG.mn hi (by decide) (by decide)) rfl ?_
  refine am_iast (a := 7) dX0_enter_135 (hG.m0 (by decide)) rfl rfl (show 7 < 4000 from (by omega)) (show 4000 < 2 ^ 31 by decide) ?_
  refine am_aload_n dX0_enter_136 rfl ?_
  refine am_get (v := .inr (0, 14)) dX0_enter_137 fl_0_11 (hG.m0 (by decide)) rfl ?_
  refine am_iload dX0_enter_140 rfl ?_
  refine am_bipush (v := nI 8) dX0_enter_142 (by decide) ?_
  refine am_iadd dX0_enter_144 ?_
  refine am_top (show (nI 0) + (nI 8) = nI 8 by decide) ?_
  refine am_iload_n dX0_enter_145 rfl ?_
  refine am_iast (a := 8) dX0_enter_146 (hG.m0 (by decide)) rfl rfl (show 8 < 4000 from (by omega)) (show 4000 < 2 ^ 31 by decide) ?_
  refine am_aload_n dX0_enter_147 rfl ?_
  refine am_get (v := .inr (0, 14)) dX0_enter_148 fl_0_11 (hG.m0 (by decide)) rfl ?_
  refine am_iload dX0_enter_151 rfl ?_
  refine am_bipush (v := nI 9) dX0_enter_153 (by decide) ?_
  refine am_iadd dX0_enter_155 ?_
  refine am_top (show (nI 0) + (nI 9) = nI 9 by decide) ?_
  refine am_iload_n dX0_enter_156 rfl ?_
  refine am_iast (a := 9) dX0_enter_157 (hG.m0 (by decide)) rfl rfl (show 9 < 4000 from (by omega)) (show 4000 < 2 ^ 31 by decide) ?_
  refine am_aload_n dX0_enter_158 rfl ?_
  refine am_dup dX0_enter_159 ?_
  refine am_get (v := .inl ((am_up (am_up (am_up (am_up (am_up (am_up (am_up (am_up (am_up (am_up I 0 14 0 (I i 40 0)) 0 14 1 ((am_up I 0 14 0 (I i 40 0)) i 55 0)) 0 14 2 ((am_up (am_up I 0 14 0 (I i 40 0)) 0 14 1 ((am_up I 0 14 0 (I i 40 0)) i 55 0)) i 55 1)) 0 14 3 ((am_up (am_up (am_up I 0 14 0 (I i 40 0)) 0 14 1 ((am_up I 0 14 0 (I i 40 0)) i 55 0)) 0 14 2 ((am_up (am_up I 0 14 0 (I i 40 0)) 0 14 1 ((am_up I 0 14 0 (I i 40 0)) i 55 0)) i 55 1)) i 55 2)) 0 14 4 ((am_up (am_up (am_up (am_up I 0 14 0 (I i 40 0)) 0 14 1 ((am_up I 0 14 0 (I i 40 0)) i 55 0)) 0 14 2 ((am_up (am_up I 0 14 0 (I i 40 0)) 0 14 1 ((am_up I 0 14 0 (I i 40 0)) i 55 0)) i 55 1)) 0 14 3 ((am_up (am_up (am_up I 0 14 0 (I i 40 0)) 0 14 1 ((am_up I 0 14 0 (I i 40 0)) i 55 0)) 0 14 2 ((am_up (am_up I 0 14 0 (I i 40 0)) 0 14 1 ((am_up I 0 14 0 (I i 40 0)) i 55 0)) i 55 1)) i 55 2)) i 55 3)) 0 14 5 ((am_up (am_up (am_up (am_up (am_up I 0 14 0 (I i 40 0)) 0 14 1 ((am_up I 0 14 0 (I i 40 0)) i 55 0)) 0 14 2 ((am_up (am_up I 0 14 0 (I i 40 0)) 0 14 1 ((am_up I 0 14 0 (I i 40 0)) i 55 0)) i 55 1)) 0 14 3 ((am_up (am_up (am_up I 0 14 0 (I i 40 0)) 0 14 1 ((am_up I 0 14 0 (I i 40 0)) i 55 0)) 0 14 2 ((am_up (am_up I 0 14 0 (I i 40 0)) 0 14 1 ((am_up I 0 14 0 (I i 40 0)) i 55 0)) i 55 1)) i 55 2)) 0 14 4 ((am_up (am_up (am_up (am_up I 0 14 0 (I i 40 0)) 0 14 1 ((am_up I 0 14 0 (I i 40 0)) i 55 0)) 0 14 2 ((am_up (am_up I 0 14 0 (I i 40 0)) 0 14 1 ((am_up I 0 14 0 (I i 40 0)) i 55 0)) i 55 1)) 0 14 3 ((am_up (am_up (am_up I 0 14 0 (I i 40 0)) 0 14 1 ((am_up I 0 14 0 (I i 40 0)) i 55 0)) 0 14 2 ((am_up (am_up I 0 14 0 (I i 40 0)) 0 14 1 ((am_up I 0 14 0 (I i 40 0)) i 55 0)) i 55 1)) i 55 2)) i 55 3)) i 55 4)) 0 14 6 ((am_up (am_up (am_up (am_up (am_up (am_up I 0 14 0 (I i 40 0)) 0 14 1 ((am_up I 0 14 0 (I i 40 0)) i 55 0)) 0 14 2 ((am_up (am_up I 0 14 0 (I i 40 0)) 0 14 1 ((am_up I 0 14 0 (I i 40 0)) i 55 0)) i 55 1)) 0 14 3 ((am_up (am_up (am_up I 0 14 0 (I i 40 0)) 0 14 1 ((am_up I 0 14 0 (I i 40 0)) i 55 0)) 0 14 2 ((am_up (am_up I 0 14 0 (I i 40 0)) 0 14 1 ((am_up I 0 14 0 (I i 40 0)) i 55 0)) i 55 1)) i 55 2)) 0 14 4 ((am_up (am_up (am_up (am_up I 0 14 0 (I i 40 0)) 0 14 1 ((am_up I 0 14 0 (I i 40 0)) i 55 0)) 0 14 2 ((am_up (am_up I 0 14 0 (I i 40 0)) 0 14 1 ((am_up I 0 14 0 (I i 40 0)) i 55 0)) i 55 1)) 0 14 3 ((am_up (am_up (am_up I 0 14 0 (I i 40 0)) 0 14 1 ((am_up I 0 14 0 (I i 40 0)) i 55 0)) 0 14 2 ((am_up (am_up I 0 14 0 (I i 40 0)) 0 14 1 ((am_up I 0 14 0 (I i 40 0)) i 55 0)) i 55 1)) i 55 2)) i 55 3)) 0 14 5 ((am_up (am_up (am_up (am_up (am_up I 0 14 0 (I i 40 0)) 0 14 1 ((am_up I 0 14 0 (I i 40 0)) i 55 0)) 0 14 2 ((am_up (am_up I 0 14 0 (I i 40 0)) 0 14 1 ((am_up I 0 14 0 (I i 40 0)) i 55 0)) i 55 1)) 0 14 3 ((am_up (am_up (am_up I 0 14 0 (I i 40 0)) 0 14 1 ((am_up I 0 14 0 (I i 40 0)) i 55 0)) 0 14 2 ((am_up (am_up I 0 14 0 (I i 40 0)) 0 14 1 ((am_up I 0 14 0 (I i 40 0)) i 55 0)) i 55 1)) i 55 2)) 0 14 4 ((am_up (am_up (am_up (am_up I 0 14 0 (I i 40 0)) 0 14 1 ((am_up I 0 14 0 (I i 40 0)) i 55 0)) 0 14 2 ((am_up (am_up I 0 14 0 (I i 40 0)) 0 14 1 ((am_up I 0 14 0 (I i 40 0)) i 55 0)) i 55 1)) 0 14 3 ((am_up (am_up (am_up I 0 14 0 (I i 40 0)) 0 14 1 ((am_up I 0 14 0 (I i 40 0)) i 55 0)) 0 14 2 ((am_up (am_up I 0 14 0 (I i 40 0)) 0 14 1 ((am_up I 0 14 0 (I i 40 0)) i 55 0)) i 55 1)) i 55 2)) i 55 3)) i 55 4)) i 55 5)) 0 14 7 ((am_up (am_up (am_up (am_up (am_up (am_up (am_up I 0 14 0 (I i 40 0)) 0 14 1 ((am_up I 0 14 0 (I i 40 0)) i 55 0)) 0 14 2 ((am_up (am_up I 0 14 0 (I i 40 0)) 0 14 1 ((am_up I 0 14 0 (I i 40 0)) i 55 0)) i 55 1)) 0 14 3 ((am_up (am_up (am_up I 0 14 0 (I i 40 0)) 0 14 1 ((am_up I 0 14 0 (I i 40 0)) i 55 0)) 0 14 2 ((am_up (am_up I 0 14 0 (I i 40 0)) 0 14 1 ((am_up I 0 14 0 (I i 40 0)) i 55 0)) i 55 1)) i 55 2)) 0 14 4 ((am_up (am_up (am_up (am_up I 0 14 0 (I i 40 0)) 0 14 1 ((am_up I 0 14 0 (I i 40 0)) i 55 0)) 0 14 2 ((am_up (am_up I 0 14 0 (I i 40 0)) 0 14 1 ((am_up I 0 14 0 (I i 40 0)) i 55 0)) i 55 1)) 0 14 3 ((am_up (am_up (am_up I 0 14 0 (I i 40 0)) 0 14 1 ((am_up I 0 14 0 (I i 40 0)) i 55 0)) 0 14 2 ((am_up (am_up I 0 14 0 (I i 40 0)) 0 14 1 ((am_up I 0 14 0 (I i 40 0)) i 55 0)) i 55 1)) i 55 2)) i 55 3)) 0 14 5 ((am_up (am_up (am_up (am_up (am_up I 0 14 0 (I i 40 0)) 0 14 1 ((am_up I 0 14 0 (I i 40 0)) i 55 0)) 0 14 2 ((am_up (am_up I 0 14 0 (I i 40 0)) 0 14 1 ((am_up I 0 14 0 (I i 40 0)) i 55 0)) i 55 1)) 0 14 3 ((am_up (am_up (am_up I 0 14 0 (I i 40 0)) 0 14 1 ((am_up I 0 14 0 (I i 40 0)) i 55 0)) 0 14 2 ((am_up (am_up I 0 14 0 (I i 40 0)) 0 14 1 ((am_up I 0 14 0 (I i 40 0)) i 55 0)) i 55 1)) i 55 2)) 0 14 4 ((am_up (am_up (am_up (am_up I 0 14 0 (I i 40 0)) 0 14 1 ((am_up I 0 14 0 (I i 40 0)) i 55 0)) 0 14 2 ((am_up (am_up I 0 14 0 (I i 40 0)) 0 14 1 ((am_up I 0 14 0 (I i 40 0)) i 55 0)) i 55 1)) 0 14 3 ((am_up (am_up (am_up I 0 14 0 (I i 40 0)) 0 14 1 ((am_up I 0 14 0 (I i 40 0)) i 55 0)) 0 14 2 ((am_up (am_up I 0 14 0 (I i 40 0)) 0 14 1 ((am_up I 0 14 0 (I i 40 0)) i 55 0)) i 55 1)) i 55 2)) i 55 3)) i 55 4)) 0 14 6 ((am_up (am_up (am_up (am_up (am_up (am_up I 0 14 0 (I i 40 0)) 0 14 1 ((am_up I 0 14 0 (I i 40 0)) i 55 0)) 0 14 2 ((am_up (am_up I 0 14 0 (I i 40 0)) 0 14 1 ((am_up I 0 14 0 (I i 40 0)) i 55 0)) i 55 1)) 0 14 3 ((am_up (am_up (am_up I 0 14 0 (I i 40 0)) 0 14 1 ((am_up I 0 14 0 (I i 40 0)) i 55 0)) 0 14 2 ((am_up (am_up I 0 14 0 (I i 40 0)) 0 14 1 ((am_up I 0 14 0 (I i 40 0)) i 55 0)) i 55 1)) i 55 2)) 0 14 4 ((am_up (am_up (am_up (am_up I 0 14 0 (I i 40 0)) 0 14 1 ((am_up I 0 14 0 (I i 40 0)) i 55 0)) 0 14 2 ((am_up (am_up I 0 14 0 (I i 40 0)) 0 14 1 ((am_up I 0 14 0 (I i 40 0)) i 55 0)) i 55 1)) 0 14 3 ((am_up (am_up (am_up I 0 14 0 (I i 40 0)) 0 14 1 ((am_up I 0 14 0 (I i 40 0)) i 55 0)) 0 14 2 ((am_up (am_up I 0 14 0 (I i 40 0)) 0 14 1 ((am_up I 0 14 0 (I i 40 0)) i 55 0)) i 55 1)) i 55 2)) i 55 3)) 0 14 5 ((am_up (am_up (am_up (am_up (am_up I 0 14 0 (I i 40 0)) 0 14 1 ((am_up I 0 14 0 (I i 40 0)) i 55 0)) 0 14 2 ((am_up (am_up I 0 14 0 (I i 40 0)) 0 14 1 ((am_up I 0 14 0 (I i 40 0)) i 55 0)) i 55 1)) 0 14 3 ((am_up (am_up (am_up I 0 14 0 (I i 40 0)) 0 14 1 ((am_up I 0 14 0 (I i 40 0)) i 55 0)) 0 14 2 ((am_up (am_up I 0 14 0 (I i 40 0)) 0 14 1 ((am_up I 0 14 0 (I i 40 0)) i 55 0)) i 55 1)) i 55 2)) 0 14 4 ((am_up (am_up (am_up (am_up I 0 14 0 (I i 40 0)) 0 14 1 ((am_up I 0 14 0 (I i 40 0)) i 55 0)) 0 14 2 ((am_up (am_up I 0 14 0 (I i 40 0)) 0 14 1 ((am_up I 0 14 0 (I i 40 0)) i 55 0)) i 55 1)) 0 14 3 ((am_up (am_up (am_up I 0 14 0 (I i 40 0)) 0 14 1 ((am_up I 0 14 0 (I i 40 0)) i 55 0)) 0 14 2 ((am_up (am_up I 0 14 0 (I i 40 0)) 0 14 1 ((am_up I 0 14 0 (I i 40 0)) i 55 0)) i 55 1)) i 55 2)) i 55 3)) i 55 4)) i 55 5)) i 55 6)) 0 14 8 x) 0 14 9 y) 0 13 1)) dX0_enter_160 fl_0_15 (hG.m0 (by decide)) rfl ?_
  refine am_top (show (am_up (am_up (am_up (am_up (am_up (am_up (am_up (am_up (am_up (am_up I 0 14 0 (I i 40 0)) 0 14 1 ((am_up I 0 14 0 (I i 40 0)) i 55 0)) 0 14 2 ((am_up (am_up I 0 14 0 (I i 40 0)) 0 14 1 ((am_up I 0 14 0 (I i 40 0)) i 55 0)) i 55 1)) 0 14 3 ((am_up (am_up (am_up I 0 14 0 (I i 40 0)) 0 14 1 ((am_up I 0 14 0 (I i 40 0)) i 55 0)) 0 14 2 ((am_up (am_up I 0 14 0 (I i 40 0)) 0 14 1 ((am_up I 0 14 0 (I i 40 0)) i 55 0)) i 55 1)) i 55 2)) 0 14 4 ((am_up (am_up (am_up (am_up I 0 14 0 (I i 40 0)) 0 14 1 ((am_up I 0 14 0 (I i 40 0)) i 55 0)) 0 14 2 ((am_up (am_up I 0 14 0 (I i 40 0)) 0 14 1 ((am_up I 0 14 0 (I i 40 0)) i 55 0)) i 55 1)) 0 14 3 ((am_up (am_up (am_up I 0 14 0 (I i 40 0)) 0 14 1 ((am_up I 0 14 0 (I i 40 0)) i 55 0)) 0 14 2 ((am_up (am_up I 0 14 0 (I i 40 0)) 0 14 1 ((am_up I 0 14 0 (I i 40 0)) i 55 0)) i 55 1)) i 55 2)) i 55 3)) 0 14 5 ((am_up (am_up (am_up (am_up (am_up I 0 14 0 (I i 40 0)) 0 14 1 ((am_up I 0 14 0 (I i 40 0)) i 55 0)) 0 14 2 ((am_up (am_up I 0 14 0 (I i 40 0)) 0 14 1 ((am_up I 0 14 0 (I i 40 0)) i 55 0)) i 55 1)) 0 14 3 ((am_up (am_up (am_up I 0 14 0 (I i 40 0)) 0 14 1 ((am_up I 0 14 0 (I i 40 0)) i 55 0)) 0 14 2 ((am_up (am_up I 0 14 0 (I i 40 0)) 0 14 1 ((am_up I 0 14 0 (I i 40 0)) i 55 0)) i 55 1)) i 55 2)) 0 14 4 ((am_up (am_up (am_up (am_up I 0 14 0 (I i 40 0)) 0 14 1 ((am_up I 0 14 0 (I i 40 0)) i 55 0)) 0 14 2 ((am_up (am_up I 0 14 0 (I i 40 0)) 0 14 1 ((am_up I 0 14 0 (I i 40 0)) i 55 0)) i 55 1)) 0 14 3 ((am_up (am_up (am_up I 0 14 0 (I i 40 0)) 0 14 1 ((am_up I 0 14 0 (I i 40 0)) i 55 0)) 0 14 2 ((am_up (am_up I 0 14 0 (I i 40 0)) 0 14 1 ((am_up I 0 14 0 (I i 40 0)) i 55 0)) i 55 1)) i 55 2)) i 55 3)) i 55 4)) 0 14 6 ((am_up (am_up (am_up (am_up (am_up (am_up I 0 14 0 (I i 40 0)) 0 14 1 ((am_up I 0 14 0 (I i 40 0)) i 55 0)) 0 14 2 ((am_up (am_up I 0 14 0 (I i 40 0)) 0 14 1 ((am_up I 0 14 0 (I i 40 0)) i 55 0)) i 55 1)) 0 14 3 ((am_up (am_up (am_up I 0 14 0 (I i 40 0)) 0 14 1 ((am_up I 0 14 0 (I i 40 0)) i 55 0)) 0 14 2 ((am_up (am_up I 0 14 0 (I i 40 0)) 0 14 1 ((am_up I 0 14 0 (I i 40 0)) i 55 0)) i 55 1)) i 55 2)) 0 14 4 ((am_up (am_up (am_up (am_up I 0 14 0 (I i 40 0)) 0 14 1 ((am_up I 0 14 0 (I i 40 0)) i 55 0)) 0 14 2 ((am_up (am_up I 0 14 0 (I i 40 0)) 0 14 1 ((am_up I 0 14 0 (I i 40 0)) i 55 0)) i 55 1)) 0 14 3 ((am_up (am_up (am_up I 0 14 0 (I i 40 0)) 0 14 1 ((am_up I 0 14 0 (I i 40 0)) i 55 0)) 0 14 2 ((am_up (am_up I 0 14 0 (I i 40 0)) 0 14 1 ((am_up I 0 14 0 (I i 40 0)) i 55 0)) i 55 1)) i 55 2)) i 55 3)) 0 14 5 ((am_up (am_up (am_up (am_up (am_up I 0 14 0 (I i 40 0)) 0 14 1 ((am_up I 0 14 0 (I i 40 0)) i 55 0)) 0 14 2 ((am_up (am_up I 0 14 0 (I i 40 0)) 0 14 1 ((am_up I 0 14 0 (I i 40 0)) i 55 0)) i 55 1)) 0 14 3 ((am_up (am_up (am_up I 0 14 0 (I i 40 0)) 0 14 1 ((am_up I 0 14 0 (I i 40 0)) i 55 0)) 0 14 2 ((am_up (am_up I 0 14 0 (I i 40 0)) 0 14 1 ((am_up I 0 14 0 (I i 40 0)) i 55 0)) i 55 1)) i 55 2)) 0 14 4 ((am_up (am_up (am_up (am_up I 0 14 0 (I i 40 0)) 0 14 1 ((am_up I 0 14 0 (I i 40 0)) i 55 0)) 0 14 2 ((am_up (am_up I 0 14 0 (I i 40 0)) 0 14 1 ((am_up I 0 14 0 (I i 40 0)) i 55 0)) i 55 1)) 0 14 3 ((am_up (am_up (am_up I 0 14 0 (I i 40 0)) 0 14 1 ((am_up I 0 14 0 (I i 40 0)) i 55 0)) 0 14 2 ((am_up (am_up I 0 14 0 (I i 40 0)) 0 14 1 ((am_up I 0 14 0 (I i 40 0)) i 55 0)) i 55 1)) i 55 2)) i 55 3)) i 55 4)) i 55 5)) 0 14 7 ((am_up (am_up (am_up (am_up (am_up (am_up (am_up I 0 14 0 (I i 40 0)) 0 14 1 ((am_up I 0 14 0 (I i 40 0)) i 55 0)) 0 14 2 ((am_up (am_up I 0 14 0 (I i 40 0)) 0 14 1 ((am_up I 0 14 0 (I i 40 0)) i 55 0)) i 55 1)) 0 14 3 ((am_up (am_up (am_up I 0 14 0 (I i 40 0)) 0 14 1 ((am_up I 0 14 0 (I i 40 0)) i 55 0)) 0 14 2 ((am_up (am_up I 0 14 0 (I i 40 0)) 0 14 1 ((am_up I 0 14 0 (I i 40 0)) i 55 0)) i 55 1)) i 55 2)) 0 14 4 ((am_up (am_up (am_up (am_up I 0 14 0 (I i 40 0)) 0 14 1 ((am_up I 0 14 0 (I i 40 0)) i 55 0)) 0 14 2 ((am_up (am_up I 0 14 0 (I i 40 0)) 0 14 1 ((am_up I 0 14 0 (I i 40 0)) i 55 0)) i 55 1)) 0 14 3 ((am_up (am_up (am_up I 0 14 0 (I i 40 0)) 0 14 1 ((am_up I 0 14 0 (I i 40 0)) i 55 0)) 0 14 2 ((am_up (am_up I 0 14 0 (I i 40 0)) 0 14 1 ((am_up I 0 14 0 (I i 40 0)) i 55 0)) i 55 1)) i 55 2)) i 55 3)) 0 14 5 ((am_up (am_up (am_up (am_up (am_up I 0 14 0 (I i 40 0)) 0 14 1 ((am_up I 0 14 0 (I i 40 0)) i 55 0)) 0 14 2 ((am_up (am_up I 0 14 0 (I i 40 0)) 0 14 1 ((am_up I 0 14 0 (I i 40 0)) i 55 0)) i 55 1)) 0 14 3 ((am_up (am_up (am_up I 0 14 0 (I i 40 0)) 0 14 1 ((am_up I 0 14 0 (I i 40 0)) i 55 0)) 0 14 2 ((am_up (am_up I 0 14 0 (I i 40 0)) 0 14 1 ((am_up I 0 14 0 (I i 40 0)) i 55 0)) i 55 1)) i 55 2)) 0 14 4 ((am_up (am_up (am_up (am_up I 0 14 0 (I i 40 0)) 0 14 1 ((am_up I 0 14 0 (I i 40 0)) i 55 0)) 0 14 2 ((am_up (am_up I 0 14 0 (I i 40 0)) 0 14 1 ((am_up I 0 14 0 (I i 40 0)) i 55 0)) i 55 1)) 0 14 3 ((am_up (am_up (am_up I 0 14 0 (I i 40 0)) 0 14 1 ((am_up I 0 14 0 (I i 40 0)) i 55 0)) 0 14 2 ((am_up (am_up I 0 14 0 (I i 40 0)) 0 14 1 ((am_up I 0 14 0 (I i 40 0)) i 55 0)) i 55 1)) i 55 2)) i 55 3)) i 55 4)) 0 14 6 ((am_up (am_up (am_up (am_up (am_up (am_up I 0 14 0 (I i 40 0)) 0 14 1 ((am_up I 0 14 0 (I i 40 0)) i 55 0)) 0 14 2 ((am_up (am_up I 0 14 0 (I i 40 0)) 0 14 1 ((am_up I 0 14 0 (I i 40 0)) i 55 0)) i 55 1)) 0 14 3 ((am_up (am_up (am_up I 0 14 0 (I i 40 0)) 0 14 1 ((am_up I 0 14 0 (I i 40 0)) i 55 0)) 0 14 2 ((am_up (am_up I 0 14 0 (I i 40 0)) 0 14 1 ((am_up I 0 14 0 (I i 40 0)) i 55 0)) i 55 1)) i 55 2)) 0 14 4 ((am_up (am_up (am_up (am_up I 0 14 0 (I i 40 0)) 0 14 1 ((am_up I 0 14 0 (I i 40 0)) i 55 0)) 0 14 2 ((am_up (am_up I 0 14 0 (I i 40 0)) 0 14 1 ((am_up I 0 14 0 (I i 40 0)) i 55 0)) i 55 1)) 0 14 3 ((am_up (am_up (am_up I 0 14 0 (I i 40 0)) 0 14 1 ((am_up I 0 14 0 (I i 40 0)) i 55 0)) 0 14 2 ((am_up (am_up I 0 14 0 (I i 40 0)) 0 14 1 ((am_up I 0 14 0 (I i 40 0)) i 55 0)) i 55 1)) i 55 2)) i 55 3)) 0 14 5 ((am_up (am_up (am_up (am_up (am_up I 0 14 0 (I i 40 0)) 0 14 1 ((am_up I 0 14 0 (I i 40 0)) i 55 0)) 0 14 2 ((am_up (am_up I 0 14 0 (I i 40 0)) 0 14 1 ((am_up I 0 14 0 (I i 40 0)) i 55 0)) i 55 1)) 0 14 3 ((am_up (am_up (am_up I 0 14 0 (I i 40 0)) 0 14 1 ((am_up I 0 14 0 (I i 40 0)) i 55 0)) 0 14 2 ((am_up (am_up I 0 14 0 (I i 40 0)) 0 14 1 ((am_up I 0 14 0 (I i 40 0)) i 55 0)) i 55 1)) i 55 2)) 0 14 4 ((am_up (am_up (am_up (am_up I 0 14 0 (I i 40 0)) 0 14 1 ((am_up I 0 14 0 (I i 40 0)) i 55 0)) 0 14 2 ((am_up (am_up I 0 14 0 (I i 40 0)) 0 14 1 ((am_up I 0 14 0 (I i 40 0)) i 55 0)) i 55 1)) 0 14 3 ((am_up (am_up (am_up I 0 14 0 (I i 40 0)) 0 14 1 ((am_up I 0 14 0 (I i 40 0)) i 55 0)) 0 14 2 ((am_up (am_up I 0 14 0 (I i 40 0)) 0 14 1 ((am_up I 0 14 0 (I i 40 0)) i 55 0)) i 55 1)) i 55 2)) i 55 3)) i 55 4)) i 55 5)) i 55 6)) 0 14 8 x) 0 14 9 y) 0 13 1 = nI 0 from (by simp [am_up, am_upf, upd, hen])) ?_
  refine am_iconst (v := nI 1) dX0_enter_163 (by decide) ?_
  refine am_iadd dX0_enter_164 ?_
  refine am_top (show (nI 0) + (nI 1) = nI 1 by decide) ?_
  refine am_put (x := nI 1) dX0_enter_165 fp_0_15 (hG.m0 (by decide)) (Nat.le_of_ble_eq_true rfl) rfl ?_
  refine am_vret dX0_enter_168 rfl ?_
  exact ⟨rfl, rfl⟩
theorem c_endCall0 {G : am_G} (hG : am_ok G) {d : Nat} {i : Nat} (hi : i < G.2.2.2.1) (I : am_I)  (hch : I 0 15 5 = nI 0) (hgv : I 0 15 7 = nI 0) (hot : I 0 15 9 = nI 1) (hva : I 0 15 10 = nI 0) (hen : I 0 13 1 = nI 0) (hlc : I i 48 6 = nI 0) : am_C G (d + 2) mX10_endCall [.inr (0, 0), .inr (i, 40)] I (fun r I' => r = none ∧ I' i 55 5 = nI 2) := by
  refine am_of (by decide +kernel) hG.nd (Nat.le_of_ble_eq_true rfl) ?_
  refine am_aload_n dX10_endCall_0 rfl ?_
  refine am_get (v := .inr (0, 15)) dX10_endCall_1 fl_10_52 (hG.m0 (by decide)) rfl ?_
  refine am_get (v := .inl (I 0 15 5)) dX10_endCall_4 fl_10_398 (hG.m0 (by decide)) rfl ?_
  refine am_top (show I 0 15 5 = nI 0 from (by simp [am_up, am_upf, upd, hch, hgv, hot, hva, hen, hlc])) ?_
  refine am_if_le (tgt := 14) dX10_endCall_7 (by decide) (fun _ => ?_) (fun h => absurd h (by decide))
  refine am_iconst (v := nI 0) dX10_endCall_14 (by decide) ?_
  refine am_istore_n dX10_endCall_15 (by decide) ?_
  refine am_aload_n dX10_endCall_16 rfl ?_
  refine am_get (v := .inr (0, 15)) dX10_endCall_17 fl_10_52 (hG.m0 (by decide)) rfl ?_
  refine am_callVe (i := 0) (j := 15) (as := []) (rest := []) dX10_endCall_20 lkX9_settle ml_X10_401 imX9_settle seX9_settle rfl rfl (hG.m0 (by decide)) rfl (Nat.le_of_ble_eq_true rfl) rfl (c_settle0 hG I (by simp [am_up, am_upf, upd, hch, hgv, hot, hva, hen, hlc]) (by simp [am_up, am_upf, upd, hch, hgv, hot, hva, hen, hlc])) ?_
  refine am_nm (fun I1 hI1 => ?_)
  refine am_aload_n dX10_endCall_23 rfl ?_
  refine am_get (v := .inr (i, 55)) dX10_endCall_24 fl_10_84 (hG.mn hi (by decide) (by decide)) rfl ?_
  refine am_aload_n dX10_endCall_27 rfl ?_
  refine am_get (v := .inr (0, 15)) dX10_endCall_28 fl_10_52 (hG.m0 (by decide)) rfl ?_
  refine am_get (v := .inl (I1 0 15 9)) dX10_endCall_31 fl_10_338 (hG.m0 (by decide)) rfl ?_
  refine am_top (show I1 0 15 9 = nI 1 from (by simp [am_up, am_upf, upd, hch, hgv, hot, hva, hen, hlc, hI1])) ?_
  refine am_iconst (v := nI 2) dX10_endCall_34 (by decide) ?_
  refine am_icmp_ne (tgt := 42) dX10_endCall_35 (by decide) (fun _ => ?_) (fun h => absurd h (by decide))
  refine am_iconst (v := nI 2) dX10_endCall_42 (by decide) ?_
  refine am_aload_n dX10_endCall_43 rfl ?_
  refine am_get (v := .inr (0, 15)) dX10_endCall_44 fl_10_52 (hG.m0 (by decide)) rfl ?_
  refine am_get (v := .inl (I1 0 15 10)) dX10_endCall_47 fl_10_404 (hG.m0 (by decide)) rfl ?_
  refine am_top (show I1 0 15 10 = nI 0 from (by simp [am_up, am_upf, upd, hch, hgv, hot, hva, hen, hlc, hI1])) ?_
  refine am_aload_n dX10_endCall_50 rfl ?_
  refine am_get (v := .inl (I1 0 0 7)) dX10_endCall_51 fl_10_99 (hG.m0 (by decide)) rfl ?_
  refine am_callVe (i := i) (j := 55) (as := [.inl (nI 2), .inl (nI 0), .inl (I1 0 0 7)]) (rest := []) dX10_endCall_54 lkX8_end ml_X10_145 imX8_end seX8_end rfl rfl (hG.mn hi (by decide) (by decide)) rfl (Nat.le_of_ble_eq_true rfl) rfl (c_Tend hG hi (nI 2) (nI 0) (I1 0 0 7) I1) ?_
  refine am_nm (fun I2 hI2 => ?_)
  refine am_aload_n dX10_endCall_57 rfl ?_
  refine am_get (v := .inr (0, 13)) dX10_endCall_58 fl_10_43 (hG.m0 (by decide)) rfl ?_
  refine am_aload_n dX10_endCall_61 rfl ?_
  refine am_aload_n dX10_endCall_62 rfl ?_
  refine am_get (v := .inl (I2 0 0 7)) dX10_endCall_63 fl_10_99 (hG.m0 (by decide)) rfl ?_
  refine am_iload_n dX10_endCall_66 rfl ?_
  refine am_if_eq (tgt := 74) dX10_endCall_67 (by decide) (fun _ => ?_) (fun h => absurd h (by decide))
  refine am_iconst (v := nI 0) dX10_endCall_74 (by decide) ?_
  refine am_callVe (i := 0) (j := 13) (as := [.inr (i, 40), .inl (I2 0 0 7), .inl (nI 0)]) (rest := []) dX10_endCall_75 lkX0_enter ml_X10_405 imX0_enter seX0_enter rfl rfl (hG.m0 (by decide)) rfl (Nat.le_of_ble_eq_true rfl) rfl (c_enter0 hG (I2 0 0 7) (nI 0) hi I2 (by simp [am_up, am_upf, upd, hch, hgv, hot, hva, hen, hlc, hI1, hI2])) ?_
  refine am_nm (fun I3 hI3 => ?_)
  refine am_aload_n dX10_endCall_78 rfl ?_
  refine am_aload_n dX10_endCall_79 rfl ?_
  refine am_callVe (i := 0) (j := 0) (as := [.inr (i, 40)]) (rest := []) dX10_endCall_80 lkX10_unpinAll ml_X10_356 imX10_unpinAll seX10_unpinAll rfl rfl (hG.m0 (by decide)) rfl (Nat.le_of_ble_eq_true rfl) rfl (c_unpinAll0 hG hi I3 (by simp [am_up, am_upf, upd, hch, hgv, hot, hva, hen, hlc, hI1, hI2, hI3])) ?_
  refine am_aload_n dX10_endCall_83 rfl ?_
  refine am_get (v := .inr (i, 48)) dX10_endCall_84 fl_10_244 (hG.mn hi (by decide) (by decide)) rfl ?_
  refine am_callVe (i := i) (j := 48) (as := []) (rest := []) dX10_endCall_87 lkX4_clearList ml_X10_409 imX4_clearList seX4_clearList rfl rfl (hG.mn hi (by decide) (by decide)) rfl (Nat.le_of_ble_eq_true rfl) rfl (c_LclearList hG hi I3) ?_
  refine am_nm (fun I4 hI4 => ?_)
  refine am_vret dX10_endCall_90 rfl ?_
  exact ⟨rfl, (by simp [am_up, am_upf, upd, hch, hgv, hot, hva, hen, hlc, hI1, hI2, hI3, hI4])⟩
theorem c_goOn0 {G : am_G} (hG : am_ok G) {d : Nat} {i a : Nat} (hi : i < G.2.2.2.1) (hab : a < 128) (I : am_I) (hj : ∀ x, x < G.2.2.2.1 → I x 40 6 = nI 1) (hu : ∀ x, x < G.2.2.2.1 → I x 40 5 = nI 1) (hkd : I i 55 0 = nI 0) (hst : I i 55 5 = nI 1) (hwl : I i 55 11 = nI 0) (hct : I i 44 5 = nI 0) (hlg : I i 44 2 = nI 0) (hlc : I i 48 6 = nI 0) (hch : I 0 15 5 = nI 0) (hgv : I 0 15 7 = nI 0) (hc : I 0 9 3 = nI 0) (hen : I 0 13 1 = nI 0) (hnu : I i 40 0 = nI i) (ha : I i 55 1 = nI a) (hp : I i 52 a = nI 0) (hlm : I i 54 a = nI 0) (hbk : I i 51 a = (-1 : Int32)) (hhd : I i 49 a = nI 0) (hak : I i 50 a = nI 0) : am_C G (d + 4) mX10_goOn [.inr (0, 0), .inr (i, 40)] I (fun r I' => r = none ∧ I' i 55 5 = nI 1) := by
  have hn4 := hG.hi
  have hn2 := hG.lo
  refine am_of (by decide +kernel) hG.nd (Nat.le_of_ble_eq_true rfl) ?_
  refine am_iconst (v := nI 0) dX10_goOn_0 (by decide) ?_
  refine am_istore_n dX10_goOn_1 (by decide) ?_
  refine am_iload_n dX10_goOn_2 rfl ?_
  refine am_sipush (v := nI 274) dX10_goOn_3 (by decide) ?_
  refine am_icmp_ge (tgt := 159) dX10_goOn_6 (by decide) (fun h => absurd h (by decide)) (fun _ => ?_)
  refine am_aload_n dX10_goOn_9 rfl ?_
  refine am_aload_n dX10_goOn_10 rfl ?_
  refine am_callVx (i := 0) (j := 0) (as := [.inr (i, 40)]) (rest := []) dX10_goOn_11 lkX10_mayGoOn ml_X10_329 imX10_mayGoOn seX10_mayGoOn rfl rfl (hG.m0 (by decide)) rfl (Nat.le_of_ble_eq_true rfl) rfl (c_mayGoOn0 hG hi I (by simp [am_up, am_upf, upd, hkd, hst, hwl, hct, hlg, hlc, hch, hgv, hc, hen, hnu, ha, hp, hlm, hbk, hhd, hak]) (by simp [am_up, am_upf, upd, hkd, hst, hwl, hct, hlg, hlc, hch, hgv, hc, hen, hnu, ha, hp, hlm, hbk, hhd, hak]) (by simp [am_up, am_upf, upd, hkd, hst, hwl, hct, hlg, hlc, hch, hgv, hc, hen, hnu, ha, hp, hlm, hbk, hhd, hak]) (by simp [am_up, am_upf, upd, hkd, hst, hwl, hct, hlg, hlc, hch, hgv, hc, hen, hnu, ha, hp, hlm, hbk, hhd, hak]) (by simp [am_up, am_upf, upd, hkd, hst, hwl, hct, hlg, hlc, hch, hgv, hc, hen, hnu, ha, hp, hlm, hbk, hhd, hak])) ?_
  refine am_nm (fun I1 hI1 => ?_)
  refine am_if_eq (tgt := 159) dX10_goOn_14 (by decide) (fun h => absurd h (by decide)) (fun _ => ?_)
  refine am_aload_n dX10_goOn_17 rfl ?_
  refine am_aload_n dX10_goOn_18 rfl ?_
  refine am_callVx (i := 0) (j := 0) (as := [.inr (i, 40)]) (rest := []) dX10_goOn_19 lkX10_pinAll ml_X10_332 imX10_pinAll seX10_pinAll rfl rfl (hG.m0 (by decide)) rfl (Nat.le_of_ble_eq_true rfl) rfl (c_pinAll0 hG hi I1 (by simp [am_up, am_upf, upd, hkd, hst, hwl, hct, hlg, hlc, hch, hgv, hc, hen, hnu, ha, hp, hlm, hbk, hhd, hak, hI1])) ?_
  refine am_if_eq (tgt := 159) dX10_goOn_22 (by decide) (fun h => absurd h (by decide)) (fun _ => ?_)
  refine am_aload_n dX10_goOn_25 rfl ?_
  refine am_get (v := .inr (i, 55)) dX10_goOn_26 fl_10_84 (hG.mn hi (by decide) (by decide)) rfl ?_
  refine am_dup dX10_goOn_29 ?_
  refine am_get (v := .inl (I1 i 55 9)) dX10_goOn_30 fl_10_195 (hG.mn hi (by decide) (by decide)) rfl ?_
  refine am_iconst (v := nI 1) dX10_goOn_33 (by decide) ?_
  refine am_iadd dX10_goOn_34 ?_
  refine am_put (x := (I1 i 55 9) + (nI 1)) dX10_goOn_35 fp_10_195 (hG.mn hi (by decide) (by decide)) (Nat.le_of_ble_eq_true rfl) rfl ?_
  refine am_aload_n dX10_goOn_38 rfl ?_
  refine am_get (v := .inr (0, 15)) dX10_goOn_39 fl_10_52 (hG.m0 (by decide)) rfl ?_
  refine am_aload_n dX10_goOn_42 rfl ?_
  refine am_callVe (i := 0) (j := 15) (as := [.inr (i, 40)]) (rest := []) dX10_goOn_43 lkX9_run ml_X10_335 imX9_run seX9_run rfl rfl (hG.m0 (by decide)) rfl (Nat.le_of_ble_eq_true rfl) rfl (c_run0 (a := a) hG hi (by omega) (am_up I1 i 55 9 ((I1 i 55 9) + (nI 1))) (by simp [am_up, am_upf, upd, hkd, hst, hwl, hct, hlg, hlc, hch, hgv, hc, hen, hnu, ha, hp, hlm, hbk, hhd, hak, hI1]) (by simp [am_up, am_upf, upd, hkd, hst, hwl, hct, hlg, hlc, hch, hgv, hc, hen, hnu, ha, hp, hlm, hbk, hhd, hak, hI1]) (by simp [am_up, am_upf, upd, hkd, hst, hwl, hct, hlg, hlc, hch, hgv, hc, hen, hnu, ha, hp, hlm, hbk, hhd, hak, hI1])) ?_
  refine am_nm (fun I2 hI2 => ?_)
  refine am_aload_n dX10_goOn_46 rfl ?_
  refine am_get (v := .inr (0, 15)) dX10_goOn_47 fl_10_52 (hG.m0 (by decide)) rfl ?_
  refine am_get (v := .inl (I2 0 15 9)) dX10_goOn_50 fl_10_338 (hG.m0 (by decide)) rfl ?_
  refine am_top (show I2 0 15 9 = nI 3 from (by simp [am_up, am_upf, upd, hkd, hst, hwl, hct, hlg, hlc, hch, hgv, hc, hen, hnu, ha, hp, hlm, hbk, hhd, hak, hI1, hI2])) ?_
  refine am_iconst (v := nI 1) dX10_goOn_53 (by decide) ?_
  refine am_icmp_eq (tgt := 64) dX10_goOn_54 (by decide) (fun h => absurd h (by decide)) (fun _ => ?_)
  refine am_aload_n dX10_goOn_57 rfl ?_
  refine am_get (v := .inr (0, 15)) dX10_goOn_58 fl_10_52 (hG.m0 (by decide)) rfl ?_
  refine am_callVe (i := 0) (j := 15) (as := []) (rest := []) dX10_goOn_61 lkX9_undo ml_X10_341 imX9_undo seX9_undo rfl rfl (hG.m0 (by decide)) rfl (Nat.le_of_ble_eq_true rfl) rfl (c_undo0 hG hi I2 (by simp [am_up, am_upf, upd, hkd, hst, hwl, hct, hlg, hlc, hch, hgv, hc, hen, hnu, ha, hp, hlm, hbk, hhd, hak, hI1, hI2]) (by simp [am_up, am_upf, upd, hkd, hst, hwl, hct, hlg, hlc, hch, hgv, hc, hen, hnu, ha, hp, hlm, hbk, hhd, hak, hI1, hI2])) ?_
  refine am_nm (fun I3 hI3 => ?_)
  refine am_aload_n dX10_goOn_64 rfl ?_
  refine am_get (v := .inr (0, 15)) dX10_goOn_65 fl_10_52 (hG.m0 (by decide)) rfl ?_
  refine am_get (v := .inl (I3 0 15 9)) dX10_goOn_68 fl_10_338 (hG.m0 (by decide)) rfl ?_
  refine am_top (show I3 0 15 9 = nI 3 from (by simp [am_up, am_upf, upd, hkd, hst, hwl, hct, hlg, hlc, hch, hgv, hc, hen, hnu, ha, hp, hlm, hbk, hhd, hak, hI1, hI2, hI3])) ?_
  refine am_iconst (v := nI 3) dX10_goOn_71 (by decide) ?_
  refine am_icmp_ne (tgt := 118) dX10_goOn_72 (by decide) (fun h => absurd h (by decide)) (fun _ => ?_)
  refine am_aload_n dX10_goOn_75 rfl ?_
  refine am_get (v := .inr (i, 48)) dX10_goOn_76 fl_10_244 (hG.mn hi (by decide) (by decide)) rfl ?_
  refine am_aload_n dX10_goOn_79 rfl ?_
  refine am_get (v := .inr (0, 15)) dX10_goOn_80 fl_10_52 (hG.m0 (by decide)) rfl ?_
  refine am_get (v := .inl (I3 0 15 11)) dX10_goOn_83 fl_10_344 (hG.m0 (by decide)) rfl ?_
  refine am_top (show I3 0 15 11 = nI a from (by simp [am_up, am_upf, upd, hkd, hst, hwl, hct, hlg, hlc, hch, hgv, hc, hen, hnu, ha, hp, hlm, hbk, hhd, hak, hI1, hI2, hI3])) ?_
  refine am_aload_n dX10_goOn_86 rfl ?_
  refine am_get (v := .inr (0, 15)) dX10_goOn_87 fl_10_52 (hG.m0 (by decide)) rfl ?_
  refine am_get (v := .inl (I3 0 15 12)) dX10_goOn_90 fl_10_347 (hG.m0 (by decide)) rfl ?_
  refine am_top (show I3 0 15 12 = nI 1 from (by simp [am_up, am_upf, upd, hkd, hst, hwl, hct, hlg, hlc, hch, hgv, hc, hen, hnu, ha, hp, hlm, hbk, hhd, hak, hI1, hI2, hI3])) ?_
  refine am_callVe (i := i) (j := 48) (as := [.inl (nI a), .inl (nI 1)]) (rest := []) dX10_goOn_93 lkX4_list ml_X10_350 imX4_list seX4_list rfl rfl (hG.mn hi (by decide) (by decide)) rfl (Nat.le_of_ble_eq_true rfl) rfl (c_list0 hG hi (by omega) (nI 1) I3 (by simp [am_up, am_upf, upd, hkd, hst, hwl, hct, hlg, hlc, hch, hgv, hc, hen, hnu, ha, hp, hlm, hbk, hhd, hak, hI1, hI2, hI3]) (by simp [am_up, am_upf, upd, hkd, hst, hwl, hct, hlg, hlc, hch, hgv, hc, hen, hnu, ha, hp, hlm, hbk, hhd, hak, hI1, hI2, hI3])) ?_
  refine am_nm (fun I4 hI4 => ?_)
  refine am_aload_n dX10_goOn_96 rfl ?_
  refine am_get (v := .inr (i, 55)) dX10_goOn_97 fl_10_84 (hG.mn hi (by decide) (by decide)) rfl ?_
  refine am_aload_n dX10_goOn_100 rfl ?_
  refine am_get (v := .inr (i, 48)) dX10_goOn_101 fl_10_244 (hG.mn hi (by decide) (by decide)) rfl ?_
  refine am_get (v := .inl (I4 i 48 6)) dX10_goOn_104 fl_10_353 (hG.mn hi (by decide) (by decide)) rfl ?_
  refine am_top (show I4 i 48 6 = nI 1 from (by simp [am_up, am_upf, upd, hkd, hst, hwl, hct, hlg, hlc, hch, hgv, hc, hen, hnu, ha, hp, hlm, hbk, hhd, hak, hI1, hI2, hI3, hI4])) ?_
  refine am_put (x := nI 1) dX10_goOn_107 fp_10_198 (hG.mn hi (by decide) (by decide)) (Nat.le_of_ble_eq_true rfl) rfl ?_
  refine am_aload_n dX10_goOn_110 rfl ?_
  refine am_aload_n dX10_goOn_111 rfl ?_
  refine am_callVe (i := 0) (j := 0) (as := [.inr (i, 40)]) (rest := []) dX10_goOn_112 lkX10_unpinAll ml_X10_356 imX10_unpinAll seX10_unpinAll rfl rfl (hG.m0 (by decide)) rfl (Nat.le_of_ble_eq_true rfl) rfl (c_unpinAll1 (r := a) hG hi (by omega) (am_up I4 i 55 10 (nI 1)) (by simp [am_up, am_upf, upd, hkd, hst, hwl, hct, hlg, hlc, hch, hgv, hc, hen, hnu, ha, hp, hlm, hbk, hhd, hak, hI1, hI2, hI3, hI4]) (by simp [am_up, am_upf, upd, hkd, hst, hwl, hct, hlg, hlc, hch, hgv, hc, hen, hnu, ha, hp, hlm, hbk, hhd, hak, hI1, hI2, hI3, hI4]) (by simp [am_up, am_upf, upd, hkd, hst, hwl, hct, hlg, hlc, hch, hgv, hc, hen, hnu, ha, hp, hlm, hbk, hhd, hak, hI1, hI2, hI3, hI4])) ?_
  refine am_nm (fun I5 hI5 => ?_)
  refine am_goto (tgt := 153) dX10_goOn_115 (by decide) ?_
  refine am_iinc (v := nI 1) dX10_goOn_153 rfl (by decide) ?_
  refine am_goto (tgt := 2) dX10_goOn_156 (by decide) ?_
  refine am_iload_n dX10_goOn_2 rfl ?_
  refine am_sipush (v := nI 274) dX10_goOn_3 (by decide) ?_
  refine am_icmp_ge (tgt := 159) dX10_goOn_6 (by decide) (fun h => absurd h (by decide)) (fun _ => ?_)
  refine am_aload_n dX10_goOn_9 rfl ?_
  refine am_aload_n dX10_goOn_10 rfl ?_
  refine am_callVx (i := 0) (j := 0) (as := [.inr (i, 40)]) (rest := []) dX10_goOn_11 lkX10_mayGoOn ml_X10_329 imX10_mayGoOn seX10_mayGoOn rfl rfl (hG.m0 (by decide)) rfl (Nat.le_of_ble_eq_true rfl) rfl (c_mayGoOn0 hG hi I5 (by simp [am_up, am_upf, upd, hkd, hst, hwl, hct, hlg, hlc, hch, hgv, hc, hen, hnu, ha, hp, hlm, hbk, hhd, hak, hI1, hI2, hI3, hI4, hI5]) (by simp [am_up, am_upf, upd, hkd, hst, hwl, hct, hlg, hlc, hch, hgv, hc, hen, hnu, ha, hp, hlm, hbk, hhd, hak, hI1, hI2, hI3, hI4, hI5]) (by simp [am_up, am_upf, upd, hkd, hst, hwl, hct, hlg, hlc, hch, hgv, hc, hen, hnu, ha, hp, hlm, hbk, hhd, hak, hI1, hI2, hI3, hI4, hI5]) (by simp [am_up, am_upf, upd, hkd, hst, hwl, hct, hlg, hlc, hch, hgv, hc, hen, hnu, ha, hp, hlm, hbk, hhd, hak, hI1, hI2, hI3, hI4, hI5]) (by simp [am_up, am_upf, upd, hkd, hst, hwl, hct, hlg, hlc, hch, hgv, hc, hen, hnu, ha, hp, hlm, hbk, hhd, hak, hI1, hI2, hI3, hI4, hI5])) ?_
  refine am_nm (fun I6 hI6 => ?_)
  refine am_if_eq (tgt := 159) dX10_goOn_14 (by decide) (fun h => absurd h (by decide)) (fun _ => ?_)
  refine am_aload_n dX10_goOn_17 rfl ?_
  refine am_aload_n dX10_goOn_18 rfl ?_
  refine am_callVx (i := 0) (j := 0) (as := [.inr (i, 40)]) (rest := []) dX10_goOn_19 lkX10_pinAll ml_X10_332 imX10_pinAll seX10_pinAll rfl rfl (hG.m0 (by decide)) rfl (Nat.le_of_ble_eq_true rfl) rfl (c_pinAll1_1 (r := a) hG hi (by omega) I6 (fun x hx => by simp [am_up, am_upf, upd, hj x hx, hI1, hI2, hI3, hI4, hI5, hI6]) (fun x hx => by simp [am_up, am_upf, upd, hu x hx, hI1, hI2, hI3, hI4, hI5, hI6]) (by simp [am_up, am_upf, upd, hkd, hst, hwl, hct, hlg, hlc, hch, hgv, hc, hen, hnu, ha, hp, hlm, hbk, hhd, hak, hI1, hI2, hI3, hI4, hI5, hI6]) (by simp [am_up, am_upf, upd, hkd, hst, hwl, hct, hlg, hlc, hch, hgv, hc, hen, hnu, ha, hp, hlm, hbk, hhd, hak, hI1, hI2, hI3, hI4, hI5, hI6]) (by simp [am_up, am_upf, upd, hkd, hst, hwl, hct, hlg, hlc, hch, hgv, hc, hen, hnu, ha, hp, hlm, hbk, hhd, hak, hI1, hI2, hI3, hI4, hI5, hI6]) (by simp [am_up, am_upf, upd, hkd, hst, hwl, hct, hlg, hlc, hch, hgv, hc, hen, hnu, ha, hp, hlm, hbk, hhd, hak, hI1, hI2, hI3, hI4, hI5, hI6]) (by simp [am_up, am_upf, upd, hkd, hst, hwl, hct, hlg, hlc, hch, hgv, hc, hen, hnu, ha, hp, hlm, hbk, hhd, hak, hI1, hI2, hI3, hI4, hI5, hI6]) (by simp [am_up, am_upf, upd, hkd, hst, hwl, hct, hlg, hlc, hch, hgv, hc, hen, hnu, ha, hp, hlm, hbk, hhd, hak, hI1, hI2, hI3, hI4, hI5, hI6]) (by simp [am_up, am_upf, upd, hkd, hst, hwl, hct, hlg, hlc, hch, hgv, hc, hen, hnu, ha, hp, hlm, hbk, hhd, hak, hI1, hI2, hI3, hI4, hI5, hI6]) (by simp [am_up, am_upf, upd, hkd, hst, hwl, hct, hlg, hlc, hch, hgv, hc, hen, hnu, ha, hp, hlm, hbk, hhd, hak, hI1, hI2, hI3, hI4, hI5, hI6]) (by simp [am_up, am_upf, upd, hkd, hst, hwl, hct, hlg, hlc, hch, hgv, hc, hen, hnu, ha, hp, hlm, hbk, hhd, hak, hI1, hI2, hI3, hI4, hI5, hI6])) ?_
  refine am_nm (fun I7 hI7 => ?_)
  refine am_if_eq (tgt := 159) dX10_goOn_22 (by decide) (fun _ => ?_) (fun h => absurd h (by decide))
  refine am_vret dX10_goOn_159 rfl ?_
  exact ⟨rfl, (by simp [am_up, am_upf, upd, hkd, hst, hwl, hct, hlg, hlc, hch, hgv, hc, hen, hnu, ha, hp, hlm, hbk, hhd, hak, hI1, hI2, hI3, hI4, hI5, hI6, hI7])⟩
theorem c_goOn1 {G : am_G} (hG : am_ok G) {d : Nat} {i a : Nat} (hi : i < G.2.2.2.1) (hab : a < 128) (I : am_I) (hj : ∀ x, x < G.2.2.2.1 → I x 40 6 = nI 1) (hu : ∀ x, x < G.2.2.2.1 → I x 40 5 = nI 1) (hkd : I i 55 0 = nI 1) (hst : I i 55 5 = nI 1) (hwl : I i 55 11 = nI 0) (hct : I i 44 5 = nI 0) (hlg : I i 44 2 = nI 0) (hlc : I i 48 6 = nI 0) (hch : I 0 15 5 = nI 0) (hgv : I 0 15 7 = nI 0) (hc : I 0 9 3 = nI 0) (hen : I 0 13 1 = nI 0) (hnu : I i 40 0 = nI i) (ha : I i 55 1 = nI a) (hp : I i 52 a = nI 0) (hlm : I i 54 a = nI 0) (hbk : I i 51 a = (-1 : Int32)) (hhd : I i 49 a = nI 0) (hak : I i 50 a = nI 0) : am_C G (d + 4) mX10_goOn [.inr (0, 0), .inr (i, 40)] I (fun r I' => r = none ∧ I' i 55 5 = nI 1) := by
  have hn4 := hG.hi
  have hn2 := hG.lo
  refine am_of (by decide +kernel) hG.nd (Nat.le_of_ble_eq_true rfl) ?_
  refine am_iconst (v := nI 0) dX10_goOn_0 (by decide) ?_
  refine am_istore_n dX10_goOn_1 (by decide) ?_
  refine am_iload_n dX10_goOn_2 rfl ?_
  refine am_sipush (v := nI 274) dX10_goOn_3 (by decide) ?_
  refine am_icmp_ge (tgt := 159) dX10_goOn_6 (by decide) (fun h => absurd h (by decide)) (fun _ => ?_)
  refine am_aload_n dX10_goOn_9 rfl ?_
  refine am_aload_n dX10_goOn_10 rfl ?_
  refine am_callVx (i := 0) (j := 0) (as := [.inr (i, 40)]) (rest := []) dX10_goOn_11 lkX10_mayGoOn ml_X10_329 imX10_mayGoOn seX10_mayGoOn rfl rfl (hG.m0 (by decide)) rfl (Nat.le_of_ble_eq_true rfl) rfl (c_mayGoOn1 hG hi I (by simp [am_up, am_upf, upd, hkd, hst, hwl, hct, hlg, hlc, hch, hgv, hc, hen, hnu, ha, hp, hlm, hbk, hhd, hak]) (by simp [am_up, am_upf, upd, hkd, hst, hwl, hct, hlg, hlc, hch, hgv, hc, hen, hnu, ha, hp, hlm, hbk, hhd, hak]) (by simp [am_up, am_upf, upd, hkd, hst, hwl, hct, hlg, hlc, hch, hgv, hc, hen, hnu, ha, hp, hlm, hbk, hhd, hak]) (by simp [am_up, am_upf, upd, hkd, hst, hwl, hct, hlg, hlc, hch, hgv, hc, hen, hnu, ha, hp, hlm, hbk, hhd, hak]) (by simp [am_up, am_upf, upd, hkd, hst, hwl, hct, hlg, hlc, hch, hgv, hc, hen, hnu, ha, hp, hlm, hbk, hhd, hak])) ?_
  refine am_nm (fun I1 hI1 => ?_)
  refine am_if_eq (tgt := 159) dX10_goOn_14 (by decide) (fun h => absurd h (by decide)) (fun _ => ?_)
  refine am_aload_n dX10_goOn_17 rfl ?_
  refine am_aload_n dX10_goOn_18 rfl ?_
  refine am_callVx (i := 0) (j := 0) (as := [.inr (i, 40)]) (rest := []) dX10_goOn_19 lkX10_pinAll ml_X10_332 imX10_pinAll seX10_pinAll rfl rfl (hG.m0 (by decide)) rfl (Nat.le_of_ble_eq_true rfl) rfl (c_pinAll0 hG hi I1 (by simp [am_up, am_upf, upd, hkd, hst, hwl, hct, hlg, hlc, hch, hgv, hc, hen, hnu, ha, hp, hlm, hbk, hhd, hak, hI1])) ?_
  refine am_if_eq (tgt := 159) dX10_goOn_22 (by decide) (fun h => absurd h (by decide)) (fun _ => ?_)
  refine am_aload_n dX10_goOn_25 rfl ?_
  refine am_get (v := .inr (i, 55)) dX10_goOn_26 fl_10_84 (hG.mn hi (by decide) (by decide)) rfl ?_
  refine am_dup dX10_goOn_29 ?_
  refine am_get (v := .inl (I1 i 55 9)) dX10_goOn_30 fl_10_195 (hG.mn hi (by decide) (by decide)) rfl ?_
  refine am_iconst (v := nI 1) dX10_goOn_33 (by decide) ?_
  refine am_iadd dX10_goOn_34 ?_
  refine am_put (x := (I1 i 55 9) + (nI 1)) dX10_goOn_35 fp_10_195 (hG.mn hi (by decide) (by decide)) (Nat.le_of_ble_eq_true rfl) rfl ?_
  refine am_aload_n dX10_goOn_38 rfl ?_
  refine am_get (v := .inr (0, 15)) dX10_goOn_39 fl_10_52 (hG.m0 (by decide)) rfl ?_
  refine am_aload_n dX10_goOn_42 rfl ?_
  refine am_callVe (i := 0) (j := 15) (as := [.inr (i, 40)]) (rest := []) dX10_goOn_43 lkX9_run ml_X10_335 imX9_run seX9_run rfl rfl (hG.m0 (by decide)) rfl (Nat.le_of_ble_eq_true rfl) rfl (c_run1 (a := a) hG hi (by omega) (am_up I1 i 55 9 ((I1 i 55 9) + (nI 1))) (by simp [am_up, am_upf, upd, hkd, hst, hwl, hct, hlg, hlc, hch, hgv, hc, hen, hnu, ha, hp, hlm, hbk, hhd, hak, hI1]) (by simp [am_up, am_upf, upd, hkd, hst, hwl, hct, hlg, hlc, hch, hgv, hc, hen, hnu, ha, hp, hlm, hbk, hhd, hak, hI1]) (by simp [am_up, am_upf, upd, hkd, hst, hwl, hct, hlg, hlc, hch, hgv, hc, hen, hnu, ha, hp, hlm, hbk, hhd, hak, hI1])) ?_
  refine am_nm (fun I2 hI2 => ?_)
  refine am_aload_n dX10_goOn_46 rfl ?_
  refine am_get (v := .inr (0, 15)) dX10_goOn_47 fl_10_52 (hG.m0 (by decide)) rfl ?_
  refine am_get (v := .inl (I2 0 15 9)) dX10_goOn_50 fl_10_338 (hG.m0 (by decide)) rfl ?_
  refine am_top (show I2 0 15 9 = nI 3 from (by simp [am_up, am_upf, upd, hkd, hst, hwl, hct, hlg, hlc, hch, hgv, hc, hen, hnu, ha, hp, hlm, hbk, hhd, hak, hI1, hI2])) ?_
  refine am_iconst (v := nI 1) dX10_goOn_53 (by decide) ?_
  refine am_icmp_eq (tgt := 64) dX10_goOn_54 (by decide) (fun h => absurd h (by decide)) (fun _ => ?_)
  refine am_aload_n dX10_goOn_57 rfl ?_
  refine am_get (v := .inr (0, 15)) dX10_goOn_58 fl_10_52 (hG.m0 (by decide)) rfl ?_
  refine am_callVe (i := 0) (j := 15) (as := []) (rest := []) dX10_goOn_61 lkX9_undo ml_X10_341 imX9_undo seX9_undo rfl rfl (hG.m0 (by decide)) rfl (Nat.le_of_ble_eq_true rfl) rfl (c_undo0 hG hi I2 (by simp [am_up, am_upf, upd, hkd, hst, hwl, hct, hlg, hlc, hch, hgv, hc, hen, hnu, ha, hp, hlm, hbk, hhd, hak, hI1, hI2]) (by simp [am_up, am_upf, upd, hkd, hst, hwl, hct, hlg, hlc, hch, hgv, hc, hen, hnu, ha, hp, hlm, hbk, hhd, hak, hI1, hI2])) ?_
  refine am_nm (fun I3 hI3 => ?_)
  refine am_aload_n dX10_goOn_64 rfl ?_
  refine am_get (v := .inr (0, 15)) dX10_goOn_65 fl_10_52 (hG.m0 (by decide)) rfl ?_
  refine am_get (v := .inl (I3 0 15 9)) dX10_goOn_68 fl_10_338 (hG.m0 (by decide)) rfl ?_
  refine am_top (show I3 0 15 9 = nI 3 from (by simp [am_up, am_upf, upd, hkd, hst, hwl, hct, hlg, hlc, hch, hgv, hc, hen, hnu, ha, hp, hlm, hbk, hhd, hak, hI1, hI2, hI3])) ?_
  refine am_iconst (v := nI 3) dX10_goOn_71 (by decide) ?_
  refine am_icmp_ne (tgt := 118) dX10_goOn_72 (by decide) (fun h => absurd h (by decide)) (fun _ => ?_)
  refine am_aload_n dX10_goOn_75 rfl ?_
  refine am_get (v := .inr (i, 48)) dX10_goOn_76 fl_10_244 (hG.mn hi (by decide) (by decide)) rfl ?_
  refine am_aload_n dX10_goOn_79 rfl ?_
  refine am_get (v := .inr (0, 15)) dX10_goOn_80 fl_10_52 (hG.m0 (by decide)) rfl ?_
  refine am_get (v := .inl (I3 0 15 11)) dX10_goOn_83 fl_10_344 (hG.m0 (by decide)) rfl ?_
  refine am_top (show I3 0 15 11 = nI a from (by simp [am_up, am_upf, upd, hkd, hst, hwl, hct, hlg, hlc, hch, hgv, hc, hen, hnu, ha, hp, hlm, hbk, hhd, hak, hI1, hI2, hI3])) ?_
  refine am_aload_n dX10_goOn_86 rfl ?_
  refine am_get (v := .inr (0, 15)) dX10_goOn_87 fl_10_52 (hG.m0 (by decide)) rfl ?_
  refine am_get (v := .inl (I3 0 15 12)) dX10_goOn_90 fl_10_347 (hG.m0 (by decide)) rfl ?_
  refine am_top (show I3 0 15 12 = nI 2 from (by simp [am_up, am_upf, upd, hkd, hst, hwl, hct, hlg, hlc, hch, hgv, hc, hen, hnu, ha, hp, hlm, hbk, hhd, hak, hI1, hI2, hI3])) ?_
  refine am_callVe (i := i) (j := 48) (as := [.inl (nI a), .inl (nI 2)]) (rest := []) dX10_goOn_93 lkX4_list ml_X10_350 imX4_list seX4_list rfl rfl (hG.mn hi (by decide) (by decide)) rfl (Nat.le_of_ble_eq_true rfl) rfl (c_list0 hG hi (by omega) (nI 2) I3 (by simp [am_up, am_upf, upd, hkd, hst, hwl, hct, hlg, hlc, hch, hgv, hc, hen, hnu, ha, hp, hlm, hbk, hhd, hak, hI1, hI2, hI3]) (by simp [am_up, am_upf, upd, hkd, hst, hwl, hct, hlg, hlc, hch, hgv, hc, hen, hnu, ha, hp, hlm, hbk, hhd, hak, hI1, hI2, hI3])) ?_
  refine am_nm (fun I4 hI4 => ?_)
  refine am_aload_n dX10_goOn_96 rfl ?_
  refine am_get (v := .inr (i, 55)) dX10_goOn_97 fl_10_84 (hG.mn hi (by decide) (by decide)) rfl ?_
  refine am_aload_n dX10_goOn_100 rfl ?_
  refine am_get (v := .inr (i, 48)) dX10_goOn_101 fl_10_244 (hG.mn hi (by decide) (by decide)) rfl ?_
  refine am_get (v := .inl (I4 i 48 6)) dX10_goOn_104 fl_10_353 (hG.mn hi (by decide) (by decide)) rfl ?_
  refine am_top (show I4 i 48 6 = nI 1 from (by simp [am_up, am_upf, upd, hkd, hst, hwl, hct, hlg, hlc, hch, hgv, hc, hen, hnu, ha, hp, hlm, hbk, hhd, hak, hI1, hI2, hI3, hI4])) ?_
  refine am_put (x := nI 1) dX10_goOn_107 fp_10_198 (hG.mn hi (by decide) (by decide)) (Nat.le_of_ble_eq_true rfl) rfl ?_
  refine am_aload_n dX10_goOn_110 rfl ?_
  refine am_aload_n dX10_goOn_111 rfl ?_
  refine am_callVe (i := 0) (j := 0) (as := [.inr (i, 40)]) (rest := []) dX10_goOn_112 lkX10_unpinAll ml_X10_356 imX10_unpinAll seX10_unpinAll rfl rfl (hG.m0 (by decide)) rfl (Nat.le_of_ble_eq_true rfl) rfl (c_unpinAll1 (r := a) hG hi (by omega) (am_up I4 i 55 10 (nI 1)) (by simp [am_up, am_upf, upd, hkd, hst, hwl, hct, hlg, hlc, hch, hgv, hc, hen, hnu, ha, hp, hlm, hbk, hhd, hak, hI1, hI2, hI3, hI4]) (by simp [am_up, am_upf, upd, hkd, hst, hwl, hct, hlg, hlc, hch, hgv, hc, hen, hnu, ha, hp, hlm, hbk, hhd, hak, hI1, hI2, hI3, hI4]) (by simp [am_up, am_upf, upd, hkd, hst, hwl, hct, hlg, hlc, hch, hgv, hc, hen, hnu, ha, hp, hlm, hbk, hhd, hak, hI1, hI2, hI3, hI4])) ?_
  refine am_nm (fun I5 hI5 => ?_)
  refine am_goto (tgt := 153) dX10_goOn_115 (by decide) ?_
  refine am_iinc (v := nI 1) dX10_goOn_153 rfl (by decide) ?_
  refine am_goto (tgt := 2) dX10_goOn_156 (by decide) ?_
  refine am_iload_n dX10_goOn_2 rfl ?_
  refine am_sipush (v := nI 274) dX10_goOn_3 (by decide) ?_
  refine am_icmp_ge (tgt := 159) dX10_goOn_6 (by decide) (fun h => absurd h (by decide)) (fun _ => ?_)
  refine am_aload_n dX10_goOn_9 rfl ?_
  refine am_aload_n dX10_goOn_10 rfl ?_
  refine am_callVx (i := 0) (j := 0) (as := [.inr (i, 40)]) (rest := []) dX10_goOn_11 lkX10_mayGoOn ml_X10_329 imX10_mayGoOn seX10_mayGoOn rfl rfl (hG.m0 (by decide)) rfl (Nat.le_of_ble_eq_true rfl) rfl (c_mayGoOn1 hG hi I5 (by simp [am_up, am_upf, upd, hkd, hst, hwl, hct, hlg, hlc, hch, hgv, hc, hen, hnu, ha, hp, hlm, hbk, hhd, hak, hI1, hI2, hI3, hI4, hI5]) (by simp [am_up, am_upf, upd, hkd, hst, hwl, hct, hlg, hlc, hch, hgv, hc, hen, hnu, ha, hp, hlm, hbk, hhd, hak, hI1, hI2, hI3, hI4, hI5]) (by simp [am_up, am_upf, upd, hkd, hst, hwl, hct, hlg, hlc, hch, hgv, hc, hen, hnu, ha, hp, hlm, hbk, hhd, hak, hI1, hI2, hI3, hI4, hI5]) (by simp [am_up, am_upf, upd, hkd, hst, hwl, hct, hlg, hlc, hch, hgv, hc, hen, hnu, ha, hp, hlm, hbk, hhd, hak, hI1, hI2, hI3, hI4, hI5]) (by simp [am_up, am_upf, upd, hkd, hst, hwl, hct, hlg, hlc, hch, hgv, hc, hen, hnu, ha, hp, hlm, hbk, hhd, hak, hI1, hI2, hI3, hI4, hI5])) ?_
  refine am_nm (fun I6 hI6 => ?_)
  refine am_if_eq (tgt := 159) dX10_goOn_14 (by decide) (fun h => absurd h (by decide)) (fun _ => ?_)
  refine am_aload_n dX10_goOn_17 rfl ?_
  refine am_aload_n dX10_goOn_18 rfl ?_
  refine am_callVx (i := 0) (j := 0) (as := [.inr (i, 40)]) (rest := []) dX10_goOn_19 lkX10_pinAll ml_X10_332 imX10_pinAll seX10_pinAll rfl rfl (hG.m0 (by decide)) rfl (Nat.le_of_ble_eq_true rfl) rfl (c_pinAll1_2 (r := a) hG hi (by omega) I6 (fun x hx => by simp [am_up, am_upf, upd, hj x hx, hI1, hI2, hI3, hI4, hI5, hI6]) (fun x hx => by simp [am_up, am_upf, upd, hu x hx, hI1, hI2, hI3, hI4, hI5, hI6]) (by simp [am_up, am_upf, upd, hkd, hst, hwl, hct, hlg, hlc, hch, hgv, hc, hen, hnu, ha, hp, hlm, hbk, hhd, hak, hI1, hI2, hI3, hI4, hI5, hI6]) (by simp [am_up, am_upf, upd, hkd, hst, hwl, hct, hlg, hlc, hch, hgv, hc, hen, hnu, ha, hp, hlm, hbk, hhd, hak, hI1, hI2, hI3, hI4, hI5, hI6]) (by simp [am_up, am_upf, upd, hkd, hst, hwl, hct, hlg, hlc, hch, hgv, hc, hen, hnu, ha, hp, hlm, hbk, hhd, hak, hI1, hI2, hI3, hI4, hI5, hI6]) (by simp [am_up, am_upf, upd, hkd, hst, hwl, hct, hlg, hlc, hch, hgv, hc, hen, hnu, ha, hp, hlm, hbk, hhd, hak, hI1, hI2, hI3, hI4, hI5, hI6]) (by simp [am_up, am_upf, upd, hkd, hst, hwl, hct, hlg, hlc, hch, hgv, hc, hen, hnu, ha, hp, hlm, hbk, hhd, hak, hI1, hI2, hI3, hI4, hI5, hI6]) (by simp [am_up, am_upf, upd, hkd, hst, hwl, hct, hlg, hlc, hch, hgv, hc, hen, hnu, ha, hp, hlm, hbk, hhd, hak, hI1, hI2, hI3, hI4, hI5, hI6]) (by simp [am_up, am_upf, upd, hkd, hst, hwl, hct, hlg, hlc, hch, hgv, hc, hen, hnu, ha, hp, hlm, hbk, hhd, hak, hI1, hI2, hI3, hI4, hI5, hI6]) (by simp [am_up, am_upf, upd, hkd, hst, hwl, hct, hlg, hlc, hch, hgv, hc, hen, hnu, ha, hp, hlm, hbk, hhd, hak, hI1, hI2, hI3, hI4, hI5, hI6]) (by simp [am_up, am_upf, upd, hkd, hst, hwl, hct, hlg, hlc, hch, hgv, hc, hen, hnu, ha, hp, hlm, hbk, hhd, hak, hI1, hI2, hI3, hI4, hI5, hI6])) ?_
  refine am_nm (fun I7 hI7 => ?_)
  refine am_if_eq (tgt := 159) dX10_goOn_22 (by decide) (fun _ => ?_) (fun h => absurd h (by decide))
  refine am_vret dX10_goOn_159 rfl ?_
  exact ⟨rfl, (by simp [am_up, am_upf, upd, hkd, hst, hwl, hct, hlg, hlc, hch, hgv, hc, hen, hnu, ha, hp, hlm, hbk, hhd, hak, hI1, hI2, hI3, hI4, hI5, hI6, hI7])⟩
theorem c_goOn2 {G : am_G} (hG : am_ok G) {d : Nat} {i a : Nat} (hi : i < G.2.2.2.1) (hab : a < 128) (I : am_I) (hj : ∀ x, x < G.2.2.2.1 → I x 40 6 = nI 1) (hu : ∀ x, x < G.2.2.2.1 → I x 40 5 = nI 1) (hkd : I i 55 0 = nI 2) (hst : I i 55 5 = nI 1) (hwl : I i 55 11 = nI 0) (hct : I i 44 5 = nI 0) (hlg : I i 44 2 = nI 0) (hlc : I i 48 6 = nI 0) (hch : I 0 15 5 = nI 0) (hgv : I 0 15 7 = nI 0) (hc : I 0 9 3 = nI 0) (hen : I 0 13 1 = nI 0) (hnu : I i 40 0 = nI i) (ha : I i 55 1 = nI a) (hp : I i 52 a = nI 0) (hlm : I i 54 a = nI 0) (hbk : I i 51 a = (-1 : Int32)) (hhd : I i 49 a = nI 0) (hak : I i 50 a = nI 0) : am_C G (d + 4) mX10_goOn [.inr (0, 0), .inr (i, 40)] I (fun r I' => r = none ∧ I' i 55 5 = nI 1) := by
  have hn4 := hG.hi
  have hn2 := hG.lo
  refine am_of (by decide +kernel) hG.nd (Nat.le_of_ble_eq_true rfl) ?_
  refine am_iconst (v := nI 0) dX10_goOn_0 (by decide) ?_
  refine am_istore_n dX10_goOn_1 (by decide) ?_
  refine am_iload_n dX10_goOn_2 rfl ?_
  refine am_sipush (v := nI 274) dX10_goOn_3 (by decide) ?_
  refine am_icmp_ge (tgt := 159) dX10_goOn_6 (by decide) (fun h => absurd h (by decide)) (fun _ => ?_)
  refine am_aload_n dX10_goOn_9 rfl ?_
  refine am_aload_n dX10_goOn_10 rfl ?_
  refine am_callVx (i := 0) (j := 0) (as := [.inr (i, 40)]) (rest := []) dX10_goOn_11 lkX10_mayGoOn ml_X10_329 imX10_mayGoOn seX10_mayGoOn rfl rfl (hG.m0 (by decide)) rfl (Nat.le_of_ble_eq_true rfl) rfl (c_mayGoOn2 hG hi I (by simp [am_up, am_upf, upd, hkd, hst, hwl, hct, hlg, hlc, hch, hgv, hc, hen, hnu, ha, hp, hlm, hbk, hhd, hak]) (by simp [am_up, am_upf, upd, hkd, hst, hwl, hct, hlg, hlc, hch, hgv, hc, hen, hnu, ha, hp, hlm, hbk, hhd, hak]) (by simp [am_up, am_upf, upd, hkd, hst, hwl, hct, hlg, hlc, hch, hgv, hc, hen, hnu, ha, hp, hlm, hbk, hhd, hak]) (by simp [am_up, am_upf, upd, hkd, hst, hwl, hct, hlg, hlc, hch, hgv, hc, hen, hnu, ha, hp, hlm, hbk, hhd, hak]) (by simp [am_up, am_upf, upd, hkd, hst, hwl, hct, hlg, hlc, hch, hgv, hc, hen, hnu, ha, hp, hlm, hbk, hhd, hak])) ?_
  refine am_nm (fun I1 hI1 => ?_)
  refine am_if_eq (tgt := 159) dX10_goOn_14 (by decide) (fun h => absurd h (by decide)) (fun _ => ?_)
  refine am_aload_n dX10_goOn_17 rfl ?_
  refine am_aload_n dX10_goOn_18 rfl ?_
  refine am_callVx (i := 0) (j := 0) (as := [.inr (i, 40)]) (rest := []) dX10_goOn_19 lkX10_pinAll ml_X10_332 imX10_pinAll seX10_pinAll rfl rfl (hG.m0 (by decide)) rfl (Nat.le_of_ble_eq_true rfl) rfl (c_pinAll0 hG hi I1 (by simp [am_up, am_upf, upd, hkd, hst, hwl, hct, hlg, hlc, hch, hgv, hc, hen, hnu, ha, hp, hlm, hbk, hhd, hak, hI1])) ?_
  refine am_if_eq (tgt := 159) dX10_goOn_22 (by decide) (fun h => absurd h (by decide)) (fun _ => ?_)
  refine am_aload_n dX10_goOn_25 rfl ?_
  refine am_get (v := .inr (i, 55)) dX10_goOn_26 fl_10_84 (hG.mn hi (by decide) (by decide)) rfl ?_
  refine am_dup dX10_goOn_29 ?_
  refine am_get (v := .inl (I1 i 55 9)) dX10_goOn_30 fl_10_195 (hG.mn hi (by decide) (by decide)) rfl ?_
  refine am_iconst (v := nI 1) dX10_goOn_33 (by decide) ?_
  refine am_iadd dX10_goOn_34 ?_
  refine am_put (x := (I1 i 55 9) + (nI 1)) dX10_goOn_35 fp_10_195 (hG.mn hi (by decide) (by decide)) (Nat.le_of_ble_eq_true rfl) rfl ?_
  refine am_aload_n dX10_goOn_38 rfl ?_
  refine am_get (v := .inr (0, 15)) dX10_goOn_39 fl_10_52 (hG.m0 (by decide)) rfl ?_
  refine am_aload_n dX10_goOn_42 rfl ?_
  refine am_callVe (i := 0) (j := 15) (as := [.inr (i, 40)]) (rest := []) dX10_goOn_43 lkX9_run ml_X10_335 imX9_run seX9_run rfl rfl (hG.m0 (by decide)) rfl (Nat.le_of_ble_eq_true rfl) rfl (c_run2 (a := a) hG hi (by omega) (am_up I1 i 55 9 ((I1 i 55 9) + (nI 1))) (by simp [am_up, am_upf, upd, hkd, hst, hwl, hct, hlg, hlc, hch, hgv, hc, hen, hnu, ha, hp, hlm, hbk, hhd, hak, hI1]) (by simp [am_up, am_upf, upd, hkd, hst, hwl, hct, hlg, hlc, hch, hgv, hc, hen, hnu, ha, hp, hlm, hbk, hhd, hak, hI1]) (by simp [am_up, am_upf, upd, hkd, hst, hwl, hct, hlg, hlc, hch, hgv, hc, hen, hnu, ha, hp, hlm, hbk, hhd, hak, hI1])) ?_
  refine am_nm (fun I2 hI2 => ?_)
  refine am_aload_n dX10_goOn_46 rfl ?_
  refine am_get (v := .inr (0, 15)) dX10_goOn_47 fl_10_52 (hG.m0 (by decide)) rfl ?_
  refine am_get (v := .inl (I2 0 15 9)) dX10_goOn_50 fl_10_338 (hG.m0 (by decide)) rfl ?_
  refine am_top (show I2 0 15 9 = nI 3 from (by simp [am_up, am_upf, upd, hkd, hst, hwl, hct, hlg, hlc, hch, hgv, hc, hen, hnu, ha, hp, hlm, hbk, hhd, hak, hI1, hI2])) ?_
  refine am_iconst (v := nI 1) dX10_goOn_53 (by decide) ?_
  refine am_icmp_eq (tgt := 64) dX10_goOn_54 (by decide) (fun h => absurd h (by decide)) (fun _ => ?_)
  refine am_aload_n dX10_goOn_57 rfl ?_
  refine am_get (v := .inr (0, 15)) dX10_goOn_58 fl_10_52 (hG.m0 (by decide)) rfl ?_
  refine am_callVe (i := 0) (j := 15) (as := []) (rest := []) dX10_goOn_61 lkX9_undo ml_X10_341 imX9_undo seX9_undo rfl rfl (hG.m0 (by decide)) rfl (Nat.le_of_ble_eq_true rfl) rfl (c_undo0 hG hi I2 (by simp [am_up, am_upf, upd, hkd, hst, hwl, hct, hlg, hlc, hch, hgv, hc, hen, hnu, ha, hp, hlm, hbk, hhd, hak, hI1, hI2]) (by simp [am_up, am_upf, upd, hkd, hst, hwl, hct, hlg, hlc, hch, hgv, hc, hen, hnu, ha, hp, hlm, hbk, hhd, hak, hI1, hI2])) ?_
  refine am_nm (fun I3 hI3 => ?_)
  refine am_aload_n dX10_goOn_64 rfl ?_
  refine am_get (v := .inr (0, 15)) dX10_goOn_65 fl_10_52 (hG.m0 (by decide)) rfl ?_
  refine am_get (v := .inl (I3 0 15 9)) dX10_goOn_68 fl_10_338 (hG.m0 (by decide)) rfl ?_
  refine am_top (show I3 0 15 9 = nI 3 from (by simp [am_up, am_upf, upd, hkd, hst, hwl, hct, hlg, hlc, hch, hgv, hc, hen, hnu, ha, hp, hlm, hbk, hhd, hak, hI1, hI2, hI3])) ?_
  refine am_iconst (v := nI 3) dX10_goOn_71 (by decide) ?_
  refine am_icmp_ne (tgt := 118) dX10_goOn_72 (by decide) (fun h => absurd h (by decide)) (fun _ => ?_)
  refine am_aload_n dX10_goOn_75 rfl ?_
  refine am_get (v := .inr (i, 48)) dX10_goOn_76 fl_10_244 (hG.mn hi (by decide) (by decide)) rfl ?_
  refine am_aload_n dX10_goOn_79 rfl ?_
  refine am_get (v := .inr (0, 15)) dX10_goOn_80 fl_10_52 (hG.m0 (by decide)) rfl ?_
  refine am_get (v := .inl (I3 0 15 11)) dX10_goOn_83 fl_10_344 (hG.m0 (by decide)) rfl ?_
  refine am_top (show I3 0 15 11 = nI a from (by simp [am_up, am_upf, upd, hkd, hst, hwl, hct, hlg, hlc, hch, hgv, hc, hen, hnu, ha, hp, hlm, hbk, hhd, hak, hI1, hI2, hI3])) ?_
  refine am_aload_n dX10_goOn_86 rfl ?_
  refine am_get (v := .inr (0, 15)) dX10_goOn_87 fl_10_52 (hG.m0 (by decide)) rfl ?_
  refine am_get (v := .inl (I3 0 15 12)) dX10_goOn_90 fl_10_347 (hG.m0 (by decide)) rfl ?_
  refine am_top (show I3 0 15 12 = nI 2 from (by simp [am_up, am_upf, upd, hkd, hst, hwl, hct, hlg, hlc, hch, hgv, hc, hen, hnu, ha, hp, hlm, hbk, hhd, hak, hI1, hI2, hI3])) ?_
  refine am_callVe (i := i) (j := 48) (as := [.inl (nI a), .inl (nI 2)]) (rest := []) dX10_goOn_93 lkX4_list ml_X10_350 imX4_list seX4_list rfl rfl (hG.mn hi (by decide) (by decide)) rfl (Nat.le_of_ble_eq_true rfl) rfl (c_list0 hG hi (by omega) (nI 2) I3 (by simp [am_up, am_upf, upd, hkd, hst, hwl, hct, hlg, hlc, hch, hgv, hc, hen, hnu, ha, hp, hlm, hbk, hhd, hak, hI1, hI2, hI3]) (by simp [am_up, am_upf, upd, hkd, hst, hwl, hct, hlg, hlc, hch, hgv, hc, hen, hnu, ha, hp, hlm, hbk, hhd, hak, hI1, hI2, hI3])) ?_
  refine am_nm (fun I4 hI4 => ?_)
  refine am_aload_n dX10_goOn_96 rfl ?_
  refine am_get (v := .inr (i, 55)) dX10_goOn_97 fl_10_84 (hG.mn hi (by decide) (by decide)) rfl ?_
  refine am_aload_n dX10_goOn_100 rfl ?_
  refine am_get (v := .inr (i, 48)) dX10_goOn_101 fl_10_244 (hG.mn hi (by decide) (by decide)) rfl ?_
  refine am_get (v := .inl (I4 i 48 6)) dX10_goOn_104 fl_10_353 (hG.mn hi (by decide) (by decide)) rfl ?_
  refine am_top (show I4 i 48 6 = nI 1 from (by simp [am_up, am_upf, upd, hkd, hst, hwl, hct, hlg, hlc, hch, hgv, hc, hen, hnu, ha, hp, hlm, hbk, hhd, hak, hI1, hI2, hI3, hI4])) ?_
  refine am_put (x := nI 1) dX10_goOn_107 fp_10_198 (hG.mn hi (by decide) (by decide)) (Nat.le_of_ble_eq_true rfl) rfl ?_
  refine am_aload_n dX10_goOn_110 rfl ?_
  refine am_aload_n dX10_goOn_111 rfl ?_
  refine am_callVe (i := 0) (j := 0) (as := [.inr (i, 40)]) (rest := []) dX10_goOn_112 lkX10_unpinAll ml_X10_356 imX10_unpinAll seX10_unpinAll rfl rfl (hG.m0 (by decide)) rfl (Nat.le_of_ble_eq_true rfl) rfl (c_unpinAll1 (r := a) hG hi (by omega) (am_up I4 i 55 10 (nI 1)) (by simp [am_up, am_upf, upd, hkd, hst, hwl, hct, hlg, hlc, hch, hgv, hc, hen, hnu, ha, hp, hlm, hbk, hhd, hak, hI1, hI2, hI3, hI4]) (by simp [am_up, am_upf, upd, hkd, hst, hwl, hct, hlg, hlc, hch, hgv, hc, hen, hnu, ha, hp, hlm, hbk, hhd, hak, hI1, hI2, hI3, hI4]) (by simp [am_up, am_upf, upd, hkd, hst, hwl, hct, hlg, hlc, hch, hgv, hc, hen, hnu, ha, hp, hlm, hbk, hhd, hak, hI1, hI2, hI3, hI4])) ?_
  refine am_nm (fun I5 hI5 => ?_)
  refine am_goto (tgt := 153) dX10_goOn_115 (by decide) ?_
  refine am_iinc (v := nI 1) dX10_goOn_153 rfl (by decide) ?_
  refine am_goto (tgt := 2) dX10_goOn_156 (by decide) ?_
  refine am_iload_n dX10_goOn_2 rfl ?_
  refine am_sipush (v := nI 274) dX10_goOn_3 (by decide) ?_
  refine am_icmp_ge (tgt := 159) dX10_goOn_6 (by decide) (fun h => absurd h (by decide)) (fun _ => ?_)
  refine am_aload_n dX10_goOn_9 rfl ?_
  refine am_aload_n dX10_goOn_10 rfl ?_
  refine am_callVx (i := 0) (j := 0) (as := [.inr (i, 40)]) (rest := []) dX10_goOn_11 lkX10_mayGoOn ml_X10_329 imX10_mayGoOn seX10_mayGoOn rfl rfl (hG.m0 (by decide)) rfl (Nat.le_of_ble_eq_true rfl) rfl (c_mayGoOn2 hG hi I5 (by simp [am_up, am_upf, upd, hkd, hst, hwl, hct, hlg, hlc, hch, hgv, hc, hen, hnu, ha, hp, hlm, hbk, hhd, hak, hI1, hI2, hI3, hI4, hI5]) (by simp [am_up, am_upf, upd, hkd, hst, hwl, hct, hlg, hlc, hch, hgv, hc, hen, hnu, ha, hp, hlm, hbk, hhd, hak, hI1, hI2, hI3, hI4, hI5]) (by simp [am_up, am_upf, upd, hkd, hst, hwl, hct, hlg, hlc, hch, hgv, hc, hen, hnu, ha, hp, hlm, hbk, hhd, hak, hI1, hI2, hI3, hI4, hI5]) (by simp [am_up, am_upf, upd, hkd, hst, hwl, hct, hlg, hlc, hch, hgv, hc, hen, hnu, ha, hp, hlm, hbk, hhd, hak, hI1, hI2, hI3, hI4, hI5]) (by simp [am_up, am_upf, upd, hkd, hst, hwl, hct, hlg, hlc, hch, hgv, hc, hen, hnu, ha, hp, hlm, hbk, hhd, hak, hI1, hI2, hI3, hI4, hI5])) ?_
  refine am_nm (fun I6 hI6 => ?_)
  refine am_if_eq (tgt := 159) dX10_goOn_14 (by decide) (fun h => absurd h (by decide)) (fun _ => ?_)
  refine am_aload_n dX10_goOn_17 rfl ?_
  refine am_aload_n dX10_goOn_18 rfl ?_
  refine am_callVx (i := 0) (j := 0) (as := [.inr (i, 40)]) (rest := []) dX10_goOn_19 lkX10_pinAll ml_X10_332 imX10_pinAll seX10_pinAll rfl rfl (hG.m0 (by decide)) rfl (Nat.le_of_ble_eq_true rfl) rfl (c_pinAll1_2 (r := a) hG hi (by omega) I6 (fun x hx => by simp [am_up, am_upf, upd, hj x hx, hI1, hI2, hI3, hI4, hI5, hI6]) (fun x hx => by simp [am_up, am_upf, upd, hu x hx, hI1, hI2, hI3, hI4, hI5, hI6]) (by simp [am_up, am_upf, upd, hkd, hst, hwl, hct, hlg, hlc, hch, hgv, hc, hen, hnu, ha, hp, hlm, hbk, hhd, hak, hI1, hI2, hI3, hI4, hI5, hI6]) (by simp [am_up, am_upf, upd, hkd, hst, hwl, hct, hlg, hlc, hch, hgv, hc, hen, hnu, ha, hp, hlm, hbk, hhd, hak, hI1, hI2, hI3, hI4, hI5, hI6]) (by simp [am_up, am_upf, upd, hkd, hst, hwl, hct, hlg, hlc, hch, hgv, hc, hen, hnu, ha, hp, hlm, hbk, hhd, hak, hI1, hI2, hI3, hI4, hI5, hI6]) (by simp [am_up, am_upf, upd, hkd, hst, hwl, hct, hlg, hlc, hch, hgv, hc, hen, hnu, ha, hp, hlm, hbk, hhd, hak, hI1, hI2, hI3, hI4, hI5, hI6]) (by simp [am_up, am_upf, upd, hkd, hst, hwl, hct, hlg, hlc, hch, hgv, hc, hen, hnu, ha, hp, hlm, hbk, hhd, hak, hI1, hI2, hI3, hI4, hI5, hI6]) (by simp [am_up, am_upf, upd, hkd, hst, hwl, hct, hlg, hlc, hch, hgv, hc, hen, hnu, ha, hp, hlm, hbk, hhd, hak, hI1, hI2, hI3, hI4, hI5, hI6]) (by simp [am_up, am_upf, upd, hkd, hst, hwl, hct, hlg, hlc, hch, hgv, hc, hen, hnu, ha, hp, hlm, hbk, hhd, hak, hI1, hI2, hI3, hI4, hI5, hI6]) (by simp [am_up, am_upf, upd, hkd, hst, hwl, hct, hlg, hlc, hch, hgv, hc, hen, hnu, ha, hp, hlm, hbk, hhd, hak, hI1, hI2, hI3, hI4, hI5, hI6]) (by simp [am_up, am_upf, upd, hkd, hst, hwl, hct, hlg, hlc, hch, hgv, hc, hen, hnu, ha, hp, hlm, hbk, hhd, hak, hI1, hI2, hI3, hI4, hI5, hI6])) ?_
  refine am_nm (fun I7 hI7 => ?_)
  refine am_if_eq (tgt := 159) dX10_goOn_22 (by decide) (fun _ => ?_) (fun h => absurd h (by decide))
  refine am_vret dX10_goOn_159 rfl ?_
  exact ⟨rfl, (by simp [am_up, am_upf, upd, hkd, hst, hwl, hct, hlg, hlc, hch, hgv, hc, hen, hnu, ha, hp, hlm, hbk, hhd, hak, hI1, hI2, hI3, hI4, hI5, hI6, hI7])⟩
theorem c_goOn3 {G : am_G} (hG : am_ok G) {d : Nat} {i a : Nat} (hi : i < G.2.2.2.1) (hab : a < 128) (I : am_I) (hj : ∀ x, x < G.2.2.2.1 → I x 40 6 = nI 1) (hu : ∀ x, x < G.2.2.2.1 → I x 40 5 = nI 1) (hkd : I i 55 0 = nI 3) (hst : I i 55 5 = nI 1) (hwl : I i 55 11 = nI 0) (hct : I i 44 5 = nI 0) (hlg : I i 44 2 = nI 0) (hlc : I i 48 6 = nI 0) (hch : I 0 15 5 = nI 0) (hgv : I 0 15 7 = nI 0) (hc : I 0 9 3 = nI 0) (hen : I 0 13 1 = nI 0) (hnu : I i 40 0 = nI i) (ha : I i 55 1 = nI a) (hp : I i 52 a = nI 0) (hlm : I i 54 a = nI 0) (hbk : I i 51 a = (-1 : Int32)) (hhd : I i 49 a = nI 0) (hak : I i 50 a = nI 0) : am_C G (d + 4) mX10_goOn [.inr (0, 0), .inr (i, 40)] I (fun r I' => r = none ∧ I' i 55 5 = nI 1) := by
  have hn4 := hG.hi
  have hn2 := hG.lo
  refine am_of (by decide +kernel) hG.nd (Nat.le_of_ble_eq_true rfl) ?_
  refine am_iconst (v := nI 0) dX10_goOn_0 (by decide) ?_
  refine am_istore_n dX10_goOn_1 (by decide) ?_
  refine am_iload_n dX10_goOn_2 rfl ?_
  refine am_sipush (v := nI 274) dX10_goOn_3 (by decide) ?_
  refine am_icmp_ge (tgt := 159) dX10_goOn_6 (by decide) (fun h => absurd h (by decide)) (fun _ => ?_)
  refine am_aload_n dX10_goOn_9 rfl ?_
  refine am_aload_n dX10_goOn_10 rfl ?_
  refine am_callVx (i := 0) (j := 0) (as := [.inr (i, 40)]) (rest := []) dX10_goOn_11 lkX10_mayGoOn ml_X10_329 imX10_mayGoOn seX10_mayGoOn rfl rfl (hG.m0 (by decide)) rfl (Nat.le_of_ble_eq_true rfl) rfl (c_mayGoOn3 hG hi I (by simp [am_up, am_upf, upd, hkd, hst, hwl, hct, hlg, hlc, hch, hgv, hc, hen, hnu, ha, hp, hlm, hbk, hhd, hak]) (by simp [am_up, am_upf, upd, hkd, hst, hwl, hct, hlg, hlc, hch, hgv, hc, hen, hnu, ha, hp, hlm, hbk, hhd, hak]) (by simp [am_up, am_upf, upd, hkd, hst, hwl, hct, hlg, hlc, hch, hgv, hc, hen, hnu, ha, hp, hlm, hbk, hhd, hak]) (by simp [am_up, am_upf, upd, hkd, hst, hwl, hct, hlg, hlc, hch, hgv, hc, hen, hnu, ha, hp, hlm, hbk, hhd, hak]) (by simp [am_up, am_upf, upd, hkd, hst, hwl, hct, hlg, hlc, hch, hgv, hc, hen, hnu, ha, hp, hlm, hbk, hhd, hak])) ?_
  refine am_nm (fun I1 hI1 => ?_)
  refine am_if_eq (tgt := 159) dX10_goOn_14 (by decide) (fun h => absurd h (by decide)) (fun _ => ?_)
  refine am_aload_n dX10_goOn_17 rfl ?_
  refine am_aload_n dX10_goOn_18 rfl ?_
  refine am_callVx (i := 0) (j := 0) (as := [.inr (i, 40)]) (rest := []) dX10_goOn_19 lkX10_pinAll ml_X10_332 imX10_pinAll seX10_pinAll rfl rfl (hG.m0 (by decide)) rfl (Nat.le_of_ble_eq_true rfl) rfl (c_pinAll0 hG hi I1 (by simp [am_up, am_upf, upd, hkd, hst, hwl, hct, hlg, hlc, hch, hgv, hc, hen, hnu, ha, hp, hlm, hbk, hhd, hak, hI1])) ?_
  refine am_if_eq (tgt := 159) dX10_goOn_22 (by decide) (fun h => absurd h (by decide)) (fun _ => ?_)
  refine am_aload_n dX10_goOn_25 rfl ?_
  refine am_get (v := .inr (i, 55)) dX10_goOn_26 fl_10_84 (hG.mn hi (by decide) (by decide)) rfl ?_
  refine am_dup dX10_goOn_29 ?_
  refine am_get (v := .inl (I1 i 55 9)) dX10_goOn_30 fl_10_195 (hG.mn hi (by decide) (by decide)) rfl ?_
  refine am_iconst (v := nI 1) dX10_goOn_33 (by decide) ?_
  refine am_iadd dX10_goOn_34 ?_
  refine am_put (x := (I1 i 55 9) + (nI 1)) dX10_goOn_35 fp_10_195 (hG.mn hi (by decide) (by decide)) (Nat.le_of_ble_eq_true rfl) rfl ?_
  refine am_aload_n dX10_goOn_38 rfl ?_
  refine am_get (v := .inr (0, 15)) dX10_goOn_39 fl_10_52 (hG.m0 (by decide)) rfl ?_
  refine am_aload_n dX10_goOn_42 rfl ?_
  refine am_callVe (i := 0) (j := 15) (as := [.inr (i, 40)]) (rest := []) dX10_goOn_43 lkX9_run ml_X10_335 imX9_run seX9_run rfl rfl (hG.m0 (by decide)) rfl (Nat.le_of_ble_eq_true rfl) rfl (c_run3 (a := a) hG hi (by omega) (am_up I1 i 55 9 ((I1 i 55 9) + (nI 1))) (by simp [am_up, am_upf, upd, hkd, hst, hwl, hct, hlg, hlc, hch, hgv, hc, hen, hnu, ha, hp, hlm, hbk, hhd, hak, hI1]) (by simp [am_up, am_upf, upd, hkd, hst, hwl, hct, hlg, hlc, hch, hgv, hc, hen, hnu, ha, hp, hlm, hbk, hhd, hak, hI1]) (by simp [am_up, am_upf, upd, hkd, hst, hwl, hct, hlg, hlc, hch, hgv, hc, hen, hnu, ha, hp, hlm, hbk, hhd, hak, hI1])) ?_
  refine am_nm (fun I2 hI2 => ?_)
  refine am_aload_n dX10_goOn_46 rfl ?_
  refine am_get (v := .inr (0, 15)) dX10_goOn_47 fl_10_52 (hG.m0 (by decide)) rfl ?_
  refine am_get (v := .inl (I2 0 15 9)) dX10_goOn_50 fl_10_338 (hG.m0 (by decide)) rfl ?_
  refine am_top (show I2 0 15 9 = nI 3 from (by simp [am_up, am_upf, upd, hkd, hst, hwl, hct, hlg, hlc, hch, hgv, hc, hen, hnu, ha, hp, hlm, hbk, hhd, hak, hI1, hI2])) ?_
  refine am_iconst (v := nI 1) dX10_goOn_53 (by decide) ?_
  refine am_icmp_eq (tgt := 64) dX10_goOn_54 (by decide) (fun h => absurd h (by decide)) (fun _ => ?_)
  refine am_aload_n dX10_goOn_57 rfl ?_
  refine am_get (v := .inr (0, 15)) dX10_goOn_58 fl_10_52 (hG.m0 (by decide)) rfl ?_
  refine am_callVe (i := 0) (j := 15) (as := []) (rest := []) dX10_goOn_61 lkX9_undo ml_X10_341 imX9_undo seX9_undo rfl rfl (hG.m0 (by decide)) rfl (Nat.le_of_ble_eq_true rfl) rfl (c_undo0 hG hi I2 (by simp [am_up, am_upf, upd, hkd, hst, hwl, hct, hlg, hlc, hch, hgv, hc, hen, hnu, ha, hp, hlm, hbk, hhd, hak, hI1, hI2]) (by simp [am_up, am_upf, upd, hkd, hst, hwl, hct, hlg, hlc, hch, hgv, hc, hen, hnu, ha, hp, hlm, hbk, hhd, hak, hI1, hI2])) ?_
  refine am_nm (fun I3 hI3 => ?_)
  refine am_aload_n dX10_goOn_64 rfl ?_
  refine am_get (v := .inr (0, 15)) dX10_goOn_65 fl_10_52 (hG.m0 (by decide)) rfl ?_
  refine am_get (v := .inl (I3 0 15 9)) dX10_goOn_68 fl_10_338 (hG.m0 (by decide)) rfl ?_
  refine am_top (show I3 0 15 9 = nI 3 from (by simp [am_up, am_upf, upd, hkd, hst, hwl, hct, hlg, hlc, hch, hgv, hc, hen, hnu, ha, hp, hlm, hbk, hhd, hak, hI1, hI2, hI3])) ?_
  refine am_iconst (v := nI 3) dX10_goOn_71 (by decide) ?_
  refine am_icmp_ne (tgt := 118) dX10_goOn_72 (by decide) (fun h => absurd h (by decide)) (fun _ => ?_)
  refine am_aload_n dX10_goOn_75 rfl ?_
  refine am_get (v := .inr (i, 48)) dX10_goOn_76 fl_10_244 (hG.mn hi (by decide) (by decide)) rfl ?_
  refine am_aload_n dX10_goOn_79 rfl ?_
  refine am_get (v := .inr (0, 15)) dX10_goOn_80 fl_10_52 (hG.m0 (by decide)) rfl ?_
  refine am_get (v := .inl (I3 0 15 11)) dX10_goOn_83 fl_10_344 (hG.m0 (by decide)) rfl ?_
  refine am_top (show I3 0 15 11 = nI a from (by simp [am_up, am_upf, upd, hkd, hst, hwl, hct, hlg, hlc, hch, hgv, hc, hen, hnu, ha, hp, hlm, hbk, hhd, hak, hI1, hI2, hI3])) ?_
  refine am_aload_n dX10_goOn_86 rfl ?_
  refine am_get (v := .inr (0, 15)) dX10_goOn_87 fl_10_52 (hG.m0 (by decide)) rfl ?_
  refine am_get (v := .inl (I3 0 15 12)) dX10_goOn_90 fl_10_347 (hG.m0 (by decide)) rfl ?_
  refine am_top (show I3 0 15 12 = nI 2 from (by simp [am_up, am_upf, upd, hkd, hst, hwl, hct, hlg, hlc, hch, hgv, hc, hen, hnu, ha, hp, hlm, hbk, hhd, hak, hI1, hI2, hI3])) ?_
  refine am_callVe (i := i) (j := 48) (as := [.inl (nI a), .inl (nI 2)]) (rest := []) dX10_goOn_93 lkX4_list ml_X10_350 imX4_list seX4_list rfl rfl (hG.mn hi (by decide) (by decide)) rfl (Nat.le_of_ble_eq_true rfl) rfl (c_list0 hG hi (by omega) (nI 2) I3 (by simp [am_up, am_upf, upd, hkd, hst, hwl, hct, hlg, hlc, hch, hgv, hc, hen, hnu, ha, hp, hlm, hbk, hhd, hak, hI1, hI2, hI3]) (by simp [am_up, am_upf, upd, hkd, hst, hwl, hct, hlg, hlc, hch, hgv, hc, hen, hnu, ha, hp, hlm, hbk, hhd, hak, hI1, hI2, hI3])) ?_
  refine am_nm (fun I4 hI4 => ?_)
  refine am_aload_n dX10_goOn_96 rfl ?_
  refine am_get (v := .inr (i, 55)) dX10_goOn_97 fl_10_84 (hG.mn hi (by decide) (by decide)) rfl ?_
  refine am_aload_n dX10_goOn_100 rfl ?_
  refine am_get (v := .inr (i, 48)) dX10_goOn_101 fl_10_244 (hG.mn hi (by decide) (by decide)) rfl ?_
  refine am_get (v := .inl (I4 i 48 6)) dX10_goOn_104 fl_10_353 (hG.mn hi (by decide) (by decide)) rfl ?_
  refine am_top (show I4 i 48 6 = nI 1 from (by simp [am_up, am_upf, upd, hkd, hst, hwl, hct, hlg, hlc, hch, hgv, hc, hen, hnu, ha, hp, hlm, hbk, hhd, hak, hI1, hI2, hI3, hI4])) ?_
  refine am_put (x := nI 1) dX10_goOn_107 fp_10_198 (hG.mn hi (by decide) (by decide)) (Nat.le_of_ble_eq_true rfl) rfl ?_
  refine am_aload_n dX10_goOn_110 rfl ?_
  refine am_aload_n dX10_goOn_111 rfl ?_
  refine am_callVe (i := 0) (j := 0) (as := [.inr (i, 40)]) (rest := []) dX10_goOn_112 lkX10_unpinAll ml_X10_356 imX10_unpinAll seX10_unpinAll rfl rfl (hG.m0 (by decide)) rfl (Nat.le_of_ble_eq_true rfl) rfl (c_unpinAll1 (r := a) hG hi (by omega) (am_up I4 i 55 10 (nI 1)) (by simp [am_up, am_upf, upd, hkd, hst, hwl, hct, hlg, hlc, hch, hgv, hc, hen, hnu, ha, hp, hlm, hbk, hhd, hak, hI1, hI2, hI3, hI4]) (by simp [am_up, am_upf, upd, hkd, hst, hwl, hct, hlg, hlc, hch, hgv, hc, hen, hnu, ha, hp, hlm, hbk, hhd, hak, hI1, hI2, hI3, hI4]) (by simp [am_up, am_upf, upd, hkd, hst, hwl, hct, hlg, hlc, hch, hgv, hc, hen, hnu, ha, hp, hlm, hbk, hhd, hak, hI1, hI2, hI3, hI4])) ?_
  refine am_nm (fun I5 hI5 => ?_)
  refine am_goto (tgt := 153) dX10_goOn_115 (by decide) ?_
  refine am_iinc (v := nI 1) dX10_goOn_153 rfl (by decide) ?_
  refine am_goto (tgt := 2) dX10_goOn_156 (by decide) ?_
  refine am_iload_n dX10_goOn_2 rfl ?_
  refine am_sipush (v := nI 274) dX10_goOn_3 (by decide) ?_
  refine am_icmp_ge (tgt := 159) dX10_goOn_6 (by decide) (fun h => absurd h (by decide)) (fun _ => ?_)
  refine am_aload_n dX10_goOn_9 rfl ?_
  refine am_aload_n dX10_goOn_10 rfl ?_
  refine am_callVx (i := 0) (j := 0) (as := [.inr (i, 40)]) (rest := []) dX10_goOn_11 lkX10_mayGoOn ml_X10_329 imX10_mayGoOn seX10_mayGoOn rfl rfl (hG.m0 (by decide)) rfl (Nat.le_of_ble_eq_true rfl) rfl (c_mayGoOn3 hG hi I5 (by simp [am_up, am_upf, upd, hkd, hst, hwl, hct, hlg, hlc, hch, hgv, hc, hen, hnu, ha, hp, hlm, hbk, hhd, hak, hI1, hI2, hI3, hI4, hI5]) (by simp [am_up, am_upf, upd, hkd, hst, hwl, hct, hlg, hlc, hch, hgv, hc, hen, hnu, ha, hp, hlm, hbk, hhd, hak, hI1, hI2, hI3, hI4, hI5]) (by simp [am_up, am_upf, upd, hkd, hst, hwl, hct, hlg, hlc, hch, hgv, hc, hen, hnu, ha, hp, hlm, hbk, hhd, hak, hI1, hI2, hI3, hI4, hI5]) (by simp [am_up, am_upf, upd, hkd, hst, hwl, hct, hlg, hlc, hch, hgv, hc, hen, hnu, ha, hp, hlm, hbk, hhd, hak, hI1, hI2, hI3, hI4, hI5]) (by simp [am_up, am_upf, upd, hkd, hst, hwl, hct, hlg, hlc, hch, hgv, hc, hen, hnu, ha, hp, hlm, hbk, hhd, hak, hI1, hI2, hI3, hI4, hI5])) ?_
  refine am_nm (fun I6 hI6 => ?_)
  refine am_if_eq (tgt := 159) dX10_goOn_14 (by decide) (fun h => absurd h (by decide)) (fun _ => ?_)
  refine am_aload_n dX10_goOn_17 rfl ?_
  refine am_aload_n dX10_goOn_18 rfl ?_
  refine am_callVx (i := 0) (j := 0) (as := [.inr (i, 40)]) (rest := []) dX10_goOn_19 lkX10_pinAll ml_X10_332 imX10_pinAll seX10_pinAll rfl rfl (hG.m0 (by decide)) rfl (Nat.le_of_ble_eq_true rfl) rfl (c_pinAll1_2 (r := a) hG hi (by omega) I6 (fun x hx => by simp [am_up, am_upf, upd, hj x hx, hI1, hI2, hI3, hI4, hI5, hI6]) (fun x hx => by simp [am_up, am_upf, upd, hu x hx, hI1, hI2, hI3, hI4, hI5, hI6]) (by simp [am_up, am_upf, upd, hkd, hst, hwl, hct, hlg, hlc, hch, hgv, hc, hen, hnu, ha, hp, hlm, hbk, hhd, hak, hI1, hI2, hI3, hI4, hI5, hI6]) (by simp [am_up, am_upf, upd, hkd, hst, hwl, hct, hlg, hlc, hch, hgv, hc, hen, hnu, ha, hp, hlm, hbk, hhd, hak, hI1, hI2, hI3, hI4, hI5, hI6]) (by simp [am_up, am_upf, upd, hkd, hst, hwl, hct, hlg, hlc, hch, hgv, hc, hen, hnu, ha, hp, hlm, hbk, hhd, hak, hI1, hI2, hI3, hI4, hI5, hI6]) (by simp [am_up, am_upf, upd, hkd, hst, hwl, hct, hlg, hlc, hch, hgv, hc, hen, hnu, ha, hp, hlm, hbk, hhd, hak, hI1, hI2, hI3, hI4, hI5, hI6]) (by simp [am_up, am_upf, upd, hkd, hst, hwl, hct, hlg, hlc, hch, hgv, hc, hen, hnu, ha, hp, hlm, hbk, hhd, hak, hI1, hI2, hI3, hI4, hI5, hI6]) (by simp [am_up, am_upf, upd, hkd, hst, hwl, hct, hlg, hlc, hch, hgv, hc, hen, hnu, ha, hp, hlm, hbk, hhd, hak, hI1, hI2, hI3, hI4, hI5, hI6]) (by simp [am_up, am_upf, upd, hkd, hst, hwl, hct, hlg, hlc, hch, hgv, hc, hen, hnu, ha, hp, hlm, hbk, hhd, hak, hI1, hI2, hI3, hI4, hI5, hI6]) (by simp [am_up, am_upf, upd, hkd, hst, hwl, hct, hlg, hlc, hch, hgv, hc, hen, hnu, ha, hp, hlm, hbk, hhd, hak, hI1, hI2, hI3, hI4, hI5, hI6]) (by simp [am_up, am_upf, upd, hkd, hst, hwl, hct, hlg, hlc, hch, hgv, hc, hen, hnu, ha, hp, hlm, hbk, hhd, hak, hI1, hI2, hI3, hI4, hI5, hI6])) ?_
  refine am_nm (fun I7 hI7 => ?_)
  refine am_if_eq (tgt := 159) dX10_goOn_22 (by decide) (fun _ => ?_) (fun h => absurd h (by decide))
  refine am_vret dX10_goOn_159 rfl ?_
  exact ⟨rfl, (by simp [am_up, am_upf, upd, hkd, hst, hwl, hct, hlg, hlc, hch, hgv, hc, hen, hnu, ha, hp, hlm, hbk, hhd, hak, hI1, hI2, hI3, hI4, hI5, hI6, hI7])⟩
theorem c_goOn4 {G : am_G} (hG : am_ok G) {d : Nat} {i a : Nat} (hi : i < G.2.2.2.1) (hab : a < 128) (I : am_I) (hj : ∀ x, x < G.2.2.2.1 → I x 40 6 = nI 1) (hu : ∀ x, x < G.2.2.2.1 → I x 40 5 = nI 1) (hkd : I i 55 0 = nI 4) (hst : I i 55 5 = nI 1) (hwl : I i 55 11 = nI 0) (hct : I i 44 5 = nI 0) (hlg : I i 44 2 = nI 0) (hlc : I i 48 6 = nI 0) (hch : I 0 15 5 = nI 0) (hgv : I 0 15 7 = nI 0) (hc : I 0 9 3 = nI 0) (hen : I 0 13 1 = nI 0) (hnu : I i 40 0 = nI i) (ha : I i 55 1 = nI a) (hp : I i 52 a = nI 0) (hlm : I i 54 a = nI 0) (hbk : I i 51 a = (-1 : Int32)) (hhd : I i 49 a = nI 0) (hak : I i 50 a = nI 0) : am_C G (d + 4) mX10_goOn [.inr (0, 0), .inr (i, 40)] I (fun r I' => r = none ∧ I' i 55 5 = nI 1) := by
  have hn4 := hG.hi
  have hn2 := hG.lo
  refine am_of (by decide +kernel) hG.nd (Nat.le_of_ble_eq_true rfl) ?_
  refine am_iconst (v := nI 0) dX10_goOn_0 (by decide) ?_
  refine am_istore_n dX10_goOn_1 (by decide) ?_
  refine am_iload_n dX10_goOn_2 rfl ?_
  refine am_sipush (v := nI 274) dX10_goOn_3 (by decide) ?_
  refine am_icmp_ge (tgt := 159) dX10_goOn_6 (by decide) (fun h => absurd h (by decide)) (fun _ => ?_)
  refine am_aload_n dX10_goOn_9 rfl ?_
  refine am_aload_n dX10_goOn_10 rfl ?_
  refine am_callVx (i := 0) (j := 0) (as := [.inr (i, 40)]) (rest := []) dX10_goOn_11 lkX10_mayGoOn ml_X10_329 imX10_mayGoOn seX10_mayGoOn rfl rfl (hG.m0 (by decide)) rfl (Nat.le_of_ble_eq_true rfl) rfl (c_mayGoOn4 hG hi I (by simp [am_up, am_upf, upd, hkd, hst, hwl, hct, hlg, hlc, hch, hgv, hc, hen, hnu, ha, hp, hlm, hbk, hhd, hak]) (by simp [am_up, am_upf, upd, hkd, hst, hwl, hct, hlg, hlc, hch, hgv, hc, hen, hnu, ha, hp, hlm, hbk, hhd, hak]) (by simp [am_up, am_upf, upd, hkd, hst, hwl, hct, hlg, hlc, hch, hgv, hc, hen, hnu, ha, hp, hlm, hbk, hhd, hak]) (by simp [am_up, am_upf, upd, hkd, hst, hwl, hct, hlg, hlc, hch, hgv, hc, hen, hnu, ha, hp, hlm, hbk, hhd, hak]) (by simp [am_up, am_upf, upd, hkd, hst, hwl, hct, hlg, hlc, hch, hgv, hc, hen, hnu, ha, hp, hlm, hbk, hhd, hak])) ?_
  refine am_nm (fun I1 hI1 => ?_)
  refine am_if_eq (tgt := 159) dX10_goOn_14 (by decide) (fun h => absurd h (by decide)) (fun _ => ?_)
  refine am_aload_n dX10_goOn_17 rfl ?_
  refine am_aload_n dX10_goOn_18 rfl ?_
  refine am_callVx (i := 0) (j := 0) (as := [.inr (i, 40)]) (rest := []) dX10_goOn_19 lkX10_pinAll ml_X10_332 imX10_pinAll seX10_pinAll rfl rfl (hG.m0 (by decide)) rfl (Nat.le_of_ble_eq_true rfl) rfl (c_pinAll0 hG hi I1 (by simp [am_up, am_upf, upd, hkd, hst, hwl, hct, hlg, hlc, hch, hgv, hc, hen, hnu, ha, hp, hlm, hbk, hhd, hak, hI1])) ?_
  refine am_if_eq (tgt := 159) dX10_goOn_22 (by decide) (fun h => absurd h (by decide)) (fun _ => ?_)
  refine am_aload_n dX10_goOn_25 rfl ?_
  refine am_get (v := .inr (i, 55)) dX10_goOn_26 fl_10_84 (hG.mn hi (by decide) (by decide)) rfl ?_
  refine am_dup dX10_goOn_29 ?_
  refine am_get (v := .inl (I1 i 55 9)) dX10_goOn_30 fl_10_195 (hG.mn hi (by decide) (by decide)) rfl ?_
  refine am_iconst (v := nI 1) dX10_goOn_33 (by decide) ?_
  refine am_iadd dX10_goOn_34 ?_
  refine am_put (x := (I1 i 55 9) + (nI 1)) dX10_goOn_35 fp_10_195 (hG.mn hi (by decide) (by decide)) (Nat.le_of_ble_eq_true rfl) rfl ?_
  refine am_aload_n dX10_goOn_38 rfl ?_
  refine am_get (v := .inr (0, 15)) dX10_goOn_39 fl_10_52 (hG.m0 (by decide)) rfl ?_
  refine am_aload_n dX10_goOn_42 rfl ?_
  refine am_callVe (i := 0) (j := 15) (as := [.inr (i, 40)]) (rest := []) dX10_goOn_43 lkX9_run ml_X10_335 imX9_run seX9_run rfl rfl (hG.m0 (by decide)) rfl (Nat.le_of_ble_eq_true rfl) rfl (c_run4 (a := a) hG hi (by omega) (am_up I1 i 55 9 ((I1 i 55 9) + (nI 1))) (by simp [am_up, am_upf, upd, hkd, hst, hwl, hct, hlg, hlc, hch, hgv, hc, hen, hnu, ha, hp, hlm, hbk, hhd, hak, hI1]) (by simp [am_up, am_upf, upd, hkd, hst, hwl, hct, hlg, hlc, hch, hgv, hc, hen, hnu, ha, hp, hlm, hbk, hhd, hak, hI1]) (by simp [am_up, am_upf, upd, hkd, hst, hwl, hct, hlg, hlc, hch, hgv, hc, hen, hnu, ha, hp, hlm, hbk, hhd, hak, hI1])) ?_
  refine am_nm (fun I2 hI2 => ?_)
  refine am_aload_n dX10_goOn_46 rfl ?_
  refine am_get (v := .inr (0, 15)) dX10_goOn_47 fl_10_52 (hG.m0 (by decide)) rfl ?_
  refine am_get (v := .inl (I2 0 15 9)) dX10_goOn_50 fl_10_338 (hG.m0 (by decide)) rfl ?_
  refine am_top (show I2 0 15 9 = nI 3 from (by simp [am_up, am_upf, upd, hkd, hst, hwl, hct, hlg, hlc, hch, hgv, hc, hen, hnu, ha, hp, hlm, hbk, hhd, hak, hI1, hI2])) ?_
  refine am_iconst (v := nI 1) dX10_goOn_53 (by decide) ?_
  refine am_icmp_eq (tgt := 64) dX10_goOn_54 (by decide) (fun h => absurd h (by decide)) (fun _ => ?_)
  refine am_aload_n dX10_goOn_57 rfl ?_
  refine am_get (v := .inr (0, 15)) dX10_goOn_58 fl_10_52 (hG.m0 (by decide)) rfl ?_
  refine am_callVe (i := 0) (j := 15) (as := []) (rest := []) dX10_goOn_61 lkX9_undo ml_X10_341 imX9_undo seX9_undo rfl rfl (hG.m0 (by decide)) rfl (Nat.le_of_ble_eq_true rfl) rfl (c_undo0 hG hi I2 (by simp [am_up, am_upf, upd, hkd, hst, hwl, hct, hlg, hlc, hch, hgv, hc, hen, hnu, ha, hp, hlm, hbk, hhd, hak, hI1, hI2]) (by simp [am_up, am_upf, upd, hkd, hst, hwl, hct, hlg, hlc, hch, hgv, hc, hen, hnu, ha, hp, hlm, hbk, hhd, hak, hI1, hI2])) ?_
  refine am_nm (fun I3 hI3 => ?_)
  refine am_aload_n dX10_goOn_64 rfl ?_
  refine am_get (v := .inr (0, 15)) dX10_goOn_65 fl_10_52 (hG.m0 (by decide)) rfl ?_
  refine am_get (v := .inl (I3 0 15 9)) dX10_goOn_68 fl_10_338 (hG.m0 (by decide)) rfl ?_
  refine am_top (show I3 0 15 9 = nI 3 from (by simp [am_up, am_upf, upd, hkd, hst, hwl, hct, hlg, hlc, hch, hgv, hc, hen, hnu, ha, hp, hlm, hbk, hhd, hak, hI1, hI2, hI3])) ?_
  refine am_iconst (v := nI 3) dX10_goOn_71 (by decide) ?_
  refine am_icmp_ne (tgt := 118) dX10_goOn_72 (by decide) (fun h => absurd h (by decide)) (fun _ => ?_)
  refine am_aload_n dX10_goOn_75 rfl ?_
  refine am_get (v := .inr (i, 48)) dX10_goOn_76 fl_10_244 (hG.mn hi (by decide) (by decide)) rfl ?_
  refine am_aload_n dX10_goOn_79 rfl ?_
  refine am_get (v := .inr (0, 15)) dX10_goOn_80 fl_10_52 (hG.m0 (by decide)) rfl ?_
  refine am_get (v := .inl (I3 0 15 11)) dX10_goOn_83 fl_10_344 (hG.m0 (by decide)) rfl ?_
  refine am_top (show I3 0 15 11 = nI a from (by simp [am_up, am_upf, upd, hkd, hst, hwl, hct, hlg, hlc, hch, hgv, hc, hen, hnu, ha, hp, hlm, hbk, hhd, hak, hI1, hI2, hI3])) ?_
  refine am_aload_n dX10_goOn_86 rfl ?_
  refine am_get (v := .inr (0, 15)) dX10_goOn_87 fl_10_52 (hG.m0 (by decide)) rfl ?_
  refine am_get (v := .inl (I3 0 15 12)) dX10_goOn_90 fl_10_347 (hG.m0 (by decide)) rfl ?_
  refine am_top (show I3 0 15 12 = nI 2 from (by simp [am_up, am_upf, upd, hkd, hst, hwl, hct, hlg, hlc, hch, hgv, hc, hen, hnu, ha, hp, hlm, hbk, hhd, hak, hI1, hI2, hI3])) ?_
  refine am_callVe (i := i) (j := 48) (as := [.inl (nI a), .inl (nI 2)]) (rest := []) dX10_goOn_93 lkX4_list ml_X10_350 imX4_list seX4_list rfl rfl (hG.mn hi (by decide) (by decide)) rfl (Nat.le_of_ble_eq_true rfl) rfl (c_list0 hG hi (by omega) (nI 2) I3 (by simp [am_up, am_upf, upd, hkd, hst, hwl, hct, hlg, hlc, hch, hgv, hc, hen, hnu, ha, hp, hlm, hbk, hhd, hak, hI1, hI2, hI3]) (by simp [am_up, am_upf, upd, hkd, hst, hwl, hct, hlg, hlc, hch, hgv, hc, hen, hnu, ha, hp, hlm, hbk, hhd, hak, hI1, hI2, hI3])) ?_
  refine am_nm (fun I4 hI4 => ?_)
  refine am_aload_n dX10_goOn_96 rfl ?_
  refine am_get (v := .inr (i, 55)) dX10_goOn_97 fl_10_84 (hG.mn hi (by decide) (by decide)) rfl ?_
  refine am_aload_n dX10_goOn_100 rfl ?_
  refine am_get (v := .inr (i, 48)) dX10_goOn_101 fl_10_244 (hG.mn hi (by decide) (by decide)) rfl ?_
  refine am_get (v := .inl (I4 i 48 6)) dX10_goOn_104 fl_10_353 (hG.mn hi (by decide) (by decide)) rfl ?_
  refine am_top (show I4 i 48 6 = nI 1 from (by simp [am_up, am_upf, upd, hkd, hst, hwl, hct, hlg, hlc, hch, hgv, hc, hen, hnu, ha, hp, hlm, hbk, hhd, hak, hI1, hI2, hI3, hI4])) ?_
  refine am_put (x := nI 1) dX10_goOn_107 fp_10_198 (hG.mn hi (by decide) (by decide)) (Nat.le_of_ble_eq_true rfl) rfl ?_
  refine am_aload_n dX10_goOn_110 rfl ?_
  refine am_aload_n dX10_goOn_111 rfl ?_
  refine am_callVe (i := 0) (j := 0) (as := [.inr (i, 40)]) (rest := []) dX10_goOn_112 lkX10_unpinAll ml_X10_356 imX10_unpinAll seX10_unpinAll rfl rfl (hG.m0 (by decide)) rfl (Nat.le_of_ble_eq_true rfl) rfl (c_unpinAll1 (r := a) hG hi (by omega) (am_up I4 i 55 10 (nI 1)) (by simp [am_up, am_upf, upd, hkd, hst, hwl, hct, hlg, hlc, hch, hgv, hc, hen, hnu, ha, hp, hlm, hbk, hhd, hak, hI1, hI2, hI3, hI4]) (by simp [am_up, am_upf, upd, hkd, hst, hwl, hct, hlg, hlc, hch, hgv, hc, hen, hnu, ha, hp, hlm, hbk, hhd, hak, hI1, hI2, hI3, hI4]) (by simp [am_up, am_upf, upd, hkd, hst, hwl, hct, hlg, hlc, hch, hgv, hc, hen, hnu, ha, hp, hlm, hbk, hhd, hak, hI1, hI2, hI3, hI4])) ?_
  refine am_nm (fun I5 hI5 => ?_)
  refine am_goto (tgt := 153) dX10_goOn_115 (by decide) ?_
  refine am_iinc (v := nI 1) dX10_goOn_153 rfl (by decide) ?_
  refine am_goto (tgt := 2) dX10_goOn_156 (by decide) ?_
  refine am_iload_n dX10_goOn_2 rfl ?_
  refine am_sipush (v := nI 274) dX10_goOn_3 (by decide) ?_
  refine am_icmp_ge (tgt := 159) dX10_goOn_6 (by decide) (fun h => absurd h (by decide)) (fun _ => ?_)
  refine am_aload_n dX10_goOn_9 rfl ?_
  refine am_aload_n dX10_goOn_10 rfl ?_
  refine am_callVx (i := 0) (j := 0) (as := [.inr (i, 40)]) (rest := []) dX10_goOn_11 lkX10_mayGoOn ml_X10_329 imX10_mayGoOn seX10_mayGoOn rfl rfl (hG.m0 (by decide)) rfl (Nat.le_of_ble_eq_true rfl) rfl (c_mayGoOn4 hG hi I5 (by simp [am_up, am_upf, upd, hkd, hst, hwl, hct, hlg, hlc, hch, hgv, hc, hen, hnu, ha, hp, hlm, hbk, hhd, hak, hI1, hI2, hI3, hI4, hI5]) (by simp [am_up, am_upf, upd, hkd, hst, hwl, hct, hlg, hlc, hch, hgv, hc, hen, hnu, ha, hp, hlm, hbk, hhd, hak, hI1, hI2, hI3, hI4, hI5]) (by simp [am_up, am_upf, upd, hkd, hst, hwl, hct, hlg, hlc, hch, hgv, hc, hen, hnu, ha, hp, hlm, hbk, hhd, hak, hI1, hI2, hI3, hI4, hI5]) (by simp [am_up, am_upf, upd, hkd, hst, hwl, hct, hlg, hlc, hch, hgv, hc, hen, hnu, ha, hp, hlm, hbk, hhd, hak, hI1, hI2, hI3, hI4, hI5]) (by simp [am_up, am_upf, upd, hkd, hst, hwl, hct, hlg, hlc, hch, hgv, hc, hen, hnu, ha, hp, hlm, hbk, hhd, hak, hI1, hI2, hI3, hI4, hI5])) ?_
  refine am_nm (fun I6 hI6 => ?_)
  refine am_if_eq (tgt := 159) dX10_goOn_14 (by decide) (fun h => absurd h (by decide)) (fun _ => ?_)
  refine am_aload_n dX10_goOn_17 rfl ?_
  refine am_aload_n dX10_goOn_18 rfl ?_
  refine am_callVx (i := 0) (j := 0) (as := [.inr (i, 40)]) (rest := []) dX10_goOn_19 lkX10_pinAll ml_X10_332 imX10_pinAll seX10_pinAll rfl rfl (hG.m0 (by decide)) rfl (Nat.le_of_ble_eq_true rfl) rfl (c_pinAll1_2 (r := a) hG hi (by omega) I6 (fun x hx => by simp [am_up, am_upf, upd, hj x hx, hI1, hI2, hI3, hI4, hI5, hI6]) (fun x hx => by simp [am_up, am_upf, upd, hu x hx, hI1, hI2, hI3, hI4, hI5, hI6]) (by simp [am_up, am_upf, upd, hkd, hst, hwl, hct, hlg, hlc, hch, hgv, hc, hen, hnu, ha, hp, hlm, hbk, hhd, hak, hI1, hI2, hI3, hI4, hI5, hI6]) (by simp [am_up, am_upf, upd, hkd, hst, hwl, hct, hlg, hlc, hch, hgv, hc, hen, hnu, ha, hp, hlm, hbk, hhd, hak, hI1, hI2, hI3, hI4, hI5, hI6]) (by simp [am_up, am_upf, upd, hkd, hst, hwl, hct, hlg, hlc, hch, hgv, hc, hen, hnu, ha, hp, hlm, hbk, hhd, hak, hI1, hI2, hI3, hI4, hI5, hI6]) (by simp [am_up, am_upf, upd, hkd, hst, hwl, hct, hlg, hlc, hch, hgv, hc, hen, hnu, ha, hp, hlm, hbk, hhd, hak, hI1, hI2, hI3, hI4, hI5, hI6]) (by simp [am_up, am_upf, upd, hkd, hst, hwl, hct, hlg, hlc, hch, hgv, hc, hen, hnu, ha, hp, hlm, hbk, hhd, hak, hI1, hI2, hI3, hI4, hI5, hI6]) (by simp [am_up, am_upf, upd, hkd, hst, hwl, hct, hlg, hlc, hch, hgv, hc, hen, hnu, ha, hp, hlm, hbk, hhd, hak, hI1, hI2, hI3, hI4, hI5, hI6]) (by simp [am_up, am_upf, upd, hkd, hst, hwl, hct, hlg, hlc, hch, hgv, hc, hen, hnu, ha, hp, hlm, hbk, hhd, hak, hI1, hI2, hI3, hI4, hI5, hI6]) (by simp [am_up, am_upf, upd, hkd, hst, hwl, hct, hlg, hlc, hch, hgv, hc, hen, hnu, ha, hp, hlm, hbk, hhd, hak, hI1, hI2, hI3, hI4, hI5, hI6]) (by simp [am_up, am_upf, upd, hkd, hst, hwl, hct, hlg, hlc, hch, hgv, hc, hen, hnu, ha, hp, hlm, hbk, hhd, hak, hI1, hI2, hI3, hI4, hI5, hI6])) ?_
  refine am_nm (fun I7 hI7 => ?_)
  refine am_if_eq (tgt := 159) dX10_goOn_22 (by decide) (fun _ => ?_) (fun h => absurd h (by decide))
  refine am_vret dX10_goOn_159 rfl ?_
  exact ⟨rfl, (by simp [am_up, am_upf, upd, hkd, hst, hwl, hct, hlg, hlc, hch, hgv, hc, hen, hnu, ha, hp, hlm, hbk, hhd, hak, hI1, hI2, hI3, hI4, hI5, hI6, hI7])⟩
theorem c_goOn5 {G : am_G} (hG : am_ok G) {d : Nat} {i a : Nat} (hi : i < G.2.2.2.1) (hab : a < 128) (I : am_I) (hj : ∀ x, x < G.2.2.2.1 → I x 40 6 = nI 1) (hu : ∀ x, x < G.2.2.2.1 → I x 40 5 = nI 1) (hkd : I i 55 0 = nI 5) (hst : I i 55 5 = nI 1) (hwl : I i 55 11 = nI 0) (hct : I i 44 5 = nI 0) (hlg : I i 44 2 = nI 0) (hlc : I i 48 6 = nI 0) (hch : I 0 15 5 = nI 0) (hgv : I 0 15 7 = nI 0) (hc : I 0 9 3 = nI 0) (hen : I 0 13 1 = nI 0) (hnu : I i 40 0 = nI i) (ha : I i 55 1 = nI a) (hp : I i 52 a = nI 0) (hlm : I i 54 a = nI 0) (hbk : I i 51 a = (-1 : Int32)) (hhd : I i 49 a = nI 0) (hak : I i 50 a = nI 0) : am_C G (d + 4) mX10_goOn [.inr (0, 0), .inr (i, 40)] I (fun r I' => r = none ∧ I' i 55 5 = nI 1) := by
  have hn4 := hG.hi
  have hn2 := hG.lo
  refine am_of (by decide +kernel) hG.nd (Nat.le_of_ble_eq_true rfl) ?_
  refine am_iconst (v := nI 0) dX10_goOn_0 (by decide) ?_
  refine am_istore_n dX10_goOn_1 (by decide) ?_
  refine am_iload_n dX10_goOn_2 rfl ?_
  refine am_sipush (v := nI 274) dX10_goOn_3 (by decide) ?_
  refine am_icmp_ge (tgt := 159) dX10_goOn_6 (by decide) (fun h => absurd h (by decide)) (fun _ => ?_)
  refine am_aload_n dX10_goOn_9 rfl ?_
  refine am_aload_n dX10_goOn_10 rfl ?_
  refine am_callVx (i := 0) (j := 0) (as := [.inr (i, 40)]) (rest := []) dX10_goOn_11 lkX10_mayGoOn ml_X10_329 imX10_mayGoOn seX10_mayGoOn rfl rfl (hG.m0 (by decide)) rfl (Nat.le_of_ble_eq_true rfl) rfl (c_mayGoOn5 hG hi I (by simp [am_up, am_upf, upd, hkd, hst, hwl, hct, hlg, hlc, hch, hgv, hc, hen, hnu, ha, hp, hlm, hbk, hhd, hak]) (by simp [am_up, am_upf, upd, hkd, hst, hwl, hct, hlg, hlc, hch, hgv, hc, hen, hnu, ha, hp, hlm, hbk, hhd, hak]) (by simp [am_up, am_upf, upd, hkd, hst, hwl, hct, hlg, hlc, hch, hgv, hc, hen, hnu, ha, hp, hlm, hbk, hhd, hak]) (by simp [am_up, am_upf, upd, hkd, hst, hwl, hct, hlg, hlc, hch, hgv, hc, hen, hnu, ha, hp, hlm, hbk, hhd, hak]) (by simp [am_up, am_upf, upd, hkd, hst, hwl, hct, hlg, hlc, hch, hgv, hc, hen, hnu, ha, hp, hlm, hbk, hhd, hak])) ?_
  refine am_nm (fun I1 hI1 => ?_)
  refine am_if_eq (tgt := 159) dX10_goOn_14 (by decide) (fun h => absurd h (by decide)) (fun _ => ?_)
  refine am_aload_n dX10_goOn_17 rfl ?_
  refine am_aload_n dX10_goOn_18 rfl ?_
  refine am_callVx (i := 0) (j := 0) (as := [.inr (i, 40)]) (rest := []) dX10_goOn_19 lkX10_pinAll ml_X10_332 imX10_pinAll seX10_pinAll rfl rfl (hG.m0 (by decide)) rfl (Nat.le_of_ble_eq_true rfl) rfl (c_pinAll0 hG hi I1 (by simp [am_up, am_upf, upd, hkd, hst, hwl, hct, hlg, hlc, hch, hgv, hc, hen, hnu, ha, hp, hlm, hbk, hhd, hak, hI1])) ?_
  refine am_if_eq (tgt := 159) dX10_goOn_22 (by decide) (fun h => absurd h (by decide)) (fun _ => ?_)
  refine am_aload_n dX10_goOn_25 rfl ?_
  refine am_get (v := .inr (i, 55)) dX10_goOn_26 fl_10_84 (hG.mn hi (by decide) (by decide)) rfl ?_
  refine am_dup dX10_goOn_29 ?_
  refine am_get (v := .inl (I1 i 55 9)) dX10_goOn_30 fl_10_195 (hG.mn hi (by decide) (by decide)) rfl ?_
  refine am_iconst (v := nI 1) dX10_goOn_33 (by decide) ?_
  refine am_iadd dX10_goOn_34 ?_
  refine am_put (x := (I1 i 55 9) + (nI 1)) dX10_goOn_35 fp_10_195 (hG.mn hi (by decide) (by decide)) (Nat.le_of_ble_eq_true rfl) rfl ?_
  refine am_aload_n dX10_goOn_38 rfl ?_
  refine am_get (v := .inr (0, 15)) dX10_goOn_39 fl_10_52 (hG.m0 (by decide)) rfl ?_
  refine am_aload_n dX10_goOn_42 rfl ?_
  refine am_callVe (i := 0) (j := 15) (as := [.inr (i, 40)]) (rest := []) dX10_goOn_43 lkX9_run ml_X10_335 imX9_run seX9_run rfl rfl (hG.m0 (by decide)) rfl (Nat.le_of_ble_eq_true rfl) rfl (c_run5 (a := a) hG hi (by omega) (am_up I1 i 55 9 ((I1 i 55 9) + (nI 1))) (by simp [am_up, am_upf, upd, hkd, hst, hwl, hct, hlg, hlc, hch, hgv, hc, hen, hnu, ha, hp, hlm, hbk, hhd, hak, hI1]) (by simp [am_up, am_upf, upd, hkd, hst, hwl, hct, hlg, hlc, hch, hgv, hc, hen, hnu, ha, hp, hlm, hbk, hhd, hak, hI1]) (by simp [am_up, am_upf, upd, hkd, hst, hwl, hct, hlg, hlc, hch, hgv, hc, hen, hnu, ha, hp, hlm, hbk, hhd, hak, hI1])) ?_
  refine am_nm (fun I2 hI2 => ?_)
  refine am_aload_n dX10_goOn_46 rfl ?_
  refine am_get (v := .inr (0, 15)) dX10_goOn_47 fl_10_52 (hG.m0 (by decide)) rfl ?_
  refine am_get (v := .inl (I2 0 15 9)) dX10_goOn_50 fl_10_338 (hG.m0 (by decide)) rfl ?_
  refine am_top (show I2 0 15 9 = nI 3 from (by simp [am_up, am_upf, upd, hkd, hst, hwl, hct, hlg, hlc, hch, hgv, hc, hen, hnu, ha, hp, hlm, hbk, hhd, hak, hI1, hI2])) ?_
  refine am_iconst (v := nI 1) dX10_goOn_53 (by decide) ?_
  refine am_icmp_eq (tgt := 64) dX10_goOn_54 (by decide) (fun h => absurd h (by decide)) (fun _ => ?_)
  refine am_aload_n dX10_goOn_57 rfl ?_
  refine am_get (v := .inr (0, 15)) dX10_goOn_58 fl_10_52 (hG.m0 (by decide)) rfl ?_
  refine am_callVe (i := 0) (j := 15) (as := []) (rest := []) dX10_goOn_61 lkX9_undo ml_X10_341 imX9_undo seX9_undo rfl rfl (hG.m0 (by decide)) rfl (Nat.le_of_ble_eq_true rfl) rfl (c_undo0 hG hi I2 (by simp [am_up, am_upf, upd, hkd, hst, hwl, hct, hlg, hlc, hch, hgv, hc, hen, hnu, ha, hp, hlm, hbk, hhd, hak, hI1, hI2]) (by simp [am_up, am_upf, upd, hkd, hst, hwl, hct, hlg, hlc, hch, hgv, hc, hen, hnu, ha, hp, hlm, hbk, hhd, hak, hI1, hI2])) ?_
  refine am_nm (fun I3 hI3 => ?_)
  refine am_aload_n dX10_goOn_64 rfl ?_
  refine am_get (v := .inr (0, 15)) dX10_goOn_65 fl_10_52 (hG.m0 (by decide)) rfl ?_
  refine am_get (v := .inl (I3 0 15 9)) dX10_goOn_68 fl_10_338 (hG.m0 (by decide)) rfl ?_
  refine am_top (show I3 0 15 9 = nI 3 from (by simp [am_up, am_upf, upd, hkd, hst, hwl, hct, hlg, hlc, hch, hgv, hc, hen, hnu, ha, hp, hlm, hbk, hhd, hak, hI1, hI2, hI3])) ?_
  refine am_iconst (v := nI 3) dX10_goOn_71 (by decide) ?_
  refine am_icmp_ne (tgt := 118) dX10_goOn_72 (by decide) (fun h => absurd h (by decide)) (fun _ => ?_)
  refine am_aload_n dX10_goOn_75 rfl ?_
  refine am_get (v := .inr (i, 48)) dX10_goOn_76 fl_10_244 (hG.mn hi (by decide) (by decide)) rfl ?_
  refine am_aload_n dX10_goOn_79 rfl ?_
  refine am_get (v := .inr (0, 15)) dX10_goOn_80 fl_10_52 (hG.m0 (by decide)) rfl ?_
  refine am_get (v := .inl (I3 0 15 11)) dX10_goOn_83 fl_10_344 (hG.m0 (by decide)) rfl ?_
  refine am_top (show I3 0 15 11 = nI a from (by simp [am_up, am_upf, upd, hkd, hst, hwl, hct, hlg, hlc, hch, hgv, hc, hen, hnu, ha, hp, hlm, hbk, hhd, hak, hI1, hI2, hI3])) ?_
  refine am_aload_n dX10_goOn_86 rfl ?_
  refine am_get (v := .inr (0, 15)) dX10_goOn_87 fl_10_52 (hG.m0 (by decide)) rfl ?_
  refine am_get (v := .inl (I3 0 15 12)) dX10_goOn_90 fl_10_347 (hG.m0 (by decide)) rfl ?_
  refine am_top (show I3 0 15 12 = nI 1 from (by simp [am_up, am_upf, upd, hkd, hst, hwl, hct, hlg, hlc, hch, hgv, hc, hen, hnu, ha, hp, hlm, hbk, hhd, hak, hI1, hI2, hI3])) ?_
  refine am_callVe (i := i) (j := 48) (as := [.inl (nI a), .inl (nI 1)]) (rest := []) dX10_goOn_93 lkX4_list ml_X10_350 imX4_list seX4_list rfl rfl (hG.mn hi (by decide) (by decide)) rfl (Nat.le_of_ble_eq_true rfl) rfl (c_list0 hG hi (by omega) (nI 1) I3 (by simp [am_up, am_upf, upd, hkd, hst, hwl, hct, hlg, hlc, hch, hgv, hc, hen, hnu, ha, hp, hlm, hbk, hhd, hak, hI1, hI2, hI3]) (by simp [am_up, am_upf, upd, hkd, hst, hwl, hct, hlg, hlc, hch, hgv, hc, hen, hnu, ha, hp, hlm, hbk, hhd, hak, hI1, hI2, hI3])) ?_
  refine am_nm (fun I4 hI4 => ?_)
  refine am_aload_n dX10_goOn_96 rfl ?_
  refine am_get (v := .inr (i, 55)) dX10_goOn_97 fl_10_84 (hG.mn hi (by decide) (by decide)) rfl ?_
  refine am_aload_n dX10_goOn_100 rfl ?_
  refine am_get (v := .inr (i, 48)) dX10_goOn_101 fl_10_244 (hG.mn hi (by decide) (by decide)) rfl ?_
  refine am_get (v := .inl (I4 i 48 6)) dX10_goOn_104 fl_10_353 (hG.mn hi (by decide) (by decide)) rfl ?_
  refine am_top (show I4 i 48 6 = nI 1 from (by simp [am_up, am_upf, upd, hkd, hst, hwl, hct, hlg, hlc, hch, hgv, hc, hen, hnu, ha, hp, hlm, hbk, hhd, hak, hI1, hI2, hI3, hI4])) ?_
  refine am_put (x := nI 1) dX10_goOn_107 fp_10_198 (hG.mn hi (by decide) (by decide)) (Nat.le_of_ble_eq_true rfl) rfl ?_
  refine am_aload_n dX10_goOn_110 rfl ?_
  refine am_aload_n dX10_goOn_111 rfl ?_
  refine am_callVe (i := 0) (j := 0) (as := [.inr (i, 40)]) (rest := []) dX10_goOn_112 lkX10_unpinAll ml_X10_356 imX10_unpinAll seX10_unpinAll rfl rfl (hG.m0 (by decide)) rfl (Nat.le_of_ble_eq_true rfl) rfl (c_unpinAll1 (r := a) hG hi (by omega) (am_up I4 i 55 10 (nI 1)) (by simp [am_up, am_upf, upd, hkd, hst, hwl, hct, hlg, hlc, hch, hgv, hc, hen, hnu, ha, hp, hlm, hbk, hhd, hak, hI1, hI2, hI3, hI4]) (by simp [am_up, am_upf, upd, hkd, hst, hwl, hct, hlg, hlc, hch, hgv, hc, hen, hnu, ha, hp, hlm, hbk, hhd, hak, hI1, hI2, hI3, hI4]) (by simp [am_up, am_upf, upd, hkd, hst, hwl, hct, hlg, hlc, hch, hgv, hc, hen, hnu, ha, hp, hlm, hbk, hhd, hak, hI1, hI2, hI3, hI4])) ?_
  refine am_nm (fun I5 hI5 => ?_)
  refine am_goto (tgt := 153) dX10_goOn_115 (by decide) ?_
  refine am_iinc (v := nI 1) dX10_goOn_153 rfl (by decide) ?_
  refine am_goto (tgt := 2) dX10_goOn_156 (by decide) ?_
  refine am_iload_n dX10_goOn_2 rfl ?_
  refine am_sipush (v := nI 274) dX10_goOn_3 (by decide) ?_
  refine am_icmp_ge (tgt := 159) dX10_goOn_6 (by decide) (fun h => absurd h (by decide)) (fun _ => ?_)
  refine am_aload_n dX10_goOn_9 rfl ?_
  refine am_aload_n dX10_goOn_10 rfl ?_
  refine am_callVx (i := 0) (j := 0) (as := [.inr (i, 40)]) (rest := []) dX10_goOn_11 lkX10_mayGoOn ml_X10_329 imX10_mayGoOn seX10_mayGoOn rfl rfl (hG.m0 (by decide)) rfl (Nat.le_of_ble_eq_true rfl) rfl (c_mayGoOn5 hG hi I5 (by simp [am_up, am_upf, upd, hkd, hst, hwl, hct, hlg, hlc, hch, hgv, hc, hen, hnu, ha, hp, hlm, hbk, hhd, hak, hI1, hI2, hI3, hI4, hI5]) (by simp [am_up, am_upf, upd, hkd, hst, hwl, hct, hlg, hlc, hch, hgv, hc, hen, hnu, ha, hp, hlm, hbk, hhd, hak, hI1, hI2, hI3, hI4, hI5]) (by simp [am_up, am_upf, upd, hkd, hst, hwl, hct, hlg, hlc, hch, hgv, hc, hen, hnu, ha, hp, hlm, hbk, hhd, hak, hI1, hI2, hI3, hI4, hI5]) (by simp [am_up, am_upf, upd, hkd, hst, hwl, hct, hlg, hlc, hch, hgv, hc, hen, hnu, ha, hp, hlm, hbk, hhd, hak, hI1, hI2, hI3, hI4, hI5]) (by simp [am_up, am_upf, upd, hkd, hst, hwl, hct, hlg, hlc, hch, hgv, hc, hen, hnu, ha, hp, hlm, hbk, hhd, hak, hI1, hI2, hI3, hI4, hI5])) ?_
  refine am_nm (fun I6 hI6 => ?_)
  refine am_if_eq (tgt := 159) dX10_goOn_14 (by decide) (fun h => absurd h (by decide)) (fun _ => ?_)
  refine am_aload_n dX10_goOn_17 rfl ?_
  refine am_aload_n dX10_goOn_18 rfl ?_
  refine am_callVx (i := 0) (j := 0) (as := [.inr (i, 40)]) (rest := []) dX10_goOn_19 lkX10_pinAll ml_X10_332 imX10_pinAll seX10_pinAll rfl rfl (hG.m0 (by decide)) rfl (Nat.le_of_ble_eq_true rfl) rfl (c_pinAll1_1 (r := a) hG hi (by omega) I6 (fun x hx => by simp [am_up, am_upf, upd, hj x hx, hI1, hI2, hI3, hI4, hI5, hI6]) (fun x hx => by simp [am_up, am_upf, upd, hu x hx, hI1, hI2, hI3, hI4, hI5, hI6]) (by simp [am_up, am_upf, upd, hkd, hst, hwl, hct, hlg, hlc, hch, hgv, hc, hen, hnu, ha, hp, hlm, hbk, hhd, hak, hI1, hI2, hI3, hI4, hI5, hI6]) (by simp [am_up, am_upf, upd, hkd, hst, hwl, hct, hlg, hlc, hch, hgv, hc, hen, hnu, ha, hp, hlm, hbk, hhd, hak, hI1, hI2, hI3, hI4, hI5, hI6]) (by simp [am_up, am_upf, upd, hkd, hst, hwl, hct, hlg, hlc, hch, hgv, hc, hen, hnu, ha, hp, hlm, hbk, hhd, hak, hI1, hI2, hI3, hI4, hI5, hI6]) (by simp [am_up, am_upf, upd, hkd, hst, hwl, hct, hlg, hlc, hch, hgv, hc, hen, hnu, ha, hp, hlm, hbk, hhd, hak, hI1, hI2, hI3, hI4, hI5, hI6]) (by simp [am_up, am_upf, upd, hkd, hst, hwl, hct, hlg, hlc, hch, hgv, hc, hen, hnu, ha, hp, hlm, hbk, hhd, hak, hI1, hI2, hI3, hI4, hI5, hI6]) (by simp [am_up, am_upf, upd, hkd, hst, hwl, hct, hlg, hlc, hch, hgv, hc, hen, hnu, ha, hp, hlm, hbk, hhd, hak, hI1, hI2, hI3, hI4, hI5, hI6]) (by simp [am_up, am_upf, upd, hkd, hst, hwl, hct, hlg, hlc, hch, hgv, hc, hen, hnu, ha, hp, hlm, hbk, hhd, hak, hI1, hI2, hI3, hI4, hI5, hI6]) (by simp [am_up, am_upf, upd, hkd, hst, hwl, hct, hlg, hlc, hch, hgv, hc, hen, hnu, ha, hp, hlm, hbk, hhd, hak, hI1, hI2, hI3, hI4, hI5, hI6]) (by simp [am_up, am_upf, upd, hkd, hst, hwl, hct, hlg, hlc, hch, hgv, hc, hen, hnu, ha, hp, hlm, hbk, hhd, hak, hI1, hI2, hI3, hI4, hI5, hI6])) ?_
  refine am_nm (fun I7 hI7 => ?_)
  refine am_if_eq (tgt := 159) dX10_goOn_22 (by decide) (fun _ => ?_) (fun h => absurd h (by decide))
  refine am_vret dX10_goOn_159 rfl ?_
  exact ⟨rfl, (by simp [am_up, am_upf, upd, hkd, hst, hwl, hct, hlg, hlc, hch, hgv, hc, hen, hnu, ha, hp, hlm, hbk, hhd, hak, hI1, hI2, hI3, hI4, hI5, hI6, hI7])⟩
theorem c_goOn6 {G : am_G} (hG : am_ok G) {d : Nat} {i a : Nat} (hi : i < G.2.2.2.1) (hab : a < 128) (I : am_I) (hj : ∀ x, x < G.2.2.2.1 → I x 40 6 = nI 1) (hu : ∀ x, x < G.2.2.2.1 → I x 40 5 = nI 1) (hkd : I i 55 0 = nI 6) (hst : I i 55 5 = nI 1) (hwl : I i 55 11 = nI 0) (hct : I i 44 5 = nI 0) (hlg : I i 44 2 = nI 0) (hlc : I i 48 6 = nI 0) (hch : I 0 15 5 = nI 0) (hgv : I 0 15 7 = nI 0) (hc : I 0 9 3 = nI 0) (hen : I 0 13 1 = nI 0) (hnu : I i 40 0 = nI i) (ha : I i 55 1 = nI a) (hp : I i 52 a = nI 0) (hlm : I i 54 a = nI 0) (hbk : I i 51 a = (-1 : Int32)) (hhd : I i 49 a = nI 0) (hak : I i 50 a = nI 0) : am_C G (d + 4) mX10_goOn [.inr (0, 0), .inr (i, 40)] I (fun r I' => r = none ∧ I' i 55 5 = nI 1) := by
  have hn4 := hG.hi
  have hn2 := hG.lo
  refine am_of (by decide +kernel) hG.nd (Nat.le_of_ble_eq_true rfl) ?_
  refine am_iconst (v := nI 0) dX10_goOn_0 (by decide) ?_
  refine am_istore_n dX10_goOn_1 (by decide) ?_
  refine am_iload_n dX10_goOn_2 rfl ?_
  refine am_sipush (v := nI 274) dX10_goOn_3 (by decide) ?_
  refine am_icmp_ge (tgt := 159) dX10_goOn_6 (by decide) (fun h => absurd h (by decide)) (fun _ => ?_)
  refine am_aload_n dX10_goOn_9 rfl ?_
  refine am_aload_n dX10_goOn_10 rfl ?_
  refine am_callVx (i := 0) (j := 0) (as := [.inr (i, 40)]) (rest := []) dX10_goOn_11 lkX10_mayGoOn ml_X10_329 imX10_mayGoOn seX10_mayGoOn rfl rfl (hG.m0 (by decide)) rfl (Nat.le_of_ble_eq_true rfl) rfl (c_mayGoOn6 hG hi I (by simp [am_up, am_upf, upd, hkd, hst, hwl, hct, hlg, hlc, hch, hgv, hc, hen, hnu, ha, hp, hlm, hbk, hhd, hak]) (by simp [am_up, am_upf, upd, hkd, hst, hwl, hct, hlg, hlc, hch, hgv, hc, hen, hnu, ha, hp, hlm, hbk, hhd, hak]) (by simp [am_up, am_upf, upd, hkd, hst, hwl, hct, hlg, hlc, hch, hgv, hc, hen, hnu, ha, hp, hlm, hbk, hhd, hak]) (by simp [am_up, am_upf, upd, hkd, hst, hwl, hct, hlg, hlc, hch, hgv, hc, hen, hnu, ha, hp, hlm, hbk, hhd, hak]) (by simp [am_up, am_upf, upd, hkd, hst, hwl, hct, hlg, hlc, hch, hgv, hc, hen, hnu, ha, hp, hlm, hbk, hhd, hak])) ?_
  refine am_nm (fun I1 hI1 => ?_)
  refine am_if_eq (tgt := 159) dX10_goOn_14 (by decide) (fun h => absurd h (by decide)) (fun _ => ?_)
  refine am_aload_n dX10_goOn_17 rfl ?_
  refine am_aload_n dX10_goOn_18 rfl ?_
  refine am_callVx (i := 0) (j := 0) (as := [.inr (i, 40)]) (rest := []) dX10_goOn_19 lkX10_pinAll ml_X10_332 imX10_pinAll seX10_pinAll rfl rfl (hG.m0 (by decide)) rfl (Nat.le_of_ble_eq_true rfl) rfl (c_pinAll0 hG hi I1 (by simp [am_up, am_upf, upd, hkd, hst, hwl, hct, hlg, hlc, hch, hgv, hc, hen, hnu, ha, hp, hlm, hbk, hhd, hak, hI1])) ?_
  refine am_if_eq (tgt := 159) dX10_goOn_22 (by decide) (fun h => absurd h (by decide)) (fun _ => ?_)
  refine am_aload_n dX10_goOn_25 rfl ?_
  refine am_get (v := .inr (i, 55)) dX10_goOn_26 fl_10_84 (hG.mn hi (by decide) (by decide)) rfl ?_
  refine am_dup dX10_goOn_29 ?_
  refine am_get (v := .inl (I1 i 55 9)) dX10_goOn_30 fl_10_195 (hG.mn hi (by decide) (by decide)) rfl ?_
  refine am_iconst (v := nI 1) dX10_goOn_33 (by decide) ?_
  refine am_iadd dX10_goOn_34 ?_
  refine am_put (x := (I1 i 55 9) + (nI 1)) dX10_goOn_35 fp_10_195 (hG.mn hi (by decide) (by decide)) (Nat.le_of_ble_eq_true rfl) rfl ?_
  refine am_aload_n dX10_goOn_38 rfl ?_
  refine am_get (v := .inr (0, 15)) dX10_goOn_39 fl_10_52 (hG.m0 (by decide)) rfl ?_
  refine am_aload_n dX10_goOn_42 rfl ?_
  refine am_callVe (i := 0) (j := 15) (as := [.inr (i, 40)]) (rest := []) dX10_goOn_43 lkX9_run ml_X10_335 imX9_run seX9_run rfl rfl (hG.m0 (by decide)) rfl (Nat.le_of_ble_eq_true rfl) rfl (c_run6 (a := a) hG hi (by omega) (am_up I1 i 55 9 ((I1 i 55 9) + (nI 1))) (by simp [am_up, am_upf, upd, hkd, hst, hwl, hct, hlg, hlc, hch, hgv, hc, hen, hnu, ha, hp, hlm, hbk, hhd, hak, hI1]) (by simp [am_up, am_upf, upd, hkd, hst, hwl, hct, hlg, hlc, hch, hgv, hc, hen, hnu, ha, hp, hlm, hbk, hhd, hak, hI1]) (by simp [am_up, am_upf, upd, hkd, hst, hwl, hct, hlg, hlc, hch, hgv, hc, hen, hnu, ha, hp, hlm, hbk, hhd, hak, hI1])) ?_
  refine am_nm (fun I2 hI2 => ?_)
  refine am_aload_n dX10_goOn_46 rfl ?_
  refine am_get (v := .inr (0, 15)) dX10_goOn_47 fl_10_52 (hG.m0 (by decide)) rfl ?_
  refine am_get (v := .inl (I2 0 15 9)) dX10_goOn_50 fl_10_338 (hG.m0 (by decide)) rfl ?_
  refine am_top (show I2 0 15 9 = nI 3 from (by simp [am_up, am_upf, upd, hkd, hst, hwl, hct, hlg, hlc, hch, hgv, hc, hen, hnu, ha, hp, hlm, hbk, hhd, hak, hI1, hI2])) ?_
  refine am_iconst (v := nI 1) dX10_goOn_53 (by decide) ?_
  refine am_icmp_eq (tgt := 64) dX10_goOn_54 (by decide) (fun h => absurd h (by decide)) (fun _ => ?_)
  refine am_aload_n dX10_goOn_57 rfl ?_
  refine am_get (v := .inr (0, 15)) dX10_goOn_58 fl_10_52 (hG.m0 (by decide)) rfl ?_
  refine am_callVe (i := 0) (j := 15) (as := []) (rest := []) dX10_goOn_61 lkX9_undo ml_X10_341 imX9_undo seX9_undo rfl rfl (hG.m0 (by decide)) rfl (Nat.le_of_ble_eq_true rfl) rfl (c_undo0 hG hi I2 (by simp [am_up, am_upf, upd, hkd, hst, hwl, hct, hlg, hlc, hch, hgv, hc, hen, hnu, ha, hp, hlm, hbk, hhd, hak, hI1, hI2]) (by simp [am_up, am_upf, upd, hkd, hst, hwl, hct, hlg, hlc, hch, hgv, hc, hen, hnu, ha, hp, hlm, hbk, hhd, hak, hI1, hI2])) ?_
  refine am_nm (fun I3 hI3 => ?_)
  refine am_aload_n dX10_goOn_64 rfl ?_
  refine am_get (v := .inr (0, 15)) dX10_goOn_65 fl_10_52 (hG.m0 (by decide)) rfl ?_
  refine am_get (v := .inl (I3 0 15 9)) dX10_goOn_68 fl_10_338 (hG.m0 (by decide)) rfl ?_
  refine am_top (show I3 0 15 9 = nI 3 from (by simp [am_up, am_upf, upd, hkd, hst, hwl, hct, hlg, hlc, hch, hgv, hc, hen, hnu, ha, hp, hlm, hbk, hhd, hak, hI1, hI2, hI3])) ?_
  refine am_iconst (v := nI 3) dX10_goOn_71 (by decide) ?_
  refine am_icmp_ne (tgt := 118) dX10_goOn_72 (by decide) (fun h => absurd h (by decide)) (fun _ => ?_)
  refine am_aload_n dX10_goOn_75 rfl ?_
  refine am_get (v := .inr (i, 48)) dX10_goOn_76 fl_10_244 (hG.mn hi (by decide) (by decide)) rfl ?_
  refine am_aload_n dX10_goOn_79 rfl ?_
  refine am_get (v := .inr (0, 15)) dX10_goOn_80 fl_10_52 (hG.m0 (by decide)) rfl ?_
  refine am_get (v := .inl (I3 0 15 11)) dX10_goOn_83 fl_10_344 (hG.m0 (by decide)) rfl ?_
  refine am_top (show I3 0 15 11 = nI a from (by simp [am_up, am_upf, upd, hkd, hst, hwl, hct, hlg, hlc, hch, hgv, hc, hen, hnu, ha, hp, hlm, hbk, hhd, hak, hI1, hI2, hI3])) ?_
  refine am_aload_n dX10_goOn_86 rfl ?_
  refine am_get (v := .inr (0, 15)) dX10_goOn_87 fl_10_52 (hG.m0 (by decide)) rfl ?_
  refine am_get (v := .inl (I3 0 15 12)) dX10_goOn_90 fl_10_347 (hG.m0 (by decide)) rfl ?_
  refine am_top (show I3 0 15 12 = nI 2 from (by simp [am_up, am_upf, upd, hkd, hst, hwl, hct, hlg, hlc, hch, hgv, hc, hen, hnu, ha, hp, hlm, hbk, hhd, hak, hI1, hI2, hI3])) ?_
  refine am_callVe (i := i) (j := 48) (as := [.inl (nI a), .inl (nI 2)]) (rest := []) dX10_goOn_93 lkX4_list ml_X10_350 imX4_list seX4_list rfl rfl (hG.mn hi (by decide) (by decide)) rfl (Nat.le_of_ble_eq_true rfl) rfl (c_list0 hG hi (by omega) (nI 2) I3 (by simp [am_up, am_upf, upd, hkd, hst, hwl, hct, hlg, hlc, hch, hgv, hc, hen, hnu, ha, hp, hlm, hbk, hhd, hak, hI1, hI2, hI3]) (by simp [am_up, am_upf, upd, hkd, hst, hwl, hct, hlg, hlc, hch, hgv, hc, hen, hnu, ha, hp, hlm, hbk, hhd, hak, hI1, hI2, hI3])) ?_
  refine am_nm (fun I4 hI4 => ?_)
  refine am_aload_n dX10_goOn_96 rfl ?_
  refine am_get (v := .inr (i, 55)) dX10_goOn_97 fl_10_84 (hG.mn hi (by decide) (by decide)) rfl ?_
  refine am_aload_n dX10_goOn_100 rfl ?_
  refine am_get (v := .inr (i, 48)) dX10_goOn_101 fl_10_244 (hG.mn hi (by decide) (by decide)) rfl ?_
  refine am_get (v := .inl (I4 i 48 6)) dX10_goOn_104 fl_10_353 (hG.mn hi (by decide) (by decide)) rfl ?_
  refine am_top (show I4 i 48 6 = nI 1 from (by simp [am_up, am_upf, upd, hkd, hst, hwl, hct, hlg, hlc, hch, hgv, hc, hen, hnu, ha, hp, hlm, hbk, hhd, hak, hI1, hI2, hI3, hI4])) ?_
  refine am_put (x := nI 1) dX10_goOn_107 fp_10_198 (hG.mn hi (by decide) (by decide)) (Nat.le_of_ble_eq_true rfl) rfl ?_
  refine am_aload_n dX10_goOn_110 rfl ?_
  refine am_aload_n dX10_goOn_111 rfl ?_
  refine am_callVe (i := 0) (j := 0) (as := [.inr (i, 40)]) (rest := []) dX10_goOn_112 lkX10_unpinAll ml_X10_356 imX10_unpinAll seX10_unpinAll rfl rfl (hG.m0 (by decide)) rfl (Nat.le_of_ble_eq_true rfl) rfl (c_unpinAll1 (r := a) hG hi (by omega) (am_up I4 i 55 10 (nI 1)) (by simp [am_up, am_upf, upd, hkd, hst, hwl, hct, hlg, hlc, hch, hgv, hc, hen, hnu, ha, hp, hlm, hbk, hhd, hak, hI1, hI2, hI3, hI4]) (by simp [am_up, am_upf, upd, hkd, hst, hwl, hct, hlg, hlc, hch, hgv, hc, hen, hnu, ha, hp, hlm, hbk, hhd, hak, hI1, hI2, hI3, hI4]) (by simp [am_up, am_upf, upd, hkd, hst, hwl, hct, hlg, hlc, hch, hgv, hc, hen, hnu, ha, hp, hlm, hbk, hhd, hak, hI1, hI2, hI3, hI4])) ?_
  refine am_nm (fun I5 hI5 => ?_)
  refine am_goto (tgt := 153) dX10_goOn_115 (by decide) ?_
  refine am_iinc (v := nI 1) dX10_goOn_153 rfl (by decide) ?_
  refine am_goto (tgt := 2) dX10_goOn_156 (by decide) ?_
  refine am_iload_n dX10_goOn_2 rfl ?_
  refine am_sipush (v := nI 274) dX10_goOn_3 (by decide) ?_
  refine am_icmp_ge (tgt := 159) dX10_goOn_6 (by decide) (fun h => absurd h (by decide)) (fun _ => ?_)
  refine am_aload_n dX10_goOn_9 rfl ?_
  refine am_aload_n dX10_goOn_10 rfl ?_
  refine am_callVx (i := 0) (j := 0) (as := [.inr (i, 40)]) (rest := []) dX10_goOn_11 lkX10_mayGoOn ml_X10_329 imX10_mayGoOn seX10_mayGoOn rfl rfl (hG.m0 (by decide)) rfl (Nat.le_of_ble_eq_true rfl) rfl (c_mayGoOn6 hG hi I5 (by simp [am_up, am_upf, upd, hkd, hst, hwl, hct, hlg, hlc, hch, hgv, hc, hen, hnu, ha, hp, hlm, hbk, hhd, hak, hI1, hI2, hI3, hI4, hI5]) (by simp [am_up, am_upf, upd, hkd, hst, hwl, hct, hlg, hlc, hch, hgv, hc, hen, hnu, ha, hp, hlm, hbk, hhd, hak, hI1, hI2, hI3, hI4, hI5]) (by simp [am_up, am_upf, upd, hkd, hst, hwl, hct, hlg, hlc, hch, hgv, hc, hen, hnu, ha, hp, hlm, hbk, hhd, hak, hI1, hI2, hI3, hI4, hI5]) (by simp [am_up, am_upf, upd, hkd, hst, hwl, hct, hlg, hlc, hch, hgv, hc, hen, hnu, ha, hp, hlm, hbk, hhd, hak, hI1, hI2, hI3, hI4, hI5]) (by simp [am_up, am_upf, upd, hkd, hst, hwl, hct, hlg, hlc, hch, hgv, hc, hen, hnu, ha, hp, hlm, hbk, hhd, hak, hI1, hI2, hI3, hI4, hI5])) ?_
  refine am_nm (fun I6 hI6 => ?_)
  refine am_if_eq (tgt := 159) dX10_goOn_14 (by decide) (fun h => absurd h (by decide)) (fun _ => ?_)
  refine am_aload_n dX10_goOn_17 rfl ?_
  refine am_aload_n dX10_goOn_18 rfl ?_
  refine am_callVx (i := 0) (j := 0) (as := [.inr (i, 40)]) (rest := []) dX10_goOn_19 lkX10_pinAll ml_X10_332 imX10_pinAll seX10_pinAll rfl rfl (hG.m0 (by decide)) rfl (Nat.le_of_ble_eq_true rfl) rfl (c_pinAll1_2 (r := a) hG hi (by omega) I6 (fun x hx => by simp [am_up, am_upf, upd, hj x hx, hI1, hI2, hI3, hI4, hI5, hI6]) (fun x hx => by simp [am_up, am_upf, upd, hu x hx, hI1, hI2, hI3, hI4, hI5, hI6]) (by simp [am_up, am_upf, upd, hkd, hst, hwl, hct, hlg, hlc, hch, hgv, hc, hen, hnu, ha, hp, hlm, hbk, hhd, hak, hI1, hI2, hI3, hI4, hI5, hI6]) (by simp [am_up, am_upf, upd, hkd, hst, hwl, hct, hlg, hlc, hch, hgv, hc, hen, hnu, ha, hp, hlm, hbk, hhd, hak, hI1, hI2, hI3, hI4, hI5, hI6]) (by simp [am_up, am_upf, upd, hkd, hst, hwl, hct, hlg, hlc, hch, hgv, hc, hen, hnu, ha, hp, hlm, hbk, hhd, hak, hI1, hI2, hI3, hI4, hI5, hI6]) (by simp [am_up, am_upf, upd, hkd, hst, hwl, hct, hlg, hlc, hch, hgv, hc, hen, hnu, ha, hp, hlm, hbk, hhd, hak, hI1, hI2, hI3, hI4, hI5, hI6]) (by simp [am_up, am_upf, upd, hkd, hst, hwl, hct, hlg, hlc, hch, hgv, hc, hen, hnu, ha, hp, hlm, hbk, hhd, hak, hI1, hI2, hI3, hI4, hI5, hI6]) (by simp [am_up, am_upf, upd, hkd, hst, hwl, hct, hlg, hlc, hch, hgv, hc, hen, hnu, ha, hp, hlm, hbk, hhd, hak, hI1, hI2, hI3, hI4, hI5, hI6]) (by simp [am_up, am_upf, upd, hkd, hst, hwl, hct, hlg, hlc, hch, hgv, hc, hen, hnu, ha, hp, hlm, hbk, hhd, hak, hI1, hI2, hI3, hI4, hI5, hI6]) (by simp [am_up, am_upf, upd, hkd, hst, hwl, hct, hlg, hlc, hch, hgv, hc, hen, hnu, ha, hp, hlm, hbk, hhd, hak, hI1, hI2, hI3, hI4, hI5, hI6]) (by simp [am_up, am_upf, upd, hkd, hst, hwl, hct, hlg, hlc, hch, hgv, hc, hen, hnu, ha, hp, hlm, hbk, hhd, hak, hI1, hI2, hI3, hI4, hI5, hI6])) ?_
  refine am_nm (fun I7 hI7 => ?_)
  refine am_if_eq (tgt := 159) dX10_goOn_22 (by decide) (fun _ => ?_) (fun h => absurd h (by decide))
  refine am_vret dX10_goOn_159 rfl ?_
  exact ⟨rfl, (by simp [am_up, am_upf, upd, hkd, hst, hwl, hct, hlg, hlc, hch, hgv, hc, hen, hnu, ha, hp, hlm, hbk, hhd, hak, hI1, hI2, hI3, hI4, hI5, hI6, hI7])⟩
theorem c_goOn7 {G : am_G} (hG : am_ok G) {d : Nat} {i a : Nat} (hi : i < G.2.2.2.1) (hab : a < 128) (I : am_I) (hj : ∀ x, x < G.2.2.2.1 → I x 40 6 = nI 1) (hu : ∀ x, x < G.2.2.2.1 → I x 40 5 = nI 1) (hkd : I i 55 0 = nI 7) (hst : I i 55 5 = nI 1) (hwl : I i 55 11 = nI 0) (hct : I i 44 5 = nI 0) (hlg : I i 44 2 = nI 0) (hlc : I i 48 6 = nI 0) (hch : I 0 15 5 = nI 0) (hgv : I 0 15 7 = nI 0) (hc : I 0 9 3 = nI 0) (hen : I 0 13 1 = nI 0) (hnu : I i 40 0 = nI i) (ha : I i 55 1 = nI a) (hp : I i 52 a = nI 0) (hlm : I i 54 a = nI 0) (hbk : I i 51 a = (-1 : Int32)) (hhd : I i 49 a = nI 0) (hak : I i 50 a = nI 0) : am_C G (d + 4) mX10_goOn [.inr (0, 0), .inr (i, 40)] I (fun r I' => r = none ∧ I' i 55 5 = nI 1) := by
  have hn4 := hG.hi
  have hn2 := hG.lo
  refine am_of (by decide +kernel) hG.nd (Nat.le_of_ble_eq_true rfl) ?_
  refine am_iconst (v := nI 0) dX10_goOn_0 (by decide) ?_
  refine am_istore_n dX10_goOn_1 (by decide) ?_
  refine am_iload_n dX10_goOn_2 rfl ?_
  refine am_sipush (v := nI 274) dX10_goOn_3 (by decide) ?_
  refine am_icmp_ge (tgt := 159) dX10_goOn_6 (by decide) (fun h => absurd h (by decide)) (fun _ => ?_)
  refine am_aload_n dX10_goOn_9 rfl ?_
  refine am_aload_n dX10_goOn_10 rfl ?_
  refine am_callVx (i := 0) (j := 0) (as := [.inr (i, 40)]) (rest := []) dX10_goOn_11 lkX10_mayGoOn ml_X10_329 imX10_mayGoOn seX10_mayGoOn rfl rfl (hG.m0 (by decide)) rfl (Nat.le_of_ble_eq_true rfl) rfl (c_mayGoOn7 hG hi I (by simp [am_up, am_upf, upd, hkd, hst, hwl, hct, hlg, hlc, hch, hgv, hc, hen, hnu, ha, hp, hlm, hbk, hhd, hak]) (by simp [am_up, am_upf, upd, hkd, hst, hwl, hct, hlg, hlc, hch, hgv, hc, hen, hnu, ha, hp, hlm, hbk, hhd, hak]) (by simp [am_up, am_upf, upd, hkd, hst, hwl, hct, hlg, hlc, hch, hgv, hc, hen, hnu, ha, hp, hlm, hbk, hhd, hak]) (by simp [am_up, am_upf, upd, hkd, hst, hwl, hct, hlg, hlc, hch, hgv, hc, hen, hnu, ha, hp, hlm, hbk, hhd, hak]) (by simp [am_up, am_upf, upd, hkd, hst, hwl, hct, hlg, hlc, hch, hgv, hc, hen, hnu, ha, hp, hlm, hbk, hhd, hak])) ?_
  refine am_nm (fun I1 hI1 => ?_)
  refine am_if_eq (tgt := 159) dX10_goOn_14 (by decide) (fun h => absurd h (by decide)) (fun _ => ?_)
  refine am_aload_n dX10_goOn_17 rfl ?_
  refine am_aload_n dX10_goOn_18 rfl ?_
  refine am_callVx (i := 0) (j := 0) (as := [.inr (i, 40)]) (rest := []) dX10_goOn_19 lkX10_pinAll ml_X10_332 imX10_pinAll seX10_pinAll rfl rfl (hG.m0 (by decide)) rfl (Nat.le_of_ble_eq_true rfl) rfl (c_pinAll0 hG hi I1 (by simp [am_up, am_upf, upd, hkd, hst, hwl, hct, hlg, hlc, hch, hgv, hc, hen, hnu, ha, hp, hlm, hbk, hhd, hak, hI1])) ?_
  refine am_if_eq (tgt := 159) dX10_goOn_22 (by decide) (fun h => absurd h (by decide)) (fun _ => ?_)
  refine am_aload_n dX10_goOn_25 rfl ?_
  refine am_get (v := .inr (i, 55)) dX10_goOn_26 fl_10_84 (hG.mn hi (by decide) (by decide)) rfl ?_
  refine am_dup dX10_goOn_29 ?_
  refine am_get (v := .inl (I1 i 55 9)) dX10_goOn_30 fl_10_195 (hG.mn hi (by decide) (by decide)) rfl ?_
  refine am_iconst (v := nI 1) dX10_goOn_33 (by decide) ?_
  refine am_iadd dX10_goOn_34 ?_
  refine am_put (x := (I1 i 55 9) + (nI 1)) dX10_goOn_35 fp_10_195 (hG.mn hi (by decide) (by decide)) (Nat.le_of_ble_eq_true rfl) rfl ?_
  refine am_aload_n dX10_goOn_38 rfl ?_
  refine am_get (v := .inr (0, 15)) dX10_goOn_39 fl_10_52 (hG.m0 (by decide)) rfl ?_
  refine am_aload_n dX10_goOn_42 rfl ?_
  refine am_callVe (i := 0) (j := 15) (as := [.inr (i, 40)]) (rest := []) dX10_goOn_43 lkX9_run ml_X10_335 imX9_run seX9_run rfl rfl (hG.m0 (by decide)) rfl (Nat.le_of_ble_eq_true rfl) rfl (c_run7 (a := a) hG hi (by omega) (am_up I1 i 55 9 ((I1 i 55 9) + (nI 1))) (by simp [am_up, am_upf, upd, hkd, hst, hwl, hct, hlg, hlc, hch, hgv, hc, hen, hnu, ha, hp, hlm, hbk, hhd, hak, hI1]) (by simp [am_up, am_upf, upd, hkd, hst, hwl, hct, hlg, hlc, hch, hgv, hc, hen, hnu, ha, hp, hlm, hbk, hhd, hak, hI1]) (by simp [am_up, am_upf, upd, hkd, hst, hwl, hct, hlg, hlc, hch, hgv, hc, hen, hnu, ha, hp, hlm, hbk, hhd, hak, hI1])) ?_
  refine am_nm (fun I2 hI2 => ?_)
  refine am_aload_n dX10_goOn_46 rfl ?_
  refine am_get (v := .inr (0, 15)) dX10_goOn_47 fl_10_52 (hG.m0 (by decide)) rfl ?_
  refine am_get (v := .inl (I2 0 15 9)) dX10_goOn_50 fl_10_338 (hG.m0 (by decide)) rfl ?_
  refine am_top (show I2 0 15 9 = nI 3 from (by simp [am_up, am_upf, upd, hkd, hst, hwl, hct, hlg, hlc, hch, hgv, hc, hen, hnu, ha, hp, hlm, hbk, hhd, hak, hI1, hI2])) ?_
  refine am_iconst (v := nI 1) dX10_goOn_53 (by decide) ?_
  refine am_icmp_eq (tgt := 64) dX10_goOn_54 (by decide) (fun h => absurd h (by decide)) (fun _ => ?_)
  refine am_aload_n dX10_goOn_57 rfl ?_
  refine am_get (v := .inr (0, 15)) dX10_goOn_58 fl_10_52 (hG.m0 (by decide)) rfl ?_
  refine am_callVe (i := 0) (j := 15) (as := []) (rest := []) dX10_goOn_61 lkX9_undo ml_X10_341 imX9_undo seX9_undo rfl rfl (hG.m0 (by decide)) rfl (Nat.le_of_ble_eq_true rfl) rfl (c_undo0 hG hi I2 (by simp [am_up, am_upf, upd, hkd, hst, hwl, hct, hlg, hlc, hch, hgv, hc, hen, hnu, ha, hp, hlm, hbk, hhd, hak, hI1, hI2]) (by simp [am_up, am_upf, upd, hkd, hst, hwl, hct, hlg, hlc, hch, hgv, hc, hen, hnu, ha, hp, hlm, hbk, hhd, hak, hI1, hI2])) ?_
  refine am_nm (fun I3 hI3 => ?_)
  refine am_aload_n dX10_goOn_64 rfl ?_
  refine am_get (v := .inr (0, 15)) dX10_goOn_65 fl_10_52 (hG.m0 (by decide)) rfl ?_
  refine am_get (v := .inl (I3 0 15 9)) dX10_goOn_68 fl_10_338 (hG.m0 (by decide)) rfl ?_
  refine am_top (show I3 0 15 9 = nI 3 from (by simp [am_up, am_upf, upd, hkd, hst, hwl, hct, hlg, hlc, hch, hgv, hc, hen, hnu, ha, hp, hlm, hbk, hhd, hak, hI1, hI2, hI3])) ?_
  refine am_iconst (v := nI 3) dX10_goOn_71 (by decide) ?_
  refine am_icmp_ne (tgt := 118) dX10_goOn_72 (by decide) (fun h => absurd h (by decide)) (fun _ => ?_)
  refine am_aload_n dX10_goOn_75 rfl ?_
  refine am_get (v := .inr (i, 48)) dX10_goOn_76 fl_10_244 (hG.mn hi (by decide) (by decide)) rfl ?_
  refine am_aload_n dX10_goOn_79 rfl ?_
  refine am_get (v := .inr (0, 15)) dX10_goOn_80 fl_10_52 (hG.m0 (by decide)) rfl ?_
  refine am_get (v := .inl (I3 0 15 11)) dX10_goOn_83 fl_10_344 (hG.m0 (by decide)) rfl ?_
  refine am_top (show I3 0 15 11 = nI a from (by simp [am_up, am_upf, upd, hkd, hst, hwl, hct, hlg, hlc, hch, hgv, hc, hen, hnu, ha, hp, hlm, hbk, hhd, hak, hI1, hI2, hI3])) ?_
  refine am_aload_n dX10_goOn_86 rfl ?_
  refine am_get (v := .inr (0, 15)) dX10_goOn_87 fl_10_52 (hG.m0 (by decide)) rfl ?_
  refine am_get (v := .inl (I3 0 15 12)) dX10_goOn_90 fl_10_347 (hG.m0 (by decide)) rfl ?_
  refine am_top (show I3 0 15 12 = nI 2 from (by simp [am_up, am_upf, upd, hkd, hst, hwl, hct, hlg, hlc, hch, hgv, hc, hen, hnu, ha, hp, hlm, hbk, hhd, hak, hI1, hI2, hI3])) ?_
  refine am_callVe (i := i) (j := 48) (as := [.inl (nI a), .inl (nI 2)]) (rest := []) dX10_goOn_93 lkX4_list ml_X10_350 imX4_list seX4_list rfl rfl (hG.mn hi (by decide) (by decide)) rfl (Nat.le_of_ble_eq_true rfl) rfl (c_list0 hG hi (by omega) (nI 2) I3 (by simp [am_up, am_upf, upd, hkd, hst, hwl, hct, hlg, hlc, hch, hgv, hc, hen, hnu, ha, hp, hlm, hbk, hhd, hak, hI1, hI2, hI3]) (by simp [am_up, am_upf, upd, hkd, hst, hwl, hct, hlg, hlc, hch, hgv, hc, hen, hnu, ha, hp, hlm, hbk, hhd, hak, hI1, hI2, hI3])) ?_
  refine am_nm (fun I4 hI4 => ?_)
  refine am_aload_n dX10_goOn_96 rfl ?_
  refine am_get (v := .inr (i, 55)) dX10_goOn_97 fl_10_84 (hG.mn hi (by decide) (by decide)) rfl ?_
  refine am_aload_n dX10_goOn_100 rfl ?_
  refine am_get (v := .inr (i, 48)) dX10_goOn_101 fl_10_244 (hG.mn hi (by decide) (by decide)) rfl ?_
  refine am_get (v := .inl (I4 i 48 6)) dX10_goOn_104 fl_10_353 (hG.mn hi (by decide) (by decide)) rfl ?_
  refine am_top (show I4 i 48 6 = nI 1 from (by simp [am_up, am_upf, upd, hkd, hst, hwl, hct, hlg, hlc, hch, hgv, hc, hen, hnu, ha, hp, hlm, hbk, hhd, hak, hI1, hI2, hI3, hI4])) ?_
  refine am_put (x := nI 1) dX10_goOn_107 fp_10_198 (hG.mn hi (by decide) (by decide)) (Nat.le_of_ble_eq_true rfl) rfl ?_
  refine am_aload_n dX10_goOn_110 rfl ?_
  refine am_aload_n dX10_goOn_111 rfl ?_
  refine am_callVe (i := 0) (j := 0) (as := [.inr (i, 40)]) (rest := []) dX10_goOn_112 lkX10_unpinAll ml_X10_356 imX10_unpinAll seX10_unpinAll rfl rfl (hG.m0 (by decide)) rfl (Nat.le_of_ble_eq_true rfl) rfl (c_unpinAll1 (r := a) hG hi (by omega) (am_up I4 i 55 10 (nI 1)) (by simp [am_up, am_upf, upd, hkd, hst, hwl, hct, hlg, hlc, hch, hgv, hc, hen, hnu, ha, hp, hlm, hbk, hhd, hak, hI1, hI2, hI3, hI4]) (by simp [am_up, am_upf, upd, hkd, hst, hwl, hct, hlg, hlc, hch, hgv, hc, hen, hnu, ha, hp, hlm, hbk, hhd, hak, hI1, hI2, hI3, hI4]) (by simp [am_up, am_upf, upd, hkd, hst, hwl, hct, hlg, hlc, hch, hgv, hc, hen, hnu, ha, hp, hlm, hbk, hhd, hak, hI1, hI2, hI3, hI4])) ?_
  refine am_nm (fun I5 hI5 => ?_)
  refine am_goto (tgt := 153) dX10_goOn_115 (by decide) ?_
  refine am_iinc (v := nI 1) dX10_goOn_153 rfl (by decide) ?_
  refine am_goto (tgt := 2) dX10_goOn_156 (by decide) ?_
  refine am_iload_n dX10_goOn_2 rfl ?_
  refine am_sipush (v := nI 274) dX10_goOn_3 (by decide) ?_
  refine am_icmp_ge (tgt := 159) dX10_goOn_6 (by decide) (fun h => absurd h (by decide)) (fun _ => ?_)
  refine am_aload_n dX10_goOn_9 rfl ?_
  refine am_aload_n dX10_goOn_10 rfl ?_
  refine am_callVx (i := 0) (j := 0) (as := [.inr (i, 40)]) (rest := []) dX10_goOn_11 lkX10_mayGoOn ml_X10_329 imX10_mayGoOn seX10_mayGoOn rfl rfl (hG.m0 (by decide)) rfl (Nat.le_of_ble_eq_true rfl) rfl (c_mayGoOn7 hG hi I5 (by simp [am_up, am_upf, upd, hkd, hst, hwl, hct, hlg, hlc, hch, hgv, hc, hen, hnu, ha, hp, hlm, hbk, hhd, hak, hI1, hI2, hI3, hI4, hI5]) (by simp [am_up, am_upf, upd, hkd, hst, hwl, hct, hlg, hlc, hch, hgv, hc, hen, hnu, ha, hp, hlm, hbk, hhd, hak, hI1, hI2, hI3, hI4, hI5]) (by simp [am_up, am_upf, upd, hkd, hst, hwl, hct, hlg, hlc, hch, hgv, hc, hen, hnu, ha, hp, hlm, hbk, hhd, hak, hI1, hI2, hI3, hI4, hI5]) (by simp [am_up, am_upf, upd, hkd, hst, hwl, hct, hlg, hlc, hch, hgv, hc, hen, hnu, ha, hp, hlm, hbk, hhd, hak, hI1, hI2, hI3, hI4, hI5]) (by simp [am_up, am_upf, upd, hkd, hst, hwl, hct, hlg, hlc, hch, hgv, hc, hen, hnu, ha, hp, hlm, hbk, hhd, hak, hI1, hI2, hI3, hI4, hI5])) ?_
  refine am_nm (fun I6 hI6 => ?_)
  refine am_if_eq (tgt := 159) dX10_goOn_14 (by decide) (fun h => absurd h (by decide)) (fun _ => ?_)
  refine am_aload_n dX10_goOn_17 rfl ?_
  refine am_aload_n dX10_goOn_18 rfl ?_
  refine am_callVx (i := 0) (j := 0) (as := [.inr (i, 40)]) (rest := []) dX10_goOn_19 lkX10_pinAll ml_X10_332 imX10_pinAll seX10_pinAll rfl rfl (hG.m0 (by decide)) rfl (Nat.le_of_ble_eq_true rfl) rfl (c_pinAll1_2 (r := a) hG hi (by omega) I6 (fun x hx => by simp [am_up, am_upf, upd, hj x hx, hI1, hI2, hI3, hI4, hI5, hI6]) (fun x hx => by simp [am_up, am_upf, upd, hu x hx, hI1, hI2, hI3, hI4, hI5, hI6]) (by simp [am_up, am_upf, upd, hkd, hst, hwl, hct, hlg, hlc, hch, hgv, hc, hen, hnu, ha, hp, hlm, hbk, hhd, hak, hI1, hI2, hI3, hI4, hI5, hI6]) (by simp [am_up, am_upf, upd, hkd, hst, hwl, hct, hlg, hlc, hch, hgv, hc, hen, hnu, ha, hp, hlm, hbk, hhd, hak, hI1, hI2, hI3, hI4, hI5, hI6]) (by simp [am_up, am_upf, upd, hkd, hst, hwl, hct, hlg, hlc, hch, hgv, hc, hen, hnu, ha, hp, hlm, hbk, hhd, hak, hI1, hI2, hI3, hI4, hI5, hI6]) (by simp [am_up, am_upf, upd, hkd, hst, hwl, hct, hlg, hlc, hch, hgv, hc, hen, hnu, ha, hp, hlm, hbk, hhd, hak, hI1, hI2, hI3, hI4, hI5, hI6]) (by simp [am_up, am_upf, upd, hkd, hst, hwl, hct, hlg, hlc, hch, hgv, hc, hen, hnu, ha, hp, hlm, hbk, hhd, hak, hI1, hI2, hI3, hI4, hI5, hI6]) (by simp [am_up, am_upf, upd, hkd, hst, hwl, hct, hlg, hlc, hch, hgv, hc, hen, hnu, ha, hp, hlm, hbk, hhd, hak, hI1, hI2, hI3, hI4, hI5, hI6]) (by simp [am_up, am_upf, upd, hkd, hst, hwl, hct, hlg, hlc, hch, hgv, hc, hen, hnu, ha, hp, hlm, hbk, hhd, hak, hI1, hI2, hI3, hI4, hI5, hI6]) (by simp [am_up, am_upf, upd, hkd, hst, hwl, hct, hlg, hlc, hch, hgv, hc, hen, hnu, ha, hp, hlm, hbk, hhd, hak, hI1, hI2, hI3, hI4, hI5, hI6]) (by simp [am_up, am_upf, upd, hkd, hst, hwl, hct, hlg, hlc, hch, hgv, hc, hen, hnu, ha, hp, hlm, hbk, hhd, hak, hI1, hI2, hI3, hI4, hI5, hI6])) ?_
  refine am_nm (fun I7 hI7 => ?_)
  refine am_if_eq (tgt := 159) dX10_goOn_22 (by decide) (fun _ => ?_) (fun h => absurd h (by decide))
  refine am_vret dX10_goOn_159 rfl ?_
  exact ⟨rfl, (by simp [am_up, am_upf, upd, hkd, hst, hwl, hct, hlg, hlc, hch, hgv, hc, hen, hnu, ha, hp, hlm, hbk, hhd, hak, hI1, hI2, hI3, hI4, hI5, hI6, hI7])⟩
theorem c_goOn8 {G : am_G} (hG : am_ok G) {d : Nat} {i a : Nat} (hi : i < G.2.2.2.1) (hab : a < 128) (I : am_I) (hj : ∀ x, x < G.2.2.2.1 → I x 40 6 = nI 1) (hu : ∀ x, x < G.2.2.2.1 → I x 40 5 = nI 1) (hkd : I i 55 0 = nI 8) (hst : I i 55 5 = nI 1) (hwl : I i 55 11 = nI 0) (hct : I i 44 5 = nI 0) (hlg : I i 44 2 = nI 0) (hlc : I i 48 6 = nI 0) (hch : I 0 15 5 = nI 0) (hgv : I 0 15 7 = nI 0) (hc : I 0 9 3 = nI 0) (hen : I 0 13 1 = nI 0) (hnu : I i 40 0 = nI i) (ha : I i 55 1 = nI a) (hp : I i 52 a = nI 0) (hlm : I i 54 a = nI 0) (hbk : I i 51 a = (-1 : Int32)) (hhd : I i 49 a = nI 0) (hak : I i 50 a = nI 0) : am_C G (d + 4) mX10_goOn [.inr (0, 0), .inr (i, 40)] I (fun r I' => r = none ∧ I' i 55 5 = nI 1) := by
  have hn4 := hG.hi
  have hn2 := hG.lo
  refine am_of (by decide +kernel) hG.nd (Nat.le_of_ble_eq_true rfl) ?_
  refine am_iconst (v := nI 0) dX10_goOn_0 (by decide) ?_
  refine am_istore_n dX10_goOn_1 (by decide) ?_
  refine am_iload_n dX10_goOn_2 rfl ?_
  refine am_sipush (v := nI 274) dX10_goOn_3 (by decide) ?_
  refine am_icmp_ge (tgt := 159) dX10_goOn_6 (by decide) (fun h => absurd h (by decide)) (fun _ => ?_)
  refine am_aload_n dX10_goOn_9 rfl ?_
  refine am_aload_n dX10_goOn_10 rfl ?_
  refine am_callVx (i := 0) (j := 0) (as := [.inr (i, 40)]) (rest := []) dX10_goOn_11 lkX10_mayGoOn ml_X10_329 imX10_mayGoOn seX10_mayGoOn rfl rfl (hG.m0 (by decide)) rfl (Nat.le_of_ble_eq_true rfl) rfl (c_mayGoOn8 hG hi I (by simp [am_up, am_upf, upd, hkd, hst, hwl, hct, hlg, hlc, hch, hgv, hc, hen, hnu, ha, hp, hlm, hbk, hhd, hak]) (by simp [am_up, am_upf, upd, hkd, hst, hwl, hct, hlg, hlc, hch, hgv, hc, hen, hnu, ha, hp, hlm, hbk, hhd, hak]) (by simp [am_up, am_upf, upd, hkd, hst, hwl, hct, hlg, hlc, hch, hgv, hc, hen, hnu, ha, hp, hlm, hbk, hhd, hak]) (by simp [am_up, am_upf, upd, hkd, hst, hwl, hct, hlg, hlc, hch, hgv, hc, hen, hnu, ha, hp, hlm, hbk, hhd, hak]) (by simp [am_up, am_upf, upd, hkd, hst, hwl, hct, hlg, hlc, hch, hgv, hc, hen, hnu, ha, hp, hlm, hbk, hhd, hak])) ?_
  refine am_nm (fun I1 hI1 => ?_)
  refine am_if_eq (tgt := 159) dX10_goOn_14 (by decide) (fun h => absurd h (by decide)) (fun _ => ?_)
  refine am_aload_n dX10_goOn_17 rfl ?_
  refine am_aload_n dX10_goOn_18 rfl ?_
  refine am_callVx (i := 0) (j := 0) (as := [.inr (i, 40)]) (rest := []) dX10_goOn_19 lkX10_pinAll ml_X10_332 imX10_pinAll seX10_pinAll rfl rfl (hG.m0 (by decide)) rfl (Nat.le_of_ble_eq_true rfl) rfl (c_pinAll0 hG hi I1 (by simp [am_up, am_upf, upd, hkd, hst, hwl, hct, hlg, hlc, hch, hgv, hc, hen, hnu, ha, hp, hlm, hbk, hhd, hak, hI1])) ?_
  refine am_if_eq (tgt := 159) dX10_goOn_22 (by decide) (fun h => absurd h (by decide)) (fun _ => ?_)
  refine am_aload_n dX10_goOn_25 rfl ?_
  refine am_get (v := .inr (i, 55)) dX10_goOn_26 fl_10_84 (hG.mn hi (by decide) (by decide)) rfl ?_
  refine am_dup dX10_goOn_29 ?_
  refine am_get (v := .inl (I1 i 55 9)) dX10_goOn_30 fl_10_195 (hG.mn hi (by decide) (by decide)) rfl ?_
  refine am_iconst (v := nI 1) dX10_goOn_33 (by decide) ?_
  refine am_iadd dX10_goOn_34 ?_
  refine am_put (x := (I1 i 55 9) + (nI 1)) dX10_goOn_35 fp_10_195 (hG.mn hi (by decide) (by decide)) (Nat.le_of_ble_eq_true rfl) rfl ?_
  refine am_aload_n dX10_goOn_38 rfl ?_
  refine am_get (v := .inr (0, 15)) dX10_goOn_39 fl_10_52 (hG.m0 (by decide)) rfl ?_
  refine am_aload_n dX10_goOn_42 rfl ?_
  refine am_callVe (i := 0) (j := 15) (as := [.inr (i, 40)]) (rest := []) dX10_goOn_43 lkX9_run ml_X10_335 imX9_run seX9_run rfl rfl (hG.m0 (by decide)) rfl (Nat.le_of_ble_eq_true rfl) rfl (c_run8 (a := a) hG hi (by omega) (am_up I1 i 55 9 ((I1 i 55 9) + (nI 1))) (by simp [am_up, am_upf, upd, hkd, hst, hwl, hct, hlg, hlc, hch, hgv, hc, hen, hnu, ha, hp, hlm, hbk, hhd, hak, hI1]) (by simp [am_up, am_upf, upd, hkd, hst, hwl, hct, hlg, hlc, hch, hgv, hc, hen, hnu, ha, hp, hlm, hbk, hhd, hak, hI1]) (by simp [am_up, am_upf, upd, hkd, hst, hwl, hct, hlg, hlc, hch, hgv, hc, hen, hnu, ha, hp, hlm, hbk, hhd, hak, hI1])) ?_
  refine am_nm (fun I2 hI2 => ?_)
  refine am_aload_n dX10_goOn_46 rfl ?_
  refine am_get (v := .inr (0, 15)) dX10_goOn_47 fl_10_52 (hG.m0 (by decide)) rfl ?_
  refine am_get (v := .inl (I2 0 15 9)) dX10_goOn_50 fl_10_338 (hG.m0 (by decide)) rfl ?_
  refine am_top (show I2 0 15 9 = nI 3 from (by simp [am_up, am_upf, upd, hkd, hst, hwl, hct, hlg, hlc, hch, hgv, hc, hen, hnu, ha, hp, hlm, hbk, hhd, hak, hI1, hI2])) ?_
  refine am_iconst (v := nI 1) dX10_goOn_53 (by decide) ?_
  refine am_icmp_eq (tgt := 64) dX10_goOn_54 (by decide) (fun h => absurd h (by decide)) (fun _ => ?_)
  refine am_aload_n dX10_goOn_57 rfl ?_
  refine am_get (v := .inr (0, 15)) dX10_goOn_58 fl_10_52 (hG.m0 (by decide)) rfl ?_
  refine am_callVe (i := 0) (j := 15) (as := []) (rest := []) dX10_goOn_61 lkX9_undo ml_X10_341 imX9_undo seX9_undo rfl rfl (hG.m0 (by decide)) rfl (Nat.le_of_ble_eq_true rfl) rfl (c_undo0 hG hi I2 (by simp [am_up, am_upf, upd, hkd, hst, hwl, hct, hlg, hlc, hch, hgv, hc, hen, hnu, ha, hp, hlm, hbk, hhd, hak, hI1, hI2]) (by simp [am_up, am_upf, upd, hkd, hst, hwl, hct, hlg, hlc, hch, hgv, hc, hen, hnu, ha, hp, hlm, hbk, hhd, hak, hI1, hI2])) ?_
  refine am_nm (fun I3 hI3 => ?_)
  refine am_aload_n dX10_goOn_64 rfl ?_
  refine am_get (v := .inr (0, 15)) dX10_goOn_65 fl_10_52 (hG.m0 (by decide)) rfl ?_
  refine am_get (v := .inl (I3 0 15 9)) dX10_goOn_68 fl_10_338 (hG.m0 (by decide)) rfl ?_
  refine am_top (show I3 0 15 9 = nI 3 from (by simp [am_up, am_upf, upd, hkd, hst, hwl, hct, hlg, hlc, hch, hgv, hc, hen, hnu, ha, hp, hlm, hbk, hhd, hak, hI1, hI2, hI3])) ?_
  refine am_iconst (v := nI 3) dX10_goOn_71 (by decide) ?_
  refine am_icmp_ne (tgt := 118) dX10_goOn_72 (by decide) (fun h => absurd h (by decide)) (fun _ => ?_)
  refine am_aload_n dX10_goOn_75 rfl ?_
  refine am_get (v := .inr (i, 48)) dX10_goOn_76 fl_10_244 (hG.mn hi (by decide) (by decide)) rfl ?_
  refine am_aload_n dX10_goOn_79 rfl ?_
  refine am_get (v := .inr (0, 15)) dX10_goOn_80 fl_10_52 (hG.m0 (by decide)) rfl ?_
  refine am_get (v := .inl (I3 0 15 11)) dX10_goOn_83 fl_10_344 (hG.m0 (by decide)) rfl ?_
  refine am_top (show I3 0 15 11 = nI a from (by simp [am_up, am_upf, upd, hkd, hst, hwl, hct, hlg, hlc, hch, hgv, hc, hen, hnu, ha, hp, hlm, hbk, hhd, hak, hI1, hI2, hI3])) ?_
  refine am_aload_n dX10_goOn_86 rfl ?_
  refine am_get (v := .inr (0, 15)) dX10_goOn_87 fl_10_52 (hG.m0 (by decide)) rfl ?_
  refine am_get (v := .inl (I3 0 15 12)) dX10_goOn_90 fl_10_347 (hG.m0 (by decide)) rfl ?_
  refine am_top (show I3 0 15 12 = nI 1 from (by simp [am_up, am_upf, upd, hkd, hst, hwl, hct, hlg, hlc, hch, hgv, hc, hen, hnu, ha, hp, hlm, hbk, hhd, hak, hI1, hI2, hI3])) ?_
  refine am_callVe (i := i) (j := 48) (as := [.inl (nI a), .inl (nI 1)]) (rest := []) dX10_goOn_93 lkX4_list ml_X10_350 imX4_list seX4_list rfl rfl (hG.mn hi (by decide) (by decide)) rfl (Nat.le_of_ble_eq_true rfl) rfl (c_list0 hG hi (by omega) (nI 1) I3 (by simp [am_up, am_upf, upd, hkd, hst, hwl, hct, hlg, hlc, hch, hgv, hc, hen, hnu, ha, hp, hlm, hbk, hhd, hak, hI1, hI2, hI3]) (by simp [am_up, am_upf, upd, hkd, hst, hwl, hct, hlg, hlc, hch, hgv, hc, hen, hnu, ha, hp, hlm, hbk, hhd, hak, hI1, hI2, hI3])) ?_
  refine am_nm (fun I4 hI4 => ?_)
  refine am_aload_n dX10_goOn_96 rfl ?_
  refine am_get (v := .inr (i, 55)) dX10_goOn_97 fl_10_84 (hG.mn hi (by decide) (by decide)) rfl ?_
  refine am_aload_n dX10_goOn_100 rfl ?_
  refine am_get (v := .inr (i, 48)) dX10_goOn_101 fl_10_244 (hG.mn hi (by decide) (by decide)) rfl ?_
  refine am_get (v := .inl (I4 i 48 6)) dX10_goOn_104 fl_10_353 (hG.mn hi (by decide) (by decide)) rfl ?_
  refine am_top (show I4 i 48 6 = nI 1 from (by simp [am_up, am_upf, upd, hkd, hst, hwl, hct, hlg, hlc, hch, hgv, hc, hen, hnu, ha, hp, hlm, hbk, hhd, hak, hI1, hI2, hI3, hI4])) ?_
  refine am_put (x := nI 1) dX10_goOn_107 fp_10_198 (hG.mn hi (by decide) (by decide)) (Nat.le_of_ble_eq_true rfl) rfl ?_
  refine am_aload_n dX10_goOn_110 rfl ?_
  refine am_aload_n dX10_goOn_111 rfl ?_
  refine am_callVe (i := 0) (j := 0) (as := [.inr (i, 40)]) (rest := []) dX10_goOn_112 lkX10_unpinAll ml_X10_356 imX10_unpinAll seX10_unpinAll rfl rfl (hG.m0 (by decide)) rfl (Nat.le_of_ble_eq_true rfl) rfl (c_unpinAll1 (r := a) hG hi (by omega) (am_up I4 i 55 10 (nI 1)) (by simp [am_up, am_upf, upd, hkd, hst, hwl, hct, hlg, hlc, hch, hgv, hc, hen, hnu, ha, hp, hlm, hbk, hhd, hak, hI1, hI2, hI3, hI4]) (by simp [am_up, am_upf, upd, hkd, hst, hwl, hct, hlg, hlc, hch, hgv, hc, hen, hnu, ha, hp, hlm, hbk, hhd, hak, hI1, hI2, hI3, hI4]) (by simp [am_up, am_upf, upd, hkd, hst, hwl, hct, hlg, hlc, hch, hgv, hc, hen, hnu, ha, hp, hlm, hbk, hhd, hak, hI1, hI2, hI3, hI4])) ?_
  refine am_nm (fun I5 hI5 => ?_)
  refine am_goto (tgt := 153) dX10_goOn_115 (by decide) ?_
  refine am_iinc (v := nI 1) dX10_goOn_153 rfl (by decide) ?_
  refine am_goto (tgt := 2) dX10_goOn_156 (by decide) ?_
  refine am_iload_n dX10_goOn_2 rfl ?_
  refine am_sipush (v := nI 274) dX10_goOn_3 (by decide) ?_
  refine am_icmp_ge (tgt := 159) dX10_goOn_6 (by decide) (fun h => absurd h (by decide)) (fun _ => ?_)
  refine am_aload_n dX10_goOn_9 rfl ?_
  refine am_aload_n dX10_goOn_10 rfl ?_
  refine am_callVx (i := 0) (j := 0) (as := [.inr (i, 40)]) (rest := []) dX10_goOn_11 lkX10_mayGoOn ml_X10_329 imX10_mayGoOn seX10_mayGoOn rfl rfl (hG.m0 (by decide)) rfl (Nat.le_of_ble_eq_true rfl) rfl (c_mayGoOn8 hG hi I5 (by simp [am_up, am_upf, upd, hkd, hst, hwl, hct, hlg, hlc, hch, hgv, hc, hen, hnu, ha, hp, hlm, hbk, hhd, hak, hI1, hI2, hI3, hI4, hI5]) (by simp [am_up, am_upf, upd, hkd, hst, hwl, hct, hlg, hlc, hch, hgv, hc, hen, hnu, ha, hp, hlm, hbk, hhd, hak, hI1, hI2, hI3, hI4, hI5]) (by simp [am_up, am_upf, upd, hkd, hst, hwl, hct, hlg, hlc, hch, hgv, hc, hen, hnu, ha, hp, hlm, hbk, hhd, hak, hI1, hI2, hI3, hI4, hI5]) (by simp [am_up, am_upf, upd, hkd, hst, hwl, hct, hlg, hlc, hch, hgv, hc, hen, hnu, ha, hp, hlm, hbk, hhd, hak, hI1, hI2, hI3, hI4, hI5]) (by simp [am_up, am_upf, upd, hkd, hst, hwl, hct, hlg, hlc, hch, hgv, hc, hen, hnu, ha, hp, hlm, hbk, hhd, hak, hI1, hI2, hI3, hI4, hI5])) ?_
  refine am_nm (fun I6 hI6 => ?_)
  refine am_if_eq (tgt := 159) dX10_goOn_14 (by decide) (fun h => absurd h (by decide)) (fun _ => ?_)
  refine am_aload_n dX10_goOn_17 rfl ?_
  refine am_aload_n dX10_goOn_18 rfl ?_
  refine am_callVx (i := 0) (j := 0) (as := [.inr (i, 40)]) (rest := []) dX10_goOn_19 lkX10_pinAll ml_X10_332 imX10_pinAll seX10_pinAll rfl rfl (hG.m0 (by decide)) rfl (Nat.le_of_ble_eq_true rfl) rfl (c_pinAll1_1 (r := a) hG hi (by omega) I6 (fun x hx => by simp [am_up, am_upf, upd, hj x hx, hI1, hI2, hI3, hI4, hI5, hI6]) (fun x hx => by simp [am_up, am_upf, upd, hu x hx, hI1, hI2, hI3, hI4, hI5, hI6]) (by simp [am_up, am_upf, upd, hkd, hst, hwl, hct, hlg, hlc, hch, hgv, hc, hen, hnu, ha, hp, hlm, hbk, hhd, hak, hI1, hI2, hI3, hI4, hI5, hI6]) (by simp [am_up, am_upf, upd, hkd, hst, hwl, hct, hlg, hlc, hch, hgv, hc, hen, hnu, ha, hp, hlm, hbk, hhd, hak, hI1, hI2, hI3, hI4, hI5, hI6]) (by simp [am_up, am_upf, upd, hkd, hst, hwl, hct, hlg, hlc, hch, hgv, hc, hen, hnu, ha, hp, hlm, hbk, hhd, hak, hI1, hI2, hI3, hI4, hI5, hI6]) (by simp [am_up, am_upf, upd, hkd, hst, hwl, hct, hlg, hlc, hch, hgv, hc, hen, hnu, ha, hp, hlm, hbk, hhd, hak, hI1, hI2, hI3, hI4, hI5, hI6]) (by simp [am_up, am_upf, upd, hkd, hst, hwl, hct, hlg, hlc, hch, hgv, hc, hen, hnu, ha, hp, hlm, hbk, hhd, hak, hI1, hI2, hI3, hI4, hI5, hI6]) (by simp [am_up, am_upf, upd, hkd, hst, hwl, hct, hlg, hlc, hch, hgv, hc, hen, hnu, ha, hp, hlm, hbk, hhd, hak, hI1, hI2, hI3, hI4, hI5, hI6]) (by simp [am_up, am_upf, upd, hkd, hst, hwl, hct, hlg, hlc, hch, hgv, hc, hen, hnu, ha, hp, hlm, hbk, hhd, hak, hI1, hI2, hI3, hI4, hI5, hI6]) (by simp [am_up, am_upf, upd, hkd, hst, hwl, hct, hlg, hlc, hch, hgv, hc, hen, hnu, ha, hp, hlm, hbk, hhd, hak, hI1, hI2, hI3, hI4, hI5, hI6]) (by simp [am_up, am_upf, upd, hkd, hst, hwl, hct, hlg, hlc, hch, hgv, hc, hen, hnu, ha, hp, hlm, hbk, hhd, hak, hI1, hI2, hI3, hI4, hI5, hI6])) ?_
  refine am_nm (fun I7 hI7 => ?_)
  refine am_if_eq (tgt := 159) dX10_goOn_22 (by decide) (fun _ => ?_) (fun h => absurd h (by decide))
  refine am_vret dX10_goOn_159 rfl ?_
  exact ⟨rfl, (by simp [am_up, am_upf, upd, hkd, hst, hwl, hct, hlg, hlc, hch, hgv, hc, hen, hnu, ha, hp, hlm, hbk, hhd, hak, hI1, hI2, hI3, hI4, hI5, hI6, hI7])⟩
theorem c_goOn9 {G : am_G} (hG : am_ok G) {d : Nat} {i a : Nat} (hi : i < G.2.2.2.1) (hab : a < 128) (I : am_I) (hj : ∀ x, x < G.2.2.2.1 → I x 40 6 = nI 1) (hu : ∀ x, x < G.2.2.2.1 → I x 40 5 = nI 1) (hkd : I i 55 0 = nI 9) (hst : I i 55 5 = nI 1) (hwl : I i 55 11 = nI 0) (hct : I i 44 5 = nI 0) (hlg : I i 44 2 = nI 0) (hlc : I i 48 6 = nI 0) (hch : I 0 15 5 = nI 0) (hgv : I 0 15 7 = nI 0) (hc : I 0 9 3 = nI 0) (hen : I 0 13 1 = nI 0) (hnu : I i 40 0 = nI i) (ha : I i 55 1 = nI a) (hp : I i 52 a = nI 0) (hlm : I i 54 a = nI 0) (hbk : I i 51 a = (-1 : Int32)) (hhd : I i 49 a = nI 0) (hak : I i 50 a = nI 0) : am_C G (d + 4) mX10_goOn [.inr (0, 0), .inr (i, 40)] I (fun r I' => r = none ∧ I' i 55 5 = nI 1) := by
  have hn4 := hG.hi
  have hn2 := hG.lo
  refine am_of (by decide +kernel) hG.nd (Nat.le_of_ble_eq_true rfl) ?_
  refine am_iconst (v := nI 0) dX10_goOn_0 (by decide) ?_
  refine am_istore_n dX10_goOn_1 (by decide) ?_
  refine am_iload_n dX10_goOn_2 rfl ?_
  refine am_sipush (v := nI 274) dX10_goOn_3 (by decide) ?_
  refine am_icmp_ge (tgt := 159) dX10_goOn_6 (by decide) (fun h => absurd h (by decide)) (fun _ => ?_)
  refine am_aload_n dX10_goOn_9 rfl ?_
  refine am_aload_n dX10_goOn_10 rfl ?_
  refine am_callVx (i := 0) (j := 0) (as := [.inr (i, 40)]) (rest := []) dX10_goOn_11 lkX10_mayGoOn ml_X10_329 imX10_mayGoOn seX10_mayGoOn rfl rfl (hG.m0 (by decide)) rfl (Nat.le_of_ble_eq_true rfl) rfl (c_mayGoOn9 hG hi I (by simp [am_up, am_upf, upd, hkd, hst, hwl, hct, hlg, hlc, hch, hgv, hc, hen, hnu, ha, hp, hlm, hbk, hhd, hak]) (by simp [am_up, am_upf, upd, hkd, hst, hwl, hct, hlg, hlc, hch, hgv, hc, hen, hnu, ha, hp, hlm, hbk, hhd, hak]) (by simp [am_up, am_upf, upd, hkd, hst, hwl, hct, hlg, hlc, hch, hgv, hc, hen, hnu, ha, hp, hlm, hbk, hhd, hak]) (by simp [am_up, am_upf, upd, hkd, hst, hwl, hct, hlg, hlc, hch, hgv, hc, hen, hnu, ha, hp, hlm, hbk, hhd, hak]) (by simp [am_up, am_upf, upd, hkd, hst, hwl, hct, hlg, hlc, hch, hgv, hc, hen, hnu, ha, hp, hlm, hbk, hhd, hak])) ?_
  refine am_nm (fun I1 hI1 => ?_)
  refine am_if_eq (tgt := 159) dX10_goOn_14 (by decide) (fun h => absurd h (by decide)) (fun _ => ?_)
  refine am_aload_n dX10_goOn_17 rfl ?_
  refine am_aload_n dX10_goOn_18 rfl ?_
  refine am_callVx (i := 0) (j := 0) (as := [.inr (i, 40)]) (rest := []) dX10_goOn_19 lkX10_pinAll ml_X10_332 imX10_pinAll seX10_pinAll rfl rfl (hG.m0 (by decide)) rfl (Nat.le_of_ble_eq_true rfl) rfl (c_pinAll0 hG hi I1 (by simp [am_up, am_upf, upd, hkd, hst, hwl, hct, hlg, hlc, hch, hgv, hc, hen, hnu, ha, hp, hlm, hbk, hhd, hak, hI1])) ?_
  refine am_if_eq (tgt := 159) dX10_goOn_22 (by decide) (fun h => absurd h (by decide)) (fun _ => ?_)
  refine am_aload_n dX10_goOn_25 rfl ?_
  refine am_get (v := .inr (i, 55)) dX10_goOn_26 fl_10_84 (hG.mn hi (by decide) (by decide)) rfl ?_
  refine am_dup dX10_goOn_29 ?_
  refine am_get (v := .inl (I1 i 55 9)) dX10_goOn_30 fl_10_195 (hG.mn hi (by decide) (by decide)) rfl ?_
  refine am_iconst (v := nI 1) dX10_goOn_33 (by decide) ?_
  refine am_iadd dX10_goOn_34 ?_
  refine am_put (x := (I1 i 55 9) + (nI 1)) dX10_goOn_35 fp_10_195 (hG.mn hi (by decide) (by decide)) (Nat.le_of_ble_eq_true rfl) rfl ?_
  refine am_aload_n dX10_goOn_38 rfl ?_
  refine am_get (v := .inr (0, 15)) dX10_goOn_39 fl_10_52 (hG.m0 (by decide)) rfl ?_
  refine am_aload_n dX10_goOn_42 rfl ?_
  refine am_callVe (i := 0) (j := 15) (as := [.inr (i, 40)]) (rest := []) dX10_goOn_43 lkX9_run ml_X10_335 imX9_run seX9_run rfl rfl (hG.m0 (by decide)) rfl (Nat.le_of_ble_eq_true rfl) rfl (c_run9 (a := a) hG hi (by omega) (am_up I1 i 55 9 ((I1 i 55 9) + (nI 1))) (by simp [am_up, am_upf, upd, hkd, hst, hwl, hct, hlg, hlc, hch, hgv, hc, hen, hnu, ha, hp, hlm, hbk, hhd, hak, hI1]) (by simp [am_up, am_upf, upd, hkd, hst, hwl, hct, hlg, hlc, hch, hgv, hc, hen, hnu, ha, hp, hlm, hbk, hhd, hak, hI1]) (by simp [am_up, am_upf, upd, hkd, hst, hwl, hct, hlg, hlc, hch, hgv, hc, hen, hnu, ha, hp, hlm, hbk, hhd, hak, hI1])) ?_
  refine am_nm (fun I2 hI2 => ?_)
  refine am_aload_n dX10_goOn_46 rfl ?_
  refine am_get (v := .inr (0, 15)) dX10_goOn_47 fl_10_52 (hG.m0 (by decide)) rfl ?_
  refine am_get (v := .inl (I2 0 15 9)) dX10_goOn_50 fl_10_338 (hG.m0 (by decide)) rfl ?_
  refine am_top (show I2 0 15 9 = nI 3 from (by simp [am_up, am_upf, upd, hkd, hst, hwl, hct, hlg, hlc, hch, hgv, hc, hen, hnu, ha, hp, hlm, hbk, hhd, hak, hI1, hI2])) ?_
  refine am_iconst (v := nI 1) dX10_goOn_53 (by decide) ?_
  refine am_icmp_eq (tgt := 64) dX10_goOn_54 (by decide) (fun h => absurd h (by decide)) (fun _ => ?_)
  refine am_aload_n dX10_goOn_57 rfl ?_
  refine am_get (v := .inr (0, 15)) dX10_goOn_58 fl_10_52 (hG.m0 (by decide)) rfl ?_
  refine am_callVe (i := 0) (j := 15) (as := []) (rest := []) dX10_goOn_61 lkX9_undo ml_X10_341 imX9_undo seX9_undo rfl rfl (hG.m0 (by decide)) rfl (Nat.le_of_ble_eq_true rfl) rfl (c_undo0 hG hi I2 (by simp [am_up, am_upf, upd, hkd, hst, hwl, hct, hlg, hlc, hch, hgv, hc, hen, hnu, ha, hp, hlm, hbk, hhd, hak, hI1, hI2]) (by simp [am_up, am_upf, upd, hkd, hst, hwl, hct, hlg, hlc, hch, hgv, hc, hen, hnu, ha, hp, hlm, hbk, hhd, hak, hI1, hI2])) ?_
  refine am_nm (fun I3 hI3 => ?_)
  refine am_aload_n dX10_goOn_64 rfl ?_
  refine am_get (v := .inr (0, 15)) dX10_goOn_65 fl_10_52 (hG.m0 (by decide)) rfl ?_
  refine am_get (v := .inl (I3 0 15 9)) dX10_goOn_68 fl_10_338 (hG.m0 (by decide)) rfl ?_
  refine am_top (show I3 0 15 9 = nI 3 from (by simp [am_up, am_upf, upd, hkd, hst, hwl, hct, hlg, hlc, hch, hgv, hc, hen, hnu, ha, hp, hlm, hbk, hhd, hak, hI1, hI2, hI3])) ?_
  refine am_iconst (v := nI 3) dX10_goOn_71 (by decide) ?_
  refine am_icmp_ne (tgt := 118) dX10_goOn_72 (by decide) (fun h => absurd h (by decide)) (fun _ => ?_)
  refine am_aload_n dX10_goOn_75 rfl ?_
  refine am_get (v := .inr (i, 48)) dX10_goOn_76 fl_10_244 (hG.mn hi (by decide) (by decide)) rfl ?_
  refine am_aload_n dX10_goOn_79 rfl ?_
  refine am_get (v := .inr (0, 15)) dX10_goOn_80 fl_10_52 (hG.m0 (by decide)) rfl ?_
  refine am_get (v := .inl (I3 0 15 11)) dX10_goOn_83 fl_10_344 (hG.m0 (by decide)) rfl ?_
  refine am_top (show I3 0 15 11 = nI a from (by simp [am_up, am_upf, upd, hkd, hst, hwl, hct, hlg, hlc, hch, hgv, hc, hen, hnu, ha, hp, hlm, hbk, hhd, hak, hI1, hI2, hI3])) ?_
  refine am_aload_n dX10_goOn_86 rfl ?_
  refine am_get (v := .inr (0, 15)) dX10_goOn_87 fl_10_52 (hG.m0 (by decide)) rfl ?_
  refine am_get (v := .inl (I3 0 15 12)) dX10_goOn_90 fl_10_347 (hG.m0 (by decide)) rfl ?_
  refine am_top (show I3 0 15 12 = nI 1 from (by simp [am_up, am_upf, upd, hkd, hst, hwl, hct, hlg, hlc, hch, hgv, hc, hen, hnu, ha, hp, hlm, hbk, hhd, hak, hI1, hI2, hI3])) ?_
  refine am_callVe (i := i) (j := 48) (as := [.inl (nI a), .inl (nI 1)]) (rest := []) dX10_goOn_93 lkX4_list ml_X10_350 imX4_list seX4_list rfl rfl (hG.mn hi (by decide) (by decide)) rfl (Nat.le_of_ble_eq_true rfl) rfl (c_list0 hG hi (by omega) (nI 1) I3 (by simp [am_up, am_upf, upd, hkd, hst, hwl, hct, hlg, hlc, hch, hgv, hc, hen, hnu, ha, hp, hlm, hbk, hhd, hak, hI1, hI2, hI3]) (by simp [am_up, am_upf, upd, hkd, hst, hwl, hct, hlg, hlc, hch, hgv, hc, hen, hnu, ha, hp, hlm, hbk, hhd, hak, hI1, hI2, hI3])) ?_
  refine am_nm (fun I4 hI4 => ?_)
  refine am_aload_n dX10_goOn_96 rfl ?_
  refine am_get (v := .inr (i, 55)) dX10_goOn_97 fl_10_84 (hG.mn hi (by decide) (by decide)) rfl ?_
  refine am_aload_n dX10_goOn_100 rfl ?_
  refine am_get (v := .inr (i, 48)) dX10_goOn_101 fl_10_244 (hG.mn hi (by decide) (by decide)) rfl ?_
  refine am_get (v := .inl (I4 i 48 6)) dX10_goOn_104 fl_10_353 (hG.mn hi (by decide) (by decide)) rfl ?_
  refine am_top (show I4 i 48 6 = nI 1 from (by simp [am_up, am_upf, upd, hkd, hst, hwl, hct, hlg, hlc, hch, hgv, hc, hen, hnu, ha, hp, hlm, hbk, hhd, hak, hI1, hI2, hI3, hI4])) ?_
  refine am_put (x := nI 1) dX10_goOn_107 fp_10_198 (hG.mn hi (by decide) (by decide)) (Nat.le_of_ble_eq_true rfl) rfl ?_
  refine am_aload_n dX10_goOn_110 rfl ?_
  refine am_aload_n dX10_goOn_111 rfl ?_
  refine am_callVe (i := 0) (j := 0) (as := [.inr (i, 40)]) (rest := []) dX10_goOn_112 lkX10_unpinAll ml_X10_356 imX10_unpinAll seX10_unpinAll rfl rfl (hG.m0 (by decide)) rfl (Nat.le_of_ble_eq_true rfl) rfl (c_unpinAll1 (r := a) hG hi (by omega) (am_up I4 i 55 10 (nI 1)) (by simp [am_up, am_upf, upd, hkd, hst, hwl, hct, hlg, hlc, hch, hgv, hc, hen, hnu, ha, hp, hlm, hbk, hhd, hak, hI1, hI2, hI3, hI4]) (by simp [am_up, am_upf, upd, hkd, hst, hwl, hct, hlg, hlc, hch, hgv, hc, hen, hnu, ha, hp, hlm, hbk, hhd, hak, hI1, hI2, hI3, hI4]) (by simp [am_up, am_upf, upd, hkd, hst, hwl, hct, hlg, hlc, hch, hgv, hc, hen, hnu, ha, hp, hlm, hbk, hhd, hak, hI1, hI2, hI3, hI4])) ?_
  refine am_nm (fun I5 hI5 => ?_)
  refine am_goto (tgt := 153) dX10_goOn_115 (by decide) ?_
  refine am_iinc (v := nI 1) dX10_goOn_153 rfl (by decide) ?_
  refine am_goto (tgt := 2) dX10_goOn_156 (by decide) ?_
  refine am_iload_n dX10_goOn_2 rfl ?_
  refine am_sipush (v := nI 274) dX10_goOn_3 (by decide) ?_
  refine am_icmp_ge (tgt := 159) dX10_goOn_6 (by decide) (fun h => absurd h (by decide)) (fun _ => ?_)
  refine am_aload_n dX10_goOn_9 rfl ?_
  refine am_aload_n dX10_goOn_10 rfl ?_
  refine am_callVx (i := 0) (j := 0) (as := [.inr (i, 40)]) (rest := []) dX10_goOn_11 lkX10_mayGoOn ml_X10_329 imX10_mayGoOn seX10_mayGoOn rfl rfl (hG.m0 (by decide)) rfl (Nat.le_of_ble_eq_true rfl) rfl (c_mayGoOn9 hG hi I5 (by simp [am_up, am_upf, upd, hkd, hst, hwl, hct, hlg, hlc, hch, hgv, hc, hen, hnu, ha, hp, hlm, hbk, hhd, hak, hI1, hI2, hI3, hI4, hI5]) (by simp [am_up, am_upf, upd, hkd, hst, hwl, hct, hlg, hlc, hch, hgv, hc, hen, hnu, ha, hp, hlm, hbk, hhd, hak, hI1, hI2, hI3, hI4, hI5]) (by simp [am_up, am_upf, upd, hkd, hst, hwl, hct, hlg, hlc, hch, hgv, hc, hen, hnu, ha, hp, hlm, hbk, hhd, hak, hI1, hI2, hI3, hI4, hI5]) (by simp [am_up, am_upf, upd, hkd, hst, hwl, hct, hlg, hlc, hch, hgv, hc, hen, hnu, ha, hp, hlm, hbk, hhd, hak, hI1, hI2, hI3, hI4, hI5]) (by simp [am_up, am_upf, upd, hkd, hst, hwl, hct, hlg, hlc, hch, hgv, hc, hen, hnu, ha, hp, hlm, hbk, hhd, hak, hI1, hI2, hI3, hI4, hI5])) ?_
  refine am_nm (fun I6 hI6 => ?_)
  refine am_if_eq (tgt := 159) dX10_goOn_14 (by decide) (fun h => absurd h (by decide)) (fun _ => ?_)
  refine am_aload_n dX10_goOn_17 rfl ?_
  refine am_aload_n dX10_goOn_18 rfl ?_
  refine am_callVx (i := 0) (j := 0) (as := [.inr (i, 40)]) (rest := []) dX10_goOn_19 lkX10_pinAll ml_X10_332 imX10_pinAll seX10_pinAll rfl rfl (hG.m0 (by decide)) rfl (Nat.le_of_ble_eq_true rfl) rfl (c_pinAll1_1 (r := a) hG hi (by omega) I6 (fun x hx => by simp [am_up, am_upf, upd, hj x hx, hI1, hI2, hI3, hI4, hI5, hI6]) (fun x hx => by simp [am_up, am_upf, upd, hu x hx, hI1, hI2, hI3, hI4, hI5, hI6]) (by simp [am_up, am_upf, upd, hkd, hst, hwl, hct, hlg, hlc, hch, hgv, hc, hen, hnu, ha, hp, hlm, hbk, hhd, hak, hI1, hI2, hI3, hI4, hI5, hI6]) (by simp [am_up, am_upf, upd, hkd, hst, hwl, hct, hlg, hlc, hch, hgv, hc, hen, hnu, ha, hp, hlm, hbk, hhd, hak, hI1, hI2, hI3, hI4, hI5, hI6]) (by simp [am_up, am_upf, upd, hkd, hst, hwl, hct, hlg, hlc, hch, hgv, hc, hen, hnu, ha, hp, hlm, hbk, hhd, hak, hI1, hI2, hI3, hI4, hI5, hI6]) (by simp [am_up, am_upf, upd, hkd, hst, hwl, hct, hlg, hlc, hch, hgv, hc, hen, hnu, ha, hp, hlm, hbk, hhd, hak, hI1, hI2, hI3, hI4, hI5, hI6]) (by simp [am_up, am_upf, upd, hkd, hst, hwl, hct, hlg, hlc, hch, hgv, hc, hen, hnu, ha, hp, hlm, hbk, hhd, hak, hI1, hI2, hI3, hI4, hI5, hI6]) (by simp [am_up, am_upf, upd, hkd, hst, hwl, hct, hlg, hlc, hch, hgv, hc, hen, hnu, ha, hp, hlm, hbk, hhd, hak, hI1, hI2, hI3, hI4, hI5, hI6]) (by simp [am_up, am_upf, upd, hkd, hst, hwl, hct, hlg, hlc, hch, hgv, hc, hen, hnu, ha, hp, hlm, hbk, hhd, hak, hI1, hI2, hI3, hI4, hI5, hI6]) (by simp [am_up, am_upf, upd, hkd, hst, hwl, hct, hlg, hlc, hch, hgv, hc, hen, hnu, ha, hp, hlm, hbk, hhd, hak, hI1, hI2, hI3, hI4, hI5, hI6]) (by simp [am_up, am_upf, upd, hkd, hst, hwl, hct, hlg, hlc, hch, hgv, hc, hen, hnu, ha, hp, hlm, hbk, hhd, hak, hI1, hI2, hI3, hI4, hI5, hI6])) ?_
  refine am_nm (fun I7 hI7 => ?_)
  refine am_if_eq (tgt := 159) dX10_goOn_22 (by decide) (fun _ => ?_) (fun h => absurd h (by decide))
  refine am_vret dX10_goOn_159 rfl ?_
  exact ⟨rfl, (by simp [am_up, am_upf, upd, hkd, hst, hwl, hct, hlg, hlc, hch, hgv, hc, hen, hnu, ha, hp, hlm, hbk, hhd, hak, hI1, hI2, hI3, hI4, hI5, hI6, hI7])⟩
theorem c_goOn10 {G : am_G} (hG : am_ok G) {d : Nat} {i : Nat} (hi : i < G.2.2.2.1) (I : am_I) (hj : ∀ x, x < G.2.2.2.1 → I x 40 6 = nI 1) (hu : ∀ x, x < G.2.2.2.1 → I x 40 5 = nI 1) (hkd : I i 55 0 = nI 10) (hst : I i 55 5 = nI 1) (hwl : I i 55 11 = nI 0) (hct : I i 44 5 = nI 0) (hlg : I i 44 2 = nI 0) (hlc : I i 48 6 = nI 0) (hch : I 0 15 5 = nI 0) (hgv : I 0 15 7 = nI 0) (hc : I 0 9 3 = nI 0) (hen : I 0 13 1 = nI 0) (hnu : I i 40 0 = nI i) : am_C G (d + 4) mX10_goOn [.inr (0, 0), .inr (i, 40)] I (fun r I' => r = none ∧ I' i 55 5 = nI 2) := by
  have hn4 := hG.hi
  have hn2 := hG.lo
  refine am_of (by decide +kernel) hG.nd (Nat.le_of_ble_eq_true rfl) ?_
  refine am_iconst (v := nI 0) dX10_goOn_0 (by decide) ?_
  refine am_istore_n dX10_goOn_1 (by decide) ?_
  refine am_iload_n dX10_goOn_2 rfl ?_
  refine am_sipush (v := nI 274) dX10_goOn_3 (by decide) ?_
  refine am_icmp_ge (tgt := 159) dX10_goOn_6 (by decide) (fun h => absurd h (by decide)) (fun _ => ?_)
  refine am_aload_n dX10_goOn_9 rfl ?_
  refine am_aload_n dX10_goOn_10 rfl ?_
  refine am_callVx (i := 0) (j := 0) (as := [.inr (i, 40)]) (rest := []) dX10_goOn_11 lkX10_mayGoOn ml_X10_329 imX10_mayGoOn seX10_mayGoOn rfl rfl (hG.m0 (by decide)) rfl (Nat.le_of_ble_eq_true rfl) rfl (c_mayGoOn10 hG hi I (by simp [am_up, am_upf, upd, hkd, hst, hwl, hct, hlg, hlc, hch, hgv, hc, hen, hnu]) (by simp [am_up, am_upf, upd, hkd, hst, hwl, hct, hlg, hlc, hch, hgv, hc, hen, hnu]) (by simp [am_up, am_upf, upd, hkd, hst, hwl, hct, hlg, hlc, hch, hgv, hc, hen, hnu]) (by simp [am_up, am_upf, upd, hkd, hst, hwl, hct, hlg, hlc, hch, hgv, hc, hen, hnu]) (by simp [am_up, am_upf, upd, hkd, hst, hwl, hct, hlg, hlc, hch, hgv, hc, hen, hnu])) ?_
  refine am_nm (fun I1 hI1 => ?_)
  refine am_if_eq (tgt := 159) dX10_goOn_14 (by decide) (fun h => absurd h (by decide)) (fun _ => ?_)
  refine am_aload_n dX10_goOn_17 rfl ?_
  refine am_aload_n dX10_goOn_18 rfl ?_
  refine am_callVx (i := 0) (j := 0) (as := [.inr (i, 40)]) (rest := []) dX10_goOn_19 lkX10_pinAll ml_X10_332 imX10_pinAll seX10_pinAll rfl rfl (hG.m0 (by decide)) rfl (Nat.le_of_ble_eq_true rfl) rfl (c_pinAll0 hG hi I1 (by simp [am_up, am_upf, upd, hkd, hst, hwl, hct, hlg, hlc, hch, hgv, hc, hen, hnu, hI1])) ?_
  refine am_if_eq (tgt := 159) dX10_goOn_22 (by decide) (fun h => absurd h (by decide)) (fun _ => ?_)
  refine am_aload_n dX10_goOn_25 rfl ?_
  refine am_get (v := .inr (i, 55)) dX10_goOn_26 fl_10_84 (hG.mn hi (by decide) (by decide)) rfl ?_
  refine am_dup dX10_goOn_29 ?_
  refine am_get (v := .inl (I1 i 55 9)) dX10_goOn_30 fl_10_195 (hG.mn hi (by decide) (by decide)) rfl ?_
  refine am_iconst (v := nI 1) dX10_goOn_33 (by decide) ?_
  refine am_iadd dX10_goOn_34 ?_
  refine am_put (x := (I1 i 55 9) + (nI 1)) dX10_goOn_35 fp_10_195 (hG.mn hi (by decide) (by decide)) (Nat.le_of_ble_eq_true rfl) rfl ?_
  refine am_aload_n dX10_goOn_38 rfl ?_
  refine am_get (v := .inr (0, 15)) dX10_goOn_39 fl_10_52 (hG.m0 (by decide)) rfl ?_
  refine am_aload_n dX10_goOn_42 rfl ?_
  refine am_callVe (i := 0) (j := 15) (as := [.inr (i, 40)]) (rest := []) dX10_goOn_43 lkX9_run ml_X10_335 imX9_run seX9_run rfl rfl (hG.m0 (by decide)) rfl (Nat.le_of_ble_eq_true rfl) rfl (c_run10 hG hi (am_up I1 i 55 9 ((I1 i 55 9) + (nI 1))) (by simp [am_up, am_upf, upd, hkd, hst, hwl, hct, hlg, hlc, hch, hgv, hc, hen, hnu, hI1])) ?_
  refine am_nm (fun I2 hI2 => ?_)
  refine am_aload_n dX10_goOn_46 rfl ?_
  refine am_get (v := .inr (0, 15)) dX10_goOn_47 fl_10_52 (hG.m0 (by decide)) rfl ?_
  refine am_get (v := .inl (I2 0 15 9)) dX10_goOn_50 fl_10_338 (hG.m0 (by decide)) rfl ?_
  refine am_top (show I2 0 15 9 = nI 1 from (by simp [am_up, am_upf, upd, hkd, hst, hwl, hct, hlg, hlc, hch, hgv, hc, hen, hnu, hI1, hI2])) ?_
  refine am_iconst (v := nI 1) dX10_goOn_53 (by decide) ?_
  refine am_icmp_eq (tgt := 64) dX10_goOn_54 (by decide) (fun _ => ?_) (fun h => absurd h (by decide))
  refine am_aload_n dX10_goOn_64 rfl ?_
  refine am_get (v := .inr (0, 15)) dX10_goOn_65 fl_10_52 (hG.m0 (by decide)) rfl ?_
  refine am_get (v := .inl (I2 0 15 9)) dX10_goOn_68 fl_10_338 (hG.m0 (by decide)) rfl ?_
  refine am_top (show I2 0 15 9 = nI 1 from (by simp [am_up, am_upf, upd, hkd, hst, hwl, hct, hlg, hlc, hch, hgv, hc, hen, hnu, hI1, hI2])) ?_
  refine am_iconst (v := nI 3) dX10_goOn_71 (by decide) ?_
  refine am_icmp_ne (tgt := 118) dX10_goOn_72 (by decide) (fun _ => ?_) (fun h => absurd h (by decide))
  refine am_aload_n dX10_goOn_118 rfl ?_
  refine am_get (v := .inr (0, 15)) dX10_goOn_119 fl_10_52 (hG.m0 (by decide)) rfl ?_
  refine am_callVx (i := 0) (j := 15) (as := []) (rest := []) dX10_goOn_122 lkX9_isTooMuch ml_X10_359 imX9_isTooMuch seX9_isTooMuch rfl rfl (hG.m0 (by decide)) rfl (Nat.le_of_ble_eq_true rfl) rfl (c_tooMuch0 hG hi I2 (by simp [am_up, am_upf, upd, hkd, hst, hwl, hct, hlg, hlc, hch, hgv, hc, hen, hnu, hI1, hI2]) (by simp [am_up, am_upf, upd, hkd, hst, hwl, hct, hlg, hlc, hch, hgv, hc, hen, hnu, hI1, hI2]) (by simp [am_up, am_upf, upd, hkd, hst, hwl, hct, hlg, hlc, hch, hgv, hc, hen, hnu, hI1, hI2])) ?_
  refine am_if_eq (tgt := 148) dX10_goOn_125 (by decide) (fun _ => ?_) (fun h => absurd h (by decide))
  refine am_aload_n dX10_goOn_148 rfl ?_
  refine am_aload_n dX10_goOn_149 rfl ?_
  refine am_callVv (i := 0) (j := 0) (as := [.inr (i, 40)]) (rest := []) dX10_goOn_150 lkX10_endCall ml_X10_365 imX10_endCall seX10_endCall rfl rfl (hG.m0 (by decide)) rfl (Nat.le_of_ble_eq_true rfl) rfl (c_endCall0 hG hi I2 (by simp [am_up, am_upf, upd, hkd, hst, hwl, hct, hlg, hlc, hch, hgv, hc, hen, hnu, hI1, hI2]) (by simp [am_up, am_upf, upd, hkd, hst, hwl, hct, hlg, hlc, hch, hgv, hc, hen, hnu, hI1, hI2]) (by simp [am_up, am_upf, upd, hkd, hst, hwl, hct, hlg, hlc, hch, hgv, hc, hen, hnu, hI1, hI2]) (by simp [am_up, am_upf, upd, hkd, hst, hwl, hct, hlg, hlc, hch, hgv, hc, hen, hnu, hI1, hI2]) (by simp [am_up, am_upf, upd, hkd, hst, hwl, hct, hlg, hlc, hch, hgv, hc, hen, hnu, hI1, hI2]) (by simp [am_up, am_upf, upd, hkd, hst, hwl, hct, hlg, hlc, hch, hgv, hc, hen, hnu, hI1, hI2])) rfl (fun I9 hq => ?_)
  have hst2 := hq.2
  refine am_nm (fun I3 hI3 => ?_)
  refine am_iinc (v := nI 1) dX10_goOn_153 rfl (by decide) ?_
  refine am_goto (tgt := 2) dX10_goOn_156 (by decide) ?_
  refine am_iload_n dX10_goOn_2 rfl ?_
  refine am_sipush (v := nI 274) dX10_goOn_3 (by decide) ?_
  refine am_icmp_ge (tgt := 159) dX10_goOn_6 (by decide) (fun h => absurd h (by decide)) (fun _ => ?_)
  refine am_aload_n dX10_goOn_9 rfl ?_
  refine am_aload_n dX10_goOn_10 rfl ?_
  refine am_callVx (i := 0) (j := 0) (as := [.inr (i, 40)]) (rest := []) dX10_goOn_11 lkX10_mayGoOn ml_X10_329 imX10_mayGoOn seX10_mayGoOn rfl rfl (hG.m0 (by decide)) rfl (Nat.le_of_ble_eq_true rfl) rfl (c_mayGoOnE hG hi I3 (by simp [am_up, am_upf, upd, hkd, hst, hwl, hct, hlg, hlc, hch, hgv, hc, hen, hnu, hI1, hI2, hst2, hI3])) ?_
  refine am_if_eq (tgt := 159) dX10_goOn_14 (by decide) (fun _ => ?_) (fun h => absurd h (by decide))
  refine am_vret dX10_goOn_159 rfl ?_
  exact ⟨rfl, (by simp [am_up, am_upf, upd, hkd, hst, hwl, hct, hlg, hlc, hch, hgv, hc, hen, hnu, hI1, hI2, hst2, hI3])⟩
theorem c_goOn11 {G : am_G} (hG : am_ok G) {d : Nat} {i a : Nat} (hi : i < G.2.2.2.1) (hab : a < 128) (I : am_I) (hj : ∀ x, x < G.2.2.2.1 → I x 40 6 = nI 1) (hu : ∀ x, x < G.2.2.2.1 → I x 40 5 = nI 1) (hkd : I i 55 0 = nI 11) (hst : I i 55 5 = nI 1) (hwl : I i 55 11 = nI 0) (hct : I i 44 5 = nI 0) (hlg : I i 44 2 = nI 0) (hlc : I i 48 6 = nI 0) (hch : I 0 15 5 = nI 0) (hgv : I 0 15 7 = nI 0) (hc : I 0 9 3 = nI 0) (hen : I 0 13 1 = nI 0) (hnu : I i 40 0 = nI i) (ha : I i 55 1 = nI a) (hp : I i 52 a = nI 0) (hlm : I i 54 a = nI 0) (hbk : I i 51 a = (-1 : Int32)) (hhd : I i 49 a = nI 0) (hak : I i 50 a = nI 0) : am_C G (d + 4) mX10_goOn [.inr (0, 0), .inr (i, 40)] I (fun r I' => r = none ∧ I' i 55 5 = nI 1) := by
  have hn4 := hG.hi
  have hn2 := hG.lo
  refine am_of (by decide +kernel) hG.nd (Nat.le_of_ble_eq_true rfl) ?_
  refine am_iconst (v := nI 0) dX10_goOn_0 (by decide) ?_
  refine am_istore_n dX10_goOn_1 (by decide) ?_
  refine am_iload_n dX10_goOn_2 rfl ?_
  refine am_sipush (v := nI 274) dX10_goOn_3 (by decide) ?_
  refine am_icmp_ge (tgt := 159) dX10_goOn_6 (by decide) (fun h => absurd h (by decide)) (fun _ => ?_)
  refine am_aload_n dX10_goOn_9 rfl ?_
  refine am_aload_n dX10_goOn_10 rfl ?_
  refine am_callVx (i := 0) (j := 0) (as := [.inr (i, 40)]) (rest := []) dX10_goOn_11 lkX10_mayGoOn ml_X10_329 imX10_mayGoOn seX10_mayGoOn rfl rfl (hG.m0 (by decide)) rfl (Nat.le_of_ble_eq_true rfl) rfl (c_mayGoOn11 hG hi I (by simp [am_up, am_upf, upd, hkd, hst, hwl, hct, hlg, hlc, hch, hgv, hc, hen, hnu, ha, hp, hlm, hbk, hhd, hak]) (by simp [am_up, am_upf, upd, hkd, hst, hwl, hct, hlg, hlc, hch, hgv, hc, hen, hnu, ha, hp, hlm, hbk, hhd, hak]) (by simp [am_up, am_upf, upd, hkd, hst, hwl, hct, hlg, hlc, hch, hgv, hc, hen, hnu, ha, hp, hlm, hbk, hhd, hak]) (by simp [am_up, am_upf, upd, hkd, hst, hwl, hct, hlg, hlc, hch, hgv, hc, hen, hnu, ha, hp, hlm, hbk, hhd, hak]) (by simp [am_up, am_upf, upd, hkd, hst, hwl, hct, hlg, hlc, hch, hgv, hc, hen, hnu, ha, hp, hlm, hbk, hhd, hak])) ?_
  refine am_nm (fun I1 hI1 => ?_)
  refine am_if_eq (tgt := 159) dX10_goOn_14 (by decide) (fun h => absurd h (by decide)) (fun _ => ?_)
  refine am_aload_n dX10_goOn_17 rfl ?_
  refine am_aload_n dX10_goOn_18 rfl ?_
  refine am_callVx (i := 0) (j := 0) (as := [.inr (i, 40)]) (rest := []) dX10_goOn_19 lkX10_pinAll ml_X10_332 imX10_pinAll seX10_pinAll rfl rfl (hG.m0 (by decide)) rfl (Nat.le_of_ble_eq_true rfl) rfl (c_pinAll0 hG hi I1 (by simp [am_up, am_upf, upd, hkd, hst, hwl, hct, hlg, hlc, hch, hgv, hc, hen, hnu, ha, hp, hlm, hbk, hhd, hak, hI1])) ?_
  refine am_if_eq (tgt := 159) dX10_goOn_22 (by decide) (fun h => absurd h (by decide)) (fun _ => ?_)
  refine am_aload_n dX10_goOn_25 rfl ?_
  refine am_get (v := .inr (i, 55)) dX10_goOn_26 fl_10_84 (hG.mn hi (by decide) (by decide)) rfl ?_
  refine am_dup dX10_goOn_29 ?_
  refine am_get (v := .inl (I1 i 55 9)) dX10_goOn_30 fl_10_195 (hG.mn hi (by decide) (by decide)) rfl ?_
  refine am_iconst (v := nI 1) dX10_goOn_33 (by decide) ?_
  refine am_iadd dX10_goOn_34 ?_
  refine am_put (x := (I1 i 55 9) + (nI 1)) dX10_goOn_35 fp_10_195 (hG.mn hi (by decide) (by decide)) (Nat.le_of_ble_eq_true rfl) rfl ?_
  refine am_aload_n dX10_goOn_38 rfl ?_
  refine am_get (v := .inr (0, 15)) dX10_goOn_39 fl_10_52 (hG.m0 (by decide)) rfl ?_
  refine am_aload_n dX10_goOn_42 rfl ?_
  refine am_callVe (i := 0) (j := 15) (as := [.inr (i, 40)]) (rest := []) dX10_goOn_43 lkX9_run ml_X10_335 imX9_run seX9_run rfl rfl (hG.m0 (by decide)) rfl (Nat.le_of_ble_eq_true rfl) rfl (c_run11 (a := a) hG hi (by omega) (am_up I1 i 55 9 ((I1 i 55 9) + (nI 1))) (by simp [am_up, am_upf, upd, hkd, hst, hwl, hct, hlg, hlc, hch, hgv, hc, hen, hnu, ha, hp, hlm, hbk, hhd, hak, hI1]) (by simp [am_up, am_upf, upd, hkd, hst, hwl, hct, hlg, hlc, hch, hgv, hc, hen, hnu, ha, hp, hlm, hbk, hhd, hak, hI1]) (by simp [am_up, am_upf, upd, hkd, hst, hwl, hct, hlg, hlc, hch, hgv, hc, hen, hnu, ha, hp, hlm, hbk, hhd, hak, hI1])) ?_
  refine am_nm (fun I2 hI2 => ?_)
  refine am_aload_n dX10_goOn_46 rfl ?_
  refine am_get (v := .inr (0, 15)) dX10_goOn_47 fl_10_52 (hG.m0 (by decide)) rfl ?_
  refine am_get (v := .inl (I2 0 15 9)) dX10_goOn_50 fl_10_338 (hG.m0 (by decide)) rfl ?_
  refine am_top (show I2 0 15 9 = nI 3 from (by simp [am_up, am_upf, upd, hkd, hst, hwl, hct, hlg, hlc, hch, hgv, hc, hen, hnu, ha, hp, hlm, hbk, hhd, hak, hI1, hI2])) ?_
  refine am_iconst (v := nI 1) dX10_goOn_53 (by decide) ?_
  refine am_icmp_eq (tgt := 64) dX10_goOn_54 (by decide) (fun h => absurd h (by decide)) (fun _ => ?_)
  refine am_aload_n dX10_goOn_57 rfl ?_
  refine am_get (v := .inr (0, 15)) dX10_goOn_58 fl_10_52 (hG.m0 (by decide)) rfl ?_
  refine am_callVe (i := 0) (j := 15) (as := []) (rest := []) dX10_goOn_61 lkX9_undo ml_X10_341 imX9_undo seX9_undo rfl rfl (hG.m0 (by decide)) rfl (Nat.le_of_ble_eq_true rfl) rfl (c_undo0 hG hi I2 (by simp [am_up, am_upf, upd, hkd, hst, hwl, hct, hlg, hlc, hch, hgv, hc, hen, hnu, ha, hp, hlm, hbk, hhd, hak, hI1, hI2]) (by simp [am_up, am_upf, upd, hkd, hst, hwl, hct, hlg, hlc, hch, hgv, hc, hen, hnu, ha, hp, hlm, hbk, hhd, hak, hI1, hI2])) ?_
  refine am_nm (fun I3 hI3 => ?_)
  refine am_aload_n dX10_goOn_64 rfl ?_
  refine am_get (v := .inr (0, 15)) dX10_goOn_65 fl_10_52 (hG.m0 (by decide)) rfl ?_
  refine am_get (v := .inl (I3 0 15 9)) dX10_goOn_68 fl_10_338 (hG.m0 (by decide)) rfl ?_
  refine am_top (show I3 0 15 9 = nI 3 from (by simp [am_up, am_upf, upd, hkd, hst, hwl, hct, hlg, hlc, hch, hgv, hc, hen, hnu, ha, hp, hlm, hbk, hhd, hak, hI1, hI2, hI3])) ?_
  refine am_iconst (v := nI 3) dX10_goOn_71 (by decide) ?_
  refine am_icmp_ne (tgt := 118) dX10_goOn_72 (by decide) (fun h => absurd h (by decide)) (fun _ => ?_)
  refine am_aload_n dX10_goOn_75 rfl ?_
  refine am_get (v := .inr (i, 48)) dX10_goOn_76 fl_10_244 (hG.mn hi (by decide) (by decide)) rfl ?_
  refine am_aload_n dX10_goOn_79 rfl ?_
  refine am_get (v := .inr (0, 15)) dX10_goOn_80 fl_10_52 (hG.m0 (by decide)) rfl ?_
  refine am_get (v := .inl (I3 0 15 11)) dX10_goOn_83 fl_10_344 (hG.m0 (by decide)) rfl ?_
  refine am_top (show I3 0 15 11 = nI a from (by simp [am_up, am_upf, upd, hkd, hst, hwl, hct, hlg, hlc, hch, hgv, hc, hen, hnu, ha, hp, hlm, hbk, hhd, hak, hI1, hI2, hI3])) ?_
  refine am_aload_n dX10_goOn_86 rfl ?_
  refine am_get (v := .inr (0, 15)) dX10_goOn_87 fl_10_52 (hG.m0 (by decide)) rfl ?_
  refine am_get (v := .inl (I3 0 15 12)) dX10_goOn_90 fl_10_347 (hG.m0 (by decide)) rfl ?_
  refine am_top (show I3 0 15 12 = nI 2 from (by simp [am_up, am_upf, upd, hkd, hst, hwl, hct, hlg, hlc, hch, hgv, hc, hen, hnu, ha, hp, hlm, hbk, hhd, hak, hI1, hI2, hI3])) ?_
  refine am_callVe (i := i) (j := 48) (as := [.inl (nI a), .inl (nI 2)]) (rest := []) dX10_goOn_93 lkX4_list ml_X10_350 imX4_list seX4_list rfl rfl (hG.mn hi (by decide) (by decide)) rfl (Nat.le_of_ble_eq_true rfl) rfl (c_list0 hG hi (by omega) (nI 2) I3 (by simp [am_up, am_upf, upd, hkd, hst, hwl, hct, hlg, hlc, hch, hgv, hc, hen, hnu, ha, hp, hlm, hbk, hhd, hak, hI1, hI2, hI3]) (by simp [am_up, am_upf, upd, hkd, hst, hwl, hct, hlg, hlc, hch, hgv, hc, hen, hnu, ha, hp, hlm, hbk, hhd, hak, hI1, hI2, hI3])) ?_
  refine am_nm (fun I4 hI4 => ?_)
  refine am_aload_n dX10_goOn_96 rfl ?_
  refine am_get (v := .inr (i, 55)) dX10_goOn_97 fl_10_84 (hG.mn hi (by decide) (by decide)) rfl ?_
  refine am_aload_n dX10_goOn_100 rfl ?_
  refine am_get (v := .inr (i, 48)) dX10_goOn_101 fl_10_244 (hG.mn hi (by decide) (by decide)) rfl ?_
  refine am_get (v := .inl (I4 i 48 6)) dX10_goOn_104 fl_10_353 (hG.mn hi (by decide) (by decide)) rfl ?_
  refine am_top (show I4 i 48 6 = nI 1 from (by simp [am_up, am_upf, upd, hkd, hst, hwl, hct, hlg, hlc, hch, hgv, hc, hen, hnu, ha, hp, hlm, hbk, hhd, hak, hI1, hI2, hI3, hI4])) ?_
  refine am_put (x := nI 1) dX10_goOn_107 fp_10_198 (hG.mn hi (by decide) (by decide)) (Nat.le_of_ble_eq_true rfl) rfl ?_
  refine am_aload_n dX10_goOn_110 rfl ?_
  refine am_aload_n dX10_goOn_111 rfl ?_
  refine am_callVe (i := 0) (j := 0) (as := [.inr (i, 40)]) (rest := []) dX10_goOn_112 lkX10_unpinAll ml_X10_356 imX10_unpinAll seX10_unpinAll rfl rfl (hG.m0 (by decide)) rfl (Nat.le_of_ble_eq_true rfl) rfl (c_unpinAll1 (r := a) hG hi (by omega) (am_up I4 i 55 10 (nI 1)) (by simp [am_up, am_upf, upd, hkd, hst, hwl, hct, hlg, hlc, hch, hgv, hc, hen, hnu, ha, hp, hlm, hbk, hhd, hak, hI1, hI2, hI3, hI4]) (by simp [am_up, am_upf, upd, hkd, hst, hwl, hct, hlg, hlc, hch, hgv, hc, hen, hnu, ha, hp, hlm, hbk, hhd, hak, hI1, hI2, hI3, hI4]) (by simp [am_up, am_upf, upd, hkd, hst, hwl, hct, hlg, hlc, hch, hgv, hc, hen, hnu, ha, hp, hlm, hbk, hhd, hak, hI1, hI2, hI3, hI4])) ?_
  refine am_nm (fun I5 hI5 => ?_)
  refine am_goto (tgt := 153) dX10_goOn_115 (by decide) ?_
  refine am_iinc (v := nI 1) dX10_goOn_153 rfl (by decide) ?_
  refine am_goto (tgt := 2) dX10_goOn_156 (by decide) ?_
  refine am_iload_n dX10_goOn_2 rfl ?_
  refine am_sipush (v := nI 274) dX10_goOn_3 (by decide) ?_
  refine am_icmp_ge (tgt := 159) dX10_goOn_6 (by decide) (fun h => absurd h (by decide)) (fun _ => ?_)
  refine am_aload_n dX10_goOn_9 rfl ?_
  refine am_aload_n dX10_goOn_10 rfl ?_
  refine am_callVx (i := 0) (j := 0) (as := [.inr (i, 40)]) (rest := []) dX10_goOn_11 lkX10_mayGoOn ml_X10_329 imX10_mayGoOn seX10_mayGoOn rfl rfl (hG.m0 (by decide)) rfl (Nat.le_of_ble_eq_true rfl) rfl (c_mayGoOn11 hG hi I5 (by simp [am_up, am_upf, upd, hkd, hst, hwl, hct, hlg, hlc, hch, hgv, hc, hen, hnu, ha, hp, hlm, hbk, hhd, hak, hI1, hI2, hI3, hI4, hI5]) (by simp [am_up, am_upf, upd, hkd, hst, hwl, hct, hlg, hlc, hch, hgv, hc, hen, hnu, ha, hp, hlm, hbk, hhd, hak, hI1, hI2, hI3, hI4, hI5]) (by simp [am_up, am_upf, upd, hkd, hst, hwl, hct, hlg, hlc, hch, hgv, hc, hen, hnu, ha, hp, hlm, hbk, hhd, hak, hI1, hI2, hI3, hI4, hI5]) (by simp [am_up, am_upf, upd, hkd, hst, hwl, hct, hlg, hlc, hch, hgv, hc, hen, hnu, ha, hp, hlm, hbk, hhd, hak, hI1, hI2, hI3, hI4, hI5]) (by simp [am_up, am_upf, upd, hkd, hst, hwl, hct, hlg, hlc, hch, hgv, hc, hen, hnu, ha, hp, hlm, hbk, hhd, hak, hI1, hI2, hI3, hI4, hI5])) ?_
  refine am_nm (fun I6 hI6 => ?_)
  refine am_if_eq (tgt := 159) dX10_goOn_14 (by decide) (fun h => absurd h (by decide)) (fun _ => ?_)
  refine am_aload_n dX10_goOn_17 rfl ?_
  refine am_aload_n dX10_goOn_18 rfl ?_
  refine am_callVx (i := 0) (j := 0) (as := [.inr (i, 40)]) (rest := []) dX10_goOn_19 lkX10_pinAll ml_X10_332 imX10_pinAll seX10_pinAll rfl rfl (hG.m0 (by decide)) rfl (Nat.le_of_ble_eq_true rfl) rfl (c_pinAll1_2 (r := a) hG hi (by omega) I6 (fun x hx => by simp [am_up, am_upf, upd, hj x hx, hI1, hI2, hI3, hI4, hI5, hI6]) (fun x hx => by simp [am_up, am_upf, upd, hu x hx, hI1, hI2, hI3, hI4, hI5, hI6]) (by simp [am_up, am_upf, upd, hkd, hst, hwl, hct, hlg, hlc, hch, hgv, hc, hen, hnu, ha, hp, hlm, hbk, hhd, hak, hI1, hI2, hI3, hI4, hI5, hI6]) (by simp [am_up, am_upf, upd, hkd, hst, hwl, hct, hlg, hlc, hch, hgv, hc, hen, hnu, ha, hp, hlm, hbk, hhd, hak, hI1, hI2, hI3, hI4, hI5, hI6]) (by simp [am_up, am_upf, upd, hkd, hst, hwl, hct, hlg, hlc, hch, hgv, hc, hen, hnu, ha, hp, hlm, hbk, hhd, hak, hI1, hI2, hI3, hI4, hI5, hI6]) (by simp [am_up, am_upf, upd, hkd, hst, hwl, hct, hlg, hlc, hch, hgv, hc, hen, hnu, ha, hp, hlm, hbk, hhd, hak, hI1, hI2, hI3, hI4, hI5, hI6]) (by simp [am_up, am_upf, upd, hkd, hst, hwl, hct, hlg, hlc, hch, hgv, hc, hen, hnu, ha, hp, hlm, hbk, hhd, hak, hI1, hI2, hI3, hI4, hI5, hI6]) (by simp [am_up, am_upf, upd, hkd, hst, hwl, hct, hlg, hlc, hch, hgv, hc, hen, hnu, ha, hp, hlm, hbk, hhd, hak, hI1, hI2, hI3, hI4, hI5, hI6]) (by simp [am_up, am_upf, upd, hkd, hst, hwl, hct, hlg, hlc, hch, hgv, hc, hen, hnu, ha, hp, hlm, hbk, hhd, hak, hI1, hI2, hI3, hI4, hI5, hI6]) (by simp [am_up, am_upf, upd, hkd, hst, hwl, hct, hlg, hlc, hch, hgv, hc, hen, hnu, ha, hp, hlm, hbk, hhd, hak, hI1, hI2, hI3, hI4, hI5, hI6]) (by simp [am_up, am_upf, upd, hkd, hst, hwl, hct, hlg, hlc, hch, hgv, hc, hen, hnu, ha, hp, hlm, hbk, hhd, hak, hI1, hI2, hI3, hI4, hI5, hI6])) ?_
  refine am_nm (fun I7 hI7 => ?_)
  refine am_if_eq (tgt := 159) dX10_goOn_22 (by decide) (fun _ => ?_) (fun h => absurd h (by decide))
  refine am_vret dX10_goOn_159 rfl ?_
  exact ⟨rfl, (by simp [am_up, am_upf, upd, hkd, hst, hwl, hct, hlg, hlc, hch, hgv, hc, hen, hnu, ha, hp, hlm, hbk, hhd, hak, hI1, hI2, hI3, hI4, hI5, hI6, hI7])⟩
theorem c_goOn12 {G : am_G} (hG : am_ok G) {d : Nat} {i a : Nat} (hi : i < G.2.2.2.1) (hab : a < 128) (I : am_I) (hj : ∀ x, x < G.2.2.2.1 → I x 40 6 = nI 1) (hu : ∀ x, x < G.2.2.2.1 → I x 40 5 = nI 1) (hkd : I i 55 0 = nI 12) (hst : I i 55 5 = nI 1) (hwl : I i 55 11 = nI 0) (hct : I i 44 5 = nI 0) (hlg : I i 44 2 = nI 0) (hlc : I i 48 6 = nI 0) (hch : I 0 15 5 = nI 0) (hgv : I 0 15 7 = nI 0) (hc : I 0 9 3 = nI 0) (hen : I 0 13 1 = nI 0) (hnu : I i 40 0 = nI i) (ha : I i 55 1 = nI a) (hp : I i 52 a = nI 0) (hlm : I i 54 a = nI 0) (hbk : I i 51 a = (-1 : Int32)) (hhd : I i 49 a = nI 0) (hak : I i 50 a = nI 0) : am_C G (d + 4) mX10_goOn [.inr (0, 0), .inr (i, 40)] I (fun r I' => r = none ∧ I' i 55 5 = nI 1) := by
  have hn4 := hG.hi
  have hn2 := hG.lo
  refine am_of (by decide +kernel) hG.nd (Nat.le_of_ble_eq_true rfl) ?_
  refine am_iconst (v := nI 0) dX10_goOn_0 (by decide) ?_
  refine am_istore_n dX10_goOn_1 (by decide) ?_
  refine am_iload_n dX10_goOn_2 rfl ?_
  refine am_sipush (v := nI 274) dX10_goOn_3 (by decide) ?_
  refine am_icmp_ge (tgt := 159) dX10_goOn_6 (by decide) (fun h => absurd h (by decide)) (fun _ => ?_)
  refine am_aload_n dX10_goOn_9 rfl ?_
  refine am_aload_n dX10_goOn_10 rfl ?_
  refine am_callVx (i := 0) (j := 0) (as := [.inr (i, 40)]) (rest := []) dX10_goOn_11 lkX10_mayGoOn ml_X10_329 imX10_mayGoOn seX10_mayGoOn rfl rfl (hG.m0 (by decide)) rfl (Nat.le_of_ble_eq_true rfl) rfl (c_mayGoOn12 hG hi I (by simp [am_up, am_upf, upd, hkd, hst, hwl, hct, hlg, hlc, hch, hgv, hc, hen, hnu, ha, hp, hlm, hbk, hhd, hak]) (by simp [am_up, am_upf, upd, hkd, hst, hwl, hct, hlg, hlc, hch, hgv, hc, hen, hnu, ha, hp, hlm, hbk, hhd, hak]) (by simp [am_up, am_upf, upd, hkd, hst, hwl, hct, hlg, hlc, hch, hgv, hc, hen, hnu, ha, hp, hlm, hbk, hhd, hak]) (by simp [am_up, am_upf, upd, hkd, hst, hwl, hct, hlg, hlc, hch, hgv, hc, hen, hnu, ha, hp, hlm, hbk, hhd, hak]) (by simp [am_up, am_upf, upd, hkd, hst, hwl, hct, hlg, hlc, hch, hgv, hc, hen, hnu, ha, hp, hlm, hbk, hhd, hak])) ?_
  refine am_nm (fun I1 hI1 => ?_)
  refine am_if_eq (tgt := 159) dX10_goOn_14 (by decide) (fun h => absurd h (by decide)) (fun _ => ?_)
  refine am_aload_n dX10_goOn_17 rfl ?_
  refine am_aload_n dX10_goOn_18 rfl ?_
  refine am_callVx (i := 0) (j := 0) (as := [.inr (i, 40)]) (rest := []) dX10_goOn_19 lkX10_pinAll ml_X10_332 imX10_pinAll seX10_pinAll rfl rfl (hG.m0 (by decide)) rfl (Nat.le_of_ble_eq_true rfl) rfl (c_pinAll0 hG hi I1 (by simp [am_up, am_upf, upd, hkd, hst, hwl, hct, hlg, hlc, hch, hgv, hc, hen, hnu, ha, hp, hlm, hbk, hhd, hak, hI1])) ?_
  refine am_if_eq (tgt := 159) dX10_goOn_22 (by decide) (fun h => absurd h (by decide)) (fun _ => ?_)
  refine am_aload_n dX10_goOn_25 rfl ?_
  refine am_get (v := .inr (i, 55)) dX10_goOn_26 fl_10_84 (hG.mn hi (by decide) (by decide)) rfl ?_
  refine am_dup dX10_goOn_29 ?_
  refine am_get (v := .inl (I1 i 55 9)) dX10_goOn_30 fl_10_195 (hG.mn hi (by decide) (by decide)) rfl ?_
  refine am_iconst (v := nI 1) dX10_goOn_33 (by decide) ?_
  refine am_iadd dX10_goOn_34 ?_
  refine am_put (x := (I1 i 55 9) + (nI 1)) dX10_goOn_35 fp_10_195 (hG.mn hi (by decide) (by decide)) (Nat.le_of_ble_eq_true rfl) rfl ?_
  refine am_aload_n dX10_goOn_38 rfl ?_
  refine am_get (v := .inr (0, 15)) dX10_goOn_39 fl_10_52 (hG.m0 (by decide)) rfl ?_
  refine am_aload_n dX10_goOn_42 rfl ?_
  refine am_callVe (i := 0) (j := 15) (as := [.inr (i, 40)]) (rest := []) dX10_goOn_43 lkX9_run ml_X10_335 imX9_run seX9_run rfl rfl (hG.m0 (by decide)) rfl (Nat.le_of_ble_eq_true rfl) rfl (c_run12 (a := a) hG hi (by omega) (am_up I1 i 55 9 ((I1 i 55 9) + (nI 1))) (by simp [am_up, am_upf, upd, hkd, hst, hwl, hct, hlg, hlc, hch, hgv, hc, hen, hnu, ha, hp, hlm, hbk, hhd, hak, hI1]) (by simp [am_up, am_upf, upd, hkd, hst, hwl, hct, hlg, hlc, hch, hgv, hc, hen, hnu, ha, hp, hlm, hbk, hhd, hak, hI1]) (by simp [am_up, am_upf, upd, hkd, hst, hwl, hct, hlg, hlc, hch, hgv, hc, hen, hnu, ha, hp, hlm, hbk, hhd, hak, hI1])) ?_
  refine am_nm (fun I2 hI2 => ?_)
  refine am_aload_n dX10_goOn_46 rfl ?_
  refine am_get (v := .inr (0, 15)) dX10_goOn_47 fl_10_52 (hG.m0 (by decide)) rfl ?_
  refine am_get (v := .inl (I2 0 15 9)) dX10_goOn_50 fl_10_338 (hG.m0 (by decide)) rfl ?_
  refine am_top (show I2 0 15 9 = nI 3 from (by simp [am_up, am_upf, upd, hkd, hst, hwl, hct, hlg, hlc, hch, hgv, hc, hen, hnu, ha, hp, hlm, hbk, hhd, hak, hI1, hI2])) ?_
  refine am_iconst (v := nI 1) dX10_goOn_53 (by decide) ?_
  refine am_icmp_eq (tgt := 64) dX10_goOn_54 (by decide) (fun h => absurd h (by decide)) (fun _ => ?_)
  refine am_aload_n dX10_goOn_57 rfl ?_
  refine am_get (v := .inr (0, 15)) dX10_goOn_58 fl_10_52 (hG.m0 (by decide)) rfl ?_
  refine am_callVe (i := 0) (j := 15) (as := []) (rest := []) dX10_goOn_61 lkX9_undo ml_X10_341 imX9_undo seX9_undo rfl rfl (hG.m0 (by decide)) rfl (Nat.le_of_ble_eq_true rfl) rfl (c_undo0 hG hi I2 (by simp [am_up, am_upf, upd, hkd, hst, hwl, hct, hlg, hlc, hch, hgv, hc, hen, hnu, ha, hp, hlm, hbk, hhd, hak, hI1, hI2]) (by simp [am_up, am_upf, upd, hkd, hst, hwl, hct, hlg, hlc, hch, hgv, hc, hen, hnu, ha, hp, hlm, hbk, hhd, hak, hI1, hI2])) ?_
  refine am_nm (fun I3 hI3 => ?_)
  refine am_aload_n dX10_goOn_64 rfl ?_
  refine am_get (v := .inr (0, 15)) dX10_goOn_65 fl_10_52 (hG.m0 (by decide)) rfl ?_
  refine am_get (v := .inl (I3 0 15 9)) dX10_goOn_68 fl_10_338 (hG.m0 (by decide)) rfl ?_
  refine am_top (show I3 0 15 9 = nI 3 from (by simp [am_up, am_upf, upd, hkd, hst, hwl, hct, hlg, hlc, hch, hgv, hc, hen, hnu, ha, hp, hlm, hbk, hhd, hak, hI1, hI2, hI3])) ?_
  refine am_iconst (v := nI 3) dX10_goOn_71 (by decide) ?_
  refine am_icmp_ne (tgt := 118) dX10_goOn_72 (by decide) (fun h => absurd h (by decide)) (fun _ => ?_)
  refine am_aload_n dX10_goOn_75 rfl ?_
  refine am_get (v := .inr (i, 48)) dX10_goOn_76 fl_10_244 (hG.mn hi (by decide) (by decide)) rfl ?_
  refine am_aload_n dX10_goOn_79 rfl ?_
  refine am_get (v := .inr (0, 15)) dX10_goOn_80 fl_10_52 (hG.m0 (by decide)) rfl ?_
  refine am_get (v := .inl (I3 0 15 11)) dX10_goOn_83 fl_10_344 (hG.m0 (by decide)) rfl ?_
  refine am_top (show I3 0 15 11 = nI a from (by simp [am_up, am_upf, upd, hkd, hst, hwl, hct, hlg, hlc, hch, hgv, hc, hen, hnu, ha, hp, hlm, hbk, hhd, hak, hI1, hI2, hI3])) ?_
  refine am_aload_n dX10_goOn_86 rfl ?_
  refine am_get (v := .inr (0, 15)) dX10_goOn_87 fl_10_52 (hG.m0 (by decide)) rfl ?_
  refine am_get (v := .inl (I3 0 15 12)) dX10_goOn_90 fl_10_347 (hG.m0 (by decide)) rfl ?_
  refine am_top (show I3 0 15 12 = nI 2 from (by simp [am_up, am_upf, upd, hkd, hst, hwl, hct, hlg, hlc, hch, hgv, hc, hen, hnu, ha, hp, hlm, hbk, hhd, hak, hI1, hI2, hI3])) ?_
  refine am_callVe (i := i) (j := 48) (as := [.inl (nI a), .inl (nI 2)]) (rest := []) dX10_goOn_93 lkX4_list ml_X10_350 imX4_list seX4_list rfl rfl (hG.mn hi (by decide) (by decide)) rfl (Nat.le_of_ble_eq_true rfl) rfl (c_list0 hG hi (by omega) (nI 2) I3 (by simp [am_up, am_upf, upd, hkd, hst, hwl, hct, hlg, hlc, hch, hgv, hc, hen, hnu, ha, hp, hlm, hbk, hhd, hak, hI1, hI2, hI3]) (by simp [am_up, am_upf, upd, hkd, hst, hwl, hct, hlg, hlc, hch, hgv, hc, hen, hnu, ha, hp, hlm, hbk, hhd, hak, hI1, hI2, hI3])) ?_
  refine am_nm (fun I4 hI4 => ?_)
  refine am_aload_n dX10_goOn_96 rfl ?_
  refine am_get (v := .inr (i, 55)) dX10_goOn_97 fl_10_84 (hG.mn hi (by decide) (by decide)) rfl ?_
  refine am_aload_n dX10_goOn_100 rfl ?_
  refine am_get (v := .inr (i, 48)) dX10_goOn_101 fl_10_244 (hG.mn hi (by decide) (by decide)) rfl ?_
  refine am_get (v := .inl (I4 i 48 6)) dX10_goOn_104 fl_10_353 (hG.mn hi (by decide) (by decide)) rfl ?_
  refine am_top (show I4 i 48 6 = nI 1 from (by simp [am_up, am_upf, upd, hkd, hst, hwl, hct, hlg, hlc, hch, hgv, hc, hen, hnu, ha, hp, hlm, hbk, hhd, hak, hI1, hI2, hI3, hI4])) ?_
  refine am_put (x := nI 1) dX10_goOn_107 fp_10_198 (hG.mn hi (by decide) (by decide)) (Nat.le_of_ble_eq_true rfl) rfl ?_
  refine am_aload_n dX10_goOn_110 rfl ?_
  refine am_aload_n dX10_goOn_111 rfl ?_
  refine am_callVe (i := 0) (j := 0) (as := [.inr (i, 40)]) (rest := []) dX10_goOn_112 lkX10_unpinAll ml_X10_356 imX10_unpinAll seX10_unpinAll rfl rfl (hG.m0 (by decide)) rfl (Nat.le_of_ble_eq_true rfl) rfl (c_unpinAll1 (r := a) hG hi (by omega) (am_up I4 i 55 10 (nI 1)) (by simp [am_up, am_upf, upd, hkd, hst, hwl, hct, hlg, hlc, hch, hgv, hc, hen, hnu, ha, hp, hlm, hbk, hhd, hak, hI1, hI2, hI3, hI4]) (by simp [am_up, am_upf, upd, hkd, hst, hwl, hct, hlg, hlc, hch, hgv, hc, hen, hnu, ha, hp, hlm, hbk, hhd, hak, hI1, hI2, hI3, hI4]) (by simp [am_up, am_upf, upd, hkd, hst, hwl, hct, hlg, hlc, hch, hgv, hc, hen, hnu, ha, hp, hlm, hbk, hhd, hak, hI1, hI2, hI3, hI4])) ?_
  refine am_nm (fun I5 hI5 => ?_)
  refine am_goto (tgt := 153) dX10_goOn_115 (by decide) ?_
  refine am_iinc (v := nI 1) dX10_goOn_153 rfl (by decide) ?_
  refine am_goto (tgt := 2) dX10_goOn_156 (by decide) ?_
  refine am_iload_n dX10_goOn_2 rfl ?_
  refine am_sipush (v := nI 274) dX10_goOn_3 (by decide) ?_
  refine am_icmp_ge (tgt := 159) dX10_goOn_6 (by decide) (fun h => absurd h (by decide)) (fun _ => ?_)
  refine am_aload_n dX10_goOn_9 rfl ?_
  refine am_aload_n dX10_goOn_10 rfl ?_
  refine am_callVx (i := 0) (j := 0) (as := [.inr (i, 40)]) (rest := []) dX10_goOn_11 lkX10_mayGoOn ml_X10_329 imX10_mayGoOn seX10_mayGoOn rfl rfl (hG.m0 (by decide)) rfl (Nat.le_of_ble_eq_true rfl) rfl (c_mayGoOn12 hG hi I5 (by simp [am_up, am_upf, upd, hkd, hst, hwl, hct, hlg, hlc, hch, hgv, hc, hen, hnu, ha, hp, hlm, hbk, hhd, hak, hI1, hI2, hI3, hI4, hI5]) (by simp [am_up, am_upf, upd, hkd, hst, hwl, hct, hlg, hlc, hch, hgv, hc, hen, hnu, ha, hp, hlm, hbk, hhd, hak, hI1, hI2, hI3, hI4, hI5]) (by simp [am_up, am_upf, upd, hkd, hst, hwl, hct, hlg, hlc, hch, hgv, hc, hen, hnu, ha, hp, hlm, hbk, hhd, hak, hI1, hI2, hI3, hI4, hI5]) (by simp [am_up, am_upf, upd, hkd, hst, hwl, hct, hlg, hlc, hch, hgv, hc, hen, hnu, ha, hp, hlm, hbk, hhd, hak, hI1, hI2, hI3, hI4, hI5]) (by simp [am_up, am_upf, upd, hkd, hst, hwl, hct, hlg, hlc, hch, hgv, hc, hen, hnu, ha, hp, hlm, hbk, hhd, hak, hI1, hI2, hI3, hI4, hI5])) ?_
  refine am_nm (fun I6 hI6 => ?_)
  refine am_if_eq (tgt := 159) dX10_goOn_14 (by decide) (fun h => absurd h (by decide)) (fun _ => ?_)
  refine am_aload_n dX10_goOn_17 rfl ?_
  refine am_aload_n dX10_goOn_18 rfl ?_
  refine am_callVx (i := 0) (j := 0) (as := [.inr (i, 40)]) (rest := []) dX10_goOn_19 lkX10_pinAll ml_X10_332 imX10_pinAll seX10_pinAll rfl rfl (hG.m0 (by decide)) rfl (Nat.le_of_ble_eq_true rfl) rfl (c_pinAll1_2 (r := a) hG hi (by omega) I6 (fun x hx => by simp [am_up, am_upf, upd, hj x hx, hI1, hI2, hI3, hI4, hI5, hI6]) (fun x hx => by simp [am_up, am_upf, upd, hu x hx, hI1, hI2, hI3, hI4, hI5, hI6]) (by simp [am_up, am_upf, upd, hkd, hst, hwl, hct, hlg, hlc, hch, hgv, hc, hen, hnu, ha, hp, hlm, hbk, hhd, hak, hI1, hI2, hI3, hI4, hI5, hI6]) (by simp [am_up, am_upf, upd, hkd, hst, hwl, hct, hlg, hlc, hch, hgv, hc, hen, hnu, ha, hp, hlm, hbk, hhd, hak, hI1, hI2, hI3, hI4, hI5, hI6]) (by simp [am_up, am_upf, upd, hkd, hst, hwl, hct, hlg, hlc, hch, hgv, hc, hen, hnu, ha, hp, hlm, hbk, hhd, hak, hI1, hI2, hI3, hI4, hI5, hI6]) (by simp [am_up, am_upf, upd, hkd, hst, hwl, hct, hlg, hlc, hch, hgv, hc, hen, hnu, ha, hp, hlm, hbk, hhd, hak, hI1, hI2, hI3, hI4, hI5, hI6]) (by simp [am_up, am_upf, upd, hkd, hst, hwl, hct, hlg, hlc, hch, hgv, hc, hen, hnu, ha, hp, hlm, hbk, hhd, hak, hI1, hI2, hI3, hI4, hI5, hI6]) (by simp [am_up, am_upf, upd, hkd, hst, hwl, hct, hlg, hlc, hch, hgv, hc, hen, hnu, ha, hp, hlm, hbk, hhd, hak, hI1, hI2, hI3, hI4, hI5, hI6]) (by simp [am_up, am_upf, upd, hkd, hst, hwl, hct, hlg, hlc, hch, hgv, hc, hen, hnu, ha, hp, hlm, hbk, hhd, hak, hI1, hI2, hI3, hI4, hI5, hI6]) (by simp [am_up, am_upf, upd, hkd, hst, hwl, hct, hlg, hlc, hch, hgv, hc, hen, hnu, ha, hp, hlm, hbk, hhd, hak, hI1, hI2, hI3, hI4, hI5, hI6]) (by simp [am_up, am_upf, upd, hkd, hst, hwl, hct, hlg, hlc, hch, hgv, hc, hen, hnu, ha, hp, hlm, hbk, hhd, hak, hI1, hI2, hI3, hI4, hI5, hI6])) ?_
  refine am_nm (fun I7 hI7 => ?_)
  refine am_if_eq (tgt := 159) dX10_goOn_22 (by decide) (fun _ => ?_) (fun h => absurd h (by decide))
  refine am_vret dX10_goOn_159 rfl ?_
  exact ⟨rfl, (by simp [am_up, am_upf, upd, hkd, hst, hwl, hct, hlg, hlc, hch, hgv, hc, hen, hnu, ha, hp, hlm, hbk, hhd, hak, hI1, hI2, hI3, hI4, hI5, hI6, hI7])⟩
theorem c_goOn13 {G : am_G} (hG : am_ok G) {d : Nat} {i a : Nat} (hi : i < G.2.2.2.1) (hab : a < 128) (I : am_I) (hj : ∀ x, x < G.2.2.2.1 → I x 40 6 = nI 1) (hu : ∀ x, x < G.2.2.2.1 → I x 40 5 = nI 1) (hkd : I i 55 0 = nI 13) (hst : I i 55 5 = nI 1) (hwl : I i 55 11 = nI 0) (hct : I i 44 5 = nI 0) (hlg : I i 44 2 = nI 0) (hlc : I i 48 6 = nI 0) (hch : I 0 15 5 = nI 0) (hgv : I 0 15 7 = nI 0) (hc : I 0 9 3 = nI 0) (hen : I 0 13 1 = nI 0) (hnu : I i 40 0 = nI i) (ha : I i 55 1 = nI a) (hp : I i 52 a = nI 0) (hlm : I i 54 a = nI 0) (hbk : I i 51 a = (-1 : Int32)) (hhd : I i 49 a = nI 0) (hak : I i 50 a = nI 0) : am_C G (d + 4) mX10_goOn [.inr (0, 0), .inr (i, 40)] I (fun r I' => r = none ∧ I' i 55 5 = nI 1) := by
  have hn4 := hG.hi
  have hn2 := hG.lo
  refine am_of (by decide +kernel) hG.nd (Nat.le_of_ble_eq_true rfl) ?_
  refine am_iconst (v := nI 0) dX10_goOn_0 (by decide) ?_
  refine am_istore_n dX10_goOn_1 (by decide) ?_
  refine am_iload_n dX10_goOn_2 rfl ?_
  refine am_sipush (v := nI 274) dX10_goOn_3 (by decide) ?_
  refine am_icmp_ge (tgt := 159) dX10_goOn_6 (by decide) (fun h => absurd h (by decide)) (fun _ => ?_)
  refine am_aload_n dX10_goOn_9 rfl ?_
  refine am_aload_n dX10_goOn_10 rfl ?_
  refine am_callVx (i := 0) (j := 0) (as := [.inr (i, 40)]) (rest := []) dX10_goOn_11 lkX10_mayGoOn ml_X10_329 imX10_mayGoOn seX10_mayGoOn rfl rfl (hG.m0 (by decide)) rfl (Nat.le_of_ble_eq_true rfl) rfl (c_mayGoOn13 hG hi I (by simp [am_up, am_upf, upd, hkd, hst, hwl, hct, hlg, hlc, hch, hgv, hc, hen, hnu, ha, hp, hlm, hbk, hhd, hak]) (by simp [am_up, am_upf, upd, hkd, hst, hwl, hct, hlg, hlc, hch, hgv, hc, hen, hnu, ha, hp, hlm, hbk, hhd, hak]) (by simp [am_up, am_upf, upd, hkd, hst, hwl, hct, hlg, hlc, hch, hgv, hc, hen, hnu, ha, hp, hlm, hbk, hhd, hak]) (by simp [am_up, am_upf, upd, hkd, hst, hwl, hct, hlg, hlc, hch, hgv, hc, hen, hnu, ha, hp, hlm, hbk, hhd, hak]) (by simp [am_up, am_upf, upd, hkd, hst, hwl, hct, hlg, hlc, hch, hgv, hc, hen, hnu, ha, hp, hlm, hbk, hhd, hak])) ?_
  refine am_nm (fun I1 hI1 => ?_)
  refine am_if_eq (tgt := 159) dX10_goOn_14 (by decide) (fun h => absurd h (by decide)) (fun _ => ?_)
  refine am_aload_n dX10_goOn_17 rfl ?_
  refine am_aload_n dX10_goOn_18 rfl ?_
  refine am_callVx (i := 0) (j := 0) (as := [.inr (i, 40)]) (rest := []) dX10_goOn_19 lkX10_pinAll ml_X10_332 imX10_pinAll seX10_pinAll rfl rfl (hG.m0 (by decide)) rfl (Nat.le_of_ble_eq_true rfl) rfl (c_pinAll0 hG hi I1 (by simp [am_up, am_upf, upd, hkd, hst, hwl, hct, hlg, hlc, hch, hgv, hc, hen, hnu, ha, hp, hlm, hbk, hhd, hak, hI1])) ?_
  refine am_if_eq (tgt := 159) dX10_goOn_22 (by decide) (fun h => absurd h (by decide)) (fun _ => ?_)
  refine am_aload_n dX10_goOn_25 rfl ?_
  refine am_get (v := .inr (i, 55)) dX10_goOn_26 fl_10_84 (hG.mn hi (by decide) (by decide)) rfl ?_
  refine am_dup dX10_goOn_29 ?_
  refine am_get (v := .inl (I1 i 55 9)) dX10_goOn_30 fl_10_195 (hG.mn hi (by decide) (by decide)) rfl ?_
  refine am_iconst (v := nI 1) dX10_goOn_33 (by decide) ?_
  refine am_iadd dX10_goOn_34 ?_
  refine am_put (x := (I1 i 55 9) + (nI 1)) dX10_goOn_35 fp_10_195 (hG.mn hi (by decide) (by decide)) (Nat.le_of_ble_eq_true rfl) rfl ?_
  refine am_aload_n dX10_goOn_38 rfl ?_
  refine am_get (v := .inr (0, 15)) dX10_goOn_39 fl_10_52 (hG.m0 (by decide)) rfl ?_
  refine am_aload_n dX10_goOn_42 rfl ?_
  refine am_callVe (i := 0) (j := 15) (as := [.inr (i, 40)]) (rest := []) dX10_goOn_43 lkX9_run ml_X10_335 imX9_run seX9_run rfl rfl (hG.m0 (by decide)) rfl (Nat.le_of_ble_eq_true rfl) rfl (c_run13 (a := a) hG hi (by omega) (am_up I1 i 55 9 ((I1 i 55 9) + (nI 1))) (by simp [am_up, am_upf, upd, hkd, hst, hwl, hct, hlg, hlc, hch, hgv, hc, hen, hnu, ha, hp, hlm, hbk, hhd, hak, hI1]) (by simp [am_up, am_upf, upd, hkd, hst, hwl, hct, hlg, hlc, hch, hgv, hc, hen, hnu, ha, hp, hlm, hbk, hhd, hak, hI1]) (by simp [am_up, am_upf, upd, hkd, hst, hwl, hct, hlg, hlc, hch, hgv, hc, hen, hnu, ha, hp, hlm, hbk, hhd, hak, hI1])) ?_
  refine am_nm (fun I2 hI2 => ?_)
  refine am_aload_n dX10_goOn_46 rfl ?_
  refine am_get (v := .inr (0, 15)) dX10_goOn_47 fl_10_52 (hG.m0 (by decide)) rfl ?_
  refine am_get (v := .inl (I2 0 15 9)) dX10_goOn_50 fl_10_338 (hG.m0 (by decide)) rfl ?_
  refine am_top (show I2 0 15 9 = nI 3 from (by simp [am_up, am_upf, upd, hkd, hst, hwl, hct, hlg, hlc, hch, hgv, hc, hen, hnu, ha, hp, hlm, hbk, hhd, hak, hI1, hI2])) ?_
  refine am_iconst (v := nI 1) dX10_goOn_53 (by decide) ?_
  refine am_icmp_eq (tgt := 64) dX10_goOn_54 (by decide) (fun h => absurd h (by decide)) (fun _ => ?_)
  refine am_aload_n dX10_goOn_57 rfl ?_
  refine am_get (v := .inr (0, 15)) dX10_goOn_58 fl_10_52 (hG.m0 (by decide)) rfl ?_
  refine am_callVe (i := 0) (j := 15) (as := []) (rest := []) dX10_goOn_61 lkX9_undo ml_X10_341 imX9_undo seX9_undo rfl rfl (hG.m0 (by decide)) rfl (Nat.le_of_ble_eq_true rfl) rfl (c_undo0 hG hi I2 (by simp [am_up, am_upf, upd, hkd, hst, hwl, hct, hlg, hlc, hch, hgv, hc, hen, hnu, ha, hp, hlm, hbk, hhd, hak, hI1, hI2]) (by simp [am_up, am_upf, upd, hkd, hst, hwl, hct, hlg, hlc, hch, hgv, hc, hen, hnu, ha, hp, hlm, hbk, hhd, hak, hI1, hI2])) ?_
  refine am_nm (fun I3 hI3 => ?_)
  refine am_aload_n dX10_goOn_64 rfl ?_
  refine am_get (v := .inr (0, 15)) dX10_goOn_65 fl_10_52 (hG.m0 (by decide)) rfl ?_
  refine am_get (v := .inl (I3 0 15 9)) dX10_goOn_68 fl_10_338 (hG.m0 (by decide)) rfl ?_
  refine am_top (show I3 0 15 9 = nI 3 from (by simp [am_up, am_upf, upd, hkd, hst, hwl, hct, hlg, hlc, hch, hgv, hc, hen, hnu, ha, hp, hlm, hbk, hhd, hak, hI1, hI2, hI3])) ?_
  refine am_iconst (v := nI 3) dX10_goOn_71 (by decide) ?_
  refine am_icmp_ne (tgt := 118) dX10_goOn_72 (by decide) (fun h => absurd h (by decide)) (fun _ => ?_)
  refine am_aload_n dX10_goOn_75 rfl ?_
  refine am_get (v := .inr (i, 48)) dX10_goOn_76 fl_10_244 (hG.mn hi (by decide) (by decide)) rfl ?_
  refine am_aload_n dX10_goOn_79 rfl ?_
  refine am_get (v := .inr (0, 15)) dX10_goOn_80 fl_10_52 (hG.m0 (by decide)) rfl ?_
  refine am_get (v := .inl (I3 0 15 11)) dX10_goOn_83 fl_10_344 (hG.m0 (by decide)) rfl ?_
  refine am_top (show I3 0 15 11 = nI a from (by simp [am_up, am_upf, upd, hkd, hst, hwl, hct, hlg, hlc, hch, hgv, hc, hen, hnu, ha, hp, hlm, hbk, hhd, hak, hI1, hI2, hI3])) ?_
  refine am_aload_n dX10_goOn_86 rfl ?_
  refine am_get (v := .inr (0, 15)) dX10_goOn_87 fl_10_52 (hG.m0 (by decide)) rfl ?_
  refine am_get (v := .inl (I3 0 15 12)) dX10_goOn_90 fl_10_347 (hG.m0 (by decide)) rfl ?_
  refine am_top (show I3 0 15 12 = nI 1 from (by simp [am_up, am_upf, upd, hkd, hst, hwl, hct, hlg, hlc, hch, hgv, hc, hen, hnu, ha, hp, hlm, hbk, hhd, hak, hI1, hI2, hI3])) ?_
  refine am_callVe (i := i) (j := 48) (as := [.inl (nI a), .inl (nI 1)]) (rest := []) dX10_goOn_93 lkX4_list ml_X10_350 imX4_list seX4_list rfl rfl (hG.mn hi (by decide) (by decide)) rfl (Nat.le_of_ble_eq_true rfl) rfl (c_list0 hG hi (by omega) (nI 1) I3 (by simp [am_up, am_upf, upd, hkd, hst, hwl, hct, hlg, hlc, hch, hgv, hc, hen, hnu, ha, hp, hlm, hbk, hhd, hak, hI1, hI2, hI3]) (by simp [am_up, am_upf, upd, hkd, hst, hwl, hct, hlg, hlc, hch, hgv, hc, hen, hnu, ha, hp, hlm, hbk, hhd, hak, hI1, hI2, hI3])) ?_
  refine am_nm (fun I4 hI4 => ?_)
  refine am_aload_n dX10_goOn_96 rfl ?_
  refine am_get (v := .inr (i, 55)) dX10_goOn_97 fl_10_84 (hG.mn hi (by decide) (by decide)) rfl ?_
  refine am_aload_n dX10_goOn_100 rfl ?_
  refine am_get (v := .inr (i, 48)) dX10_goOn_101 fl_10_244 (hG.mn hi (by decide) (by decide)) rfl ?_
  refine am_get (v := .inl (I4 i 48 6)) dX10_goOn_104 fl_10_353 (hG.mn hi (by decide) (by decide)) rfl ?_
  refine am_top (show I4 i 48 6 = nI 1 from (by simp [am_up, am_upf, upd, hkd, hst, hwl, hct, hlg, hlc, hch, hgv, hc, hen, hnu, ha, hp, hlm, hbk, hhd, hak, hI1, hI2, hI3, hI4])) ?_
  refine am_put (x := nI 1) dX10_goOn_107 fp_10_198 (hG.mn hi (by decide) (by decide)) (Nat.le_of_ble_eq_true rfl) rfl ?_
  refine am_aload_n dX10_goOn_110 rfl ?_
  refine am_aload_n dX10_goOn_111 rfl ?_
  refine am_callVe (i := 0) (j := 0) (as := [.inr (i, 40)]) (rest := []) dX10_goOn_112 lkX10_unpinAll ml_X10_356 imX10_unpinAll seX10_unpinAll rfl rfl (hG.m0 (by decide)) rfl (Nat.le_of_ble_eq_true rfl) rfl (c_unpinAll1 (r := a) hG hi (by omega) (am_up I4 i 55 10 (nI 1)) (by simp [am_up, am_upf, upd, hkd, hst, hwl, hct, hlg, hlc, hch, hgv, hc, hen, hnu, ha, hp, hlm, hbk, hhd, hak, hI1, hI2, hI3, hI4]) (by simp [am_up, am_upf, upd, hkd, hst, hwl, hct, hlg, hlc, hch, hgv, hc, hen, hnu, ha, hp, hlm, hbk, hhd, hak, hI1, hI2, hI3, hI4]) (by simp [am_up, am_upf, upd, hkd, hst, hwl, hct, hlg, hlc, hch, hgv, hc, hen, hnu, ha, hp, hlm, hbk, hhd, hak, hI1, hI2, hI3, hI4])) ?_
  refine am_nm (fun I5 hI5 => ?_)
  refine am_goto (tgt := 153) dX10_goOn_115 (by decide) ?_
  refine am_iinc (v := nI 1) dX10_goOn_153 rfl (by decide) ?_
  refine am_goto (tgt := 2) dX10_goOn_156 (by decide) ?_
  refine am_iload_n dX10_goOn_2 rfl ?_
  refine am_sipush (v := nI 274) dX10_goOn_3 (by decide) ?_
  refine am_icmp_ge (tgt := 159) dX10_goOn_6 (by decide) (fun h => absurd h (by decide)) (fun _ => ?_)
  refine am_aload_n dX10_goOn_9 rfl ?_
  refine am_aload_n dX10_goOn_10 rfl ?_
  refine am_callVx (i := 0) (j := 0) (as := [.inr (i, 40)]) (rest := []) dX10_goOn_11 lkX10_mayGoOn ml_X10_329 imX10_mayGoOn seX10_mayGoOn rfl rfl (hG.m0 (by decide)) rfl (Nat.le_of_ble_eq_true rfl) rfl (c_mayGoOn13 hG hi I5 (by simp [am_up, am_upf, upd, hkd, hst, hwl, hct, hlg, hlc, hch, hgv, hc, hen, hnu, ha, hp, hlm, hbk, hhd, hak, hI1, hI2, hI3, hI4, hI5]) (by simp [am_up, am_upf, upd, hkd, hst, hwl, hct, hlg, hlc, hch, hgv, hc, hen, hnu, ha, hp, hlm, hbk, hhd, hak, hI1, hI2, hI3, hI4, hI5]) (by simp [am_up, am_upf, upd, hkd, hst, hwl, hct, hlg, hlc, hch, hgv, hc, hen, hnu, ha, hp, hlm, hbk, hhd, hak, hI1, hI2, hI3, hI4, hI5]) (by simp [am_up, am_upf, upd, hkd, hst, hwl, hct, hlg, hlc, hch, hgv, hc, hen, hnu, ha, hp, hlm, hbk, hhd, hak, hI1, hI2, hI3, hI4, hI5]) (by simp [am_up, am_upf, upd, hkd, hst, hwl, hct, hlg, hlc, hch, hgv, hc, hen, hnu, ha, hp, hlm, hbk, hhd, hak, hI1, hI2, hI3, hI4, hI5])) ?_
  refine am_nm (fun I6 hI6 => ?_)
  refine am_if_eq (tgt := 159) dX10_goOn_14 (by decide) (fun h => absurd h (by decide)) (fun _ => ?_)
  refine am_aload_n dX10_goOn_17 rfl ?_
  refine am_aload_n dX10_goOn_18 rfl ?_
  refine am_callVx (i := 0) (j := 0) (as := [.inr (i, 40)]) (rest := []) dX10_goOn_19 lkX10_pinAll ml_X10_332 imX10_pinAll seX10_pinAll rfl rfl (hG.m0 (by decide)) rfl (Nat.le_of_ble_eq_true rfl) rfl (c_pinAll1_1 (r := a) hG hi (by omega) I6 (fun x hx => by simp [am_up, am_upf, upd, hj x hx, hI1, hI2, hI3, hI4, hI5, hI6]) (fun x hx => by simp [am_up, am_upf, upd, hu x hx, hI1, hI2, hI3, hI4, hI5, hI6]) (by simp [am_up, am_upf, upd, hkd, hst, hwl, hct, hlg, hlc, hch, hgv, hc, hen, hnu, ha, hp, hlm, hbk, hhd, hak, hI1, hI2, hI3, hI4, hI5, hI6]) (by simp [am_up, am_upf, upd, hkd, hst, hwl, hct, hlg, hlc, hch, hgv, hc, hen, hnu, ha, hp, hlm, hbk, hhd, hak, hI1, hI2, hI3, hI4, hI5, hI6]) (by simp [am_up, am_upf, upd, hkd, hst, hwl, hct, hlg, hlc, hch, hgv, hc, hen, hnu, ha, hp, hlm, hbk, hhd, hak, hI1, hI2, hI3, hI4, hI5, hI6]) (by simp [am_up, am_upf, upd, hkd, hst, hwl, hct, hlg, hlc, hch, hgv, hc, hen, hnu, ha, hp, hlm, hbk, hhd, hak, hI1, hI2, hI3, hI4, hI5, hI6]) (by simp [am_up, am_upf, upd, hkd, hst, hwl, hct, hlg, hlc, hch, hgv, hc, hen, hnu, ha, hp, hlm, hbk, hhd, hak, hI1, hI2, hI3, hI4, hI5, hI6]) (by simp [am_up, am_upf, upd, hkd, hst, hwl, hct, hlg, hlc, hch, hgv, hc, hen, hnu, ha, hp, hlm, hbk, hhd, hak, hI1, hI2, hI3, hI4, hI5, hI6]) (by simp [am_up, am_upf, upd, hkd, hst, hwl, hct, hlg, hlc, hch, hgv, hc, hen, hnu, ha, hp, hlm, hbk, hhd, hak, hI1, hI2, hI3, hI4, hI5, hI6]) (by simp [am_up, am_upf, upd, hkd, hst, hwl, hct, hlg, hlc, hch, hgv, hc, hen, hnu, ha, hp, hlm, hbk, hhd, hak, hI1, hI2, hI3, hI4, hI5, hI6]) (by simp [am_up, am_upf, upd, hkd, hst, hwl, hct, hlg, hlc, hch, hgv, hc, hen, hnu, ha, hp, hlm, hbk, hhd, hak, hI1, hI2, hI3, hI4, hI5, hI6])) ?_
  refine am_nm (fun I7 hI7 => ?_)
  refine am_if_eq (tgt := 159) dX10_goOn_22 (by decide) (fun _ => ?_) (fun h => absurd h (by decide))
  refine am_vret dX10_goOn_159 rfl ?_
  exact ⟨rfl, (by simp [am_up, am_upf, upd, hkd, hst, hwl, hct, hlg, hlc, hch, hgv, hc, hen, hnu, ha, hp, hlm, hbk, hhd, hak, hI1, hI2, hI3, hI4, hI5, hI6, hI7])⟩
theorem c_goOn14 {G : am_G} (hG : am_ok G) {d : Nat} {i : Nat} (hi : i < G.2.2.2.1) (I : am_I) (hj : ∀ x, x < G.2.2.2.1 → I x 40 6 = nI 1) (hu : ∀ x, x < G.2.2.2.1 → I x 40 5 = nI 1) (hkd : I i 55 0 = nI 14) (hst : I i 55 5 = nI 1) (hwl : I i 55 11 = nI 0) (hct : I i 44 5 = nI 0) (hlg : I i 44 2 = nI 0) (hlc : I i 48 6 = nI 0) (hch : I 0 15 5 = nI 0) (hgv : I 0 15 7 = nI 0) (hc : I 0 9 3 = nI 0) (hen : I 0 13 1 = nI 0) (hnu : I i 40 0 = nI i) (hp : I i 52 128 = nI 0) (hlm : I i 54 128 = nI 0) (hbk : I i 51 128 = (-1 : Int32)) (hhd : I i 49 128 = nI 0) (hak : I i 50 128 = nI 0) : am_C G (d + 4) mX10_goOn [.inr (0, 0), .inr (i, 40)] I (fun r I' => r = none ∧ I' i 55 5 = nI 1) := by
  have hn4 := hG.hi
  have hn2 := hG.lo
  refine am_of (by decide +kernel) hG.nd (Nat.le_of_ble_eq_true rfl) ?_
  refine am_iconst (v := nI 0) dX10_goOn_0 (by decide) ?_
  refine am_istore_n dX10_goOn_1 (by decide) ?_
  refine am_iload_n dX10_goOn_2 rfl ?_
  refine am_sipush (v := nI 274) dX10_goOn_3 (by decide) ?_
  refine am_icmp_ge (tgt := 159) dX10_goOn_6 (by decide) (fun h => absurd h (by decide)) (fun _ => ?_)
  refine am_aload_n dX10_goOn_9 rfl ?_
  refine am_aload_n dX10_goOn_10 rfl ?_
  refine am_callVx (i := 0) (j := 0) (as := [.inr (i, 40)]) (rest := []) dX10_goOn_11 lkX10_mayGoOn ml_X10_329 imX10_mayGoOn seX10_mayGoOn rfl rfl (hG.m0 (by decide)) rfl (Nat.le_of_ble_eq_true rfl) rfl (c_mayGoOn14 hG hi I (by simp [am_up, am_upf, upd, hkd, hst, hwl, hct, hlg, hlc, hch, hgv, hc, hen, hnu, hp, hlm, hbk, hhd, hak]) (by simp [am_up, am_upf, upd, hkd, hst, hwl, hct, hlg, hlc, hch, hgv, hc, hen, hnu, hp, hlm, hbk, hhd, hak]) (by simp [am_up, am_upf, upd, hkd, hst, hwl, hct, hlg, hlc, hch, hgv, hc, hen, hnu, hp, hlm, hbk, hhd, hak]) (by simp [am_up, am_upf, upd, hkd, hst, hwl, hct, hlg, hlc, hch, hgv, hc, hen, hnu, hp, hlm, hbk, hhd, hak]) (by simp [am_up, am_upf, upd, hkd, hst, hwl, hct, hlg, hlc, hch, hgv, hc, hen, hnu, hp, hlm, hbk, hhd, hak])) ?_
  refine am_nm (fun I1 hI1 => ?_)
  refine am_if_eq (tgt := 159) dX10_goOn_14 (by decide) (fun h => absurd h (by decide)) (fun _ => ?_)
  refine am_aload_n dX10_goOn_17 rfl ?_
  refine am_aload_n dX10_goOn_18 rfl ?_
  refine am_callVx (i := 0) (j := 0) (as := [.inr (i, 40)]) (rest := []) dX10_goOn_19 lkX10_pinAll ml_X10_332 imX10_pinAll seX10_pinAll rfl rfl (hG.m0 (by decide)) rfl (Nat.le_of_ble_eq_true rfl) rfl (c_pinAll0 hG hi I1 (by simp [am_up, am_upf, upd, hkd, hst, hwl, hct, hlg, hlc, hch, hgv, hc, hen, hnu, hp, hlm, hbk, hhd, hak, hI1])) ?_
  refine am_if_eq (tgt := 159) dX10_goOn_22 (by decide) (fun h => absurd h (by decide)) (fun _ => ?_)
  refine am_aload_n dX10_goOn_25 rfl ?_
  refine am_get (v := .inr (i, 55)) dX10_goOn_26 fl_10_84 (hG.mn hi (by decide) (by decide)) rfl ?_
  refine am_dup dX10_goOn_29 ?_
  refine am_get (v := .inl (I1 i 55 9)) dX10_goOn_30 fl_10_195 (hG.mn hi (by decide) (by decide)) rfl ?_
  refine am_iconst (v := nI 1) dX10_goOn_33 (by decide) ?_
  refine am_iadd dX10_goOn_34 ?_
  refine am_put (x := (I1 i 55 9) + (nI 1)) dX10_goOn_35 fp_10_195 (hG.mn hi (by decide) (by decide)) (Nat.le_of_ble_eq_true rfl) rfl ?_
  refine am_aload_n dX10_goOn_38 rfl ?_
  refine am_get (v := .inr (0, 15)) dX10_goOn_39 fl_10_52 (hG.m0 (by decide)) rfl ?_
  refine am_aload_n dX10_goOn_42 rfl ?_
  refine am_callVe (i := 0) (j := 15) (as := [.inr (i, 40)]) (rest := []) dX10_goOn_43 lkX9_run ml_X10_335 imX9_run seX9_run rfl rfl (hG.m0 (by decide)) rfl (Nat.le_of_ble_eq_true rfl) rfl (c_run14 hG hi (am_up I1 i 55 9 ((I1 i 55 9) + (nI 1))) (by simp [am_up, am_upf, upd, hkd, hst, hwl, hct, hlg, hlc, hch, hgv, hc, hen, hnu, hp, hlm, hbk, hhd, hak, hI1]) (by simp [am_up, am_upf, upd, hkd, hst, hwl, hct, hlg, hlc, hch, hgv, hc, hen, hnu, hp, hlm, hbk, hhd, hak, hI1])) ?_
  refine am_nm (fun I2 hI2 => ?_)
  refine am_aload_n dX10_goOn_46 rfl ?_
  refine am_get (v := .inr (0, 15)) dX10_goOn_47 fl_10_52 (hG.m0 (by decide)) rfl ?_
  refine am_get (v := .inl (I2 0 15 9)) dX10_goOn_50 fl_10_338 (hG.m0 (by decide)) rfl ?_
  refine am_top (show I2 0 15 9 = nI 3 from (by simp [am_up, am_upf, upd, hkd, hst, hwl, hct, hlg, hlc, hch, hgv, hc, hen, hnu, hp, hlm, hbk, hhd, hak, hI1, hI2])) ?_
  refine am_iconst (v := nI 1) dX10_goOn_53 (by decide) ?_
  refine am_icmp_eq (tgt := 64) dX10_goOn_54 (by decide) (fun h => absurd h (by decide)) (fun _ => ?_)
  refine am_aload_n dX10_goOn_57 rfl ?_
  refine am_get (v := .inr (0, 15)) dX10_goOn_58 fl_10_52 (hG.m0 (by decide)) rfl ?_
  refine am_callVe (i := 0) (j := 15) (as := []) (rest := []) dX10_goOn_61 lkX9_undo ml_X10_341 imX9_undo seX9_undo rfl rfl (hG.m0 (by decide)) rfl (Nat.le_of_ble_eq_true rfl) rfl (c_undo0 hG hi I2 (by simp [am_up, am_upf, upd, hkd, hst, hwl, hct, hlg, hlc, hch, hgv, hc, hen, hnu, hp, hlm, hbk, hhd, hak, hI1, hI2]) (by simp [am_up, am_upf, upd, hkd, hst, hwl, hct, hlg, hlc, hch, hgv, hc, hen, hnu, hp, hlm, hbk, hhd, hak, hI1, hI2])) ?_
  refine am_nm (fun I3 hI3 => ?_)
  refine am_aload_n dX10_goOn_64 rfl ?_
  refine am_get (v := .inr (0, 15)) dX10_goOn_65 fl_10_52 (hG.m0 (by decide)) rfl ?_
  refine am_get (v := .inl (I3 0 15 9)) dX10_goOn_68 fl_10_338 (hG.m0 (by decide)) rfl ?_
  refine am_top (show I3 0 15 9 = nI 3 from (by simp [am_up, am_upf, upd, hkd, hst, hwl, hct, hlg, hlc, hch, hgv, hc, hen, hnu, hp, hlm, hbk, hhd, hak, hI1, hI2, hI3])) ?_
  refine am_iconst (v := nI 3) dX10_goOn_71 (by decide) ?_
  refine am_icmp_ne (tgt := 118) dX10_goOn_72 (by decide) (fun h => absurd h (by decide)) (fun _ => ?_)
  refine am_aload_n dX10_goOn_75 rfl ?_
  refine am_get (v := .inr (i, 48)) dX10_goOn_76 fl_10_244 (hG.mn hi (by decide) (by decide)) rfl ?_
  refine am_aload_n dX10_goOn_79 rfl ?_
  refine am_get (v := .inr (0, 15)) dX10_goOn_80 fl_10_52 (hG.m0 (by decide)) rfl ?_
  refine am_get (v := .inl (I3 0 15 11)) dX10_goOn_83 fl_10_344 (hG.m0 (by decide)) rfl ?_
  refine am_top (show I3 0 15 11 = nI 128 from (by simp [am_up, am_upf, upd, hkd, hst, hwl, hct, hlg, hlc, hch, hgv, hc, hen, hnu, hp, hlm, hbk, hhd, hak, hI1, hI2, hI3])) ?_
  refine am_aload_n dX10_goOn_86 rfl ?_
  refine am_get (v := .inr (0, 15)) dX10_goOn_87 fl_10_52 (hG.m0 (by decide)) rfl ?_
  refine am_get (v := .inl (I3 0 15 12)) dX10_goOn_90 fl_10_347 (hG.m0 (by decide)) rfl ?_
  refine am_top (show I3 0 15 12 = nI 1 from (by simp [am_up, am_upf, upd, hkd, hst, hwl, hct, hlg, hlc, hch, hgv, hc, hen, hnu, hp, hlm, hbk, hhd, hak, hI1, hI2, hI3])) ?_
  refine am_callVe (i := i) (j := 48) (as := [.inl (nI 128), .inl (nI 1)]) (rest := []) dX10_goOn_93 lkX4_list ml_X10_350 imX4_list seX4_list rfl rfl (hG.mn hi (by decide) (by decide)) rfl (Nat.le_of_ble_eq_true rfl) rfl (c_list0 hG hi (by omega) (nI 1) I3 (by simp [am_up, am_upf, upd, hkd, hst, hwl, hct, hlg, hlc, hch, hgv, hc, hen, hnu, hp, hlm, hbk, hhd, hak, hI1, hI2, hI3]) (by simp [am_up, am_upf, upd, hkd, hst, hwl, hct, hlg, hlc, hch, hgv, hc, hen, hnu, hp, hlm, hbk, hhd, hak, hI1, hI2, hI3])) ?_
  refine am_nm (fun I4 hI4 => ?_)
  refine am_aload_n dX10_goOn_96 rfl ?_
  refine am_get (v := .inr (i, 55)) dX10_goOn_97 fl_10_84 (hG.mn hi (by decide) (by decide)) rfl ?_
  refine am_aload_n dX10_goOn_100 rfl ?_
  refine am_get (v := .inr (i, 48)) dX10_goOn_101 fl_10_244 (hG.mn hi (by decide) (by decide)) rfl ?_
  refine am_get (v := .inl (I4 i 48 6)) dX10_goOn_104 fl_10_353 (hG.mn hi (by decide) (by decide)) rfl ?_
  refine am_top (show I4 i 48 6 = nI 1 from (by simp [am_up, am_upf, upd, hkd, hst, hwl, hct, hlg, hlc, hch, hgv, hc, hen, hnu, hp, hlm, hbk, hhd, hak, hI1, hI2, hI3, hI4])) ?_
  refine am_put (x := nI 1) dX10_goOn_107 fp_10_198 (hG.mn hi (by decide) (by decide)) (Nat.le_of_ble_eq_true rfl) rfl ?_
  refine am_aload_n dX10_goOn_110 rfl ?_
  refine am_aload_n dX10_goOn_111 rfl ?_
  refine am_callVe (i := 0) (j := 0) (as := [.inr (i, 40)]) (rest := []) dX10_goOn_112 lkX10_unpinAll ml_X10_356 imX10_unpinAll seX10_unpinAll rfl rfl (hG.m0 (by decide)) rfl (Nat.le_of_ble_eq_true rfl) rfl (c_unpinAll1 (r := 128) hG hi (by omega) (am_up I4 i 55 10 (nI 1)) (by simp [am_up, am_upf, upd, hkd, hst, hwl, hct, hlg, hlc, hch, hgv, hc, hen, hnu, hp, hlm, hbk, hhd, hak, hI1, hI2, hI3, hI4]) (by simp [am_up, am_upf, upd, hkd, hst, hwl, hct, hlg, hlc, hch, hgv, hc, hen, hnu, hp, hlm, hbk, hhd, hak, hI1, hI2, hI3, hI4]) (by simp [am_up, am_upf, upd, hkd, hst, hwl, hct, hlg, hlc, hch, hgv, hc, hen, hnu, hp, hlm, hbk, hhd, hak, hI1, hI2, hI3, hI4])) ?_
  refine am_nm (fun I5 hI5 => ?_)
  refine am_goto (tgt := 153) dX10_goOn_115 (by decide) ?_
  refine am_iinc (v := nI 1) dX10_goOn_153 rfl (by decide) ?_
  refine am_goto (tgt := 2) dX10_goOn_156 (by decide) ?_
  refine am_iload_n dX10_goOn_2 rfl ?_
  refine am_sipush (v := nI 274) dX10_goOn_3 (by decide) ?_
  refine am_icmp_ge (tgt := 159) dX10_goOn_6 (by decide) (fun h => absurd h (by decide)) (fun _ => ?_)
  refine am_aload_n dX10_goOn_9 rfl ?_
  refine am_aload_n dX10_goOn_10 rfl ?_
  refine am_callVx (i := 0) (j := 0) (as := [.inr (i, 40)]) (rest := []) dX10_goOn_11 lkX10_mayGoOn ml_X10_329 imX10_mayGoOn seX10_mayGoOn rfl rfl (hG.m0 (by decide)) rfl (Nat.le_of_ble_eq_true rfl) rfl (c_mayGoOn14 hG hi I5 (by simp [am_up, am_upf, upd, hkd, hst, hwl, hct, hlg, hlc, hch, hgv, hc, hen, hnu, hp, hlm, hbk, hhd, hak, hI1, hI2, hI3, hI4, hI5]) (by simp [am_up, am_upf, upd, hkd, hst, hwl, hct, hlg, hlc, hch, hgv, hc, hen, hnu, hp, hlm, hbk, hhd, hak, hI1, hI2, hI3, hI4, hI5]) (by simp [am_up, am_upf, upd, hkd, hst, hwl, hct, hlg, hlc, hch, hgv, hc, hen, hnu, hp, hlm, hbk, hhd, hak, hI1, hI2, hI3, hI4, hI5]) (by simp [am_up, am_upf, upd, hkd, hst, hwl, hct, hlg, hlc, hch, hgv, hc, hen, hnu, hp, hlm, hbk, hhd, hak, hI1, hI2, hI3, hI4, hI5]) (by simp [am_up, am_upf, upd, hkd, hst, hwl, hct, hlg, hlc, hch, hgv, hc, hen, hnu, hp, hlm, hbk, hhd, hak, hI1, hI2, hI3, hI4, hI5])) ?_
  refine am_nm (fun I6 hI6 => ?_)
  refine am_if_eq (tgt := 159) dX10_goOn_14 (by decide) (fun h => absurd h (by decide)) (fun _ => ?_)
  refine am_aload_n dX10_goOn_17 rfl ?_
  refine am_aload_n dX10_goOn_18 rfl ?_
  refine am_callVx (i := 0) (j := 0) (as := [.inr (i, 40)]) (rest := []) dX10_goOn_19 lkX10_pinAll ml_X10_332 imX10_pinAll seX10_pinAll rfl rfl (hG.m0 (by decide)) rfl (Nat.le_of_ble_eq_true rfl) rfl (c_pinAll1_1 (r := 128) hG hi (by omega) I6 (fun x hx => by simp [am_up, am_upf, upd, hj x hx, hI1, hI2, hI3, hI4, hI5, hI6]) (fun x hx => by simp [am_up, am_upf, upd, hu x hx, hI1, hI2, hI3, hI4, hI5, hI6]) (by simp [am_up, am_upf, upd, hkd, hst, hwl, hct, hlg, hlc, hch, hgv, hc, hen, hnu, hp, hlm, hbk, hhd, hak, hI1, hI2, hI3, hI4, hI5, hI6]) (by simp [am_up, am_upf, upd, hkd, hst, hwl, hct, hlg, hlc, hch, hgv, hc, hen, hnu, hp, hlm, hbk, hhd, hak, hI1, hI2, hI3, hI4, hI5, hI6]) (by simp [am_up, am_upf, upd, hkd, hst, hwl, hct, hlg, hlc, hch, hgv, hc, hen, hnu, hp, hlm, hbk, hhd, hak, hI1, hI2, hI3, hI4, hI5, hI6]) (by simp [am_up, am_upf, upd, hkd, hst, hwl, hct, hlg, hlc, hch, hgv, hc, hen, hnu, hp, hlm, hbk, hhd, hak, hI1, hI2, hI3, hI4, hI5, hI6]) (by simp [am_up, am_upf, upd, hkd, hst, hwl, hct, hlg, hlc, hch, hgv, hc, hen, hnu, hp, hlm, hbk, hhd, hak, hI1, hI2, hI3, hI4, hI5, hI6]) (by simp [am_up, am_upf, upd, hkd, hst, hwl, hct, hlg, hlc, hch, hgv, hc, hen, hnu, hp, hlm, hbk, hhd, hak, hI1, hI2, hI3, hI4, hI5, hI6]) (by simp [am_up, am_upf, upd, hkd, hst, hwl, hct, hlg, hlc, hch, hgv, hc, hen, hnu, hp, hlm, hbk, hhd, hak, hI1, hI2, hI3, hI4, hI5, hI6]) (by simp [am_up, am_upf, upd, hkd, hst, hwl, hct, hlg, hlc, hch, hgv, hc, hen, hnu, hp, hlm, hbk, hhd, hak, hI1, hI2, hI3, hI4, hI5, hI6]) (by simp [am_up, am_upf, upd, hkd, hst, hwl, hct, hlg, hlc, hch, hgv, hc, hen, hnu, hp, hlm, hbk, hhd, hak, hI1, hI2, hI3, hI4, hI5, hI6])) ?_
  refine am_nm (fun I7 hI7 => ?_)
  refine am_if_eq (tgt := 159) dX10_goOn_22 (by decide) (fun _ => ?_) (fun h => absurd h (by decide))
  refine am_vret dX10_goOn_159 rfl ?_
  exact ⟨rfl, (by simp [am_up, am_upf, upd, hkd, hst, hwl, hct, hlg, hlc, hch, hgv, hc, hen, hnu, hp, hlm, hbk, hhd, hak, hI1, hI2, hI3, hI4, hI5, hI6, hI7])⟩
