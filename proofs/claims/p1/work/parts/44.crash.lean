theorem c_goDark {G : am_G} (hG : am_ok G) {d : Nat} {i : Nat} (hi : i < G.2.2.2.1) (I : am_I)  : am_C G (d + 3) mX7_goDark [.inr (i, 40)] I (fun r J => r = none ∧ (∀ a, J a 40 6 = I a 40 6) ∧ J 0 9 3 = I 0 9 3) := by
  refine am_of (by decide +kernel) hG.nd (Nat.le_of_ble_eq_true rfl) ?_
  refine am_aload_n dX7_goDark_0 rfl ?_
  refine am_iconst (v := nI 0) dX7_goDark_1 (by decide) ?_
  refine am_putz (x := nI 0) dX7_goDark_2 fp_7_30 (hG.mn hi (by decide) (by decide)) (by decide) (Nat.le_of_ble_eq_true rfl) rfl ?_
  refine am_aload_n dX7_goDark_5 rfl ?_
  refine am_get (v := .inr (i, 41)) dX7_goDark_6 fl_7_10 (hG.mn hi (by decide) (by decide)) rfl ?_
  refine am_callVe (i := i) (j := 41) (as := []) (rest := []) dX7_goDark_9 lkX1_wipe ml_X7_56 imX1_wipe seX1_wipe rfl rfl (hG.mn hi (by decide) (by decide)) rfl (Nat.le_of_ble_eq_true rfl) rfl (c_Cwipe hG hi (am_up I i 40 5 (nI 0))) ?_
  refine am_nm (fun I1 hI1 => ?_)
  refine am_aload_n dX7_goDark_12 rfl ?_
  refine am_get (v := .inr (i, 44)) dX7_goDark_13 fl_7_52 (hG.mn hi (by decide) (by decide)) rfl ?_
  refine am_callVe (i := i) (j := 44) (as := []) (rest := []) dX7_goDark_16 lkX3_wipe ml_X7_59 imX3_wipe seX3_wipe rfl rfl (hG.mn hi (by decide) (by decide)) rfl (Nat.le_of_ble_eq_true rfl) rfl (c_Jwipe hG hi I1) ?_
  refine am_nm (fun I2 hI2 => ?_)
  refine am_aload_n dX7_goDark_19 rfl ?_
  refine am_get (v := .inr (i, 48)) dX7_goDark_20 fl_7_19 (hG.mn hi (by decide) (by decide)) rfl ?_
  refine am_callVe (i := i) (j := 48) (as := []) (rest := []) dX7_goDark_23 lkX4_wipe ml_X7_60 imX4_wipe seX4_wipe rfl rfl (hG.mn hi (by decide) (by decide)) rfl (Nat.le_of_ble_eq_true rfl) rfl (c_Lwipe hG hi I2) ?_
  refine am_nm (fun I3 hI3 => ?_)
  refine am_vret dX7_goDark_26 rfl ?_
  exact ⟨rfl, fun a => by simp [am_up, am_upf, upd, hI1, hI2, hI3]; split <;> simp_all [upd], by simp [am_up, am_upf, upd, hI1, hI2, hI3]⟩
theorem c_Mwipe {G : am_G} (hG : am_ok G) {d : Nat} {r : Nat} (hr : r < 136) (I : am_I)  : am_C G d mX6_wipe [.inr (0, 3), .inl (nI r)] I (fun r J => r = none ∧ ∀ a, J a 40 6 = I a 40 6) := by
  refine am_of (by decide +kernel) hG.nd (Nat.le_of_ble_eq_true rfl) ?_
  refine am_iconst (v := nI 0) dX6_wipe_0 (by decide) ?_
  refine am_istore_n dX6_wipe_1 (by decide) ?_
  refine am_iload_n dX6_wipe_2 rfl ?_
  refine am_iconst (v := nI 4) dX6_wipe_3 (by decide) ?_
  refine am_icmp_ge (tgt := 35) dX6_wipe_4 (by decide) (fun h => absurd h (by decide)) (fun _ => ?_)
  refine am_aload_n dX6_wipe_7 rfl ?_
  refine am_get (v := .inr (0, 4)) dX6_wipe_8 fl_6_9 (hG.m0 (by decide)) rfl ?_
  refine am_iload_n dX6_wipe_11 rfl ?_
  refine am_iconst (v := nI 4) dX6_wipe_12 (by decide) ?_
  refine am_imul dX6_wipe_13 ?_
  refine am_top (pk_mul _ _) ?_
  refine am_iload_n dX6_wipe_14 rfl ?_
  refine am_iadd dX6_wipe_15 ?_
  refine am_top (nI_add _ _) ?_
  refine am_iconst (v := nI 0) dX6_wipe_16 (by decide) ?_
  refine am_iast (a := r * 4 + 0) dX6_wipe_17 (hG.m0 (by decide)) rfl rfl (show r * 4 + 0 < 544 from (by omega)) (show 544 < 2 ^ 31 by decide) ?_
  refine am_aload_n dX6_wipe_18 rfl ?_
  refine am_get (v := .inr (0, 5)) dX6_wipe_19 fl_6_15 (hG.m0 (by decide)) rfl ?_
  refine am_iload_n dX6_wipe_22 rfl ?_
  refine am_iconst (v := nI 4) dX6_wipe_23 (by decide) ?_
  refine am_imul dX6_wipe_24 ?_
  refine am_top (pk_mul _ _) ?_
  refine am_iload_n dX6_wipe_25 rfl ?_
  refine am_iadd dX6_wipe_26 ?_
  refine am_top (nI_add _ _) ?_
  refine am_iconst (v := (-1 : Int32)) dX6_wipe_27 (by decide) ?_
  refine am_iast (a := r * 4 + 0) dX6_wipe_28 (hG.m0 (by decide)) rfl rfl (show r * 4 + 0 < 544 from (by omega)) (show 544 < 2 ^ 31 by decide) ?_
  refine am_iinc (v := nI 1) dX6_wipe_29 rfl (by decide) ?_
  refine am_goto (tgt := 2) dX6_wipe_32 (by decide) ?_
  refine am_iload_n dX6_wipe_2 rfl ?_
  refine am_iconst (v := nI 4) dX6_wipe_3 (by decide) ?_
  refine am_icmp_ge (tgt := 35) dX6_wipe_4 (by decide) (fun h => absurd h (by decide)) (fun _ => ?_)
  refine am_aload_n dX6_wipe_7 rfl ?_
  refine am_get (v := .inr (0, 4)) dX6_wipe_8 fl_6_9 (hG.m0 (by decide)) rfl ?_
  refine am_iload_n dX6_wipe_11 rfl ?_
  refine am_iconst (v := nI 4) dX6_wipe_12 (by decide) ?_
  refine am_imul dX6_wipe_13 ?_
  refine am_top (pk_mul _ _) ?_
  refine am_iload_n dX6_wipe_14 rfl ?_
  refine am_iadd dX6_wipe_15 ?_
  refine am_top (nI_add _ _) ?_
  refine am_iconst (v := nI 0) dX6_wipe_16 (by decide) ?_
  refine am_iast (a := r * 4 + 1) dX6_wipe_17 (hG.m0 (by decide)) rfl rfl (show r * 4 + 1 < 544 from (by omega)) (show 544 < 2 ^ 31 by decide) ?_
  refine am_aload_n dX6_wipe_18 rfl ?_
  refine am_get (v := .inr (0, 5)) dX6_wipe_19 fl_6_15 (hG.m0 (by decide)) rfl ?_
  refine am_iload_n dX6_wipe_22 rfl ?_
  refine am_iconst (v := nI 4) dX6_wipe_23 (by decide) ?_
  refine am_imul dX6_wipe_24 ?_
  refine am_top (pk_mul _ _) ?_
  refine am_iload_n dX6_wipe_25 rfl ?_
  refine am_iadd dX6_wipe_26 ?_
  refine am_top (nI_add _ _) ?_
  refine am_iconst (v := (-1 : Int32)) dX6_wipe_27 (by decide) ?_
  refine am_iast (a := r * 4 + 1) dX6_wipe_28 (hG.m0 (by decide)) rfl rfl (show r * 4 + 1 < 544 from (by omega)) (show 544 < 2 ^ 31 by decide) ?_
  refine am_iinc (v := nI 2) dX6_wipe_29 rfl (by decide) ?_
  refine am_goto (tgt := 2) dX6_wipe_32 (by decide) ?_
  refine am_iload_n dX6_wipe_2 rfl ?_
  refine am_iconst (v := nI 4) dX6_wipe_3 (by decide) ?_
  refine am_icmp_ge (tgt := 35) dX6_wipe_4 (by decide) (fun h => absurd h (by decide)) (fun _ => ?_)
  refine am_aload_n dX6_wipe_7 rfl ?_
  refine am_get (v := .inr (0, 4)) dX6_wipe_8 fl_6_9 (hG.m0 (by decide)) rfl ?_
  refine am_iload_n dX6_wipe_11 rfl ?_
  refine am_iconst (v := nI 4) dX6_wipe_12 (by decide) ?_
  refine am_imul dX6_wipe_13 ?_
  refine am_top (pk_mul _ _) ?_
  refine am_iload_n dX6_wipe_14 rfl ?_
  refine am_iadd dX6_wipe_15 ?_
  refine am_top (nI_add _ _) ?_
  refine am_iconst (v := nI 0) dX6_wipe_16 (by decide) ?_
  refine am_iast (a := r * 4 + 2) dX6_wipe_17 (hG.m0 (by decide)) rfl rfl (show r * 4 + 2 < 544 from (by omega)) (show 544 < 2 ^ 31 by decide) ?_
  refine am_aload_n dX6_wipe_18 rfl ?_
  refine am_get (v := .inr (0, 5)) dX6_wipe_19 fl_6_15 (hG.m0 (by decide)) rfl ?_
  refine am_iload_n dX6_wipe_22 rfl ?_
  refine am_iconst (v := nI 4) dX6_wipe_23 (by decide) ?_
  refine am_imul dX6_wipe_24 ?_
  refine am_top (pk_mul _ _) ?_
  refine am_iload_n dX6_wipe_25 rfl ?_
  refine am_iadd dX6_wipe_26 ?_
  refine am_top (nI_add _ _) ?_
  refine am_iconst (v := (-1 : Int32)) dX6_wipe_27 (by decide) ?_
  refine am_iast (a := r * 4 + 2) dX6_wipe_28 (hG.m0 (by decide)) rfl rfl (show r * 4 + 2 < 544 from (by omega)) (show 544 < 2 ^ 31 by decide) ?_
  refine am_iinc (v := nI 3) dX6_wipe_29 rfl (by decide) ?_
  refine am_goto (tgt := 2) dX6_wipe_32 (by decide) ?_
  refine am_iload_n dX6_wipe_2 rfl ?_
  refine am_iconst (v := nI 4) dX6_wipe_3 (by decide) ?_
  refine am_icmp_ge (tgt := 35) dX6_wipe_4 (by decide) (fun h => absurd h (by decide)) (fun _ => ?_)
  refine am_aload_n dX6_wipe_7 rfl ?_
  refine am_get (v := .inr (0, 4)) dX6_wipe_8 fl_6_9 (hG.m0 (by decide)) rfl ?_
  refine am_iload_n dX6_wipe_11 rfl ?_
  refine am_iconst (v := nI 4) dX6_wipe_12 (by decide) ?_
  refine am_imul dX6_wipe_13 ?_
  refine am_top (pk_mul _ _) ?_
  refine am_iload_n dX6_wipe_14 rfl ?_
  refine am_iadd dX6_wipe_15 ?_
  refine am_top (nI_add _ _) ?_
  refine am_iconst (v := nI 0) dX6_wipe_16 (by decide) ?_
  refine am_iast (a := r * 4 + 3) dX6_wipe_17 (hG.m0 (by decide)) rfl rfl (show r * 4 + 3 < 544 from (by omega)) (show 544 < 2 ^ 31 by decide) ?_
  refine am_aload_n dX6_wipe_18 rfl ?_
  refine am_get (v := .inr (0, 5)) dX6_wipe_19 fl_6_15 (hG.m0 (by decide)) rfl ?_
  refine am_iload_n dX6_wipe_22 rfl ?_
  refine am_iconst (v := nI 4) dX6_wipe_23 (by decide) ?_
  refine am_imul dX6_wipe_24 ?_
  refine am_top (pk_mul _ _) ?_
  refine am_iload_n dX6_wipe_25 rfl ?_
  refine am_iadd dX6_wipe_26 ?_
  refine am_top (nI_add _ _) ?_
  refine am_iconst (v := (-1 : Int32)) dX6_wipe_27 (by decide) ?_
  refine am_iast (a := r * 4 + 3) dX6_wipe_28 (hG.m0 (by decide)) rfl rfl (show r * 4 + 3 < 544 from (by omega)) (show 544 < 2 ^ 31 by decide) ?_
  refine am_iinc (v := nI 4) dX6_wipe_29 rfl (by decide) ?_
  refine am_goto (tgt := 2) dX6_wipe_32 (by decide) ?_
  refine am_iload_n dX6_wipe_2 rfl ?_
  refine am_iconst (v := nI 4) dX6_wipe_3 (by decide) ?_
  refine am_icmp_ge (tgt := 35) dX6_wipe_4 (by decide) (fun _ => ?_) (fun h => absurd h (by decide))
  refine am_aload_n dX6_wipe_35 rfl ?_
  refine am_get (v := .inr (0, 8)) dX6_wipe_36 fl_6_24 (hG.m0 (by decide)) rfl ?_
  refine am_iload_n dX6_wipe_39 rfl ?_
  refine am_iconst (v := nI 0) dX6_wipe_40 (by decide) ?_
  refine am_iast (a := r) dX6_wipe_41 (hG.m0 (by decide)) rfl rfl (show r < 136 from (by omega)) (show 136 < 2 ^ 31 by decide) ?_
  refine am_vret dX6_wipe_42 rfl ?_
  exact ⟨rfl, fun a => by simp [am_up, am_upf, upd]⟩
theorem j_crash {G : am_G} (hG : am_ok G) {d : Nat} {TH : Nat → List (Option am_V) → List am_V → am_I → Prop} {Q : Option Int32 → am_I → Prop} {I : am_I} {i : Nat} (hi : i < G.2.2.2.1) (w : Int32) (hw : 0 ≤ w.toInt ∧ w.toInt < 16) (hI : I = am_fr G.2.2.2.1) (hQ : ∀ J, Q none J) : am_J G (d + 4) mX10_crash TH Q 0 [some (.inr (0, 0)), some (.inl (nI i)), some (.inl w), none, none] [] I := by
  have hn4 := hG.hi
  have hn2 := hG.lo
  have K : ∀ (m r : Nat) (J : am_I), r + m = 136 → (∀ x, x < G.2.2.2.1 → J x 40 6 = nI 1) → am_J G (d + 4) mX10_crash TH Q 115 [some (.inr (0, 0)), some (.inl (nI i)), some (.inl w), some (.inr (i, 40)), some (.inl (nI r))] [] J := by
    intro m
    induction m with
    | zero =>
      intro r J ha hj
      obtain rfl : r = 136 := by omega
      refine am_iload dX10_crash_115 rfl ?_
      refine am_sipush (v := nI 136) dX10_crash_117 (by decide) ?_
      refine am_icmp_ge (tgt := 148) dX10_crash_120 (by decide) (fun _ => ?_) (fun h => absurd ((nI_leI (a := 136) (b := 136) (by omega) (by omega)).mpr (by omega)) h)
      refine am_vret dX10_crash_148 rfl ?_
      exact hQ _
    | succ m ih =>
      intro r J ha hj
      refine am_iload dX10_crash_115 rfl ?_
      refine am_sipush (v := nI 136) dX10_crash_117 (by decide) ?_
      refine am_icmp_ge (tgt := 148) dX10_crash_120 (by decide) (fun h => absurd ((nI_leI (a := 136) (b := r) (by omega) (by omega)).mp h) (by omega)) (fun _ => ?_)
      refine am_aload_n dX10_crash_123 rfl ?_
      refine am_iload dX10_crash_124 rfl ?_
      have hrm := Nat.mod_lt r (show 0 < G.2.2.2.1 by omega)
      refine am_callVx (i := 0) (j := 0) (as := [.inl (nI r)]) (rest := []) dX10_crash_126 lkX10_masterOf ml_X10_158 imX10_masterOf seX10_masterOf rfl rfl (hG.m0 (by decide)) rfl (Nat.le_of_ble_eq_true rfl) rfl (c_masterOf hG (by omega) J hj) ?_
      refine am_iload_n dX10_crash_129 rfl ?_
      refine am_icmp_ne (tgt := 142) dX10_crash_130 (by decide) (fun c_130 => ?_) (fun c_130 => ?_)
      · skip
        have c_130 := mt (nI_eq (a := r % G.2.2.2.1) (b := i) (by omega) (by omega)).mpr c_130
        refine am_iinc (v := nI (r + 1)) dX10_crash_142 rfl (nI_add _ _) ?_
        refine am_goto (tgt := 115) dX10_crash_145 (by decide) ?_
        exact ih (r + 1) J (by omega) hj
      · skip
        have c_130 := (nI_eq (a := r % G.2.2.2.1) (b := i) (by omega) (by omega)).mp c_130
        refine am_aload_n dX10_crash_133 rfl ?_
        refine am_get (v := .inr (0, 3)) dX10_crash_134 fl_10_29 (hG.m0 (by decide)) rfl ?_
        refine am_iload dX10_crash_137 rfl ?_
        refine am_callVv (i := 0) (j := 3) (as := [.inl (nI r)]) (rest := []) dX10_crash_139 lkX6_wipe ml_X10_161 imX6_wipe seX6_wipe rfl rfl (hG.m0 (by decide)) rfl (Nat.le_of_ble_eq_true rfl) rfl (c_Mwipe hG (by omega) J) rfl (fun J2 hq => ?_)
        have hj := fun x hx => (hq.2 x).trans (hj x hx)
        refine am_iinc (v := nI (r + 1)) dX10_crash_142 rfl (nI_add _ _) ?_
        refine am_goto (tgt := 115) dX10_crash_145 (by decide) ?_
        exact ih (r + 1) J2 (by omega) hj
  refine am_aload_n dX10_crash_0 rfl ?_
  refine am_iload_n dX10_crash_1 rfl ?_
  refine am_callVx (i := 0) (j := 0) (as := [.inl (nI i)]) (rest := []) dX10_crash_2 lkX10_isNode ml_X10_65 imX10_isNode seX10_isNode rfl rfl (hG.m0 (by decide)) rfl (Nat.le_of_ble_eq_true rfl) rfl (c_isNodeY hG hi I) ?_
  refine am_if_eq (tgt := 18) dX10_crash_5 (by decide) (fun h => absurd h (by decide)) (fun _ => ?_)
  refine am_iload_n dX10_crash_8 rfl ?_
  refine am_if_lt (tgt := 18) dX10_crash_9 (by decide) (fun c_9 => ?_) (fun c_9 => ?_)
  · skip
    have c_9 := Int32.lt_iff_toInt_lt.mp c_9
    rw [am_i0] at c_9
    exact absurd hw (by omega)
  · skip
    have c_9 := mt Int32.lt_iff_toInt_lt.mpr c_9
    rw [am_i0] at c_9
    refine am_iload_n dX10_crash_12 rfl ?_
    refine am_bipush (v := nI 16) dX10_crash_13 (by decide) ?_
    refine am_icmp_lt (tgt := 28) dX10_crash_15 (by decide) (fun c_15 => ?_) (fun c_15 => ?_)
    · skip
      have c_15 := Int32.lt_iff_toInt_lt.mp c_15
      rw [nI_toInt (n := 16) (by omega)] at c_15
      refine am_aload_n dX10_crash_28 rfl ?_
      refine am_get (v := .inr (0, 2)) dX10_crash_29 fl_10_19 (hG.m0 (by decide)) rfl ?_
      refine am_iload_n dX10_crash_32 rfl ?_
      refine am_aald (a := i) dX10_crash_33 (hG.m0 (by decide)) rfl rfl (by omega) hG.n31 ?_
      refine am_astore_n dX10_crash_34 (by decide) ?_
      refine am_aload_n dX10_crash_35 rfl ?_
      refine am_get (v := .inl (I i 40 5)) dX10_crash_36 fl_10_80 (hG.mn hi (by decide) (by decide)) rfl ?_
      refine am_top (show I i 40 5 = nI 1 from (by simp [am_up, am_upf, upd, hI, am_fr, am_dk])) ?_
      refine am_if_ne (tgt := 52) dX10_crash_39 (by decide) (fun _ => ?_) (fun h => absurd h (by decide))
      refine am_aload_n dX10_crash_52 rfl ?_
      refine am_aload_n dX10_crash_53 rfl ?_
      refine am_iload_n dX10_crash_54 rfl ?_
      refine am_callVe (i := 0) (j := 0) (as := [.inr (i, 40), .inl w]) (rest := []) dX10_crash_55 lkX10_tear ml_X10_138 imX10_tear seX10_tear rfl rfl (hG.m0 (by decide)) rfl (Nat.le_of_ble_eq_true rfl) rfl (c_tear0 hG w hi I (by simp [am_up, am_upf, upd, hI, am_fr, am_dk])) ?_
      refine am_aload_n dX10_crash_58 rfl ?_
      refine am_get (v := .inr (0, 13)) dX10_crash_59 fl_10_43 (hG.m0 (by decide)) rfl ?_
      refine am_iload_n dX10_crash_62 rfl ?_
      refine am_callVe (i := 0) (j := 13) (as := [.inl (nI i)]) (rest := []) dX10_crash_63 lkX0_lose ml_X10_142 imX0_lose seX0_lose rfl rfl (hG.m0 (by decide)) rfl (Nat.le_of_ble_eq_true rfl) rfl (c_lose0 hG (nI i) I (by simp [am_up, am_upf, upd, hI, am_fr, am_dk])) ?_
      refine am_aload_n dX10_crash_66 rfl ?_
      refine am_get (v := .inr (i, 55)) dX10_crash_67 fl_10_84 (hG.mn hi (by decide) (by decide)) rfl ?_
      refine am_get (v := .inl (I i 55 5)) dX10_crash_70 fl_10_88 (hG.mn hi (by decide) (by decide)) rfl ?_
      refine am_top (show I i 55 5 = nI 0 from (by simp [am_up, am_upf, upd, hI, am_fr, am_dk])) ?_
      refine am_iconst (v := nI 1) dX10_crash_73 (by decide) ?_
      refine am_icmp_ne (tgt := 100) dX10_crash_74 (by decide) (fun _ => ?_) (fun h => absurd h (by decide))
      refine am_aload_n dX10_crash_100 rfl ?_
      refine am_callVv (i := i) (j := 40) (as := []) (rest := []) dX10_crash_101 lkX7_goDark ml_X10_152 imX7_goDark seX7_goDark rfl rfl (hG.mn hi (by decide) (by decide)) rfl (Nat.le_of_ble_eq_true rfl) rfl (c_goDark hG hi I) rfl (fun J1 hq => ?_)
      have hj : ∀ x, x < G.2.2.2.1 → J1 x 40 6 = nI 1 := fun x hx => (hq.2.1 x).trans (by simp [am_up, am_upf, upd, hI, am_fr])
      have hc9 : J1 0 9 3 = nI 0 := hq.2.2.trans (by simp [am_up, am_upf, upd, hI, am_fr])
      refine am_aload_n dX10_crash_104 rfl ?_
      refine am_get (v := .inr (0, 9)) dX10_crash_105 fl_10_36 (hG.m0 (by decide)) rfl ?_
      refine am_iload_n dX10_crash_108 rfl ?_
      refine am_callVe (i := 0) (j := 9) (as := [.inl (nI i)]) (rest := []) dX10_crash_109 lkX5_forget ml_X10_155 imX5_forget seX5_forget rfl rfl (hG.m0 (by decide)) rfl (Nat.le_of_ble_eq_true rfl) rfl (c_forgetM0 hG (nI i) J1 (by simp [am_up, am_upf, upd, hI, am_fr, am_dk, hc9])) ?_
      refine am_iconst (v := nI 0) dX10_crash_112 (by decide) ?_
      refine am_istore dX10_crash_113 (by decide) ?_
      exact K 136 0 _ (by omega) (fun x hx => by simp [am_up, am_upf, upd, hj x hx])
    · skip
      have c_15 := mt Int32.lt_iff_toInt_lt.mpr c_15
      rw [nI_toInt (n := 16) (by omega)] at c_15
      exact absurd hw (by omega)
theorem j_crashA {G : am_G} (hG : am_ok G) {d : Nat} {TH : Nat → List (Option am_V) → List am_V → am_I → Prop} {Q : Option Int32 → am_I → Prop} {I : am_I} (x : Int32) (hx : ¬ (0 ≤ x.toInt ∧ x.toInt < (G.2.2.2.1 : Int))) (w : Int32) (hI : I = am_fr G.2.2.2.1) (hT : ∀ lo, TH 18 lo [] I) : am_J G (d + 3) mX10_crash TH Q 0 [some (.inr (0, 0)), some (.inl x), some (.inl w), none, none] [] I := by
  have hn4 := hG.hi
  have hn2 := hG.lo
  refine am_aload_n dX10_crash_0 rfl ?_
  refine am_iload_n dX10_crash_1 rfl ?_
  refine am_callVx (i := 0) (j := 0) (as := [.inl x]) (rest := []) dX10_crash_2 lkX10_isNode ml_X10_65 imX10_isNode seX10_isNode rfl rfl (hG.m0 (by decide)) rfl (Nat.le_of_ble_eq_true rfl) rfl (c_isNode hG x I) ?_
  refine am_if_eq (tgt := 18) dX10_crash_5 (by decide) (fun _ => ?_) (fun h => absurd h (fun z => z ((am_bz _).mpr (decide_eq_false hx))))
  exact am_exit (hT _)
theorem j_crashB {G : am_G} (hG : am_ok G) {d : Nat} {TH : Nat → List (Option am_V) → List am_V → am_I → Prop} {Q : Option Int32 → am_I → Prop} {I : am_I} {i : Nat} (hi : i < G.2.2.2.1) (w : Int32) (hw : w.toInt < 0 ∨ 15 < w.toInt) (hI : I = am_fr G.2.2.2.1) (hT : ∀ lo, TH 18 lo [] I) : am_J G (d + 3) mX10_crash TH Q 0 [some (.inr (0, 0)), some (.inl (nI i)), some (.inl w), none, none] [] I := by
  have hn4 := hG.hi
  have hn2 := hG.lo
  refine am_aload_n dX10_crash_0 rfl ?_
  refine am_iload_n dX10_crash_1 rfl ?_
  refine am_callVx (i := 0) (j := 0) (as := [.inl (nI i)]) (rest := []) dX10_crash_2 lkX10_isNode ml_X10_65 imX10_isNode seX10_isNode rfl rfl (hG.m0 (by decide)) rfl (Nat.le_of_ble_eq_true rfl) rfl (c_isNodeY hG hi I) ?_
  refine am_if_eq (tgt := 18) dX10_crash_5 (by decide) (fun h => absurd h (by decide)) (fun _ => ?_)
  refine am_iload_n dX10_crash_8 rfl ?_
  refine am_if_lt (tgt := 18) dX10_crash_9 (by decide) (fun c_9 => ?_) (fun c_9 => ?_)
  · skip
    have c_9 := Int32.lt_iff_toInt_lt.mp c_9
    rw [am_i0] at c_9
    exact am_exit (hT _)
  · skip
    have c_9 := mt Int32.lt_iff_toInt_lt.mpr c_9
    rw [am_i0] at c_9
    refine am_iload_n dX10_crash_12 rfl ?_
    refine am_bipush (v := nI 16) dX10_crash_13 (by decide) ?_
    refine am_icmp_lt (tgt := 28) dX10_crash_15 (by decide) (fun c_15 => ?_) (fun c_15 => ?_)
    · skip
      have c_15 := Int32.lt_iff_toInt_lt.mp c_15
      rw [nI_toInt (n := 16) (by omega)] at c_15
      exact absurd hw (by omega)
    · skip
      have c_15 := mt Int32.lt_iff_toInt_lt.mpr c_15
      rw [nI_toInt (n := 16) (by omega)] at c_15
      exact am_exit (hT _)
theorem c_bitCount0 {G : am_G} (hn : G.2.2.2.2.Nodup) {d : Nat} (I : am_I) : am_C G d mJ6_bitCount_0f7a4 [.inl (nI 0)] I (am_E (some (nI 0)) I) := by
  refine am_of (by decide +kernel) hn (Nat.le_of_ble_eq_true rfl) ?_
  refine am_iload_n dJ6_bitCount_0f7a4_0 rfl ?_
  refine am_iload_n dJ6_bitCount_0f7a4_1 rfl ?_
  refine am_iconst (v := nI 1) dJ6_bitCount_0f7a4_2 (by decide) ?_
  refine am_iushr dJ6_bitCount_0f7a4_3 ?_
  refine am_top (show ((nI 0).toUInt32 >>> ((nI 1).toUInt32 &&& Int32.toUInt32 31)).toInt32 = nI 0 by decide) ?_
  refine am_ldcw (v := (1431655765 : Int32)) dJ6_bitCount_0f7a4_4 kc_J6_265 ?_
  refine am_top (show (1431655765 : Int32) = nI 1431655765 by decide) ?_
  refine am_iand dJ6_bitCount_0f7a4_7 ?_
  refine am_top (show (nI 0) &&& (nI 1431655765) = nI 0 by decide) ?_
  refine am_isub dJ6_bitCount_0f7a4_8 ?_
  refine am_top (show (nI 0) - (nI 0) = nI 0 by decide) ?_
  refine am_istore_n dJ6_bitCount_0f7a4_9 (by decide) ?_
  refine am_iload_n dJ6_bitCount_0f7a4_10 rfl ?_
  refine am_ldcw (v := (858993459 : Int32)) dJ6_bitCount_0f7a4_11 kc_J6_266 ?_
  refine am_top (show (858993459 : Int32) = nI 858993459 by decide) ?_
  refine am_iand dJ6_bitCount_0f7a4_14 ?_
  refine am_top (show (nI 0) &&& (nI 858993459) = nI 0 by decide) ?_
  refine am_iload_n dJ6_bitCount_0f7a4_15 rfl ?_
  refine am_iconst (v := nI 2) dJ6_bitCount_0f7a4_16 (by decide) ?_
  refine am_iushr dJ6_bitCount_0f7a4_17 ?_
  refine am_top (show ((nI 0).toUInt32 >>> ((nI 2).toUInt32 &&& Int32.toUInt32 31)).toInt32 = nI 0 by decide) ?_
  refine am_ldcw (v := (858993459 : Int32)) dJ6_bitCount_0f7a4_18 kc_J6_266 ?_
  refine am_top (show (858993459 : Int32) = nI 858993459 by decide) ?_
  refine am_iand dJ6_bitCount_0f7a4_21 ?_
  refine am_top (show (nI 0) &&& (nI 858993459) = nI 0 by decide) ?_
  refine am_iadd dJ6_bitCount_0f7a4_22 ?_
  refine am_top (show (nI 0) + (nI 0) = nI 0 by decide) ?_
  refine am_istore_n dJ6_bitCount_0f7a4_23 (by decide) ?_
  refine am_iload_n dJ6_bitCount_0f7a4_24 rfl ?_
  refine am_iload_n dJ6_bitCount_0f7a4_25 rfl ?_
  refine am_iconst (v := nI 4) dJ6_bitCount_0f7a4_26 (by decide) ?_
  refine am_iushr dJ6_bitCount_0f7a4_27 ?_
  refine am_top (show ((nI 0).toUInt32 >>> ((nI 4).toUInt32 &&& Int32.toUInt32 31)).toInt32 = nI 0 by decide) ?_
  refine am_iadd dJ6_bitCount_0f7a4_28 ?_
  refine am_top (show (nI 0) + (nI 0) = nI 0 by decide) ?_
  refine am_ldcw (v := (252645135 : Int32)) dJ6_bitCount_0f7a4_29 kc_J6_267 ?_
  refine am_top (show (252645135 : Int32) = nI 252645135 by decide) ?_
  refine am_iand dJ6_bitCount_0f7a4_32 ?_
  refine am_top (show (nI 0) &&& (nI 252645135) = nI 0 by decide) ?_
  refine am_istore_n dJ6_bitCount_0f7a4_33 (by decide) ?_
  refine am_iload_n dJ6_bitCount_0f7a4_34 rfl ?_
  refine am_iload_n dJ6_bitCount_0f7a4_35 rfl ?_
  refine am_bipush (v := nI 8) dJ6_bitCount_0f7a4_36 (by decide) ?_
  refine am_iushr dJ6_bitCount_0f7a4_38 ?_
  refine am_top (show ((nI 0).toUInt32 >>> ((nI 8).toUInt32 &&& Int32.toUInt32 31)).toInt32 = nI 0 by decide) ?_
  refine am_iadd dJ6_bitCount_0f7a4_39 ?_
  refine am_top (show (nI 0) + (nI 0) = nI 0 by decide) ?_
  refine am_istore_n dJ6_bitCount_0f7a4_40 (by decide) ?_
  refine am_iload_n dJ6_bitCount_0f7a4_41 rfl ?_
  refine am_iload_n dJ6_bitCount_0f7a4_42 rfl ?_
  refine am_bipush (v := nI 16) dJ6_bitCount_0f7a4_43 (by decide) ?_
  refine am_iushr dJ6_bitCount_0f7a4_45 ?_
  refine am_top (show ((nI 0).toUInt32 >>> ((nI 16).toUInt32 &&& Int32.toUInt32 31)).toInt32 = nI 0 by decide) ?_
  refine am_iadd dJ6_bitCount_0f7a4_46 ?_
  refine am_top (show (nI 0) + (nI 0) = nI 0 by decide) ?_
  refine am_istore_n dJ6_bitCount_0f7a4_47 (by decide) ?_
  refine am_iload_n dJ6_bitCount_0f7a4_48 rfl ?_
  refine am_bipush (v := nI 63) dJ6_bitCount_0f7a4_49 (by decide) ?_
  refine am_iand dJ6_bitCount_0f7a4_51 ?_
  refine am_top (show (nI 0) &&& (nI 63) = nI 0 by decide) ?_
  refine am_iret dJ6_bitCount_0f7a4_52 rfl rfl ?_
  exact ⟨rfl, rfl⟩
theorem c_bitCount1 {G : am_G} (hn : G.2.2.2.2.Nodup) {d : Nat} (I : am_I) : am_C G d mJ6_bitCount_0f7a4 [.inl (nI 1)] I (am_E (some (nI 1)) I) := by
  refine am_of (by decide +kernel) hn (Nat.le_of_ble_eq_true rfl) ?_
  refine am_iload_n dJ6_bitCount_0f7a4_0 rfl ?_
  refine am_iload_n dJ6_bitCount_0f7a4_1 rfl ?_
  refine am_iconst (v := nI 1) dJ6_bitCount_0f7a4_2 (by decide) ?_
  refine am_iushr dJ6_bitCount_0f7a4_3 ?_
  refine am_top (show ((nI 1).toUInt32 >>> ((nI 1).toUInt32 &&& Int32.toUInt32 31)).toInt32 = nI 0 by decide) ?_
  refine am_ldcw (v := (1431655765 : Int32)) dJ6_bitCount_0f7a4_4 kc_J6_265 ?_
  refine am_top (show (1431655765 : Int32) = nI 1431655765 by decide) ?_
  refine am_iand dJ6_bitCount_0f7a4_7 ?_
  refine am_top (show (nI 0) &&& (nI 1431655765) = nI 0 by decide) ?_
  refine am_isub dJ6_bitCount_0f7a4_8 ?_
  refine am_top (show (nI 1) - (nI 0) = nI 1 by decide) ?_
  refine am_istore_n dJ6_bitCount_0f7a4_9 (by decide) ?_
  refine am_iload_n dJ6_bitCount_0f7a4_10 rfl ?_
  refine am_ldcw (v := (858993459 : Int32)) dJ6_bitCount_0f7a4_11 kc_J6_266 ?_
  refine am_top (show (858993459 : Int32) = nI 858993459 by decide) ?_
  refine am_iand dJ6_bitCount_0f7a4_14 ?_
  refine am_top (show (nI 1) &&& (nI 858993459) = nI 1 by decide) ?_
  refine am_iload_n dJ6_bitCount_0f7a4_15 rfl ?_
  refine am_iconst (v := nI 2) dJ6_bitCount_0f7a4_16 (by decide) ?_
  refine am_iushr dJ6_bitCount_0f7a4_17 ?_
  refine am_top (show ((nI 1).toUInt32 >>> ((nI 2).toUInt32 &&& Int32.toUInt32 31)).toInt32 = nI 0 by decide) ?_
  refine am_ldcw (v := (858993459 : Int32)) dJ6_bitCount_0f7a4_18 kc_J6_266 ?_
  refine am_top (show (858993459 : Int32) = nI 858993459 by decide) ?_
  refine am_iand dJ6_bitCount_0f7a4_21 ?_
  refine am_top (show (nI 0) &&& (nI 858993459) = nI 0 by decide) ?_
  refine am_iadd dJ6_bitCount_0f7a4_22 ?_
  refine am_top (show (nI 1) + (nI 0) = nI 1 by decide) ?_
  refine am_istore_n dJ6_bitCount_0f7a4_23 (by decide) ?_
  refine am_iload_n dJ6_bitCount_0f7a4_24 rfl ?_
  refine am_iload_n dJ6_bitCount_0f7a4_25 rfl ?_
  refine am_iconst (v := nI 4) dJ6_bitCount_0f7a4_26 (by decide) ?_
  refine am_iushr dJ6_bitCount_0f7a4_27 ?_
  refine am_top (show ((nI 1).toUInt32 >>> ((nI 4).toUInt32 &&& Int32.toUInt32 31)).toInt32 = nI 0 by decide) ?_
  refine am_iadd dJ6_bitCount_0f7a4_28 ?_
  refine am_top (show (nI 1) + (nI 0) = nI 1 by decide) ?_
  refine am_ldcw (v := (252645135 : Int32)) dJ6_bitCount_0f7a4_29 kc_J6_267 ?_
  refine am_top (show (252645135 : Int32) = nI 252645135 by decide) ?_
  refine am_iand dJ6_bitCount_0f7a4_32 ?_
  refine am_top (show (nI 1) &&& (nI 252645135) = nI 1 by decide) ?_
  refine am_istore_n dJ6_bitCount_0f7a4_33 (by decide) ?_
  refine am_iload_n dJ6_bitCount_0f7a4_34 rfl ?_
  refine am_iload_n dJ6_bitCount_0f7a4_35 rfl ?_
  refine am_bipush (v := nI 8) dJ6_bitCount_0f7a4_36 (by decide) ?_
  refine am_iushr dJ6_bitCount_0f7a4_38 ?_
  refine am_top (show ((nI 1).toUInt32 >>> ((nI 8).toUInt32 &&& Int32.toUInt32 31)).toInt32 = nI 0 by decide) ?_
  refine am_iadd dJ6_bitCount_0f7a4_39 ?_
  refine am_top (show (nI 1) + (nI 0) = nI 1 by decide) ?_
  refine am_istore_n dJ6_bitCount_0f7a4_40 (by decide) ?_
  refine am_iload_n dJ6_bitCount_0f7a4_41 rfl ?_
  refine am_iload_n dJ6_bitCount_0f7a4_42 rfl ?_
  refine am_bipush (v := nI 16) dJ6_bitCount_0f7a4_43 (by decide) ?_
  refine am_iushr dJ6_bitCount_0f7a4_45 ?_
  refine am_top (show ((nI 1).toUInt32 >>> ((nI 16).toUInt32 &&& Int32.toUInt32 31)).toInt32 = nI 0 by decide) ?_
  refine am_iadd dJ6_bitCount_0f7a4_46 ?_
  refine am_top (show (nI 1) + (nI 0) = nI 1 by decide) ?_
  refine am_istore_n dJ6_bitCount_0f7a4_47 (by decide) ?_
  refine am_iload_n dJ6_bitCount_0f7a4_48 rfl ?_
  refine am_bipush (v := nI 63) dJ6_bitCount_0f7a4_49 (by decide) ?_
  refine am_iand dJ6_bitCount_0f7a4_51 ?_
  refine am_top (show (nI 1) &&& (nI 63) = nI 1 by decide) ?_
  refine am_iret dJ6_bitCount_0f7a4_52 rfl rfl ?_
  exact ⟨rfl, rfl⟩
theorem c_used0 {G : am_G} (hG : am_ok G) {d : Nat} {I : am_I} (hI : I = am_fr G.2.2.2.1)  : am_C G (d + 1) mX10_usedByMaps [.inr (0, 0), .inl (nI 0)] I (am_E (some (nI 1)) I) := by
  refine am_of (by decide +kernel) hG.nd (Nat.le_of_ble_eq_true rfl) ?_
  refine am_iconst (v := nI 0) dX10_usedByMaps_0 (by decide) ?_
  refine am_istore_n dX10_usedByMaps_1 (by decide) ?_
  refine am_iconst (v := nI 0) dX10_usedByMaps_2 (by decide) ?_
  refine am_istore_n dX10_usedByMaps_3 (by decide) ?_
  refine am_iload_n dX10_usedByMaps_4 rfl ?_
  refine am_bipush (v := nI 8) dX10_usedByMaps_5 (by decide) ?_
  refine am_icmp_ge (tgt := 78) dX10_usedByMaps_7 (by decide) (fun h => absurd h (by decide)) (fun _ => ?_)
  refine am_iload_n dX10_usedByMaps_10 rfl ?_
  refine am_callSx (as := [.inl (nI 0)]) (rest := []) dX10_usedByMaps_11 lkX10_mapBlock ml_X10_320 isX10_mapBlock rfl (Nat.le_of_ble_eq_true rfl) rfl (c_mapBlock hG.nd (g := 0) (by omega) I) ?_
  refine am_bipush (v := nI 16) dX10_usedByMaps_14 (by decide) ?_
  refine am_imul dX10_usedByMaps_16 ?_
  refine am_top (show (nI 128) * (nI 16) = nI 2048 by decide) ?_
  refine am_istore dX10_usedByMaps_17 (by decide) ?_
  refine am_iload_n dX10_usedByMaps_19 rfl ?_
  refine am_iload_n dX10_usedByMaps_20 rfl ?_
  refine am_if_eq (tgt := 56) dX10_usedByMaps_21 (by decide) (fun _ => ?_) (fun h => absurd h (by decide))
  refine am_aload_n dX10_usedByMaps_56 rfl ?_
  refine am_get (v := .inr (0, 1)) dX10_usedByMaps_57 fl_10_9 (hG.m0 (by decide)) rfl ?_
  refine am_iload dX10_usedByMaps_60 rfl ?_
  refine am_iald (a := 2048) dX10_usedByMaps_62 (hG.m0 (by decide)) rfl rfl (show 2048 < 10240 from (by omega)) (show 10240 < 2 ^ 31 by decide) ?_
  refine am_top (show I 0 1 2048 = nI 1 from (by simp [am_up, am_upf, upd, hI, am_fr, am_dk])) ?_
  refine am_ldcw (v := (65535 : Int32)) dX10_usedByMaps_63 kc_X10_328 ?_
  refine am_top (show (65535 : Int32) = nI 65535 by decide) ?_
  refine am_iand dX10_usedByMaps_66 ?_
  refine am_top (show (nI 1) &&& (nI 65535) = nI 1 by decide) ?_
  refine am_callSx (as := [.inl (nI 1)]) (rest := [.inl (nI 0)]) dX10_usedByMaps_67 lkJ6_bitCount_0f7a4 ml_X10_323 isJ6_bitCount_0f7a4 rfl (Nat.le_of_ble_eq_true rfl) rfl (c_bitCount1 hG.nd I) ?_
  refine am_iadd dX10_usedByMaps_70 ?_
  refine am_top (show (nI 0) + (nI 1) = nI 1 by decide) ?_
  refine am_istore_n dX10_usedByMaps_71 (by decide) ?_
  refine am_iinc (v := nI 1) dX10_usedByMaps_72 rfl (by decide) ?_
  refine am_goto (tgt := 4) dX10_usedByMaps_75 (by decide) ?_
  refine am_iload_n dX10_usedByMaps_4 rfl ?_
  refine am_bipush (v := nI 8) dX10_usedByMaps_5 (by decide) ?_
  refine am_icmp_ge (tgt := 78) dX10_usedByMaps_7 (by decide) (fun h => absurd h (by decide)) (fun _ => ?_)
  refine am_iload_n dX10_usedByMaps_10 rfl ?_
  refine am_callSx (as := [.inl (nI 1)]) (rest := []) dX10_usedByMaps_11 lkX10_mapBlock ml_X10_320 isX10_mapBlock rfl (Nat.le_of_ble_eq_true rfl) rfl (c_mapBlock hG.nd (g := 1) (by omega) I) ?_
  refine am_bipush (v := nI 16) dX10_usedByMaps_14 (by decide) ?_
  refine am_imul dX10_usedByMaps_16 ?_
  refine am_top (show (nI 192) * (nI 16) = nI 3072 by decide) ?_
  refine am_istore dX10_usedByMaps_17 (by decide) ?_
  refine am_iload_n dX10_usedByMaps_19 rfl ?_
  refine am_iload_n dX10_usedByMaps_20 rfl ?_
  refine am_if_eq (tgt := 56) dX10_usedByMaps_21 (by decide) (fun _ => ?_) (fun h => absurd h (by decide))
  refine am_aload_n dX10_usedByMaps_56 rfl ?_
  refine am_get (v := .inr (0, 1)) dX10_usedByMaps_57 fl_10_9 (hG.m0 (by decide)) rfl ?_
  refine am_iload dX10_usedByMaps_60 rfl ?_
  refine am_iald (a := 3072) dX10_usedByMaps_62 (hG.m0 (by decide)) rfl rfl (show 3072 < 10240 from (by omega)) (show 10240 < 2 ^ 31 by decide) ?_
  refine am_top (show I 0 1 3072 = nI 0 from (by simp [am_up, am_upf, upd, hI, am_fr, am_dk])) ?_
  refine am_ldcw (v := (65535 : Int32)) dX10_usedByMaps_63 kc_X10_328 ?_
  refine am_top (show (65535 : Int32) = nI 65535 by decide) ?_
  refine am_iand dX10_usedByMaps_66 ?_
  refine am_top (show (nI 0) &&& (nI 65535) = nI 0 by decide) ?_
  refine am_callSx (as := [.inl (nI 0)]) (rest := [.inl (nI 1)]) dX10_usedByMaps_67 lkJ6_bitCount_0f7a4 ml_X10_323 isJ6_bitCount_0f7a4 rfl (Nat.le_of_ble_eq_true rfl) rfl (c_bitCount0 hG.nd I) ?_
  refine am_iadd dX10_usedByMaps_70 ?_
  refine am_top (show (nI 1) + (nI 0) = nI 1 by decide) ?_
  refine am_istore_n dX10_usedByMaps_71 (by decide) ?_
  refine am_iinc (v := nI 2) dX10_usedByMaps_72 rfl (by decide) ?_
  refine am_goto (tgt := 4) dX10_usedByMaps_75 (by decide) ?_
  refine am_iload_n dX10_usedByMaps_4 rfl ?_
  refine am_bipush (v := nI 8) dX10_usedByMaps_5 (by decide) ?_
  refine am_icmp_ge (tgt := 78) dX10_usedByMaps_7 (by decide) (fun h => absurd h (by decide)) (fun _ => ?_)
  refine am_iload_n dX10_usedByMaps_10 rfl ?_
  refine am_callSx (as := [.inl (nI 2)]) (rest := []) dX10_usedByMaps_11 lkX10_mapBlock ml_X10_320 isX10_mapBlock rfl (Nat.le_of_ble_eq_true rfl) rfl (c_mapBlock hG.nd (g := 2) (by omega) I) ?_
  refine am_bipush (v := nI 16) dX10_usedByMaps_14 (by decide) ?_
  refine am_imul dX10_usedByMaps_16 ?_
  refine am_top (show (nI 256) * (nI 16) = nI 4096 by decide) ?_
  refine am_istore dX10_usedByMaps_17 (by decide) ?_
  refine am_iload_n dX10_usedByMaps_19 rfl ?_
  refine am_iload_n dX10_usedByMaps_20 rfl ?_
  refine am_if_eq (tgt := 56) dX10_usedByMaps_21 (by decide) (fun _ => ?_) (fun h => absurd h (by decide))
  refine am_aload_n dX10_usedByMaps_56 rfl ?_
  refine am_get (v := .inr (0, 1)) dX10_usedByMaps_57 fl_10_9 (hG.m0 (by decide)) rfl ?_
  refine am_iload dX10_usedByMaps_60 rfl ?_
  refine am_iald (a := 4096) dX10_usedByMaps_62 (hG.m0 (by decide)) rfl rfl (show 4096 < 10240 from (by omega)) (show 10240 < 2 ^ 31 by decide) ?_
  refine am_top (show I 0 1 4096 = nI 0 from (by simp [am_up, am_upf, upd, hI, am_fr, am_dk])) ?_
  refine am_ldcw (v := (65535 : Int32)) dX10_usedByMaps_63 kc_X10_328 ?_
  refine am_top (show (65535 : Int32) = nI 65535 by decide) ?_
  refine am_iand dX10_usedByMaps_66 ?_
  refine am_top (show (nI 0) &&& (nI 65535) = nI 0 by decide) ?_
  refine am_callSx (as := [.inl (nI 0)]) (rest := [.inl (nI 1)]) dX10_usedByMaps_67 lkJ6_bitCount_0f7a4 ml_X10_323 isJ6_bitCount_0f7a4 rfl (Nat.le_of_ble_eq_true rfl) rfl (c_bitCount0 hG.nd I) ?_
  refine am_iadd dX10_usedByMaps_70 ?_
  refine am_top (show (nI 1) + (nI 0) = nI 1 by decide) ?_
  refine am_istore_n dX10_usedByMaps_71 (by decide) ?_
  refine am_iinc (v := nI 3) dX10_usedByMaps_72 rfl (by decide) ?_
  refine am_goto (tgt := 4) dX10_usedByMaps_75 (by decide) ?_
  refine am_iload_n dX10_usedByMaps_4 rfl ?_
  refine am_bipush (v := nI 8) dX10_usedByMaps_5 (by decide) ?_
  refine am_icmp_ge (tgt := 78) dX10_usedByMaps_7 (by decide) (fun h => absurd h (by decide)) (fun _ => ?_)
  refine am_iload_n dX10_usedByMaps_10 rfl ?_
  refine am_callSx (as := [.inl (nI 3)]) (rest := []) dX10_usedByMaps_11 lkX10_mapBlock ml_X10_320 isX10_mapBlock rfl (Nat.le_of_ble_eq_true rfl) rfl (c_mapBlock hG.nd (g := 3) (by omega) I) ?_
  refine am_bipush (v := nI 16) dX10_usedByMaps_14 (by decide) ?_
  refine am_imul dX10_usedByMaps_16 ?_
  refine am_top (show (nI 320) * (nI 16) = nI 5120 by decide) ?_
  refine am_istore dX10_usedByMaps_17 (by decide) ?_
  refine am_iload_n dX10_usedByMaps_19 rfl ?_
  refine am_iload_n dX10_usedByMaps_20 rfl ?_
  refine am_if_eq (tgt := 56) dX10_usedByMaps_21 (by decide) (fun _ => ?_) (fun h => absurd h (by decide))
  refine am_aload_n dX10_usedByMaps_56 rfl ?_
  refine am_get (v := .inr (0, 1)) dX10_usedByMaps_57 fl_10_9 (hG.m0 (by decide)) rfl ?_
  refine am_iload dX10_usedByMaps_60 rfl ?_
  refine am_iald (a := 5120) dX10_usedByMaps_62 (hG.m0 (by decide)) rfl rfl (show 5120 < 10240 from (by omega)) (show 10240 < 2 ^ 31 by decide) ?_
  refine am_top (show I 0 1 5120 = nI 0 from (by simp [am_up, am_upf, upd, hI, am_fr, am_dk])) ?_
  refine am_ldcw (v := (65535 : Int32)) dX10_usedByMaps_63 kc_X10_328 ?_
  refine am_top (show (65535 : Int32) = nI 65535 by decide) ?_
  refine am_iand dX10_usedByMaps_66 ?_
  refine am_top (show (nI 0) &&& (nI 65535) = nI 0 by decide) ?_
  refine am_callSx (as := [.inl (nI 0)]) (rest := [.inl (nI 1)]) dX10_usedByMaps_67 lkJ6_bitCount_0f7a4 ml_X10_323 isJ6_bitCount_0f7a4 rfl (Nat.le_of_ble_eq_true rfl) rfl (c_bitCount0 hG.nd I) ?_
  refine am_iadd dX10_usedByMaps_70 ?_
  refine am_top (show (nI 1) + (nI 0) = nI 1 by decide) ?_
  refine am_istore_n dX10_usedByMaps_71 (by decide) ?_
  refine am_iinc (v := nI 4) dX10_usedByMaps_72 rfl (by decide) ?_
  refine am_goto (tgt := 4) dX10_usedByMaps_75 (by decide) ?_
  refine am_iload_n dX10_usedByMaps_4 rfl ?_
  refine am_bipush (v := nI 8) dX10_usedByMaps_5 (by decide) ?_
  refine am_icmp_ge (tgt := 78) dX10_usedByMaps_7 (by decide) (fun h => absurd h (by decide)) (fun _ => ?_)
  refine am_iload_n dX10_usedByMaps_10 rfl ?_
  refine am_callSx (as := [.inl (nI 4)]) (rest := []) dX10_usedByMaps_11 lkX10_mapBlock ml_X10_320 isX10_mapBlock rfl (Nat.le_of_ble_eq_true rfl) rfl (c_mapBlock hG.nd (g := 4) (by omega) I) ?_
  refine am_bipush (v := nI 16) dX10_usedByMaps_14 (by decide) ?_
  refine am_imul dX10_usedByMaps_16 ?_
  refine am_top (show (nI 384) * (nI 16) = nI 6144 by decide) ?_
  refine am_istore dX10_usedByMaps_17 (by decide) ?_
  refine am_iload_n dX10_usedByMaps_19 rfl ?_
  refine am_iload_n dX10_usedByMaps_20 rfl ?_
  refine am_if_eq (tgt := 56) dX10_usedByMaps_21 (by decide) (fun _ => ?_) (fun h => absurd h (by decide))
  refine am_aload_n dX10_usedByMaps_56 rfl ?_
  refine am_get (v := .inr (0, 1)) dX10_usedByMaps_57 fl_10_9 (hG.m0 (by decide)) rfl ?_
  refine am_iload dX10_usedByMaps_60 rfl ?_
  refine am_iald (a := 6144) dX10_usedByMaps_62 (hG.m0 (by decide)) rfl rfl (show 6144 < 10240 from (by omega)) (show 10240 < 2 ^ 31 by decide) ?_
  refine am_top (show I 0 1 6144 = nI 0 from (by simp [am_up, am_upf, upd, hI, am_fr, am_dk])) ?_
  refine am_ldcw (v := (65535 : Int32)) dX10_usedByMaps_63 kc_X10_328 ?_
  refine am_top (show (65535 : Int32) = nI 65535 by decide) ?_
  refine am_iand dX10_usedByMaps_66 ?_
  refine am_top (show (nI 0) &&& (nI 65535) = nI 0 by decide) ?_
  refine am_callSx (as := [.inl (nI 0)]) (rest := [.inl (nI 1)]) dX10_usedByMaps_67 lkJ6_bitCount_0f7a4 ml_X10_323 isJ6_bitCount_0f7a4 rfl (Nat.le_of_ble_eq_true rfl) rfl (c_bitCount0 hG.nd I) ?_
  refine am_iadd dX10_usedByMaps_70 ?_
  refine am_top (show (nI 1) + (nI 0) = nI 1 by decide) ?_
  refine am_istore_n dX10_usedByMaps_71 (by decide) ?_
  refine am_iinc (v := nI 5) dX10_usedByMaps_72 rfl (by decide) ?_
  refine am_goto (tgt := 4) dX10_usedByMaps_75 (by decide) ?_
  refine am_iload_n dX10_usedByMaps_4 rfl ?_
  refine am_bipush (v := nI 8) dX10_usedByMaps_5 (by decide) ?_
  refine am_icmp_ge (tgt := 78) dX10_usedByMaps_7 (by decide) (fun h => absurd h (by decide)) (fun _ => ?_)
  refine am_iload_n dX10_usedByMaps_10 rfl ?_
  refine am_callSx (as := [.inl (nI 5)]) (rest := []) dX10_usedByMaps_11 lkX10_mapBlock ml_X10_320 isX10_mapBlock rfl (Nat.le_of_ble_eq_true rfl) rfl (c_mapBlock hG.nd (g := 5) (by omega) I) ?_
  refine am_bipush (v := nI 16) dX10_usedByMaps_14 (by decide) ?_
  refine am_imul dX10_usedByMaps_16 ?_
  refine am_top (show (nI 448) * (nI 16) = nI 7168 by decide) ?_
  refine am_istore dX10_usedByMaps_17 (by decide) ?_
  refine am_iload_n dX10_usedByMaps_19 rfl ?_
  refine am_iload_n dX10_usedByMaps_20 rfl ?_
  refine am_if_eq (tgt := 56) dX10_usedByMaps_21 (by decide) (fun _ => ?_) (fun h => absurd h (by decide))
  refine am_aload_n dX10_usedByMaps_56 rfl ?_
  refine am_get (v := .inr (0, 1)) dX10_usedByMaps_57 fl_10_9 (hG.m0 (by decide)) rfl ?_
  refine am_iload dX10_usedByMaps_60 rfl ?_
  refine am_iald (a := 7168) dX10_usedByMaps_62 (hG.m0 (by decide)) rfl rfl (show 7168 < 10240 from (by omega)) (show 10240 < 2 ^ 31 by decide) ?_
  refine am_top (show I 0 1 7168 = nI 0 from (by simp [am_up, am_upf, upd, hI, am_fr, am_dk])) ?_
  refine am_ldcw (v := (65535 : Int32)) dX10_usedByMaps_63 kc_X10_328 ?_
  refine am_top (show (65535 : Int32) = nI 65535 by decide) ?_
  refine am_iand dX10_usedByMaps_66 ?_
  refine am_top (show (nI 0) &&& (nI 65535) = nI 0 by decide) ?_
  refine am_callSx (as := [.inl (nI 0)]) (rest := [.inl (nI 1)]) dX10_usedByMaps_67 lkJ6_bitCount_0f7a4 ml_X10_323 isJ6_bitCount_0f7a4 rfl (Nat.le_of_ble_eq_true rfl) rfl (c_bitCount0 hG.nd I) ?_
  refine am_iadd dX10_usedByMaps_70 ?_
  refine am_top (show (nI 1) + (nI 0) = nI 1 by decide) ?_
  refine am_istore_n dX10_usedByMaps_71 (by decide) ?_
  refine am_iinc (v := nI 6) dX10_usedByMaps_72 rfl (by decide) ?_
  refine am_goto (tgt := 4) dX10_usedByMaps_75 (by decide) ?_
  refine am_iload_n dX10_usedByMaps_4 rfl ?_
  refine am_bipush (v := nI 8) dX10_usedByMaps_5 (by decide) ?_
  refine am_icmp_ge (tgt := 78) dX10_usedByMaps_7 (by decide) (fun h => absurd h (by decide)) (fun _ => ?_)
  refine am_iload_n dX10_usedByMaps_10 rfl ?_
  refine am_callSx (as := [.inl (nI 6)]) (rest := []) dX10_usedByMaps_11 lkX10_mapBlock ml_X10_320 isX10_mapBlock rfl (Nat.le_of_ble_eq_true rfl) rfl (c_mapBlock hG.nd (g := 6) (by omega) I) ?_
  refine am_bipush (v := nI 16) dX10_usedByMaps_14 (by decide) ?_
  refine am_imul dX10_usedByMaps_16 ?_
  refine am_top (show (nI 512) * (nI 16) = nI 8192 by decide) ?_
  refine am_istore dX10_usedByMaps_17 (by decide) ?_
  refine am_iload_n dX10_usedByMaps_19 rfl ?_
  refine am_iload_n dX10_usedByMaps_20 rfl ?_
  refine am_if_eq (tgt := 56) dX10_usedByMaps_21 (by decide) (fun _ => ?_) (fun h => absurd h (by decide))
  refine am_aload_n dX10_usedByMaps_56 rfl ?_
  refine am_get (v := .inr (0, 1)) dX10_usedByMaps_57 fl_10_9 (hG.m0 (by decide)) rfl ?_
  refine am_iload dX10_usedByMaps_60 rfl ?_
  refine am_iald (a := 8192) dX10_usedByMaps_62 (hG.m0 (by decide)) rfl rfl (show 8192 < 10240 from (by omega)) (show 10240 < 2 ^ 31 by decide) ?_
  refine am_top (show I 0 1 8192 = nI 0 from (by simp [am_up, am_upf, upd, hI, am_fr, am_dk])) ?_
  refine am_ldcw (v := (65535 : Int32)) dX10_usedByMaps_63 kc_X10_328 ?_
  refine am_top (show (65535 : Int32) = nI 65535 by decide) ?_
  refine am_iand dX10_usedByMaps_66 ?_
  refine am_top (show (nI 0) &&& (nI 65535) = nI 0 by decide) ?_
  refine am_callSx (as := [.inl (nI 0)]) (rest := [.inl (nI 1)]) dX10_usedByMaps_67 lkJ6_bitCount_0f7a4 ml_X10_323 isJ6_bitCount_0f7a4 rfl (Nat.le_of_ble_eq_true rfl) rfl (c_bitCount0 hG.nd I) ?_
  refine am_iadd dX10_usedByMaps_70 ?_
  refine am_top (show (nI 1) + (nI 0) = nI 1 by decide) ?_
  refine am_istore_n dX10_usedByMaps_71 (by decide) ?_
  refine am_iinc (v := nI 7) dX10_usedByMaps_72 rfl (by decide) ?_
  refine am_goto (tgt := 4) dX10_usedByMaps_75 (by decide) ?_
  refine am_iload_n dX10_usedByMaps_4 rfl ?_
  refine am_bipush (v := nI 8) dX10_usedByMaps_5 (by decide) ?_
  refine am_icmp_ge (tgt := 78) dX10_usedByMaps_7 (by decide) (fun h => absurd h (by decide)) (fun _ => ?_)
  refine am_iload_n dX10_usedByMaps_10 rfl ?_
  refine am_callSx (as := [.inl (nI 7)]) (rest := []) dX10_usedByMaps_11 lkX10_mapBlock ml_X10_320 isX10_mapBlock rfl (Nat.le_of_ble_eq_true rfl) rfl (c_mapBlock hG.nd (g := 7) (by omega) I) ?_
  refine am_bipush (v := nI 16) dX10_usedByMaps_14 (by decide) ?_
  refine am_imul dX10_usedByMaps_16 ?_
  refine am_top (show (nI 576) * (nI 16) = nI 9216 by decide) ?_
  refine am_istore dX10_usedByMaps_17 (by decide) ?_
  refine am_iload_n dX10_usedByMaps_19 rfl ?_
  refine am_iload_n dX10_usedByMaps_20 rfl ?_
  refine am_if_eq (tgt := 56) dX10_usedByMaps_21 (by decide) (fun _ => ?_) (fun h => absurd h (by decide))
  refine am_aload_n dX10_usedByMaps_56 rfl ?_
  refine am_get (v := .inr (0, 1)) dX10_usedByMaps_57 fl_10_9 (hG.m0 (by decide)) rfl ?_
  refine am_iload dX10_usedByMaps_60 rfl ?_
  refine am_iald (a := 9216) dX10_usedByMaps_62 (hG.m0 (by decide)) rfl rfl (show 9216 < 10240 from (by omega)) (show 10240 < 2 ^ 31 by decide) ?_
  refine am_top (show I 0 1 9216 = nI 0 from (by simp [am_up, am_upf, upd, hI, am_fr, am_dk])) ?_
  refine am_ldcw (v := (65535 : Int32)) dX10_usedByMaps_63 kc_X10_328 ?_
  refine am_top (show (65535 : Int32) = nI 65535 by decide) ?_
  refine am_iand dX10_usedByMaps_66 ?_
  refine am_top (show (nI 0) &&& (nI 65535) = nI 0 by decide) ?_
  refine am_callSx (as := [.inl (nI 0)]) (rest := [.inl (nI 1)]) dX10_usedByMaps_67 lkJ6_bitCount_0f7a4 ml_X10_323 isJ6_bitCount_0f7a4 rfl (Nat.le_of_ble_eq_true rfl) rfl (c_bitCount0 hG.nd I) ?_
  refine am_iadd dX10_usedByMaps_70 ?_
  refine am_top (show (nI 1) + (nI 0) = nI 1 by decide) ?_
  refine am_istore_n dX10_usedByMaps_71 (by decide) ?_
  refine am_iinc (v := nI 8) dX10_usedByMaps_72 rfl (by decide) ?_
  refine am_goto (tgt := 4) dX10_usedByMaps_75 (by decide) ?_
  refine am_iload_n dX10_usedByMaps_4 rfl ?_
  refine am_bipush (v := nI 8) dX10_usedByMaps_5 (by decide) ?_
  refine am_icmp_ge (tgt := 78) dX10_usedByMaps_7 (by decide) (fun _ => ?_) (fun h => absurd h (by decide))
  refine am_iload_n dX10_usedByMaps_78 rfl ?_
  refine am_iret dX10_usedByMaps_79 rfl rfl ?_
  exact ⟨rfl, rfl⟩
theorem c_used1 {G : am_G} (hG : am_ok G) {d : Nat} {I : am_I} (hI : I = am_fr G.2.2.2.1)  : am_C G (d + 1) mX10_usedByMaps [.inr (0, 0), .inl (nI 1)] I (am_E (some (nI 0)) I) := by
  refine am_of (by decide +kernel) hG.nd (Nat.le_of_ble_eq_true rfl) ?_
  refine am_iconst (v := nI 0) dX10_usedByMaps_0 (by decide) ?_
  refine am_istore_n dX10_usedByMaps_1 (by decide) ?_
  refine am_iconst (v := nI 0) dX10_usedByMaps_2 (by decide) ?_
  refine am_istore_n dX10_usedByMaps_3 (by decide) ?_
  refine am_iload_n dX10_usedByMaps_4 rfl ?_
  refine am_bipush (v := nI 8) dX10_usedByMaps_5 (by decide) ?_
  refine am_icmp_ge (tgt := 78) dX10_usedByMaps_7 (by decide) (fun h => absurd h (by decide)) (fun _ => ?_)
  refine am_iload_n dX10_usedByMaps_10 rfl ?_
  refine am_callSx (as := [.inl (nI 0)]) (rest := []) dX10_usedByMaps_11 lkX10_mapBlock ml_X10_320 isX10_mapBlock rfl (Nat.le_of_ble_eq_true rfl) rfl (c_mapBlock hG.nd (g := 0) (by omega) I) ?_
  refine am_bipush (v := nI 16) dX10_usedByMaps_14 (by decide) ?_
  refine am_imul dX10_usedByMaps_16 ?_
  refine am_top (show (nI 128) * (nI 16) = nI 2048 by decide) ?_
  refine am_istore dX10_usedByMaps_17 (by decide) ?_
  refine am_iload_n dX10_usedByMaps_19 rfl ?_
  refine am_iload_n dX10_usedByMaps_20 rfl ?_
  refine am_if_eq (tgt := 56) dX10_usedByMaps_21 (by decide) (fun h => absurd h (by decide)) (fun _ => ?_)
  refine am_aload_n dX10_usedByMaps_24 rfl ?_
  refine am_get (v := .inr (0, 1)) dX10_usedByMaps_25 fl_10_9 (hG.m0 (by decide)) rfl ?_
  refine am_iload dX10_usedByMaps_28 rfl ?_
  refine am_iconst (v := nI 1) dX10_usedByMaps_30 (by decide) ?_
  refine am_iadd dX10_usedByMaps_31 ?_
  refine am_top (show (nI 2048) + (nI 1) = nI 2049 by decide) ?_
  refine am_iald (a := 2049) dX10_usedByMaps_32 (hG.m0 (by decide)) rfl rfl (show 2049 < 10240 from (by omega)) (show 10240 < 2 ^ 31 by decide) ?_
  refine am_top (show I 0 1 2049 = nI 0 from (by simp [am_up, am_upf, upd, hI, am_fr, am_dk])) ?_
  refine am_callSx (as := [.inl (nI 0)]) (rest := [.inl (nI 0)]) dX10_usedByMaps_33 lkJ6_bitCount_0f7a4 ml_X10_323 isJ6_bitCount_0f7a4 rfl (Nat.le_of_ble_eq_true rfl) rfl (c_bitCount0 hG.nd I) ?_
  refine am_aload_n dX10_usedByMaps_36 rfl ?_
  refine am_get (v := .inr (0, 1)) dX10_usedByMaps_37 fl_10_9 (hG.m0 (by decide)) rfl ?_
  refine am_iload dX10_usedByMaps_40 rfl ?_
  refine am_iconst (v := nI 2) dX10_usedByMaps_42 (by decide) ?_
  refine am_iadd dX10_usedByMaps_43 ?_
  refine am_top (show (nI 2048) + (nI 2) = nI 2050 by decide) ?_
  refine am_iald (a := 2050) dX10_usedByMaps_44 (hG.m0 (by decide)) rfl rfl (show 2050 < 10240 from (by omega)) (show 10240 < 2 ^ 31 by decide) ?_
  refine am_top (show I 0 1 2050 = nI 0 from (by simp [am_up, am_upf, upd, hI, am_fr, am_dk])) ?_
  refine am_sipush (v := nI 32767) dX10_usedByMaps_45 (by decide) ?_
  refine am_iand dX10_usedByMaps_48 ?_
  refine am_top (show (nI 0) &&& (nI 32767) = nI 0 by decide) ?_
  refine am_callSx (as := [.inl (nI 0)]) (rest := [.inl (nI 0), .inl (nI 0)]) dX10_usedByMaps_49 lkJ6_bitCount_0f7a4 ml_X10_323 isJ6_bitCount_0f7a4 rfl (Nat.le_of_ble_eq_true rfl) rfl (c_bitCount0 hG.nd I) ?_
  refine am_iadd dX10_usedByMaps_52 ?_
  refine am_top (show (nI 0) + (nI 0) = nI 0 by decide) ?_
  refine am_goto (tgt := 70) dX10_usedByMaps_53 (by decide) ?_
  refine am_iadd dX10_usedByMaps_70 ?_
  refine am_top (show (nI 0) + (nI 0) = nI 0 by decide) ?_
  refine am_istore_n dX10_usedByMaps_71 (by decide) ?_
  refine am_iinc (v := nI 1) dX10_usedByMaps_72 rfl (by decide) ?_
  refine am_goto (tgt := 4) dX10_usedByMaps_75 (by decide) ?_
  refine am_iload_n dX10_usedByMaps_4 rfl ?_
  refine am_bipush (v := nI 8) dX10_usedByMaps_5 (by decide) ?_
  refine am_icmp_ge (tgt := 78) dX10_usedByMaps_7 (by decide) (fun h => absurd h (by decide)) (fun _ => ?_)
  refine am_iload_n dX10_usedByMaps_10 rfl ?_
  refine am_callSx (as := [.inl (nI 1)]) (rest := []) dX10_usedByMaps_11 lkX10_mapBlock ml_X10_320 isX10_mapBlock rfl (Nat.le_of_ble_eq_true rfl) rfl (c_mapBlock hG.nd (g := 1) (by omega) I) ?_
  refine am_bipush (v := nI 16) dX10_usedByMaps_14 (by decide) ?_
  refine am_imul dX10_usedByMaps_16 ?_
  refine am_top (show (nI 192) * (nI 16) = nI 3072 by decide) ?_
  refine am_istore dX10_usedByMaps_17 (by decide) ?_
  refine am_iload_n dX10_usedByMaps_19 rfl ?_
  refine am_iload_n dX10_usedByMaps_20 rfl ?_
  refine am_if_eq (tgt := 56) dX10_usedByMaps_21 (by decide) (fun h => absurd h (by decide)) (fun _ => ?_)
  refine am_aload_n dX10_usedByMaps_24 rfl ?_
  refine am_get (v := .inr (0, 1)) dX10_usedByMaps_25 fl_10_9 (hG.m0 (by decide)) rfl ?_
  refine am_iload dX10_usedByMaps_28 rfl ?_
  refine am_iconst (v := nI 1) dX10_usedByMaps_30 (by decide) ?_
  refine am_iadd dX10_usedByMaps_31 ?_
  refine am_top (show (nI 3072) + (nI 1) = nI 3073 by decide) ?_
  refine am_iald (a := 3073) dX10_usedByMaps_32 (hG.m0 (by decide)) rfl rfl (show 3073 < 10240 from (by omega)) (show 10240 < 2 ^ 31 by decide) ?_
  refine am_top (show I 0 1 3073 = nI 0 from (by simp [am_up, am_upf, upd, hI, am_fr, am_dk])) ?_
  refine am_callSx (as := [.inl (nI 0)]) (rest := [.inl (nI 0)]) dX10_usedByMaps_33 lkJ6_bitCount_0f7a4 ml_X10_323 isJ6_bitCount_0f7a4 rfl (Nat.le_of_ble_eq_true rfl) rfl (c_bitCount0 hG.nd I) ?_
  refine am_aload_n dX10_usedByMaps_36 rfl ?_
  refine am_get (v := .inr (0, 1)) dX10_usedByMaps_37 fl_10_9 (hG.m0 (by decide)) rfl ?_
  refine am_iload dX10_usedByMaps_40 rfl ?_
  refine am_iconst (v := nI 2) dX10_usedByMaps_42 (by decide) ?_
  refine am_iadd dX10_usedByMaps_43 ?_
  refine am_top (show (nI 3072) + (nI 2) = nI 3074 by decide) ?_
  refine am_iald (a := 3074) dX10_usedByMaps_44 (hG.m0 (by decide)) rfl rfl (show 3074 < 10240 from (by omega)) (show 10240 < 2 ^ 31 by decide) ?_
  refine am_top (show I 0 1 3074 = nI 0 from (by simp [am_up, am_upf, upd, hI, am_fr, am_dk])) ?_
  refine am_sipush (v := nI 32767) dX10_usedByMaps_45 (by decide) ?_
  refine am_iand dX10_usedByMaps_48 ?_
  refine am_top (show (nI 0) &&& (nI 32767) = nI 0 by decide) ?_
  refine am_callSx (as := [.inl (nI 0)]) (rest := [.inl (nI 0), .inl (nI 0)]) dX10_usedByMaps_49 lkJ6_bitCount_0f7a4 ml_X10_323 isJ6_bitCount_0f7a4 rfl (Nat.le_of_ble_eq_true rfl) rfl (c_bitCount0 hG.nd I) ?_
  refine am_iadd dX10_usedByMaps_52 ?_
  refine am_top (show (nI 0) + (nI 0) = nI 0 by decide) ?_
  refine am_goto (tgt := 70) dX10_usedByMaps_53 (by decide) ?_
  refine am_iadd dX10_usedByMaps_70 ?_
  refine am_top (show (nI 0) + (nI 0) = nI 0 by decide) ?_
  refine am_istore_n dX10_usedByMaps_71 (by decide) ?_
  refine am_iinc (v := nI 2) dX10_usedByMaps_72 rfl (by decide) ?_
  refine am_goto (tgt := 4) dX10_usedByMaps_75 (by decide) ?_
  refine am_iload_n dX10_usedByMaps_4 rfl ?_
  refine am_bipush (v := nI 8) dX10_usedByMaps_5 (by decide) ?_
  refine am_icmp_ge (tgt := 78) dX10_usedByMaps_7 (by decide) (fun h => absurd h (by decide)) (fun _ => ?_)
  refine am_iload_n dX10_usedByMaps_10 rfl ?_
  refine am_callSx (as := [.inl (nI 2)]) (rest := []) dX10_usedByMaps_11 lkX10_mapBlock ml_X10_320 isX10_mapBlock rfl (Nat.le_of_ble_eq_true rfl) rfl (c_mapBlock hG.nd (g := 2) (by omega) I) ?_
  refine am_bipush (v := nI 16) dX10_usedByMaps_14 (by decide) ?_
  refine am_imul dX10_usedByMaps_16 ?_
  refine am_top (show (nI 256) * (nI 16) = nI 4096 by decide) ?_
  refine am_istore dX10_usedByMaps_17 (by decide) ?_
  refine am_iload_n dX10_usedByMaps_19 rfl ?_
  refine am_iload_n dX10_usedByMaps_20 rfl ?_
  refine am_if_eq (tgt := 56) dX10_usedByMaps_21 (by decide) (fun h => absurd h (by decide)) (fun _ => ?_)
  refine am_aload_n dX10_usedByMaps_24 rfl ?_
  refine am_get (v := .inr (0, 1)) dX10_usedByMaps_25 fl_10_9 (hG.m0 (by decide)) rfl ?_
  refine am_iload dX10_usedByMaps_28 rfl ?_
  refine am_iconst (v := nI 1) dX10_usedByMaps_30 (by decide) ?_
  refine am_iadd dX10_usedByMaps_31 ?_
  refine am_top (show (nI 4096) + (nI 1) = nI 4097 by decide) ?_
  refine am_iald (a := 4097) dX10_usedByMaps_32 (hG.m0 (by decide)) rfl rfl (show 4097 < 10240 from (by omega)) (show 10240 < 2 ^ 31 by decide) ?_
  refine am_top (show I 0 1 4097 = nI 0 from (by simp [am_up, am_upf, upd, hI, am_fr, am_dk])) ?_
  refine am_callSx (as := [.inl (nI 0)]) (rest := [.inl (nI 0)]) dX10_usedByMaps_33 lkJ6_bitCount_0f7a4 ml_X10_323 isJ6_bitCount_0f7a4 rfl (Nat.le_of_ble_eq_true rfl) rfl (c_bitCount0 hG.nd I) ?_
  refine am_aload_n dX10_usedByMaps_36 rfl ?_
  refine am_get (v := .inr (0, 1)) dX10_usedByMaps_37 fl_10_9 (hG.m0 (by decide)) rfl ?_
  refine am_iload dX10_usedByMaps_40 rfl ?_
  refine am_iconst (v := nI 2) dX10_usedByMaps_42 (by decide) ?_
  refine am_iadd dX10_usedByMaps_43 ?_
  refine am_top (show (nI 4096) + (nI 2) = nI 4098 by decide) ?_
  refine am_iald (a := 4098) dX10_usedByMaps_44 (hG.m0 (by decide)) rfl rfl (show 4098 < 10240 from (by omega)) (show 10240 < 2 ^ 31 by decide) ?_
  refine am_top (show I 0 1 4098 = nI 0 from (by simp [am_up, am_upf, upd, hI, am_fr, am_dk])) ?_
  refine am_sipush (v := nI 32767) dX10_usedByMaps_45 (by decide) ?_
  refine am_iand dX10_usedByMaps_48 ?_
  refine am_top (show (nI 0) &&& (nI 32767) = nI 0 by decide) ?_
  refine am_callSx (as := [.inl (nI 0)]) (rest := [.inl (nI 0), .inl (nI 0)]) dX10_usedByMaps_49 lkJ6_bitCount_0f7a4 ml_X10_323 isJ6_bitCount_0f7a4 rfl (Nat.le_of_ble_eq_true rfl) rfl (c_bitCount0 hG.nd I) ?_
  refine am_iadd dX10_usedByMaps_52 ?_
  refine am_top (show (nI 0) + (nI 0) = nI 0 by decide) ?_
  refine am_goto (tgt := 70) dX10_usedByMaps_53 (by decide) ?_
  refine am_iadd dX10_usedByMaps_70 ?_
  refine am_top (show (nI 0) + (nI 0) = nI 0 by decide) ?_
  refine am_istore_n dX10_usedByMaps_71 (by decide) ?_
  refine am_iinc (v := nI 3) dX10_usedByMaps_72 rfl (by decide) ?_
  refine am_goto (tgt := 4) dX10_usedByMaps_75 (by decide) ?_
  refine am_iload_n dX10_usedByMaps_4 rfl ?_
  refine am_bipush (v := nI 8) dX10_usedByMaps_5 (by decide) ?_
  refine am_icmp_ge (tgt := 78) dX10_usedByMaps_7 (by decide) (fun h => absurd h (by decide)) (fun _ => ?_)
  refine am_iload_n dX10_usedByMaps_10 rfl ?_
  refine am_callSx (as := [.inl (nI 3)]) (rest := []) dX10_usedByMaps_11 lkX10_mapBlock ml_X10_320 isX10_mapBlock rfl (Nat.le_of_ble_eq_true rfl) rfl (c_mapBlock hG.nd (g := 3) (by omega) I) ?_
  refine am_bipush (v := nI 16) dX10_usedByMaps_14 (by decide) ?_
  refine am_imul dX10_usedByMaps_16 ?_
  refine am_top (show (nI 320) * (nI 16) = nI 5120 by decide) ?_
  refine am_istore dX10_usedByMaps_17 (by decide) ?_
  refine am_iload_n dX10_usedByMaps_19 rfl ?_
  refine am_iload_n dX10_usedByMaps_20 rfl ?_
  refine am_if_eq (tgt := 56) dX10_usedByMaps_21 (by decide) (fun h => absurd h (by decide)) (fun _ => ?_)
  refine am_aload_n dX10_usedByMaps_24 rfl ?_
  refine am_get (v := .inr (0, 1)) dX10_usedByMaps_25 fl_10_9 (hG.m0 (by decide)) rfl ?_
  refine am_iload dX10_usedByMaps_28 rfl ?_
  refine am_iconst (v := nI 1) dX10_usedByMaps_30 (by decide) ?_
  refine am_iadd dX10_usedByMaps_31 ?_
  refine am_top (show (nI 5120) + (nI 1) = nI 5121 by decide) ?_
  refine am_iald (a := 5121) dX10_usedByMaps_32 (hG.m0 (by decide)) rfl rfl (show 5121 < 10240 from (by omega)) (show 10240 < 2 ^ 31 by decide) ?_
  refine am_top (show I 0 1 5121 = nI 0 from (by simp [am_up, am_upf, upd, hI, am_fr, am_dk])) ?_
  refine am_callSx (as := [.inl (nI 0)]) (rest := [.inl (nI 0)]) dX10_usedByMaps_33 lkJ6_bitCount_0f7a4 ml_X10_323 isJ6_bitCount_0f7a4 rfl (Nat.le_of_ble_eq_true rfl) rfl (c_bitCount0 hG.nd I) ?_
  refine am_aload_n dX10_usedByMaps_36 rfl ?_
  refine am_get (v := .inr (0, 1)) dX10_usedByMaps_37 fl_10_9 (hG.m0 (by decide)) rfl ?_
  refine am_iload dX10_usedByMaps_40 rfl ?_
  refine am_iconst (v := nI 2) dX10_usedByMaps_42 (by decide) ?_
  refine am_iadd dX10_usedByMaps_43 ?_
  refine am_top (show (nI 5120) + (nI 2) = nI 5122 by decide) ?_
  refine am_iald (a := 5122) dX10_usedByMaps_44 (hG.m0 (by decide)) rfl rfl (show 5122 < 10240 from (by omega)) (show 10240 < 2 ^ 31 by decide) ?_
  refine am_top (show I 0 1 5122 = nI 0 from (by simp [am_up, am_upf, upd, hI, am_fr, am_dk])) ?_
  refine am_sipush (v := nI 32767) dX10_usedByMaps_45 (by decide) ?_
  refine am_iand dX10_usedByMaps_48 ?_
  refine am_top (show (nI 0) &&& (nI 32767) = nI 0 by decide) ?_
  refine am_callSx (as := [.inl (nI 0)]) (rest := [.inl (nI 0), .inl (nI 0)]) dX10_usedByMaps_49 lkJ6_bitCount_0f7a4 ml_X10_323 isJ6_bitCount_0f7a4 rfl (Nat.le_of_ble_eq_true rfl) rfl (c_bitCount0 hG.nd I) ?_
  refine am_iadd dX10_usedByMaps_52 ?_
  refine am_top (show (nI 0) + (nI 0) = nI 0 by decide) ?_
  refine am_goto (tgt := 70) dX10_usedByMaps_53 (by decide) ?_
  refine am_iadd dX10_usedByMaps_70 ?_
  refine am_top (show (nI 0) + (nI 0) = nI 0 by decide) ?_
  refine am_istore_n dX10_usedByMaps_71 (by decide) ?_
  refine am_iinc (v := nI 4) dX10_usedByMaps_72 rfl (by decide) ?_
  refine am_goto (tgt := 4) dX10_usedByMaps_75 (by decide) ?_
  refine am_iload_n dX10_usedByMaps_4 rfl ?_
  refine am_bipush (v := nI 8) dX10_usedByMaps_5 (by decide) ?_
  refine am_icmp_ge (tgt := 78) dX10_usedByMaps_7 (by decide) (fun h => absurd h (by decide)) (fun _ => ?_)
  refine am_iload_n dX10_usedByMaps_10 rfl ?_
  refine am_callSx (as := [.inl (nI 4)]) (rest := []) dX10_usedByMaps_11 lkX10_mapBlock ml_X10_320 isX10_mapBlock rfl (Nat.le_of_ble_eq_true rfl) rfl (c_mapBlock hG.nd (g := 4) (by omega) I) ?_
  refine am_bipush (v := nI 16) dX10_usedByMaps_14 (by decide) ?_
  refine am_imul dX10_usedByMaps_16 ?_
  refine am_top (show (nI 384) * (nI 16) = nI 6144 by decide) ?_
  refine am_istore dX10_usedByMaps_17 (by decide) ?_
  refine am_iload_n dX10_usedByMaps_19 rfl ?_
  refine am_iload_n dX10_usedByMaps_20 rfl ?_
  refine am_if_eq (tgt := 56) dX10_usedByMaps_21 (by decide) (fun h => absurd h (by decide)) (fun _ => ?_)
  refine am_aload_n dX10_usedByMaps_24 rfl ?_
  refine am_get (v := .inr (0, 1)) dX10_usedByMaps_25 fl_10_9 (hG.m0 (by decide)) rfl ?_
  refine am_iload dX10_usedByMaps_28 rfl ?_
  refine am_iconst (v := nI 1) dX10_usedByMaps_30 (by decide) ?_
  refine am_iadd dX10_usedByMaps_31 ?_
  refine am_top (show (nI 6144) + (nI 1) = nI 6145 by decide) ?_
  refine am_iald (a := 6145) dX10_usedByMaps_32 (hG.m0 (by decide)) rfl rfl (show 6145 < 10240 from (by omega)) (show 10240 < 2 ^ 31 by decide) ?_
  refine am_top (show I 0 1 6145 = nI 0 from (by simp [am_up, am_upf, upd, hI, am_fr, am_dk])) ?_
  refine am_callSx (as := [.inl (nI 0)]) (rest := [.inl (nI 0)]) dX10_usedByMaps_33 lkJ6_bitCount_0f7a4 ml_X10_323 isJ6_bitCount_0f7a4 rfl (Nat.le_of_ble_eq_true rfl) rfl (c_bitCount0 hG.nd I) ?_
  refine am_aload_n dX10_usedByMaps_36 rfl ?_
  refine am_get (v := .inr (0, 1)) dX10_usedByMaps_37 fl_10_9 (hG.m0 (by decide)) rfl ?_
  refine am_iload dX10_usedByMaps_40 rfl ?_
  refine am_iconst (v := nI 2) dX10_usedByMaps_42 (by decide) ?_
  refine am_iadd dX10_usedByMaps_43 ?_
  refine am_top (show (nI 6144) + (nI 2) = nI 6146 by decide) ?_
  refine am_iald (a := 6146) dX10_usedByMaps_44 (hG.m0 (by decide)) rfl rfl (show 6146 < 10240 from (by omega)) (show 10240 < 2 ^ 31 by decide) ?_
  refine am_top (show I 0 1 6146 = nI 0 from (by simp [am_up, am_upf, upd, hI, am_fr, am_dk])) ?_
  refine am_sipush (v := nI 32767) dX10_usedByMaps_45 (by decide) ?_
  refine am_iand dX10_usedByMaps_48 ?_
  refine am_top (show (nI 0) &&& (nI 32767) = nI 0 by decide) ?_
  refine am_callSx (as := [.inl (nI 0)]) (rest := [.inl (nI 0), .inl (nI 0)]) dX10_usedByMaps_49 lkJ6_bitCount_0f7a4 ml_X10_323 isJ6_bitCount_0f7a4 rfl (Nat.le_of_ble_eq_true rfl) rfl (c_bitCount0 hG.nd I) ?_
  refine am_iadd dX10_usedByMaps_52 ?_
  refine am_top (show (nI 0) + (nI 0) = nI 0 by decide) ?_
  refine am_goto (tgt := 70) dX10_usedByMaps_53 (by decide) ?_
  refine am_iadd dX10_usedByMaps_70 ?_
  refine am_top (show (nI 0) + (nI 0) = nI 0 by decide) ?_
  refine am_istore_n dX10_usedByMaps_71 (by decide) ?_
  refine am_iinc (v := nI 5) dX10_usedByMaps_72 rfl (by decide) ?_
  refine am_goto (tgt := 4) dX10_usedByMaps_75 (by decide) ?_
  refine am_iload_n dX10_usedByMaps_4 rfl ?_
  refine am_bipush (v := nI 8) dX10_usedByMaps_5 (by decide) ?_
  refine am_icmp_ge (tgt := 78) dX10_usedByMaps_7 (by decide) (fun h => absurd h (by decide)) (fun _ => ?_)
  refine am_iload_n dX10_usedByMaps_10 rfl ?_
  refine am_callSx (as := [.inl (nI 5)]) (rest := []) dX10_usedByMaps_11 lkX10_mapBlock ml_X10_320 isX10_mapBlock rfl (Nat.le_of_ble_eq_true rfl) rfl (c_mapBlock hG.nd (g := 5) (by omega) I) ?_
  refine am_bipush (v := nI 16) dX10_usedByMaps_14 (by decide) ?_
  refine am_imul dX10_usedByMaps_16 ?_
  refine am_top (show (nI 448) * (nI 16) = nI 7168 by decide) ?_
  refine am_istore dX10_usedByMaps_17 (by decide) ?_
  refine am_iload_n dX10_usedByMaps_19 rfl ?_
  refine am_iload_n dX10_usedByMaps_20 rfl ?_
  refine am_if_eq (tgt := 56) dX10_usedByMaps_21 (by decide) (fun h => absurd h (by decide)) (fun _ => ?_)
  refine am_aload_n dX10_usedByMaps_24 rfl ?_
  refine am_get (v := .inr (0, 1)) dX10_usedByMaps_25 fl_10_9 (hG.m0 (by decide)) rfl ?_
  refine am_iload dX10_usedByMaps_28 rfl ?_
  refine am_iconst (v := nI 1) dX10_usedByMaps_30 (by decide) ?_
  refine am_iadd dX10_usedByMaps_31 ?_
  refine am_top (show (nI 7168) + (nI 1) = nI 7169 by decide) ?_
  refine am_iald (a := 7169) dX10_usedByMaps_32 (hG.m0 (by decide)) rfl rfl (show 7169 < 10240 from (by omega)) (show 10240 < 2 ^ 31 by decide) ?_
  refine am_top (show I 0 1 7169 = nI 0 from (by simp [am_up, am_upf, upd, hI, am_fr, am_dk])) ?_
  refine am_callSx (as := [.inl (nI 0)]) (rest := [.inl (nI 0)]) dX10_usedByMaps_33 lkJ6_bitCount_0f7a4 ml_X10_323 isJ6_bitCount_0f7a4 rfl (Nat.le_of_ble_eq_true rfl) rfl (c_bitCount0 hG.nd I) ?_
  refine am_aload_n dX10_usedByMaps_36 rfl ?_
  refine am_get (v := .inr (0, 1)) dX10_usedByMaps_37 fl_10_9 (hG.m0 (by decide)) rfl ?_
  refine am_iload dX10_usedByMaps_40 rfl ?_
  refine am_iconst (v := nI 2) dX10_usedByMaps_42 (by decide) ?_
  refine am_iadd dX10_usedByMaps_43 ?_
  refine am_top (show (nI 7168) + (nI 2) = nI 7170 by decide) ?_
  refine am_iald (a := 7170) dX10_usedByMaps_44 (hG.m0 (by decide)) rfl rfl (show 7170 < 10240 from (by omega)) (show 10240 < 2 ^ 31 by decide) ?_
  refine am_top (show I 0 1 7170 = nI 0 from (by simp [am_up, am_upf, upd, hI, am_fr, am_dk])) ?_
  refine am_sipush (v := nI 32767) dX10_usedByMaps_45 (by decide) ?_
  refine am_iand dX10_usedByMaps_48 ?_
  refine am_top (show (nI 0) &&& (nI 32767) = nI 0 by decide) ?_
  refine am_callSx (as := [.inl (nI 0)]) (rest := [.inl (nI 0), .inl (nI 0)]) dX10_usedByMaps_49 lkJ6_bitCount_0f7a4 ml_X10_323 isJ6_bitCount_0f7a4 rfl (Nat.le_of_ble_eq_true rfl) rfl (c_bitCount0 hG.nd I) ?_
  refine am_iadd dX10_usedByMaps_52 ?_
  refine am_top (show (nI 0) + (nI 0) = nI 0 by decide) ?_
  refine am_goto (tgt := 70) dX10_usedByMaps_53 (by decide) ?_
  refine am_iadd dX10_usedByMaps_70 ?_
  refine am_top (show (nI 0) + (nI 0) = nI 0 by decide) ?_
  refine am_istore_n dX10_usedByMaps_71 (by decide) ?_
  refine am_iinc (v := nI 6) dX10_usedByMaps_72 rfl (by decide) ?_
  refine am_goto (tgt := 4) dX10_usedByMaps_75 (by decide) ?_
  refine am_iload_n dX10_usedByMaps_4 rfl ?_
  refine am_bipush (v := nI 8) dX10_usedByMaps_5 (by decide) ?_
  refine am_icmp_ge (tgt := 78) dX10_usedByMaps_7 (by decide) (fun h => absurd h (by decide)) (fun _ => ?_)
  refine am_iload_n dX10_usedByMaps_10 rfl ?_
  refine am_callSx (as := [.inl (nI 6)]) (rest := []) dX10_usedByMaps_11 lkX10_mapBlock ml_X10_320 isX10_mapBlock rfl (Nat.le_of_ble_eq_true rfl) rfl (c_mapBlock hG.nd (g := 6) (by omega) I) ?_
  refine am_bipush (v := nI 16) dX10_usedByMaps_14 (by decide) ?_
  refine am_imul dX10_usedByMaps_16 ?_
  refine am_top (show (nI 512) * (nI 16) = nI 8192 by decide) ?_
  refine am_istore dX10_usedByMaps_17 (by decide) ?_
  refine am_iload_n dX10_usedByMaps_19 rfl ?_
  refine am_iload_n dX10_usedByMaps_20 rfl ?_
  refine am_if_eq (tgt := 56) dX10_usedByMaps_21 (by decide) (fun h => absurd h (by decide)) (fun _ => ?_)
  refine am_aload_n dX10_usedByMaps_24 rfl ?_
  refine am_get (v := .inr (0, 1)) dX10_usedByMaps_25 fl_10_9 (hG.m0 (by decide)) rfl ?_
  refine am_iload dX10_usedByMaps_28 rfl ?_
  refine am_iconst (v := nI 1) dX10_usedByMaps_30 (by decide) ?_
  refine am_iadd dX10_usedByMaps_31 ?_
  refine am_top (show (nI 8192) + (nI 1) = nI 8193 by decide) ?_
  refine am_iald (a := 8193) dX10_usedByMaps_32 (hG.m0 (by decide)) rfl rfl (show 8193 < 10240 from (by omega)) (show 10240 < 2 ^ 31 by decide) ?_
  refine am_top (show I 0 1 8193 = nI 0 from (by simp [am_up, am_upf, upd, hI, am_fr, am_dk])) ?_
  refine am_callSx (as := [.inl (nI 0)]) (rest := [.inl (nI 0)]) dX10_usedByMaps_33 lkJ6_bitCount_0f7a4 ml_X10_323 isJ6_bitCount_0f7a4 rfl (Nat.le_of_ble_eq_true rfl) rfl (c_bitCount0 hG.nd I) ?_
  refine am_aload_n dX10_usedByMaps_36 rfl ?_
  refine am_get (v := .inr (0, 1)) dX10_usedByMaps_37 fl_10_9 (hG.m0 (by decide)) rfl ?_
  refine am_iload dX10_usedByMaps_40 rfl ?_
  refine am_iconst (v := nI 2) dX10_usedByMaps_42 (by decide) ?_
  refine am_iadd dX10_usedByMaps_43 ?_
  refine am_top (show (nI 8192) + (nI 2) = nI 8194 by decide) ?_
  refine am_iald (a := 8194) dX10_usedByMaps_44 (hG.m0 (by decide)) rfl rfl (show 8194 < 10240 from (by omega)) (show 10240 < 2 ^ 31 by decide) ?_
  refine am_top (show I 0 1 8194 = nI 0 from (by simp [am_up, am_upf, upd, hI, am_fr, am_dk])) ?_
  refine am_sipush (v := nI 32767) dX10_usedByMaps_45 (by decide) ?_
  refine am_iand dX10_usedByMaps_48 ?_
  refine am_top (show (nI 0) &&& (nI 32767) = nI 0 by decide) ?_
  refine am_callSx (as := [.inl (nI 0)]) (rest := [.inl (nI 0), .inl (nI 0)]) dX10_usedByMaps_49 lkJ6_bitCount_0f7a4 ml_X10_323 isJ6_bitCount_0f7a4 rfl (Nat.le_of_ble_eq_true rfl) rfl (c_bitCount0 hG.nd I) ?_
  refine am_iadd dX10_usedByMaps_52 ?_
  refine am_top (show (nI 0) + (nI 0) = nI 0 by decide) ?_
  refine am_goto (tgt := 70) dX10_usedByMaps_53 (by decide) ?_
  refine am_iadd dX10_usedByMaps_70 ?_
  refine am_top (show (nI 0) + (nI 0) = nI 0 by decide) ?_
  refine am_istore_n dX10_usedByMaps_71 (by decide) ?_
  refine am_iinc (v := nI 7) dX10_usedByMaps_72 rfl (by decide) ?_
  refine am_goto (tgt := 4) dX10_usedByMaps_75 (by decide) ?_
  refine am_iload_n dX10_usedByMaps_4 rfl ?_
  refine am_bipush (v := nI 8) dX10_usedByMaps_5 (by decide) ?_
  refine am_icmp_ge (tgt := 78) dX10_usedByMaps_7 (by decide) (fun h => absurd h (by decide)) (fun _ => ?_)
  refine am_iload_n dX10_usedByMaps_10 rfl ?_
  refine am_callSx (as := [.inl (nI 7)]) (rest := []) dX10_usedByMaps_11 lkX10_mapBlock ml_X10_320 isX10_mapBlock rfl (Nat.le_of_ble_eq_true rfl) rfl (c_mapBlock hG.nd (g := 7) (by omega) I) ?_
  refine am_bipush (v := nI 16) dX10_usedByMaps_14 (by decide) ?_
  refine am_imul dX10_usedByMaps_16 ?_
  refine am_top (show (nI 576) * (nI 16) = nI 9216 by decide) ?_
  refine am_istore dX10_usedByMaps_17 (by decide) ?_
  refine am_iload_n dX10_usedByMaps_19 rfl ?_
  refine am_iload_n dX10_usedByMaps_20 rfl ?_
  refine am_if_eq (tgt := 56) dX10_usedByMaps_21 (by decide) (fun h => absurd h (by decide)) (fun _ => ?_)
  refine am_aload_n dX10_usedByMaps_24 rfl ?_
  refine am_get (v := .inr (0, 1)) dX10_usedByMaps_25 fl_10_9 (hG.m0 (by decide)) rfl ?_
  refine am_iload dX10_usedByMaps_28 rfl ?_
  refine am_iconst (v := nI 1) dX10_usedByMaps_30 (by decide) ?_
  refine am_iadd dX10_usedByMaps_31 ?_
  refine am_top (show (nI 9216) + (nI 1) = nI 9217 by decide) ?_
  refine am_iald (a := 9217) dX10_usedByMaps_32 (hG.m0 (by decide)) rfl rfl (show 9217 < 10240 from (by omega)) (show 10240 < 2 ^ 31 by decide) ?_
  refine am_top (show I 0 1 9217 = nI 0 from (by simp [am_up, am_upf, upd, hI, am_fr, am_dk])) ?_
  refine am_callSx (as := [.inl (nI 0)]) (rest := [.inl (nI 0)]) dX10_usedByMaps_33 lkJ6_bitCount_0f7a4 ml_X10_323 isJ6_bitCount_0f7a4 rfl (Nat.le_of_ble_eq_true rfl) rfl (c_bitCount0 hG.nd I) ?_
  refine am_aload_n dX10_usedByMaps_36 rfl ?_
  refine am_get (v := .inr (0, 1)) dX10_usedByMaps_37 fl_10_9 (hG.m0 (by decide)) rfl ?_
  refine am_iload dX10_usedByMaps_40 rfl ?_
  refine am_iconst (v := nI 2) dX10_usedByMaps_42 (by decide) ?_
  refine am_iadd dX10_usedByMaps_43 ?_
  refine am_top (show (nI 9216) + (nI 2) = nI 9218 by decide) ?_
  refine am_iald (a := 9218) dX10_usedByMaps_44 (hG.m0 (by decide)) rfl rfl (show 9218 < 10240 from (by omega)) (show 10240 < 2 ^ 31 by decide) ?_
  refine am_top (show I 0 1 9218 = nI 0 from (by simp [am_up, am_upf, upd, hI, am_fr, am_dk])) ?_
  refine am_sipush (v := nI 32767) dX10_usedByMaps_45 (by decide) ?_
  refine am_iand dX10_usedByMaps_48 ?_
  refine am_top (show (nI 0) &&& (nI 32767) = nI 0 by decide) ?_
  refine am_callSx (as := [.inl (nI 0)]) (rest := [.inl (nI 0), .inl (nI 0)]) dX10_usedByMaps_49 lkJ6_bitCount_0f7a4 ml_X10_323 isJ6_bitCount_0f7a4 rfl (Nat.le_of_ble_eq_true rfl) rfl (c_bitCount0 hG.nd I) ?_
  refine am_iadd dX10_usedByMaps_52 ?_
  refine am_top (show (nI 0) + (nI 0) = nI 0 by decide) ?_
  refine am_goto (tgt := 70) dX10_usedByMaps_53 (by decide) ?_
  refine am_iadd dX10_usedByMaps_70 ?_
  refine am_top (show (nI 0) + (nI 0) = nI 0 by decide) ?_
  refine am_istore_n dX10_usedByMaps_71 (by decide) ?_
  refine am_iinc (v := nI 8) dX10_usedByMaps_72 rfl (by decide) ?_
  refine am_goto (tgt := 4) dX10_usedByMaps_75 (by decide) ?_
  refine am_iload_n dX10_usedByMaps_4 rfl ?_
  refine am_bipush (v := nI 8) dX10_usedByMaps_5 (by decide) ?_
  refine am_icmp_ge (tgt := 78) dX10_usedByMaps_7 (by decide) (fun _ => ?_) (fun h => absurd h (by decide))
  refine am_iload_n dX10_usedByMaps_78 rfl ?_
  refine am_iret dX10_usedByMaps_79 rfl rfl ?_
  exact ⟨rfl, rfl⟩
theorem j_about7 {G : am_G} (hG : am_ok G) {d : Nat} {TH : Nat → List (Option am_V) → List am_V → am_I → Prop} {Q : Option Int32 → am_I → Prop} {I : am_I}  (hI : I = am_fr G.2.2.2.1) (hQ : ∀ J, Q (some (nI 0)) J) : am_J G (d + 3) mX10_about TH Q 0 [some (.inr (0, 0)), some (.inl (nI 7))] [] I := by
  have hn4 := hG.hi
  have hn2 := hG.lo
  refine am_iload_n dX10_about_0 rfl ?_
  refine am_tabIn (off := 100) (tgt := 101) dX10_about_1 (by decide) (by decide) rfl (by decide) ?_
  refine am_aload_n dX10_about_101 rfl ?_
  refine am_iconst (v := nI 1) dX10_about_102 (by decide) ?_
  refine am_callVx (i := 0) (j := 0) (as := [.inl (nI 1)]) (rest := []) dX10_about_103 lkX10_usedByMaps ml_X10_309 imX10_usedByMaps seX10_usedByMaps rfl rfl (hG.m0 (by decide)) rfl (Nat.le_of_ble_eq_true rfl) rfl (c_used1 hG hI) ?_
  refine am_iret dX10_about_106 rfl rfl ?_
  exact hQ _
theorem j_about8 {G : am_G} (hG : am_ok G) {d : Nat} {TH : Nat → List (Option am_V) → List am_V → am_I → Prop} {Q : Option Int32 → am_I → Prop} {I : am_I}  (hI : I = am_fr G.2.2.2.1) (hQ : ∀ J, Q (some (nI 1)) J) : am_J G (d + 3) mX10_about TH Q 0 [some (.inr (0, 0)), some (.inl (nI 8))] [] I := by
  have hn4 := hG.hi
  have hn2 := hG.lo
  refine am_iload_n dX10_about_0 rfl ?_
  refine am_tabIn (off := 106) (tgt := 107) dX10_about_1 (by decide) (by decide) rfl (by decide) ?_
  refine am_aload_n dX10_about_107 rfl ?_
  refine am_iconst (v := nI 0) dX10_about_108 (by decide) ?_
  refine am_callVx (i := 0) (j := 0) (as := [.inl (nI 0)]) (rest := []) dX10_about_109 lkX10_usedByMaps ml_X10_309 imX10_usedByMaps seX10_usedByMaps rfl rfl (hG.m0 (by decide)) rfl (Nat.le_of_ble_eq_true rfl) rfl (c_used0 hG hI) ?_
  refine am_iret dX10_about_112 rfl rfl ?_
  exact hQ _
