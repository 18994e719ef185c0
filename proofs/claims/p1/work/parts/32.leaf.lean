theorem c_isNode {G : am_G} (hG : am_ok G) {d : Nat} (x : Int32) (I : am_I)  : am_C G d mX10_isNode [.inr (0, 0), .inl x] I (am_E (some (am_b (decide (0 ≤ x.toInt ∧ x.toInt < (G.2.2.2.1 : Int))))) I) := by
  have hn4 := hG.hi
  refine am_of (by decide +kernel) hG.nd (Nat.le_of_ble_eq_true rfl) ?_
  refine am_iload_n dX10_isNode_0 rfl ?_
  refine am_if_lt (tgt := 17) dX10_isNode_1 (by decide) (fun c_1 => ?_) (fun c_1 => ?_)
  · skip
    have c_1 := Int32.lt_iff_toInt_lt.mp c_1
    rw [am_i0] at c_1
    refine am_iconst (v := nI 0) dX10_isNode_17 (by decide) ?_
    refine am_iret dX10_isNode_18 rfl (am_nz (by decide)).1 ?_
    exact ⟨congrArg some (by first | exact (am_bT _ (by first | omega | simp_all)).symm | exact (am_bF _ (by first | omega | simp_all)).symm), rfl⟩
  · skip
    have c_1 := mt Int32.lt_iff_toInt_lt.mpr c_1
    rw [am_i0] at c_1
    refine am_iload_n dX10_isNode_4 rfl ?_
    refine am_aload_n dX10_isNode_5 rfl ?_
    refine am_get (v := .inr (0, 2)) dX10_isNode_6 fl_10_19 (hG.m0 (by decide)) rfl ?_
    refine am_alen3 dX10_isNode_9 (hG.m0 (by decide)) rfl ?_
    refine am_icmp_ge (tgt := 17) dX10_isNode_10 (by decide) (fun c_10 => ?_) (fun c_10 => ?_)
    · skip
      have c_10 := Int32.le_iff_toInt_le.mp c_10
      rw [nI_toInt (n := G.2.2.2.1) (by omega)] at c_10
      refine am_iconst (v := nI 0) dX10_isNode_17 (by decide) ?_
      refine am_iret dX10_isNode_18 rfl (am_nz (by decide)).1 ?_
      exact ⟨congrArg some (by first | exact (am_bT _ (by first | omega | simp_all)).symm | exact (am_bF _ (by first | omega | simp_all)).symm), rfl⟩
    · skip
      have c_10 := mt Int32.le_iff_toInt_le.mpr c_10
      rw [nI_toInt (n := G.2.2.2.1) (by omega)] at c_10
      refine am_iconst (v := nI 1) dX10_isNode_13 (by decide) ?_
      refine am_goto (tgt := 18) dX10_isNode_14 (by decide) ?_
      refine am_iret dX10_isNode_18 rfl (am_nz (by decide)).1 ?_
      exact ⟨congrArg some (by first | exact (am_bT _ (by first | omega | simp_all)).symm | exact (am_bF _ (by first | omega | simp_all)).symm), rfl⟩
theorem c_min {G : am_G} (hn : G.2.2.2.2.Nodup) {d : Nat} (x : Int32) (y : Int32) (I : am_I) : am_C G d mJ9_min_7cf53 [.inl x, .inl y] I (am_E (some (if x ≤ y then x else y)) I) := by
  refine am_of (by decide +kernel) hn (Nat.le_of_ble_eq_true rfl) ?_
  refine am_iload_n dJ9_min_7cf53_0 rfl ?_
  refine am_iload_n dJ9_min_7cf53_1 rfl ?_
  refine am_icmp_gt (tgt := 9) dJ9_min_7cf53_2 (by decide) (fun c_2 => ?_) (fun c_2 => ?_)
  · skip
    have c_2 := Int32.lt_iff_toInt_lt.mp c_2
    refine am_iload_n dJ9_min_7cf53_9 rfl ?_
    refine am_iret dJ9_min_7cf53_10 rfl rfl ?_
    exact ⟨congrArg some (by first | (rw [if_pos (by rw [Int32.le_iff_toInt_le]; omega)]) | (rw [if_neg (by rw [Int32.le_iff_toInt_le]; omega)])), rfl⟩
  · skip
    have c_2 := mt Int32.lt_iff_toInt_lt.mpr c_2
    refine am_iload_n dJ9_min_7cf53_5 rfl ?_
    refine am_goto (tgt := 10) dJ9_min_7cf53_6 (by decide) ?_
    refine am_iret dJ9_min_7cf53_10 rfl rfl ?_
    exact ⟨congrArg some (by first | (rw [if_pos (by rw [Int32.le_iff_toInt_le]; omega)]) | (rw [if_neg (by rw [Int32.le_iff_toInt_le]; omega)])), rfl⟩
theorem c_max {G : am_G} (hn : G.2.2.2.2.Nodup) {d : Nat} (x : Int32) (y : Int32) (I : am_I) : am_C G d mJ9_max_7cf53 [.inl x, .inl y] I (am_E (some (if y ≤ x then x else y)) I) := by
  refine am_of (by decide +kernel) hn (Nat.le_of_ble_eq_true rfl) ?_
  refine am_iload_n dJ9_max_7cf53_0 rfl ?_
  refine am_iload_n dJ9_max_7cf53_1 rfl ?_
  refine am_icmp_lt (tgt := 9) dJ9_max_7cf53_2 (by decide) (fun c_2 => ?_) (fun c_2 => ?_)
  · skip
    have c_2 := Int32.lt_iff_toInt_lt.mp c_2
    refine am_iload_n dJ9_max_7cf53_9 rfl ?_
    refine am_iret dJ9_max_7cf53_10 rfl rfl ?_
    exact ⟨congrArg some (by first | (rw [if_pos (by rw [Int32.le_iff_toInt_le]; omega)]) | (rw [if_neg (by rw [Int32.le_iff_toInt_le]; omega)])), rfl⟩
  · skip
    have c_2 := mt Int32.lt_iff_toInt_lt.mpr c_2
    refine am_iload_n dJ9_max_7cf53_5 rfl ?_
    refine am_goto (tgt := 10) dJ9_max_7cf53_6 (by decide) ?_
    refine am_iret dJ9_max_7cf53_10 rfl rfl ?_
    exact ⟨congrArg some (by first | (rw [if_pos (by rw [Int32.le_iff_toInt_le]; omega)]) | (rw [if_neg (by rw [Int32.le_iff_toInt_le]; omega)])), rfl⟩
theorem c_Jflushing {G : am_G} (hG : am_ok G) {d : Nat} {i : Nat} (hi : i < G.2.2.2.1) (I : am_I)  : am_C G d mX3_isFlushing [.inr (i, 44)] I (am_E (some (am_b (decide (0 < (I i 44 5).toInt)))) I) := by
  refine am_of (by decide +kernel) hG.nd (Nat.le_of_ble_eq_true rfl) ?_
  refine am_aload_n dX3_isFlushing_0 rfl ?_
  refine am_get (v := .inl (I i 44 5)) dX3_isFlushing_1 fl_3_25 (hG.mn hi (by decide) (by decide)) rfl ?_
  refine am_if_le (tgt := 11) dX3_isFlushing_4 (by decide) (fun c_4 => ?_) (fun c_4 => ?_)
  · skip
    have c_4 := Int32.le_iff_toInt_le.mp c_4
    rw [am_i0] at c_4
    refine am_iconst (v := nI 0) dX3_isFlushing_11 (by decide) ?_
    refine am_iret dX3_isFlushing_12 rfl (am_nz (by decide)).1 ?_
    exact ⟨congrArg some (by first | exact (am_bT _ (by first | omega | simp_all)).symm | exact (am_bF _ (by first | omega | simp_all)).symm), rfl⟩
  · skip
    have c_4 := mt Int32.le_iff_toInt_le.mpr c_4
    rw [am_i0] at c_4
    refine am_iconst (v := nI 1) dX3_isFlushing_7 (by decide) ?_
    refine am_goto (tgt := 12) dX3_isFlushing_8 (by decide) ?_
    refine am_iret dX3_isFlushing_12 rfl (am_nz (by decide)).1 ?_
    exact ⟨congrArg some (by first | exact (am_bT _ (by first | omega | simp_all)).symm | exact (am_bF _ (by first | omega | simp_all)).symm), rfl⟩
theorem c_Jidle {G : am_G} (hG : am_ok G) {d : Nat} {i : Nat} (hi : i < G.2.2.2.1) (I : am_I)  : am_C G d mX3_isIdle [.inr (i, 44)] I (am_E (some (am_b (decide (I i 44 5 = 0 ∧ I i 44 2 = 0)))) I) := by
  refine am_of (by decide +kernel) hG.nd (Nat.le_of_ble_eq_true rfl) ?_
  refine am_aload_n dX3_isIdle_0 rfl ?_
  refine am_get (v := .inl (I i 44 5)) dX3_isIdle_1 fl_3_25 (hG.mn hi (by decide) (by decide)) rfl ?_
  refine am_if_ne (tgt := 18) dX3_isIdle_4 (by decide) (fun c_4 => ?_) (fun c_4 => ?_)
  · skip
    refine am_iconst (v := nI 0) dX3_isIdle_18 (by decide) ?_
    refine am_iret dX3_isIdle_19 rfl (am_nz (by decide)).1 ?_
    exact ⟨congrArg some (by first | exact (am_bT _ (by first | omega | simp_all)).symm | exact (am_bF _ (by first | omega | simp_all)).symm), rfl⟩
  · skip
    refine am_aload_n dX3_isIdle_7 rfl ?_
    refine am_get (v := .inl (I i 44 2)) dX3_isIdle_8 fl_3_28 (hG.mn hi (by decide) (by decide)) rfl ?_
    refine am_if_ne (tgt := 18) dX3_isIdle_11 (by decide) (fun c_11 => ?_) (fun c_11 => ?_)
    · skip
      refine am_iconst (v := nI 0) dX3_isIdle_18 (by decide) ?_
      refine am_iret dX3_isIdle_19 rfl (am_nz (by decide)).1 ?_
      exact ⟨congrArg some (by first | exact (am_bT _ (by first | omega | simp_all)).symm | exact (am_bF _ (by first | omega | simp_all)).symm), rfl⟩
    · skip
      refine am_iconst (v := nI 1) dX3_isIdle_14 (by decide) ?_
      refine am_goto (tgt := 19) dX3_isIdle_15 (by decide) ?_
      refine am_iret dX3_isIdle_19 rfl (am_nz (by decide)).1 ?_
      exact ⟨congrArg some (by first | exact (am_bT _ (by first | omega | simp_all)).symm | exact (am_bF _ (by first | omega | simp_all)).symm), rfl⟩
theorem c_Jleft {G : am_G} (hG : am_ok G) {d : Nat} {i : Nat} (hi : i < G.2.2.2.1) (I : am_I)  : am_C G d mX3_left [.inr (i, 44)] I (am_E (some (if I i 44 5 = 0 then 0 else nI 2 * I i 44 5 + nI 3 - I i 44 6)) I) := by
  refine am_of (by decide +kernel) hG.nd (Nat.le_of_ble_eq_true rfl) ?_
  refine am_aload_n dX3_left_0 rfl ?_
  refine am_get (v := .inl (I i 44 5)) dX3_left_1 fl_3_25 (hG.mn hi (by decide) (by decide)) rfl ?_
  refine am_if_ne (tgt := 11) dX3_left_4 (by decide) (fun c_4 => ?_) (fun c_4 => ?_)
  · skip
    refine am_iconst (v := nI 2) dX3_left_11 (by decide) ?_
    refine am_aload_n dX3_left_12 rfl ?_
    refine am_get (v := .inl (I i 44 5)) dX3_left_13 fl_3_25 (hG.mn hi (by decide) (by decide)) rfl ?_
    refine am_imul dX3_left_16 ?_
    refine am_iconst (v := nI 3) dX3_left_17 (by decide) ?_
    refine am_iadd dX3_left_18 ?_
    refine am_aload_n dX3_left_19 rfl ?_
    refine am_get (v := .inl (I i 44 6)) dX3_left_20 fl_3_31 (hG.mn hi (by decide) (by decide)) rfl ?_
    refine am_isub dX3_left_23 ?_
    refine am_iret dX3_left_24 rfl rfl ?_
    exact ⟨congrArg some (by first | rfl | (rw [if_pos (by first | assumption | omega)]; rfl) | (rw [if_neg (by first | assumption | omega)]; rfl) | (rw [if_pos (by first | assumption | omega)]) | (rw [if_neg (by first | assumption | omega)]) | simp_all), rfl⟩
  · skip
    refine am_iconst (v := nI 0) dX3_left_7 (by decide) ?_
    refine am_goto (tgt := 24) dX3_left_8 (by decide) ?_
    refine am_iret dX3_left_24 rfl rfl ?_
    exact ⟨congrArg some (by first | rfl | (rw [if_pos (by first | assumption | omega)]; rfl) | (rw [if_neg (by first | assumption | omega)]; rfl) | (rw [if_pos (by first | assumption | omega)]) | (rw [if_neg (by first | assumption | omega)]) | simp_all), rfl⟩
theorem c_JatHead {G : am_G} (hG : am_ok G) {d : Nat} {i : Nat} (hi : i < G.2.2.2.1) (I : am_I)  : am_C G d mX3_isAtHead [.inr (i, 44)] I (am_E (some (am_b (decide (0 < (I i 44 5).toInt ∧ I i 44 6 = I i 44 5 + nI 1)))) I) := by
  refine am_of (by decide +kernel) hG.nd (Nat.le_of_ble_eq_true rfl) ?_
  refine am_aload_n dX3_isAtHead_0 rfl ?_
  refine am_get (v := .inl (I i 44 5)) dX3_isAtHead_1 fl_3_25 (hG.mn hi (by decide) (by decide)) rfl ?_
  refine am_if_le (tgt := 24) dX3_isAtHead_4 (by decide) (fun c_4 => ?_) (fun c_4 => ?_)
  · skip
    have c_4 := Int32.le_iff_toInt_le.mp c_4
    rw [am_i0] at c_4
    refine am_iconst (v := nI 0) dX3_isAtHead_24 (by decide) ?_
    refine am_iret dX3_isAtHead_25 rfl (am_nz (by decide)).1 ?_
    exact ⟨congrArg some (by first | exact (am_bT _ (by first | omega | simp_all)).symm | exact (am_bF _ (by first | omega | simp_all)).symm), rfl⟩
  · skip
    have c_4 := mt Int32.le_iff_toInt_le.mpr c_4
    rw [am_i0] at c_4
    refine am_aload_n dX3_isAtHead_7 rfl ?_
    refine am_get (v := .inl (I i 44 6)) dX3_isAtHead_8 fl_3_31 (hG.mn hi (by decide) (by decide)) rfl ?_
    refine am_aload_n dX3_isAtHead_11 rfl ?_
    refine am_get (v := .inl (I i 44 5)) dX3_isAtHead_12 fl_3_25 (hG.mn hi (by decide) (by decide)) rfl ?_
    refine am_iconst (v := nI 1) dX3_isAtHead_15 (by decide) ?_
    refine am_iadd dX3_isAtHead_16 ?_
    refine am_icmp_ne (tgt := 24) dX3_isAtHead_17 (by decide) (fun c_17 => ?_) (fun c_17 => ?_)
    · skip
      refine am_iconst (v := nI 0) dX3_isAtHead_24 (by decide) ?_
      refine am_iret dX3_isAtHead_25 rfl (am_nz (by decide)).1 ?_
      exact ⟨congrArg some (by first | exact (am_bT _ (by first | omega | simp_all)).symm | exact (am_bF _ (by first | omega | simp_all)).symm), rfl⟩
    · skip
      refine am_iconst (v := nI 1) dX3_isAtHead_20 (by decide) ?_
      refine am_goto (tgt := 25) dX3_isAtHead_21 (by decide) ?_
      refine am_iret dX3_isAtHead_25 rfl (am_nz (by decide)).1 ?_
      exact ⟨congrArg some (by first | exact (am_bT _ (by first | omega | simp_all)).symm | exact (am_bF _ (by first | omega | simp_all)).symm), rfl⟩
theorem c_Jclose {G : am_G} (hG : am_ok G) {d : Nat} {i : Nat} (hi : i < G.2.2.2.1) (I : am_I)  : am_C G d mX3_close [.inr (i, 44)] I (am_E none (am_up I i 44 5 (nI 0))) := by
  refine am_of (by decide +kernel) hG.nd (Nat.le_of_ble_eq_true rfl) ?_
  refine am_aload_n dX3_close_0 rfl ?_
  refine am_iconst (v := nI 0) dX3_close_1 (by decide) ?_
  refine am_put (x := nI 0) dX3_close_2 fp_3_25 (hG.mn hi (by decide) (by decide)) (Nat.le_of_ble_eq_true rfl) rfl ?_
  refine am_vret dX3_close_5 rfl ?_
  exact ⟨rfl, rfl⟩
theorem c_Jwipe {G : am_G} (hG : am_ok G) {d : Nat} {i : Nat} (hi : i < G.2.2.2.1) (I : am_I)  : am_C G d mX3_wipe [.inr (i, 44)] I (am_E none (am_up (am_up (am_up I i 44 2 (nI 0)) i 44 5 (nI 0)) i 44 7 (nI 0))) := by
  refine am_of (by decide +kernel) hG.nd (Nat.le_of_ble_eq_true rfl) ?_
  refine am_aload_n dX3_wipe_0 rfl ?_
  refine am_iconst (v := nI 0) dX3_wipe_1 (by decide) ?_
  refine am_put (x := nI 0) dX3_wipe_2 fp_3_28 (hG.mn hi (by decide) (by decide)) (Nat.le_of_ble_eq_true rfl) rfl ?_
  refine am_aload_n dX3_wipe_5 rfl ?_
  refine am_iconst (v := nI 0) dX3_wipe_6 (by decide) ?_
  refine am_put (x := nI 0) dX3_wipe_7 fp_3_25 (hG.mn hi (by decide) (by decide)) (Nat.le_of_ble_eq_true rfl) rfl ?_
  refine am_aload_n dX3_wipe_10 rfl ?_
  refine am_iconst (v := nI 0) dX3_wipe_11 (by decide) ?_
  refine am_put (x := nI 0) dX3_wipe_12 fp_3_47 (hG.mn hi (by decide) (by decide)) (Nat.le_of_ble_eq_true rfl) rfl ?_
  refine am_vret dX3_wipe_15 rfl ?_
  exact ⟨rfl, rfl⟩
theorem c_Tbegin {G : am_G} (hG : am_ok G) {d : Nat} {i : Nat} (hi : i < G.2.2.2.1) (x : Int32) (y : Int32) (I : am_I)  : am_C G d mX8_begin [.inr (i, 55), .inl x, .inl y] I (am_E none (am_up (am_up (am_up (am_up (am_up (am_up (am_up (am_up I i 55 0 x) i 55 5 (nI 1)) i 55 6 (nI 0)) i 55 7 y) i 55 8 (nI 0)) i 55 9 (nI 0)) i 55 10 (nI 0)) i 55 11 (nI 0))) := by
  refine am_of (by decide +kernel) hG.nd (Nat.le_of_ble_eq_true rfl) ?_
  refine am_aload_n dX8_begin_0 rfl ?_
  refine am_iload_n dX8_begin_1 rfl ?_
  refine am_put (x := x) dX8_begin_2 fp_8_9 (hG.mn hi (by decide) (by decide)) (Nat.le_of_ble_eq_true rfl) rfl ?_
  refine am_aload_n dX8_begin_5 rfl ?_
  refine am_iconst (v := nI 1) dX8_begin_6 (by decide) ?_
  refine am_put (x := nI 1) dX8_begin_7 fp_8_15 (hG.mn hi (by decide) (by decide)) (Nat.le_of_ble_eq_true rfl) rfl ?_
  refine am_aload_n dX8_begin_10 rfl ?_
  refine am_iconst (v := nI 0) dX8_begin_11 (by decide) ?_
  refine am_put (x := nI 0) dX8_begin_12 fp_8_18 (hG.mn hi (by decide) (by decide)) (Nat.le_of_ble_eq_true rfl) rfl ?_
  refine am_aload_n dX8_begin_15 rfl ?_
  refine am_iload_n dX8_begin_16 rfl ?_
  refine am_put (x := y) dX8_begin_17 fp_8_21 (hG.mn hi (by decide) (by decide)) (Nat.le_of_ble_eq_true rfl) rfl ?_
  refine am_aload_n dX8_begin_20 rfl ?_
  refine am_iconst (v := nI 0) dX8_begin_21 (by decide) ?_
  refine am_put (x := nI 0) dX8_begin_22 fp_8_24 (hG.mn hi (by decide) (by decide)) (Nat.le_of_ble_eq_true rfl) rfl ?_
  refine am_aload_n dX8_begin_25 rfl ?_
  refine am_iconst (v := nI 0) dX8_begin_26 (by decide) ?_
  refine am_put (x := nI 0) dX8_begin_27 fp_8_27 (hG.mn hi (by decide) (by decide)) (Nat.le_of_ble_eq_true rfl) rfl ?_
  refine am_aload_n dX8_begin_30 rfl ?_
  refine am_iconst (v := nI 0) dX8_begin_31 (by decide) ?_
  refine am_put (x := nI 0) dX8_begin_32 fp_8_30 (hG.mn hi (by decide) (by decide)) (Nat.le_of_ble_eq_true rfl) rfl ?_
  refine am_aload_n dX8_begin_35 rfl ?_
  refine am_iconst (v := nI 0) dX8_begin_36 (by decide) ?_
  refine am_putz (x := nI 0) dX8_begin_37 fp_8_33 (hG.mn hi (by decide) (by decide)) (by decide) (Nat.le_of_ble_eq_true rfl) rfl ?_
  refine am_vret dX8_begin_40 rfl ?_
  exact ⟨rfl, rfl⟩
theorem c_Ttake {G : am_G} (hG : am_ok G) {d : Nat} {i : Nat} (hi : i < G.2.2.2.1) (x : Int32) (y : Int32) (z : Int32) (w : Int32) (I : am_I)  : am_C G d mX8_take [.inr (i, 55), .inl x, .inl y, .inl z, .inl w] I (am_E none (am_up (am_up (am_up (am_up I i 55 1 x) i 55 2 y) i 55 3 z) i 55 4 w)) := by
  refine am_of (by decide +kernel) hG.nd (Nat.le_of_ble_eq_true rfl) ?_
  refine am_aload_n dX8_take_0 rfl ?_
  refine am_iload_n dX8_take_1 rfl ?_
  refine am_put (x := x) dX8_take_2 fp_8_37 (hG.mn hi (by decide) (by decide)) (Nat.le_of_ble_eq_true rfl) rfl ?_
  refine am_aload_n dX8_take_5 rfl ?_
  refine am_iload_n dX8_take_6 rfl ?_
  refine am_put (x := y) dX8_take_7 fp_8_40 (hG.mn hi (by decide) (by decide)) (Nat.le_of_ble_eq_true rfl) rfl ?_
  refine am_aload_n dX8_take_10 rfl ?_
  refine am_iload_n dX8_take_11 rfl ?_
  refine am_put (x := z) dX8_take_12 fp_8_43 (hG.mn hi (by decide) (by decide)) (Nat.le_of_ble_eq_true rfl) rfl ?_
  refine am_aload_n dX8_take_15 rfl ?_
  refine am_iload dX8_take_16 rfl ?_
  refine am_put (x := w) dX8_take_18 fp_8_46 (hG.mn hi (by decide) (by decide)) (Nat.le_of_ble_eq_true rfl) rfl ?_
  refine am_vret dX8_take_21 rfl ?_
  exact ⟨rfl, rfl⟩
theorem c_Tend {G : am_G} (hG : am_ok G) {d : Nat} {i : Nat} (hi : i < G.2.2.2.1) (x : Int32) (y : Int32) (z : Int32) (I : am_I)  : am_C G d mX8_end [.inr (i, 55), .inl x, .inl y, .inl z] I (am_E none (am_up (am_up (am_up (am_up I i 55 5 x) i 55 6 y) i 55 8 (z - am_up (am_up I i 55 5 x) i 55 6 y i 55 7)) i 55 11 (nI 0))) := by
  refine am_of (by decide +kernel) hG.nd (Nat.le_of_ble_eq_true rfl) ?_
  refine am_aload_n dX8_end_0 rfl ?_
  refine am_iload_n dX8_end_1 rfl ?_
  refine am_put (x := x) dX8_end_2 fp_8_15 (hG.mn hi (by decide) (by decide)) (Nat.le_of_ble_eq_true rfl) rfl ?_
  refine am_aload_n dX8_end_5 rfl ?_
  refine am_iload_n dX8_end_6 rfl ?_
  refine am_put (x := y) dX8_end_7 fp_8_18 (hG.mn hi (by decide) (by decide)) (Nat.le_of_ble_eq_true rfl) rfl ?_
  refine am_aload_n dX8_end_10 rfl ?_
  refine am_iload_n dX8_end_11 rfl ?_
  refine am_aload_n dX8_end_12 rfl ?_
  refine am_get (v := .inl ((am_up (am_up I i 55 5 x) i 55 6 y) i 55 7)) dX8_end_13 fl_8_21 (hG.mn hi (by decide) (by decide)) rfl ?_
  refine am_isub dX8_end_16 ?_
  refine am_put (x := z - ((am_up (am_up I i 55 5 x) i 55 6 y) i 55 7)) dX8_end_17 fp_8_24 (hG.mn hi (by decide) (by decide)) (Nat.le_of_ble_eq_true rfl) rfl ?_
  refine am_aload_n dX8_end_20 rfl ?_
  refine am_iconst (v := nI 0) dX8_end_21 (by decide) ?_
  refine am_putz (x := nI 0) dX8_end_22 fp_8_33 (hG.mn hi (by decide) (by decide)) (by decide) (Nat.le_of_ble_eq_true rfl) rfl ?_
  refine am_vret dX8_end_25 rfl ?_
  exact ⟨rfl, rfl⟩
theorem c_Lwaits {G : am_G} (hG : am_ok G) {d : Nat} {i : Nat} (hi : i < G.2.2.2.1) {r : Nat} (hr : r < 136) (I : am_I)  : am_C G d mX4_waitsToGoDown [.inr (i, 48), .inl (nI r)] I (am_E (some (am_b (decide (I i 51 r ≠ (-1 : Int32) ∧ I i 52 r = 0)))) I) := by
  refine am_of (by decide +kernel) hG.nd (Nat.le_of_ble_eq_true rfl) ?_
  refine am_aload_n dX4_waitsToGoDown_0 rfl ?_
  refine am_get (v := .inr (i, 51)) dX4_waitsToGoDown_1 fl_4_18 (hG.mn hi (by decide) (by decide)) rfl ?_
  refine am_iload_n dX4_waitsToGoDown_4 rfl ?_
  refine am_iald (a := r) dX4_waitsToGoDown_5 (hG.mn hi (by decide) (by decide)) rfl rfl (show r < 136 from (by omega)) (show 136 < 2 ^ 31 by decide) ?_
  refine am_iconst (v := (-1 : Int32)) dX4_waitsToGoDown_6 (by decide) ?_
  refine am_icmp_eq (tgt := 23) dX4_waitsToGoDown_7 (by decide) (fun c_7 => ?_) (fun c_7 => ?_)
  · skip
    refine am_iconst (v := nI 0) dX4_waitsToGoDown_23 (by decide) ?_
    refine am_iret dX4_waitsToGoDown_24 rfl (am_nz (by decide)).1 ?_
    exact ⟨congrArg some (by first | exact (am_bT _ (by first | omega | simp_all)).symm | exact (am_bF _ (by first | omega | simp_all)).symm), rfl⟩
  · skip
    refine am_aload_n dX4_waitsToGoDown_10 rfl ?_
    refine am_get (v := .inr (i, 52)) dX4_waitsToGoDown_11 fl_4_21 (hG.mn hi (by decide) (by decide)) rfl ?_
    refine am_iload_n dX4_waitsToGoDown_14 rfl ?_
    refine am_zald (a := r) dX4_waitsToGoDown_15 (hG.mn hi (by decide) (by decide)) rfl rfl (show r < 136 from (by omega)) (show 136 < 2 ^ 31 by decide) ?_
    refine am_if_ne (tgt := 23) dX4_waitsToGoDown_16 (by decide) (fun c_16 => ?_) (fun c_16 => ?_)
    · skip
      refine am_iconst (v := nI 0) dX4_waitsToGoDown_23 (by decide) ?_
      refine am_iret dX4_waitsToGoDown_24 rfl (am_nz (by decide)).1 ?_
      exact ⟨congrArg some (by first | exact (am_bT _ (by first | omega | simp_all)).symm | exact (am_bF _ (by first | omega | simp_all)).symm), rfl⟩
    · skip
      refine am_iconst (v := nI 1) dX4_waitsToGoDown_19 (by decide) ?_
      refine am_goto (tgt := 24) dX4_waitsToGoDown_20 (by decide) ?_
      refine am_iret dX4_waitsToGoDown_24 rfl (am_nz (by decide)).1 ?_
      exact ⟨congrArg some (by first | exact (am_bT _ (by first | omega | simp_all)).symm | exact (am_bF _ (by first | omega | simp_all)).symm), rfl⟩
