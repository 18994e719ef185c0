theorem c_isResource {G : am_G} (hn : G.2.2.2.2.Nodup) {d : Nat} (x : Int32) (I : am_I) : am_C G d mX10_isResource [.inl x] I (am_E (some (am_b (decide (0 ≤ x.toInt ∧ x.toInt < 136)))) I) := by
  refine am_of (by decide +kernel) hn (Nat.le_of_ble_eq_true rfl) ?_
  refine am_iload_n dX10_isResource_0 rfl ?_
  refine am_if_lt (tgt := 15) dX10_isResource_1 (by decide) (fun c_1 => ?_) (fun c_1 => ?_)
  · skip
    have c_1 := Int32.lt_iff_toInt_lt.mp c_1
    rw [am_i0] at c_1
    refine am_iconst (v := nI 0) dX10_isResource_15 (by decide) ?_
    refine am_iret dX10_isResource_16 rfl (am_nz (by decide)).1 ?_
    exact ⟨congrArg some (by first | exact (am_bT _ (by omega)).symm | exact (am_bF _ (by omega)).symm), rfl⟩
  · skip
    have c_1 := mt Int32.lt_iff_toInt_lt.mpr c_1
    rw [am_i0] at c_1
    refine am_iload_n dX10_isResource_4 rfl ?_
    refine am_sipush (v := nI 136) dX10_isResource_5 (by decide) ?_
    refine am_icmp_ge (tgt := 15) dX10_isResource_8 (by decide) (fun c_8 => ?_) (fun c_8 => ?_)
    · skip
      have c_8 := Int32.le_iff_toInt_le.mp c_8
      rw [nI_toInt (n := 136) (by omega)] at c_8
      refine am_iconst (v := nI 0) dX10_isResource_15 (by decide) ?_
      refine am_iret dX10_isResource_16 rfl (am_nz (by decide)).1 ?_
      exact ⟨congrArg some (by first | exact (am_bT _ (by omega)).symm | exact (am_bF _ (by omega)).symm), rfl⟩
    · skip
      have c_8 := mt Int32.le_iff_toInt_le.mpr c_8
      rw [nI_toInt (n := 136) (by omega)] at c_8
      refine am_iconst (v := nI 1) dX10_isResource_11 (by decide) ?_
      refine am_goto (tgt := 16) dX10_isResource_12 (by decide) ?_
      refine am_iret dX10_isResource_16 rfl (am_nz (by decide)).1 ?_
      exact ⟨congrArg some (by first | exact (am_bT _ (by omega)).symm | exact (am_bF _ (by omega)).symm), rfl⟩
theorem c_isInode {G : am_G} (hn : G.2.2.2.2.Nodup) {d : Nat} (x : Int32) (I : am_I) : am_C G d mX10_isInode [.inl x] I (am_E (some (am_b (decide (0 ≤ x.toInt ∧ x.toInt < 128)))) I) := by
  refine am_of (by decide +kernel) hn (Nat.le_of_ble_eq_true rfl) ?_
  refine am_iload_n dX10_isInode_0 rfl ?_
  refine am_if_lt (tgt := 15) dX10_isInode_1 (by decide) (fun c_1 => ?_) (fun c_1 => ?_)
  · skip
    have c_1 := Int32.lt_iff_toInt_lt.mp c_1
    rw [am_i0] at c_1
    refine am_iconst (v := nI 0) dX10_isInode_15 (by decide) ?_
    refine am_iret dX10_isInode_16 rfl (am_nz (by decide)).1 ?_
    exact ⟨congrArg some (by first | exact (am_bT _ (by omega)).symm | exact (am_bF _ (by omega)).symm), rfl⟩
  · skip
    have c_1 := mt Int32.lt_iff_toInt_lt.mpr c_1
    rw [am_i0] at c_1
    refine am_iload_n dX10_isInode_4 rfl ?_
    refine am_sipush (v := nI 128) dX10_isInode_5 (by decide) ?_
    refine am_icmp_ge (tgt := 15) dX10_isInode_8 (by decide) (fun c_8 => ?_) (fun c_8 => ?_)
    · skip
      have c_8 := Int32.le_iff_toInt_le.mp c_8
      rw [nI_toInt (n := 128) (by omega)] at c_8
      refine am_iconst (v := nI 0) dX10_isInode_15 (by decide) ?_
      refine am_iret dX10_isInode_16 rfl (am_nz (by decide)).1 ?_
      exact ⟨congrArg some (by first | exact (am_bT _ (by omega)).symm | exact (am_bF _ (by omega)).symm), rfl⟩
    · skip
      have c_8 := mt Int32.le_iff_toInt_le.mpr c_8
      rw [nI_toInt (n := 128) (by omega)] at c_8
      refine am_iconst (v := nI 1) dX10_isInode_11 (by decide) ?_
      refine am_goto (tgt := 16) dX10_isInode_12 (by decide) ?_
      refine am_iret dX10_isInode_16 rfl (am_nz (by decide)).1 ?_
      exact ⟨congrArg some (by first | exact (am_bT _ (by omega)).symm | exact (am_bF _ (by omega)).symm), rfl⟩
theorem c_isBlock {G : am_G} (hn : G.2.2.2.2.Nodup) {d : Nat} (x : Int32) (I : am_I) : am_C G d mX10_isBlock [.inl x] I (am_E (some (am_b (decide (0 ≤ x.toInt ∧ x.toInt < 640)))) I) := by
  refine am_of (by decide +kernel) hn (Nat.le_of_ble_eq_true rfl) ?_
  refine am_iload_n dX10_isBlock_0 rfl ?_
  refine am_if_lt (tgt := 15) dX10_isBlock_1 (by decide) (fun c_1 => ?_) (fun c_1 => ?_)
  · skip
    have c_1 := Int32.lt_iff_toInt_lt.mp c_1
    rw [am_i0] at c_1
    refine am_iconst (v := nI 0) dX10_isBlock_15 (by decide) ?_
    refine am_iret dX10_isBlock_16 rfl (am_nz (by decide)).1 ?_
    exact ⟨congrArg some (by first | exact (am_bT _ (by omega)).symm | exact (am_bF _ (by omega)).symm), rfl⟩
  · skip
    have c_1 := mt Int32.lt_iff_toInt_lt.mpr c_1
    rw [am_i0] at c_1
    refine am_iload_n dX10_isBlock_4 rfl ?_
    refine am_sipush (v := nI 640) dX10_isBlock_5 (by decide) ?_
    refine am_icmp_ge (tgt := 15) dX10_isBlock_8 (by decide) (fun c_8 => ?_) (fun c_8 => ?_)
    · skip
      have c_8 := Int32.le_iff_toInt_le.mp c_8
      rw [nI_toInt (n := 640) (by omega)] at c_8
      refine am_iconst (v := nI 0) dX10_isBlock_15 (by decide) ?_
      refine am_iret dX10_isBlock_16 rfl (am_nz (by decide)).1 ?_
      exact ⟨congrArg some (by first | exact (am_bT _ (by omega)).symm | exact (am_bF _ (by omega)).symm), rfl⟩
    · skip
      have c_8 := mt Int32.le_iff_toInt_le.mpr c_8
      rw [nI_toInt (n := 640) (by omega)] at c_8
      refine am_iconst (v := nI 1) dX10_isBlock_11 (by decide) ?_
      refine am_goto (tgt := 16) dX10_isBlock_12 (by decide) ?_
      refine am_iret dX10_isBlock_16 rfl (am_nz (by decide)).1 ?_
      exact ⟨congrArg some (by first | exact (am_bT _ (by omega)).symm | exact (am_bF _ (by omega)).symm), rfl⟩
theorem c_isWord {G : am_G} (hn : G.2.2.2.2.Nodup) {d : Nat} (x : Int32) (y : Int32) (I : am_I) : am_C G d mX10_isWord [.inl x, .inl y] I (am_E (some (am_b (decide (0 ≤ x.toInt ∧ x.toInt < 640 ∧ 0 ≤ y.toInt ∧ y.toInt < 16)))) I) := by
  refine am_of (by decide +kernel) hn (Nat.le_of_ble_eq_true rfl) ?_
  refine am_iload_n dX10_isWord_0 rfl ?_
  refine am_if_lt (tgt := 25) dX10_isWord_1 (by decide) (fun c_1 => ?_) (fun c_1 => ?_)
  · skip
    have c_1 := Int32.lt_iff_toInt_lt.mp c_1
    rw [am_i0] at c_1
    refine am_iconst (v := nI 0) dX10_isWord_25 (by decide) ?_
    refine am_iret dX10_isWord_26 rfl (am_nz (by decide)).1 ?_
    exact ⟨congrArg some (by first | exact (am_bT _ (by omega)).symm | exact (am_bF _ (by omega)).symm), rfl⟩
  · skip
    have c_1 := mt Int32.lt_iff_toInt_lt.mpr c_1
    rw [am_i0] at c_1
    refine am_iload_n dX10_isWord_4 rfl ?_
    refine am_sipush (v := nI 640) dX10_isWord_5 (by decide) ?_
    refine am_icmp_ge (tgt := 25) dX10_isWord_8 (by decide) (fun c_8 => ?_) (fun c_8 => ?_)
    · skip
      have c_8 := Int32.le_iff_toInt_le.mp c_8
      rw [nI_toInt (n := 640) (by omega)] at c_8
      refine am_iconst (v := nI 0) dX10_isWord_25 (by decide) ?_
      refine am_iret dX10_isWord_26 rfl (am_nz (by decide)).1 ?_
      exact ⟨congrArg some (by first | exact (am_bT _ (by omega)).symm | exact (am_bF _ (by omega)).symm), rfl⟩
    · skip
      have c_8 := mt Int32.le_iff_toInt_le.mpr c_8
      rw [nI_toInt (n := 640) (by omega)] at c_8
      refine am_iload_n dX10_isWord_11 rfl ?_
      refine am_if_lt (tgt := 25) dX10_isWord_12 (by decide) (fun c_12 => ?_) (fun c_12 => ?_)
      · skip
        have c_12 := Int32.lt_iff_toInt_lt.mp c_12
        rw [am_i0] at c_12
        refine am_iconst (v := nI 0) dX10_isWord_25 (by decide) ?_
        refine am_iret dX10_isWord_26 rfl (am_nz (by decide)).1 ?_
        exact ⟨congrArg some (by first | exact (am_bT _ (by omega)).symm | exact (am_bF _ (by omega)).symm), rfl⟩
      · skip
        have c_12 := mt Int32.lt_iff_toInt_lt.mpr c_12
        rw [am_i0] at c_12
        refine am_iload_n dX10_isWord_15 rfl ?_
        refine am_bipush (v := nI 16) dX10_isWord_16 (by decide) ?_
        refine am_icmp_ge (tgt := 25) dX10_isWord_18 (by decide) (fun c_18 => ?_) (fun c_18 => ?_)
        · skip
          have c_18 := Int32.le_iff_toInt_le.mp c_18
          rw [nI_toInt (n := 16) (by omega)] at c_18
          refine am_iconst (v := nI 0) dX10_isWord_25 (by decide) ?_
          refine am_iret dX10_isWord_26 rfl (am_nz (by decide)).1 ?_
          exact ⟨congrArg some (by first | exact (am_bT _ (by omega)).symm | exact (am_bF _ (by omega)).symm), rfl⟩
        · skip
          have c_18 := mt Int32.le_iff_toInt_le.mpr c_18
          rw [nI_toInt (n := 16) (by omega)] at c_18
          refine am_iconst (v := nI 1) dX10_isWord_21 (by decide) ?_
          refine am_goto (tgt := 26) dX10_isWord_22 (by decide) ?_
          refine am_iret dX10_isWord_26 rfl (am_nz (by decide)).1 ?_
          exact ⟨congrArg some (by first | exact (am_bT _ (by omega)).symm | exact (am_bF _ (by omega)).symm), rfl⟩
theorem c_mapBlock {G : am_G} (hn : G.2.2.2.2.Nodup) {d : Nat} {g : Nat} (hg : g < 1000) (I : am_I) : am_C G d mX10_mapBlock [.inl (nI g)] I (am_E (some (nI (128 + 64 * g))) I) := by
  refine am_of (by decide +kernel) hn (Nat.le_of_ble_eq_true rfl) ?_
  refine am_sipush (v := nI 128) dX10_mapBlock_0 (by decide) ?_
  refine am_bipush (v := nI 64) dX10_mapBlock_3 (by decide) ?_
  refine am_iload_n dX10_mapBlock_5 rfl ?_
  refine am_imul dX10_mapBlock_6 ?_
  refine am_top (pk_mul _ _) ?_
  refine am_iadd dX10_mapBlock_7 ?_
  refine am_top (nI_add _ _) ?_
  refine am_iret dX10_mapBlock_8 rfl rfl ?_
  exact ⟨congrArg some (congrArg nI (by omega)), rfl⟩
theorem c_inodeBlock {G : am_G} (hn : G.2.2.2.2.Nodup) {d : Nat} {k : Nat} (hk : k < 128) (I : am_I) : am_C G (d + 1) mX10_inodeBlock [.inl (nI k)] I (am_E (some (nI (129 + 64 * (k / 16) + k % 16))) I) := by
  refine am_of (by decide +kernel) hn (Nat.le_of_ble_eq_true rfl) ?_
  refine am_iload_n dX10_inodeBlock_0 rfl ?_
  refine am_bipush (v := nI 16) dX10_inodeBlock_1 (by decide) ?_
  refine am_idiv dX10_inodeBlock_3 (by decide) ?_
  refine am_top (pk_div (by omega) (by omega) (by omega)) ?_
  refine am_callSx (as := [.inl (nI (k / 16))]) (rest := []) dX10_inodeBlock_4 lkX10_mapBlock ml_X10_320 isX10_mapBlock rfl (Nat.le_of_ble_eq_true rfl) rfl (c_mapBlock hn (g := k / 16) (by omega) I) ?_
  refine am_iconst (v := nI 1) dX10_inodeBlock_7 (by decide) ?_
  refine am_iadd dX10_inodeBlock_8 ?_
  refine am_top (nI_add _ _) ?_
  refine am_iload_n dX10_inodeBlock_9 rfl ?_
  refine am_bipush (v := nI 16) dX10_inodeBlock_10 (by decide) ?_
  refine am_irem dX10_inodeBlock_12 (by decide) ?_
  refine am_top (pk_rem (by omega) (by omega) (by omega)) ?_
  refine am_iadd dX10_inodeBlock_13 ?_
  refine am_top (nI_add _ _) ?_
  refine am_iret dX10_inodeBlock_14 rfl rfl ?_
  exact ⟨congrArg some (congrArg nI (by omega)), rfl⟩
theorem c_mapResource {G : am_G} (hn : G.2.2.2.2.Nodup) {d : Nat} {g : Nat} (hg : g < 1000) (I : am_I) : am_C G d mX10_mapResource [.inl (nI g)] I (am_E (some (nI (128 + g))) I) := by
  refine am_of (by decide +kernel) hn (Nat.le_of_ble_eq_true rfl) ?_
  refine am_sipush (v := nI 128) dX10_mapResource_0 (by decide) ?_
  refine am_iload_n dX10_mapResource_3 rfl ?_
  refine am_iadd dX10_mapResource_4 ?_
  refine am_top (nI_add _ _) ?_
  refine am_iret dX10_mapResource_5 rfl rfl ?_
  exact ⟨congrArg some (congrArg nI (by omega)), rfl⟩
theorem c_headBlock {G : am_G} (hn : G.2.2.2.2.Nodup) {d : Nat} {k : Nat} (hk : k < 1000) (I : am_I) : am_C G d mX10_headBlock [.inl (nI k)] I (am_E (some (nI (1 + 24 * k))) I) := by
  refine am_of (by decide +kernel) hn (Nat.le_of_ble_eq_true rfl) ?_
  refine am_iconst (v := nI 1) dX10_headBlock_0 (by decide) ?_
  refine am_bipush (v := nI 24) dX10_headBlock_1 (by decide) ?_
  refine am_iload_n dX10_headBlock_3 rfl ?_
  refine am_imul dX10_headBlock_4 ?_
  refine am_top (pk_mul _ _) ?_
  refine am_iadd dX10_headBlock_5 ?_
  refine am_top (nI_add _ _) ?_
  refine am_iret dX10_headBlock_6 rfl rfl ?_
  exact ⟨congrArg some (congrArg nI (by omega)), rfl⟩
theorem c_Min {G : am_G} (hn : G.2.2.2.2.Nodup) {d : Nat} (x : Int32) (y : Int32) (z : Int32) (I : am_I) : am_C G d mX11_in [.inl x, .inl y, .inl z] I (am_E (some (am_b (decide (y.toInt ≤ x.toInt ∧ x.toInt ≤ z.toInt)))) I) := by
  refine am_of (by decide +kernel) hn (Nat.le_of_ble_eq_true rfl) ?_
  refine am_iload_n dX11_in_0 rfl ?_
  refine am_iload_n dX11_in_1 rfl ?_
  refine am_icmp_lt (tgt := 14) dX11_in_2 (by decide) (fun c_2 => ?_) (fun c_2 => ?_)
  · skip
    have c_2 := Int32.lt_iff_toInt_lt.mp c_2
    refine am_iconst (v := nI 0) dX11_in_14 (by decide) ?_
    refine am_iret dX11_in_15 rfl (am_nz (by decide)).1 ?_
    exact ⟨congrArg some (by first | exact (am_bT _ (by omega)).symm | exact (am_bF _ (by omega)).symm), rfl⟩
  · skip
    have c_2 := mt Int32.lt_iff_toInt_lt.mpr c_2
    refine am_iload_n dX11_in_5 rfl ?_
    refine am_iload_n dX11_in_6 rfl ?_
    refine am_icmp_gt (tgt := 14) dX11_in_7 (by decide) (fun c_7 => ?_) (fun c_7 => ?_)
    · skip
      have c_7 := Int32.lt_iff_toInt_lt.mp c_7
      refine am_iconst (v := nI 0) dX11_in_14 (by decide) ?_
      refine am_iret dX11_in_15 rfl (am_nz (by decide)).1 ?_
      exact ⟨congrArg some (by first | exact (am_bT _ (by omega)).symm | exact (am_bF _ (by omega)).symm), rfl⟩
    · skip
      have c_7 := mt Int32.lt_iff_toInt_lt.mpr c_7
      refine am_iconst (v := nI 1) dX11_in_10 (by decide) ?_
      refine am_goto (tgt := 15) dX11_in_11 (by decide) ?_
      refine am_iret dX11_in_15 rfl (am_nz (by decide)).1 ?_
      exact ⟨congrArg some (by first | exact (am_bT _ (by omega)).symm | exact (am_bF _ (by omega)).symm), rfl⟩
theorem c_MmapOf {G : am_G} (hn : G.2.2.2.2.Nodup) {d : Nat} {g : Nat} (hg : g < 1000) (I : am_I) : am_C G d mX11_mapOf [.inl (nI g)] I (am_E (some (nI (128 + 64 * g))) I) := by
  refine am_of (by decide +kernel) hn (Nat.le_of_ble_eq_true rfl) ?_
  refine am_sipush (v := nI 128) dX11_mapOf_0 (by decide) ?_
  refine am_bipush (v := nI 64) dX11_mapOf_3 (by decide) ?_
  refine am_iload_n dX11_mapOf_5 rfl ?_
  refine am_imul dX11_mapOf_6 ?_
  refine am_top (pk_mul _ _) ?_
  refine am_iadd dX11_mapOf_7 ?_
  refine am_top (nI_add _ _) ?_
  refine am_iret dX11_mapOf_8 rfl rfl ?_
  exact ⟨congrArg some (congrArg nI (by omega)), rfl⟩
theorem c_MinodeBlock {G : am_G} (hn : G.2.2.2.2.Nodup) {d : Nat} {k : Nat} (hk : k < 128) (I : am_I) : am_C G d mX11_inodeBlock [.inl (nI k)] I (am_E (some (nI (129 + 64 * (k / 16) + k % 16))) I) := by
  refine am_of (by decide +kernel) hn (Nat.le_of_ble_eq_true rfl) ?_
  refine am_sipush (v := nI 129) dX11_inodeBlock_0 (by decide) ?_
  refine am_bipush (v := nI 64) dX11_inodeBlock_3 (by decide) ?_
  refine am_iload_n dX11_inodeBlock_5 rfl ?_
  refine am_bipush (v := nI 16) dX11_inodeBlock_6 (by decide) ?_
  refine am_idiv dX11_inodeBlock_8 (by decide) ?_
  refine am_top (pk_div (by omega) (by omega) (by omega)) ?_
  refine am_imul dX11_inodeBlock_9 ?_
  refine am_top (pk_mul _ _) ?_
  refine am_iadd dX11_inodeBlock_10 ?_
  refine am_top (nI_add _ _) ?_
  refine am_iload_n dX11_inodeBlock_11 rfl ?_
  refine am_bipush (v := nI 16) dX11_inodeBlock_12 (by decide) ?_
  refine am_irem dX11_inodeBlock_14 (by decide) ?_
  refine am_top (pk_rem (by omega) (by omega) (by omega)) ?_
  refine am_iadd dX11_inodeBlock_15 ?_
  refine am_top (nI_add _ _) ?_
  refine am_iret dX11_inodeBlock_16 rfl rfl ?_
  exact ⟨congrArg some (congrArg nI (by omega)), rfl⟩
theorem c_MdataBlock {G : am_G} (hn : G.2.2.2.2.Nodup) {d : Nat} {g : Nat} (hg : g < 1000) {k : Nat} (hk : k < 1000) (I : am_I) : am_C G d mX11_dataBlock [.inl (nI g), .inl (nI k)] I (am_E (some (nI (145 + 64 * g + k))) I) := by
  refine am_of (by decide +kernel) hn (Nat.le_of_ble_eq_true rfl) ?_
  refine am_sipush (v := nI 145) dX11_dataBlock_0 (by decide) ?_
  refine am_bipush (v := nI 64) dX11_dataBlock_3 (by decide) ?_
  refine am_iload_n dX11_dataBlock_5 rfl ?_
  refine am_imul dX11_dataBlock_6 ?_
  refine am_top (pk_mul _ _) ?_
  refine am_iadd dX11_dataBlock_7 ?_
  refine am_top (nI_add _ _) ?_
  refine am_iload_n dX11_dataBlock_8 rfl ?_
  refine am_iadd dX11_dataBlock_9 ?_
  refine am_top (nI_add _ _) ?_
  refine am_iret dX11_dataBlock_10 rfl rfl ?_
  exact ⟨congrArg some (congrArg nI (by omega)), rfl⟩
theorem c_Mat {G : am_G} (hn : G.2.2.2.2.Nodup) {d : Nat} {g : Nat} (hg : g < 1000) {r : Nat} (hr : r < 1000) (I : am_I) : am_C G d mX11_at [.inl (nI g), .inl (nI r)] I (am_E (some (nI (136 * g + r))) I) := by
  refine am_of (by decide +kernel) hn (Nat.le_of_ble_eq_true rfl) ?_
  refine am_sipush (v := nI 136) dX11_at_0 (by decide) ?_
  refine am_iload_n dX11_at_3 rfl ?_
  refine am_imul dX11_at_4 ?_
  refine am_top (pk_mul _ _) ?_
  refine am_iload_n dX11_at_5 rfl ?_
  refine am_iadd dX11_at_6 ?_
  refine am_top (nI_add _ _) ?_
  refine am_iret dX11_at_7 rfl rfl ?_
  exact ⟨congrArg some (congrArg nI (by omega)), rfl⟩
