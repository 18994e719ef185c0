theorem c_MisInode {G : am_G} (hn : G.2.2.2.2.Nodup) {d : Nat} (x : Int32) (I : am_I) : am_C G (d + 1) mX11_isInode [.inl x] I (am_E (some (am_b (decide (0 ≤ x.toInt ∧ x.toInt ≤ 127)))) I) := by
  refine am_of (by decide +kernel) hn (Nat.le_of_ble_eq_true rfl) ?_
  refine am_iload_n dX11_isInode_0 rfl ?_
  refine am_iconst (v := nI 0) dX11_isInode_1 (by decide) ?_
  refine am_bipush (v := nI 127) dX11_isInode_2 (by decide) ?_
  refine am_callSx (as := [.inl x, .inl (nI 0), .inl (nI 127)]) (rest := []) dX11_isInode_4 lkX11_in ml_X11_243 isX11_in rfl (Nat.le_of_ble_eq_true rfl) rfl (c_Min hn x (nI 0) (nI 127) I) ?_
  refine am_top (show am_b (decide ((nI 0).toInt ≤ x.toInt ∧ x.toInt ≤ (nI 127).toInt)) = am_b (decide (0 ≤ x.toInt ∧ x.toInt ≤ 127)) from by rw [nI_toInt (n := 0) (by omega), nI_toInt (n := 127) (by omega)]; rfl) ?_
  refine am_iret dX11_isInode_7 rfl (am_nz (am_b01 _)).1 ?_
  exact ⟨rfl, rfl⟩
theorem c_isCall0 {G : am_G} (hn : G.2.2.2.2.Nodup) {d : Nat} (a : Int32) (b : Int32) (c : Int32) (e : Int32) (I : am_I) : am_C G (d + 1) mX10_isCall [.inl (nI 0), .inl a, .inl b, .inl c, .inl e] I (am_E (some (am_b (decide (0 ≤ a.toInt ∧ a.toInt < 128 ∧ ¬ b.toInt = 0)))) I) := by
  refine am_of (by decide +kernel) hn (Nat.le_of_ble_eq_true rfl) ?_
  refine am_iload_n dX10_isCall_0 rfl ?_
  refine am_tabIn (off := 75) (tgt := 76) dX10_isCall_1 (by decide) (by decide) rfl (by decide) ?_
  refine am_iload_n dX10_isCall_76 rfl ?_
  refine am_callSx (as := [.inl a]) (rest := []) dX10_isCall_77 lkX10_isInode ml_X10_317 isX10_isInode rfl (Nat.le_of_ble_eq_true rfl) rfl (c_isInode hn a I) ?_
  refine am_if_eq (tgt := 91) dX10_isCall_80 (by decide) (fun c_80 => ?_) (fun c_80 => ?_)
  · skip
    have c_80 := of_decide_eq_false ((am_bz _).mp c_80)
    refine am_iconst (v := nI 0) dX10_isCall_91 (by decide) ?_
    refine am_iret dX10_isCall_92 rfl (am_nz (by decide)).1 ?_
    exact ⟨congrArg some (am_bF _ (by first | omega | exact True.intro)).symm, rfl⟩
  · skip
    have c_80 := of_decide_eq_true ((am_bn _).mp c_80)
    refine am_iload_n dX10_isCall_83 rfl ?_
    refine am_if_eq (tgt := 91) dX10_isCall_84 (by decide) (fun c_84 => ?_) (fun c_84 => ?_)
    · skip
      have c_84 := congrArg Int32.toInt c_84
      rw [am_i0] at c_84
      refine am_iconst (v := nI 0) dX10_isCall_91 (by decide) ?_
      refine am_iret dX10_isCall_92 rfl (am_nz (by decide)).1 ?_
      exact ⟨congrArg some (am_bF _ (by first | omega | exact True.intro)).symm, rfl⟩
    · skip
      have c_84 := mt Int32.toInt_inj.mp c_84
      rw [am_i0] at c_84
      refine am_iconst (v := nI 1) dX10_isCall_87 (by decide) ?_
      refine am_goto (tgt := 92) dX10_isCall_88 (by decide) ?_
      refine am_iret dX10_isCall_92 rfl (am_nz (by decide)).1 ?_
      exact ⟨congrArg some (am_bT _ (by first | omega | exact True.intro)).symm, rfl⟩
theorem c_isGiven0 {G : am_G} (hn : G.2.2.2.2.Nodup) {d : Nat} (a : Int32) (b : Int32) (c : Int32) (e : Int32) (I : am_I) : am_C G (d + 2) mX11_isGiven [.inl (nI 0), .inl a, .inl b, .inl c, .inl e] I (am_E (some (am_b (decide (0 ≤ a.toInt ∧ a.toInt < 128 ∧ ¬ b.toInt = 0)))) I) := by
  refine am_of (by decide +kernel) hn (Nat.le_of_ble_eq_true rfl) ?_
  refine am_iload_n dX11_isGiven_0 rfl ?_
  refine am_tabIn (off := 75) (tgt := 76) dX11_isGiven_1 (by decide) (by decide) rfl (by decide) ?_
  refine am_iload_n dX11_isGiven_76 rfl ?_
  refine am_callSx (as := [.inl a]) (rest := []) dX11_isGiven_77 lkX11_isInode ml_X11_431 isX11_isInode rfl (Nat.le_of_ble_eq_true rfl) rfl (c_MisInode hn a I) ?_
  refine am_if_eq (tgt := 91) dX11_isGiven_80 (by decide) (fun c_80 => ?_) (fun c_80 => ?_)
  · skip
    have c_80 := of_decide_eq_false ((am_bz _).mp c_80)
    refine am_iconst (v := nI 0) dX11_isGiven_91 (by decide) ?_
    refine am_iret dX11_isGiven_92 rfl (am_nz (by first | decide | exact am_b01 _)).1 ?_
    exact ⟨congrArg some (am_bF _ (by first | omega | exact True.intro)).symm, rfl⟩
  · skip
    have c_80 := of_decide_eq_true ((am_bn _).mp c_80)
    refine am_iload_n dX11_isGiven_83 rfl ?_
    refine am_if_eq (tgt := 91) dX11_isGiven_84 (by decide) (fun c_84 => ?_) (fun c_84 => ?_)
    · skip
      have c_84 := congrArg Int32.toInt c_84
      rw [am_i0] at c_84
      refine am_iconst (v := nI 0) dX11_isGiven_91 (by decide) ?_
      refine am_iret dX11_isGiven_92 rfl (am_nz (by first | decide | exact am_b01 _)).1 ?_
      exact ⟨congrArg some (am_bF _ (by first | omega | exact True.intro)).symm, rfl⟩
    · skip
      have c_84 := mt Int32.toInt_inj.mp c_84
      rw [am_i0] at c_84
      refine am_iconst (v := nI 1) dX11_isGiven_87 (by decide) ?_
      refine am_goto (tgt := 92) dX11_isGiven_88 (by decide) ?_
      refine am_iret dX11_isGiven_92 rfl (am_nz (by first | decide | exact am_b01 _)).1 ?_
      exact ⟨congrArg some (am_bT _ (by first | omega | exact True.intro)).symm, rfl⟩
theorem c_isCall1 {G : am_G} (hn : G.2.2.2.2.Nodup) {d : Nat} (a : Int32) (b : Int32) (c : Int32) (e : Int32) (I : am_I) : am_C G (d + 1) mX10_isCall [.inl (nI 1), .inl a, .inl b, .inl c, .inl e] I (am_E (some (am_b (decide (0 ≤ a.toInt ∧ a.toInt < 128 ∧ ¬ b.toInt = 0 ∧ 1 ≤ c.toInt ∧ c.toInt ≤ 2)))) I) := by
  refine am_of (by decide +kernel) hn (Nat.le_of_ble_eq_true rfl) ?_
  refine am_iload_n dX10_isCall_0 rfl ?_
  refine am_tabIn (off := 92) (tgt := 93) dX10_isCall_1 (by decide) (by decide) rfl (by decide) ?_
  refine am_iload_n dX10_isCall_93 rfl ?_
  refine am_callSx (as := [.inl a]) (rest := []) dX10_isCall_94 lkX10_isInode ml_X10_317 isX10_isInode rfl (Nat.le_of_ble_eq_true rfl) rfl (c_isInode hn a I) ?_
  refine am_if_eq (tgt := 118) dX10_isCall_97 (by decide) (fun c_97 => ?_) (fun c_97 => ?_)
  · skip
    have c_97 := of_decide_eq_false ((am_bz _).mp c_97)
    refine am_iconst (v := nI 0) dX10_isCall_118 (by decide) ?_
    refine am_iret dX10_isCall_119 rfl (am_nz (by decide)).1 ?_
    exact ⟨congrArg some (am_bF _ (by first | omega | exact True.intro)).symm, rfl⟩
  · skip
    have c_97 := of_decide_eq_true ((am_bn _).mp c_97)
    refine am_iload_n dX10_isCall_100 rfl ?_
    refine am_if_eq (tgt := 118) dX10_isCall_101 (by decide) (fun c_101 => ?_) (fun c_101 => ?_)
    · skip
      have c_101 := congrArg Int32.toInt c_101
      rw [am_i0] at c_101
      refine am_iconst (v := nI 0) dX10_isCall_118 (by decide) ?_
      refine am_iret dX10_isCall_119 rfl (am_nz (by decide)).1 ?_
      exact ⟨congrArg some (am_bF _ (by first | omega | exact True.intro)).symm, rfl⟩
    · skip
      have c_101 := mt Int32.toInt_inj.mp c_101
      rw [am_i0] at c_101
      refine am_iload_n dX10_isCall_104 rfl ?_
      refine am_iconst (v := nI 1) dX10_isCall_105 (by decide) ?_
      refine am_icmp_eq (tgt := 114) dX10_isCall_106 (by decide) (fun c_106 => ?_) (fun c_106 => ?_)
      · skip
        have c_106 := congrArg Int32.toInt c_106
        rw [nI_toInt (n := 1) (by omega)] at c_106
        refine am_iconst (v := nI 1) dX10_isCall_114 (by decide) ?_
        refine am_goto (tgt := 119) dX10_isCall_115 (by decide) ?_
        refine am_iret dX10_isCall_119 rfl (am_nz (by decide)).1 ?_
        exact ⟨congrArg some (am_bT _ (by first | omega | exact True.intro)).symm, rfl⟩
      · skip
        have c_106 := mt Int32.toInt_inj.mp c_106
        rw [nI_toInt (n := 1) (by omega)] at c_106
        refine am_iload_n dX10_isCall_109 rfl ?_
        refine am_iconst (v := nI 2) dX10_isCall_110 (by decide) ?_
        refine am_icmp_ne (tgt := 118) dX10_isCall_111 (by decide) (fun c_111 => ?_) (fun c_111 => ?_)
        · skip
          have c_111 := mt Int32.toInt_inj.mp c_111
          rw [nI_toInt (n := 2) (by omega)] at c_111
          refine am_iconst (v := nI 0) dX10_isCall_118 (by decide) ?_
          refine am_iret dX10_isCall_119 rfl (am_nz (by decide)).1 ?_
          exact ⟨congrArg some (am_bF _ (by first | omega | exact True.intro)).symm, rfl⟩
        · skip
          have c_111 := congrArg Int32.toInt c_111
          rw [nI_toInt (n := 2) (by omega)] at c_111
          refine am_iconst (v := nI 1) dX10_isCall_114 (by decide) ?_
          refine am_goto (tgt := 119) dX10_isCall_115 (by decide) ?_
          refine am_iret dX10_isCall_119 rfl (am_nz (by decide)).1 ?_
          exact ⟨congrArg some (am_bT _ (by first | omega | exact True.intro)).symm, rfl⟩
theorem c_isGiven1 {G : am_G} (hn : G.2.2.2.2.Nodup) {d : Nat} (a : Int32) (b : Int32) (c : Int32) (e : Int32) (I : am_I) : am_C G (d + 2) mX11_isGiven [.inl (nI 1), .inl a, .inl b, .inl c, .inl e] I (am_E (some (am_b (decide (0 ≤ a.toInt ∧ a.toInt < 128 ∧ ¬ b.toInt = 0 ∧ 1 ≤ c.toInt ∧ c.toInt ≤ 2)))) I) := by
  refine am_of (by decide +kernel) hn (Nat.le_of_ble_eq_true rfl) ?_
  refine am_iload_n dX11_isGiven_0 rfl ?_
  refine am_tabIn (off := 92) (tgt := 93) dX11_isGiven_1 (by decide) (by decide) rfl (by decide) ?_
  refine am_iload_n dX11_isGiven_93 rfl ?_
  refine am_callSx (as := [.inl a]) (rest := []) dX11_isGiven_94 lkX11_isInode ml_X11_431 isX11_isInode rfl (Nat.le_of_ble_eq_true rfl) rfl (c_MisInode hn a I) ?_
  refine am_if_eq (tgt := 117) dX11_isGiven_97 (by decide) (fun c_97 => ?_) (fun c_97 => ?_)
  · skip
    have c_97 := of_decide_eq_false ((am_bz _).mp c_97)
    refine am_iconst (v := nI 0) dX11_isGiven_117 (by decide) ?_
    refine am_iret dX11_isGiven_118 rfl (am_nz (by first | decide | exact am_b01 _)).1 ?_
    exact ⟨congrArg some (am_bF _ (by first | omega | exact True.intro)).symm, rfl⟩
  · skip
    have c_97 := of_decide_eq_true ((am_bn _).mp c_97)
    refine am_iload_n dX11_isGiven_100 rfl ?_
    refine am_if_eq (tgt := 117) dX11_isGiven_101 (by decide) (fun c_101 => ?_) (fun c_101 => ?_)
    · skip
      have c_101 := congrArg Int32.toInt c_101
      rw [am_i0] at c_101
      refine am_iconst (v := nI 0) dX11_isGiven_117 (by decide) ?_
      refine am_iret dX11_isGiven_118 rfl (am_nz (by first | decide | exact am_b01 _)).1 ?_
      exact ⟨congrArg some (am_bF _ (by first | omega | exact True.intro)).symm, rfl⟩
    · skip
      have c_101 := mt Int32.toInt_inj.mp c_101
      rw [am_i0] at c_101
      refine am_iload_n dX11_isGiven_104 rfl ?_
      refine am_iconst (v := nI 1) dX11_isGiven_105 (by decide) ?_
      refine am_iconst (v := nI 2) dX11_isGiven_106 (by decide) ?_
      refine am_callSx (as := [.inl c, .inl (nI 1), .inl (nI 2)]) (rest := []) dX11_isGiven_107 lkX11_in ml_X11_243 isX11_in rfl (Nat.le_of_ble_eq_true rfl) rfl (c_Min hn c (nI 1) (nI 2) I) ?_
      refine am_top (show am_b (decide ((nI 1).toInt ≤ c.toInt ∧ c.toInt ≤ (nI 2).toInt)) = am_b (decide (1 ≤ c.toInt ∧ c.toInt ≤ 2)) from by rw [nI_toInt (n := 1) (by omega), nI_toInt (n := 2) (by omega)]; rfl) ?_
      refine am_if_eq (tgt := 117) dX11_isGiven_110 (by decide) (fun c_110 => ?_) (fun c_110 => ?_)
      · skip
        have c_110 := of_decide_eq_false ((am_bz _).mp c_110)
        refine am_iconst (v := nI 0) dX11_isGiven_117 (by decide) ?_
        refine am_iret dX11_isGiven_118 rfl (am_nz (by first | decide | exact am_b01 _)).1 ?_
        exact ⟨congrArg some (am_bF _ (by first | omega | exact True.intro)).symm, rfl⟩
      · skip
        have c_110 := of_decide_eq_true ((am_bn _).mp c_110)
        refine am_iconst (v := nI 1) dX11_isGiven_113 (by decide) ?_
        refine am_goto (tgt := 118) dX11_isGiven_114 (by decide) ?_
        refine am_iret dX11_isGiven_118 rfl (am_nz (by first | decide | exact am_b01 _)).1 ?_
        exact ⟨congrArg some (am_bT _ (by first | omega | exact True.intro)).symm, rfl⟩
theorem c_isCall2 {G : am_G} (hn : G.2.2.2.2.Nodup) {d : Nat} (a : Int32) (b : Int32) (c : Int32) (e : Int32) (I : am_I) : am_C G (d + 1) mX10_isCall [.inl (nI 2), .inl a, .inl b, .inl c, .inl e] I (am_E (some (am_b (decide (0 ≤ a.toInt ∧ a.toInt < 128 ∧ ¬ b.toInt = 0)))) I) := by
  refine am_of (by decide +kernel) hn (Nat.le_of_ble_eq_true rfl) ?_
  refine am_iload_n dX10_isCall_0 rfl ?_
  refine am_tabIn (off := 75) (tgt := 76) dX10_isCall_1 (by decide) (by decide) rfl (by decide) ?_
  refine am_iload_n dX10_isCall_76 rfl ?_
  refine am_callSx (as := [.inl a]) (rest := []) dX10_isCall_77 lkX10_isInode ml_X10_317 isX10_isInode rfl (Nat.le_of_ble_eq_true rfl) rfl (c_isInode hn a I) ?_
  refine am_if_eq (tgt := 91) dX10_isCall_80 (by decide) (fun c_80 => ?_) (fun c_80 => ?_)
  · skip
    have c_80 := of_decide_eq_false ((am_bz _).mp c_80)
    refine am_iconst (v := nI 0) dX10_isCall_91 (by decide) ?_
    refine am_iret dX10_isCall_92 rfl (am_nz (by decide)).1 ?_
    exact ⟨congrArg some (am_bF _ (by first | omega | exact True.intro)).symm, rfl⟩
  · skip
    have c_80 := of_decide_eq_true ((am_bn _).mp c_80)
    refine am_iload_n dX10_isCall_83 rfl ?_
    refine am_if_eq (tgt := 91) dX10_isCall_84 (by decide) (fun c_84 => ?_) (fun c_84 => ?_)
    · skip
      have c_84 := congrArg Int32.toInt c_84
      rw [am_i0] at c_84
      refine am_iconst (v := nI 0) dX10_isCall_91 (by decide) ?_
      refine am_iret dX10_isCall_92 rfl (am_nz (by decide)).1 ?_
      exact ⟨congrArg some (am_bF _ (by first | omega | exact True.intro)).symm, rfl⟩
    · skip
      have c_84 := mt Int32.toInt_inj.mp c_84
      rw [am_i0] at c_84
      refine am_iconst (v := nI 1) dX10_isCall_87 (by decide) ?_
      refine am_goto (tgt := 92) dX10_isCall_88 (by decide) ?_
      refine am_iret dX10_isCall_92 rfl (am_nz (by decide)).1 ?_
      exact ⟨congrArg some (am_bT _ (by first | omega | exact True.intro)).symm, rfl⟩
theorem c_isGiven2 {G : am_G} (hn : G.2.2.2.2.Nodup) {d : Nat} (a : Int32) (b : Int32) (c : Int32) (e : Int32) (I : am_I) : am_C G (d + 2) mX11_isGiven [.inl (nI 2), .inl a, .inl b, .inl c, .inl e] I (am_E (some (am_b (decide (0 ≤ a.toInt ∧ a.toInt < 128 ∧ ¬ b.toInt = 0)))) I) := by
  refine am_of (by decide +kernel) hn (Nat.le_of_ble_eq_true rfl) ?_
  refine am_iload_n dX11_isGiven_0 rfl ?_
  refine am_tabIn (off := 75) (tgt := 76) dX11_isGiven_1 (by decide) (by decide) rfl (by decide) ?_
  refine am_iload_n dX11_isGiven_76 rfl ?_
  refine am_callSx (as := [.inl a]) (rest := []) dX11_isGiven_77 lkX11_isInode ml_X11_431 isX11_isInode rfl (Nat.le_of_ble_eq_true rfl) rfl (c_MisInode hn a I) ?_
  refine am_if_eq (tgt := 91) dX11_isGiven_80 (by decide) (fun c_80 => ?_) (fun c_80 => ?_)
  · skip
    have c_80 := of_decide_eq_false ((am_bz _).mp c_80)
    refine am_iconst (v := nI 0) dX11_isGiven_91 (by decide) ?_
    refine am_iret dX11_isGiven_92 rfl (am_nz (by first | decide | exact am_b01 _)).1 ?_
    exact ⟨congrArg some (am_bF _ (by first | omega | exact True.intro)).symm, rfl⟩
  · skip
    have c_80 := of_decide_eq_true ((am_bn _).mp c_80)
    refine am_iload_n dX11_isGiven_83 rfl ?_
    refine am_if_eq (tgt := 91) dX11_isGiven_84 (by decide) (fun c_84 => ?_) (fun c_84 => ?_)
    · skip
      have c_84 := congrArg Int32.toInt c_84
      rw [am_i0] at c_84
      refine am_iconst (v := nI 0) dX11_isGiven_91 (by decide) ?_
      refine am_iret dX11_isGiven_92 rfl (am_nz (by first | decide | exact am_b01 _)).1 ?_
      exact ⟨congrArg some (am_bF _ (by first | omega | exact True.intro)).symm, rfl⟩
    · skip
      have c_84 := mt Int32.toInt_inj.mp c_84
      rw [am_i0] at c_84
      refine am_iconst (v := nI 1) dX11_isGiven_87 (by decide) ?_
      refine am_goto (tgt := 92) dX11_isGiven_88 (by decide) ?_
      refine am_iret dX11_isGiven_92 rfl (am_nz (by first | decide | exact am_b01 _)).1 ?_
      exact ⟨congrArg some (am_bT _ (by first | omega | exact True.intro)).symm, rfl⟩
theorem c_isCall3 {G : am_G} (hn : G.2.2.2.2.Nodup) {d : Nat} (a : Int32) (b : Int32) (c : Int32) (e : Int32) (I : am_I) : am_C G (d + 1) mX10_isCall [.inl (nI 3), .inl a, .inl b, .inl c, .inl e] I (am_E (some (am_b (decide (0 ≤ a.toInt ∧ a.toInt < 128 ∧ ¬ b.toInt = 0 ∧ 0 ≤ c.toInt ∧ c.toInt < 128)))) I) := by
  refine am_of (by decide +kernel) hn (Nat.le_of_ble_eq_true rfl) ?_
  refine am_iload_n dX10_isCall_0 rfl ?_
  refine am_tabIn (off := 119) (tgt := 120) dX10_isCall_1 (by decide) (by decide) rfl (by decide) ?_
  refine am_iload_n dX10_isCall_120 rfl ?_
  refine am_callSx (as := [.inl a]) (rest := []) dX10_isCall_121 lkX10_isInode ml_X10_317 isX10_isInode rfl (Nat.le_of_ble_eq_true rfl) rfl (c_isInode hn a I) ?_
  refine am_if_eq (tgt := 142) dX10_isCall_124 (by decide) (fun c_124 => ?_) (fun c_124 => ?_)
  · skip
    have c_124 := of_decide_eq_false ((am_bz _).mp c_124)
    refine am_iconst (v := nI 0) dX10_isCall_142 (by decide) ?_
    refine am_iret dX10_isCall_143 rfl (am_nz (by decide)).1 ?_
    exact ⟨congrArg some (am_bF _ (by first | omega | exact True.intro)).symm, rfl⟩
  · skip
    have c_124 := of_decide_eq_true ((am_bn _).mp c_124)
    refine am_iload_n dX10_isCall_127 rfl ?_
    refine am_if_eq (tgt := 142) dX10_isCall_128 (by decide) (fun c_128 => ?_) (fun c_128 => ?_)
    · skip
      have c_128 := congrArg Int32.toInt c_128
      rw [am_i0] at c_128
      refine am_iconst (v := nI 0) dX10_isCall_142 (by decide) ?_
      refine am_iret dX10_isCall_143 rfl (am_nz (by decide)).1 ?_
      exact ⟨congrArg some (am_bF _ (by first | omega | exact True.intro)).symm, rfl⟩
    · skip
      have c_128 := mt Int32.toInt_inj.mp c_128
      rw [am_i0] at c_128
      refine am_iload_n dX10_isCall_131 rfl ?_
      refine am_callSx (as := [.inl c]) (rest := []) dX10_isCall_132 lkX10_isInode ml_X10_317 isX10_isInode rfl (Nat.le_of_ble_eq_true rfl) rfl (c_isInode hn c I) ?_
      refine am_if_eq (tgt := 142) dX10_isCall_135 (by decide) (fun c_135 => ?_) (fun c_135 => ?_)
      · skip
        have c_135 := of_decide_eq_false ((am_bz _).mp c_135)
        refine am_iconst (v := nI 0) dX10_isCall_142 (by decide) ?_
        refine am_iret dX10_isCall_143 rfl (am_nz (by decide)).1 ?_
        exact ⟨congrArg some (am_bF _ (by first | omega | exact True.intro)).symm, rfl⟩
      · skip
        have c_135 := of_decide_eq_true ((am_bn _).mp c_135)
        refine am_iconst (v := nI 1) dX10_isCall_138 (by decide) ?_
        refine am_goto (tgt := 143) dX10_isCall_139 (by decide) ?_
        refine am_iret dX10_isCall_143 rfl (am_nz (by decide)).1 ?_
        exact ⟨congrArg some (am_bT _ (by first | omega | exact True.intro)).symm, rfl⟩
theorem c_isGiven3 {G : am_G} (hn : G.2.2.2.2.Nodup) {d : Nat} (a : Int32) (b : Int32) (c : Int32) (e : Int32) (I : am_I) : am_C G (d + 2) mX11_isGiven [.inl (nI 3), .inl a, .inl b, .inl c, .inl e] I (am_E (some (am_b (decide (0 ≤ a.toInt ∧ a.toInt < 128 ∧ ¬ b.toInt = 0 ∧ 0 ≤ c.toInt ∧ c.toInt < 128)))) I) := by
  refine am_of (by decide +kernel) hn (Nat.le_of_ble_eq_true rfl) ?_
  refine am_iload_n dX11_isGiven_0 rfl ?_
  refine am_tabIn (off := 118) (tgt := 119) dX11_isGiven_1 (by decide) (by decide) rfl (by decide) ?_
  refine am_iload_n dX11_isGiven_119 rfl ?_
  refine am_callSx (as := [.inl a]) (rest := []) dX11_isGiven_120 lkX11_isInode ml_X11_431 isX11_isInode rfl (Nat.le_of_ble_eq_true rfl) rfl (c_MisInode hn a I) ?_
  refine am_if_eq (tgt := 141) dX11_isGiven_123 (by decide) (fun c_123 => ?_) (fun c_123 => ?_)
  · skip
    have c_123 := of_decide_eq_false ((am_bz _).mp c_123)
    refine am_iconst (v := nI 0) dX11_isGiven_141 (by decide) ?_
    refine am_iret dX11_isGiven_142 rfl (am_nz (by first | decide | exact am_b01 _)).1 ?_
    exact ⟨congrArg some (am_bF _ (by first | omega | exact True.intro)).symm, rfl⟩
  · skip
    have c_123 := of_decide_eq_true ((am_bn _).mp c_123)
    refine am_iload_n dX11_isGiven_126 rfl ?_
    refine am_if_eq (tgt := 141) dX11_isGiven_127 (by decide) (fun c_127 => ?_) (fun c_127 => ?_)
    · skip
      have c_127 := congrArg Int32.toInt c_127
      rw [am_i0] at c_127
      refine am_iconst (v := nI 0) dX11_isGiven_141 (by decide) ?_
      refine am_iret dX11_isGiven_142 rfl (am_nz (by first | decide | exact am_b01 _)).1 ?_
      exact ⟨congrArg some (am_bF _ (by first | omega | exact True.intro)).symm, rfl⟩
    · skip
      have c_127 := mt Int32.toInt_inj.mp c_127
      rw [am_i0] at c_127
      refine am_iload_n dX11_isGiven_130 rfl ?_
      refine am_callSx (as := [.inl c]) (rest := []) dX11_isGiven_131 lkX11_isInode ml_X11_431 isX11_isInode rfl (Nat.le_of_ble_eq_true rfl) rfl (c_MisInode hn c I) ?_
      refine am_if_eq (tgt := 141) dX11_isGiven_134 (by decide) (fun c_134 => ?_) (fun c_134 => ?_)
      · skip
        have c_134 := of_decide_eq_false ((am_bz _).mp c_134)
        refine am_iconst (v := nI 0) dX11_isGiven_141 (by decide) ?_
        refine am_iret dX11_isGiven_142 rfl (am_nz (by first | decide | exact am_b01 _)).1 ?_
        exact ⟨congrArg some (am_bF _ (by first | omega | exact True.intro)).symm, rfl⟩
      · skip
        have c_134 := of_decide_eq_true ((am_bn _).mp c_134)
        refine am_iconst (v := nI 1) dX11_isGiven_137 (by decide) ?_
        refine am_goto (tgt := 142) dX11_isGiven_138 (by decide) ?_
        refine am_iret dX11_isGiven_142 rfl (am_nz (by first | decide | exact am_b01 _)).1 ?_
        exact ⟨congrArg some (am_bT _ (by first | omega | exact True.intro)).symm, rfl⟩
theorem c_isCall4 {G : am_G} (hn : G.2.2.2.2.Nodup) {d : Nat} (a : Int32) (b : Int32) (c : Int32) (e : Int32) (I : am_I) : am_C G (d + 1) mX10_isCall [.inl (nI 4), .inl a, .inl b, .inl c, .inl e] I (am_E (some (am_b (decide (0 ≤ a.toInt ∧ a.toInt < 128 ∧ ¬ b.toInt = 0 ∧ 0 ≤ c.toInt ∧ c.toInt < 128 ∧ ¬ e.toInt = 0)))) I) := by
  refine am_of (by decide +kernel) hn (Nat.le_of_ble_eq_true rfl) ?_
  refine am_iload_n dX10_isCall_0 rfl ?_
  refine am_tabIn (off := 143) (tgt := 144) dX10_isCall_1 (by decide) (by decide) rfl (by decide) ?_
  refine am_iload_n dX10_isCall_144 rfl ?_
  refine am_callSx (as := [.inl a]) (rest := []) dX10_isCall_145 lkX10_isInode ml_X10_317 isX10_isInode rfl (Nat.le_of_ble_eq_true rfl) rfl (c_isInode hn a I) ?_
  refine am_if_eq (tgt := 171) dX10_isCall_148 (by decide) (fun c_148 => ?_) (fun c_148 => ?_)
  · skip
    have c_148 := of_decide_eq_false ((am_bz _).mp c_148)
    refine am_iconst (v := nI 0) dX10_isCall_171 (by decide) ?_
    refine am_iret dX10_isCall_172 rfl (am_nz (by decide)).1 ?_
    exact ⟨congrArg some (am_bF _ (by first | omega | exact True.intro)).symm, rfl⟩
  · skip
    have c_148 := of_decide_eq_true ((am_bn _).mp c_148)
    refine am_iload_n dX10_isCall_151 rfl ?_
    refine am_if_eq (tgt := 171) dX10_isCall_152 (by decide) (fun c_152 => ?_) (fun c_152 => ?_)
    · skip
      have c_152 := congrArg Int32.toInt c_152
      rw [am_i0] at c_152
      refine am_iconst (v := nI 0) dX10_isCall_171 (by decide) ?_
      refine am_iret dX10_isCall_172 rfl (am_nz (by decide)).1 ?_
      exact ⟨congrArg some (am_bF _ (by first | omega | exact True.intro)).symm, rfl⟩
    · skip
      have c_152 := mt Int32.toInt_inj.mp c_152
      rw [am_i0] at c_152
      refine am_iload_n dX10_isCall_155 rfl ?_
      refine am_callSx (as := [.inl c]) (rest := []) dX10_isCall_156 lkX10_isInode ml_X10_317 isX10_isInode rfl (Nat.le_of_ble_eq_true rfl) rfl (c_isInode hn c I) ?_
      refine am_if_eq (tgt := 171) dX10_isCall_159 (by decide) (fun c_159 => ?_) (fun c_159 => ?_)
      · skip
        have c_159 := of_decide_eq_false ((am_bz _).mp c_159)
        refine am_iconst (v := nI 0) dX10_isCall_171 (by decide) ?_
        refine am_iret dX10_isCall_172 rfl (am_nz (by decide)).1 ?_
        exact ⟨congrArg some (am_bF _ (by first | omega | exact True.intro)).symm, rfl⟩
      · skip
        have c_159 := of_decide_eq_true ((am_bn _).mp c_159)
        refine am_iload dX10_isCall_162 rfl ?_
        refine am_if_eq (tgt := 171) dX10_isCall_164 (by decide) (fun c_164 => ?_) (fun c_164 => ?_)
        · skip
          have c_164 := congrArg Int32.toInt c_164
          rw [am_i0] at c_164
          refine am_iconst (v := nI 0) dX10_isCall_171 (by decide) ?_
          refine am_iret dX10_isCall_172 rfl (am_nz (by decide)).1 ?_
          exact ⟨congrArg some (am_bF _ (by first | omega | exact True.intro)).symm, rfl⟩
        · skip
          have c_164 := mt Int32.toInt_inj.mp c_164
          rw [am_i0] at c_164
          refine am_iconst (v := nI 1) dX10_isCall_167 (by decide) ?_
          refine am_goto (tgt := 172) dX10_isCall_168 (by decide) ?_
          refine am_iret dX10_isCall_172 rfl (am_nz (by decide)).1 ?_
          exact ⟨congrArg some (am_bT _ (by first | omega | exact True.intro)).symm, rfl⟩
theorem c_isGiven4 {G : am_G} (hn : G.2.2.2.2.Nodup) {d : Nat} (a : Int32) (b : Int32) (c : Int32) (e : Int32) (I : am_I) : am_C G (d + 2) mX11_isGiven [.inl (nI 4), .inl a, .inl b, .inl c, .inl e] I (am_E (some (am_b (decide (0 ≤ a.toInt ∧ a.toInt < 128 ∧ ¬ b.toInt = 0 ∧ 0 ≤ c.toInt ∧ c.toInt < 128 ∧ ¬ e.toInt = 0)))) I) := by
  refine am_of (by decide +kernel) hn (Nat.le_of_ble_eq_true rfl) ?_
  refine am_iload_n dX11_isGiven_0 rfl ?_
  refine am_tabIn (off := 142) (tgt := 143) dX11_isGiven_1 (by decide) (by decide) rfl (by decide) ?_
  refine am_iload_n dX11_isGiven_143 rfl ?_
  refine am_callSx (as := [.inl a]) (rest := []) dX11_isGiven_144 lkX11_isInode ml_X11_431 isX11_isInode rfl (Nat.le_of_ble_eq_true rfl) rfl (c_MisInode hn a I) ?_
  refine am_if_eq (tgt := 170) dX11_isGiven_147 (by decide) (fun c_147 => ?_) (fun c_147 => ?_)
  · skip
    have c_147 := of_decide_eq_false ((am_bz _).mp c_147)
    refine am_iconst (v := nI 0) dX11_isGiven_170 (by decide) ?_
    refine am_iret dX11_isGiven_171 rfl (am_nz (by first | decide | exact am_b01 _)).1 ?_
    exact ⟨congrArg some (am_bF _ (by first | omega | exact True.intro)).symm, rfl⟩
  · skip
    have c_147 := of_decide_eq_true ((am_bn _).mp c_147)
    refine am_iload_n dX11_isGiven_150 rfl ?_
    refine am_if_eq (tgt := 170) dX11_isGiven_151 (by decide) (fun c_151 => ?_) (fun c_151 => ?_)
    · skip
      have c_151 := congrArg Int32.toInt c_151
      rw [am_i0] at c_151
      refine am_iconst (v := nI 0) dX11_isGiven_170 (by decide) ?_
      refine am_iret dX11_isGiven_171 rfl (am_nz (by first | decide | exact am_b01 _)).1 ?_
      exact ⟨congrArg some (am_bF _ (by first | omega | exact True.intro)).symm, rfl⟩
    · skip
      have c_151 := mt Int32.toInt_inj.mp c_151
      rw [am_i0] at c_151
      refine am_iload_n dX11_isGiven_154 rfl ?_
      refine am_callSx (as := [.inl c]) (rest := []) dX11_isGiven_155 lkX11_isInode ml_X11_431 isX11_isInode rfl (Nat.le_of_ble_eq_true rfl) rfl (c_MisInode hn c I) ?_
      refine am_if_eq (tgt := 170) dX11_isGiven_158 (by decide) (fun c_158 => ?_) (fun c_158 => ?_)
      · skip
        have c_158 := of_decide_eq_false ((am_bz _).mp c_158)
        refine am_iconst (v := nI 0) dX11_isGiven_170 (by decide) ?_
        refine am_iret dX11_isGiven_171 rfl (am_nz (by first | decide | exact am_b01 _)).1 ?_
        exact ⟨congrArg some (am_bF _ (by first | omega | exact True.intro)).symm, rfl⟩
      · skip
        have c_158 := of_decide_eq_true ((am_bn _).mp c_158)
        refine am_iload dX11_isGiven_161 rfl ?_
        refine am_if_eq (tgt := 170) dX11_isGiven_163 (by decide) (fun c_163 => ?_) (fun c_163 => ?_)
        · skip
          have c_163 := congrArg Int32.toInt c_163
          rw [am_i0] at c_163
          refine am_iconst (v := nI 0) dX11_isGiven_170 (by decide) ?_
          refine am_iret dX11_isGiven_171 rfl (am_nz (by first | decide | exact am_b01 _)).1 ?_
          exact ⟨congrArg some (am_bF _ (by first | omega | exact True.intro)).symm, rfl⟩
        · skip
          have c_163 := mt Int32.toInt_inj.mp c_163
          rw [am_i0] at c_163
          refine am_iconst (v := nI 1) dX11_isGiven_166 (by decide) ?_
          refine am_goto (tgt := 171) dX11_isGiven_167 (by decide) ?_
          refine am_iret dX11_isGiven_171 rfl (am_nz (by first | decide | exact am_b01 _)).1 ?_
          exact ⟨congrArg some (am_bT _ (by first | omega | exact True.intro)).symm, rfl⟩
theorem c_isCall5 {G : am_G} (hn : G.2.2.2.2.Nodup) {d : Nat} (a : Int32) (b : Int32) (c : Int32) (e : Int32) (I : am_I) : am_C G (d + 1) mX10_isCall [.inl (nI 5), .inl a, .inl b, .inl c, .inl e] I (am_E (some (am_b (decide (0 ≤ a.toInt ∧ a.toInt < 128 ∧ 0 ≤ b.toInt ∧ b.toInt < 384)))) I) := by
  refine am_of (by decide +kernel) hn (Nat.le_of_ble_eq_true rfl) ?_
  refine am_iload_n dX10_isCall_0 rfl ?_
  refine am_tabIn (off := 172) (tgt := 173) dX10_isCall_1 (by decide) (by decide) rfl (by decide) ?_
  refine am_iload_n dX10_isCall_173 rfl ?_
  refine am_callSx (as := [.inl a]) (rest := []) dX10_isCall_174 lkX10_isInode ml_X10_317 isX10_isInode rfl (Nat.le_of_ble_eq_true rfl) rfl (c_isInode hn a I) ?_
  refine am_if_eq (tgt := 195) dX10_isCall_177 (by decide) (fun c_177 => ?_) (fun c_177 => ?_)
  · skip
    have c_177 := of_decide_eq_false ((am_bz _).mp c_177)
    refine am_iconst (v := nI 0) dX10_isCall_195 (by decide) ?_
    refine am_iret dX10_isCall_196 rfl (am_nz (by decide)).1 ?_
    exact ⟨congrArg some (am_bF _ (by first | omega | exact True.intro)).symm, rfl⟩
  · skip
    have c_177 := of_decide_eq_true ((am_bn _).mp c_177)
    refine am_iload_n dX10_isCall_180 rfl ?_
    refine am_if_lt (tgt := 195) dX10_isCall_181 (by decide) (fun c_181 => ?_) (fun c_181 => ?_)
    · skip
      have c_181 := Int32.lt_iff_toInt_lt.mp c_181
      rw [am_i0] at c_181
      refine am_iconst (v := nI 0) dX10_isCall_195 (by decide) ?_
      refine am_iret dX10_isCall_196 rfl (am_nz (by decide)).1 ?_
      exact ⟨congrArg some (am_bF _ (by first | omega | exact True.intro)).symm, rfl⟩
    · skip
      have c_181 := mt Int32.lt_iff_toInt_lt.mpr c_181
      rw [am_i0] at c_181
      refine am_iload_n dX10_isCall_184 rfl ?_
      refine am_sipush (v := nI 384) dX10_isCall_185 (by decide) ?_
      refine am_icmp_ge (tgt := 195) dX10_isCall_188 (by decide) (fun c_188 => ?_) (fun c_188 => ?_)
      · skip
        have c_188 := Int32.le_iff_toInt_le.mp c_188
        rw [nI_toInt (n := 384) (by omega)] at c_188
        refine am_iconst (v := nI 0) dX10_isCall_195 (by decide) ?_
        refine am_iret dX10_isCall_196 rfl (am_nz (by decide)).1 ?_
        exact ⟨congrArg some (am_bF _ (by first | omega | exact True.intro)).symm, rfl⟩
      · skip
        have c_188 := mt Int32.le_iff_toInt_le.mpr c_188
        rw [nI_toInt (n := 384) (by omega)] at c_188
        refine am_iconst (v := nI 1) dX10_isCall_191 (by decide) ?_
        refine am_goto (tgt := 196) dX10_isCall_192 (by decide) ?_
        refine am_iret dX10_isCall_196 rfl (am_nz (by decide)).1 ?_
        exact ⟨congrArg some (am_bT _ (by first | omega | exact True.intro)).symm, rfl⟩
theorem c_isGiven5 {G : am_G} (hn : G.2.2.2.2.Nodup) {d : Nat} (a : Int32) (b : Int32) (c : Int32) (e : Int32) (I : am_I) : am_C G (d + 2) mX11_isGiven [.inl (nI 5), .inl a, .inl b, .inl c, .inl e] I (am_E (some (am_b (decide (0 ≤ a.toInt ∧ a.toInt < 128 ∧ 0 ≤ b.toInt ∧ b.toInt < 384)))) I) := by
  refine am_of (by decide +kernel) hn (Nat.le_of_ble_eq_true rfl) ?_
  refine am_iload_n dX11_isGiven_0 rfl ?_
  refine am_tabIn (off := 171) (tgt := 172) dX11_isGiven_1 (by decide) (by decide) rfl (by decide) ?_
  refine am_iload_n dX11_isGiven_172 rfl ?_
  refine am_callSx (as := [.inl a]) (rest := []) dX11_isGiven_173 lkX11_isInode ml_X11_431 isX11_isInode rfl (Nat.le_of_ble_eq_true rfl) rfl (c_MisInode hn a I) ?_
  refine am_if_eq (tgt := 194) dX11_isGiven_176 (by decide) (fun c_176 => ?_) (fun c_176 => ?_)
  · skip
    have c_176 := of_decide_eq_false ((am_bz _).mp c_176)
    refine am_iconst (v := nI 0) dX11_isGiven_194 (by decide) ?_
    refine am_iret dX11_isGiven_195 rfl (am_nz (by first | decide | exact am_b01 _)).1 ?_
    exact ⟨congrArg some (am_bF _ (by first | omega | exact True.intro)).symm, rfl⟩
  · skip
    have c_176 := of_decide_eq_true ((am_bn _).mp c_176)
    refine am_iload_n dX11_isGiven_179 rfl ?_
    refine am_iconst (v := nI 0) dX11_isGiven_180 (by decide) ?_
    refine am_sipush (v := nI 383) dX11_isGiven_181 (by decide) ?_
    refine am_callSx (as := [.inl b, .inl (nI 0), .inl (nI 383)]) (rest := []) dX11_isGiven_184 lkX11_in ml_X11_243 isX11_in rfl (Nat.le_of_ble_eq_true rfl) rfl (c_Min hn b (nI 0) (nI 383) I) ?_
    refine am_top (show am_b (decide ((nI 0).toInt ≤ b.toInt ∧ b.toInt ≤ (nI 383).toInt)) = am_b (decide (0 ≤ b.toInt ∧ b.toInt ≤ 383)) from by rw [nI_toInt (n := 0) (by omega), nI_toInt (n := 383) (by omega)]; rfl) ?_
    refine am_if_eq (tgt := 194) dX11_isGiven_187 (by decide) (fun c_187 => ?_) (fun c_187 => ?_)
    · skip
      have c_187 := of_decide_eq_false ((am_bz _).mp c_187)
      refine am_iconst (v := nI 0) dX11_isGiven_194 (by decide) ?_
      refine am_iret dX11_isGiven_195 rfl (am_nz (by first | decide | exact am_b01 _)).1 ?_
      exact ⟨congrArg some (am_bF _ (by first | omega | exact True.intro)).symm, rfl⟩
    · skip
      have c_187 := of_decide_eq_true ((am_bn _).mp c_187)
      refine am_iconst (v := nI 1) dX11_isGiven_190 (by decide) ?_
      refine am_goto (tgt := 195) dX11_isGiven_191 (by decide) ?_
      refine am_iret dX11_isGiven_195 rfl (am_nz (by first | decide | exact am_b01 _)).1 ?_
      exact ⟨congrArg some (am_bT _ (by first | omega | exact True.intro)).symm, rfl⟩
theorem c_isCall6 {G : am_G} (hn : G.2.2.2.2.Nodup) {d : Nat} (a : Int32) (b : Int32) (c : Int32) (e : Int32) (I : am_I) : am_C G (d + 1) mX10_isCall [.inl (nI 6), .inl a, .inl b, .inl c, .inl e] I (am_E (some (am_b (decide (0 ≤ a.toInt ∧ a.toInt < 128 ∧ 0 ≤ b.toInt ∧ b.toInt < 384)))) I) := by
  refine am_of (by decide +kernel) hn (Nat.le_of_ble_eq_true rfl) ?_
  refine am_iload_n dX10_isCall_0 rfl ?_
  refine am_tabIn (off := 172) (tgt := 173) dX10_isCall_1 (by decide) (by decide) rfl (by decide) ?_
  refine am_iload_n dX10_isCall_173 rfl ?_
  refine am_callSx (as := [.inl a]) (rest := []) dX10_isCall_174 lkX10_isInode ml_X10_317 isX10_isInode rfl (Nat.le_of_ble_eq_true rfl) rfl (c_isInode hn a I) ?_
  refine am_if_eq (tgt := 195) dX10_isCall_177 (by decide) (fun c_177 => ?_) (fun c_177 => ?_)
  · skip
    have c_177 := of_decide_eq_false ((am_bz _).mp c_177)
    refine am_iconst (v := nI 0) dX10_isCall_195 (by decide) ?_
    refine am_iret dX10_isCall_196 rfl (am_nz (by decide)).1 ?_
    exact ⟨congrArg some (am_bF _ (by first | omega | exact True.intro)).symm, rfl⟩
  · skip
    have c_177 := of_decide_eq_true ((am_bn _).mp c_177)
    refine am_iload_n dX10_isCall_180 rfl ?_
    refine am_if_lt (tgt := 195) dX10_isCall_181 (by decide) (fun c_181 => ?_) (fun c_181 => ?_)
    · skip
      have c_181 := Int32.lt_iff_toInt_lt.mp c_181
      rw [am_i0] at c_181
      refine am_iconst (v := nI 0) dX10_isCall_195 (by decide) ?_
      refine am_iret dX10_isCall_196 rfl (am_nz (by decide)).1 ?_
      exact ⟨congrArg some (am_bF _ (by first | omega | exact True.intro)).symm, rfl⟩
    · skip
      have c_181 := mt Int32.lt_iff_toInt_lt.mpr c_181
      rw [am_i0] at c_181
      refine am_iload_n dX10_isCall_184 rfl ?_
      refine am_sipush (v := nI 384) dX10_isCall_185 (by decide) ?_
      refine am_icmp_ge (tgt := 195) dX10_isCall_188 (by decide) (fun c_188 => ?_) (fun c_188 => ?_)
      · skip
        have c_188 := Int32.le_iff_toInt_le.mp c_188
        rw [nI_toInt (n := 384) (by omega)] at c_188
        refine am_iconst (v := nI 0) dX10_isCall_195 (by decide) ?_
        refine am_iret dX10_isCall_196 rfl (am_nz (by decide)).1 ?_
        exact ⟨congrArg some (am_bF _ (by first | omega | exact True.intro)).symm, rfl⟩
      · skip
        have c_188 := mt Int32.le_iff_toInt_le.mpr c_188
        rw [nI_toInt (n := 384) (by omega)] at c_188
        refine am_iconst (v := nI 1) dX10_isCall_191 (by decide) ?_
        refine am_goto (tgt := 196) dX10_isCall_192 (by decide) ?_
        refine am_iret dX10_isCall_196 rfl (am_nz (by decide)).1 ?_
        exact ⟨congrArg some (am_bT _ (by first | omega | exact True.intro)).symm, rfl⟩
theorem c_isGiven6 {G : am_G} (hn : G.2.2.2.2.Nodup) {d : Nat} (a : Int32) (b : Int32) (c : Int32) (e : Int32) (I : am_I) : am_C G (d + 2) mX11_isGiven [.inl (nI 6), .inl a, .inl b, .inl c, .inl e] I (am_E (some (am_b (decide (0 ≤ a.toInt ∧ a.toInt < 128 ∧ 0 ≤ b.toInt ∧ b.toInt < 384)))) I) := by
  refine am_of (by decide +kernel) hn (Nat.le_of_ble_eq_true rfl) ?_
  refine am_iload_n dX11_isGiven_0 rfl ?_
  refine am_tabIn (off := 171) (tgt := 172) dX11_isGiven_1 (by decide) (by decide) rfl (by decide) ?_
  refine am_iload_n dX11_isGiven_172 rfl ?_
  refine am_callSx (as := [.inl a]) (rest := []) dX11_isGiven_173 lkX11_isInode ml_X11_431 isX11_isInode rfl (Nat.le_of_ble_eq_true rfl) rfl (c_MisInode hn a I) ?_
  refine am_if_eq (tgt := 194) dX11_isGiven_176 (by decide) (fun c_176 => ?_) (fun c_176 => ?_)
  · skip
    have c_176 := of_decide_eq_false ((am_bz _).mp c_176)
    refine am_iconst (v := nI 0) dX11_isGiven_194 (by decide) ?_
    refine am_iret dX11_isGiven_195 rfl (am_nz (by first | decide | exact am_b01 _)).1 ?_
    exact ⟨congrArg some (am_bF _ (by first | omega | exact True.intro)).symm, rfl⟩
  · skip
    have c_176 := of_decide_eq_true ((am_bn _).mp c_176)
    refine am_iload_n dX11_isGiven_179 rfl ?_
    refine am_iconst (v := nI 0) dX11_isGiven_180 (by decide) ?_
    refine am_sipush (v := nI 383) dX11_isGiven_181 (by decide) ?_
    refine am_callSx (as := [.inl b, .inl (nI 0), .inl (nI 383)]) (rest := []) dX11_isGiven_184 lkX11_in ml_X11_243 isX11_in rfl (Nat.le_of_ble_eq_true rfl) rfl (c_Min hn b (nI 0) (nI 383) I) ?_
    refine am_top (show am_b (decide ((nI 0).toInt ≤ b.toInt ∧ b.toInt ≤ (nI 383).toInt)) = am_b (decide (0 ≤ b.toInt ∧ b.toInt ≤ 383)) from by rw [nI_toInt (n := 0) (by omega), nI_toInt (n := 383) (by omega)]; rfl) ?_
    refine am_if_eq (tgt := 194) dX11_isGiven_187 (by decide) (fun c_187 => ?_) (fun c_187 => ?_)
    · skip
      have c_187 := of_decide_eq_false ((am_bz _).mp c_187)
      refine am_iconst (v := nI 0) dX11_isGiven_194 (by decide) ?_
      refine am_iret dX11_isGiven_195 rfl (am_nz (by first | decide | exact am_b01 _)).1 ?_
      exact ⟨congrArg some (am_bF _ (by first | omega | exact True.intro)).symm, rfl⟩
    · skip
      have c_187 := of_decide_eq_true ((am_bn _).mp c_187)
      refine am_iconst (v := nI 1) dX11_isGiven_190 (by decide) ?_
      refine am_goto (tgt := 195) dX11_isGiven_191 (by decide) ?_
      refine am_iret dX11_isGiven_195 rfl (am_nz (by first | decide | exact am_b01 _)).1 ?_
      exact ⟨congrArg some (am_bT _ (by first | omega | exact True.intro)).symm, rfl⟩
theorem c_isCall7 {G : am_G} (hn : G.2.2.2.2.Nodup) {d : Nat} (a : Int32) (b : Int32) (c : Int32) (e : Int32) (I : am_I) : am_C G (d + 1) mX10_isCall [.inl (nI 7), .inl a, .inl b, .inl c, .inl e] I (am_E (some (am_b (decide (0 ≤ a.toInt ∧ a.toInt < 128 ∧ 0 ≤ b.toInt ∧ b.toInt ≤ 384)))) I) := by
  refine am_of (by decide +kernel) hn (Nat.le_of_ble_eq_true rfl) ?_
  refine am_iload_n dX10_isCall_0 rfl ?_
  refine am_tabIn (off := 196) (tgt := 197) dX10_isCall_1 (by decide) (by decide) rfl (by decide) ?_
  refine am_iload_n dX10_isCall_197 rfl ?_
  refine am_callSx (as := [.inl a]) (rest := []) dX10_isCall_198 lkX10_isInode ml_X10_317 isX10_isInode rfl (Nat.le_of_ble_eq_true rfl) rfl (c_isInode hn a I) ?_
  refine am_if_eq (tgt := 219) dX10_isCall_201 (by decide) (fun c_201 => ?_) (fun c_201 => ?_)
  · skip
    have c_201 := of_decide_eq_false ((am_bz _).mp c_201)
    refine am_iconst (v := nI 0) dX10_isCall_219 (by decide) ?_
    refine am_iret dX10_isCall_220 rfl (am_nz (by decide)).1 ?_
    exact ⟨congrArg some (am_bF _ (by first | omega | exact True.intro)).symm, rfl⟩
  · skip
    have c_201 := of_decide_eq_true ((am_bn _).mp c_201)
    refine am_iload_n dX10_isCall_204 rfl ?_
    refine am_if_lt (tgt := 219) dX10_isCall_205 (by decide) (fun c_205 => ?_) (fun c_205 => ?_)
    · skip
      have c_205 := Int32.lt_iff_toInt_lt.mp c_205
      rw [am_i0] at c_205
      refine am_iconst (v := nI 0) dX10_isCall_219 (by decide) ?_
      refine am_iret dX10_isCall_220 rfl (am_nz (by decide)).1 ?_
      exact ⟨congrArg some (am_bF _ (by first | omega | exact True.intro)).symm, rfl⟩
    · skip
      have c_205 := mt Int32.lt_iff_toInt_lt.mpr c_205
      rw [am_i0] at c_205
      refine am_iload_n dX10_isCall_208 rfl ?_
      refine am_sipush (v := nI 384) dX10_isCall_209 (by decide) ?_
      refine am_icmp_gt (tgt := 219) dX10_isCall_212 (by decide) (fun c_212 => ?_) (fun c_212 => ?_)
      · skip
        have c_212 := Int32.lt_iff_toInt_lt.mp c_212
        rw [nI_toInt (n := 384) (by omega)] at c_212
        refine am_iconst (v := nI 0) dX10_isCall_219 (by decide) ?_
        refine am_iret dX10_isCall_220 rfl (am_nz (by decide)).1 ?_
        exact ⟨congrArg some (am_bF _ (by first | omega | exact True.intro)).symm, rfl⟩
      · skip
        have c_212 := mt Int32.lt_iff_toInt_lt.mpr c_212
        rw [nI_toInt (n := 384) (by omega)] at c_212
        refine am_iconst (v := nI 1) dX10_isCall_215 (by decide) ?_
        refine am_goto (tgt := 220) dX10_isCall_216 (by decide) ?_
        refine am_iret dX10_isCall_220 rfl (am_nz (by decide)).1 ?_
        exact ⟨congrArg some (am_bT _ (by first | omega | exact True.intro)).symm, rfl⟩
theorem c_isGiven7 {G : am_G} (hn : G.2.2.2.2.Nodup) {d : Nat} (a : Int32) (b : Int32) (c : Int32) (e : Int32) (I : am_I) : am_C G (d + 2) mX11_isGiven [.inl (nI 7), .inl a, .inl b, .inl c, .inl e] I (am_E (some (am_b (decide (0 ≤ a.toInt ∧ a.toInt < 128 ∧ 0 ≤ b.toInt ∧ b.toInt ≤ 384)))) I) := by
  refine am_of (by decide +kernel) hn (Nat.le_of_ble_eq_true rfl) ?_
  refine am_iload_n dX11_isGiven_0 rfl ?_
  refine am_tabIn (off := 195) (tgt := 196) dX11_isGiven_1 (by decide) (by decide) rfl (by decide) ?_
  refine am_iload_n dX11_isGiven_196 rfl ?_
  refine am_callSx (as := [.inl a]) (rest := []) dX11_isGiven_197 lkX11_isInode ml_X11_431 isX11_isInode rfl (Nat.le_of_ble_eq_true rfl) rfl (c_MisInode hn a I) ?_
  refine am_if_eq (tgt := 218) dX11_isGiven_200 (by decide) (fun c_200 => ?_) (fun c_200 => ?_)
  · skip
    have c_200 := of_decide_eq_false ((am_bz _).mp c_200)
    refine am_iconst (v := nI 0) dX11_isGiven_218 (by decide) ?_
    refine am_iret dX11_isGiven_219 rfl (am_nz (by first | decide | exact am_b01 _)).1 ?_
    exact ⟨congrArg some (am_bF _ (by first | omega | exact True.intro)).symm, rfl⟩
  · skip
    have c_200 := of_decide_eq_true ((am_bn _).mp c_200)
    refine am_iload_n dX11_isGiven_203 rfl ?_
    refine am_iconst (v := nI 0) dX11_isGiven_204 (by decide) ?_
    refine am_sipush (v := nI 384) dX11_isGiven_205 (by decide) ?_
    refine am_callSx (as := [.inl b, .inl (nI 0), .inl (nI 384)]) (rest := []) dX11_isGiven_208 lkX11_in ml_X11_243 isX11_in rfl (Nat.le_of_ble_eq_true rfl) rfl (c_Min hn b (nI 0) (nI 384) I) ?_
    refine am_top (show am_b (decide ((nI 0).toInt ≤ b.toInt ∧ b.toInt ≤ (nI 384).toInt)) = am_b (decide (0 ≤ b.toInt ∧ b.toInt ≤ 384)) from by rw [nI_toInt (n := 0) (by omega), nI_toInt (n := 384) (by omega)]; rfl) ?_
    refine am_if_eq (tgt := 218) dX11_isGiven_211 (by decide) (fun c_211 => ?_) (fun c_211 => ?_)
    · skip
      have c_211 := of_decide_eq_false ((am_bz _).mp c_211)
      refine am_iconst (v := nI 0) dX11_isGiven_218 (by decide) ?_
      refine am_iret dX11_isGiven_219 rfl (am_nz (by first | decide | exact am_b01 _)).1 ?_
      exact ⟨congrArg some (am_bF _ (by first | omega | exact True.intro)).symm, rfl⟩
    · skip
      have c_211 := of_decide_eq_true ((am_bn _).mp c_211)
      refine am_iconst (v := nI 1) dX11_isGiven_214 (by decide) ?_
      refine am_goto (tgt := 219) dX11_isGiven_215 (by decide) ?_
      refine am_iret dX11_isGiven_219 rfl (am_nz (by first | decide | exact am_b01 _)).1 ?_
      exact ⟨congrArg some (am_bT _ (by first | omega | exact True.intro)).symm, rfl⟩
theorem c_isCall8 {G : am_G} (hn : G.2.2.2.2.Nodup) {d : Nat} (a : Int32) (b : Int32) (c : Int32) (e : Int32) (I : am_I) : am_C G (d + 1) mX10_isCall [.inl (nI 8), .inl a, .inl b, .inl c, .inl e] I (am_E (some (am_b (decide (0 ≤ a.toInt ∧ a.toInt < 128 ∧ 0 ≤ b.toInt ∧ b.toInt < 192)))) I) := by
  refine am_of (by decide +kernel) hn (Nat.le_of_ble_eq_true rfl) ?_
  refine am_iload_n dX10_isCall_0 rfl ?_
  refine am_tabIn (off := 220) (tgt := 221) dX10_isCall_1 (by decide) (by decide) rfl (by decide) ?_
  refine am_iload_n dX10_isCall_221 rfl ?_
  refine am_callSx (as := [.inl a]) (rest := []) dX10_isCall_222 lkX10_isInode ml_X10_317 isX10_isInode rfl (Nat.le_of_ble_eq_true rfl) rfl (c_isInode hn a I) ?_
  refine am_if_eq (tgt := 243) dX10_isCall_225 (by decide) (fun c_225 => ?_) (fun c_225 => ?_)
  · skip
    have c_225 := of_decide_eq_false ((am_bz _).mp c_225)
    refine am_iconst (v := nI 0) dX10_isCall_243 (by decide) ?_
    refine am_iret dX10_isCall_244 rfl (am_nz (by decide)).1 ?_
    exact ⟨congrArg some (am_bF _ (by first | omega | exact True.intro)).symm, rfl⟩
  · skip
    have c_225 := of_decide_eq_true ((am_bn _).mp c_225)
    refine am_iload_n dX10_isCall_228 rfl ?_
    refine am_if_lt (tgt := 243) dX10_isCall_229 (by decide) (fun c_229 => ?_) (fun c_229 => ?_)
    · skip
      have c_229 := Int32.lt_iff_toInt_lt.mp c_229
      rw [am_i0] at c_229
      refine am_iconst (v := nI 0) dX10_isCall_243 (by decide) ?_
      refine am_iret dX10_isCall_244 rfl (am_nz (by decide)).1 ?_
      exact ⟨congrArg some (am_bF _ (by first | omega | exact True.intro)).symm, rfl⟩
    · skip
      have c_229 := mt Int32.lt_iff_toInt_lt.mpr c_229
      rw [am_i0] at c_229
      refine am_iload_n dX10_isCall_232 rfl ?_
      refine am_sipush (v := nI 192) dX10_isCall_233 (by decide) ?_
      refine am_icmp_ge (tgt := 243) dX10_isCall_236 (by decide) (fun c_236 => ?_) (fun c_236 => ?_)
      · skip
        have c_236 := Int32.le_iff_toInt_le.mp c_236
        rw [nI_toInt (n := 192) (by omega)] at c_236
        refine am_iconst (v := nI 0) dX10_isCall_243 (by decide) ?_
        refine am_iret dX10_isCall_244 rfl (am_nz (by decide)).1 ?_
        exact ⟨congrArg some (am_bF _ (by first | omega | exact True.intro)).symm, rfl⟩
      · skip
        have c_236 := mt Int32.le_iff_toInt_le.mpr c_236
        rw [nI_toInt (n := 192) (by omega)] at c_236
        refine am_iconst (v := nI 1) dX10_isCall_239 (by decide) ?_
        refine am_goto (tgt := 244) dX10_isCall_240 (by decide) ?_
        refine am_iret dX10_isCall_244 rfl (am_nz (by decide)).1 ?_
        exact ⟨congrArg some (am_bT _ (by first | omega | exact True.intro)).symm, rfl⟩
theorem c_isGiven8 {G : am_G} (hn : G.2.2.2.2.Nodup) {d : Nat} (a : Int32) (b : Int32) (c : Int32) (e : Int32) (I : am_I) : am_C G (d + 2) mX11_isGiven [.inl (nI 8), .inl a, .inl b, .inl c, .inl e] I (am_E (some (am_b (decide (0 ≤ a.toInt ∧ a.toInt < 128 ∧ 0 ≤ b.toInt ∧ b.toInt < 192)))) I) := by
  refine am_of (by decide +kernel) hn (Nat.le_of_ble_eq_true rfl) ?_
  refine am_iload_n dX11_isGiven_0 rfl ?_
  refine am_tabIn (off := 219) (tgt := 220) dX11_isGiven_1 (by decide) (by decide) rfl (by decide) ?_
  refine am_iload_n dX11_isGiven_220 rfl ?_
  refine am_callSx (as := [.inl a]) (rest := []) dX11_isGiven_221 lkX11_isInode ml_X11_431 isX11_isInode rfl (Nat.le_of_ble_eq_true rfl) rfl (c_MisInode hn a I) ?_
  refine am_if_eq (tgt := 242) dX11_isGiven_224 (by decide) (fun c_224 => ?_) (fun c_224 => ?_)
  · skip
    have c_224 := of_decide_eq_false ((am_bz _).mp c_224)
    refine am_iconst (v := nI 0) dX11_isGiven_242 (by decide) ?_
    refine am_iret dX11_isGiven_243 rfl (am_nz (by first | decide | exact am_b01 _)).1 ?_
    exact ⟨congrArg some (am_bF _ (by first | omega | exact True.intro)).symm, rfl⟩
  · skip
    have c_224 := of_decide_eq_true ((am_bn _).mp c_224)
    refine am_iload_n dX11_isGiven_227 rfl ?_
    refine am_iconst (v := nI 0) dX11_isGiven_228 (by decide) ?_
    refine am_sipush (v := nI 191) dX11_isGiven_229 (by decide) ?_
    refine am_callSx (as := [.inl b, .inl (nI 0), .inl (nI 191)]) (rest := []) dX11_isGiven_232 lkX11_in ml_X11_243 isX11_in rfl (Nat.le_of_ble_eq_true rfl) rfl (c_Min hn b (nI 0) (nI 191) I) ?_
    refine am_top (show am_b (decide ((nI 0).toInt ≤ b.toInt ∧ b.toInt ≤ (nI 191).toInt)) = am_b (decide (0 ≤ b.toInt ∧ b.toInt ≤ 191)) from by rw [nI_toInt (n := 0) (by omega), nI_toInt (n := 191) (by omega)]; rfl) ?_
    refine am_if_eq (tgt := 242) dX11_isGiven_235 (by decide) (fun c_235 => ?_) (fun c_235 => ?_)
    · skip
      have c_235 := of_decide_eq_false ((am_bz _).mp c_235)
      refine am_iconst (v := nI 0) dX11_isGiven_242 (by decide) ?_
      refine am_iret dX11_isGiven_243 rfl (am_nz (by first | decide | exact am_b01 _)).1 ?_
      exact ⟨congrArg some (am_bF _ (by first | omega | exact True.intro)).symm, rfl⟩
    · skip
      have c_235 := of_decide_eq_true ((am_bn _).mp c_235)
      refine am_iconst (v := nI 1) dX11_isGiven_238 (by decide) ?_
      refine am_goto (tgt := 243) dX11_isGiven_239 (by decide) ?_
      refine am_iret dX11_isGiven_243 rfl (am_nz (by first | decide | exact am_b01 _)).1 ?_
      exact ⟨congrArg some (am_bT _ (by first | omega | exact True.intro)).symm, rfl⟩
theorem c_isCall9 {G : am_G} (hn : G.2.2.2.2.Nodup) {d : Nat} (a : Int32) (b : Int32) (c : Int32) (e : Int32) (I : am_I) : am_C G (d + 1) mX10_isCall [.inl (nI 9), .inl a, .inl b, .inl c, .inl e] I (am_E (some (am_b (decide (0 ≤ a.toInt ∧ a.toInt < 128 ∧ 0 ≤ b.toInt ∧ b.toInt ≤ 3)))) I) := by
  refine am_of (by decide +kernel) hn (Nat.le_of_ble_eq_true rfl) ?_
  refine am_iload_n dX10_isCall_0 rfl ?_
  refine am_tabIn (off := 244) (tgt := 245) dX10_isCall_1 (by decide) (by decide) rfl (by decide) ?_
  refine am_iload_n dX10_isCall_245 rfl ?_
  refine am_callSx (as := [.inl a]) (rest := []) dX10_isCall_246 lkX10_isInode ml_X10_317 isX10_isInode rfl (Nat.le_of_ble_eq_true rfl) rfl (c_isInode hn a I) ?_
  refine am_if_eq (tgt := 265) dX10_isCall_249 (by decide) (fun c_249 => ?_) (fun c_249 => ?_)
  · skip
    have c_249 := of_decide_eq_false ((am_bz _).mp c_249)
    refine am_iconst (v := nI 0) dX10_isCall_265 (by decide) ?_
    refine am_iret dX10_isCall_266 rfl (am_nz (by decide)).1 ?_
    exact ⟨congrArg some (am_bF _ (by first | omega | exact True.intro)).symm, rfl⟩
  · skip
    have c_249 := of_decide_eq_true ((am_bn _).mp c_249)
    refine am_iload_n dX10_isCall_252 rfl ?_
    refine am_if_lt (tgt := 265) dX10_isCall_253 (by decide) (fun c_253 => ?_) (fun c_253 => ?_)
    · skip
      have c_253 := Int32.lt_iff_toInt_lt.mp c_253
      rw [am_i0] at c_253
      refine am_iconst (v := nI 0) dX10_isCall_265 (by decide) ?_
      refine am_iret dX10_isCall_266 rfl (am_nz (by decide)).1 ?_
      exact ⟨congrArg some (am_bF _ (by first | omega | exact True.intro)).symm, rfl⟩
    · skip
      have c_253 := mt Int32.lt_iff_toInt_lt.mpr c_253
      rw [am_i0] at c_253
      refine am_iload_n dX10_isCall_256 rfl ?_
      refine am_iconst (v := nI 3) dX10_isCall_257 (by decide) ?_
      refine am_icmp_gt (tgt := 265) dX10_isCall_258 (by decide) (fun c_258 => ?_) (fun c_258 => ?_)
      · skip
        have c_258 := Int32.lt_iff_toInt_lt.mp c_258
        rw [nI_toInt (n := 3) (by omega)] at c_258
        refine am_iconst (v := nI 0) dX10_isCall_265 (by decide) ?_
        refine am_iret dX10_isCall_266 rfl (am_nz (by decide)).1 ?_
        exact ⟨congrArg some (am_bF _ (by first | omega | exact True.intro)).symm, rfl⟩
      · skip
        have c_258 := mt Int32.lt_iff_toInt_lt.mpr c_258
        rw [nI_toInt (n := 3) (by omega)] at c_258
        refine am_iconst (v := nI 1) dX10_isCall_261 (by decide) ?_
        refine am_goto (tgt := 266) dX10_isCall_262 (by decide) ?_
        refine am_iret dX10_isCall_266 rfl (am_nz (by decide)).1 ?_
        exact ⟨congrArg some (am_bT _ (by first | omega | exact True.intro)).symm, rfl⟩
theorem c_isGiven9 {G : am_G} (hn : G.2.2.2.2.Nodup) {d : Nat} (a : Int32) (b : Int32) (c : Int32) (e : Int32) (I : am_I) : am_C G (d + 2) mX11_isGiven [.inl (nI 9), .inl a, .inl b, .inl c, .inl e] I (am_E (some (am_b (decide (0 ≤ a.toInt ∧ a.toInt < 128 ∧ 0 ≤ b.toInt ∧ b.toInt ≤ 3)))) I) := by
  refine am_of (by decide +kernel) hn (Nat.le_of_ble_eq_true rfl) ?_
  refine am_iload_n dX11_isGiven_0 rfl ?_
  refine am_tabIn (off := 243) (tgt := 244) dX11_isGiven_1 (by decide) (by decide) rfl (by decide) ?_
  refine am_iload_n dX11_isGiven_244 rfl ?_
  refine am_callSx (as := [.inl a]) (rest := []) dX11_isGiven_245 lkX11_isInode ml_X11_431 isX11_isInode rfl (Nat.le_of_ble_eq_true rfl) rfl (c_MisInode hn a I) ?_
  refine am_if_eq (tgt := 264) dX11_isGiven_248 (by decide) (fun c_248 => ?_) (fun c_248 => ?_)
  · skip
    have c_248 := of_decide_eq_false ((am_bz _).mp c_248)
    refine am_iconst (v := nI 0) dX11_isGiven_264 (by decide) ?_
    refine am_iret dX11_isGiven_265 rfl (am_nz (by first | decide | exact am_b01 _)).1 ?_
    exact ⟨congrArg some (am_bF _ (by first | omega | exact True.intro)).symm, rfl⟩
  · skip
    have c_248 := of_decide_eq_true ((am_bn _).mp c_248)
    refine am_iload_n dX11_isGiven_251 rfl ?_
    refine am_iconst (v := nI 0) dX11_isGiven_252 (by decide) ?_
    refine am_iconst (v := nI 3) dX11_isGiven_253 (by decide) ?_
    refine am_callSx (as := [.inl b, .inl (nI 0), .inl (nI 3)]) (rest := []) dX11_isGiven_254 lkX11_in ml_X11_243 isX11_in rfl (Nat.le_of_ble_eq_true rfl) rfl (c_Min hn b (nI 0) (nI 3) I) ?_
    refine am_top (show am_b (decide ((nI 0).toInt ≤ b.toInt ∧ b.toInt ≤ (nI 3).toInt)) = am_b (decide (0 ≤ b.toInt ∧ b.toInt ≤ 3)) from by rw [nI_toInt (n := 0) (by omega), nI_toInt (n := 3) (by omega)]; rfl) ?_
    refine am_if_eq (tgt := 264) dX11_isGiven_257 (by decide) (fun c_257 => ?_) (fun c_257 => ?_)
    · skip
      have c_257 := of_decide_eq_false ((am_bz _).mp c_257)
      refine am_iconst (v := nI 0) dX11_isGiven_264 (by decide) ?_
      refine am_iret dX11_isGiven_265 rfl (am_nz (by first | decide | exact am_b01 _)).1 ?_
      exact ⟨congrArg some (am_bF _ (by first | omega | exact True.intro)).symm, rfl⟩
    · skip
      have c_257 := of_decide_eq_true ((am_bn _).mp c_257)
      refine am_iconst (v := nI 1) dX11_isGiven_260 (by decide) ?_
      refine am_goto (tgt := 265) dX11_isGiven_261 (by decide) ?_
      refine am_iret dX11_isGiven_265 rfl (am_nz (by first | decide | exact am_b01 _)).1 ?_
      exact ⟨congrArg some (am_bT _ (by first | omega | exact True.intro)).symm, rfl⟩
theorem c_isCall10 {G : am_G} (hn : G.2.2.2.2.Nodup) {d : Nat} (a : Int32) (b : Int32) (c : Int32) (e : Int32) (I : am_I) : am_C G (d + 1) mX10_isCall [.inl (nI 10), .inl a, .inl b, .inl c, .inl e] I (am_E (some (am_b (decide (True)))) I) := by
  refine am_of (by decide +kernel) hn (Nat.le_of_ble_eq_true rfl) ?_
  refine am_iload_n dX10_isCall_0 rfl ?_
  refine am_tabIn (off := 271) (tgt := 272) dX10_isCall_1 (by decide) (by decide) rfl (by decide) ?_
  refine am_iconst (v := nI 1) dX10_isCall_272 (by decide) ?_
  refine am_iret dX10_isCall_273 rfl (am_nz (by decide)).1 ?_
  exact ⟨congrArg some (am_bT _ (by first | omega | exact True.intro)).symm, rfl⟩
theorem c_isGiven10 {G : am_G} (hn : G.2.2.2.2.Nodup) {d : Nat} (a : Int32) (b : Int32) (c : Int32) (e : Int32) (I : am_I) : am_C G (d + 2) mX11_isGiven [.inl (nI 10), .inl a, .inl b, .inl c, .inl e] I (am_E (some (am_b (decide (True)))) I) := by
  refine am_of (by decide +kernel) hn (Nat.le_of_ble_eq_true rfl) ?_
  refine am_iload_n dX11_isGiven_0 rfl ?_
  refine am_tabIn (off := 270) (tgt := 271) dX11_isGiven_1 (by decide) (by decide) rfl (by decide) ?_
  refine am_iconst (v := nI 1) dX11_isGiven_271 (by decide) ?_
  refine am_iret dX11_isGiven_272 rfl (am_nz (by first | decide | exact am_b01 _)).1 ?_
  exact ⟨congrArg some (am_bT _ (by first | omega | exact True.intro)).symm, rfl⟩
theorem c_isCall11 {G : am_G} (hn : G.2.2.2.2.Nodup) {d : Nat} (a : Int32) (b : Int32) (c : Int32) (e : Int32) (I : am_I) : am_C G (d + 1) mX10_isCall [.inl (nI 11), .inl a, .inl b, .inl c, .inl e] I (am_E (some (am_b (decide (0 ≤ a.toInt ∧ a.toInt < 128 ∧ 0 ≤ b.toInt ∧ b.toInt < 384)))) I) := by
  refine am_of (by decide +kernel) hn (Nat.le_of_ble_eq_true rfl) ?_
  refine am_iload_n dX10_isCall_0 rfl ?_
  refine am_tabIn (off := 172) (tgt := 173) dX10_isCall_1 (by decide) (by decide) rfl (by decide) ?_
  refine am_iload_n dX10_isCall_173 rfl ?_
  refine am_callSx (as := [.inl a]) (rest := []) dX10_isCall_174 lkX10_isInode ml_X10_317 isX10_isInode rfl (Nat.le_of_ble_eq_true rfl) rfl (c_isInode hn a I) ?_
  refine am_if_eq (tgt := 195) dX10_isCall_177 (by decide) (fun c_177 => ?_) (fun c_177 => ?_)
  · skip
    have c_177 := of_decide_eq_false ((am_bz _).mp c_177)
    refine am_iconst (v := nI 0) dX10_isCall_195 (by decide) ?_
    refine am_iret dX10_isCall_196 rfl (am_nz (by decide)).1 ?_
    exact ⟨congrArg some (am_bF _ (by first | omega | exact True.intro)).symm, rfl⟩
  · skip
    have c_177 := of_decide_eq_true ((am_bn _).mp c_177)
    refine am_iload_n dX10_isCall_180 rfl ?_
    refine am_if_lt (tgt := 195) dX10_isCall_181 (by decide) (fun c_181 => ?_) (fun c_181 => ?_)
    · skip
      have c_181 := Int32.lt_iff_toInt_lt.mp c_181
      rw [am_i0] at c_181
      refine am_iconst (v := nI 0) dX10_isCall_195 (by decide) ?_
      refine am_iret dX10_isCall_196 rfl (am_nz (by decide)).1 ?_
      exact ⟨congrArg some (am_bF _ (by first | omega | exact True.intro)).symm, rfl⟩
    · skip
      have c_181 := mt Int32.lt_iff_toInt_lt.mpr c_181
      rw [am_i0] at c_181
      refine am_iload_n dX10_isCall_184 rfl ?_
      refine am_sipush (v := nI 384) dX10_isCall_185 (by decide) ?_
      refine am_icmp_ge (tgt := 195) dX10_isCall_188 (by decide) (fun c_188 => ?_) (fun c_188 => ?_)
      · skip
        have c_188 := Int32.le_iff_toInt_le.mp c_188
        rw [nI_toInt (n := 384) (by omega)] at c_188
        refine am_iconst (v := nI 0) dX10_isCall_195 (by decide) ?_
        refine am_iret dX10_isCall_196 rfl (am_nz (by decide)).1 ?_
        exact ⟨congrArg some (am_bF _ (by first | omega | exact True.intro)).symm, rfl⟩
      · skip
        have c_188 := mt Int32.le_iff_toInt_le.mpr c_188
        rw [nI_toInt (n := 384) (by omega)] at c_188
        refine am_iconst (v := nI 1) dX10_isCall_191 (by decide) ?_
        refine am_goto (tgt := 196) dX10_isCall_192 (by decide) ?_
        refine am_iret dX10_isCall_196 rfl (am_nz (by decide)).1 ?_
        exact ⟨congrArg some (am_bT _ (by first | omega | exact True.intro)).symm, rfl⟩
theorem c_isGiven11 {G : am_G} (hn : G.2.2.2.2.Nodup) {d : Nat} (a : Int32) (b : Int32) (c : Int32) (e : Int32) (I : am_I) : am_C G (d + 2) mX11_isGiven [.inl (nI 11), .inl a, .inl b, .inl c, .inl e] I (am_E (some (am_b (decide (0 ≤ a.toInt ∧ a.toInt < 128 ∧ 0 ≤ b.toInt ∧ b.toInt < 384)))) I) := by
  refine am_of (by decide +kernel) hn (Nat.le_of_ble_eq_true rfl) ?_
  refine am_iload_n dX11_isGiven_0 rfl ?_
  refine am_tabIn (off := 171) (tgt := 172) dX11_isGiven_1 (by decide) (by decide) rfl (by decide) ?_
  refine am_iload_n dX11_isGiven_172 rfl ?_
  refine am_callSx (as := [.inl a]) (rest := []) dX11_isGiven_173 lkX11_isInode ml_X11_431 isX11_isInode rfl (Nat.le_of_ble_eq_true rfl) rfl (c_MisInode hn a I) ?_
  refine am_if_eq (tgt := 194) dX11_isGiven_176 (by decide) (fun c_176 => ?_) (fun c_176 => ?_)
  · skip
    have c_176 := of_decide_eq_false ((am_bz _).mp c_176)
    refine am_iconst (v := nI 0) dX11_isGiven_194 (by decide) ?_
    refine am_iret dX11_isGiven_195 rfl (am_nz (by first | decide | exact am_b01 _)).1 ?_
    exact ⟨congrArg some (am_bF _ (by first | omega | exact True.intro)).symm, rfl⟩
  · skip
    have c_176 := of_decide_eq_true ((am_bn _).mp c_176)
    refine am_iload_n dX11_isGiven_179 rfl ?_
    refine am_iconst (v := nI 0) dX11_isGiven_180 (by decide) ?_
    refine am_sipush (v := nI 383) dX11_isGiven_181 (by decide) ?_
    refine am_callSx (as := [.inl b, .inl (nI 0), .inl (nI 383)]) (rest := []) dX11_isGiven_184 lkX11_in ml_X11_243 isX11_in rfl (Nat.le_of_ble_eq_true rfl) rfl (c_Min hn b (nI 0) (nI 383) I) ?_
    refine am_top (show am_b (decide ((nI 0).toInt ≤ b.toInt ∧ b.toInt ≤ (nI 383).toInt)) = am_b (decide (0 ≤ b.toInt ∧ b.toInt ≤ 383)) from by rw [nI_toInt (n := 0) (by omega), nI_toInt (n := 383) (by omega)]; rfl) ?_
    refine am_if_eq (tgt := 194) dX11_isGiven_187 (by decide) (fun c_187 => ?_) (fun c_187 => ?_)
    · skip
      have c_187 := of_decide_eq_false ((am_bz _).mp c_187)
      refine am_iconst (v := nI 0) dX11_isGiven_194 (by decide) ?_
      refine am_iret dX11_isGiven_195 rfl (am_nz (by first | decide | exact am_b01 _)).1 ?_
      exact ⟨congrArg some (am_bF _ (by first | omega | exact True.intro)).symm, rfl⟩
    · skip
      have c_187 := of_decide_eq_true ((am_bn _).mp c_187)
      refine am_iconst (v := nI 1) dX11_isGiven_190 (by decide) ?_
      refine am_goto (tgt := 195) dX11_isGiven_191 (by decide) ?_
      refine am_iret dX11_isGiven_195 rfl (am_nz (by first | decide | exact am_b01 _)).1 ?_
      exact ⟨congrArg some (am_bT _ (by first | omega | exact True.intro)).symm, rfl⟩
theorem c_isCall12 {G : am_G} (hn : G.2.2.2.2.Nodup) {d : Nat} (a : Int32) (b : Int32) (c : Int32) (e : Int32) (I : am_I) : am_C G (d + 1) mX10_isCall [.inl (nI 12), .inl a, .inl b, .inl c, .inl e] I (am_E (some (am_b (decide (0 ≤ a.toInt ∧ a.toInt < 128)))) I) := by
  refine am_of (by decide +kernel) hn (Nat.le_of_ble_eq_true rfl) ?_
  refine am_iload_n dX10_isCall_0 rfl ?_
  refine am_tabIn (off := 266) (tgt := 267) dX10_isCall_1 (by decide) (by decide) rfl (by decide) ?_
  refine am_iload_n dX10_isCall_267 rfl ?_
  refine am_callSx (as := [.inl a]) (rest := []) dX10_isCall_268 lkX10_isInode ml_X10_317 isX10_isInode rfl (Nat.le_of_ble_eq_true rfl) rfl (c_isInode hn a I) ?_
  refine am_iret dX10_isCall_271 rfl (am_nz (am_b01 _)).1 ?_
  exact ⟨congrArg (fun b => some (am_b b)) (decide_eq_decide.mpr (by omega)), rfl⟩
theorem c_isGiven12 {G : am_G} (hn : G.2.2.2.2.Nodup) {d : Nat} (a : Int32) (b : Int32) (c : Int32) (e : Int32) (I : am_I) : am_C G (d + 2) mX11_isGiven [.inl (nI 12), .inl a, .inl b, .inl c, .inl e] I (am_E (some (am_b (decide (0 ≤ a.toInt ∧ a.toInt < 128)))) I) := by
  refine am_of (by decide +kernel) hn (Nat.le_of_ble_eq_true rfl) ?_
  refine am_iload_n dX11_isGiven_0 rfl ?_
  refine am_tabIn (off := 265) (tgt := 266) dX11_isGiven_1 (by decide) (by decide) rfl (by decide) ?_
  refine am_iload_n dX11_isGiven_266 rfl ?_
  refine am_callSx (as := [.inl a]) (rest := []) dX11_isGiven_267 lkX11_isInode ml_X11_431 isX11_isInode rfl (Nat.le_of_ble_eq_true rfl) rfl (c_MisInode hn a I) ?_
  refine am_iret dX11_isGiven_270 rfl (am_nz (am_b01 _)).1 ?_
  exact ⟨congrArg (fun b => some (am_b b)) (decide_eq_decide.mpr (by omega)), rfl⟩
theorem c_isCall13 {G : am_G} (hn : G.2.2.2.2.Nodup) {d : Nat} (a : Int32) (b : Int32) (c : Int32) (e : Int32) (I : am_I) : am_C G (d + 1) mX10_isCall [.inl (nI 13), .inl a, .inl b, .inl c, .inl e] I (am_E (some (am_b (decide (0 ≤ a.toInt ∧ a.toInt < 128)))) I) := by
  refine am_of (by decide +kernel) hn (Nat.le_of_ble_eq_true rfl) ?_
  refine am_iload_n dX10_isCall_0 rfl ?_
  refine am_tabIn (off := 266) (tgt := 267) dX10_isCall_1 (by decide) (by decide) rfl (by decide) ?_
  refine am_iload_n dX10_isCall_267 rfl ?_
  refine am_callSx (as := [.inl a]) (rest := []) dX10_isCall_268 lkX10_isInode ml_X10_317 isX10_isInode rfl (Nat.le_of_ble_eq_true rfl) rfl (c_isInode hn a I) ?_
  refine am_iret dX10_isCall_271 rfl (am_nz (am_b01 _)).1 ?_
  exact ⟨congrArg (fun b => some (am_b b)) (decide_eq_decide.mpr (by omega)), rfl⟩
theorem c_isGiven13 {G : am_G} (hn : G.2.2.2.2.Nodup) {d : Nat} (a : Int32) (b : Int32) (c : Int32) (e : Int32) (I : am_I) : am_C G (d + 2) mX11_isGiven [.inl (nI 13), .inl a, .inl b, .inl c, .inl e] I (am_E (some (am_b (decide (0 ≤ a.toInt ∧ a.toInt < 128)))) I) := by
  refine am_of (by decide +kernel) hn (Nat.le_of_ble_eq_true rfl) ?_
  refine am_iload_n dX11_isGiven_0 rfl ?_
  refine am_tabIn (off := 265) (tgt := 266) dX11_isGiven_1 (by decide) (by decide) rfl (by decide) ?_
  refine am_iload_n dX11_isGiven_266 rfl ?_
  refine am_callSx (as := [.inl a]) (rest := []) dX11_isGiven_267 lkX11_isInode ml_X11_431 isX11_isInode rfl (Nat.le_of_ble_eq_true rfl) rfl (c_MisInode hn a I) ?_
  refine am_iret dX11_isGiven_270 rfl (am_nz (am_b01 _)).1 ?_
  exact ⟨congrArg (fun b => some (am_b b)) (decide_eq_decide.mpr (by omega)), rfl⟩
theorem c_isCall14 {G : am_G} (hn : G.2.2.2.2.Nodup) {d : Nat} (a : Int32) (b : Int32) (c : Int32) (e : Int32) (I : am_I) : am_C G (d + 1) mX10_isCall [.inl (nI 14), .inl a, .inl b, .inl c, .inl e] I (am_E (some (am_b (decide (True)))) I) := by
  refine am_of (by decide +kernel) hn (Nat.le_of_ble_eq_true rfl) ?_
  refine am_iload_n dX10_isCall_0 rfl ?_
  refine am_tabIn (off := 271) (tgt := 272) dX10_isCall_1 (by decide) (by decide) rfl (by decide) ?_
  refine am_iconst (v := nI 1) dX10_isCall_272 (by decide) ?_
  refine am_iret dX10_isCall_273 rfl (am_nz (by decide)).1 ?_
  exact ⟨congrArg some (am_bT _ (by first | omega | exact True.intro)).symm, rfl⟩
theorem c_isGiven14 {G : am_G} (hn : G.2.2.2.2.Nodup) {d : Nat} (a : Int32) (b : Int32) (c : Int32) (e : Int32) (I : am_I) : am_C G (d + 2) mX11_isGiven [.inl (nI 14), .inl a, .inl b, .inl c, .inl e] I (am_E (some (am_b (decide (True)))) I) := by
  refine am_of (by decide +kernel) hn (Nat.le_of_ble_eq_true rfl) ?_
  refine am_iload_n dX11_isGiven_0 rfl ?_
  refine am_tabIn (off := 270) (tgt := 271) dX11_isGiven_1 (by decide) (by decide) rfl (by decide) ?_
  refine am_iconst (v := nI 1) dX11_isGiven_271 (by decide) ?_
  refine am_iret dX11_isGiven_272 rfl (am_nz (by first | decide | exact am_b01 _)).1 ?_
  exact ⟨congrArg some (am_bT _ (by first | omega | exact True.intro)).symm, rfl⟩
theorem c_isCallX {G : am_G} (hn : G.2.2.2.2.Nodup) {d : Nat} (k a b c e : Int32) (hk : k.toInt < 0 ∨ 14 < k.toInt) (I : am_I) : am_C G (d + 1) mX10_isCall [.inl k, .inl a, .inl b, .inl c, .inl e] I (am_E (some (nI 0)) I) := by
  refine am_of (by decide +kernel) hn (Nat.le_of_ble_eq_true rfl) ?_
  refine am_iload_n dX10_isCall_0 rfl ?_
  refine am_tabOut (tgt := 274) dX10_isCall_1 hk (by decide) ?_
  refine am_iconst (v := nI 0) dX10_isCall_274 (by decide) ?_
  refine am_iret dX10_isCall_275 rfl (am_nz (by decide)).1 ?_
  exact ⟨congrArg some rfl, rfl⟩
theorem c_isGivenX {G : am_G} (hn : G.2.2.2.2.Nodup) {d : Nat} (k a b c e : Int32) (hk : k.toInt < 0 ∨ 14 < k.toInt) (I : am_I) : am_C G (d + 2) mX11_isGiven [.inl k, .inl a, .inl b, .inl c, .inl e] I (am_E (some (nI 0)) I) := by
  refine am_of (by decide +kernel) hn (Nat.le_of_ble_eq_true rfl) ?_
  refine am_iload_n dX11_isGiven_0 rfl ?_
  refine am_tabOut (tgt := 273) dX11_isGiven_1 hk (by decide) ?_
  refine am_iconst (v := nI 0) dX11_isGiven_273 (by decide) ?_
  refine am_iret dX11_isGiven_274 rfl (am_nz (by decide)).1 ?_
  exact ⟨congrArg some rfl, rfl⟩
