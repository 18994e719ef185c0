theorem j_call0 {G : am_G} (hG : am_ok G) {d : Nat} {TH : Nat → List (Option am_V) → List am_V → am_I → Prop} {Q : Option Int32 → am_I → Prop} {I : am_I} {i : Nat} (hi : i < G.2.2.2.1) {a : Nat} (hab : a < 128) (b c e : Int32) (hI : I = am_fr G.2.2.2.1) (hP : 0 ≤ (nI a).toInt ∧ (nI a).toInt < 128 ∧ ¬ b.toInt = 0) (hQ : ∀ J, Q (some (nI 0)) J) : am_J G (d + 5) mX10_call TH Q 0 [some (.inr (0, 0)), some (.inl (nI i)), some (.inl (nI 0)), some (.inl (nI a)), some (.inl b), some (.inl c), some (.inl e), none] [] I := by
  have hn4 := hG.hi
  have hn2 := hG.lo
  refine am_aload_n dX10_call_0 rfl ?_
  refine am_iload_n dX10_call_1 rfl ?_
  refine am_callVx (i := 0) (j := 0) (as := [.inl (nI i)]) (rest := []) dX10_call_2 lkX10_isNode ml_X10_65 imX10_isNode seX10_isNode rfl rfl (hG.m0 (by decide)) rfl (Nat.le_of_ble_eq_true rfl) rfl (c_isNodeY hG hi I) ?_
  refine am_if_eq (tgt := 22) dX10_call_5 (by decide) (fun h => absurd h (by decide)) (fun _ => ?_)
  refine am_iload_n dX10_call_8 rfl ?_
  refine am_iload_n dX10_call_9 rfl ?_
  refine am_iload dX10_call_10 rfl ?_
  refine am_iload dX10_call_12 rfl ?_
  refine am_iload dX10_call_14 rfl ?_
  refine am_callSx (as := [.inl (nI 0), .inl (nI a), .inl b, .inl c, .inl e]) (rest := []) dX10_call_16 lkX10_isCall ml_X10_69 isX10_isCall rfl (Nat.le_of_ble_eq_true rfl) rfl (c_isCall0 hG.nd (nI a) b c e I) ?_
  refine am_if_ne (tgt := 32) dX10_call_19 (by decide) (fun _ => ?_) (fun h => absurd h (fun z => ((am_bn _).mpr (decide_eq_true hP)) z))
  refine am_aload_n dX10_call_32 rfl ?_
  refine am_get (v := .inr (0, 2)) dX10_call_33 fl_10_19 (hG.m0 (by decide)) rfl ?_
  refine am_iload_n dX10_call_36 rfl ?_
  refine am_aald (a := i) dX10_call_37 (hG.m0 (by decide)) rfl rfl (by omega) hG.n31 ?_
  refine am_astore dX10_call_38 (by decide) ?_
  refine am_aload dX10_call_40 rfl ?_
  refine am_get (v := .inl (I i 40 5)) dX10_call_42 fl_10_80 (hG.mn hi (by decide) (by decide)) rfl ?_
  refine am_top (show I i 40 5 = nI 1 from (by simp [am_up, am_upf, upd, hI, am_fr, am_dk])) ?_
  refine am_if_eq (tgt := 60) dX10_call_45 (by decide) (fun h => absurd h (by decide)) (fun _ => ?_)
  refine am_aload dX10_call_48 rfl ?_
  refine am_get (v := .inr (i, 55)) dX10_call_50 fl_10_84 (hG.mn hi (by decide) (by decide)) rfl ?_
  refine am_get (v := .inl (I i 55 5)) dX10_call_53 fl_10_88 (hG.mn hi (by decide) (by decide)) rfl ?_
  refine am_top (show I i 55 5 = nI 0 from (by simp [am_up, am_upf, upd, hI, am_fr, am_dk])) ?_
  refine am_iconst (v := nI 1) dX10_call_56 (by decide) ?_
  refine am_icmp_ne (tgt := 70) dX10_call_57 (by decide) (fun _ => ?_) (fun h => absurd h (by decide))
  refine am_aload dX10_call_70 rfl ?_
  refine am_get (v := .inr (i, 55)) dX10_call_72 fl_10_84 (hG.mn hi (by decide) (by decide)) rfl ?_
  refine am_iload_n dX10_call_75 rfl ?_
  refine am_aload_n dX10_call_76 rfl ?_
  refine am_get (v := .inl (I 0 0 7)) dX10_call_77 fl_10_99 (hG.m0 (by decide)) rfl ?_
  refine am_top (show I 0 0 7 = nI 0 from (by simp [am_up, am_upf, upd, hI, am_fr, am_dk])) ?_
  refine am_callVe (i := i) (j := 55) (as := [.inl (nI 0), .inl (nI 0)]) (rest := []) dX10_call_80 lkX8_begin ml_X10_102 imX8_begin seX8_begin rfl rfl (hG.mn hi (by decide) (by decide)) rfl (Nat.le_of_ble_eq_true rfl) rfl (c_Tbegin hG hi (nI 0) (nI 0) I) ?_
  refine am_nm (fun I1 hI1 => ?_)
  refine am_aload dX10_call_83 rfl ?_
  refine am_get (v := .inr (i, 55)) dX10_call_85 fl_10_84 (hG.mn hi (by decide) (by decide)) rfl ?_
  refine am_iload_n dX10_call_88 rfl ?_
  refine am_iload dX10_call_89 rfl ?_
  refine am_iload dX10_call_91 rfl ?_
  refine am_iload dX10_call_93 rfl ?_
  refine am_callVe (i := i) (j := 55) (as := [.inl (nI a), .inl b, .inl c, .inl e]) (rest := []) dX10_call_95 lkX8_take ml_X10_106 imX8_take seX8_take rfl rfl (hG.mn hi (by decide) (by decide)) rfl (Nat.le_of_ble_eq_true rfl) rfl (c_Ttake hG hi (nI a) b c e I1) ?_
  refine am_nm (fun I2 hI2 => ?_)
  refine am_aload_n dX10_call_98 rfl ?_
  refine am_aload dX10_call_99 rfl ?_
  refine am_callVv (i := 0) (j := 0) (as := [.inr (i, 40)]) (rest := []) dX10_call_101 lkX10_goOn ml_X10_110 imX10_goOn seX10_goOn rfl rfl (hG.m0 (by decide)) rfl (Nat.le_of_ble_eq_true rfl) rfl (c_goOn0 (a := a) hG hi (by omega) I2 (fun x hx => by simp [am_up, am_upf, upd, hI, am_fr, hI1, hI2]) (fun x hx => by simp [am_up, am_upf, upd, hI, am_fr, hI1, hI2]) (by simp [am_up, am_upf, upd, hI, am_fr, am_dk, hI1, hI2]) (by simp [am_up, am_upf, upd, hI, am_fr, am_dk, hI1, hI2]) (by simp [am_up, am_upf, upd, hI, am_fr, am_dk, hI1, hI2]) (by simp [am_up, am_upf, upd, hI, am_fr, am_dk, hI1, hI2]) (by simp [am_up, am_upf, upd, hI, am_fr, am_dk, hI1, hI2]) (by simp [am_up, am_upf, upd, hI, am_fr, am_dk, hI1, hI2]) (by simp [am_up, am_upf, upd, hI, am_fr, am_dk, hI1, hI2]) (by simp [am_up, am_upf, upd, hI, am_fr, am_dk, hI1, hI2]) (by simp [am_up, am_upf, upd, hI, am_fr, am_dk, hI1, hI2]) (by simp [am_up, am_upf, upd, hI, am_fr, am_dk, hI1, hI2]) (by simp [am_up, am_upf, upd, hI, am_fr, am_dk, hI1, hI2]) (by simp [am_up, am_upf, upd, hI, am_fr, am_dk, hI1, hI2]) (by simp [am_up, am_upf, upd, hI, am_fr, am_dk, hI1, hI2]) (by simp [am_up, am_upf, upd, hI, am_fr, am_dk, hI1, hI2]) (by simp [am_up, am_upf, upd, hI, am_fr, am_dk, hI1, hI2]) (by simp [am_up, am_upf, upd, hI, am_fr, am_dk, hI1, hI2]) (by simp [am_up, am_upf, upd, hI, am_fr, am_dk, hI1, hI2])) rfl (fun I9 hq => ?_)
  have hst2 := hq.2
  refine am_nm (fun I3 hI3 => ?_)
  refine am_aload dX10_call_104 rfl ?_
  refine am_get (v := .inr (i, 55)) dX10_call_106 fl_10_84 (hG.mn hi (by decide) (by decide)) rfl ?_
  refine am_get (v := .inl (I3 i 55 5)) dX10_call_109 fl_10_88 (hG.mn hi (by decide) (by decide)) rfl ?_
  refine am_top (show I3 i 55 5 = nI 1 from (by simp [am_up, am_upf, upd, hI, am_fr, am_dk, hI1, hI2, hst2, hI3])) ?_
  refine am_iconst (v := nI 1) dX10_call_112 (by decide) ?_
  refine am_icmp_ne (tgt := 120) dX10_call_113 (by decide) (fun h => absurd h (by decide)) (fun _ => ?_)
  refine am_iconst (v := nI 0) dX10_call_116 (by decide) ?_
  refine am_goto (tgt := 121) dX10_call_117 (by decide) ?_
  refine am_iret dX10_call_121 rfl rfl ?_
  exact hQ _
theorem j_call1 {G : am_G} (hG : am_ok G) {d : Nat} {TH : Nat → List (Option am_V) → List am_V → am_I → Prop} {Q : Option Int32 → am_I → Prop} {I : am_I} {i : Nat} (hi : i < G.2.2.2.1) {a : Nat} (hab : a < 128) (b c e : Int32) (hI : I = am_fr G.2.2.2.1) (hP : 0 ≤ (nI a).toInt ∧ (nI a).toInt < 128 ∧ ¬ b.toInt = 0 ∧ 1 ≤ c.toInt ∧ c.toInt ≤ 2) (hQ : ∀ J, Q (some (nI 0)) J) : am_J G (d + 5) mX10_call TH Q 0 [some (.inr (0, 0)), some (.inl (nI i)), some (.inl (nI 1)), some (.inl (nI a)), some (.inl b), some (.inl c), some (.inl e), none] [] I := by
  have hn4 := hG.hi
  have hn2 := hG.lo
  refine am_aload_n dX10_call_0 rfl ?_
  refine am_iload_n dX10_call_1 rfl ?_
  refine am_callVx (i := 0) (j := 0) (as := [.inl (nI i)]) (rest := []) dX10_call_2 lkX10_isNode ml_X10_65 imX10_isNode seX10_isNode rfl rfl (hG.m0 (by decide)) rfl (Nat.le_of_ble_eq_true rfl) rfl (c_isNodeY hG hi I) ?_
  refine am_if_eq (tgt := 22) dX10_call_5 (by decide) (fun h => absurd h (by decide)) (fun _ => ?_)
  refine am_iload_n dX10_call_8 rfl ?_
  refine am_iload_n dX10_call_9 rfl ?_
  refine am_iload dX10_call_10 rfl ?_
  refine am_iload dX10_call_12 rfl ?_
  refine am_iload dX10_call_14 rfl ?_
  refine am_callSx (as := [.inl (nI 1), .inl (nI a), .inl b, .inl c, .inl e]) (rest := []) dX10_call_16 lkX10_isCall ml_X10_69 isX10_isCall rfl (Nat.le_of_ble_eq_true rfl) rfl (c_isCall1 hG.nd (nI a) b c e I) ?_
  refine am_if_ne (tgt := 32) dX10_call_19 (by decide) (fun _ => ?_) (fun h => absurd h (fun z => ((am_bn _).mpr (decide_eq_true hP)) z))
  refine am_aload_n dX10_call_32 rfl ?_
  refine am_get (v := .inr (0, 2)) dX10_call_33 fl_10_19 (hG.m0 (by decide)) rfl ?_
  refine am_iload_n dX10_call_36 rfl ?_
  refine am_aald (a := i) dX10_call_37 (hG.m0 (by decide)) rfl rfl (by omega) hG.n31 ?_
  refine am_astore dX10_call_38 (by decide) ?_
  refine am_aload dX10_call_40 rfl ?_
  refine am_get (v := .inl (I i 40 5)) dX10_call_42 fl_10_80 (hG.mn hi (by decide) (by decide)) rfl ?_
  refine am_top (show I i 40 5 = nI 1 from (by simp [am_up, am_upf, upd, hI, am_fr, am_dk])) ?_
  refine am_if_eq (tgt := 60) dX10_call_45 (by decide) (fun h => absurd h (by decide)) (fun _ => ?_)
  refine am_aload dX10_call_48 rfl ?_
  refine am_get (v := .inr (i, 55)) dX10_call_50 fl_10_84 (hG.mn hi (by decide) (by decide)) rfl ?_
  refine am_get (v := .inl (I i 55 5)) dX10_call_53 fl_10_88 (hG.mn hi (by decide) (by decide)) rfl ?_
  refine am_top (show I i 55 5 = nI 0 from (by simp [am_up, am_upf, upd, hI, am_fr, am_dk])) ?_
  refine am_iconst (v := nI 1) dX10_call_56 (by decide) ?_
  refine am_icmp_ne (tgt := 70) dX10_call_57 (by decide) (fun _ => ?_) (fun h => absurd h (by decide))
  refine am_aload dX10_call_70 rfl ?_
  refine am_get (v := .inr (i, 55)) dX10_call_72 fl_10_84 (hG.mn hi (by decide) (by decide)) rfl ?_
  refine am_iload_n dX10_call_75 rfl ?_
  refine am_aload_n dX10_call_76 rfl ?_
  refine am_get (v := .inl (I 0 0 7)) dX10_call_77 fl_10_99 (hG.m0 (by decide)) rfl ?_
  refine am_top (show I 0 0 7 = nI 0 from (by simp [am_up, am_upf, upd, hI, am_fr, am_dk])) ?_
  refine am_callVe (i := i) (j := 55) (as := [.inl (nI 1), .inl (nI 0)]) (rest := []) dX10_call_80 lkX8_begin ml_X10_102 imX8_begin seX8_begin rfl rfl (hG.mn hi (by decide) (by decide)) rfl (Nat.le_of_ble_eq_true rfl) rfl (c_Tbegin hG hi (nI 1) (nI 0) I) ?_
  refine am_nm (fun I1 hI1 => ?_)
  refine am_aload dX10_call_83 rfl ?_
  refine am_get (v := .inr (i, 55)) dX10_call_85 fl_10_84 (hG.mn hi (by decide) (by decide)) rfl ?_
  refine am_iload_n dX10_call_88 rfl ?_
  refine am_iload dX10_call_89 rfl ?_
  refine am_iload dX10_call_91 rfl ?_
  refine am_iload dX10_call_93 rfl ?_
  refine am_callVe (i := i) (j := 55) (as := [.inl (nI a), .inl b, .inl c, .inl e]) (rest := []) dX10_call_95 lkX8_take ml_X10_106 imX8_take seX8_take rfl rfl (hG.mn hi (by decide) (by decide)) rfl (Nat.le_of_ble_eq_true rfl) rfl (c_Ttake hG hi (nI a) b c e I1) ?_
  refine am_nm (fun I2 hI2 => ?_)
  refine am_aload_n dX10_call_98 rfl ?_
  refine am_aload dX10_call_99 rfl ?_
  refine am_callVv (i := 0) (j := 0) (as := [.inr (i, 40)]) (rest := []) dX10_call_101 lkX10_goOn ml_X10_110 imX10_goOn seX10_goOn rfl rfl (hG.m0 (by decide)) rfl (Nat.le_of_ble_eq_true rfl) rfl (c_goOn1 (a := a) hG hi (by omega) I2 (fun x hx => by simp [am_up, am_upf, upd, hI, am_fr, hI1, hI2]) (fun x hx => by simp [am_up, am_upf, upd, hI, am_fr, hI1, hI2]) (by simp [am_up, am_upf, upd, hI, am_fr, am_dk, hI1, hI2]) (by simp [am_up, am_upf, upd, hI, am_fr, am_dk, hI1, hI2]) (by simp [am_up, am_upf, upd, hI, am_fr, am_dk, hI1, hI2]) (by simp [am_up, am_upf, upd, hI, am_fr, am_dk, hI1, hI2]) (by simp [am_up, am_upf, upd, hI, am_fr, am_dk, hI1, hI2]) (by simp [am_up, am_upf, upd, hI, am_fr, am_dk, hI1, hI2]) (by simp [am_up, am_upf, upd, hI, am_fr, am_dk, hI1, hI2]) (by simp [am_up, am_upf, upd, hI, am_fr, am_dk, hI1, hI2]) (by simp [am_up, am_upf, upd, hI, am_fr, am_dk, hI1, hI2]) (by simp [am_up, am_upf, upd, hI, am_fr, am_dk, hI1, hI2]) (by simp [am_up, am_upf, upd, hI, am_fr, am_dk, hI1, hI2]) (by simp [am_up, am_upf, upd, hI, am_fr, am_dk, hI1, hI2]) (by simp [am_up, am_upf, upd, hI, am_fr, am_dk, hI1, hI2]) (by simp [am_up, am_upf, upd, hI, am_fr, am_dk, hI1, hI2]) (by simp [am_up, am_upf, upd, hI, am_fr, am_dk, hI1, hI2]) (by simp [am_up, am_upf, upd, hI, am_fr, am_dk, hI1, hI2]) (by simp [am_up, am_upf, upd, hI, am_fr, am_dk, hI1, hI2])) rfl (fun I9 hq => ?_)
  have hst2 := hq.2
  refine am_nm (fun I3 hI3 => ?_)
  refine am_aload dX10_call_104 rfl ?_
  refine am_get (v := .inr (i, 55)) dX10_call_106 fl_10_84 (hG.mn hi (by decide) (by decide)) rfl ?_
  refine am_get (v := .inl (I3 i 55 5)) dX10_call_109 fl_10_88 (hG.mn hi (by decide) (by decide)) rfl ?_
  refine am_top (show I3 i 55 5 = nI 1 from (by simp [am_up, am_upf, upd, hI, am_fr, am_dk, hI1, hI2, hst2, hI3])) ?_
  refine am_iconst (v := nI 1) dX10_call_112 (by decide) ?_
  refine am_icmp_ne (tgt := 120) dX10_call_113 (by decide) (fun h => absurd h (by decide)) (fun _ => ?_)
  refine am_iconst (v := nI 0) dX10_call_116 (by decide) ?_
  refine am_goto (tgt := 121) dX10_call_117 (by decide) ?_
  refine am_iret dX10_call_121 rfl rfl ?_
  exact hQ _
theorem j_call2 {G : am_G} (hG : am_ok G) {d : Nat} {TH : Nat → List (Option am_V) → List am_V → am_I → Prop} {Q : Option Int32 → am_I → Prop} {I : am_I} {i : Nat} (hi : i < G.2.2.2.1) {a : Nat} (hab : a < 128) (b c e : Int32) (hI : I = am_fr G.2.2.2.1) (hP : 0 ≤ (nI a).toInt ∧ (nI a).toInt < 128 ∧ ¬ b.toInt = 0) (hQ : ∀ J, Q (some (nI 0)) J) : am_J G (d + 5) mX10_call TH Q 0 [some (.inr (0, 0)), some (.inl (nI i)), some (.inl (nI 2)), some (.inl (nI a)), some (.inl b), some (.inl c), some (.inl e), none] [] I := by
  have hn4 := hG.hi
  have hn2 := hG.lo
  refine am_aload_n dX10_call_0 rfl ?_
  refine am_iload_n dX10_call_1 rfl ?_
  refine am_callVx (i := 0) (j := 0) (as := [.inl (nI i)]) (rest := []) dX10_call_2 lkX10_isNode ml_X10_65 imX10_isNode seX10_isNode rfl rfl (hG.m0 (by decide)) rfl (Nat.le_of_ble_eq_true rfl) rfl (c_isNodeY hG hi I) ?_
  refine am_if_eq (tgt := 22) dX10_call_5 (by decide) (fun h => absurd h (by decide)) (fun _ => ?_)
  refine am_iload_n dX10_call_8 rfl ?_
  refine am_iload_n dX10_call_9 rfl ?_
  refine am_iload dX10_call_10 rfl ?_
  refine am_iload dX10_call_12 rfl ?_
  refine am_iload dX10_call_14 rfl ?_
  refine am_callSx (as := [.inl (nI 2), .inl (nI a), .inl b, .inl c, .inl e]) (rest := []) dX10_call_16 lkX10_isCall ml_X10_69 isX10_isCall rfl (Nat.le_of_ble_eq_true rfl) rfl (c_isCall2 hG.nd (nI a) b c e I) ?_
  refine am_if_ne (tgt := 32) dX10_call_19 (by decide) (fun _ => ?_) (fun h => absurd h (fun z => ((am_bn _).mpr (decide_eq_true hP)) z))
  refine am_aload_n dX10_call_32 rfl ?_
  refine am_get (v := .inr (0, 2)) dX10_call_33 fl_10_19 (hG.m0 (by decide)) rfl ?_
  refine am_iload_n dX10_call_36 rfl ?_
  refine am_aald (a := i) dX10_call_37 (hG.m0 (by decide)) rfl rfl (by omega) hG.n31 ?_
  refine am_astore dX10_call_38 (by decide) ?_
  refine am_aload dX10_call_40 rfl ?_
  refine am_get (v := .inl (I i 40 5)) dX10_call_42 fl_10_80 (hG.mn hi (by decide) (by decide)) rfl ?_
  refine am_top (show I i 40 5 = nI 1 from (by simp [am_up, am_upf, upd, hI, am_fr, am_dk])) ?_
  refine am_if_eq (tgt := 60) dX10_call_45 (by decide) (fun h => absurd h (by decide)) (fun _ => ?_)
  refine am_aload dX10_call_48 rfl ?_
  refine am_get (v := .inr (i, 55)) dX10_call_50 fl_10_84 (hG.mn hi (by decide) (by decide)) rfl ?_
  refine am_get (v := .inl (I i 55 5)) dX10_call_53 fl_10_88 (hG.mn hi (by decide) (by decide)) rfl ?_
  refine am_top (show I i 55 5 = nI 0 from (by simp [am_up, am_upf, upd, hI, am_fr, am_dk])) ?_
  refine am_iconst (v := nI 1) dX10_call_56 (by decide) ?_
  refine am_icmp_ne (tgt := 70) dX10_call_57 (by decide) (fun _ => ?_) (fun h => absurd h (by decide))
  refine am_aload dX10_call_70 rfl ?_
  refine am_get (v := .inr (i, 55)) dX10_call_72 fl_10_84 (hG.mn hi (by decide) (by decide)) rfl ?_
  refine am_iload_n dX10_call_75 rfl ?_
  refine am_aload_n dX10_call_76 rfl ?_
  refine am_get (v := .inl (I 0 0 7)) dX10_call_77 fl_10_99 (hG.m0 (by decide)) rfl ?_
  refine am_top (show I 0 0 7 = nI 0 from (by simp [am_up, am_upf, upd, hI, am_fr, am_dk])) ?_
  refine am_callVe (i := i) (j := 55) (as := [.inl (nI 2), .inl (nI 0)]) (rest := []) dX10_call_80 lkX8_begin ml_X10_102 imX8_begin seX8_begin rfl rfl (hG.mn hi (by decide) (by decide)) rfl (Nat.le_of_ble_eq_true rfl) rfl (c_Tbegin hG hi (nI 2) (nI 0) I) ?_
  refine am_nm (fun I1 hI1 => ?_)
  refine am_aload dX10_call_83 rfl ?_
  refine am_get (v := .inr (i, 55)) dX10_call_85 fl_10_84 (hG.mn hi (by decide) (by decide)) rfl ?_
  refine am_iload_n dX10_call_88 rfl ?_
  refine am_iload dX10_call_89 rfl ?_
  refine am_iload dX10_call_91 rfl ?_
  refine am_iload dX10_call_93 rfl ?_
  refine am_callVe (i := i) (j := 55) (as := [.inl (nI a), .inl b, .inl c, .inl e]) (rest := []) dX10_call_95 lkX8_take ml_X10_106 imX8_take seX8_take rfl rfl (hG.mn hi (by decide) (by decide)) rfl (Nat.le_of_ble_eq_true rfl) rfl (c_Ttake hG hi (nI a) b c e I1) ?_
  refine am_nm (fun I2 hI2 => ?_)
  refine am_aload_n dX10_call_98 rfl ?_
  refine am_aload dX10_call_99 rfl ?_
  refine am_callVv (i := 0) (j := 0) (as := [.inr (i, 40)]) (rest := []) dX10_call_101 lkX10_goOn ml_X10_110 imX10_goOn seX10_goOn rfl rfl (hG.m0 (by decide)) rfl (Nat.le_of_ble_eq_true rfl) rfl (c_goOn2 (a := a) hG hi (by omega) I2 (fun x hx => by simp [am_up, am_upf, upd, hI, am_fr, hI1, hI2]) (fun x hx => by simp [am_up, am_upf, upd, hI, am_fr, hI1, hI2]) (by simp [am_up, am_upf, upd, hI, am_fr, am_dk, hI1, hI2]) (by simp [am_up, am_upf, upd, hI, am_fr, am_dk, hI1, hI2]) (by simp [am_up, am_upf, upd, hI, am_fr, am_dk, hI1, hI2]) (by simp [am_up, am_upf, upd, hI, am_fr, am_dk, hI1, hI2]) (by simp [am_up, am_upf, upd, hI, am_fr, am_dk, hI1, hI2]) (by simp [am_up, am_upf, upd, hI, am_fr, am_dk, hI1, hI2]) (by simp [am_up, am_upf, upd, hI, am_fr, am_dk, hI1, hI2]) (by simp [am_up, am_upf, upd, hI, am_fr, am_dk, hI1, hI2]) (by simp [am_up, am_upf, upd, hI, am_fr, am_dk, hI1, hI2]) (by simp [am_up, am_upf, upd, hI, am_fr, am_dk, hI1, hI2]) (by simp [am_up, am_upf, upd, hI, am_fr, am_dk, hI1, hI2]) (by simp [am_up, am_upf, upd, hI, am_fr, am_dk, hI1, hI2]) (by simp [am_up, am_upf, upd, hI, am_fr, am_dk, hI1, hI2]) (by simp [am_up, am_upf, upd, hI, am_fr, am_dk, hI1, hI2]) (by simp [am_up, am_upf, upd, hI, am_fr, am_dk, hI1, hI2]) (by simp [am_up, am_upf, upd, hI, am_fr, am_dk, hI1, hI2]) (by simp [am_up, am_upf, upd, hI, am_fr, am_dk, hI1, hI2])) rfl (fun I9 hq => ?_)
  have hst2 := hq.2
  refine am_nm (fun I3 hI3 => ?_)
  refine am_aload dX10_call_104 rfl ?_
  refine am_get (v := .inr (i, 55)) dX10_call_106 fl_10_84 (hG.mn hi (by decide) (by decide)) rfl ?_
  refine am_get (v := .inl (I3 i 55 5)) dX10_call_109 fl_10_88 (hG.mn hi (by decide) (by decide)) rfl ?_
  refine am_top (show I3 i 55 5 = nI 1 from (by simp [am_up, am_upf, upd, hI, am_fr, am_dk, hI1, hI2, hst2, hI3])) ?_
  refine am_iconst (v := nI 1) dX10_call_112 (by decide) ?_
  refine am_icmp_ne (tgt := 120) dX10_call_113 (by decide) (fun h => absurd h (by decide)) (fun _ => ?_)
  refine am_iconst (v := nI 0) dX10_call_116 (by decide) ?_
  refine am_goto (tgt := 121) dX10_call_117 (by decide) ?_
  refine am_iret dX10_call_121 rfl rfl ?_
  exact hQ _
theorem j_call3 {G : am_G} (hG : am_ok G) {d : Nat} {TH : Nat → List (Option am_V) → List am_V → am_I → Prop} {Q : Option Int32 → am_I → Prop} {I : am_I} {i : Nat} (hi : i < G.2.2.2.1) {a : Nat} (hab : a < 128) (b c e : Int32) (hI : I = am_fr G.2.2.2.1) (hP : 0 ≤ (nI a).toInt ∧ (nI a).toInt < 128 ∧ ¬ b.toInt = 0 ∧ 0 ≤ c.toInt ∧ c.toInt < 128) (hQ : ∀ J, Q (some (nI 0)) J) : am_J G (d + 5) mX10_call TH Q 0 [some (.inr (0, 0)), some (.inl (nI i)), some (.inl (nI 3)), some (.inl (nI a)), some (.inl b), some (.inl c), some (.inl e), none] [] I := by
  have hn4 := hG.hi
  have hn2 := hG.lo
  refine am_aload_n dX10_call_0 rfl ?_
  refine am_iload_n dX10_call_1 rfl ?_
  refine am_callVx (i := 0) (j := 0) (as := [.inl (nI i)]) (rest := []) dX10_call_2 lkX10_isNode ml_X10_65 imX10_isNode seX10_isNode rfl rfl (hG.m0 (by decide)) rfl (Nat.le_of_ble_eq_true rfl) rfl (c_isNodeY hG hi I) ?_
  refine am_if_eq (tgt := 22) dX10_call_5 (by decide) (fun h => absurd h (by decide)) (fun _ => ?_)
  refine am_iload_n dX10_call_8 rfl ?_
  refine am_iload_n dX10_call_9 rfl ?_
  refine am_iload dX10_call_10 rfl ?_
  refine am_iload dX10_call_12 rfl ?_
  refine am_iload dX10_call_14 rfl ?_
  refine am_callSx (as := [.inl (nI 3), .inl (nI a), .inl b, .inl c, .inl e]) (rest := []) dX10_call_16 lkX10_isCall ml_X10_69 isX10_isCall rfl (Nat.le_of_ble_eq_true rfl) rfl (c_isCall3 hG.nd (nI a) b c e I) ?_
  refine am_if_ne (tgt := 32) dX10_call_19 (by decide) (fun _ => ?_) (fun h => absurd h (fun z => ((am_bn _).mpr (decide_eq_true hP)) z))
  refine am_aload_n dX10_call_32 rfl ?_
  refine am_get (v := .inr (0, 2)) dX10_call_33 fl_10_19 (hG.m0 (by decide)) rfl ?_
  refine am_iload_n dX10_call_36 rfl ?_
  refine am_aald (a := i) dX10_call_37 (hG.m0 (by decide)) rfl rfl (by omega) hG.n31 ?_
  refine am_astore dX10_call_38 (by decide) ?_
  refine am_aload dX10_call_40 rfl ?_
  refine am_get (v := .inl (I i 40 5)) dX10_call_42 fl_10_80 (hG.mn hi (by decide) (by decide)) rfl ?_
  refine am_top (show I i 40 5 = nI 1 from (by simp [am_up, am_upf, upd, hI, am_fr, am_dk])) ?_
  refine am_if_eq (tgt := 60) dX10_call_45 (by decide) (fun h => absurd h (by decide)) (fun _ => ?_)
  refine am_aload dX10_call_48 rfl ?_
  refine am_get (v := .inr (i, 55)) dX10_call_50 fl_10_84 (hG.mn hi (by decide) (by decide)) rfl ?_
  refine am_get (v := .inl (I i 55 5)) dX10_call_53 fl_10_88 (hG.mn hi (by decide) (by decide)) rfl ?_
  refine am_top (show I i 55 5 = nI 0 from (by simp [am_up, am_upf, upd, hI, am_fr, am_dk])) ?_
  refine am_iconst (v := nI 1) dX10_call_56 (by decide) ?_
  refine am_icmp_ne (tgt := 70) dX10_call_57 (by decide) (fun _ => ?_) (fun h => absurd h (by decide))
  refine am_aload dX10_call_70 rfl ?_
  refine am_get (v := .inr (i, 55)) dX10_call_72 fl_10_84 (hG.mn hi (by decide) (by decide)) rfl ?_
  refine am_iload_n dX10_call_75 rfl ?_
  refine am_aload_n dX10_call_76 rfl ?_
  refine am_get (v := .inl (I 0 0 7)) dX10_call_77 fl_10_99 (hG.m0 (by decide)) rfl ?_
  refine am_top (show I 0 0 7 = nI 0 from (by simp [am_up, am_upf, upd, hI, am_fr, am_dk])) ?_
  refine am_callVe (i := i) (j := 55) (as := [.inl (nI 3), .inl (nI 0)]) (rest := []) dX10_call_80 lkX8_begin ml_X10_102 imX8_begin seX8_begin rfl rfl (hG.mn hi (by decide) (by decide)) rfl (Nat.le_of_ble_eq_true rfl) rfl (c_Tbegin hG hi (nI 3) (nI 0) I) ?_
  refine am_nm (fun I1 hI1 => ?_)
  refine am_aload dX10_call_83 rfl ?_
  refine am_get (v := .inr (i, 55)) dX10_call_85 fl_10_84 (hG.mn hi (by decide) (by decide)) rfl ?_
  refine am_iload_n dX10_call_88 rfl ?_
  refine am_iload dX10_call_89 rfl ?_
  refine am_iload dX10_call_91 rfl ?_
  refine am_iload dX10_call_93 rfl ?_
  refine am_callVe (i := i) (j := 55) (as := [.inl (nI a), .inl b, .inl c, .inl e]) (rest := []) dX10_call_95 lkX8_take ml_X10_106 imX8_take seX8_take rfl rfl (hG.mn hi (by decide) (by decide)) rfl (Nat.le_of_ble_eq_true rfl) rfl (c_Ttake hG hi (nI a) b c e I1) ?_
  refine am_nm (fun I2 hI2 => ?_)
  refine am_aload_n dX10_call_98 rfl ?_
  refine am_aload dX10_call_99 rfl ?_
  refine am_callVv (i := 0) (j := 0) (as := [.inr (i, 40)]) (rest := []) dX10_call_101 lkX10_goOn ml_X10_110 imX10_goOn seX10_goOn rfl rfl (hG.m0 (by decide)) rfl (Nat.le_of_ble_eq_true rfl) rfl (c_goOn3 (a := a) hG hi (by omega) I2 (fun x hx => by simp [am_up, am_upf, upd, hI, am_fr, hI1, hI2]) (fun x hx => by simp [am_up, am_upf, upd, hI, am_fr, hI1, hI2]) (by simp [am_up, am_upf, upd, hI, am_fr, am_dk, hI1, hI2]) (by simp [am_up, am_upf, upd, hI, am_fr, am_dk, hI1, hI2]) (by simp [am_up, am_upf, upd, hI, am_fr, am_dk, hI1, hI2]) (by simp [am_up, am_upf, upd, hI, am_fr, am_dk, hI1, hI2]) (by simp [am_up, am_upf, upd, hI, am_fr, am_dk, hI1, hI2]) (by simp [am_up, am_upf, upd, hI, am_fr, am_dk, hI1, hI2]) (by simp [am_up, am_upf, upd, hI, am_fr, am_dk, hI1, hI2]) (by simp [am_up, am_upf, upd, hI, am_fr, am_dk, hI1, hI2]) (by simp [am_up, am_upf, upd, hI, am_fr, am_dk, hI1, hI2]) (by simp [am_up, am_upf, upd, hI, am_fr, am_dk, hI1, hI2]) (by simp [am_up, am_upf, upd, hI, am_fr, am_dk, hI1, hI2]) (by simp [am_up, am_upf, upd, hI, am_fr, am_dk, hI1, hI2]) (by simp [am_up, am_upf, upd, hI, am_fr, am_dk, hI1, hI2]) (by simp [am_up, am_upf, upd, hI, am_fr, am_dk, hI1, hI2]) (by simp [am_up, am_upf, upd, hI, am_fr, am_dk, hI1, hI2]) (by simp [am_up, am_upf, upd, hI, am_fr, am_dk, hI1, hI2]) (by simp [am_up, am_upf, upd, hI, am_fr, am_dk, hI1, hI2])) rfl (fun I9 hq => ?_)
  have hst2 := hq.2
  refine am_nm (fun I3 hI3 => ?_)
  refine am_aload dX10_call_104 rfl ?_
  refine am_get (v := .inr (i, 55)) dX10_call_106 fl_10_84 (hG.mn hi (by decide) (by decide)) rfl ?_
  refine am_get (v := .inl (I3 i 55 5)) dX10_call_109 fl_10_88 (hG.mn hi (by decide) (by decide)) rfl ?_
  refine am_top (show I3 i 55 5 = nI 1 from (by simp [am_up, am_upf, upd, hI, am_fr, am_dk, hI1, hI2, hst2, hI3])) ?_
  refine am_iconst (v := nI 1) dX10_call_112 (by decide) ?_
  refine am_icmp_ne (tgt := 120) dX10_call_113 (by decide) (fun h => absurd h (by decide)) (fun _ => ?_)
  refine am_iconst (v := nI 0) dX10_call_116 (by decide) ?_
  refine am_goto (tgt := 121) dX10_call_117 (by decide) ?_
  refine am_iret dX10_call_121 rfl rfl ?_
  exact hQ _
theorem j_call4 {G : am_G} (hG : am_ok G) {d : Nat} {TH : Nat → List (Option am_V) → List am_V → am_I → Prop} {Q : Option Int32 → am_I → Prop} {I : am_I} {i : Nat} (hi : i < G.2.2.2.1) {a : Nat} (hab : a < 128) (b c e : Int32) (hI : I = am_fr G.2.2.2.1) (hP : 0 ≤ (nI a).toInt ∧ (nI a).toInt < 128 ∧ ¬ b.toInt = 0 ∧ 0 ≤ c.toInt ∧ c.toInt < 128 ∧ ¬ e.toInt = 0) (hQ : ∀ J, Q (some (nI 0)) J) : am_J G (d + 5) mX10_call TH Q 0 [some (.inr (0, 0)), some (.inl (nI i)), some (.inl (nI 4)), some (.inl (nI a)), some (.inl b), some (.inl c), some (.inl e), none] [] I := by
  have hn4 := hG.hi
  have hn2 := hG.lo
  refine am_aload_n dX10_call_0 rfl ?_
  refine am_iload_n dX10_call_1 rfl ?_
  refine am_callVx (i := 0) (j := 0) (as := [.inl (nI i)]) (rest := []) dX10_call_2 lkX10_isNode ml_X10_65 imX10_isNode seX10_isNode rfl rfl (hG.m0 (by decide)) rfl (Nat.le_of_ble_eq_true rfl) rfl (c_isNodeY hG hi I) ?_
  refine am_if_eq (tgt := 22) dX10_call_5 (by decide) (fun h => absurd h (by decide)) (fun _ => ?_)
  refine am_iload_n dX10_call_8 rfl ?_
  refine am_iload_n dX10_call_9 rfl ?_
  refine am_iload dX10_call_10 rfl ?_
  refine am_iload dX10_call_12 rfl ?_
  refine am_iload dX10_call_14 rfl ?_
  refine am_callSx (as := [.inl (nI 4), .inl (nI a), .inl b, .inl c, .inl e]) (rest := []) dX10_call_16 lkX10_isCall ml_X10_69 isX10_isCall rfl (Nat.le_of_ble_eq_true rfl) rfl (c_isCall4 hG.nd (nI a) b c e I) ?_
  refine am_if_ne (tgt := 32) dX10_call_19 (by decide) (fun _ => ?_) (fun h => absurd h (fun z => ((am_bn _).mpr (decide_eq_true hP)) z))
  refine am_aload_n dX10_call_32 rfl ?_
  refine am_get (v := .inr (0, 2)) dX10_call_33 fl_10_19 (hG.m0 (by decide)) rfl ?_
  refine am_iload_n dX10_call_36 rfl ?_
  refine am_aald (a := i) dX10_call_37 (hG.m0 (by decide)) rfl rfl (by omega) hG.n31 ?_
  refine am_astore dX10_call_38 (by decide) ?_
  refine am_aload dX10_call_40 rfl ?_
  refine am_get (v := .inl (I i 40 5)) dX10_call_42 fl_10_80 (hG.mn hi (by decide) (by decide)) rfl ?_
  refine am_top (show I i 40 5 = nI 1 from (by simp [am_up, am_upf, upd, hI, am_fr, am_dk])) ?_
  refine am_if_eq (tgt := 60) dX10_call_45 (by decide) (fun h => absurd h (by decide)) (fun _ => ?_)
  refine am_aload dX10_call_48 rfl ?_
  refine am_get (v := .inr (i, 55)) dX10_call_50 fl_10_84 (hG.mn hi (by decide) (by decide)) rfl ?_
  refine am_get (v := .inl (I i 55 5)) dX10_call_53 fl_10_88 (hG.mn hi (by decide) (by decide)) rfl ?_
  refine am_top (show I i 55 5 = nI 0 from (by simp [am_up, am_upf, upd, hI, am_fr, am_dk])) ?_
  refine am_iconst (v := nI 1) dX10_call_56 (by decide) ?_
  refine am_icmp_ne (tgt := 70) dX10_call_57 (by decide) (fun _ => ?_) (fun h => absurd h (by decide))
  refine am_aload dX10_call_70 rfl ?_
  refine am_get (v := .inr (i, 55)) dX10_call_72 fl_10_84 (hG.mn hi (by decide) (by decide)) rfl ?_
  refine am_iload_n dX10_call_75 rfl ?_
  refine am_aload_n dX10_call_76 rfl ?_
  refine am_get (v := .inl (I 0 0 7)) dX10_call_77 fl_10_99 (hG.m0 (by decide)) rfl ?_
  refine am_top (show I 0 0 7 = nI 0 from (by simp [am_up, am_upf, upd, hI, am_fr, am_dk])) ?_
  refine am_callVe (i := i) (j := 55) (as := [.inl (nI 4), .inl (nI 0)]) (rest := []) dX10_call_80 lkX8_begin ml_X10_102 imX8_begin seX8_begin rfl rfl (hG.mn hi (by decide) (by decide)) rfl (Nat.le_of_ble_eq_true rfl) rfl (c_Tbegin hG hi (nI 4) (nI 0) I) ?_
  refine am_nm (fun I1 hI1 => ?_)
  refine am_aload dX10_call_83 rfl ?_
  refine am_get (v := .inr (i, 55)) dX10_call_85 fl_10_84 (hG.mn hi (by decide) (by decide)) rfl ?_
  refine am_iload_n dX10_call_88 rfl ?_
  refine am_iload dX10_call_89 rfl ?_
  refine am_iload dX10_call_91 rfl ?_
  refine am_iload dX10_call_93 rfl ?_
  refine am_callVe (i := i) (j := 55) (as := [.inl (nI a), .inl b, .inl c, .inl e]) (rest := []) dX10_call_95 lkX8_take ml_X10_106 imX8_take seX8_take rfl rfl (hG.mn hi (by decide) (by decide)) rfl (Nat.le_of_ble_eq_true rfl) rfl (c_Ttake hG hi (nI a) b c e I1) ?_
  refine am_nm (fun I2 hI2 => ?_)
  refine am_aload_n dX10_call_98 rfl ?_
  refine am_aload dX10_call_99 rfl ?_
  refine am_callVv (i := 0) (j := 0) (as := [.inr (i, 40)]) (rest := []) dX10_call_101 lkX10_goOn ml_X10_110 imX10_goOn seX10_goOn rfl rfl (hG.m0 (by decide)) rfl (Nat.le_of_ble_eq_true rfl) rfl (c_goOn4 (a := a) hG hi (by omega) I2 (fun x hx => by simp [am_up, am_upf, upd, hI, am_fr, hI1, hI2]) (fun x hx => by simp [am_up, am_upf, upd, hI, am_fr, hI1, hI2]) (by simp [am_up, am_upf, upd, hI, am_fr, am_dk, hI1, hI2]) (by simp [am_up, am_upf, upd, hI, am_fr, am_dk, hI1, hI2]) (by simp [am_up, am_upf, upd, hI, am_fr, am_dk, hI1, hI2]) (by simp [am_up, am_upf, upd, hI, am_fr, am_dk, hI1, hI2]) (by simp [am_up, am_upf, upd, hI, am_fr, am_dk, hI1, hI2]) (by simp [am_up, am_upf, upd, hI, am_fr, am_dk, hI1, hI2]) (by simp [am_up, am_upf, upd, hI, am_fr, am_dk, hI1, hI2]) (by simp [am_up, am_upf, upd, hI, am_fr, am_dk, hI1, hI2]) (by simp [am_up, am_upf, upd, hI, am_fr, am_dk, hI1, hI2]) (by simp [am_up, am_upf, upd, hI, am_fr, am_dk, hI1, hI2]) (by simp [am_up, am_upf, upd, hI, am_fr, am_dk, hI1, hI2]) (by simp [am_up, am_upf, upd, hI, am_fr, am_dk, hI1, hI2]) (by simp [am_up, am_upf, upd, hI, am_fr, am_dk, hI1, hI2]) (by simp [am_up, am_upf, upd, hI, am_fr, am_dk, hI1, hI2]) (by simp [am_up, am_upf, upd, hI, am_fr, am_dk, hI1, hI2]) (by simp [am_up, am_upf, upd, hI, am_fr, am_dk, hI1, hI2]) (by simp [am_up, am_upf, upd, hI, am_fr, am_dk, hI1, hI2])) rfl (fun I9 hq => ?_)
  have hst2 := hq.2
  refine am_nm (fun I3 hI3 => ?_)
  refine am_aload dX10_call_104 rfl ?_
  refine am_get (v := .inr (i, 55)) dX10_call_106 fl_10_84 (hG.mn hi (by decide) (by decide)) rfl ?_
  refine am_get (v := .inl (I3 i 55 5)) dX10_call_109 fl_10_88 (hG.mn hi (by decide) (by decide)) rfl ?_
  refine am_top (show I3 i 55 5 = nI 1 from (by simp [am_up, am_upf, upd, hI, am_fr, am_dk, hI1, hI2, hst2, hI3])) ?_
  refine am_iconst (v := nI 1) dX10_call_112 (by decide) ?_
  refine am_icmp_ne (tgt := 120) dX10_call_113 (by decide) (fun h => absurd h (by decide)) (fun _ => ?_)
  refine am_iconst (v := nI 0) dX10_call_116 (by decide) ?_
  refine am_goto (tgt := 121) dX10_call_117 (by decide) ?_
  refine am_iret dX10_call_121 rfl rfl ?_
  exact hQ _
theorem j_call5 {G : am_G} (hG : am_ok G) {d : Nat} {TH : Nat → List (Option am_V) → List am_V → am_I → Prop} {Q : Option Int32 → am_I → Prop} {I : am_I} {i : Nat} (hi : i < G.2.2.2.1) {a : Nat} (hab : a < 128) (b c e : Int32) (hI : I = am_fr G.2.2.2.1) (hP : 0 ≤ (nI a).toInt ∧ (nI a).toInt < 128 ∧ 0 ≤ b.toInt ∧ b.toInt < 384) (hQ : ∀ J, Q (some (nI 0)) J) : am_J G (d + 5) mX10_call TH Q 0 [some (.inr (0, 0)), some (.inl (nI i)), some (.inl (nI 5)), some (.inl (nI a)), some (.inl b), some (.inl c), some (.inl e), none] [] I := by
  have hn4 := hG.hi
  have hn2 := hG.lo
  refine am_aload_n dX10_call_0 rfl ?_
  refine am_iload_n dX10_call_1 rfl ?_
  refine am_callVx (i := 0) (j := 0) (as := [.inl (nI i)]) (rest := []) dX10_call_2 lkX10_isNode ml_X10_65 imX10_isNode seX10_isNode rfl rfl (hG.m0 (by decide)) rfl (Nat.le_of_ble_eq_true rfl) rfl (c_isNodeY hG hi I) ?_
  refine am_if_eq (tgt := 22) dX10_call_5 (by decide) (fun h => absurd h (by decide)) (fun _ => ?_)
  refine am_iload_n dX10_call_8 rfl ?_
  refine am_iload_n dX10_call_9 rfl ?_
  refine am_iload dX10_call_10 rfl ?_
  refine am_iload dX10_call_12 rfl ?_
  refine am_iload dX10_call_14 rfl ?_
  refine am_callSx (as := [.inl (nI 5), .inl (nI a), .inl b, .inl c, .inl e]) (rest := []) dX10_call_16 lkX10_isCall ml_X10_69 isX10_isCall rfl (Nat.le_of_ble_eq_true rfl) rfl (c_isCall5 hG.nd (nI a) b c e I) ?_
  refine am_if_ne (tgt := 32) dX10_call_19 (by decide) (fun _ => ?_) (fun h => absurd h (fun z => ((am_bn _).mpr (decide_eq_true hP)) z))
  refine am_aload_n dX10_call_32 rfl ?_
  refine am_get (v := .inr (0, 2)) dX10_call_33 fl_10_19 (hG.m0 (by decide)) rfl ?_
  refine am_iload_n dX10_call_36 rfl ?_
  refine am_aald (a := i) dX10_call_37 (hG.m0 (by decide)) rfl rfl (by omega) hG.n31 ?_
  refine am_astore dX10_call_38 (by decide) ?_
  refine am_aload dX10_call_40 rfl ?_
  refine am_get (v := .inl (I i 40 5)) dX10_call_42 fl_10_80 (hG.mn hi (by decide) (by decide)) rfl ?_
  refine am_top (show I i 40 5 = nI 1 from (by simp [am_up, am_upf, upd, hI, am_fr, am_dk])) ?_
  refine am_if_eq (tgt := 60) dX10_call_45 (by decide) (fun h => absurd h (by decide)) (fun _ => ?_)
  refine am_aload dX10_call_48 rfl ?_
  refine am_get (v := .inr (i, 55)) dX10_call_50 fl_10_84 (hG.mn hi (by decide) (by decide)) rfl ?_
  refine am_get (v := .inl (I i 55 5)) dX10_call_53 fl_10_88 (hG.mn hi (by decide) (by decide)) rfl ?_
  refine am_top (show I i 55 5 = nI 0 from (by simp [am_up, am_upf, upd, hI, am_fr, am_dk])) ?_
  refine am_iconst (v := nI 1) dX10_call_56 (by decide) ?_
  refine am_icmp_ne (tgt := 70) dX10_call_57 (by decide) (fun _ => ?_) (fun h => absurd h (by decide))
  refine am_aload dX10_call_70 rfl ?_
  refine am_get (v := .inr (i, 55)) dX10_call_72 fl_10_84 (hG.mn hi (by decide) (by decide)) rfl ?_
  refine am_iload_n dX10_call_75 rfl ?_
  refine am_aload_n dX10_call_76 rfl ?_
  refine am_get (v := .inl (I 0 0 7)) dX10_call_77 fl_10_99 (hG.m0 (by decide)) rfl ?_
  refine am_top (show I 0 0 7 = nI 0 from (by simp [am_up, am_upf, upd, hI, am_fr, am_dk])) ?_
  refine am_callVe (i := i) (j := 55) (as := [.inl (nI 5), .inl (nI 0)]) (rest := []) dX10_call_80 lkX8_begin ml_X10_102 imX8_begin seX8_begin rfl rfl (hG.mn hi (by decide) (by decide)) rfl (Nat.le_of_ble_eq_true rfl) rfl (c_Tbegin hG hi (nI 5) (nI 0) I) ?_
  refine am_nm (fun I1 hI1 => ?_)
  refine am_aload dX10_call_83 rfl ?_
  refine am_get (v := .inr (i, 55)) dX10_call_85 fl_10_84 (hG.mn hi (by decide) (by decide)) rfl ?_
  refine am_iload_n dX10_call_88 rfl ?_
  refine am_iload dX10_call_89 rfl ?_
  refine am_iload dX10_call_91 rfl ?_
  refine am_iload dX10_call_93 rfl ?_
  refine am_callVe (i := i) (j := 55) (as := [.inl (nI a), .inl b, .inl c, .inl e]) (rest := []) dX10_call_95 lkX8_take ml_X10_106 imX8_take seX8_take rfl rfl (hG.mn hi (by decide) (by decide)) rfl (Nat.le_of_ble_eq_true rfl) rfl (c_Ttake hG hi (nI a) b c e I1) ?_
  refine am_nm (fun I2 hI2 => ?_)
  refine am_aload_n dX10_call_98 rfl ?_
  refine am_aload dX10_call_99 rfl ?_
  refine am_callVv (i := 0) (j := 0) (as := [.inr (i, 40)]) (rest := []) dX10_call_101 lkX10_goOn ml_X10_110 imX10_goOn seX10_goOn rfl rfl (hG.m0 (by decide)) rfl (Nat.le_of_ble_eq_true rfl) rfl (c_goOn5 (a := a) hG hi (by omega) I2 (fun x hx => by simp [am_up, am_upf, upd, hI, am_fr, hI1, hI2]) (fun x hx => by simp [am_up, am_upf, upd, hI, am_fr, hI1, hI2]) (by simp [am_up, am_upf, upd, hI, am_fr, am_dk, hI1, hI2]) (by simp [am_up, am_upf, upd, hI, am_fr, am_dk, hI1, hI2]) (by simp [am_up, am_upf, upd, hI, am_fr, am_dk, hI1, hI2]) (by simp [am_up, am_upf, upd, hI, am_fr, am_dk, hI1, hI2]) (by simp [am_up, am_upf, upd, hI, am_fr, am_dk, hI1, hI2]) (by simp [am_up, am_upf, upd, hI, am_fr, am_dk, hI1, hI2]) (by simp [am_up, am_upf, upd, hI, am_fr, am_dk, hI1, hI2]) (by simp [am_up, am_upf, upd, hI, am_fr, am_dk, hI1, hI2]) (by simp [am_up, am_upf, upd, hI, am_fr, am_dk, hI1, hI2]) (by simp [am_up, am_upf, upd, hI, am_fr, am_dk, hI1, hI2]) (by simp [am_up, am_upf, upd, hI, am_fr, am_dk, hI1, hI2]) (by simp [am_up, am_upf, upd, hI, am_fr, am_dk, hI1, hI2]) (by simp [am_up, am_upf, upd, hI, am_fr, am_dk, hI1, hI2]) (by simp [am_up, am_upf, upd, hI, am_fr, am_dk, hI1, hI2]) (by simp [am_up, am_upf, upd, hI, am_fr, am_dk, hI1, hI2]) (by simp [am_up, am_upf, upd, hI, am_fr, am_dk, hI1, hI2]) (by simp [am_up, am_upf, upd, hI, am_fr, am_dk, hI1, hI2])) rfl (fun I9 hq => ?_)
  have hst2 := hq.2
  refine am_nm (fun I3 hI3 => ?_)
  refine am_aload dX10_call_104 rfl ?_
  refine am_get (v := .inr (i, 55)) dX10_call_106 fl_10_84 (hG.mn hi (by decide) (by decide)) rfl ?_
  refine am_get (v := .inl (I3 i 55 5)) dX10_call_109 fl_10_88 (hG.mn hi (by decide) (by decide)) rfl ?_
  refine am_top (show I3 i 55 5 = nI 1 from (by simp [am_up, am_upf, upd, hI, am_fr, am_dk, hI1, hI2, hst2, hI3])) ?_
  refine am_iconst (v := nI 1) dX10_call_112 (by decide) ?_
  refine am_icmp_ne (tgt := 120) dX10_call_113 (by decide) (fun h => absurd h (by decide)) (fun _ => ?_)
  refine am_iconst (v := nI 0) dX10_call_116 (by decide) ?_
  refine am_goto (tgt := 121) dX10_call_117 (by decide) ?_
  refine am_iret dX10_call_121 rfl rfl ?_
  exact hQ _
theorem j_call6 {G : am_G} (hG : am_ok G) {d : Nat} {TH : Nat → List (Option am_V) → List am_V → am_I → Prop} {Q : Option Int32 → am_I → Prop} {I : am_I} {i : Nat} (hi : i < G.2.2.2.1) {a : Nat} (hab : a < 128) (b c e : Int32) (hI : I = am_fr G.2.2.2.1) (hP : 0 ≤ (nI a).toInt ∧ (nI a).toInt < 128 ∧ 0 ≤ b.toInt ∧ b.toInt < 384) (hQ : ∀ J, Q (some (nI 0)) J) : am_J G (d + 5) mX10_call TH Q 0 [some (.inr (0, 0)), some (.inl (nI i)), some (.inl (nI 6)), some (.inl (nI a)), some (.inl b), some (.inl c), some (.inl e), none] [] I := by
  have hn4 := hG.hi
  have hn2 := hG.lo
  refine am_aload_n dX10_call_0 rfl ?_
  refine am_iload_n dX10_call_1 rfl ?_
  refine am_callVx (i := 0) (j := 0) (as := [.inl (nI i)]) (rest := []) dX10_call_2 lkX10_isNode ml_X10_65 imX10_isNode seX10_isNode rfl rfl (hG.m0 (by decide)) rfl (Nat.le_of_ble_eq_true rfl) rfl (c_isNodeY hG hi I) ?_
  refine am_if_eq (tgt := 22) dX10_call_5 (by decide) (fun h => absurd h (by decide)) (fun _ => ?_)
  refine am_iload_n dX10_call_8 rfl ?_
  refine am_iload_n dX10_call_9 rfl ?_
  refine am_iload dX10_call_10 rfl ?_
  refine am_iload dX10_call_12 rfl ?_
  refine am_iload dX10_call_14 rfl ?_
  refine am_callSx (as := [.inl (nI 6), .inl (nI a), .inl b, .inl c, .inl e]) (rest := []) dX10_call_16 lkX10_isCall ml_X10_69 isX10_isCall rfl (Nat.le_of_ble_eq_true rfl) rfl (c_isCall6 hG.nd (nI a) b c e I) ?_
  refine am_if_ne (tgt := 32) dX10_call_19 (by decide) (fun _ => ?_) (fun h => absurd h (fun z => ((am_bn _).mpr (decide_eq_true hP)) z))
  refine am_aload_n dX10_call_32 rfl ?_
  refine am_get (v := .inr (0, 2)) dX10_call_33 fl_10_19 (hG.m0 (by decide)) rfl ?_
  refine am_iload_n dX10_call_36 rfl ?_
  refine am_aald (a := i) dX10_call_37 (hG.m0 (by decide)) rfl rfl (by omega) hG.n31 ?_
  refine am_astore dX10_call_38 (by decide) ?_
  refine am_aload dX10_call_40 rfl ?_
  refine am_get (v := .inl (I i 40 5)) dX10_call_42 fl_10_80 (hG.mn hi (by decide) (by decide)) rfl ?_
  refine am_top (show I i 40 5 = nI 1 from (by simp [am_up, am_upf, upd, hI, am_fr, am_dk])) ?_
  refine am_if_eq (tgt := 60) dX10_call_45 (by decide) (fun h => absurd h (by decide)) (fun _ => ?_)
  refine am_aload dX10_call_48 rfl ?_
  refine am_get (v := .inr (i, 55)) dX10_call_50 fl_10_84 (hG.mn hi (by decide) (by decide)) rfl ?_
  refine am_get (v := .inl (I i 55 5)) dX10_call_53 fl_10_88 (hG.mn hi (by decide) (by decide)) rfl ?_
  refine am_top (show I i 55 5 = nI 0 from (by simp [am_up, am_upf, upd, hI, am_fr, am_dk])) ?_
  refine am_iconst (v := nI 1) dX10_call_56 (by decide) ?_
  refine am_icmp_ne (tgt := 70) dX10_call_57 (by decide) (fun _ => ?_) (fun h => absurd h (by decide))
  refine am_aload dX10_call_70 rfl ?_
  refine am_get (v := .inr (i, 55)) dX10_call_72 fl_10_84 (hG.mn hi (by decide) (by decide)) rfl ?_
  refine am_iload_n dX10_call_75 rfl ?_
  refine am_aload_n dX10_call_76 rfl ?_
  refine am_get (v := .inl (I 0 0 7)) dX10_call_77 fl_10_99 (hG.m0 (by decide)) rfl ?_
  refine am_top (show I 0 0 7 = nI 0 from (by simp [am_up, am_upf, upd, hI, am_fr, am_dk])) ?_
  refine am_callVe (i := i) (j := 55) (as := [.inl (nI 6), .inl (nI 0)]) (rest := []) dX10_call_80 lkX8_begin ml_X10_102 imX8_begin seX8_begin rfl rfl (hG.mn hi (by decide) (by decide)) rfl (Nat.le_of_ble_eq_true rfl) rfl (c_Tbegin hG hi (nI 6) (nI 0) I) ?_
  refine am_nm (fun I1 hI1 => ?_)
  refine am_aload dX10_call_83 rfl ?_
  refine am_get (v := .inr (i, 55)) dX10_call_85 fl_10_84 (hG.mn hi (by decide) (by decide)) rfl ?_
  refine am_iload_n dX10_call_88 rfl ?_
  refine am_iload dX10_call_89 rfl ?_
  refine am_iload dX10_call_91 rfl ?_
  refine am_iload dX10_call_93 rfl ?_
  refine am_callVe (i := i) (j := 55) (as := [.inl (nI a), .inl b, .inl c, .inl e]) (rest := []) dX10_call_95 lkX8_take ml_X10_106 imX8_take seX8_take rfl rfl (hG.mn hi (by decide) (by decide)) rfl (Nat.le_of_ble_eq_true rfl) rfl (c_Ttake hG hi (nI a) b c e I1) ?_
  refine am_nm (fun I2 hI2 => ?_)
  refine am_aload_n dX10_call_98 rfl ?_
  refine am_aload dX10_call_99 rfl ?_
  refine am_callVv (i := 0) (j := 0) (as := [.inr (i, 40)]) (rest := []) dX10_call_101 lkX10_goOn ml_X10_110 imX10_goOn seX10_goOn rfl rfl (hG.m0 (by decide)) rfl (Nat.le_of_ble_eq_true rfl) rfl (c_goOn6 (a := a) hG hi (by omega) I2 (fun x hx => by simp [am_up, am_upf, upd, hI, am_fr, hI1, hI2]) (fun x hx => by simp [am_up, am_upf, upd, hI, am_fr, hI1, hI2]) (by simp [am_up, am_upf, upd, hI, am_fr, am_dk, hI1, hI2]) (by simp [am_up, am_upf, upd, hI, am_fr, am_dk, hI1, hI2]) (by simp [am_up, am_upf, upd, hI, am_fr, am_dk, hI1, hI2]) (by simp [am_up, am_upf, upd, hI, am_fr, am_dk, hI1, hI2]) (by simp [am_up, am_upf, upd, hI, am_fr, am_dk, hI1, hI2]) (by simp [am_up, am_upf, upd, hI, am_fr, am_dk, hI1, hI2]) (by simp [am_up, am_upf, upd, hI, am_fr, am_dk, hI1, hI2]) (by simp [am_up, am_upf, upd, hI, am_fr, am_dk, hI1, hI2]) (by simp [am_up, am_upf, upd, hI, am_fr, am_dk, hI1, hI2]) (by simp [am_up, am_upf, upd, hI, am_fr, am_dk, hI1, hI2]) (by simp [am_up, am_upf, upd, hI, am_fr, am_dk, hI1, hI2]) (by simp [am_up, am_upf, upd, hI, am_fr, am_dk, hI1, hI2]) (by simp [am_up, am_upf, upd, hI, am_fr, am_dk, hI1, hI2]) (by simp [am_up, am_upf, upd, hI, am_fr, am_dk, hI1, hI2]) (by simp [am_up, am_upf, upd, hI, am_fr, am_dk, hI1, hI2]) (by simp [am_up, am_upf, upd, hI, am_fr, am_dk, hI1, hI2]) (by simp [am_up, am_upf, upd, hI, am_fr, am_dk, hI1, hI2])) rfl (fun I9 hq => ?_)
  have hst2 := hq.2
  refine am_nm (fun I3 hI3 => ?_)
  refine am_aload dX10_call_104 rfl ?_
  refine am_get (v := .inr (i, 55)) dX10_call_106 fl_10_84 (hG.mn hi (by decide) (by decide)) rfl ?_
  refine am_get (v := .inl (I3 i 55 5)) dX10_call_109 fl_10_88 (hG.mn hi (by decide) (by decide)) rfl ?_
  refine am_top (show I3 i 55 5 = nI 1 from (by simp [am_up, am_upf, upd, hI, am_fr, am_dk, hI1, hI2, hst2, hI3])) ?_
  refine am_iconst (v := nI 1) dX10_call_112 (by decide) ?_
  refine am_icmp_ne (tgt := 120) dX10_call_113 (by decide) (fun h => absurd h (by decide)) (fun _ => ?_)
  refine am_iconst (v := nI 0) dX10_call_116 (by decide) ?_
  refine am_goto (tgt := 121) dX10_call_117 (by decide) ?_
  refine am_iret dX10_call_121 rfl rfl ?_
  exact hQ _
theorem j_call7 {G : am_G} (hG : am_ok G) {d : Nat} {TH : Nat → List (Option am_V) → List am_V → am_I → Prop} {Q : Option Int32 → am_I → Prop} {I : am_I} {i : Nat} (hi : i < G.2.2.2.1) {a : Nat} (hab : a < 128) (b c e : Int32) (hI : I = am_fr G.2.2.2.1) (hP : 0 ≤ (nI a).toInt ∧ (nI a).toInt < 128 ∧ 0 ≤ b.toInt ∧ b.toInt ≤ 384) (hQ : ∀ J, Q (some (nI 0)) J) : am_J G (d + 5) mX10_call TH Q 0 [some (.inr (0, 0)), some (.inl (nI i)), some (.inl (nI 7)), some (.inl (nI a)), some (.inl b), some (.inl c), some (.inl e), none] [] I := by
  have hn4 := hG.hi
  have hn2 := hG.lo
  refine am_aload_n dX10_call_0 rfl ?_
  refine am_iload_n dX10_call_1 rfl ?_
  refine am_callVx (i := 0) (j := 0) (as := [.inl (nI i)]) (rest := []) dX10_call_2 lkX10_isNode ml_X10_65 imX10_isNode seX10_isNode rfl rfl (hG.m0 (by decide)) rfl (Nat.le_of_ble_eq_true rfl) rfl (c_isNodeY hG hi I) ?_
  refine am_if_eq (tgt := 22) dX10_call_5 (by decide) (fun h => absurd h (by decide)) (fun _ => ?_)
  refine am_iload_n dX10_call_8 rfl ?_
  refine am_iload_n dX10_call_9 rfl ?_
  refine am_iload dX10_call_10 rfl ?_
  refine am_iload dX10_call_12 rfl ?_
  refine am_iload dX10_call_14 rfl ?_
  refine am_callSx (as := [.inl (nI 7), .inl (nI a), .inl b, .inl c, .inl e]) (rest := []) dX10_call_16 lkX10_isCall ml_X10_69 isX10_isCall rfl (Nat.le_of_ble_eq_true rfl) rfl (c_isCall7 hG.nd (nI a) b c e I) ?_
  refine am_if_ne (tgt := 32) dX10_call_19 (by decide) (fun _ => ?_) (fun h => absurd h (fun z => ((am_bn _).mpr (decide_eq_true hP)) z))
  refine am_aload_n dX10_call_32 rfl ?_
  refine am_get (v := .inr (0, 2)) dX10_call_33 fl_10_19 (hG.m0 (by decide)) rfl ?_
  refine am_iload_n dX10_call_36 rfl ?_
  refine am_aald (a := i) dX10_call_37 (hG.m0 (by decide)) rfl rfl (by omega) hG.n31 ?_
  refine am_astore dX10_call_38 (by decide) ?_
  refine am_aload dX10_call_40 rfl ?_
  refine am_get (v := .inl (I i 40 5)) dX10_call_42 fl_10_80 (hG.mn hi (by decide) (by decide)) rfl ?_
  refine am_top (show I i 40 5 = nI 1 from (by simp [am_up, am_upf, upd, hI, am_fr, am_dk])) ?_
  refine am_if_eq (tgt := 60) dX10_call_45 (by decide) (fun h => absurd h (by decide)) (fun _ => ?_)
  refine am_aload dX10_call_48 rfl ?_
  refine am_get (v := .inr (i, 55)) dX10_call_50 fl_10_84 (hG.mn hi (by decide) (by decide)) rfl ?_
  refine am_get (v := .inl (I i 55 5)) dX10_call_53 fl_10_88 (hG.mn hi (by decide) (by decide)) rfl ?_
  refine am_top (show I i 55 5 = nI 0 from (by simp [am_up, am_upf, upd, hI, am_fr, am_dk])) ?_
  refine am_iconst (v := nI 1) dX10_call_56 (by decide) ?_
  refine am_icmp_ne (tgt := 70) dX10_call_57 (by decide) (fun _ => ?_) (fun h => absurd h (by decide))
  refine am_aload dX10_call_70 rfl ?_
  refine am_get (v := .inr (i, 55)) dX10_call_72 fl_10_84 (hG.mn hi (by decide) (by decide)) rfl ?_
  refine am_iload_n dX10_call_75 rfl ?_
  refine am_aload_n dX10_call_76 rfl ?_
  refine am_get (v := .inl (I 0 0 7)) dX10_call_77 fl_10_99 (hG.m0 (by decide)) rfl ?_
  refine am_top (show I 0 0 7 = nI 0 from (by simp [am_up, am_upf, upd, hI, am_fr, am_dk])) ?_
  refine am_callVe (i := i) (j := 55) (as := [.inl (nI 7), .inl (nI 0)]) (rest := []) dX10_call_80 lkX8_begin ml_X10_102 imX8_begin seX8_begin rfl rfl (hG.mn hi (by decide) (by decide)) rfl (Nat.le_of_ble_eq_true rfl) rfl (c_Tbegin hG hi (nI 7) (nI 0) I) ?_
  refine am_nm (fun I1 hI1 => ?_)
  refine am_aload dX10_call_83 rfl ?_
  refine am_get (v := .inr (i, 55)) dX10_call_85 fl_10_84 (hG.mn hi (by decide) (by decide)) rfl ?_
  refine am_iload_n dX10_call_88 rfl ?_
  refine am_iload dX10_call_89 rfl ?_
  refine am_iload dX10_call_91 rfl ?_
  refine am_iload dX10_call_93 rfl ?_
  refine am_callVe (i := i) (j := 55) (as := [.inl (nI a), .inl b, .inl c, .inl e]) (rest := []) dX10_call_95 lkX8_take ml_X10_106 imX8_take seX8_take rfl rfl (hG.mn hi (by decide) (by decide)) rfl (Nat.le_of_ble_eq_true rfl) rfl (c_Ttake hG hi (nI a) b c e I1) ?_
  refine am_nm (fun I2 hI2 => ?_)
  refine am_aload_n dX10_call_98 rfl ?_
  refine am_aload dX10_call_99 rfl ?_
  refine am_callVv (i := 0) (j := 0) (as := [.inr (i, 40)]) (rest := []) dX10_call_101 lkX10_goOn ml_X10_110 imX10_goOn seX10_goOn rfl rfl (hG.m0 (by decide)) rfl (Nat.le_of_ble_eq_true rfl) rfl (c_goOn7 (a := a) hG hi (by omega) I2 (fun x hx => by simp [am_up, am_upf, upd, hI, am_fr, hI1, hI2]) (fun x hx => by simp [am_up, am_upf, upd, hI, am_fr, hI1, hI2]) (by simp [am_up, am_upf, upd, hI, am_fr, am_dk, hI1, hI2]) (by simp [am_up, am_upf, upd, hI, am_fr, am_dk, hI1, hI2]) (by simp [am_up, am_upf, upd, hI, am_fr, am_dk, hI1, hI2]) (by simp [am_up, am_upf, upd, hI, am_fr, am_dk, hI1, hI2]) (by simp [am_up, am_upf, upd, hI, am_fr, am_dk, hI1, hI2]) (by simp [am_up, am_upf, upd, hI, am_fr, am_dk, hI1, hI2]) (by simp [am_up, am_upf, upd, hI, am_fr, am_dk, hI1, hI2]) (by simp [am_up, am_upf, upd, hI, am_fr, am_dk, hI1, hI2]) (by simp [am_up, am_upf, upd, hI, am_fr, am_dk, hI1, hI2]) (by simp [am_up, am_upf, upd, hI, am_fr, am_dk, hI1, hI2]) (by simp [am_up, am_upf, upd, hI, am_fr, am_dk, hI1, hI2]) (by simp [am_up, am_upf, upd, hI, am_fr, am_dk, hI1, hI2]) (by simp [am_up, am_upf, upd, hI, am_fr, am_dk, hI1, hI2]) (by simp [am_up, am_upf, upd, hI, am_fr, am_dk, hI1, hI2]) (by simp [am_up, am_upf, upd, hI, am_fr, am_dk, hI1, hI2]) (by simp [am_up, am_upf, upd, hI, am_fr, am_dk, hI1, hI2]) (by simp [am_up, am_upf, upd, hI, am_fr, am_dk, hI1, hI2])) rfl (fun I9 hq => ?_)
  have hst2 := hq.2
  refine am_nm (fun I3 hI3 => ?_)
  refine am_aload dX10_call_104 rfl ?_
  refine am_get (v := .inr (i, 55)) dX10_call_106 fl_10_84 (hG.mn hi (by decide) (by decide)) rfl ?_
  refine am_get (v := .inl (I3 i 55 5)) dX10_call_109 fl_10_88 (hG.mn hi (by decide) (by decide)) rfl ?_
  refine am_top (show I3 i 55 5 = nI 1 from (by simp [am_up, am_upf, upd, hI, am_fr, am_dk, hI1, hI2, hst2, hI3])) ?_
  refine am_iconst (v := nI 1) dX10_call_112 (by decide) ?_
  refine am_icmp_ne (tgt := 120) dX10_call_113 (by decide) (fun h => absurd h (by decide)) (fun _ => ?_)
  refine am_iconst (v := nI 0) dX10_call_116 (by decide) ?_
  refine am_goto (tgt := 121) dX10_call_117 (by decide) ?_
  refine am_iret dX10_call_121 rfl rfl ?_
  exact hQ _
theorem j_call8 {G : am_G} (hG : am_ok G) {d : Nat} {TH : Nat → List (Option am_V) → List am_V → am_I → Prop} {Q : Option Int32 → am_I → Prop} {I : am_I} {i : Nat} (hi : i < G.2.2.2.1) {a : Nat} (hab : a < 128) (b c e : Int32) (hI : I = am_fr G.2.2.2.1) (hP : 0 ≤ (nI a).toInt ∧ (nI a).toInt < 128 ∧ 0 ≤ b.toInt ∧ b.toInt < 192) (hQ : ∀ J, Q (some (nI 0)) J) : am_J G (d + 5) mX10_call TH Q 0 [some (.inr (0, 0)), some (.inl (nI i)), some (.inl (nI 8)), some (.inl (nI a)), some (.inl b), some (.inl c), some (.inl e), none] [] I := by
  have hn4 := hG.hi
  have hn2 := hG.lo
  refine am_aload_n dX10_call_0 rfl ?_
  refine am_iload_n dX10_call_1 rfl ?_
  refine am_callVx (i := 0) (j := 0) (as := [.inl (nI i)]) (rest := []) dX10_call_2 lkX10_isNode ml_X10_65 imX10_isNode seX10_isNode rfl rfl (hG.m0 (by decide)) rfl (Nat.le_of_ble_eq_true rfl) rfl (c_isNodeY hG hi I) ?_
  refine am_if_eq (tgt := 22) dX10_call_5 (by decide) (fun h => absurd h (by decide)) (fun _ => ?_)
  refine am_iload_n dX10_call_8 rfl ?_
  refine am_iload_n dX10_call_9 rfl ?_
  refine am_iload dX10_call_10 rfl ?_
  refine am_iload dX10_call_12 rfl ?_
  refine am_iload dX10_call_14 rfl ?_
  refine am_callSx (as := [.inl (nI 8), .inl (nI a), .inl b, .inl c, .inl e]) (rest := []) dX10_call_16 lkX10_isCall ml_X10_69 isX10_isCall rfl (Nat.le_of_ble_eq_true rfl) rfl (c_isCall8 hG.nd (nI a) b c e I) ?_
  refine am_if_ne (tgt := 32) dX10_call_19 (by decide) (fun _ => ?_) (fun h => absurd h (fun z => ((am_bn _).mpr (decide_eq_true hP)) z))
  refine am_aload_n dX10_call_32 rfl ?_
  refine am_get (v := .inr (0, 2)) dX10_call_33 fl_10_19 (hG.m0 (by decide)) rfl ?_
  refine am_iload_n dX10_call_36 rfl ?_
  refine am_aald (a := i) dX10_call_37 (hG.m0 (by decide)) rfl rfl (by omega) hG.n31 ?_
  refine am_astore dX10_call_38 (by decide) ?_
  refine am_aload dX10_call_40 rfl ?_
  refine am_get (v := .inl (I i 40 5)) dX10_call_42 fl_10_80 (hG.mn hi (by decide) (by decide)) rfl ?_
  refine am_top (show I i 40 5 = nI 1 from (by simp [am_up, am_upf, upd, hI, am_fr, am_dk])) ?_
  refine am_if_eq (tgt := 60) dX10_call_45 (by decide) (fun h => absurd h (by decide)) (fun _ => ?_)
  refine am_aload dX10_call_48 rfl ?_
  refine am_get (v := .inr (i, 55)) dX10_call_50 fl_10_84 (hG.mn hi (by decide) (by decide)) rfl ?_
  refine am_get (v := .inl (I i 55 5)) dX10_call_53 fl_10_88 (hG.mn hi (by decide) (by decide)) rfl ?_
  refine am_top (show I i 55 5 = nI 0 from (by simp [am_up, am_upf, upd, hI, am_fr, am_dk])) ?_
  refine am_iconst (v := nI 1) dX10_call_56 (by decide) ?_
  refine am_icmp_ne (tgt := 70) dX10_call_57 (by decide) (fun _ => ?_) (fun h => absurd h (by decide))
  refine am_aload dX10_call_70 rfl ?_
  refine am_get (v := .inr (i, 55)) dX10_call_72 fl_10_84 (hG.mn hi (by decide) (by decide)) rfl ?_
  refine am_iload_n dX10_call_75 rfl ?_
  refine am_aload_n dX10_call_76 rfl ?_
  refine am_get (v := .inl (I 0 0 7)) dX10_call_77 fl_10_99 (hG.m0 (by decide)) rfl ?_
  refine am_top (show I 0 0 7 = nI 0 from (by simp [am_up, am_upf, upd, hI, am_fr, am_dk])) ?_
  refine am_callVe (i := i) (j := 55) (as := [.inl (nI 8), .inl (nI 0)]) (rest := []) dX10_call_80 lkX8_begin ml_X10_102 imX8_begin seX8_begin rfl rfl (hG.mn hi (by decide) (by decide)) rfl (Nat.le_of_ble_eq_true rfl) rfl (c_Tbegin hG hi (nI 8) (nI 0) I) ?_
  refine am_nm (fun I1 hI1 => ?_)
  refine am_aload dX10_call_83 rfl ?_
  refine am_get (v := .inr (i, 55)) dX10_call_85 fl_10_84 (hG.mn hi (by decide) (by decide)) rfl ?_
  refine am_iload_n dX10_call_88 rfl ?_
  refine am_iload dX10_call_89 rfl ?_
  refine am_iload dX10_call_91 rfl ?_
  refine am_iload dX10_call_93 rfl ?_
  refine am_callVe (i := i) (j := 55) (as := [.inl (nI a), .inl b, .inl c, .inl e]) (rest := []) dX10_call_95 lkX8_take ml_X10_106 imX8_take seX8_take rfl rfl (hG.mn hi (by decide) (by decide)) rfl (Nat.le_of_ble_eq_true rfl) rfl (c_Ttake hG hi (nI a) b c e I1) ?_
  refine am_nm (fun I2 hI2 => ?_)
  refine am_aload_n dX10_call_98 rfl ?_
  refine am_aload dX10_call_99 rfl ?_
  refine am_callVv (i := 0) (j := 0) (as := [.inr (i, 40)]) (rest := []) dX10_call_101 lkX10_goOn ml_X10_110 imX10_goOn seX10_goOn rfl rfl (hG.m0 (by decide)) rfl (Nat.le_of_ble_eq_true rfl) rfl (c_goOn8 (a := a) hG hi (by omega) I2 (fun x hx => by simp [am_up, am_upf, upd, hI, am_fr, hI1, hI2]) (fun x hx => by simp [am_up, am_upf, upd, hI, am_fr, hI1, hI2]) (by simp [am_up, am_upf, upd, hI, am_fr, am_dk, hI1, hI2]) (by simp [am_up, am_upf, upd, hI, am_fr, am_dk, hI1, hI2]) (by simp [am_up, am_upf, upd, hI, am_fr, am_dk, hI1, hI2]) (by simp [am_up, am_upf, upd, hI, am_fr, am_dk, hI1, hI2]) (by simp [am_up, am_upf, upd, hI, am_fr, am_dk, hI1, hI2]) (by simp [am_up, am_upf, upd, hI, am_fr, am_dk, hI1, hI2]) (by simp [am_up, am_upf, upd, hI, am_fr, am_dk, hI1, hI2]) (by simp [am_up, am_upf, upd, hI, am_fr, am_dk, hI1, hI2]) (by simp [am_up, am_upf, upd, hI, am_fr, am_dk, hI1, hI2]) (by simp [am_up, am_upf, upd, hI, am_fr, am_dk, hI1, hI2]) (by simp [am_up, am_upf, upd, hI, am_fr, am_dk, hI1, hI2]) (by simp [am_up, am_upf, upd, hI, am_fr, am_dk, hI1, hI2]) (by simp [am_up, am_upf, upd, hI, am_fr, am_dk, hI1, hI2]) (by simp [am_up, am_upf, upd, hI, am_fr, am_dk, hI1, hI2]) (by simp [am_up, am_upf, upd, hI, am_fr, am_dk, hI1, hI2]) (by simp [am_up, am_upf, upd, hI, am_fr, am_dk, hI1, hI2]) (by simp [am_up, am_upf, upd, hI, am_fr, am_dk, hI1, hI2])) rfl (fun I9 hq => ?_)
  have hst2 := hq.2
  refine am_nm (fun I3 hI3 => ?_)
  refine am_aload dX10_call_104 rfl ?_
  refine am_get (v := .inr (i, 55)) dX10_call_106 fl_10_84 (hG.mn hi (by decide) (by decide)) rfl ?_
  refine am_get (v := .inl (I3 i 55 5)) dX10_call_109 fl_10_88 (hG.mn hi (by decide) (by decide)) rfl ?_
  refine am_top (show I3 i 55 5 = nI 1 from (by simp [am_up, am_upf, upd, hI, am_fr, am_dk, hI1, hI2, hst2, hI3])) ?_
  refine am_iconst (v := nI 1) dX10_call_112 (by decide) ?_
  refine am_icmp_ne (tgt := 120) dX10_call_113 (by decide) (fun h => absurd h (by decide)) (fun _ => ?_)
  refine am_iconst (v := nI 0) dX10_call_116 (by decide) ?_
  refine am_goto (tgt := 121) dX10_call_117 (by decide) ?_
  refine am_iret dX10_call_121 rfl rfl ?_
  exact hQ _
theorem j_call9 {G : am_G} (hG : am_ok G) {d : Nat} {TH : Nat → List (Option am_V) → List am_V → am_I → Prop} {Q : Option Int32 → am_I → Prop} {I : am_I} {i : Nat} (hi : i < G.2.2.2.1) {a : Nat} (hab : a < 128) (b c e : Int32) (hI : I = am_fr G.2.2.2.1) (hP : 0 ≤ (nI a).toInt ∧ (nI a).toInt < 128 ∧ 0 ≤ b.toInt ∧ b.toInt ≤ 3) (hQ : ∀ J, Q (some (nI 0)) J) : am_J G (d + 5) mX10_call TH Q 0 [some (.inr (0, 0)), some (.inl (nI i)), some (.inl (nI 9)), some (.inl (nI a)), some (.inl b), some (.inl c), some (.inl e), none] [] I := by
  have hn4 := hG.hi
  have hn2 := hG.lo
  refine am_aload_n dX10_call_0 rfl ?_
  refine am_iload_n dX10_call_1 rfl ?_
  refine am_callVx (i := 0) (j := 0) (as := [.inl (nI i)]) (rest := []) dX10_call_2 lkX10_isNode ml_X10_65 imX10_isNode seX10_isNode rfl rfl (hG.m0 (by decide)) rfl (Nat.le_of_ble_eq_true rfl) rfl (c_isNodeY hG hi I) ?_
  refine am_if_eq (tgt := 22) dX10_call_5 (by decide) (fun h => absurd h (by decide)) (fun _ => ?_)
  refine am_iload_n dX10_call_8 rfl ?_
  refine am_iload_n dX10_call_9 rfl ?_
  refine am_iload dX10_call_10 rfl ?_
  refine am_iload dX10_call_12 rfl ?_
  refine am_iload dX10_call_14 rfl ?_
  refine am_callSx (as := [.inl (nI 9), .inl (nI a), .inl b, .inl c, .inl e]) (rest := []) dX10_call_16 lkX10_isCall ml_X10_69 isX10_isCall rfl (Nat.le_of_ble_eq_true rfl) rfl (c_isCall9 hG.nd (nI a) b c e I) ?_
  refine am_if_ne (tgt := 32) dX10_call_19 (by decide) (fun _ => ?_) (fun h => absurd h (fun z => ((am_bn _).mpr (decide_eq_true hP)) z))
  refine am_aload_n dX10_call_32 rfl ?_
  refine am_get (v := .inr (0, 2)) dX10_call_33 fl_10_19 (hG.m0 (by decide)) rfl ?_
  refine am_iload_n dX10_call_36 rfl ?_
  refine am_aald (a := i) dX10_call_37 (hG.m0 (by decide)) rfl rfl (by omega) hG.n31 ?_
  refine am_astore dX10_call_38 (by decide) ?_
  refine am_aload dX10_call_40 rfl ?_
  refine am_get (v := .inl (I i 40 5)) dX10_call_42 fl_10_80 (hG.mn hi (by decide) (by decide)) rfl ?_
  refine am_top (show I i 40 5 = nI 1 from (by simp [am_up, am_upf, upd, hI, am_fr, am_dk])) ?_
  refine am_if_eq (tgt := 60) dX10_call_45 (by decide) (fun h => absurd h (by decide)) (fun _ => ?_)
  refine am_aload dX10_call_48 rfl ?_
  refine am_get (v := .inr (i, 55)) dX10_call_50 fl_10_84 (hG.mn hi (by decide) (by decide)) rfl ?_
  refine am_get (v := .inl (I i 55 5)) dX10_call_53 fl_10_88 (hG.mn hi (by decide) (by decide)) rfl ?_
  refine am_top (show I i 55 5 = nI 0 from (by simp [am_up, am_upf, upd, hI, am_fr, am_dk])) ?_
  refine am_iconst (v := nI 1) dX10_call_56 (by decide) ?_
  refine am_icmp_ne (tgt := 70) dX10_call_57 (by decide) (fun _ => ?_) (fun h => absurd h (by decide))
  refine am_aload dX10_call_70 rfl ?_
  refine am_get (v := .inr (i, 55)) dX10_call_72 fl_10_84 (hG.mn hi (by decide) (by decide)) rfl ?_
  refine am_iload_n dX10_call_75 rfl ?_
  refine am_aload_n dX10_call_76 rfl ?_
  refine am_get (v := .inl (I 0 0 7)) dX10_call_77 fl_10_99 (hG.m0 (by decide)) rfl ?_
  refine am_top (show I 0 0 7 = nI 0 from (by simp [am_up, am_upf, upd, hI, am_fr, am_dk])) ?_
  refine am_callVe (i := i) (j := 55) (as := [.inl (nI 9), .inl (nI 0)]) (rest := []) dX10_call_80 lkX8_begin ml_X10_102 imX8_begin seX8_begin rfl rfl (hG.mn hi (by decide) (by decide)) rfl (Nat.le_of_ble_eq_true rfl) rfl (c_Tbegin hG hi (nI 9) (nI 0) I) ?_
  refine am_nm (fun I1 hI1 => ?_)
  refine am_aload dX10_call_83 rfl ?_
  refine am_get (v := .inr (i, 55)) dX10_call_85 fl_10_84 (hG.mn hi (by decide) (by decide)) rfl ?_
  refine am_iload_n dX10_call_88 rfl ?_
  refine am_iload dX10_call_89 rfl ?_
  refine am_iload dX10_call_91 rfl ?_
  refine am_iload dX10_call_93 rfl ?_
  refine am_callVe (i := i) (j := 55) (as := [.inl (nI a), .inl b, .inl c, .inl e]) (rest := []) dX10_call_95 lkX8_take ml_X10_106 imX8_take seX8_take rfl rfl (hG.mn hi (by decide) (by decide)) rfl (Nat.le_of_ble_eq_true rfl) rfl (c_Ttake hG hi (nI a) b c e I1) ?_
  refine am_nm (fun I2 hI2 => ?_)
  refine am_aload_n dX10_call_98 rfl ?_
  refine am_aload dX10_call_99 rfl ?_
  refine am_callVv (i := 0) (j := 0) (as := [.inr (i, 40)]) (rest := []) dX10_call_101 lkX10_goOn ml_X10_110 imX10_goOn seX10_goOn rfl rfl (hG.m0 (by decide)) rfl (Nat.le_of_ble_eq_true rfl) rfl (c_goOn9 (a := a) hG hi (by omega) I2 (fun x hx => by simp [am_up, am_upf, upd, hI, am_fr, hI1, hI2]) (fun x hx => by simp [am_up, am_upf, upd, hI, am_fr, hI1, hI2]) (by simp [am_up, am_upf, upd, hI, am_fr, am_dk, hI1, hI2]) (by simp [am_up, am_upf, upd, hI, am_fr, am_dk, hI1, hI2]) (by simp [am_up, am_upf, upd, hI, am_fr, am_dk, hI1, hI2]) (by simp [am_up, am_upf, upd, hI, am_fr, am_dk, hI1, hI2]) (by simp [am_up, am_upf, upd, hI, am_fr, am_dk, hI1, hI2]) (by simp [am_up, am_upf, upd, hI, am_fr, am_dk, hI1, hI2]) (by simp [am_up, am_upf, upd, hI, am_fr, am_dk, hI1, hI2]) (by simp [am_up, am_upf, upd, hI, am_fr, am_dk, hI1, hI2]) (by simp [am_up, am_upf, upd, hI, am_fr, am_dk, hI1, hI2]) (by simp [am_up, am_upf, upd, hI, am_fr, am_dk, hI1, hI2]) (by simp [am_up, am_upf, upd, hI, am_fr, am_dk, hI1, hI2]) (by simp [am_up, am_upf, upd, hI, am_fr, am_dk, hI1, hI2]) (by simp [am_up, am_upf, upd, hI, am_fr, am_dk, hI1, hI2]) (by simp [am_up, am_upf, upd, hI, am_fr, am_dk, hI1, hI2]) (by simp [am_up, am_upf, upd, hI, am_fr, am_dk, hI1, hI2]) (by simp [am_up, am_upf, upd, hI, am_fr, am_dk, hI1, hI2]) (by simp [am_up, am_upf, upd, hI, am_fr, am_dk, hI1, hI2])) rfl (fun I9 hq => ?_)
  have hst2 := hq.2
  refine am_nm (fun I3 hI3 => ?_)
  refine am_aload dX10_call_104 rfl ?_
  refine am_get (v := .inr (i, 55)) dX10_call_106 fl_10_84 (hG.mn hi (by decide) (by decide)) rfl ?_
  refine am_get (v := .inl (I3 i 55 5)) dX10_call_109 fl_10_88 (hG.mn hi (by decide) (by decide)) rfl ?_
  refine am_top (show I3 i 55 5 = nI 1 from (by simp [am_up, am_upf, upd, hI, am_fr, am_dk, hI1, hI2, hst2, hI3])) ?_
  refine am_iconst (v := nI 1) dX10_call_112 (by decide) ?_
  refine am_icmp_ne (tgt := 120) dX10_call_113 (by decide) (fun h => absurd h (by decide)) (fun _ => ?_)
  refine am_iconst (v := nI 0) dX10_call_116 (by decide) ?_
  refine am_goto (tgt := 121) dX10_call_117 (by decide) ?_
  refine am_iret dX10_call_121 rfl rfl ?_
  exact hQ _
theorem j_call10 {G : am_G} (hG : am_ok G) {d : Nat} {TH : Nat → List (Option am_V) → List am_V → am_I → Prop} {Q : Option Int32 → am_I → Prop} {I : am_I} {i : Nat} (hi : i < G.2.2.2.1) (a b c e : Int32) (hI : I = am_fr G.2.2.2.1) (hP : True) (hQ : ∀ J, Q (some (nI 1)) J) : am_J G (d + 5) mX10_call TH Q 0 [some (.inr (0, 0)), some (.inl (nI i)), some (.inl (nI 10)), some (.inl a), some (.inl b), some (.inl c), some (.inl e), none] [] I := by
  have hn4 := hG.hi
  have hn2 := hG.lo
  refine am_aload_n dX10_call_0 rfl ?_
  refine am_iload_n dX10_call_1 rfl ?_
  refine am_callVx (i := 0) (j := 0) (as := [.inl (nI i)]) (rest := []) dX10_call_2 lkX10_isNode ml_X10_65 imX10_isNode seX10_isNode rfl rfl (hG.m0 (by decide)) rfl (Nat.le_of_ble_eq_true rfl) rfl (c_isNodeY hG hi I) ?_
  refine am_if_eq (tgt := 22) dX10_call_5 (by decide) (fun h => absurd h (by decide)) (fun _ => ?_)
  refine am_iload_n dX10_call_8 rfl ?_
  refine am_iload_n dX10_call_9 rfl ?_
  refine am_iload dX10_call_10 rfl ?_
  refine am_iload dX10_call_12 rfl ?_
  refine am_iload dX10_call_14 rfl ?_
  refine am_callSx (as := [.inl (nI 10), .inl a, .inl b, .inl c, .inl e]) (rest := []) dX10_call_16 lkX10_isCall ml_X10_69 isX10_isCall rfl (Nat.le_of_ble_eq_true rfl) rfl (c_isCall10 hG.nd a b c e I) ?_
  refine am_if_ne (tgt := 32) dX10_call_19 (by decide) (fun _ => ?_) (fun h => absurd h (fun z => ((am_bn _).mpr (decide_eq_true hP)) z))
  refine am_aload_n dX10_call_32 rfl ?_
  refine am_get (v := .inr (0, 2)) dX10_call_33 fl_10_19 (hG.m0 (by decide)) rfl ?_
  refine am_iload_n dX10_call_36 rfl ?_
  refine am_aald (a := i) dX10_call_37 (hG.m0 (by decide)) rfl rfl (by omega) hG.n31 ?_
  refine am_astore dX10_call_38 (by decide) ?_
  refine am_aload dX10_call_40 rfl ?_
  refine am_get (v := .inl (I i 40 5)) dX10_call_42 fl_10_80 (hG.mn hi (by decide) (by decide)) rfl ?_
  refine am_top (show I i 40 5 = nI 1 from (by simp [am_up, am_upf, upd, hI, am_fr, am_dk])) ?_
  refine am_if_eq (tgt := 60) dX10_call_45 (by decide) (fun h => absurd h (by decide)) (fun _ => ?_)
  refine am_aload dX10_call_48 rfl ?_
  refine am_get (v := .inr (i, 55)) dX10_call_50 fl_10_84 (hG.mn hi (by decide) (by decide)) rfl ?_
  refine am_get (v := .inl (I i 55 5)) dX10_call_53 fl_10_88 (hG.mn hi (by decide) (by decide)) rfl ?_
  refine am_top (show I i 55 5 = nI 0 from (by simp [am_up, am_upf, upd, hI, am_fr, am_dk])) ?_
  refine am_iconst (v := nI 1) dX10_call_56 (by decide) ?_
  refine am_icmp_ne (tgt := 70) dX10_call_57 (by decide) (fun _ => ?_) (fun h => absurd h (by decide))
  refine am_aload dX10_call_70 rfl ?_
  refine am_get (v := .inr (i, 55)) dX10_call_72 fl_10_84 (hG.mn hi (by decide) (by decide)) rfl ?_
  refine am_iload_n dX10_call_75 rfl ?_
  refine am_aload_n dX10_call_76 rfl ?_
  refine am_get (v := .inl (I 0 0 7)) dX10_call_77 fl_10_99 (hG.m0 (by decide)) rfl ?_
  refine am_top (show I 0 0 7 = nI 0 from (by simp [am_up, am_upf, upd, hI, am_fr, am_dk])) ?_
  refine am_callVe (i := i) (j := 55) (as := [.inl (nI 10), .inl (nI 0)]) (rest := []) dX10_call_80 lkX8_begin ml_X10_102 imX8_begin seX8_begin rfl rfl (hG.mn hi (by decide) (by decide)) rfl (Nat.le_of_ble_eq_true rfl) rfl (c_Tbegin hG hi (nI 10) (nI 0) I) ?_
  refine am_nm (fun I1 hI1 => ?_)
  refine am_aload dX10_call_83 rfl ?_
  refine am_get (v := .inr (i, 55)) dX10_call_85 fl_10_84 (hG.mn hi (by decide) (by decide)) rfl ?_
  refine am_iload_n dX10_call_88 rfl ?_
  refine am_iload dX10_call_89 rfl ?_
  refine am_iload dX10_call_91 rfl ?_
  refine am_iload dX10_call_93 rfl ?_
  refine am_callVe (i := i) (j := 55) (as := [.inl a, .inl b, .inl c, .inl e]) (rest := []) dX10_call_95 lkX8_take ml_X10_106 imX8_take seX8_take rfl rfl (hG.mn hi (by decide) (by decide)) rfl (Nat.le_of_ble_eq_true rfl) rfl (c_Ttake hG hi a b c e I1) ?_
  refine am_nm (fun I2 hI2 => ?_)
  refine am_aload_n dX10_call_98 rfl ?_
  refine am_aload dX10_call_99 rfl ?_
  refine am_callVv (i := 0) (j := 0) (as := [.inr (i, 40)]) (rest := []) dX10_call_101 lkX10_goOn ml_X10_110 imX10_goOn seX10_goOn rfl rfl (hG.m0 (by decide)) rfl (Nat.le_of_ble_eq_true rfl) rfl (c_goOn10 hG hi I2 (fun x hx => by simp [am_up, am_upf, upd, hI, am_fr, hI1, hI2]) (fun x hx => by simp [am_up, am_upf, upd, hI, am_fr, hI1, hI2]) (by simp [am_up, am_upf, upd, hI, am_fr, am_dk, hI1, hI2]) (by simp [am_up, am_upf, upd, hI, am_fr, am_dk, hI1, hI2]) (by simp [am_up, am_upf, upd, hI, am_fr, am_dk, hI1, hI2]) (by simp [am_up, am_upf, upd, hI, am_fr, am_dk, hI1, hI2]) (by simp [am_up, am_upf, upd, hI, am_fr, am_dk, hI1, hI2]) (by simp [am_up, am_upf, upd, hI, am_fr, am_dk, hI1, hI2]) (by simp [am_up, am_upf, upd, hI, am_fr, am_dk, hI1, hI2]) (by simp [am_up, am_upf, upd, hI, am_fr, am_dk, hI1, hI2]) (by simp [am_up, am_upf, upd, hI, am_fr, am_dk, hI1, hI2]) (by simp [am_up, am_upf, upd, hI, am_fr, am_dk, hI1, hI2]) (by simp [am_up, am_upf, upd, hI, am_fr, am_dk, hI1, hI2])) rfl (fun I9 hq => ?_)
  have hst2 := hq.2
  refine am_nm (fun I3 hI3 => ?_)
  refine am_aload dX10_call_104 rfl ?_
  refine am_get (v := .inr (i, 55)) dX10_call_106 fl_10_84 (hG.mn hi (by decide) (by decide)) rfl ?_
  refine am_get (v := .inl (I3 i 55 5)) dX10_call_109 fl_10_88 (hG.mn hi (by decide) (by decide)) rfl ?_
  refine am_top (show I3 i 55 5 = nI 2 from (by simp [am_up, am_upf, upd, hI, am_fr, am_dk, hI1, hI2, hst2, hI3])) ?_
  refine am_iconst (v := nI 1) dX10_call_112 (by decide) ?_
  refine am_icmp_ne (tgt := 120) dX10_call_113 (by decide) (fun _ => ?_) (fun h => absurd h (by decide))
  refine am_iconst (v := nI 1) dX10_call_120 (by decide) ?_
  refine am_iret dX10_call_121 rfl rfl ?_
  exact hQ _
theorem j_call11 {G : am_G} (hG : am_ok G) {d : Nat} {TH : Nat → List (Option am_V) → List am_V → am_I → Prop} {Q : Option Int32 → am_I → Prop} {I : am_I} {i : Nat} (hi : i < G.2.2.2.1) {a : Nat} (hab : a < 128) (b c e : Int32) (hI : I = am_fr G.2.2.2.1) (hP : 0 ≤ (nI a).toInt ∧ (nI a).toInt < 128 ∧ 0 ≤ b.toInt ∧ b.toInt < 384) (hQ : ∀ J, Q (some (nI 0)) J) : am_J G (d + 5) mX10_call TH Q 0 [some (.inr (0, 0)), some (.inl (nI i)), some (.inl (nI 11)), some (.inl (nI a)), some (.inl b), some (.inl c), some (.inl e), none] [] I := by
  have hn4 := hG.hi
  have hn2 := hG.lo
  refine am_aload_n dX10_call_0 rfl ?_
  refine am_iload_n dX10_call_1 rfl ?_
  refine am_callVx (i := 0) (j := 0) (as := [.inl (nI i)]) (rest := []) dX10_call_2 lkX10_isNode ml_X10_65 imX10_isNode seX10_isNode rfl rfl (hG.m0 (by decide)) rfl (Nat.le_of_ble_eq_true rfl) rfl (c_isNodeY hG hi I) ?_
  refine am_if_eq (tgt := 22) dX10_call_5 (by decide) (fun h => absurd h (by decide)) (fun _ => ?_)
  refine am_iload_n dX10_call_8 rfl ?_
  refine am_iload_n dX10_call_9 rfl ?_
  refine am_iload dX10_call_10 rfl ?_
  refine am_iload dX10_call_12 rfl ?_
  refine am_iload dX10_call_14 rfl ?_
  refine am_callSx (as := [.inl (nI 11), .inl (nI a), .inl b, .inl c, .inl e]) (rest := []) dX10_call_16 lkX10_isCall ml_X10_69 isX10_isCall rfl (Nat.le_of_ble_eq_true rfl) rfl (c_isCall11 hG.nd (nI a) b c e I) ?_
  refine am_if_ne (tgt := 32) dX10_call_19 (by decide) (fun _ => ?_) (fun h => absurd h (fun z => ((am_bn _).mpr (decide_eq_true hP)) z))
  refine am_aload_n dX10_call_32 rfl ?_
  refine am_get (v := .inr (0, 2)) dX10_call_33 fl_10_19 (hG.m0 (by decide)) rfl ?_
  refine am_iload_n dX10_call_36 rfl ?_
  refine am_aald (a := i) dX10_call_37 (hG.m0 (by decide)) rfl rfl (by omega) hG.n31 ?_
  refine am_astore dX10_call_38 (by decide) ?_
  refine am_aload dX10_call_40 rfl ?_
  refine am_get (v := .inl (I i 40 5)) dX10_call_42 fl_10_80 (hG.mn hi (by decide) (by decide)) rfl ?_
  refine am_top (show I i 40 5 = nI 1 from (by simp [am_up, am_upf, upd, hI, am_fr, am_dk])) ?_
  refine am_if_eq (tgt := 60) dX10_call_45 (by decide) (fun h => absurd h (by decide)) (fun _ => ?_)
  refine am_aload dX10_call_48 rfl ?_
  refine am_get (v := .inr (i, 55)) dX10_call_50 fl_10_84 (hG.mn hi (by decide) (by decide)) rfl ?_
  refine am_get (v := .inl (I i 55 5)) dX10_call_53 fl_10_88 (hG.mn hi (by decide) (by decide)) rfl ?_
  refine am_top (show I i 55 5 = nI 0 from (by simp [am_up, am_upf, upd, hI, am_fr, am_dk])) ?_
  refine am_iconst (v := nI 1) dX10_call_56 (by decide) ?_
  refine am_icmp_ne (tgt := 70) dX10_call_57 (by decide) (fun _ => ?_) (fun h => absurd h (by decide))
  refine am_aload dX10_call_70 rfl ?_
  refine am_get (v := .inr (i, 55)) dX10_call_72 fl_10_84 (hG.mn hi (by decide) (by decide)) rfl ?_
  refine am_iload_n dX10_call_75 rfl ?_
  refine am_aload_n dX10_call_76 rfl ?_
  refine am_get (v := .inl (I 0 0 7)) dX10_call_77 fl_10_99 (hG.m0 (by decide)) rfl ?_
  refine am_top (show I 0 0 7 = nI 0 from (by simp [am_up, am_upf, upd, hI, am_fr, am_dk])) ?_
  refine am_callVe (i := i) (j := 55) (as := [.inl (nI 11), .inl (nI 0)]) (rest := []) dX10_call_80 lkX8_begin ml_X10_102 imX8_begin seX8_begin rfl rfl (hG.mn hi (by decide) (by decide)) rfl (Nat.le_of_ble_eq_true rfl) rfl (c_Tbegin hG hi (nI 11) (nI 0) I) ?_
  refine am_nm (fun I1 hI1 => ?_)
  refine am_aload dX10_call_83 rfl ?_
  refine am_get (v := .inr (i, 55)) dX10_call_85 fl_10_84 (hG.mn hi (by decide) (by decide)) rfl ?_
  refine am_iload_n dX10_call_88 rfl ?_
  refine am_iload dX10_call_89 rfl ?_
  refine am_iload dX10_call_91 rfl ?_
  refine am_iload dX10_call_93 rfl ?_
  refine am_callVe (i := i) (j := 55) (as := [.inl (nI a), .inl b, .inl c, .inl e]) (rest := []) dX10_call_95 lkX8_take ml_X10_106 imX8_take seX8_take rfl rfl (hG.mn hi (by decide) (by decide)) rfl (Nat.le_of_ble_eq_true rfl) rfl (c_Ttake hG hi (nI a) b c e I1) ?_
  refine am_nm (fun I2 hI2 => ?_)
  refine am_aload_n dX10_call_98 rfl ?_
  refine am_aload dX10_call_99 rfl ?_
  refine am_callVv (i := 0) (j := 0) (as := [.inr (i, 40)]) (rest := []) dX10_call_101 lkX10_goOn ml_X10_110 imX10_goOn seX10_goOn rfl rfl (hG.m0 (by decide)) rfl (Nat.le_of_ble_eq_true rfl) rfl (c_goOn11 (a := a) hG hi (by omega) I2 (fun x hx => by simp [am_up, am_upf, upd, hI, am_fr, hI1, hI2]) (fun x hx => by simp [am_up, am_upf, upd, hI, am_fr, hI1, hI2]) (by simp [am_up, am_upf, upd, hI, am_fr, am_dk, hI1, hI2]) (by simp [am_up, am_upf, upd, hI, am_fr, am_dk, hI1, hI2]) (by simp [am_up, am_upf, upd, hI, am_fr, am_dk, hI1, hI2]) (by simp [am_up, am_upf, upd, hI, am_fr, am_dk, hI1, hI2]) (by simp [am_up, am_upf, upd, hI, am_fr, am_dk, hI1, hI2]) (by simp [am_up, am_upf, upd, hI, am_fr, am_dk, hI1, hI2]) (by simp [am_up, am_upf, upd, hI, am_fr, am_dk, hI1, hI2]) (by simp [am_up, am_upf, upd, hI, am_fr, am_dk, hI1, hI2]) (by simp [am_up, am_upf, upd, hI, am_fr, am_dk, hI1, hI2]) (by simp [am_up, am_upf, upd, hI, am_fr, am_dk, hI1, hI2]) (by simp [am_up, am_upf, upd, hI, am_fr, am_dk, hI1, hI2]) (by simp [am_up, am_upf, upd, hI, am_fr, am_dk, hI1, hI2]) (by simp [am_up, am_upf, upd, hI, am_fr, am_dk, hI1, hI2]) (by simp [am_up, am_upf, upd, hI, am_fr, am_dk, hI1, hI2]) (by simp [am_up, am_upf, upd, hI, am_fr, am_dk, hI1, hI2]) (by simp [am_up, am_upf, upd, hI, am_fr, am_dk, hI1, hI2]) (by simp [am_up, am_upf, upd, hI, am_fr, am_dk, hI1, hI2])) rfl (fun I9 hq => ?_)
  have hst2 := hq.2
  refine am_nm (fun I3 hI3 => ?_)
  refine am_aload dX10_call_104 rfl ?_
  refine am_get (v := .inr (i, 55)) dX10_call_106 fl_10_84 (hG.mn hi (by decide) (by decide)) rfl ?_
  refine am_get (v := .inl (I3 i 55 5)) dX10_call_109 fl_10_88 (hG.mn hi (by decide) (by decide)) rfl ?_
  refine am_top (show I3 i 55 5 = nI 1 from (by simp [am_up, am_upf, upd, hI, am_fr, am_dk, hI1, hI2, hst2, hI3])) ?_
  refine am_iconst (v := nI 1) dX10_call_112 (by decide) ?_
  refine am_icmp_ne (tgt := 120) dX10_call_113 (by decide) (fun h => absurd h (by decide)) (fun _ => ?_)
  refine am_iconst (v := nI 0) dX10_call_116 (by decide) ?_
  refine am_goto (tgt := 121) dX10_call_117 (by decide) ?_
  refine am_iret dX10_call_121 rfl rfl ?_
  exact hQ _
theorem j_call12 {G : am_G} (hG : am_ok G) {d : Nat} {TH : Nat → List (Option am_V) → List am_V → am_I → Prop} {Q : Option Int32 → am_I → Prop} {I : am_I} {i : Nat} (hi : i < G.2.2.2.1) {a : Nat} (hab : a < 128) (b c e : Int32) (hI : I = am_fr G.2.2.2.1) (hP : 0 ≤ (nI a).toInt ∧ (nI a).toInt < 128) (hQ : ∀ J, Q (some (nI 0)) J) : am_J G (d + 5) mX10_call TH Q 0 [some (.inr (0, 0)), some (.inl (nI i)), some (.inl (nI 12)), some (.inl (nI a)), some (.inl b), some (.inl c), some (.inl e), none] [] I := by
  have hn4 := hG.hi
  have hn2 := hG.lo
  refine am_aload_n dX10_call_0 rfl ?_
  refine am_iload_n dX10_call_1 rfl ?_
  refine am_callVx (i := 0) (j := 0) (as := [.inl (nI i)]) (rest := []) dX10_call_2 lkX10_isNode ml_X10_65 imX10_isNode seX10_isNode rfl rfl (hG.m0 (by decide)) rfl (Nat.le_of_ble_eq_true rfl) rfl (c_isNodeY hG hi I) ?_
  refine am_if_eq (tgt := 22) dX10_call_5 (by decide) (fun h => absurd h (by decide)) (fun _ => ?_)
  refine am_iload_n dX10_call_8 rfl ?_
  refine am_iload_n dX10_call_9 rfl ?_
  refine am_iload dX10_call_10 rfl ?_
  refine am_iload dX10_call_12 rfl ?_
  refine am_iload dX10_call_14 rfl ?_
  refine am_callSx (as := [.inl (nI 12), .inl (nI a), .inl b, .inl c, .inl e]) (rest := []) dX10_call_16 lkX10_isCall ml_X10_69 isX10_isCall rfl (Nat.le_of_ble_eq_true rfl) rfl (c_isCall12 hG.nd (nI a) b c e I) ?_
  refine am_if_ne (tgt := 32) dX10_call_19 (by decide) (fun _ => ?_) (fun h => absurd h (fun z => ((am_bn _).mpr (decide_eq_true hP)) z))
  refine am_aload_n dX10_call_32 rfl ?_
  refine am_get (v := .inr (0, 2)) dX10_call_33 fl_10_19 (hG.m0 (by decide)) rfl ?_
  refine am_iload_n dX10_call_36 rfl ?_
  refine am_aald (a := i) dX10_call_37 (hG.m0 (by decide)) rfl rfl (by omega) hG.n31 ?_
  refine am_astore dX10_call_38 (by decide) ?_
  refine am_aload dX10_call_40 rfl ?_
  refine am_get (v := .inl (I i 40 5)) dX10_call_42 fl_10_80 (hG.mn hi (by decide) (by decide)) rfl ?_
  refine am_top (show I i 40 5 = nI 1 from (by simp [am_up, am_upf, upd, hI, am_fr, am_dk])) ?_
  refine am_if_eq (tgt := 60) dX10_call_45 (by decide) (fun h => absurd h (by decide)) (fun _ => ?_)
  refine am_aload dX10_call_48 rfl ?_
  refine am_get (v := .inr (i, 55)) dX10_call_50 fl_10_84 (hG.mn hi (by decide) (by decide)) rfl ?_
  refine am_get (v := .inl (I i 55 5)) dX10_call_53 fl_10_88 (hG.mn hi (by decide) (by decide)) rfl ?_
  refine am_top (show I i 55 5 = nI 0 from (by simp [am_up, am_upf, upd, hI, am_fr, am_dk])) ?_
  refine am_iconst (v := nI 1) dX10_call_56 (by decide) ?_
  refine am_icmp_ne (tgt := 70) dX10_call_57 (by decide) (fun _ => ?_) (fun h => absurd h (by decide))
  refine am_aload dX10_call_70 rfl ?_
  refine am_get (v := .inr (i, 55)) dX10_call_72 fl_10_84 (hG.mn hi (by decide) (by decide)) rfl ?_
  refine am_iload_n dX10_call_75 rfl ?_
  refine am_aload_n dX10_call_76 rfl ?_
  refine am_get (v := .inl (I 0 0 7)) dX10_call_77 fl_10_99 (hG.m0 (by decide)) rfl ?_
  refine am_top (show I 0 0 7 = nI 0 from (by simp [am_up, am_upf, upd, hI, am_fr, am_dk])) ?_
  refine am_callVe (i := i) (j := 55) (as := [.inl (nI 12), .inl (nI 0)]) (rest := []) dX10_call_80 lkX8_begin ml_X10_102 imX8_begin seX8_begin rfl rfl (hG.mn hi (by decide) (by decide)) rfl (Nat.le_of_ble_eq_true rfl) rfl (c_Tbegin hG hi (nI 12) (nI 0) I) ?_
  refine am_nm (fun I1 hI1 => ?_)
  refine am_aload dX10_call_83 rfl ?_
  refine am_get (v := .inr (i, 55)) dX10_call_85 fl_10_84 (hG.mn hi (by decide) (by decide)) rfl ?_
  refine am_iload_n dX10_call_88 rfl ?_
  refine am_iload dX10_call_89 rfl ?_
  refine am_iload dX10_call_91 rfl ?_
  refine am_iload dX10_call_93 rfl ?_
  refine am_callVe (i := i) (j := 55) (as := [.inl (nI a), .inl b, .inl c, .inl e]) (rest := []) dX10_call_95 lkX8_take ml_X10_106 imX8_take seX8_take rfl rfl (hG.mn hi (by decide) (by decide)) rfl (Nat.le_of_ble_eq_true rfl) rfl (c_Ttake hG hi (nI a) b c e I1) ?_
  refine am_nm (fun I2 hI2 => ?_)
  refine am_aload_n dX10_call_98 rfl ?_
  refine am_aload dX10_call_99 rfl ?_
  refine am_callVv (i := 0) (j := 0) (as := [.inr (i, 40)]) (rest := []) dX10_call_101 lkX10_goOn ml_X10_110 imX10_goOn seX10_goOn rfl rfl (hG.m0 (by decide)) rfl (Nat.le_of_ble_eq_true rfl) rfl (c_goOn12 (a := a) hG hi (by omega) I2 (fun x hx => by simp [am_up, am_upf, upd, hI, am_fr, hI1, hI2]) (fun x hx => by simp [am_up, am_upf, upd, hI, am_fr, hI1, hI2]) (by simp [am_up, am_upf, upd, hI, am_fr, am_dk, hI1, hI2]) (by simp [am_up, am_upf, upd, hI, am_fr, am_dk, hI1, hI2]) (by simp [am_up, am_upf, upd, hI, am_fr, am_dk, hI1, hI2]) (by simp [am_up, am_upf, upd, hI, am_fr, am_dk, hI1, hI2]) (by simp [am_up, am_upf, upd, hI, am_fr, am_dk, hI1, hI2]) (by simp [am_up, am_upf, upd, hI, am_fr, am_dk, hI1, hI2]) (by simp [am_up, am_upf, upd, hI, am_fr, am_dk, hI1, hI2]) (by simp [am_up, am_upf, upd, hI, am_fr, am_dk, hI1, hI2]) (by simp [am_up, am_upf, upd, hI, am_fr, am_dk, hI1, hI2]) (by simp [am_up, am_upf, upd, hI, am_fr, am_dk, hI1, hI2]) (by simp [am_up, am_upf, upd, hI, am_fr, am_dk, hI1, hI2]) (by simp [am_up, am_upf, upd, hI, am_fr, am_dk, hI1, hI2]) (by simp [am_up, am_upf, upd, hI, am_fr, am_dk, hI1, hI2]) (by simp [am_up, am_upf, upd, hI, am_fr, am_dk, hI1, hI2]) (by simp [am_up, am_upf, upd, hI, am_fr, am_dk, hI1, hI2]) (by simp [am_up, am_upf, upd, hI, am_fr, am_dk, hI1, hI2]) (by simp [am_up, am_upf, upd, hI, am_fr, am_dk, hI1, hI2])) rfl (fun I9 hq => ?_)
  have hst2 := hq.2
  refine am_nm (fun I3 hI3 => ?_)
  refine am_aload dX10_call_104 rfl ?_
  refine am_get (v := .inr (i, 55)) dX10_call_106 fl_10_84 (hG.mn hi (by decide) (by decide)) rfl ?_
  refine am_get (v := .inl (I3 i 55 5)) dX10_call_109 fl_10_88 (hG.mn hi (by decide) (by decide)) rfl ?_
  refine am_top (show I3 i 55 5 = nI 1 from (by simp [am_up, am_upf, upd, hI, am_fr, am_dk, hI1, hI2, hst2, hI3])) ?_
  refine am_iconst (v := nI 1) dX10_call_112 (by decide) ?_
  refine am_icmp_ne (tgt := 120) dX10_call_113 (by decide) (fun h => absurd h (by decide)) (fun _ => ?_)
  refine am_iconst (v := nI 0) dX10_call_116 (by decide) ?_
  refine am_goto (tgt := 121) dX10_call_117 (by decide) ?_
  refine am_iret dX10_call_121 rfl rfl ?_
  exact hQ _
theorem j_call13 {G : am_G} (hG : am_ok G) {d : Nat} {TH : Nat → List (Option am_V) → List am_V → am_I → Prop} {Q : Option Int32 → am_I → Prop} {I : am_I} {i : Nat} (hi : i < G.2.2.2.1) {a : Nat} (hab : a < 128) (b c e : Int32) (hI : I = am_fr G.2.2.2.1) (hP : 0 ≤ (nI a).toInt ∧ (nI a).toInt < 128) (hQ : ∀ J, Q (some (nI 0)) J) : am_J G (d + 5) mX10_call TH Q 0 [some (.inr (0, 0)), some (.inl (nI i)), some (.inl (nI 13)), some (.inl (nI a)), some (.inl b), some (.inl c), some (.inl e), none] [] I := by
  have hn4 := hG.hi
  have hn2 := hG.lo
  refine am_aload_n dX10_call_0 rfl ?_
  refine am_iload_n dX10_call_1 rfl ?_
  refine am_callVx (i := 0) (j := 0) (as := [.inl (nI i)]) (rest := []) dX10_call_2 lkX10_isNode ml_X10_65 imX10_isNode seX10_isNode rfl rfl (hG.m0 (by decide)) rfl (Nat.le_of_ble_eq_true rfl) rfl (c_isNodeY hG hi I) ?_
  refine am_if_eq (tgt := 22) dX10_call_5 (by decide) (fun h => absurd h (by decide)) (fun _ => ?_)
  refine am_iload_n dX10_call_8 rfl ?_
  refine am_iload_n dX10_call_9 rfl ?_
  refine am_iload dX10_call_10 rfl ?_
  refine am_iload dX10_call_12 rfl ?_
  refine am_iload dX10_call_14 rfl ?_
  refine am_callSx (as := [.inl (nI 13), .inl (nI a), .inl b, .inl c, .inl e]) (rest := []) dX10_call_16 lkX10_isCall ml_X10_69 isX10_isCall rfl (Nat.le_of_ble_eq_true rfl) rfl (c_isCall13 hG.nd (nI a) b c e I) ?_
  refine am_if_ne (tgt := 32) dX10_call_19 (by decide) (fun _ => ?_) (fun h => absurd h (fun z => ((am_bn _).mpr (decide_eq_true hP)) z))
  refine am_aload_n dX10_call_32 rfl ?_
  refine am_get (v := .inr (0, 2)) dX10_call_33 fl_10_19 (hG.m0 (by decide)) rfl ?_
  refine am_iload_n dX10_call_36 rfl ?_
  refine am_aald (a := i) dX10_call_37 (hG.m0 (by decide)) rfl rfl (by omega) hG.n31 ?_
  refine am_astore dX10_call_38 (by decide) ?_
  refine am_aload dX10_call_40 rfl ?_
  refine am_get (v := .inl (I i 40 5)) dX10_call_42 fl_10_80 (hG.mn hi (by decide) (by decide)) rfl ?_
  refine am_top (show I i 40 5 = nI 1 from (by simp [am_up, am_upf, upd, hI, am_fr, am_dk])) ?_
  refine am_if_eq (tgt := 60) dX10_call_45 (by decide) (fun h => absurd h (by decide)) (fun _ => ?_)
  refine am_aload dX10_call_48 rfl ?_
  refine am_get (v := .inr (i, 55)) dX10_call_50 fl_10_84 (hG.mn hi (by decide) (by decide)) rfl ?_
  refine am_get (v := .inl (I i 55 5)) dX10_call_53 fl_10_88 (hG.mn hi (by decide) (by decide)) rfl ?_
  refine am_top (show I i 55 5 = nI 0 from (by simp [am_up, am_upf, upd, hI, am_fr, am_dk])) ?_
  refine am_iconst (v := nI 1) dX10_call_56 (by decide) ?_
  refine am_icmp_ne (tgt := 70) dX10_call_57 (by decide) (fun _ => ?_) (fun h => absurd h (by decide))
  refine am_aload dX10_call_70 rfl ?_
  refine am_get (v := .inr (i, 55)) dX10_call_72 fl_10_84 (hG.mn hi (by decide) (by decide)) rfl ?_
  refine am_iload_n dX10_call_75 rfl ?_
  refine am_aload_n dX10_call_76 rfl ?_
  refine am_get (v := .inl (I 0 0 7)) dX10_call_77 fl_10_99 (hG.m0 (by decide)) rfl ?_
  refine am_top (show I 0 0 7 = nI 0 from (by simp [am_up, am_upf, upd, hI, am_fr, am_dk])) ?_
  refine am_callVe (i := i) (j := 55) (as := [.inl (nI 13), .inl (nI 0)]) (rest := []) dX10_call_80 lkX8_begin ml_X10_102 imX8_begin seX8_begin rfl rfl (hG.mn hi (by decide) (by decide)) rfl (Nat.le_of_ble_eq_true rfl) rfl (c_Tbegin hG hi (nI 13) (nI 0) I) ?_
  refine am_nm (fun I1 hI1 => ?_)
  refine am_aload dX10_call_83 rfl ?_
  refine am_get (v := .inr (i, 55)) dX10_call_85 fl_10_84 (hG.mn hi (by decide) (by decide)) rfl ?_
  refine am_iload_n dX10_call_88 rfl ?_
  refine am_iload dX10_call_89 rfl ?_
  refine am_iload dX10_call_91 rfl ?_
  refine am_iload dX10_call_93 rfl ?_
  refine am_callVe (i := i) (j := 55) (as := [.inl (nI a), .inl b, .inl c, .inl e]) (rest := []) dX10_call_95 lkX8_take ml_X10_106 imX8_take seX8_take rfl rfl (hG.mn hi (by decide) (by decide)) rfl (Nat.le_of_ble_eq_true rfl) rfl (c_Ttake hG hi (nI a) b c e I1) ?_
  refine am_nm (fun I2 hI2 => ?_)
  refine am_aload_n dX10_call_98 rfl ?_
  refine am_aload dX10_call_99 rfl ?_
  refine am_callVv (i := 0) (j := 0) (as := [.inr (i, 40)]) (rest := []) dX10_call_101 lkX10_goOn ml_X10_110 imX10_goOn seX10_goOn rfl rfl (hG.m0 (by decide)) rfl (Nat.le_of_ble_eq_true rfl) rfl (c_goOn13 (a := a) hG hi (by omega) I2 (fun x hx => by simp [am_up, am_upf, upd, hI, am_fr, hI1, hI2]) (fun x hx => by simp [am_up, am_upf, upd, hI, am_fr, hI1, hI2]) (by simp [am_up, am_upf, upd, hI, am_fr, am_dk, hI1, hI2]) (by simp [am_up, am_upf, upd, hI, am_fr, am_dk, hI1, hI2]) (by simp [am_up, am_upf, upd, hI, am_fr, am_dk, hI1, hI2]) (by simp [am_up, am_upf, upd, hI, am_fr, am_dk, hI1, hI2]) (by simp [am_up, am_upf, upd, hI, am_fr, am_dk, hI1, hI2]) (by simp [am_up, am_upf, upd, hI, am_fr, am_dk, hI1, hI2]) (by simp [am_up, am_upf, upd, hI, am_fr, am_dk, hI1, hI2]) (by simp [am_up, am_upf, upd, hI, am_fr, am_dk, hI1, hI2]) (by simp [am_up, am_upf, upd, hI, am_fr, am_dk, hI1, hI2]) (by simp [am_up, am_upf, upd, hI, am_fr, am_dk, hI1, hI2]) (by simp [am_up, am_upf, upd, hI, am_fr, am_dk, hI1, hI2]) (by simp [am_up, am_upf, upd, hI, am_fr, am_dk, hI1, hI2]) (by simp [am_up, am_upf, upd, hI, am_fr, am_dk, hI1, hI2]) (by simp [am_up, am_upf, upd, hI, am_fr, am_dk, hI1, hI2]) (by simp [am_up, am_upf, upd, hI, am_fr, am_dk, hI1, hI2]) (by simp [am_up, am_upf, upd, hI, am_fr, am_dk, hI1, hI2]) (by simp [am_up, am_upf, upd, hI, am_fr, am_dk, hI1, hI2])) rfl (fun I9 hq => ?_)
  have hst2 := hq.2
  refine am_nm (fun I3 hI3 => ?_)
  refine am_aload dX10_call_104 rfl ?_
  refine am_get (v := .inr (i, 55)) dX10_call_106 fl_10_84 (hG.mn hi (by decide) (by decide)) rfl ?_
  refine am_get (v := .inl (I3 i 55 5)) dX10_call_109 fl_10_88 (hG.mn hi (by decide) (by decide)) rfl ?_
  refine am_top (show I3 i 55 5 = nI 1 from (by simp [am_up, am_upf, upd, hI, am_fr, am_dk, hI1, hI2, hst2, hI3])) ?_
  refine am_iconst (v := nI 1) dX10_call_112 (by decide) ?_
  refine am_icmp_ne (tgt := 120) dX10_call_113 (by decide) (fun h => absurd h (by decide)) (fun _ => ?_)
  refine am_iconst (v := nI 0) dX10_call_116 (by decide) ?_
  refine am_goto (tgt := 121) dX10_call_117 (by decide) ?_
  refine am_iret dX10_call_121 rfl rfl ?_
  exact hQ _
theorem j_call14 {G : am_G} (hG : am_ok G) {d : Nat} {TH : Nat → List (Option am_V) → List am_V → am_I → Prop} {Q : Option Int32 → am_I → Prop} {I : am_I} {i : Nat} (hi : i < G.2.2.2.1) (a b c e : Int32) (hI : I = am_fr G.2.2.2.1) (hP : True) (hQ : ∀ J, Q (some (nI 0)) J) : am_J G (d + 5) mX10_call TH Q 0 [some (.inr (0, 0)), some (.inl (nI i)), some (.inl (nI 14)), some (.inl a), some (.inl b), some (.inl c), some (.inl e), none] [] I := by
  have hn4 := hG.hi
  have hn2 := hG.lo
  refine am_aload_n dX10_call_0 rfl ?_
  refine am_iload_n dX10_call_1 rfl ?_
  refine am_callVx (i := 0) (j := 0) (as := [.inl (nI i)]) (rest := []) dX10_call_2 lkX10_isNode ml_X10_65 imX10_isNode seX10_isNode rfl rfl (hG.m0 (by decide)) rfl (Nat.le_of_ble_eq_true rfl) rfl (c_isNodeY hG hi I) ?_
  refine am_if_eq (tgt := 22) dX10_call_5 (by decide) (fun h => absurd h (by decide)) (fun _ => ?_)
  refine am_iload_n dX10_call_8 rfl ?_
  refine am_iload_n dX10_call_9 rfl ?_
  refine am_iload dX10_call_10 rfl ?_
  refine am_iload dX10_call_12 rfl ?_
  refine am_iload dX10_call_14 rfl ?_
  refine am_callSx (as := [.inl (nI 14), .inl a, .inl b, .inl c, .inl e]) (rest := []) dX10_call_16 lkX10_isCall ml_X10_69 isX10_isCall rfl (Nat.le_of_ble_eq_true rfl) rfl (c_isCall14 hG.nd a b c e I) ?_
  refine am_if_ne (tgt := 32) dX10_call_19 (by decide) (fun _ => ?_) (fun h => absurd h (fun z => ((am_bn _).mpr (decide_eq_true hP)) z))
  refine am_aload_n dX10_call_32 rfl ?_
  refine am_get (v := .inr (0, 2)) dX10_call_33 fl_10_19 (hG.m0 (by decide)) rfl ?_
  refine am_iload_n dX10_call_36 rfl ?_
  refine am_aald (a := i) dX10_call_37 (hG.m0 (by decide)) rfl rfl (by omega) hG.n31 ?_
  refine am_astore dX10_call_38 (by decide) ?_
  refine am_aload dX10_call_40 rfl ?_
  refine am_get (v := .inl (I i 40 5)) dX10_call_42 fl_10_80 (hG.mn hi (by decide) (by decide)) rfl ?_
  refine am_top (show I i 40 5 = nI 1 from (by simp [am_up, am_upf, upd, hI, am_fr, am_dk])) ?_
  refine am_if_eq (tgt := 60) dX10_call_45 (by decide) (fun h => absurd h (by decide)) (fun _ => ?_)
  refine am_aload dX10_call_48 rfl ?_
  refine am_get (v := .inr (i, 55)) dX10_call_50 fl_10_84 (hG.mn hi (by decide) (by decide)) rfl ?_
  refine am_get (v := .inl (I i 55 5)) dX10_call_53 fl_10_88 (hG.mn hi (by decide) (by decide)) rfl ?_
  refine am_top (show I i 55 5 = nI 0 from (by simp [am_up, am_upf, upd, hI, am_fr, am_dk])) ?_
  refine am_iconst (v := nI 1) dX10_call_56 (by decide) ?_
  refine am_icmp_ne (tgt := 70) dX10_call_57 (by decide) (fun _ => ?_) (fun h => absurd h (by decide))
  refine am_aload dX10_call_70 rfl ?_
  refine am_get (v := .inr (i, 55)) dX10_call_72 fl_10_84 (hG.mn hi (by decide) (by decide)) rfl ?_
  refine am_iload_n dX10_call_75 rfl ?_
  refine am_aload_n dX10_call_76 rfl ?_
  refine am_get (v := .inl (I 0 0 7)) dX10_call_77 fl_10_99 (hG.m0 (by decide)) rfl ?_
  refine am_top (show I 0 0 7 = nI 0 from (by simp [am_up, am_upf, upd, hI, am_fr, am_dk])) ?_
  refine am_callVe (i := i) (j := 55) (as := [.inl (nI 14), .inl (nI 0)]) (rest := []) dX10_call_80 lkX8_begin ml_X10_102 imX8_begin seX8_begin rfl rfl (hG.mn hi (by decide) (by decide)) rfl (Nat.le_of_ble_eq_true rfl) rfl (c_Tbegin hG hi (nI 14) (nI 0) I) ?_
  refine am_nm (fun I1 hI1 => ?_)
  refine am_aload dX10_call_83 rfl ?_
  refine am_get (v := .inr (i, 55)) dX10_call_85 fl_10_84 (hG.mn hi (by decide) (by decide)) rfl ?_
  refine am_iload_n dX10_call_88 rfl ?_
  refine am_iload dX10_call_89 rfl ?_
  refine am_iload dX10_call_91 rfl ?_
  refine am_iload dX10_call_93 rfl ?_
  refine am_callVe (i := i) (j := 55) (as := [.inl a, .inl b, .inl c, .inl e]) (rest := []) dX10_call_95 lkX8_take ml_X10_106 imX8_take seX8_take rfl rfl (hG.mn hi (by decide) (by decide)) rfl (Nat.le_of_ble_eq_true rfl) rfl (c_Ttake hG hi a b c e I1) ?_
  refine am_nm (fun I2 hI2 => ?_)
  refine am_aload_n dX10_call_98 rfl ?_
  refine am_aload dX10_call_99 rfl ?_
  refine am_callVv (i := 0) (j := 0) (as := [.inr (i, 40)]) (rest := []) dX10_call_101 lkX10_goOn ml_X10_110 imX10_goOn seX10_goOn rfl rfl (hG.m0 (by decide)) rfl (Nat.le_of_ble_eq_true rfl) rfl (c_goOn14 hG hi I2 (fun x hx => by simp [am_up, am_upf, upd, hI, am_fr, hI1, hI2]) (fun x hx => by simp [am_up, am_upf, upd, hI, am_fr, hI1, hI2]) (by simp [am_up, am_upf, upd, hI, am_fr, am_dk, hI1, hI2]) (by simp [am_up, am_upf, upd, hI, am_fr, am_dk, hI1, hI2]) (by simp [am_up, am_upf, upd, hI, am_fr, am_dk, hI1, hI2]) (by simp [am_up, am_upf, upd, hI, am_fr, am_dk, hI1, hI2]) (by simp [am_up, am_upf, upd, hI, am_fr, am_dk, hI1, hI2]) (by simp [am_up, am_upf, upd, hI, am_fr, am_dk, hI1, hI2]) (by simp [am_up, am_upf, upd, hI, am_fr, am_dk, hI1, hI2]) (by simp [am_up, am_upf, upd, hI, am_fr, am_dk, hI1, hI2]) (by simp [am_up, am_upf, upd, hI, am_fr, am_dk, hI1, hI2]) (by simp [am_up, am_upf, upd, hI, am_fr, am_dk, hI1, hI2]) (by simp [am_up, am_upf, upd, hI, am_fr, am_dk, hI1, hI2]) (by simp [am_up, am_upf, upd, hI, am_fr, am_dk, hI1, hI2]) (by simp [am_up, am_upf, upd, hI, am_fr, am_dk, hI1, hI2]) (by simp [am_up, am_upf, upd, hI, am_fr, am_dk, hI1, hI2]) (by simp [am_up, am_upf, upd, hI, am_fr, am_dk, hI1, hI2]) (by simp [am_up, am_upf, upd, hI, am_fr, am_dk, hI1, hI2])) rfl (fun I9 hq => ?_)
  have hst2 := hq.2
  refine am_nm (fun I3 hI3 => ?_)
  refine am_aload dX10_call_104 rfl ?_
  refine am_get (v := .inr (i, 55)) dX10_call_106 fl_10_84 (hG.mn hi (by decide) (by decide)) rfl ?_
  refine am_get (v := .inl (I3 i 55 5)) dX10_call_109 fl_10_88 (hG.mn hi (by decide) (by decide)) rfl ?_
  refine am_top (show I3 i 55 5 = nI 1 from (by simp [am_up, am_upf, upd, hI, am_fr, am_dk, hI1, hI2, hst2, hI3])) ?_
  refine am_iconst (v := nI 1) dX10_call_112 (by decide) ?_
  refine am_icmp_ne (tgt := 120) dX10_call_113 (by decide) (fun h => absurd h (by decide)) (fun _ => ?_)
  refine am_iconst (v := nI 0) dX10_call_116 (by decide) ?_
  refine am_goto (tgt := 121) dX10_call_117 (by decide) ?_
  refine am_iret dX10_call_121 rfl rfl ?_
  exact hQ _
theorem j_callN {G : am_G} (hG : am_ok G) {d : Nat} {TH : Nat → List (Option am_V) → List am_V → am_I → Prop} {Q : Option Int32 → am_I → Prop} {I : am_I} (x k a b c e : Int32) (hx : ¬ (0 ≤ x.toInt ∧ x.toInt < (G.2.2.2.1 : Int))) (hT : ∀ lo, TH 22 lo [] I) : am_J G (d + 2) mX10_call TH Q 0 [some (.inr (0, 0)), some (.inl x), some (.inl k), some (.inl a), some (.inl b), some (.inl c), some (.inl e), none] [] I := by
  refine am_aload_n dX10_call_0 rfl ?_
  refine am_iload_n dX10_call_1 rfl ?_
  refine am_callVx (i := 0) (j := 0) (as := [.inl x]) (rest := []) dX10_call_2 lkX10_isNode ml_X10_65 imX10_isNode seX10_isNode rfl rfl (hG.m0 (by decide)) rfl (Nat.le_of_ble_eq_true rfl) rfl (c_isNode hG x I) ?_
  refine am_if_eq (tgt := 22) dX10_call_5 (by decide) (fun _ => ?_) (fun h => absurd h (fun z => z ((am_bz _).mpr (decide_eq_false hx))))
  exact am_exit (hT _)
theorem j_callP0 {G : am_G} (hG : am_ok G) {d : Nat} {TH : Nat → List (Option am_V) → List am_V → am_I → Prop} {Q : Option Int32 → am_I → Prop} {I : am_I} {i : Nat} (hi : i < G.2.2.2.1) (a b c e : Int32) (hP : ¬ (0 ≤ a.toInt ∧ a.toInt < 128 ∧ ¬ b.toInt = 0)) (hT : ∀ lo, TH 22 lo [] I) : am_J G (d + 2) mX10_call TH Q 0 [some (.inr (0, 0)), some (.inl (nI i)), some (.inl (nI 0)), some (.inl a), some (.inl b), some (.inl c), some (.inl e), none] [] I := by
  have hn4 := hG.hi
  have hn2 := hG.lo
  refine am_aload_n dX10_call_0 rfl ?_
  refine am_iload_n dX10_call_1 rfl ?_
  refine am_callVx (i := 0) (j := 0) (as := [.inl (nI i)]) (rest := []) dX10_call_2 lkX10_isNode ml_X10_65 imX10_isNode seX10_isNode rfl rfl (hG.m0 (by decide)) rfl (Nat.le_of_ble_eq_true rfl) rfl (c_isNodeY hG hi I) ?_
  refine am_if_eq (tgt := 22) dX10_call_5 (by decide) (fun h => absurd h (by decide)) (fun _ => ?_)
  refine am_iload_n dX10_call_8 rfl ?_
  refine am_iload_n dX10_call_9 rfl ?_
  refine am_iload dX10_call_10 rfl ?_
  refine am_iload dX10_call_12 rfl ?_
  refine am_iload dX10_call_14 rfl ?_
  refine am_callSx (as := [.inl (nI 0), .inl a, .inl b, .inl c, .inl e]) (rest := []) dX10_call_16 lkX10_isCall ml_X10_69 isX10_isCall rfl (Nat.le_of_ble_eq_true rfl) rfl (c_isCall0 hG.nd a b c e I) ?_
  refine am_if_ne (tgt := 32) dX10_call_19 (by decide) (fun h => absurd ((am_bz _).mpr (decide_eq_false hP)) h) (fun _ => ?_)
  exact am_exit (hT _)
theorem j_callP1 {G : am_G} (hG : am_ok G) {d : Nat} {TH : Nat → List (Option am_V) → List am_V → am_I → Prop} {Q : Option Int32 → am_I → Prop} {I : am_I} {i : Nat} (hi : i < G.2.2.2.1) (a b c e : Int32) (hP : ¬ (0 ≤ a.toInt ∧ a.toInt < 128 ∧ ¬ b.toInt = 0 ∧ 1 ≤ c.toInt ∧ c.toInt ≤ 2)) (hT : ∀ lo, TH 22 lo [] I) : am_J G (d + 2) mX10_call TH Q 0 [some (.inr (0, 0)), some (.inl (nI i)), some (.inl (nI 1)), some (.inl a), some (.inl b), some (.inl c), some (.inl e), none] [] I := by
  have hn4 := hG.hi
  have hn2 := hG.lo
  refine am_aload_n dX10_call_0 rfl ?_
  refine am_iload_n dX10_call_1 rfl ?_
  refine am_callVx (i := 0) (j := 0) (as := [.inl (nI i)]) (rest := []) dX10_call_2 lkX10_isNode ml_X10_65 imX10_isNode seX10_isNode rfl rfl (hG.m0 (by decide)) rfl (Nat.le_of_ble_eq_true rfl) rfl (c_isNodeY hG hi I) ?_
  refine am_if_eq (tgt := 22) dX10_call_5 (by decide) (fun h => absurd h (by decide)) (fun _ => ?_)
  refine am_iload_n dX10_call_8 rfl ?_
  refine am_iload_n dX10_call_9 rfl ?_
  refine am_iload dX10_call_10 rfl ?_
  refine am_iload dX10_call_12 rfl ?_
  refine am_iload dX10_call_14 rfl ?_
  refine am_callSx (as := [.inl (nI 1), .inl a, .inl b, .inl c, .inl e]) (rest := []) dX10_call_16 lkX10_isCall ml_X10_69 isX10_isCall rfl (Nat.le_of_ble_eq_true rfl) rfl (c_isCall1 hG.nd a b c e I) ?_
  refine am_if_ne (tgt := 32) dX10_call_19 (by decide) (fun h => absurd ((am_bz _).mpr (decide_eq_false hP)) h) (fun _ => ?_)
  exact am_exit (hT _)
theorem j_callP2 {G : am_G} (hG : am_ok G) {d : Nat} {TH : Nat → List (Option am_V) → List am_V → am_I → Prop} {Q : Option Int32 → am_I → Prop} {I : am_I} {i : Nat} (hi : i < G.2.2.2.1) (a b c e : Int32) (hP : ¬ (0 ≤ a.toInt ∧ a.toInt < 128 ∧ ¬ b.toInt = 0)) (hT : ∀ lo, TH 22 lo [] I) : am_J G (d + 2) mX10_call TH Q 0 [some (.inr (0, 0)), some (.inl (nI i)), some (.inl (nI 2)), some (.inl a), some (.inl b), some (.inl c), some (.inl e), none] [] I := by
  have hn4 := hG.hi
  have hn2 := hG.lo
  refine am_aload_n dX10_call_0 rfl ?_
  refine am_iload_n dX10_call_1 rfl ?_
  refine am_callVx (i := 0) (j := 0) (as := [.inl (nI i)]) (rest := []) dX10_call_2 lkX10_isNode ml_X10_65 imX10_isNode seX10_isNode rfl rfl (hG.m0 (by decide)) rfl (Nat.le_of_ble_eq_true rfl) rfl (c_isNodeY hG hi I) ?_
  refine am_if_eq (tgt := 22) dX10_call_5 (by decide) (fun h => absurd h (by decide)) (fun _ => ?_)
  refine am_iload_n dX10_call_8 rfl ?_
  refine am_iload_n dX10_call_9 rfl ?_
  refine am_iload dX10_call_10 rfl ?_
  refine am_iload dX10_call_12 rfl ?_
  refine am_iload dX10_call_14 rfl ?_
  refine am_callSx (as := [.inl (nI 2), .inl a, .inl b, .inl c, .inl e]) (rest := []) dX10_call_16 lkX10_isCall ml_X10_69 isX10_isCall rfl (Nat.le_of_ble_eq_true rfl) rfl (c_isCall2 hG.nd a b c e I) ?_
  refine am_if_ne (tgt := 32) dX10_call_19 (by decide) (fun h => absurd ((am_bz _).mpr (decide_eq_false hP)) h) (fun _ => ?_)
  exact am_exit (hT _)
theorem j_callP3 {G : am_G} (hG : am_ok G) {d : Nat} {TH : Nat → List (Option am_V) → List am_V → am_I → Prop} {Q : Option Int32 → am_I → Prop} {I : am_I} {i : Nat} (hi : i < G.2.2.2.1) (a b c e : Int32) (hP : ¬ (0 ≤ a.toInt ∧ a.toInt < 128 ∧ ¬ b.toInt = 0 ∧ 0 ≤ c.toInt ∧ c.toInt < 128)) (hT : ∀ lo, TH 22 lo [] I) : am_J G (d + 2) mX10_call TH Q 0 [some (.inr (0, 0)), some (.inl (nI i)), some (.inl (nI 3)), some (.inl a), some (.inl b), some (.inl c), some (.inl e), none] [] I := by
  have hn4 := hG.hi
  have hn2 := hG.lo
  refine am_aload_n dX10_call_0 rfl ?_
  refine am_iload_n dX10_call_1 rfl ?_
  refine am_callVx (i := 0) (j := 0) (as := [.inl (nI i)]) (rest := []) dX10_call_2 lkX10_isNode ml_X10_65 imX10_isNode seX10_isNode rfl rfl (hG.m0 (by decide)) rfl (Nat.le_of_ble_eq_true rfl) rfl (c_isNodeY hG hi I) ?_
  refine am_if_eq (tgt := 22) dX10_call_5 (by decide) (fun h => absurd h (by decide)) (fun _ => ?_)
  refine am_iload_n dX10_call_8 rfl ?_
  refine am_iload_n dX10_call_9 rfl ?_
  refine am_iload dX10_call_10 rfl ?_
  refine am_iload dX10_call_12 rfl ?_
  refine am_iload dX10_call_14 rfl ?_
  refine am_callSx (as := [.inl (nI 3), .inl a, .inl b, .inl c, .inl e]) (rest := []) dX10_call_16 lkX10_isCall ml_X10_69 isX10_isCall rfl (Nat.le_of_ble_eq_true rfl) rfl (c_isCall3 hG.nd a b c e I) ?_
  refine am_if_ne (tgt := 32) dX10_call_19 (by decide) (fun h => absurd ((am_bz _).mpr (decide_eq_false hP)) h) (fun _ => ?_)
  exact am_exit (hT _)
theorem j_callP4 {G : am_G} (hG : am_ok G) {d : Nat} {TH : Nat → List (Option am_V) → List am_V → am_I → Prop} {Q : Option Int32 → am_I → Prop} {I : am_I} {i : Nat} (hi : i < G.2.2.2.1) (a b c e : Int32) (hP : ¬ (0 ≤ a.toInt ∧ a.toInt < 128 ∧ ¬ b.toInt = 0 ∧ 0 ≤ c.toInt ∧ c.toInt < 128 ∧ ¬ e.toInt = 0)) (hT : ∀ lo, TH 22 lo [] I) : am_J G (d + 2) mX10_call TH Q 0 [some (.inr (0, 0)), some (.inl (nI i)), some (.inl (nI 4)), some (.inl a), some (.inl b), some (.inl c), some (.inl e), none] [] I := by
  have hn4 := hG.hi
  have hn2 := hG.lo
  refine am_aload_n dX10_call_0 rfl ?_
  refine am_iload_n dX10_call_1 rfl ?_
  refine am_callVx (i := 0) (j := 0) (as := [.inl (nI i)]) (rest := []) dX10_call_2 lkX10_isNode ml_X10_65 imX10_isNode seX10_isNode rfl rfl (hG.m0 (by decide)) rfl (Nat.le_of_ble_eq_true rfl) rfl (c_isNodeY hG hi I) ?_
  refine am_if_eq (tgt := 22) dX10_call_5 (by decide) (fun h => absurd h (by decide)) (fun _ => ?_)
  refine am_iload_n dX10_call_8 rfl ?_
  refine am_iload_n dX10_call_9 rfl ?_
  refine am_iload dX10_call_10 rfl ?_
  refine am_iload dX10_call_12 rfl ?_
  refine am_iload dX10_call_14 rfl ?_
  refine am_callSx (as := [.inl (nI 4), .inl a, .inl b, .inl c, .inl e]) (rest := []) dX10_call_16 lkX10_isCall ml_X10_69 isX10_isCall rfl (Nat.le_of_ble_eq_true rfl) rfl (c_isCall4 hG.nd a b c e I) ?_
  refine am_if_ne (tgt := 32) dX10_call_19 (by decide) (fun h => absurd ((am_bz _).mpr (decide_eq_false hP)) h) (fun _ => ?_)
  exact am_exit (hT _)
theorem j_callP5 {G : am_G} (hG : am_ok G) {d : Nat} {TH : Nat → List (Option am_V) → List am_V → am_I → Prop} {Q : Option Int32 → am_I → Prop} {I : am_I} {i : Nat} (hi : i < G.2.2.2.1) (a b c e : Int32) (hP : ¬ (0 ≤ a.toInt ∧ a.toInt < 128 ∧ 0 ≤ b.toInt ∧ b.toInt < 384)) (hT : ∀ lo, TH 22 lo [] I) : am_J G (d + 2) mX10_call TH Q 0 [some (.inr (0, 0)), some (.inl (nI i)), some (.inl (nI 5)), some (.inl a), some (.inl b), some (.inl c), some (.inl e), none] [] I := by
  have hn4 := hG.hi
  have hn2 := hG.lo
  refine am_aload_n dX10_call_0 rfl ?_
  refine am_iload_n dX10_call_1 rfl ?_
  refine am_callVx (i := 0) (j := 0) (as := [.inl (nI i)]) (rest := []) dX10_call_2 lkX10_isNode ml_X10_65 imX10_isNode seX10_isNode rfl rfl (hG.m0 (by decide)) rfl (Nat.le_of_ble_eq_true rfl) rfl (c_isNodeY hG hi I) ?_
  refine am_if_eq (tgt := 22) dX10_call_5 (by decide) (fun h => absurd h (by decide)) (fun _ => ?_)
  refine am_iload_n dX10_call_8 rfl ?_
  refine am_iload_n dX10_call_9 rfl ?_
  refine am_iload dX10_call_10 rfl ?_
  refine am_iload dX10_call_12 rfl ?_
  refine am_iload dX10_call_14 rfl ?_
  refine am_callSx (as := [.inl (nI 5), .inl a, .inl b, .inl c, .inl e]) (rest := []) dX10_call_16 lkX10_isCall ml_X10_69 isX10_isCall rfl (Nat.le_of_ble_eq_true rfl) rfl (c_isCall5 hG.nd a b c e I) ?_
  refine am_if_ne (tgt := 32) dX10_call_19 (by decide) (fun h => absurd ((am_bz _).mpr (decide_eq_false hP)) h) (fun _ => ?_)
  exact am_exit (hT _)
theorem j_callP6 {G : am_G} (hG : am_ok G) {d : Nat} {TH : Nat → List (Option am_V) → List am_V → am_I → Prop} {Q : Option Int32 → am_I → Prop} {I : am_I} {i : Nat} (hi : i < G.2.2.2.1) (a b c e : Int32) (hP : ¬ (0 ≤ a.toInt ∧ a.toInt < 128 ∧ 0 ≤ b.toInt ∧ b.toInt < 384)) (hT : ∀ lo, TH 22 lo [] I) : am_J G (d + 2) mX10_call TH Q 0 [some (.inr (0, 0)), some (.inl (nI i)), some (.inl (nI 6)), some (.inl a), some (.inl b), some (.inl c), some (.inl e), none] [] I := by
  have hn4 := hG.hi
  have hn2 := hG.lo
  refine am_aload_n dX10_call_0 rfl ?_
  refine am_iload_n dX10_call_1 rfl ?_
  refine am_callVx (i := 0) (j := 0) (as := [.inl (nI i)]) (rest := []) dX10_call_2 lkX10_isNode ml_X10_65 imX10_isNode seX10_isNode rfl rfl (hG.m0 (by decide)) rfl (Nat.le_of_ble_eq_true rfl) rfl (c_isNodeY hG hi I) ?_
  refine am_if_eq (tgt := 22) dX10_call_5 (by decide) (fun h => absurd h (by decide)) (fun _ => ?_)
  refine am_iload_n dX10_call_8 rfl ?_
  refine am_iload_n dX10_call_9 rfl ?_
  refine am_iload dX10_call_10 rfl ?_
  refine am_iload dX10_call_12 rfl ?_
  refine am_iload dX10_call_14 rfl ?_
  refine am_callSx (as := [.inl (nI 6), .inl a, .inl b, .inl c, .inl e]) (rest := []) dX10_call_16 lkX10_isCall ml_X10_69 isX10_isCall rfl (Nat.le_of_ble_eq_true rfl) rfl (c_isCall6 hG.nd a b c e I) ?_
  refine am_if_ne (tgt := 32) dX10_call_19 (by decide) (fun h => absurd ((am_bz _).mpr (decide_eq_false hP)) h) (fun _ => ?_)
  exact am_exit (hT _)
theorem j_callP7 {G : am_G} (hG : am_ok G) {d : Nat} {TH : Nat → List (Option am_V) → List am_V → am_I → Prop} {Q : Option Int32 → am_I → Prop} {I : am_I} {i : Nat} (hi : i < G.2.2.2.1) (a b c e : Int32) (hP : ¬ (0 ≤ a.toInt ∧ a.toInt < 128 ∧ 0 ≤ b.toInt ∧ b.toInt ≤ 384)) (hT : ∀ lo, TH 22 lo [] I) : am_J G (d + 2) mX10_call TH Q 0 [some (.inr (0, 0)), some (.inl (nI i)), some (.inl (nI 7)), some (.inl a), some (.inl b), some (.inl c), some (.inl e), none] [] I := by
  have hn4 := hG.hi
  have hn2 := hG.lo
  refine am_aload_n dX10_call_0 rfl ?_
  refine am_iload_n dX10_call_1 rfl ?_
  refine am_callVx (i := 0) (j := 0) (as := [.inl (nI i)]) (rest := []) dX10_call_2 lkX10_isNode ml_X10_65 imX10_isNode seX10_isNode rfl rfl (hG.m0 (by decide)) rfl (Nat.le_of_ble_eq_true rfl) rfl (c_isNodeY hG hi I) ?_
  refine am_if_eq (tgt := 22) dX10_call_5 (by decide) (fun h => absurd h (by decide)) (fun _ => ?_)
  refine am_iload_n dX10_call_8 rfl ?_
  refine am_iload_n dX10_call_9 rfl ?_
  refine am_iload dX10_call_10 rfl ?_
  refine am_iload dX10_call_12 rfl ?_
  refine am_iload dX10_call_14 rfl ?_
  refine am_callSx (as := [.inl (nI 7), .inl a, .inl b, .inl c, .inl e]) (rest := []) dX10_call_16 lkX10_isCall ml_X10_69 isX10_isCall rfl (Nat.le_of_ble_eq_true rfl) rfl (c_isCall7 hG.nd a b c e I) ?_
  refine am_if_ne (tgt := 32) dX10_call_19 (by decide) (fun h => absurd ((am_bz _).mpr (decide_eq_false hP)) h) (fun _ => ?_)
  exact am_exit (hT _)
theorem j_callP8 {G : am_G} (hG : am_ok G) {d : Nat} {TH : Nat → List (Option am_V) → List am_V → am_I → Prop} {Q : Option Int32 → am_I → Prop} {I : am_I} {i : Nat} (hi : i < G.2.2.2.1) (a b c e : Int32) (hP : ¬ (0 ≤ a.toInt ∧ a.toInt < 128 ∧ 0 ≤ b.toInt ∧ b.toInt < 192)) (hT : ∀ lo, TH 22 lo [] I) : am_J G (d + 2) mX10_call TH Q 0 [some (.inr (0, 0)), some (.inl (nI i)), some (.inl (nI 8)), some (.inl a), some (.inl b), some (.inl c), some (.inl e), none] [] I := by
  have hn4 := hG.hi
  have hn2 := hG.lo
  refine am_aload_n dX10_call_0 rfl ?_
  refine am_iload_n dX10_call_1 rfl ?_
  refine am_callVx (i := 0) (j := 0) (as := [.inl (nI i)]) (rest := []) dX10_call_2 lkX10_isNode ml_X10_65 imX10_isNode seX10_isNode rfl rfl (hG.m0 (by decide)) rfl (Nat.le_of_ble_eq_true rfl) rfl (c_isNodeY hG hi I) ?_
  refine am_if_eq (tgt := 22) dX10_call_5 (by decide) (fun h => absurd h (by decide)) (fun _ => ?_)
  refine am_iload_n dX10_call_8 rfl ?_
  refine am_iload_n dX10_call_9 rfl ?_
  refine am_iload dX10_call_10 rfl ?_
  refine am_iload dX10_call_12 rfl ?_
  refine am_iload dX10_call_14 rfl ?_
  refine am_callSx (as := [.inl (nI 8), .inl a, .inl b, .inl c, .inl e]) (rest := []) dX10_call_16 lkX10_isCall ml_X10_69 isX10_isCall rfl (Nat.le_of_ble_eq_true rfl) rfl (c_isCall8 hG.nd a b c e I) ?_
  refine am_if_ne (tgt := 32) dX10_call_19 (by decide) (fun h => absurd ((am_bz _).mpr (decide_eq_false hP)) h) (fun _ => ?_)
  exact am_exit (hT _)
theorem j_callP9 {G : am_G} (hG : am_ok G) {d : Nat} {TH : Nat → List (Option am_V) → List am_V → am_I → Prop} {Q : Option Int32 → am_I → Prop} {I : am_I} {i : Nat} (hi : i < G.2.2.2.1) (a b c e : Int32) (hP : ¬ (0 ≤ a.toInt ∧ a.toInt < 128 ∧ 0 ≤ b.toInt ∧ b.toInt ≤ 3)) (hT : ∀ lo, TH 22 lo [] I) : am_J G (d + 2) mX10_call TH Q 0 [some (.inr (0, 0)), some (.inl (nI i)), some (.inl (nI 9)), some (.inl a), some (.inl b), some (.inl c), some (.inl e), none] [] I := by
  have hn4 := hG.hi
  have hn2 := hG.lo
  refine am_aload_n dX10_call_0 rfl ?_
  refine am_iload_n dX10_call_1 rfl ?_
  refine am_callVx (i := 0) (j := 0) (as := [.inl (nI i)]) (rest := []) dX10_call_2 lkX10_isNode ml_X10_65 imX10_isNode seX10_isNode rfl rfl (hG.m0 (by decide)) rfl (Nat.le_of_ble_eq_true rfl) rfl (c_isNodeY hG hi I) ?_
  refine am_if_eq (tgt := 22) dX10_call_5 (by decide) (fun h => absurd h (by decide)) (fun _ => ?_)
  refine am_iload_n dX10_call_8 rfl ?_
  refine am_iload_n dX10_call_9 rfl ?_
  refine am_iload dX10_call_10 rfl ?_
  refine am_iload dX10_call_12 rfl ?_
  refine am_iload dX10_call_14 rfl ?_
  refine am_callSx (as := [.inl (nI 9), .inl a, .inl b, .inl c, .inl e]) (rest := []) dX10_call_16 lkX10_isCall ml_X10_69 isX10_isCall rfl (Nat.le_of_ble_eq_true rfl) rfl (c_isCall9 hG.nd a b c e I) ?_
  refine am_if_ne (tgt := 32) dX10_call_19 (by decide) (fun h => absurd ((am_bz _).mpr (decide_eq_false hP)) h) (fun _ => ?_)
  exact am_exit (hT _)
theorem j_callP11 {G : am_G} (hG : am_ok G) {d : Nat} {TH : Nat → List (Option am_V) → List am_V → am_I → Prop} {Q : Option Int32 → am_I → Prop} {I : am_I} {i : Nat} (hi : i < G.2.2.2.1) (a b c e : Int32) (hP : ¬ (0 ≤ a.toInt ∧ a.toInt < 128 ∧ 0 ≤ b.toInt ∧ b.toInt < 384)) (hT : ∀ lo, TH 22 lo [] I) : am_J G (d + 2) mX10_call TH Q 0 [some (.inr (0, 0)), some (.inl (nI i)), some (.inl (nI 11)), some (.inl a), some (.inl b), some (.inl c), some (.inl e), none] [] I := by
  have hn4 := hG.hi
  have hn2 := hG.lo
  refine am_aload_n dX10_call_0 rfl ?_
  refine am_iload_n dX10_call_1 rfl ?_
  refine am_callVx (i := 0) (j := 0) (as := [.inl (nI i)]) (rest := []) dX10_call_2 lkX10_isNode ml_X10_65 imX10_isNode seX10_isNode rfl rfl (hG.m0 (by decide)) rfl (Nat.le_of_ble_eq_true rfl) rfl (c_isNodeY hG hi I) ?_
  refine am_if_eq (tgt := 22) dX10_call_5 (by decide) (fun h => absurd h (by decide)) (fun _ => ?_)
  refine am_iload_n dX10_call_8 rfl ?_
  refine am_iload_n dX10_call_9 rfl ?_
  refine am_iload dX10_call_10 rfl ?_
  refine am_iload dX10_call_12 rfl ?_
  refine am_iload dX10_call_14 rfl ?_
  refine am_callSx (as := [.inl (nI 11), .inl a, .inl b, .inl c, .inl e]) (rest := []) dX10_call_16 lkX10_isCall ml_X10_69 isX10_isCall rfl (Nat.le_of_ble_eq_true rfl) rfl (c_isCall11 hG.nd a b c e I) ?_
  refine am_if_ne (tgt := 32) dX10_call_19 (by decide) (fun h => absurd ((am_bz _).mpr (decide_eq_false hP)) h) (fun _ => ?_)
  exact am_exit (hT _)
theorem j_callP12 {G : am_G} (hG : am_ok G) {d : Nat} {TH : Nat → List (Option am_V) → List am_V → am_I → Prop} {Q : Option Int32 → am_I → Prop} {I : am_I} {i : Nat} (hi : i < G.2.2.2.1) (a b c e : Int32) (hP : ¬ (0 ≤ a.toInt ∧ a.toInt < 128)) (hT : ∀ lo, TH 22 lo [] I) : am_J G (d + 2) mX10_call TH Q 0 [some (.inr (0, 0)), some (.inl (nI i)), some (.inl (nI 12)), some (.inl a), some (.inl b), some (.inl c), some (.inl e), none] [] I := by
  have hn4 := hG.hi
  have hn2 := hG.lo
  refine am_aload_n dX10_call_0 rfl ?_
  refine am_iload_n dX10_call_1 rfl ?_
  refine am_callVx (i := 0) (j := 0) (as := [.inl (nI i)]) (rest := []) dX10_call_2 lkX10_isNode ml_X10_65 imX10_isNode seX10_isNode rfl rfl (hG.m0 (by decide)) rfl (Nat.le_of_ble_eq_true rfl) rfl (c_isNodeY hG hi I) ?_
  refine am_if_eq (tgt := 22) dX10_call_5 (by decide) (fun h => absurd h (by decide)) (fun _ => ?_)
  refine am_iload_n dX10_call_8 rfl ?_
  refine am_iload_n dX10_call_9 rfl ?_
  refine am_iload dX10_call_10 rfl ?_
  refine am_iload dX10_call_12 rfl ?_
  refine am_iload dX10_call_14 rfl ?_
  refine am_callSx (as := [.inl (nI 12), .inl a, .inl b, .inl c, .inl e]) (rest := []) dX10_call_16 lkX10_isCall ml_X10_69 isX10_isCall rfl (Nat.le_of_ble_eq_true rfl) rfl (c_isCall12 hG.nd a b c e I) ?_
  refine am_if_ne (tgt := 32) dX10_call_19 (by decide) (fun h => absurd ((am_bz _).mpr (decide_eq_false hP)) h) (fun _ => ?_)
  exact am_exit (hT _)
theorem j_callP13 {G : am_G} (hG : am_ok G) {d : Nat} {TH : Nat → List (Option am_V) → List am_V → am_I → Prop} {Q : Option Int32 → am_I → Prop} {I : am_I} {i : Nat} (hi : i < G.2.2.2.1) (a b c e : Int32) (hP : ¬ (0 ≤ a.toInt ∧ a.toInt < 128)) (hT : ∀ lo, TH 22 lo [] I) : am_J G (d + 2) mX10_call TH Q 0 [some (.inr (0, 0)), some (.inl (nI i)), some (.inl (nI 13)), some (.inl a), some (.inl b), some (.inl c), some (.inl e), none] [] I := by
  have hn4 := hG.hi
  have hn2 := hG.lo
  refine am_aload_n dX10_call_0 rfl ?_
  refine am_iload_n dX10_call_1 rfl ?_
  refine am_callVx (i := 0) (j := 0) (as := [.inl (nI i)]) (rest := []) dX10_call_2 lkX10_isNode ml_X10_65 imX10_isNode seX10_isNode rfl rfl (hG.m0 (by decide)) rfl (Nat.le_of_ble_eq_true rfl) rfl (c_isNodeY hG hi I) ?_
  refine am_if_eq (tgt := 22) dX10_call_5 (by decide) (fun h => absurd h (by decide)) (fun _ => ?_)
  refine am_iload_n dX10_call_8 rfl ?_
  refine am_iload_n dX10_call_9 rfl ?_
  refine am_iload dX10_call_10 rfl ?_
  refine am_iload dX10_call_12 rfl ?_
  refine am_iload dX10_call_14 rfl ?_
  refine am_callSx (as := [.inl (nI 13), .inl a, .inl b, .inl c, .inl e]) (rest := []) dX10_call_16 lkX10_isCall ml_X10_69 isX10_isCall rfl (Nat.le_of_ble_eq_true rfl) rfl (c_isCall13 hG.nd a b c e I) ?_
  refine am_if_ne (tgt := 32) dX10_call_19 (by decide) (fun h => absurd ((am_bz _).mpr (decide_eq_false hP)) h) (fun _ => ?_)
  exact am_exit (hT _)
theorem j_callK {G : am_G} (hG : am_ok G) {d : Nat} {TH : Nat → List (Option am_V) → List am_V → am_I → Prop} {Q : Option Int32 → am_I → Prop} {I : am_I} {i : Nat} (hi : i < G.2.2.2.1) (k a b c e : Int32) (hk : k.toInt < 0 ∨ 14 < k.toInt) (hT : ∀ lo, TH 22 lo [] I) : am_J G (d + 2) mX10_call TH Q 0 [some (.inr (0, 0)), some (.inl (nI i)), some (.inl k), some (.inl a), some (.inl b), some (.inl c), some (.inl e), none] [] I := by
  have hn4 := hG.hi
  have hn2 := hG.lo
  refine am_aload_n dX10_call_0 rfl ?_
  refine am_iload_n dX10_call_1 rfl ?_
  refine am_callVx (i := 0) (j := 0) (as := [.inl (nI i)]) (rest := []) dX10_call_2 lkX10_isNode ml_X10_65 imX10_isNode seX10_isNode rfl rfl (hG.m0 (by decide)) rfl (Nat.le_of_ble_eq_true rfl) rfl (c_isNodeY hG hi I) ?_
  refine am_if_eq (tgt := 22) dX10_call_5 (by decide) (fun h => absurd h (by decide)) (fun _ => ?_)
  refine am_iload_n dX10_call_8 rfl ?_
  refine am_iload_n dX10_call_9 rfl ?_
  refine am_iload dX10_call_10 rfl ?_
  refine am_iload dX10_call_12 rfl ?_
  refine am_iload dX10_call_14 rfl ?_
  refine am_callSx (as := [.inl k, .inl a, .inl b, .inl c, .inl e]) (rest := []) dX10_call_16 lkX10_isCall ml_X10_69 isX10_isCall rfl (Nat.le_of_ble_eq_true rfl) rfl (c_isCallX hG.nd k a b c e hk I) ?_
  refine am_if_ne (tgt := 32) dX10_call_19 (by decide) (fun h => absurd h (by decide)) (fun _ => ?_)
  exact am_exit (hT _)
