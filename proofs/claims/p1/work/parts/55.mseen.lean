theorem m_history {G : am_G} (hG : am_okM G) {d : Nat} (x w : Int32) {I : am_I} (hI : I = am_fr G.2.2.2.1)  : am_C G (d + 3) mX11_history [.inr (0, 60), .inl x, .inl w] I (fun rr J => rr = some (nI 0) ∧ J 0 60 0 = nI 1) := by
  have hn4 := hG.hi
  have hn2 := hG.lo
  refine am_of (by decide +kernel) hG.nd (Nat.le_of_ble_eq_true rfl) ?_
  refine am_iload_n dX11_history_0 rfl ?_
  refine am_iconst (v := nI 0) dX11_history_1 (by decide) ?_
  refine am_aload_n dX11_history_2 rfl ?_
  refine am_get (v := .inl (I 0 60 63)) dX11_history_3 fl_11_274 (hG.m0 (by decide)) rfl ?_
  refine am_top (show I 0 60 63 = nI 0 from (by simp [am_up, am_upf, upd, hI, am_fr, am_dk])) ?_
  refine am_iconst (v := nI 1) dX11_history_6 (by decide) ?_
  refine am_isub dX11_history_7 ?_
  refine am_top (show (nI 0) - (nI 1) = (-1 : Int32) by decide) ?_
  refine am_callSx (as := [.inl x, .inl (nI 0), .inl (-1 : Int32)]) (rest := []) dX11_history_8 lkX11_in ml_X11_243 isX11_in rfl (Nat.le_of_ble_eq_true rfl) rfl (c_Min hG.nd x (nI 0) (-1 : Int32) I) ?_
  refine am_top (am_bF _ (by rw [nI_toInt (n := 0) (by omega), show (-1 : Int32).toInt = -1 by decide]; omega)) ?_
  refine am_istore_n dX11_history_11 (by decide) ?_
  refine am_aload_n dX11_history_12 rfl ?_
  refine am_iload_n dX11_history_13 rfl ?_
  refine am_if_ne (tgt := 21) dX11_history_14 (by decide) (fun h => absurd h (by decide)) (fun _ => ?_)
  refine am_iconst (v := nI 1) dX11_history_17 (by decide) ?_
  refine am_goto (tgt := 22) dX11_history_18 (by decide) ?_
  refine am_iload_n dX11_history_22 rfl ?_
  refine am_if_eq (tgt := 40) dX11_history_23 (by decide) (fun _ => ?_) (fun h => absurd h (by decide))
  refine am_iconst (v := nI 0) dX11_history_40 (by decide) ?_
  refine am_iconst (v := nI 0) dX11_history_41 (by decide) ?_
  refine am_callVx (i := 0) (j := 60) (as := [.inl (nI 1), .inl (nI 0), .inl (nI 0)]) (rest := []) dX11_history_42 lkX11_refuse ml_X11_441 imX11_refuse seX11_refuse rfl rfl (hG.m0 (by decide)) rfl (Nat.le_of_ble_eq_true rfl) rfl (c_refuse100 hG I) ?_
  refine am_if_eq (tgt := 50) dX11_history_45 (by decide) (fun h => absurd h (by decide)) (fun _ => ?_)
  refine am_iconst (v := nI 0) dX11_history_48 (by decide) ?_
  refine am_iret dX11_history_49 rfl rfl ?_
  exact ⟨rfl, (by simp [am_up, am_upf, upd, hI, am_fr, am_dk])⟩
theorem m_message {G : am_G} (hG : am_okM G) {d : Nat} (x w : Int32) {I : am_I} (hI : I = am_fr G.2.2.2.1)  : am_C G (d + 3) mX11_message [.inr (0, 60), .inl x, .inl w] I (fun rr J => rr = some (nI 0) ∧ J 0 60 0 = nI 1) := by
  have hn4 := hG.hi
  have hn2 := hG.lo
  refine am_of (by decide +kernel) hG.nd (Nat.le_of_ble_eq_true rfl) ?_
  refine am_iload_n dX11_message_0 rfl ?_
  refine am_iconst (v := nI 0) dX11_message_1 (by decide) ?_
  refine am_aload_n dX11_message_2 rfl ?_
  refine am_get (v := .inl (I 0 60 38)) dX11_message_3 fl_11_197 (hG.m0 (by decide)) rfl ?_
  refine am_top (show I 0 60 38 = nI 0 from (by simp [am_up, am_upf, upd, hI, am_fr, am_dk])) ?_
  refine am_iconst (v := nI 1) dX11_message_6 (by decide) ?_
  refine am_isub dX11_message_7 ?_
  refine am_top (show (nI 0) - (nI 1) = (-1 : Int32) by decide) ?_
  refine am_callSx (as := [.inl x, .inl (nI 0), .inl (-1 : Int32)]) (rest := []) dX11_message_8 lkX11_in ml_X11_243 isX11_in rfl (Nat.le_of_ble_eq_true rfl) rfl (c_Min hG.nd x (nI 0) (-1 : Int32) I) ?_
  refine am_top (am_bF _ (by rw [nI_toInt (n := 0) (by omega), show (-1 : Int32).toInt = -1 by decide]; omega)) ?_
  refine am_istore_n dX11_message_11 (by decide) ?_
  refine am_aload_n dX11_message_12 rfl ?_
  refine am_iload_n dX11_message_13 rfl ?_
  refine am_if_ne (tgt := 21) dX11_message_14 (by decide) (fun h => absurd h (by decide)) (fun _ => ?_)
  refine am_iconst (v := nI 1) dX11_message_17 (by decide) ?_
  refine am_goto (tgt := 22) dX11_message_18 (by decide) ?_
  refine am_iload_n dX11_message_22 rfl ?_
  refine am_if_eq (tgt := 39) dX11_message_23 (by decide) (fun _ => ?_) (fun h => absurd h (by decide))
  refine am_iconst (v := nI 0) dX11_message_39 (by decide) ?_
  refine am_iconst (v := nI 0) dX11_message_40 (by decide) ?_
  refine am_callVx (i := 0) (j := 60) (as := [.inl (nI 1), .inl (nI 0), .inl (nI 0)]) (rest := []) dX11_message_41 lkX11_refuse ml_X11_441 imX11_refuse seX11_refuse rfl rfl (hG.m0 (by decide)) rfl (Nat.le_of_ble_eq_true rfl) rfl (c_refuse100 hG I) ?_
  refine am_if_eq (tgt := 49) dX11_message_44 (by decide) (fun h => absurd h (by decide)) (fun _ => ?_)
  refine am_iconst (v := nI 0) dX11_message_47 (by decide) ?_
  refine am_iret dX11_message_48 rfl rfl ?_
  exact ⟨rfl, (by simp [am_up, am_upf, upd, hI, am_fr, am_dk])⟩
theorem c_MisWord {G : am_G} (hn : G.2.2.2.2.Nodup) {d : Nat} (x : Int32) (y : Int32) (I : am_I) : am_C G (d + 1) mX11_isWord [.inl x, .inl y] I (am_E (some (am_b (decide (0 ≤ x.toInt ∧ x.toInt < 640 ∧ 0 ≤ y.toInt ∧ y.toInt < 16)))) I) := by
  refine am_of (by decide +kernel) hn (Nat.le_of_ble_eq_true rfl) ?_
  refine am_iload_n dX11_isWord_0 rfl ?_
  refine am_iconst (v := nI 0) dX11_isWord_1 (by decide) ?_
  refine am_sipush (v := nI 639) dX11_isWord_2 (by decide) ?_
  refine am_callSx (as := [.inl x, .inl (nI 0), .inl (nI 639)]) (rest := []) dX11_isWord_5 lkX11_in ml_X11_243 isX11_in rfl (Nat.le_of_ble_eq_true rfl) rfl (c_Min hn x (nI 0) (nI 639) I) ?_
  refine am_top (show am_b (decide ((nI 0).toInt ≤ x.toInt ∧ x.toInt ≤ (nI 639).toInt)) = am_b (decide (0 ≤ x.toInt ∧ x.toInt ≤ 639)) from by rw [nI_toInt (n := 0) (by omega), nI_toInt (n := 639) (by omega)]; rfl) ?_
  refine am_if_eq (tgt := 25) dX11_isWord_8 (by decide) (fun c_8 => ?_) (fun c_8 => ?_)
  · skip
    have c_8 := of_decide_eq_false ((am_bz _).mp c_8)
    refine am_iconst (v := nI 0) dX11_isWord_25 (by decide) ?_
    refine am_iret dX11_isWord_26 rfl (am_nz (by decide)).1 ?_
    exact ⟨congrArg some (am_bF _ (by first | omega | exact True.intro)).symm, rfl⟩
  · skip
    have c_8 := of_decide_eq_true ((am_bn _).mp c_8)
    refine am_iload_n dX11_isWord_11 rfl ?_
    refine am_iconst (v := nI 0) dX11_isWord_12 (by decide) ?_
    refine am_bipush (v := nI 15) dX11_isWord_13 (by decide) ?_
    refine am_callSx (as := [.inl y, .inl (nI 0), .inl (nI 15)]) (rest := []) dX11_isWord_15 lkX11_in ml_X11_243 isX11_in rfl (Nat.le_of_ble_eq_true rfl) rfl (c_Min hn y (nI 0) (nI 15) I) ?_
    refine am_top (show am_b (decide ((nI 0).toInt ≤ y.toInt ∧ y.toInt ≤ (nI 15).toInt)) = am_b (decide (0 ≤ y.toInt ∧ y.toInt ≤ 15)) from by rw [nI_toInt (n := 0) (by omega), nI_toInt (n := 15) (by omega)]; rfl) ?_
    refine am_if_eq (tgt := 25) dX11_isWord_18 (by decide) (fun c_18 => ?_) (fun c_18 => ?_)
    · skip
      have c_18 := of_decide_eq_false ((am_bz _).mp c_18)
      refine am_iconst (v := nI 0) dX11_isWord_25 (by decide) ?_
      refine am_iret dX11_isWord_26 rfl (am_nz (by decide)).1 ?_
      exact ⟨congrArg some (am_bF _ (by first | omega | exact True.intro)).symm, rfl⟩
    · skip
      have c_18 := of_decide_eq_true ((am_bn _).mp c_18)
      refine am_iconst (v := nI 1) dX11_isWord_21 (by decide) ?_
      refine am_goto (tgt := 26) dX11_isWord_22 (by decide) ?_
      refine am_iret dX11_isWord_26 rfl (am_nz (by decide)).1 ?_
      exact ⟨congrArg some (am_bT _ (by first | omega | exact True.intro)).symm, rfl⟩
theorem m_word {G : am_G} (hG : am_okM G) {d : Nat} {b k : Nat} (hb : b < 640) (hk : k < 16)  {I : am_I} (hI : I = am_fr G.2.2.2.1)  : am_C G (d + 3) mX11_word [.inr (0, 60), .inl (nI b), .inl (nI k)] I (fun rr J => rr = some (am_dk G.2.2.2.1 (16 * b + k)) ∧ J 0 60 0 = nI 0) := by
  have hn4 := hG.hi
  have hn2 := hG.lo
  refine am_of (by decide +kernel) hG.nd (Nat.le_of_ble_eq_true rfl) ?_
  refine am_aload_n dX11_word_0 rfl ?_
  refine am_iload_n dX11_word_1 rfl ?_
  refine am_iload_n dX11_word_2 rfl ?_
  refine am_callSx (as := [.inl (nI b), .inl (nI k)]) (rest := [.inr (0, 60)]) dX11_word_3 lkX11_isWord ml_X11_493 isX11_isWord rfl (Nat.le_of_ble_eq_true rfl) rfl (c_MisWord hG.nd (nI b) (nI k) I) ?_
  refine am_top (am_bT _ (by rw [nI_toInt (by omega), nI_toInt (by omega)]; omega)) ?_
  refine am_if_ne (tgt := 13) dX11_word_6 (by decide) (fun _ => ?_) (fun h => absurd h (by decide))
  refine am_iconst (v := nI 0) dX11_word_13 (by decide) ?_
  refine am_iconst (v := nI 0) dX11_word_14 (by decide) ?_
  refine am_iconst (v := nI 0) dX11_word_15 (by decide) ?_
  refine am_callVx (i := 0) (j := 60) (as := [.inl (nI 0), .inl (nI 0), .inl (nI 0)]) (rest := []) dX11_word_16 lkX11_refuse ml_X11_441 imX11_refuse seX11_refuse rfl rfl (hG.m0 (by decide)) rfl (Nat.le_of_ble_eq_true rfl) rfl (c_refuse000 hG I) ?_
  refine am_if_eq (tgt := 26) dX11_word_19 (by decide) (fun _ => ?_) (fun h => absurd h (by decide))
  refine am_aload_n dX11_word_26 rfl ?_
  refine am_get (v := .inr (0, 64)) dX11_word_27 fl_11_7 (hG.m0 (by decide)) rfl ?_
  refine am_bipush (v := nI 16) dX11_word_30 (by decide) ?_
  refine am_iload_n dX11_word_32 rfl ?_
  refine am_imul dX11_word_33 ?_
  refine am_top (pk_mul _ _) ?_
  refine am_iload_n dX11_word_34 rfl ?_
  refine am_iadd dX11_word_35 ?_
  refine am_top (nI_add _ _) ?_
  refine am_iald (a := 16 * b + k) dX11_word_36 (hG.m0 (by decide)) rfl rfl (show 16 * b + k < 10240 from (by omega)) (show 10240 < 2 ^ 31 by decide) ?_
  refine am_iret dX11_word_37 rfl rfl ?_
  exact ⟨congrArg some (by simp [am_up, am_upf, hI, am_fr]), (by simp [am_up, am_upf, upd, hI, am_fr, am_dk])⟩
theorem m_wordA {G : am_G} (hG : am_okM G) {d : Nat} (y w : Int32) (hy : ¬ (0 ≤ y.toInt ∧ y.toInt < 640 ∧ 0 ≤ w.toInt ∧ w.toInt < 16))  {I : am_I} (hI : I = am_fr G.2.2.2.1)  : am_C G (d + 3) mX11_word [.inr (0, 60), .inl y, .inl w] I (fun rr J => rr = some (nI 0) ∧ J 0 60 0 = nI 1) := by
  have hn4 := hG.hi
  have hn2 := hG.lo
  refine am_of (by decide +kernel) hG.nd (Nat.le_of_ble_eq_true rfl) ?_
  refine am_aload_n dX11_word_0 rfl ?_
  refine am_iload_n dX11_word_1 rfl ?_
  refine am_iload_n dX11_word_2 rfl ?_
  refine am_callSx (as := [.inl y, .inl w]) (rest := [.inr (0, 60)]) dX11_word_3 lkX11_isWord ml_X11_493 isX11_isWord rfl (Nat.le_of_ble_eq_true rfl) rfl (c_MisWord hG.nd y w I) ?_
  refine am_top (am_bF _ hy) ?_
  refine am_if_ne (tgt := 13) dX11_word_6 (by decide) (fun h => absurd h (by decide)) (fun _ => ?_)
  refine am_iconst (v := nI 1) dX11_word_9 (by decide) ?_
  refine am_goto (tgt := 14) dX11_word_10 (by decide) ?_
  refine am_iconst (v := nI 0) dX11_word_14 (by decide) ?_
  refine am_iconst (v := nI 0) dX11_word_15 (by decide) ?_
  refine am_callVx (i := 0) (j := 60) (as := [.inl (nI 1), .inl (nI 0), .inl (nI 0)]) (rest := []) dX11_word_16 lkX11_refuse ml_X11_441 imX11_refuse seX11_refuse rfl rfl (hG.m0 (by decide)) rfl (Nat.le_of_ble_eq_true rfl) rfl (c_refuse100 hG I) ?_
  refine am_if_eq (tgt := 26) dX11_word_19 (by decide) (fun h => absurd h (by decide)) (fun _ => ?_)
  refine am_iconst (v := nI 0) dX11_word_22 (by decide) ?_
  refine am_goto (tgt := 37) dX11_word_23 (by decide) ?_
  refine am_iret dX11_word_37 rfl rfl ?_
  exact ⟨rfl, (by simp [am_up, am_upf, upd, hI, am_fr, am_dk])⟩
theorem m_cachedA {G : am_G} (hG : am_okM G) {d : Nat} (x : Int32) (hx : ¬ (0 ≤ x.toInt ∧ x.toInt < (G.2.2.2.1 : Int))) (y w : Int32) (hy : ¬ (0 ≤ y.toInt ∧ y.toInt < 640 ∧ 0 ≤ w.toInt ∧ w.toInt < 16))  {I : am_I} (hI : I = am_fr G.2.2.2.1)  : am_C G (d + 3) mX11_cached [.inr (0, 60), .inl x, .inl y, .inl w] I (fun rr J => rr = some (nI 0) ∧ J 0 60 0 = nI 1) := by
  have hn4 := hG.hi
  have hn2 := hG.lo
  refine am_of (by decide +kernel) hG.nd (Nat.le_of_ble_eq_true rfl) ?_
  refine am_aload_n dX11_cached_0 rfl ?_
  refine am_iload_n dX11_cached_1 rfl ?_
  refine am_callVx (i := 0) (j := 60) (as := [.inl x]) (rest := []) dX11_cached_2 lkX11_isNode ml_X11_434 imX11_isNode seX11_isNode rfl rfl (hG.m0 (by decide)) rfl (Nat.le_of_ble_eq_true rfl) rfl (c_MisNodeN hG hx (by simp [am_up, am_upf, upd, hI, am_fr, am_dk])) ?_
  refine am_istore dX11_cached_5 (by decide) ?_
  refine am_iload_n dX11_cached_7 rfl ?_
  refine am_iload_n dX11_cached_8 rfl ?_
  refine am_callSx (as := [.inl y, .inl w]) (rest := []) dX11_cached_9 lkX11_isWord ml_X11_493 isX11_isWord rfl (Nat.le_of_ble_eq_true rfl) rfl (c_MisWord hG.nd y w I) ?_
  refine am_top (am_bF _ hy) ?_
  refine am_istore dX11_cached_12 (by decide) ?_
  refine am_aload_n dX11_cached_14 rfl ?_
  refine am_iload dX11_cached_15 rfl ?_
  refine am_if_ne (tgt := 24) dX11_cached_17 (by decide) (fun h => absurd h (by decide)) (fun _ => ?_)
  refine am_iconst (v := nI 1) dX11_cached_20 (by decide) ?_
  refine am_goto (tgt := 25) dX11_cached_21 (by decide) ?_
  refine am_iload dX11_cached_25 rfl ?_
  refine am_if_eq (tgt := 39) dX11_cached_27 (by decide) (fun _ => ?_) (fun h => absurd h (by decide))
  refine am_iconst (v := nI 0) dX11_cached_39 (by decide) ?_
  refine am_iload dX11_cached_40 rfl ?_
  refine am_if_eq (tgt := 83) dX11_cached_42 (by decide) (fun _ => ?_) (fun h => absurd h (by decide))
  refine am_iconst (v := nI 0) dX11_cached_83 (by decide) ?_
  refine am_callVx (i := 0) (j := 60) (as := [.inl (nI 1), .inl (nI 0), .inl (nI 0)]) (rest := []) dX11_cached_84 lkX11_refuse ml_X11_441 imX11_refuse seX11_refuse rfl rfl (hG.m0 (by decide)) rfl (Nat.le_of_ble_eq_true rfl) rfl (c_refuse100 hG I) ?_
  refine am_if_eq (tgt := 92) dX11_cached_87 (by decide) (fun h => absurd h (by decide)) (fun _ => ?_)
  refine am_iconst (v := nI 0) dX11_cached_90 (by decide) ?_
  refine am_iret dX11_cached_91 rfl rfl ?_
  exact ⟨rfl, (by simp [am_up, am_upf, upd, hI, am_fr, am_dk])⟩
theorem m_cachedA2 {G : am_G} (hG : am_okM G) {d : Nat} (x : Int32) (hx : ¬ (0 ≤ x.toInt ∧ x.toInt < (G.2.2.2.1 : Int))) {b k : Nat} (hb : b < 640) (hk : k < 16)  {I : am_I} (hI : I = am_fr G.2.2.2.1)  : am_C G (d + 3) mX11_cached [.inr (0, 60), .inl x, .inl (nI b), .inl (nI k)] I (fun rr J => rr = some (nI 0) ∧ J 0 60 0 = nI 1) := by
  have hn4 := hG.hi
  have hn2 := hG.lo
  refine am_of (by decide +kernel) hG.nd (Nat.le_of_ble_eq_true rfl) ?_
  refine am_aload_n dX11_cached_0 rfl ?_
  refine am_iload_n dX11_cached_1 rfl ?_
  refine am_callVx (i := 0) (j := 60) (as := [.inl x]) (rest := []) dX11_cached_2 lkX11_isNode ml_X11_434 imX11_isNode seX11_isNode rfl rfl (hG.m0 (by decide)) rfl (Nat.le_of_ble_eq_true rfl) rfl (c_MisNodeN hG hx (by simp [am_up, am_upf, upd, hI, am_fr, am_dk])) ?_
  refine am_istore dX11_cached_5 (by decide) ?_
  refine am_iload_n dX11_cached_7 rfl ?_
  refine am_iload_n dX11_cached_8 rfl ?_
  refine am_callSx (as := [.inl (nI b), .inl (nI k)]) (rest := []) dX11_cached_9 lkX11_isWord ml_X11_493 isX11_isWord rfl (Nat.le_of_ble_eq_true rfl) rfl (c_MisWord hG.nd (nI b) (nI k) I) ?_
  refine am_top (am_bT _ (by rw [nI_toInt (by omega), nI_toInt (by omega)]; omega)) ?_
  refine am_istore dX11_cached_12 (by decide) ?_
  refine am_aload_n dX11_cached_14 rfl ?_
  refine am_iload dX11_cached_15 rfl ?_
  refine am_if_ne (tgt := 24) dX11_cached_17 (by decide) (fun h => absurd h (by decide)) (fun _ => ?_)
  refine am_iconst (v := nI 1) dX11_cached_20 (by decide) ?_
  refine am_goto (tgt := 25) dX11_cached_21 (by decide) ?_
  refine am_iload dX11_cached_25 rfl ?_
  refine am_if_eq (tgt := 39) dX11_cached_27 (by decide) (fun _ => ?_) (fun h => absurd h (by decide))
  refine am_iconst (v := nI 0) dX11_cached_39 (by decide) ?_
  refine am_iload dX11_cached_40 rfl ?_
  refine am_if_eq (tgt := 83) dX11_cached_42 (by decide) (fun _ => ?_) (fun h => absurd h (by decide))
  refine am_iconst (v := nI 0) dX11_cached_83 (by decide) ?_
  refine am_callVx (i := 0) (j := 60) (as := [.inl (nI 1), .inl (nI 0), .inl (nI 0)]) (rest := []) dX11_cached_84 lkX11_refuse ml_X11_441 imX11_refuse seX11_refuse rfl rfl (hG.m0 (by decide)) rfl (Nat.le_of_ble_eq_true rfl) rfl (c_refuse100 hG I) ?_
  refine am_if_eq (tgt := 92) dX11_cached_87 (by decide) (fun h => absurd h (by decide)) (fun _ => ?_)
  refine am_iconst (v := nI 0) dX11_cached_90 (by decide) ?_
  refine am_iret dX11_cached_91 rfl rfl ?_
  exact ⟨rfl, (by simp [am_up, am_upf, upd, hI, am_fr, am_dk])⟩
theorem m_cachedB {G : am_G} (hG : am_okM G) {d : Nat} {i : Nat} (hi : i < G.2.2.2.1) (y w : Int32) (hy : ¬ (0 ≤ y.toInt ∧ y.toInt < 640 ∧ 0 ≤ w.toInt ∧ w.toInt < 16))  {I : am_I} (hI : I = am_fr G.2.2.2.1)  : am_C G (d + 3) mX11_cached [.inr (0, 60), .inl (nI i), .inl y, .inl w] I (fun rr J => rr = some (nI 0) ∧ J 0 60 0 = nI 2) := by
  have hn4 := hG.hi
  have hn2 := hG.lo
  refine am_of (by decide +kernel) hG.nd (Nat.le_of_ble_eq_true rfl) ?_
  refine am_aload_n dX11_cached_0 rfl ?_
  refine am_iload_n dX11_cached_1 rfl ?_
  refine am_callVx (i := 0) (j := 60) (as := [.inl (nI i)]) (rest := []) dX11_cached_2 lkX11_isNode ml_X11_434 imX11_isNode seX11_isNode rfl rfl (hG.m0 (by decide)) rfl (Nat.le_of_ble_eq_true rfl) rfl (c_MisNodeY hG hi (by simp [am_up, am_upf, upd, hI, am_fr, am_dk, hi])) ?_
  refine am_istore dX11_cached_5 (by decide) ?_
  refine am_iload_n dX11_cached_7 rfl ?_
  refine am_iload_n dX11_cached_8 rfl ?_
  refine am_callSx (as := [.inl y, .inl w]) (rest := []) dX11_cached_9 lkX11_isWord ml_X11_493 isX11_isWord rfl (Nat.le_of_ble_eq_true rfl) rfl (c_MisWord hG.nd y w I) ?_
  refine am_top (am_bF _ hy) ?_
  refine am_istore dX11_cached_12 (by decide) ?_
  refine am_aload_n dX11_cached_14 rfl ?_
  refine am_iload dX11_cached_15 rfl ?_
  refine am_if_ne (tgt := 24) dX11_cached_17 (by decide) (fun _ => ?_) (fun h => absurd h (by decide))
  refine am_iconst (v := nI 0) dX11_cached_24 (by decide) ?_
  refine am_iload dX11_cached_25 rfl ?_
  refine am_if_eq (tgt := 39) dX11_cached_27 (by decide) (fun h => absurd h (by decide)) (fun _ => ?_)
  refine am_iload dX11_cached_30 rfl ?_
  refine am_if_ne (tgt := 39) dX11_cached_32 (by decide) (fun h => absurd h (by decide)) (fun _ => ?_)
  refine am_iconst (v := nI 1) dX11_cached_35 (by decide) ?_
  refine am_goto (tgt := 40) dX11_cached_36 (by decide) ?_
  refine am_iload dX11_cached_40 rfl ?_
  refine am_if_eq (tgt := 83) dX11_cached_42 (by decide) (fun h => absurd h (by decide)) (fun _ => ?_)
  refine am_iload dX11_cached_45 rfl ?_
  refine am_if_eq (tgt := 83) dX11_cached_47 (by decide) (fun _ => ?_) (fun h => absurd h (by decide))
  refine am_iconst (v := nI 0) dX11_cached_83 (by decide) ?_
  refine am_callVx (i := 0) (j := 60) (as := [.inl (nI 0), .inl (nI 1), .inl (nI 0)]) (rest := []) dX11_cached_84 lkX11_refuse ml_X11_441 imX11_refuse seX11_refuse rfl rfl (hG.m0 (by decide)) rfl (Nat.le_of_ble_eq_true rfl) rfl (c_refuse010 hG I) ?_
  refine am_if_eq (tgt := 92) dX11_cached_87 (by decide) (fun h => absurd h (by decide)) (fun _ => ?_)
  refine am_iconst (v := nI 0) dX11_cached_90 (by decide) ?_
  refine am_iret dX11_cached_91 rfl rfl ?_
  exact ⟨rfl, (by simp [am_up, am_upf, upd, hI, am_fr, am_dk, hi])⟩
theorem m_cachedC {G : am_G} (hG : am_okM G) {d : Nat} {i : Nat} (hi : i < G.2.2.2.1) {b k : Nat} (hb : b < 640) (hk : k < 16)  {I : am_I} (hI : I = am_fr G.2.2.2.1)  : am_C G (d + 3) mX11_cached [.inr (0, 60), .inl (nI i), .inl (nI b), .inl (nI k)] I (fun rr J => rr = some (nI 0) ∧ J 0 60 0 = nI 3) := by
  have hn4 := hG.hi
  have hn2 := hG.lo
  refine am_of (by decide +kernel) hG.nd (Nat.le_of_ble_eq_true rfl) ?_
  refine am_aload_n dX11_cached_0 rfl ?_
  refine am_iload_n dX11_cached_1 rfl ?_
  refine am_callVx (i := 0) (j := 60) (as := [.inl (nI i)]) (rest := []) dX11_cached_2 lkX11_isNode ml_X11_434 imX11_isNode seX11_isNode rfl rfl (hG.m0 (by decide)) rfl (Nat.le_of_ble_eq_true rfl) rfl (c_MisNodeY hG hi (by simp [am_up, am_upf, upd, hI, am_fr, am_dk, hi])) ?_
  refine am_istore dX11_cached_5 (by decide) ?_
  refine am_iload_n dX11_cached_7 rfl ?_
  refine am_iload_n dX11_cached_8 rfl ?_
  refine am_callSx (as := [.inl (nI b), .inl (nI k)]) (rest := []) dX11_cached_9 lkX11_isWord ml_X11_493 isX11_isWord rfl (Nat.le_of_ble_eq_true rfl) rfl (c_MisWord hG.nd (nI b) (nI k) I) ?_
  refine am_top (am_bT _ (by rw [nI_toInt (by omega), nI_toInt (by omega)]; omega)) ?_
  refine am_istore dX11_cached_12 (by decide) ?_
  refine am_aload_n dX11_cached_14 rfl ?_
  refine am_iload dX11_cached_15 rfl ?_
  refine am_if_ne (tgt := 24) dX11_cached_17 (by decide) (fun _ => ?_) (fun h => absurd h (by decide))
  refine am_iconst (v := nI 0) dX11_cached_24 (by decide) ?_
  refine am_iload dX11_cached_25 rfl ?_
  refine am_if_eq (tgt := 39) dX11_cached_27 (by decide) (fun h => absurd h (by decide)) (fun _ => ?_)
  refine am_iload dX11_cached_30 rfl ?_
  refine am_if_ne (tgt := 39) dX11_cached_32 (by decide) (fun _ => ?_) (fun h => absurd h (by decide))
  refine am_iconst (v := nI 0) dX11_cached_39 (by decide) ?_
  refine am_iload dX11_cached_40 rfl ?_
  refine am_if_eq (tgt := 83) dX11_cached_42 (by decide) (fun h => absurd h (by decide)) (fun _ => ?_)
  refine am_iload dX11_cached_45 rfl ?_
  refine am_if_eq (tgt := 83) dX11_cached_47 (by decide) (fun h => absurd h (by decide)) (fun _ => ?_)
  refine am_aload_n dX11_cached_50 rfl ?_
  refine am_get (v := .inr (0, 68)) dX11_cached_51 fl_11_24 (hG.m0 (by decide)) rfl ?_
  refine am_iload dX11_cached_54 rfl ?_
  refine am_if_eq (tgt := 74) dX11_cached_56 (by decide) (fun h => absurd h (by decide)) (fun _ => ?_)
  refine am_iload dX11_cached_59 rfl ?_
  refine am_if_eq (tgt := 74) dX11_cached_61 (by decide) (fun h => absurd h (by decide)) (fun _ => ?_)
  refine am_sipush (v := nI 640) dX11_cached_64 (by decide) ?_
  refine am_iload_n dX11_cached_67 rfl ?_
  refine am_imul dX11_cached_68 ?_
  refine am_top (pk_mul _ _) ?_
  refine am_iload_n dX11_cached_69 rfl ?_
  refine am_iadd dX11_cached_70 ?_
  refine am_top (nI_add _ _) ?_
  refine am_goto (tgt := 75) dX11_cached_71 (by decide) ?_
  refine am_zald (a := 640 * i + b) dX11_cached_75 (hG.m0 (by decide)) rfl rfl (show 640 * i + b < 2560 from (by omega)) (show 2560 < 2 ^ 31 by decide) ?_
  refine am_top (show I 0 68 (640 * i + b) = nI 0 from (by simp [am_up, am_upf, upd, hI, am_fr, am_dk, hi])) ?_
  refine am_if_ne (tgt := 83) dX11_cached_76 (by decide) (fun h => absurd h (by decide)) (fun _ => ?_)
  refine am_iconst (v := nI 1) dX11_cached_79 (by decide) ?_
  refine am_goto (tgt := 84) dX11_cached_80 (by decide) ?_
  refine am_callVx (i := 0) (j := 60) (as := [.inl (nI 0), .inl (nI 0), .inl (nI 1)]) (rest := []) dX11_cached_84 lkX11_refuse ml_X11_441 imX11_refuse seX11_refuse rfl rfl (hG.m0 (by decide)) rfl (Nat.le_of_ble_eq_true rfl) rfl (c_refuse001 hG I) ?_
  refine am_if_eq (tgt := 92) dX11_cached_87 (by decide) (fun h => absurd h (by decide)) (fun _ => ?_)
  refine am_iconst (v := nI 0) dX11_cached_90 (by decide) ?_
  refine am_iret dX11_cached_91 rfl rfl ?_
  exact ⟨rfl, (by simp [am_up, am_upf, upd, hI, am_fr, am_dk, hi])⟩
theorem m_lockA {G : am_G} (hG : am_okM G) {d : Nat} (x : Int32) (hx : ¬ (0 ≤ x.toInt ∧ x.toInt < (G.2.2.2.1 : Int))) (y w : Int32) {I : am_I} (hI : I = am_fr G.2.2.2.1)  : am_C G (d + 3) mX11_lock [.inr (0, 60), .inl x, .inl y, .inl w] I (fun rr J => rr = some (nI 0) ∧ J 0 60 0 = nI 1) := by
  have hn4 := hG.hi
  have hn2 := hG.lo
  refine am_of (by decide +kernel) hG.nd (Nat.le_of_ble_eq_true rfl) ?_
  refine am_aload_n dX11_lock_0 rfl ?_
  refine am_aload_n dX11_lock_1 rfl ?_
  refine am_iload_n dX11_lock_2 rfl ?_
  refine am_callVx (i := 0) (j := 60) (as := [.inl x]) (rest := [.inr (0, 60)]) dX11_lock_3 lkX11_isNode ml_X11_434 imX11_isNode seX11_isNode rfl rfl (hG.m0 (by decide)) rfl (Nat.le_of_ble_eq_true rfl) rfl (c_MisNodeN hG hx (by simp [am_up, am_upf, upd, hI, am_fr, am_dk])) ?_
  refine am_if_eq (tgt := 29) dX11_lock_6 (by decide) (fun _ => ?_) (fun h => absurd h (by decide))
  refine am_iconst (v := nI 1) dX11_lock_29 (by decide) ?_
  refine am_goto (tgt := 34) dX11_lock_30 (by decide) ?_
  refine am_iconst (v := nI 0) dX11_lock_34 (by decide) ?_
  refine am_iconst (v := nI 0) dX11_lock_35 (by decide) ?_
  refine am_callVx (i := 0) (j := 60) (as := [.inl (nI 1), .inl (nI 0), .inl (nI 0)]) (rest := []) dX11_lock_36 lkX11_refuse ml_X11_441 imX11_refuse seX11_refuse rfl rfl (hG.m0 (by decide)) rfl (Nat.le_of_ble_eq_true rfl) rfl (c_refuse100 hG I) ?_
  refine am_if_eq (tgt := 44) dX11_lock_39 (by decide) (fun h => absurd h (by decide)) (fun _ => ?_)
  refine am_iconst (v := nI 0) dX11_lock_42 (by decide) ?_
  refine am_iret dX11_lock_43 rfl rfl ?_
  exact ⟨rfl, (by simp [am_up, am_upf, upd, hI, am_fr, am_dk])⟩
theorem m_lockB {G : am_G} (hG : am_okM G) {d : Nat} {i : Nat} (hi : i < G.2.2.2.1) (y w : Int32) (hy : ¬ (0 ≤ y.toInt ∧ y.toInt < 136))  {I : am_I} (hI : I = am_fr G.2.2.2.1)  : am_C G (d + 3) mX11_lock [.inr (0, 60), .inl (nI i), .inl y, .inl w] I (fun rr J => rr = some (nI 0) ∧ J 0 60 0 = nI 1) := by
  have hn4 := hG.hi
  have hn2 := hG.lo
  refine am_of (by decide +kernel) hG.nd (Nat.le_of_ble_eq_true rfl) ?_
  refine am_aload_n dX11_lock_0 rfl ?_
  refine am_aload_n dX11_lock_1 rfl ?_
  refine am_iload_n dX11_lock_2 rfl ?_
  refine am_callVx (i := 0) (j := 60) (as := [.inl (nI i)]) (rest := [.inr (0, 60)]) dX11_lock_3 lkX11_isNode ml_X11_434 imX11_isNode seX11_isNode rfl rfl (hG.m0 (by decide)) rfl (Nat.le_of_ble_eq_true rfl) rfl (c_MisNodeY hG hi (by simp [am_up, am_upf, upd, hI, am_fr, am_dk, hi])) ?_
  refine am_if_eq (tgt := 29) dX11_lock_6 (by decide) (fun h => absurd h (by decide)) (fun _ => ?_)
  refine am_iload_n dX11_lock_9 rfl ?_
  refine am_iconst (v := nI 0) dX11_lock_10 (by decide) ?_
  refine am_sipush (v := nI 135) dX11_lock_11 (by decide) ?_
  refine am_callSx (as := [.inl y, .inl (nI 0), .inl (nI 135)]) (rest := [.inr (0, 60)]) dX11_lock_14 lkX11_in ml_X11_243 isX11_in rfl (Nat.le_of_ble_eq_true rfl) rfl (c_Min hG.nd y (nI 0) (nI 135) I) ?_
  refine am_top (show am_b (decide ((nI 0).toInt ≤ y.toInt ∧ y.toInt ≤ (nI 135).toInt)) = nI 0 from Eq.trans (show am_b (decide ((nI 0).toInt ≤ y.toInt ∧ y.toInt ≤ (nI 135).toInt)) = am_b (decide (0 ≤ y.toInt ∧ y.toInt ≤ 135)) from by rw [nI_toInt (n := 0) (by omega), nI_toInt (n := 135) (by omega)]; rfl) (am_bF _ (by omega))) ?_
  refine am_if_eq (tgt := 29) dX11_lock_17 (by decide) (fun _ => ?_) (fun h => absurd h (by decide))
  refine am_iconst (v := nI 1) dX11_lock_29 (by decide) ?_
  refine am_goto (tgt := 34) dX11_lock_30 (by decide) ?_
  refine am_iconst (v := nI 0) dX11_lock_34 (by decide) ?_
  refine am_iconst (v := nI 0) dX11_lock_35 (by decide) ?_
  refine am_callVx (i := 0) (j := 60) (as := [.inl (nI 1), .inl (nI 0), .inl (nI 0)]) (rest := []) dX11_lock_36 lkX11_refuse ml_X11_441 imX11_refuse seX11_refuse rfl rfl (hG.m0 (by decide)) rfl (Nat.le_of_ble_eq_true rfl) rfl (c_refuse100 hG I) ?_
  refine am_if_eq (tgt := 44) dX11_lock_39 (by decide) (fun h => absurd h (by decide)) (fun _ => ?_)
  refine am_iconst (v := nI 0) dX11_lock_42 (by decide) ?_
  refine am_iret dX11_lock_43 rfl rfl ?_
  exact ⟨rfl, (by simp [am_up, am_upf, upd, hI, am_fr, am_dk, hi])⟩
theorem m_lockC {G : am_G} (hG : am_okM G) {d : Nat} {i : Nat} (hi : i < G.2.2.2.1) {r : Nat} (hr : r < 136) (w : Int32) (hw : w.toInt < 0 ∨ 4 < w.toInt) {I : am_I} (hI : I = am_fr G.2.2.2.1)  : am_C G (d + 3) mX11_lock [.inr (0, 60), .inl (nI i), .inl (nI r), .inl w] I (fun rr J => rr = some (nI 0) ∧ J 0 60 0 = nI 1) := by
  have hn4 := hG.hi
  have hn2 := hG.lo
  refine am_of (by decide +kernel) hG.nd (Nat.le_of_ble_eq_true rfl) ?_
  refine am_aload_n dX11_lock_0 rfl ?_
  refine am_aload_n dX11_lock_1 rfl ?_
  refine am_iload_n dX11_lock_2 rfl ?_
  refine am_callVx (i := 0) (j := 60) (as := [.inl (nI i)]) (rest := [.inr (0, 60)]) dX11_lock_3 lkX11_isNode ml_X11_434 imX11_isNode seX11_isNode rfl rfl (hG.m0 (by decide)) rfl (Nat.le_of_ble_eq_true rfl) rfl (c_MisNodeY hG hi (by simp [am_up, am_upf, upd, hI, am_fr, am_dk, hi])) ?_
  refine am_if_eq (tgt := 29) dX11_lock_6 (by decide) (fun h => absurd h (by decide)) (fun _ => ?_)
  refine am_iload_n dX11_lock_9 rfl ?_
  refine am_iconst (v := nI 0) dX11_lock_10 (by decide) ?_
  refine am_sipush (v := nI 135) dX11_lock_11 (by decide) ?_
  refine am_callSx (as := [.inl (nI r), .inl (nI 0), .inl (nI 135)]) (rest := [.inr (0, 60)]) dX11_lock_14 lkX11_in ml_X11_243 isX11_in rfl (Nat.le_of_ble_eq_true rfl) rfl (c_Min hG.nd (nI r) (nI 0) (nI 135) I) ?_
  refine am_top (show am_b (decide ((nI 0).toInt ≤ (nI r).toInt ∧ (nI r).toInt ≤ (nI 135).toInt)) = nI 1 from Eq.trans (show am_b (decide ((nI 0).toInt ≤ (nI r).toInt ∧ (nI r).toInt ≤ (nI 135).toInt)) = am_b (decide (0 ≤ (nI r).toInt ∧ (nI r).toInt ≤ 135)) from by rw [nI_toInt (n := 0) (by omega), nI_toInt (n := 135) (by omega)]; rfl) (am_bT _ (by rw [nI_toInt (n := r) (by omega)]; omega))) ?_
  refine am_if_eq (tgt := 29) dX11_lock_17 (by decide) (fun h => absurd h (by decide)) (fun _ => ?_)
  refine am_iload_n dX11_lock_20 rfl ?_
  refine am_iconst (v := nI 0) dX11_lock_21 (by decide) ?_
  refine am_iconst (v := nI 4) dX11_lock_22 (by decide) ?_
  refine am_callSx (as := [.inl w, .inl (nI 0), .inl (nI 4)]) (rest := [.inr (0, 60)]) dX11_lock_23 lkX11_in ml_X11_243 isX11_in rfl (Nat.le_of_ble_eq_true rfl) rfl (c_Min hG.nd w (nI 0) (nI 4) I) ?_
  refine am_top (show am_b (decide ((nI 0).toInt ≤ w.toInt ∧ w.toInt ≤ (nI 4).toInt)) = nI 0 from Eq.trans (show am_b (decide ((nI 0).toInt ≤ w.toInt ∧ w.toInt ≤ (nI 4).toInt)) = am_b (decide (0 ≤ w.toInt ∧ w.toInt ≤ 4)) from by rw [nI_toInt (n := 0) (by omega), nI_toInt (n := 4) (by omega)]; rfl) (am_bF _ (by omega))) ?_
  refine am_if_ne (tgt := 33) dX11_lock_26 (by decide) (fun h => absurd h (by decide)) (fun _ => ?_)
  refine am_iconst (v := nI 1) dX11_lock_29 (by decide) ?_
  refine am_goto (tgt := 34) dX11_lock_30 (by decide) ?_
  refine am_iconst (v := nI 0) dX11_lock_34 (by decide) ?_
  refine am_iconst (v := nI 0) dX11_lock_35 (by decide) ?_
  refine am_callVx (i := 0) (j := 60) (as := [.inl (nI 1), .inl (nI 0), .inl (nI 0)]) (rest := []) dX11_lock_36 lkX11_refuse ml_X11_441 imX11_refuse seX11_refuse rfl rfl (hG.m0 (by decide)) rfl (Nat.le_of_ble_eq_true rfl) rfl (c_refuse100 hG I) ?_
  refine am_if_eq (tgt := 44) dX11_lock_39 (by decide) (fun h => absurd h (by decide)) (fun _ => ?_)
  refine am_iconst (v := nI 0) dX11_lock_42 (by decide) ?_
  refine am_iret dX11_lock_43 rfl rfl ?_
  exact ⟨rfl, (by simp [am_up, am_upf, upd, hI, am_fr, am_dk, hi])⟩
theorem m_lock0 {G : am_G} (hG : am_okM G) {d : Nat} {i : Nat} (hi : i < G.2.2.2.1) {r : Nat} (hr : r < 136)  {I : am_I} (hI : I = am_fr G.2.2.2.1)  : am_C G (d + 3) mX11_lock [.inr (0, 60), .inl (nI i), .inl (nI r), .inl (nI 0)] I (fun rr J => rr = some (nI 0) ∧ J 0 60 0 = nI 0) := by
  have hn4 := hG.hi
  have hn2 := hG.lo
  refine am_of (by decide +kernel) hG.nd (Nat.le_of_ble_eq_true rfl) ?_
  refine am_aload_n dX11_lock_0 rfl ?_
  refine am_aload_n dX11_lock_1 rfl ?_
  refine am_iload_n dX11_lock_2 rfl ?_
  refine am_callVx (i := 0) (j := 60) (as := [.inl (nI i)]) (rest := [.inr (0, 60)]) dX11_lock_3 lkX11_isNode ml_X11_434 imX11_isNode seX11_isNode rfl rfl (hG.m0 (by decide)) rfl (Nat.le_of_ble_eq_true rfl) rfl (c_MisNodeY hG hi (by simp [am_up, am_upf, upd, hI, am_fr, am_dk, hi])) ?_
  refine am_if_eq (tgt := 29) dX11_lock_6 (by decide) (fun h => absurd h (by decide)) (fun _ => ?_)
  refine am_iload_n dX11_lock_9 rfl ?_
  refine am_iconst (v := nI 0) dX11_lock_10 (by decide) ?_
  refine am_sipush (v := nI 135) dX11_lock_11 (by decide) ?_
  refine am_callSx (as := [.inl (nI r), .inl (nI 0), .inl (nI 135)]) (rest := [.inr (0, 60)]) dX11_lock_14 lkX11_in ml_X11_243 isX11_in rfl (Nat.le_of_ble_eq_true rfl) rfl (c_Min hG.nd (nI r) (nI 0) (nI 135) I) ?_
  refine am_top (show am_b (decide ((nI 0).toInt ≤ (nI r).toInt ∧ (nI r).toInt ≤ (nI 135).toInt)) = nI 1 from Eq.trans (show am_b (decide ((nI 0).toInt ≤ (nI r).toInt ∧ (nI r).toInt ≤ (nI 135).toInt)) = am_b (decide (0 ≤ (nI r).toInt ∧ (nI r).toInt ≤ 135)) from by rw [nI_toInt (n := 0) (by omega), nI_toInt (n := 135) (by omega)]; rfl) (am_bT _ (by rw [nI_toInt (n := r) (by omega)]; omega))) ?_
  refine am_if_eq (tgt := 29) dX11_lock_17 (by decide) (fun h => absurd h (by decide)) (fun _ => ?_)
  refine am_iload_n dX11_lock_20 rfl ?_
  refine am_iconst (v := nI 0) dX11_lock_21 (by decide) ?_
  refine am_iconst (v := nI 4) dX11_lock_22 (by decide) ?_
  refine am_callSx (as := [.inl (nI 0), .inl (nI 0), .inl (nI 4)]) (rest := [.inr (0, 60)]) dX11_lock_23 lkX11_in ml_X11_243 isX11_in rfl (Nat.le_of_ble_eq_true rfl) rfl (c_Min hG.nd (nI 0) (nI 0) (nI 4) I) ?_
  refine am_top (show am_b (decide ((nI 0).toInt ≤ (nI 0).toInt ∧ (nI 0).toInt ≤ (nI 4).toInt)) = nI 1 by decide) ?_
  refine am_if_ne (tgt := 33) dX11_lock_26 (by decide) (fun _ => ?_) (fun h => absurd h (by decide))
  refine am_iconst (v := nI 0) dX11_lock_33 (by decide) ?_
  refine am_iconst (v := nI 0) dX11_lock_34 (by decide) ?_
  refine am_iconst (v := nI 0) dX11_lock_35 (by decide) ?_
  refine am_callVx (i := 0) (j := 60) (as := [.inl (nI 0), .inl (nI 0), .inl (nI 0)]) (rest := []) dX11_lock_36 lkX11_refuse ml_X11_441 imX11_refuse seX11_refuse rfl rfl (hG.m0 (by decide)) rfl (Nat.le_of_ble_eq_true rfl) rfl (c_refuse000 hG I) ?_
  refine am_if_eq (tgt := 44) dX11_lock_39 (by decide) (fun _ => ?_) (fun h => absurd h (by decide))
  refine am_iload_n dX11_lock_44 rfl ?_
  refine am_iload_n dX11_lock_45 rfl ?_
  refine am_callSx (as := [.inl (nI i), .inl (nI r)]) (rest := []) dX11_lock_46 lkX11_at ml_X11_208 isX11_at rfl (Nat.le_of_ble_eq_true rfl) rfl (c_Mat hG.nd (g := i) (r := r) (by omega) (by omega) (am_up I 0 60 0 (nI 0))) ?_
  refine am_istore dX11_lock_49 (by decide) ?_
  refine am_iload_n dX11_lock_51 rfl ?_
  refine am_tabIn (off := 32) (tgt := 84) dX11_lock_52 (by decide) (by decide) rfl (by decide) ?_
  refine am_aload_n dX11_lock_84 rfl ?_
  refine am_get (v := .inr (0, 76)) dX11_lock_85 fl_11_48 (hG.m0 (by decide)) rfl ?_
  refine am_iload dX11_lock_88 rfl ?_
  refine am_iald (a := 136 * i + r) dX11_lock_90 (hG.m0 (by decide)) rfl rfl (show 136 * i + r < 544 from (by omega)) (show 544 < 2 ^ 31 by decide) ?_
  refine am_top (show (am_up I 0 60 0 (nI 0)) 0 76 (136 * i + r) = nI 0 from (by simp [am_up, am_upf, upd, hI, am_fr, am_dk, hi])) ?_
  refine am_iret dX11_lock_91 rfl rfl ?_
  exact ⟨rfl, (by simp [am_up, am_upf, upd, hI, am_fr, am_dk, hi])⟩
theorem m_lock1 {G : am_G} (hG : am_okM G) {d : Nat} {i : Nat} (hi : i < G.2.2.2.1) {r : Nat} (hr : r < 136)  {I : am_I} (hI : I = am_fr G.2.2.2.1)  : am_C G (d + 3) mX11_lock [.inr (0, 60), .inl (nI i), .inl (nI r), .inl (nI 1)] I (fun rr J => rr = some (nI 0) ∧ J 0 60 0 = nI 0) := by
  have hn4 := hG.hi
  have hn2 := hG.lo
  refine am_of (by decide +kernel) hG.nd (Nat.le_of_ble_eq_true rfl) ?_
  refine am_aload_n dX11_lock_0 rfl ?_
  refine am_aload_n dX11_lock_1 rfl ?_
  refine am_iload_n dX11_lock_2 rfl ?_
  refine am_callVx (i := 0) (j := 60) (as := [.inl (nI i)]) (rest := [.inr (0, 60)]) dX11_lock_3 lkX11_isNode ml_X11_434 imX11_isNode seX11_isNode rfl rfl (hG.m0 (by decide)) rfl (Nat.le_of_ble_eq_true rfl) rfl (c_MisNodeY hG hi (by simp [am_up, am_upf, upd, hI, am_fr, am_dk, hi])) ?_
  refine am_if_eq (tgt := 29) dX11_lock_6 (by decide) (fun h => absurd h (by decide)) (fun _ => ?_)
  refine am_iload_n dX11_lock_9 rfl ?_
  refine am_iconst (v := nI 0) dX11_lock_10 (by decide) ?_
  refine am_sipush (v := nI 135) dX11_lock_11 (by decide) ?_
  refine am_callSx (as := [.inl (nI r), .inl (nI 0), .inl (nI 135)]) (rest := [.inr (0, 60)]) dX11_lock_14 lkX11_in ml_X11_243 isX11_in rfl (Nat.le_of_ble_eq_true rfl) rfl (c_Min hG.nd (nI r) (nI 0) (nI 135) I) ?_
  refine am_top (show am_b (decide ((nI 0).toInt ≤ (nI r).toInt ∧ (nI r).toInt ≤ (nI 135).toInt)) = nI 1 from Eq.trans (show am_b (decide ((nI 0).toInt ≤ (nI r).toInt ∧ (nI r).toInt ≤ (nI 135).toInt)) = am_b (decide (0 ≤ (nI r).toInt ∧ (nI r).toInt ≤ 135)) from by rw [nI_toInt (n := 0) (by omega), nI_toInt (n := 135) (by omega)]; rfl) (am_bT _ (by rw [nI_toInt (n := r) (by omega)]; omega))) ?_
  refine am_if_eq (tgt := 29) dX11_lock_17 (by decide) (fun h => absurd h (by decide)) (fun _ => ?_)
  refine am_iload_n dX11_lock_20 rfl ?_
  refine am_iconst (v := nI 0) dX11_lock_21 (by decide) ?_
  refine am_iconst (v := nI 4) dX11_lock_22 (by decide) ?_
  refine am_callSx (as := [.inl (nI 1), .inl (nI 0), .inl (nI 4)]) (rest := [.inr (0, 60)]) dX11_lock_23 lkX11_in ml_X11_243 isX11_in rfl (Nat.le_of_ble_eq_true rfl) rfl (c_Min hG.nd (nI 1) (nI 0) (nI 4) I) ?_
  refine am_top (show am_b (decide ((nI 0).toInt ≤ (nI 1).toInt ∧ (nI 1).toInt ≤ (nI 4).toInt)) = nI 1 by decide) ?_
  refine am_if_ne (tgt := 33) dX11_lock_26 (by decide) (fun _ => ?_) (fun h => absurd h (by decide))
  refine am_iconst (v := nI 0) dX11_lock_33 (by decide) ?_
  refine am_iconst (v := nI 0) dX11_lock_34 (by decide) ?_
  refine am_iconst (v := nI 0) dX11_lock_35 (by decide) ?_
  refine am_callVx (i := 0) (j := 60) (as := [.inl (nI 0), .inl (nI 0), .inl (nI 0)]) (rest := []) dX11_lock_36 lkX11_refuse ml_X11_441 imX11_refuse seX11_refuse rfl rfl (hG.m0 (by decide)) rfl (Nat.le_of_ble_eq_true rfl) rfl (c_refuse000 hG I) ?_
  refine am_if_eq (tgt := 44) dX11_lock_39 (by decide) (fun _ => ?_) (fun h => absurd h (by decide))
  refine am_iload_n dX11_lock_44 rfl ?_
  refine am_iload_n dX11_lock_45 rfl ?_
  refine am_callSx (as := [.inl (nI i), .inl (nI r)]) (rest := []) dX11_lock_46 lkX11_at ml_X11_208 isX11_at rfl (Nat.le_of_ble_eq_true rfl) rfl (c_Mat hG.nd (g := i) (r := r) (by omega) (by omega) (am_up I 0 60 0 (nI 0))) ?_
  refine am_istore dX11_lock_49 (by decide) ?_
  refine am_iload_n dX11_lock_51 rfl ?_
  refine am_tabIn (off := 40) (tgt := 92) dX11_lock_52 (by decide) (by decide) rfl (by decide) ?_
  refine am_aload_n dX11_lock_92 rfl ?_
  refine am_get (v := .inr (0, 77)) dX11_lock_93 fl_11_51 (hG.m0 (by decide)) rfl ?_
  refine am_iload dX11_lock_96 rfl ?_
  refine am_iald (a := 136 * i + r) dX11_lock_98 (hG.m0 (by decide)) rfl rfl (show 136 * i + r < 544 from (by omega)) (show 544 < 2 ^ 31 by decide) ?_
  refine am_top (show (am_up I 0 60 0 (nI 0)) 0 77 (136 * i + r) = nI 0 from (by simp [am_up, am_upf, upd, hI, am_fr, am_dk, hi])) ?_
  refine am_iret dX11_lock_99 rfl rfl ?_
  exact ⟨rfl, (by simp [am_up, am_upf, upd, hI, am_fr, am_dk, hi])⟩
theorem m_lock2 {G : am_G} (hG : am_okM G) {d : Nat} {i : Nat} (hi : i < G.2.2.2.1) {r : Nat} (hr : r < 136)  {I : am_I} (hI : I = am_fr G.2.2.2.1)  : am_C G (d + 3) mX11_lock [.inr (0, 60), .inl (nI i), .inl (nI r), .inl (nI 2)] I (fun rr J => rr = some (-1 : Int32) ∧ J 0 60 0 = nI 0) := by
  have hn4 := hG.hi
  have hn2 := hG.lo
  refine am_of (by decide +kernel) hG.nd (Nat.le_of_ble_eq_true rfl) ?_
  refine am_aload_n dX11_lock_0 rfl ?_
  refine am_aload_n dX11_lock_1 rfl ?_
  refine am_iload_n dX11_lock_2 rfl ?_
  refine am_callVx (i := 0) (j := 60) (as := [.inl (nI i)]) (rest := [.inr (0, 60)]) dX11_lock_3 lkX11_isNode ml_X11_434 imX11_isNode seX11_isNode rfl rfl (hG.m0 (by decide)) rfl (Nat.le_of_ble_eq_true rfl) rfl (c_MisNodeY hG hi (by simp [am_up, am_upf, upd, hI, am_fr, am_dk, hi])) ?_
  refine am_if_eq (tgt := 29) dX11_lock_6 (by decide) (fun h => absurd h (by decide)) (fun _ => ?_)
  refine am_iload_n dX11_lock_9 rfl ?_
  refine am_iconst (v := nI 0) dX11_lock_10 (by decide) ?_
  refine am_sipush (v := nI 135) dX11_lock_11 (by decide) ?_
  refine am_callSx (as := [.inl (nI r), .inl (nI 0), .inl (nI 135)]) (rest := [.inr (0, 60)]) dX11_lock_14 lkX11_in ml_X11_243 isX11_in rfl (Nat.le_of_ble_eq_true rfl) rfl (c_Min hG.nd (nI r) (nI 0) (nI 135) I) ?_
  refine am_top (show am_b (decide ((nI 0).toInt ≤ (nI r).toInt ∧ (nI r).toInt ≤ (nI 135).toInt)) = nI 1 from Eq.trans (show am_b (decide ((nI 0).toInt ≤ (nI r).toInt ∧ (nI r).toInt ≤ (nI 135).toInt)) = am_b (decide (0 ≤ (nI r).toInt ∧ (nI r).toInt ≤ 135)) from by rw [nI_toInt (n := 0) (by omega), nI_toInt (n := 135) (by omega)]; rfl) (am_bT _ (by rw [nI_toInt (n := r) (by omega)]; omega))) ?_
  refine am_if_eq (tgt := 29) dX11_lock_17 (by decide) (fun h => absurd h (by decide)) (fun _ => ?_)
  refine am_iload_n dX11_lock_20 rfl ?_
  refine am_iconst (v := nI 0) dX11_lock_21 (by decide) ?_
  refine am_iconst (v := nI 4) dX11_lock_22 (by decide) ?_
  refine am_callSx (as := [.inl (nI 2), .inl (nI 0), .inl (nI 4)]) (rest := [.inr (0, 60)]) dX11_lock_23 lkX11_in ml_X11_243 isX11_in rfl (Nat.le_of_ble_eq_true rfl) rfl (c_Min hG.nd (nI 2) (nI 0) (nI 4) I) ?_
  refine am_top (show am_b (decide ((nI 0).toInt ≤ (nI 2).toInt ∧ (nI 2).toInt ≤ (nI 4).toInt)) = nI 1 by decide) ?_
  refine am_if_ne (tgt := 33) dX11_lock_26 (by decide) (fun _ => ?_) (fun h => absurd h (by decide))
  refine am_iconst (v := nI 0) dX11_lock_33 (by decide) ?_
  refine am_iconst (v := nI 0) dX11_lock_34 (by decide) ?_
  refine am_iconst (v := nI 0) dX11_lock_35 (by decide) ?_
  refine am_callVx (i := 0) (j := 60) (as := [.inl (nI 0), .inl (nI 0), .inl (nI 0)]) (rest := []) dX11_lock_36 lkX11_refuse ml_X11_441 imX11_refuse seX11_refuse rfl rfl (hG.m0 (by decide)) rfl (Nat.le_of_ble_eq_true rfl) rfl (c_refuse000 hG I) ?_
  refine am_if_eq (tgt := 44) dX11_lock_39 (by decide) (fun _ => ?_) (fun h => absurd h (by decide))
  refine am_iload_n dX11_lock_44 rfl ?_
  refine am_iload_n dX11_lock_45 rfl ?_
  refine am_callSx (as := [.inl (nI i), .inl (nI r)]) (rest := []) dX11_lock_46 lkX11_at ml_X11_208 isX11_at rfl (Nat.le_of_ble_eq_true rfl) rfl (c_Mat hG.nd (g := i) (r := r) (by omega) (by omega) (am_up I 0 60 0 (nI 0))) ?_
  refine am_istore dX11_lock_49 (by decide) ?_
  refine am_iload_n dX11_lock_51 rfl ?_
  refine am_tabIn (off := 48) (tgt := 100) dX11_lock_52 (by decide) (by decide) rfl (by decide) ?_
  refine am_aload_n dX11_lock_100 rfl ?_
  refine am_get (v := .inr (0, 78)) dX11_lock_101 fl_11_54 (hG.m0 (by decide)) rfl ?_
  refine am_iload dX11_lock_104 rfl ?_
  refine am_iald (a := 136 * i + r) dX11_lock_106 (hG.m0 (by decide)) rfl rfl (show 136 * i + r < 544 from (by omega)) (show 544 < 2 ^ 31 by decide) ?_
  refine am_top (show (am_up I 0 60 0 (nI 0)) 0 78 (136 * i + r) = (-1 : Int32) from (by simp [am_up, am_upf, upd, hI, am_fr, am_dk, hi])) ?_
  refine am_iret dX11_lock_107 rfl rfl ?_
  exact ⟨rfl, (by simp [am_up, am_upf, upd, hI, am_fr, am_dk, hi])⟩
theorem m_lock3 {G : am_G} (hG : am_okM G) {d : Nat} {i : Nat} (hi : i < G.2.2.2.1) {r : Nat} (hr : r < 136)  {I : am_I} (hI : I = am_fr G.2.2.2.1)  : am_C G (d + 3) mX11_lock [.inr (0, 60), .inl (nI i), .inl (nI r), .inl (nI 3)] I (fun rr J => rr = some (nI 0) ∧ J 0 60 0 = nI 0) := by
  have hn4 := hG.hi
  have hn2 := hG.lo
  refine am_of (by decide +kernel) hG.nd (Nat.le_of_ble_eq_true rfl) ?_
  refine am_aload_n dX11_lock_0 rfl ?_
  refine am_aload_n dX11_lock_1 rfl ?_
  refine am_iload_n dX11_lock_2 rfl ?_
  refine am_callVx (i := 0) (j := 60) (as := [.inl (nI i)]) (rest := [.inr (0, 60)]) dX11_lock_3 lkX11_isNode ml_X11_434 imX11_isNode seX11_isNode rfl rfl (hG.m0 (by decide)) rfl (Nat.le_of_ble_eq_true rfl) rfl (c_MisNodeY hG hi (by simp [am_up, am_upf, upd, hI, am_fr, am_dk, hi])) ?_
  refine am_if_eq (tgt := 29) dX11_lock_6 (by decide) (fun h => absurd h (by decide)) (fun _ => ?_)
  refine am_iload_n dX11_lock_9 rfl ?_
  refine am_iconst (v := nI 0) dX11_lock_10 (by decide) ?_
  refine am_sipush (v := nI 135) dX11_lock_11 (by decide) ?_
  refine am_callSx (as := [.inl (nI r), .inl (nI 0), .inl (nI 135)]) (rest := [.inr (0, 60)]) dX11_lock_14 lkX11_in ml_X11_243 isX11_in rfl (Nat.le_of_ble_eq_true rfl) rfl (c_Min hG.nd (nI r) (nI 0) (nI 135) I) ?_
  refine am_top (show am_b (decide ((nI 0).toInt ≤ (nI r).toInt ∧ (nI r).toInt ≤ (nI 135).toInt)) = nI 1 from Eq.trans (show am_b (decide ((nI 0).toInt ≤ (nI r).toInt ∧ (nI r).toInt ≤ (nI 135).toInt)) = am_b (decide (0 ≤ (nI r).toInt ∧ (nI r).toInt ≤ 135)) from by rw [nI_toInt (n := 0) (by omega), nI_toInt (n := 135) (by omega)]; rfl) (am_bT _ (by rw [nI_toInt (n := r) (by omega)]; omega))) ?_
  refine am_if_eq (tgt := 29) dX11_lock_17 (by decide) (fun h => absurd h (by decide)) (fun _ => ?_)
  refine am_iload_n dX11_lock_20 rfl ?_
  refine am_iconst (v := nI 0) dX11_lock_21 (by decide) ?_
  refine am_iconst (v := nI 4) dX11_lock_22 (by decide) ?_
  refine am_callSx (as := [.inl (nI 3), .inl (nI 0), .inl (nI 4)]) (rest := [.inr (0, 60)]) dX11_lock_23 lkX11_in ml_X11_243 isX11_in rfl (Nat.le_of_ble_eq_true rfl) rfl (c_Min hG.nd (nI 3) (nI 0) (nI 4) I) ?_
  refine am_top (show am_b (decide ((nI 0).toInt ≤ (nI 3).toInt ∧ (nI 3).toInt ≤ (nI 4).toInt)) = nI 1 by decide) ?_
  refine am_if_ne (tgt := 33) dX11_lock_26 (by decide) (fun _ => ?_) (fun h => absurd h (by decide))
  refine am_iconst (v := nI 0) dX11_lock_33 (by decide) ?_
  refine am_iconst (v := nI 0) dX11_lock_34 (by decide) ?_
  refine am_iconst (v := nI 0) dX11_lock_35 (by decide) ?_
  refine am_callVx (i := 0) (j := 60) (as := [.inl (nI 0), .inl (nI 0), .inl (nI 0)]) (rest := []) dX11_lock_36 lkX11_refuse ml_X11_441 imX11_refuse seX11_refuse rfl rfl (hG.m0 (by decide)) rfl (Nat.le_of_ble_eq_true rfl) rfl (c_refuse000 hG I) ?_
  refine am_if_eq (tgt := 44) dX11_lock_39 (by decide) (fun _ => ?_) (fun h => absurd h (by decide))
  refine am_iload_n dX11_lock_44 rfl ?_
  refine am_iload_n dX11_lock_45 rfl ?_
  refine am_callSx (as := [.inl (nI i), .inl (nI r)]) (rest := []) dX11_lock_46 lkX11_at ml_X11_208 isX11_at rfl (Nat.le_of_ble_eq_true rfl) rfl (c_Mat hG.nd (g := i) (r := r) (by omega) (by omega) (am_up I 0 60 0 (nI 0))) ?_
  refine am_istore dX11_lock_49 (by decide) ?_
  refine am_iload_n dX11_lock_51 rfl ?_
  refine am_tabIn (off := 56) (tgt := 108) dX11_lock_52 (by decide) (by decide) rfl (by decide) ?_
  refine am_aload_n dX11_lock_108 rfl ?_
  refine am_iload_n dX11_lock_109 rfl ?_
  refine am_callVx (i := 0) (j := 60) (as := [.inl (nI i)]) (rest := []) dX11_lock_110 lkX11_isCalling ml_X11_264 imX11_isCalling seX11_isCalling rfl rfl (hG.m0 (by decide)) rfl (Nat.le_of_ble_eq_true rfl) rfl (c_MisCalling0 hG hi (am_up I 0 60 0 (nI 0)) (by simp [am_up, am_upf, upd, hI, am_fr, am_dk, hi])) ?_
  refine am_if_eq (tgt := 126) dX11_lock_113 (by decide) (fun _ => ?_) (fun h => absurd h (by decide))
  refine am_iconst (v := nI 0) dX11_lock_126 (by decide) ?_
  refine am_iret dX11_lock_127 rfl rfl ?_
  exact ⟨rfl, (by simp [am_up, am_upf, upd, hI, am_fr, am_dk, hi])⟩
theorem m_lock4 {G : am_G} (hG : am_okM G) {d : Nat} {i : Nat} (hi : i < G.2.2.2.1) {r : Nat} (hr : r < 136)  {I : am_I} (hI : I = am_fr G.2.2.2.1)  : am_C G (d + 3) mX11_lock [.inr (0, 60), .inl (nI i), .inl (nI r), .inl (nI 4)] I (fun rr J => rr = some (nI 0) ∧ J 0 60 0 = nI 0) := by
  have hn4 := hG.hi
  have hn2 := hG.lo
  refine am_of (by decide +kernel) hG.nd (Nat.le_of_ble_eq_true rfl) ?_
  refine am_aload_n dX11_lock_0 rfl ?_
  refine am_aload_n dX11_lock_1 rfl ?_
  refine am_iload_n dX11_lock_2 rfl ?_
  refine am_callVx (i := 0) (j := 60) (as := [.inl (nI i)]) (rest := [.inr (0, 60)]) dX11_lock_3 lkX11_isNode ml_X11_434 imX11_isNode seX11_isNode rfl rfl (hG.m0 (by decide)) rfl (Nat.le_of_ble_eq_true rfl) rfl (c_MisNodeY hG hi (by simp [am_up, am_upf, upd, hI, am_fr, am_dk, hi])) ?_
  refine am_if_eq (tgt := 29) dX11_lock_6 (by decide) (fun h => absurd h (by decide)) (fun _ => ?_)
  refine am_iload_n dX11_lock_9 rfl ?_
  refine am_iconst (v := nI 0) dX11_lock_10 (by decide) ?_
  refine am_sipush (v := nI 135) dX11_lock_11 (by decide) ?_
  refine am_callSx (as := [.inl (nI r), .inl (nI 0), .inl (nI 135)]) (rest := [.inr (0, 60)]) dX11_lock_14 lkX11_in ml_X11_243 isX11_in rfl (Nat.le_of_ble_eq_true rfl) rfl (c_Min hG.nd (nI r) (nI 0) (nI 135) I) ?_
  refine am_top (show am_b (decide ((nI 0).toInt ≤ (nI r).toInt ∧ (nI r).toInt ≤ (nI 135).toInt)) = nI 1 from Eq.trans (show am_b (decide ((nI 0).toInt ≤ (nI r).toInt ∧ (nI r).toInt ≤ (nI 135).toInt)) = am_b (decide (0 ≤ (nI r).toInt ∧ (nI r).toInt ≤ 135)) from by rw [nI_toInt (n := 0) (by omega), nI_toInt (n := 135) (by omega)]; rfl) (am_bT _ (by rw [nI_toInt (n := r) (by omega)]; omega))) ?_
  refine am_if_eq (tgt := 29) dX11_lock_17 (by decide) (fun h => absurd h (by decide)) (fun _ => ?_)
  refine am_iload_n dX11_lock_20 rfl ?_
  refine am_iconst (v := nI 0) dX11_lock_21 (by decide) ?_
  refine am_iconst (v := nI 4) dX11_lock_22 (by decide) ?_
  refine am_callSx (as := [.inl (nI 4), .inl (nI 0), .inl (nI 4)]) (rest := [.inr (0, 60)]) dX11_lock_23 lkX11_in ml_X11_243 isX11_in rfl (Nat.le_of_ble_eq_true rfl) rfl (c_Min hG.nd (nI 4) (nI 0) (nI 4) I) ?_
  refine am_top (show am_b (decide ((nI 0).toInt ≤ (nI 4).toInt ∧ (nI 4).toInt ≤ (nI 4).toInt)) = nI 1 by decide) ?_
  refine am_if_ne (tgt := 33) dX11_lock_26 (by decide) (fun _ => ?_) (fun h => absurd h (by decide))
  refine am_iconst (v := nI 0) dX11_lock_33 (by decide) ?_
  refine am_iconst (v := nI 0) dX11_lock_34 (by decide) ?_
  refine am_iconst (v := nI 0) dX11_lock_35 (by decide) ?_
  refine am_callVx (i := 0) (j := 60) (as := [.inl (nI 0), .inl (nI 0), .inl (nI 0)]) (rest := []) dX11_lock_36 lkX11_refuse ml_X11_441 imX11_refuse seX11_refuse rfl rfl (hG.m0 (by decide)) rfl (Nat.le_of_ble_eq_true rfl) rfl (c_refuse000 hG I) ?_
  refine am_if_eq (tgt := 44) dX11_lock_39 (by decide) (fun _ => ?_) (fun h => absurd h (by decide))
  refine am_iload_n dX11_lock_44 rfl ?_
  refine am_iload_n dX11_lock_45 rfl ?_
  refine am_callSx (as := [.inl (nI i), .inl (nI r)]) (rest := []) dX11_lock_46 lkX11_at ml_X11_208 isX11_at rfl (Nat.le_of_ble_eq_true rfl) rfl (c_Mat hG.nd (g := i) (r := r) (by omega) (by omega) (am_up I 0 60 0 (nI 0))) ?_
  refine am_istore dX11_lock_49 (by decide) ?_
  refine am_iload_n dX11_lock_51 rfl ?_
  refine am_tabOut (tgt := 128) dX11_lock_52 (by decide) (by decide) ?_
  refine am_aload_n dX11_lock_128 rfl ?_
  refine am_get (v := .inr (0, 94)) dX11_lock_129 fl_11_102 (hG.m0 (by decide)) rfl ?_
  refine am_iconst (v := nI 4) dX11_lock_132 (by decide) ?_
  refine am_iload_n dX11_lock_133 rfl ?_
  refine am_imul dX11_lock_134 ?_
  refine am_top (pk_mul _ _) ?_
  refine am_iload_n dX11_lock_135 rfl ?_
  refine am_iadd dX11_lock_136 ?_
  refine am_top (nI_add _ _) ?_
  refine am_iald (a := 4 * r + i) dX11_lock_137 (hG.m0 (by decide)) rfl rfl (show 4 * r + i < 544 from (by omega)) (show 544 < 2 ^ 31 by decide) ?_
  refine am_top (show (am_up I 0 60 0 (nI 0)) 0 94 (4 * r + i) = nI 0 from (by simp [am_up, am_upf, upd, hI, am_fr, am_dk, hi])) ?_
  refine am_iret dX11_lock_138 rfl rfl ?_
  exact ⟨rfl, (by simp [am_up, am_upf, upd, hI, am_fr, am_dk, hi])⟩
theorem m_rowA {G : am_G} (hG : am_okM G) {d : Nat} (y w : Int32) (hy : ¬ (0 ≤ y.toInt ∧ y.toInt < 136))  {I : am_I} (hI : I = am_fr G.2.2.2.1)  : am_C G (d + 3) mX11_row [.inr (0, 60), .inl y, .inl w] I (fun rr J => rr = some (nI 0) ∧ J 0 60 0 = nI 1) := by
  have hn4 := hG.hi
  have hn2 := hG.lo
  refine am_of (by decide +kernel) hG.nd (Nat.le_of_ble_eq_true rfl) ?_
  refine am_aload_n dX11_row_0 rfl ?_
  refine am_iload_n dX11_row_1 rfl ?_
  refine am_iconst (v := nI 0) dX11_row_2 (by decide) ?_
  refine am_sipush (v := nI 135) dX11_row_3 (by decide) ?_
  refine am_callSx (as := [.inl y, .inl (nI 0), .inl (nI 135)]) (rest := [.inr (0, 60)]) dX11_row_6 lkX11_in ml_X11_243 isX11_in rfl (Nat.le_of_ble_eq_true rfl) rfl (c_Min hG.nd y (nI 0) (nI 135) I) ?_
  refine am_top (show am_b (decide ((nI 0).toInt ≤ y.toInt ∧ y.toInt ≤ (nI 135).toInt)) = nI 0 from Eq.trans (show am_b (decide ((nI 0).toInt ≤ y.toInt ∧ y.toInt ≤ (nI 135).toInt)) = am_b (decide (0 ≤ y.toInt ∧ y.toInt ≤ 135)) from by rw [nI_toInt (n := 0) (by omega), nI_toInt (n := 135) (by omega)]; rfl) (am_bF _ (by omega))) ?_
  refine am_if_eq (tgt := 16) dX11_row_9 (by decide) (fun _ => ?_) (fun h => absurd h (by decide))
  refine am_iconst (v := nI 1) dX11_row_16 (by decide) ?_
  refine am_goto (tgt := 21) dX11_row_17 (by decide) ?_
  refine am_iconst (v := nI 0) dX11_row_21 (by decide) ?_
  refine am_iconst (v := nI 0) dX11_row_22 (by decide) ?_
  refine am_callVx (i := 0) (j := 60) (as := [.inl (nI 1), .inl (nI 0), .inl (nI 0)]) (rest := []) dX11_row_23 lkX11_refuse ml_X11_441 imX11_refuse seX11_refuse rfl rfl (hG.m0 (by decide)) rfl (Nat.le_of_ble_eq_true rfl) rfl (c_refuse100 hG I) ?_
  refine am_if_eq (tgt := 31) dX11_row_26 (by decide) (fun h => absurd h (by decide)) (fun _ => ?_)
  refine am_iconst (v := nI 0) dX11_row_29 (by decide) ?_
  refine am_iret dX11_row_30 rfl rfl ?_
  exact ⟨rfl, (by simp [am_up, am_upf, upd, hI, am_fr, am_dk])⟩
theorem m_rowB {G : am_G} (hG : am_okM G) {d : Nat} {r : Nat} (hr : r < 136) (w : Int32) (hw : w.toInt < 0) {I : am_I} (hI : I = am_fr G.2.2.2.1)  : am_C G (d + 3) mX11_row [.inr (0, 60), .inl (nI r), .inl w] I (fun rr J => rr = some (nI 0) ∧ J 0 60 0 = nI 1) := by
  have hn4 := hG.hi
  have hn2 := hG.lo
  refine am_of (by decide +kernel) hG.nd (Nat.le_of_ble_eq_true rfl) ?_
  refine am_aload_n dX11_row_0 rfl ?_
  refine am_iload_n dX11_row_1 rfl ?_
  refine am_iconst (v := nI 0) dX11_row_2 (by decide) ?_
  refine am_sipush (v := nI 135) dX11_row_3 (by decide) ?_
  refine am_callSx (as := [.inl (nI r), .inl (nI 0), .inl (nI 135)]) (rest := [.inr (0, 60)]) dX11_row_6 lkX11_in ml_X11_243 isX11_in rfl (Nat.le_of_ble_eq_true rfl) rfl (c_Min hG.nd (nI r) (nI 0) (nI 135) I) ?_
  refine am_top (show am_b (decide ((nI 0).toInt ≤ (nI r).toInt ∧ (nI r).toInt ≤ (nI 135).toInt)) = nI 1 from Eq.trans (show am_b (decide ((nI 0).toInt ≤ (nI r).toInt ∧ (nI r).toInt ≤ (nI 135).toInt)) = am_b (decide (0 ≤ (nI r).toInt ∧ (nI r).toInt ≤ 135)) from by rw [nI_toInt (n := 0) (by omega), nI_toInt (n := 135) (by omega)]; rfl) (am_bT _ (by rw [nI_toInt (n := r) (by omega)]; omega))) ?_
  refine am_if_eq (tgt := 16) dX11_row_9 (by decide) (fun h => absurd h (by decide)) (fun _ => ?_)
  refine am_iload_n dX11_row_12 rfl ?_
  refine am_if_ge (tgt := 20) dX11_row_13 (by decide) (fun h => absurd h (fun z => absurd (Int32.le_iff_toInt_le.mp z) (by rw [am_i0]; omega))) (fun _ => ?_)
  refine am_iconst (v := nI 1) dX11_row_16 (by decide) ?_
  refine am_goto (tgt := 21) dX11_row_17 (by decide) ?_
  refine am_iconst (v := nI 0) dX11_row_21 (by decide) ?_
  refine am_iconst (v := nI 0) dX11_row_22 (by decide) ?_
  refine am_callVx (i := 0) (j := 60) (as := [.inl (nI 1), .inl (nI 0), .inl (nI 0)]) (rest := []) dX11_row_23 lkX11_refuse ml_X11_441 imX11_refuse seX11_refuse rfl rfl (hG.m0 (by decide)) rfl (Nat.le_of_ble_eq_true rfl) rfl (c_refuse100 hG I) ?_
  refine am_if_eq (tgt := 31) dX11_row_26 (by decide) (fun h => absurd h (by decide)) (fun _ => ?_)
  refine am_iconst (v := nI 0) dX11_row_29 (by decide) ?_
  refine am_iret dX11_row_30 rfl rfl ?_
  exact ⟨rfl, (by simp [am_up, am_upf, upd, hI, am_fr, am_dk])⟩
theorem m_row0 {G : am_G} (hG : am_okM G) {d : Nat} {r : Nat} (hr : r < 136)  {I : am_I} (hI : I = am_fr G.2.2.2.1)  : am_C G (d + 3) mX11_row [.inr (0, 60), .inl (nI r), .inl (nI 0)] I (fun rr J => rr = some (nI (r % G.2.2.2.1)) ∧ J 0 60 0 = nI 0) := by
  have hn4 := hG.hi
  have hn2 := hG.lo
  refine am_of (by decide +kernel) hG.nd (Nat.le_of_ble_eq_true rfl) ?_
  refine am_aload_n dX11_row_0 rfl ?_
  refine am_iload_n dX11_row_1 rfl ?_
  refine am_iconst (v := nI 0) dX11_row_2 (by decide) ?_
  refine am_sipush (v := nI 135) dX11_row_3 (by decide) ?_
  refine am_callSx (as := [.inl (nI r), .inl (nI 0), .inl (nI 135)]) (rest := [.inr (0, 60)]) dX11_row_6 lkX11_in ml_X11_243 isX11_in rfl (Nat.le_of_ble_eq_true rfl) rfl (c_Min hG.nd (nI r) (nI 0) (nI 135) I) ?_
  refine am_top (show am_b (decide ((nI 0).toInt ≤ (nI r).toInt ∧ (nI r).toInt ≤ (nI 135).toInt)) = nI 1 from Eq.trans (show am_b (decide ((nI 0).toInt ≤ (nI r).toInt ∧ (nI r).toInt ≤ (nI 135).toInt)) = am_b (decide (0 ≤ (nI r).toInt ∧ (nI r).toInt ≤ 135)) from by rw [nI_toInt (n := 0) (by omega), nI_toInt (n := 135) (by omega)]; rfl) (am_bT _ (by rw [nI_toInt (n := r) (by omega)]; omega))) ?_
  refine am_if_eq (tgt := 16) dX11_row_9 (by decide) (fun h => absurd h (by decide)) (fun _ => ?_)
  refine am_iload_n dX11_row_12 rfl ?_
  refine am_if_ge (tgt := 20) dX11_row_13 (by decide) (fun _ => ?_) (fun h => absurd h (by decide))
  refine am_iconst (v := nI 0) dX11_row_20 (by decide) ?_
  refine am_iconst (v := nI 0) dX11_row_21 (by decide) ?_
  refine am_iconst (v := nI 0) dX11_row_22 (by decide) ?_
  refine am_callVx (i := 0) (j := 60) (as := [.inl (nI 0), .inl (nI 0), .inl (nI 0)]) (rest := []) dX11_row_23 lkX11_refuse ml_X11_441 imX11_refuse seX11_refuse rfl rfl (hG.m0 (by decide)) rfl (Nat.le_of_ble_eq_true rfl) rfl (c_refuse000 hG I) ?_
  refine am_if_eq (tgt := 31) dX11_row_26 (by decide) (fun _ => ?_) (fun h => absurd h (by decide))
  refine am_iload_n dX11_row_31 rfl ?_
  refine am_iconst (v := nI 2) dX11_row_32 (by decide) ?_
  refine am_icmp_ge (tgt := 55) dX11_row_33 (by decide) (fun h => absurd h (by decide)) (fun _ => ?_)
  refine am_iload_n dX11_row_36 rfl ?_
  refine am_if_ne (tgt := 48) dX11_row_37 (by decide) (fun h => absurd h (by decide)) (fun _ => ?_)
  refine am_aload_n dX11_row_40 rfl ?_
  refine am_iload_n dX11_row_41 rfl ?_
  refine am_callVx (i := 0) (j := 60) (as := [.inl (nI r)]) (rest := []) dX11_row_42 lkX11_masterOf ml_X11_226 imX11_masterOf seX11_masterOf rfl rfl (hG.m0 (by decide)) rfl (Nat.le_of_ble_eq_true rfl) rfl (c_MmasterOf hG (by omega) (am_up I 0 60 0 (nI 0)) (fun x hx => by simp [am_up, am_upf, upd, hI, am_fr, hx]) (by simp [am_up, am_upf, upd, hI, am_fr, am_dk])) ?_
  refine am_goto (tgt := 54) dX11_row_45 (by decide) ?_
  refine am_iret dX11_row_54 rfl rfl ?_
  exact ⟨rfl, (by simp [am_up, am_upf, upd, hI, am_fr, am_dk])⟩
theorem m_row1 {G : am_G} (hG : am_okM G) {d : Nat} {r : Nat} (hr : r < 136)  {I : am_I} (hI : I = am_fr G.2.2.2.1)  : am_C G (d + 3) mX11_row [.inr (0, 60), .inl (nI r), .inl (nI 1)] I (fun rr J => rr = some (nI 0) ∧ J 0 60 0 = nI 0) := by
  have hn4 := hG.hi
  have hn2 := hG.lo
  refine am_of (by decide +kernel) hG.nd (Nat.le_of_ble_eq_true rfl) ?_
  refine am_aload_n dX11_row_0 rfl ?_
  refine am_iload_n dX11_row_1 rfl ?_
  refine am_iconst (v := nI 0) dX11_row_2 (by decide) ?_
  refine am_sipush (v := nI 135) dX11_row_3 (by decide) ?_
  refine am_callSx (as := [.inl (nI r), .inl (nI 0), .inl (nI 135)]) (rest := [.inr (0, 60)]) dX11_row_6 lkX11_in ml_X11_243 isX11_in rfl (Nat.le_of_ble_eq_true rfl) rfl (c_Min hG.nd (nI r) (nI 0) (nI 135) I) ?_
  refine am_top (show am_b (decide ((nI 0).toInt ≤ (nI r).toInt ∧ (nI r).toInt ≤ (nI 135).toInt)) = nI 1 from Eq.trans (show am_b (decide ((nI 0).toInt ≤ (nI r).toInt ∧ (nI r).toInt ≤ (nI 135).toInt)) = am_b (decide (0 ≤ (nI r).toInt ∧ (nI r).toInt ≤ 135)) from by rw [nI_toInt (n := 0) (by omega), nI_toInt (n := 135) (by omega)]; rfl) (am_bT _ (by rw [nI_toInt (n := r) (by omega)]; omega))) ?_
  refine am_if_eq (tgt := 16) dX11_row_9 (by decide) (fun h => absurd h (by decide)) (fun _ => ?_)
  refine am_iload_n dX11_row_12 rfl ?_
  refine am_if_ge (tgt := 20) dX11_row_13 (by decide) (fun _ => ?_) (fun h => absurd h (by decide))
  refine am_iconst (v := nI 0) dX11_row_20 (by decide) ?_
  refine am_iconst (v := nI 0) dX11_row_21 (by decide) ?_
  refine am_iconst (v := nI 0) dX11_row_22 (by decide) ?_
  refine am_callVx (i := 0) (j := 60) (as := [.inl (nI 0), .inl (nI 0), .inl (nI 0)]) (rest := []) dX11_row_23 lkX11_refuse ml_X11_441 imX11_refuse seX11_refuse rfl rfl (hG.m0 (by decide)) rfl (Nat.le_of_ble_eq_true rfl) rfl (c_refuse000 hG I) ?_
  refine am_if_eq (tgt := 31) dX11_row_26 (by decide) (fun _ => ?_) (fun h => absurd h (by decide))
  refine am_iload_n dX11_row_31 rfl ?_
  refine am_iconst (v := nI 2) dX11_row_32 (by decide) ?_
  refine am_icmp_ge (tgt := 55) dX11_row_33 (by decide) (fun h => absurd h (by decide)) (fun _ => ?_)
  refine am_iload_n dX11_row_36 rfl ?_
  refine am_if_ne (tgt := 48) dX11_row_37 (by decide) (fun _ => ?_) (fun h => absurd h (by decide))
  refine am_aload_n dX11_row_48 rfl ?_
  refine am_get (v := .inr (0, 96)) dX11_row_49 fl_11_108 (hG.m0 (by decide)) rfl ?_
  refine am_iload_n dX11_row_52 rfl ?_
  refine am_iald (a := r) dX11_row_53 (hG.m0 (by decide)) rfl rfl (show r < 136 from (by omega)) (show 136 < 2 ^ 31 by decide) ?_
  refine am_top (show (am_up I 0 60 0 (nI 0)) 0 96 r = nI 0 from (by simp [am_up, am_upf, upd, hI, am_fr, am_dk])) ?_
  refine am_iret dX11_row_54 rfl rfl ?_
  exact ⟨rfl, (by simp [am_up, am_upf, upd, hI, am_fr, am_dk])⟩
theorem m_row2 {G : am_G} (hG : am_okM G) {d : Nat} {r : Nat} (hr : r < 136) {v : Nat} (hv : 2 ≤ v) (hv2 : v < 2 ^ 31) {I : am_I} (hI : I = am_fr G.2.2.2.1)  : am_C G (d + 3) mX11_row [.inr (0, 60), .inl (nI r), .inl (nI v)] I (fun rr J => rr = some (-1 : Int32) ∧ J 0 60 0 = nI 0) := by
  have hn4 := hG.hi
  have hn2 := hG.lo
  refine am_of (by decide +kernel) hG.nd (Nat.le_of_ble_eq_true rfl) ?_
  refine am_aload_n dX11_row_0 rfl ?_
  refine am_iload_n dX11_row_1 rfl ?_
  refine am_iconst (v := nI 0) dX11_row_2 (by decide) ?_
  refine am_sipush (v := nI 135) dX11_row_3 (by decide) ?_
  refine am_callSx (as := [.inl (nI r), .inl (nI 0), .inl (nI 135)]) (rest := [.inr (0, 60)]) dX11_row_6 lkX11_in ml_X11_243 isX11_in rfl (Nat.le_of_ble_eq_true rfl) rfl (c_Min hG.nd (nI r) (nI 0) (nI 135) I) ?_
  refine am_top (show am_b (decide ((nI 0).toInt ≤ (nI r).toInt ∧ (nI r).toInt ≤ (nI 135).toInt)) = nI 1 from Eq.trans (show am_b (decide ((nI 0).toInt ≤ (nI r).toInt ∧ (nI r).toInt ≤ (nI 135).toInt)) = am_b (decide (0 ≤ (nI r).toInt ∧ (nI r).toInt ≤ 135)) from by rw [nI_toInt (n := 0) (by omega), nI_toInt (n := 135) (by omega)]; rfl) (am_bT _ (by rw [nI_toInt (n := r) (by omega)]; omega))) ?_
  refine am_if_eq (tgt := 16) dX11_row_9 (by decide) (fun h => absurd h (by decide)) (fun _ => ?_)
  refine am_iload_n dX11_row_12 rfl ?_
  refine am_if_ge (tgt := 20) dX11_row_13 (by decide) (fun _ => ?_) (fun h => absurd ((nI_leI (a := 0) (b := v) (by omega) (by omega)).mpr (by omega)) h)
  refine am_iconst (v := nI 0) dX11_row_20 (by decide) ?_
  refine am_iconst (v := nI 0) dX11_row_21 (by decide) ?_
  refine am_iconst (v := nI 0) dX11_row_22 (by decide) ?_
  refine am_callVx (i := 0) (j := 60) (as := [.inl (nI 0), .inl (nI 0), .inl (nI 0)]) (rest := []) dX11_row_23 lkX11_refuse ml_X11_441 imX11_refuse seX11_refuse rfl rfl (hG.m0 (by decide)) rfl (Nat.le_of_ble_eq_true rfl) rfl (c_refuse000 hG I) ?_
  refine am_if_eq (tgt := 31) dX11_row_26 (by decide) (fun _ => ?_) (fun h => absurd h (by decide))
  refine am_iload_n dX11_row_31 rfl ?_
  refine am_iconst (v := nI 2) dX11_row_32 (by decide) ?_
  refine am_icmp_ge (tgt := 55) dX11_row_33 (by decide) (fun _ => ?_) (fun h => absurd ((nI_leI (a := 2) (b := v) (by omega) (by omega)).mpr (by omega)) h)
  refine am_iload_n dX11_row_55 rfl ?_
  refine am_iconst (v := nI 2) dX11_row_56 (by decide) ?_
  refine am_isub dX11_row_57 ?_
  refine am_top (pk_sub hv) ?_
  refine am_iconst (v := nI 2) dX11_row_58 (by decide) ?_
  refine am_idiv dX11_row_59 (by decide) ?_
  refine am_top (pk_div (by omega) (by omega) (by omega)) ?_
  refine am_istore_n dX11_row_60 (by decide) ?_
  refine am_iload_n dX11_row_61 rfl ?_
  refine am_aload_n dX11_row_62 rfl ?_
  refine am_get (v := .inr (0, 96)) dX11_row_63 fl_11_108 (hG.m0 (by decide)) rfl ?_
  refine am_iload_n dX11_row_66 rfl ?_
  refine am_iald (a := r) dX11_row_67 (hG.m0 (by decide)) rfl rfl (show r < 136 from (by omega)) (show 136 < 2 ^ 31 by decide) ?_
  refine am_top (show (am_up I 0 60 0 (nI 0)) 0 96 r = nI 0 from (by simp [am_up, am_upf, upd, hI, am_fr, am_dk])) ?_
  refine am_icmp_lt (tgt := 73) dX11_row_68 (by decide) (fun h => absurd ((nI_ltI (a := (v - 2) / 2) (b := 0) (by omega) (by omega)).mp h) (by omega)) (fun _ => ?_)
  refine am_iconst (v := (-1 : Int32)) dX11_row_71 (by decide) ?_
  refine am_iret dX11_row_72 rfl rfl ?_
  exact ⟨rfl, (by simp [am_up, am_upf, upd, hI, am_fr, am_dk])⟩
theorem m_nodeA {G : am_G} (hG : am_okM G) {d : Nat} (x : Int32) (hx : ¬ (0 ≤ x.toInt ∧ x.toInt < (G.2.2.2.1 : Int))) (w : Int32) {I : am_I} (hI : I = am_fr G.2.2.2.1)  : am_C G (d + 3) mX11_node [.inr (0, 60), .inl x, .inl w] I (fun rr J => rr = some (nI 0) ∧ J 0 60 0 = nI 1) := by
  have hn4 := hG.hi
  have hn2 := hG.lo
  refine am_of (by decide +kernel) hG.nd (Nat.le_of_ble_eq_true rfl) ?_
  refine am_aload_n dX11_node_0 rfl ?_
  refine am_aload_n dX11_node_1 rfl ?_
  refine am_iload_n dX11_node_2 rfl ?_
  refine am_callVx (i := 0) (j := 60) (as := [.inl x]) (rest := [.inr (0, 60)]) dX11_node_3 lkX11_isNode ml_X11_434 imX11_isNode seX11_isNode rfl rfl (hG.m0 (by decide)) rfl (Nat.le_of_ble_eq_true rfl) rfl (c_MisNodeN hG hx (by simp [am_up, am_upf, upd, hI, am_fr, am_dk])) ?_
  refine am_if_eq (tgt := 19) dX11_node_6 (by decide) (fun _ => ?_) (fun h => absurd h (by decide))
  refine am_iconst (v := nI 1) dX11_node_19 (by decide) ?_
  refine am_goto (tgt := 24) dX11_node_20 (by decide) ?_
  refine am_iconst (v := nI 0) dX11_node_24 (by decide) ?_
  refine am_iconst (v := nI 0) dX11_node_25 (by decide) ?_
  refine am_callVx (i := 0) (j := 60) (as := [.inl (nI 1), .inl (nI 0), .inl (nI 0)]) (rest := []) dX11_node_26 lkX11_refuse ml_X11_441 imX11_refuse seX11_refuse rfl rfl (hG.m0 (by decide)) rfl (Nat.le_of_ble_eq_true rfl) rfl (c_refuse100 hG I) ?_
  refine am_if_eq (tgt := 34) dX11_node_29 (by decide) (fun h => absurd h (by decide)) (fun _ => ?_)
  refine am_iconst (v := nI 0) dX11_node_32 (by decide) ?_
  refine am_iret dX11_node_33 rfl rfl ?_
  exact ⟨rfl, (by simp [am_up, am_upf, upd, hI, am_fr, am_dk])⟩
theorem m_nodeB {G : am_G} (hG : am_okM G) {d : Nat} {i : Nat} (hi : i < G.2.2.2.1) (w : Int32) (hw : w.toInt < 0 ∨ 6 < w.toInt) {I : am_I} (hI : I = am_fr G.2.2.2.1)  : am_C G (d + 3) mX11_node [.inr (0, 60), .inl (nI i), .inl w] I (fun rr J => rr = some (nI 0) ∧ J 0 60 0 = nI 1) := by
  have hn4 := hG.hi
  have hn2 := hG.lo
  refine am_of (by decide +kernel) hG.nd (Nat.le_of_ble_eq_true rfl) ?_
  refine am_aload_n dX11_node_0 rfl ?_
  refine am_aload_n dX11_node_1 rfl ?_
  refine am_iload_n dX11_node_2 rfl ?_
  refine am_callVx (i := 0) (j := 60) (as := [.inl (nI i)]) (rest := [.inr (0, 60)]) dX11_node_3 lkX11_isNode ml_X11_434 imX11_isNode seX11_isNode rfl rfl (hG.m0 (by decide)) rfl (Nat.le_of_ble_eq_true rfl) rfl (c_MisNodeY hG hi (by simp [am_up, am_upf, upd, hI, am_fr, am_dk, hi])) ?_
  refine am_if_eq (tgt := 19) dX11_node_6 (by decide) (fun h => absurd h (by decide)) (fun _ => ?_)
  refine am_iload_n dX11_node_9 rfl ?_
  refine am_iconst (v := nI 0) dX11_node_10 (by decide) ?_
  refine am_bipush (v := nI 6) dX11_node_11 (by decide) ?_
  refine am_callSx (as := [.inl w, .inl (nI 0), .inl (nI 6)]) (rest := [.inr (0, 60)]) dX11_node_13 lkX11_in ml_X11_243 isX11_in rfl (Nat.le_of_ble_eq_true rfl) rfl (c_Min hG.nd w (nI 0) (nI 6) I) ?_
  refine am_top (show am_b (decide ((nI 0).toInt ≤ w.toInt ∧ w.toInt ≤ (nI 6).toInt)) = nI 0 from Eq.trans (show am_b (decide ((nI 0).toInt ≤ w.toInt ∧ w.toInt ≤ (nI 6).toInt)) = am_b (decide (0 ≤ w.toInt ∧ w.toInt ≤ 6)) from by rw [nI_toInt (n := 0) (by omega), nI_toInt (n := 6) (by omega)]; rfl) (am_bF _ (by omega))) ?_
  refine am_if_ne (tgt := 23) dX11_node_16 (by decide) (fun h => absurd h (by decide)) (fun _ => ?_)
  refine am_iconst (v := nI 1) dX11_node_19 (by decide) ?_
  refine am_goto (tgt := 24) dX11_node_20 (by decide) ?_
  refine am_iconst (v := nI 0) dX11_node_24 (by decide) ?_
  refine am_iconst (v := nI 0) dX11_node_25 (by decide) ?_
  refine am_callVx (i := 0) (j := 60) (as := [.inl (nI 1), .inl (nI 0), .inl (nI 0)]) (rest := []) dX11_node_26 lkX11_refuse ml_X11_441 imX11_refuse seX11_refuse rfl rfl (hG.m0 (by decide)) rfl (Nat.le_of_ble_eq_true rfl) rfl (c_refuse100 hG I) ?_
  refine am_if_eq (tgt := 34) dX11_node_29 (by decide) (fun h => absurd h (by decide)) (fun _ => ?_)
  refine am_iconst (v := nI 0) dX11_node_32 (by decide) ?_
  refine am_iret dX11_node_33 rfl rfl ?_
  exact ⟨rfl, (by simp [am_up, am_upf, upd, hI, am_fr, am_dk, hi])⟩
theorem m_node0 {G : am_G} (hG : am_okM G) {d : Nat} {i : Nat} (hi : i < G.2.2.2.1)  {I : am_I} (hI : I = am_fr G.2.2.2.1)  : am_C G (d + 3) mX11_node [.inr (0, 60), .inl (nI i), .inl (nI 0)] I (fun rr J => rr = some (nI 1) ∧ J 0 60 0 = nI 0) := by
  have hn4 := hG.hi
  have hn2 := hG.lo
  refine am_of (by decide +kernel) hG.nd (Nat.le_of_ble_eq_true rfl) ?_
  refine am_aload_n dX11_node_0 rfl ?_
  refine am_aload_n dX11_node_1 rfl ?_
  refine am_iload_n dX11_node_2 rfl ?_
  refine am_callVx (i := 0) (j := 60) (as := [.inl (nI i)]) (rest := [.inr (0, 60)]) dX11_node_3 lkX11_isNode ml_X11_434 imX11_isNode seX11_isNode rfl rfl (hG.m0 (by decide)) rfl (Nat.le_of_ble_eq_true rfl) rfl (c_MisNodeY hG hi (by simp [am_up, am_upf, upd, hI, am_fr, am_dk, hi])) ?_
  refine am_if_eq (tgt := 19) dX11_node_6 (by decide) (fun h => absurd h (by decide)) (fun _ => ?_)
  refine am_iload_n dX11_node_9 rfl ?_
  refine am_iconst (v := nI 0) dX11_node_10 (by decide) ?_
  refine am_bipush (v := nI 6) dX11_node_11 (by decide) ?_
  refine am_callSx (as := [.inl (nI 0), .inl (nI 0), .inl (nI 6)]) (rest := [.inr (0, 60)]) dX11_node_13 lkX11_in ml_X11_243 isX11_in rfl (Nat.le_of_ble_eq_true rfl) rfl (c_Min hG.nd (nI 0) (nI 0) (nI 6) I) ?_
  refine am_top (show am_b (decide ((nI 0).toInt ≤ (nI 0).toInt ∧ (nI 0).toInt ≤ (nI 6).toInt)) = nI 1 by decide) ?_
  refine am_if_ne (tgt := 23) dX11_node_16 (by decide) (fun _ => ?_) (fun h => absurd h (by decide))
  refine am_iconst (v := nI 0) dX11_node_23 (by decide) ?_
  refine am_iconst (v := nI 0) dX11_node_24 (by decide) ?_
  refine am_iconst (v := nI 0) dX11_node_25 (by decide) ?_
  refine am_callVx (i := 0) (j := 60) (as := [.inl (nI 0), .inl (nI 0), .inl (nI 0)]) (rest := []) dX11_node_26 lkX11_refuse ml_X11_441 imX11_refuse seX11_refuse rfl rfl (hG.m0 (by decide)) rfl (Nat.le_of_ble_eq_true rfl) rfl (c_refuse000 hG I) ?_
  refine am_if_eq (tgt := 34) dX11_node_29 (by decide) (fun _ => ?_) (fun h => absurd h (by decide))
  refine am_iconst (v := nI 0) dX11_node_34 (by decide) ?_
  refine am_istore_n dX11_node_35 (by decide) ?_
  refine am_iload_n dX11_node_36 rfl ?_
  refine am_tabIn (off := 39) (tgt := 76) dX11_node_37 (by decide) (by decide) rfl (by decide) ?_
  refine am_aload_n dX11_node_76 rfl ?_
  refine am_get (v := .inr (0, 65)) dX11_node_77 fl_11_13 (hG.m0 (by decide)) rfl ?_
  refine am_iload_n dX11_node_80 rfl ?_
  refine am_zald (a := i) dX11_node_81 (hG.m0 (by decide)) rfl rfl (show i < 4 from (by omega)) (show 4 < 2 ^ 31 by decide) ?_
  refine am_top (show (am_up I 0 60 0 (nI 0)) 0 65 i = nI 1 from (by simp [am_up, am_upf, upd, hI, am_fr, am_dk, hi])) ?_
  refine am_if_eq (tgt := 89) dX11_node_82 (by decide) (fun h => absurd h (by decide)) (fun _ => ?_)
  refine am_iconst (v := nI 1) dX11_node_85 (by decide) ?_
  refine am_goto (tgt := 90) dX11_node_86 (by decide) ?_
  refine am_iret dX11_node_90 rfl rfl ?_
  exact ⟨rfl, (by simp [am_up, am_upf, upd, hI, am_fr, am_dk, hi])⟩
theorem m_node1 {G : am_G} (hG : am_okM G) {d : Nat} {i : Nat} (hi : i < G.2.2.2.1)  {I : am_I} (hI : I = am_fr G.2.2.2.1)  : am_C G (d + 3) mX11_node [.inr (0, 60), .inl (nI i), .inl (nI 1)] I (fun rr J => rr = some (nI 1) ∧ J 0 60 0 = nI 0) := by
  have hn4 := hG.hi
  have hn2 := hG.lo
  refine am_of (by decide +kernel) hG.nd (Nat.le_of_ble_eq_true rfl) ?_
  refine am_aload_n dX11_node_0 rfl ?_
  refine am_aload_n dX11_node_1 rfl ?_
  refine am_iload_n dX11_node_2 rfl ?_
  refine am_callVx (i := 0) (j := 60) (as := [.inl (nI i)]) (rest := [.inr (0, 60)]) dX11_node_3 lkX11_isNode ml_X11_434 imX11_isNode seX11_isNode rfl rfl (hG.m0 (by decide)) rfl (Nat.le_of_ble_eq_true rfl) rfl (c_MisNodeY hG hi (by simp [am_up, am_upf, upd, hI, am_fr, am_dk, hi])) ?_
  refine am_if_eq (tgt := 19) dX11_node_6 (by decide) (fun h => absurd h (by decide)) (fun _ => ?_)
  refine am_iload_n dX11_node_9 rfl ?_
  refine am_iconst (v := nI 0) dX11_node_10 (by decide) ?_
  refine am_bipush (v := nI 6) dX11_node_11 (by decide) ?_
  refine am_callSx (as := [.inl (nI 1), .inl (nI 0), .inl (nI 6)]) (rest := [.inr (0, 60)]) dX11_node_13 lkX11_in ml_X11_243 isX11_in rfl (Nat.le_of_ble_eq_true rfl) rfl (c_Min hG.nd (nI 1) (nI 0) (nI 6) I) ?_
  refine am_top (show am_b (decide ((nI 0).toInt ≤ (nI 1).toInt ∧ (nI 1).toInt ≤ (nI 6).toInt)) = nI 1 by decide) ?_
  refine am_if_ne (tgt := 23) dX11_node_16 (by decide) (fun _ => ?_) (fun h => absurd h (by decide))
  refine am_iconst (v := nI 0) dX11_node_23 (by decide) ?_
  refine am_iconst (v := nI 0) dX11_node_24 (by decide) ?_
  refine am_iconst (v := nI 0) dX11_node_25 (by decide) ?_
  refine am_callVx (i := 0) (j := 60) (as := [.inl (nI 0), .inl (nI 0), .inl (nI 0)]) (rest := []) dX11_node_26 lkX11_refuse ml_X11_441 imX11_refuse seX11_refuse rfl rfl (hG.m0 (by decide)) rfl (Nat.le_of_ble_eq_true rfl) rfl (c_refuse000 hG I) ?_
  refine am_if_eq (tgt := 34) dX11_node_29 (by decide) (fun _ => ?_) (fun h => absurd h (by decide))
  refine am_iconst (v := nI 0) dX11_node_34 (by decide) ?_
  refine am_istore_n dX11_node_35 (by decide) ?_
  refine am_iload_n dX11_node_36 rfl ?_
  refine am_tabIn (off := 54) (tgt := 91) dX11_node_37 (by decide) (by decide) rfl (by decide) ?_
  refine am_aload_n dX11_node_91 rfl ?_
  refine am_get (v := .inr (0, 66)) dX11_node_92 fl_11_17 (hG.m0 (by decide)) rfl ?_
  refine am_iload_n dX11_node_95 rfl ?_
  refine am_zald (a := i) dX11_node_96 (hG.m0 (by decide)) rfl rfl (show i < 4 from (by omega)) (show 4 < 2 ^ 31 by decide) ?_
  refine am_top (show (am_up I 0 60 0 (nI 0)) 0 66 i = nI 1 from (by simp [am_up, am_upf, upd, hI, am_fr, am_dk, hi])) ?_
  refine am_if_eq (tgt := 104) dX11_node_97 (by decide) (fun h => absurd h (by decide)) (fun _ => ?_)
  refine am_iconst (v := nI 1) dX11_node_100 (by decide) ?_
  refine am_goto (tgt := 105) dX11_node_101 (by decide) ?_
  refine am_iret dX11_node_105 rfl rfl ?_
  exact ⟨rfl, (by simp [am_up, am_upf, upd, hI, am_fr, am_dk, hi])⟩
theorem m_node2 {G : am_G} (hG : am_okM G) {d : Nat} {i : Nat} (hi : i < G.2.2.2.1)  {I : am_I} (hI : I = am_fr G.2.2.2.1)  : am_C G (d + 3) mX11_node [.inr (0, 60), .inl (nI i), .inl (nI 2)] I (fun rr J => rr = some (nI 0) ∧ J 0 60 0 = nI 0) := by
  have hn4 := hG.hi
  have hn2 := hG.lo
  refine am_of (by decide +kernel) hG.nd (Nat.le_of_ble_eq_true rfl) ?_
  refine am_aload_n dX11_node_0 rfl ?_
  refine am_aload_n dX11_node_1 rfl ?_
  refine am_iload_n dX11_node_2 rfl ?_
  refine am_callVx (i := 0) (j := 60) (as := [.inl (nI i)]) (rest := [.inr (0, 60)]) dX11_node_3 lkX11_isNode ml_X11_434 imX11_isNode seX11_isNode rfl rfl (hG.m0 (by decide)) rfl (Nat.le_of_ble_eq_true rfl) rfl (c_MisNodeY hG hi (by simp [am_up, am_upf, upd, hI, am_fr, am_dk, hi])) ?_
  refine am_if_eq (tgt := 19) dX11_node_6 (by decide) (fun h => absurd h (by decide)) (fun _ => ?_)
  refine am_iload_n dX11_node_9 rfl ?_
  refine am_iconst (v := nI 0) dX11_node_10 (by decide) ?_
  refine am_bipush (v := nI 6) dX11_node_11 (by decide) ?_
  refine am_callSx (as := [.inl (nI 2), .inl (nI 0), .inl (nI 6)]) (rest := [.inr (0, 60)]) dX11_node_13 lkX11_in ml_X11_243 isX11_in rfl (Nat.le_of_ble_eq_true rfl) rfl (c_Min hG.nd (nI 2) (nI 0) (nI 6) I) ?_
  refine am_top (show am_b (decide ((nI 0).toInt ≤ (nI 2).toInt ∧ (nI 2).toInt ≤ (nI 6).toInt)) = nI 1 by decide) ?_
  refine am_if_ne (tgt := 23) dX11_node_16 (by decide) (fun _ => ?_) (fun h => absurd h (by decide))
  refine am_iconst (v := nI 0) dX11_node_23 (by decide) ?_
  refine am_iconst (v := nI 0) dX11_node_24 (by decide) ?_
  refine am_iconst (v := nI 0) dX11_node_25 (by decide) ?_
  refine am_callVx (i := 0) (j := 60) (as := [.inl (nI 0), .inl (nI 0), .inl (nI 0)]) (rest := []) dX11_node_26 lkX11_refuse ml_X11_441 imX11_refuse seX11_refuse rfl rfl (hG.m0 (by decide)) rfl (Nat.le_of_ble_eq_true rfl) rfl (c_refuse000 hG I) ?_
  refine am_if_eq (tgt := 34) dX11_node_29 (by decide) (fun _ => ?_) (fun h => absurd h (by decide))
  refine am_iconst (v := nI 0) dX11_node_34 (by decide) ?_
  refine am_istore_n dX11_node_35 (by decide) ?_
  refine am_iload_n dX11_node_36 rfl ?_
  refine am_tabIn (off := 69) (tgt := 106) dX11_node_37 (by decide) (by decide) rfl (by decide) ?_
  refine am_aload_n dX11_node_106 rfl ?_
  refine am_get (v := .inr (0, 70)) dX11_node_107 fl_11_30 (hG.m0 (by decide)) rfl ?_
  refine am_iload_n dX11_node_110 rfl ?_
  refine am_iald (a := i) dX11_node_111 (hG.m0 (by decide)) rfl rfl (show i < 4 from (by omega)) (show 4 < 2 ^ 31 by decide) ?_
  refine am_top (show (am_up I 0 60 0 (nI 0)) 0 70 i = nI 0 from (by simp [am_up, am_upf, upd, hI, am_fr, am_dk, hi])) ?_
  refine am_iret dX11_node_112 rfl rfl ?_
  exact ⟨rfl, (by simp [am_up, am_upf, upd, hI, am_fr, am_dk, hi])⟩
theorem m_node3 {G : am_G} (hG : am_okM G) {d : Nat} {i : Nat} (hi : i < G.2.2.2.1)  {I : am_I} (hI : I = am_fr G.2.2.2.1)  : am_C G (d + 3) mX11_node [.inr (0, 60), .inl (nI i), .inl (nI 3)] I (fun rr J => rr = some (nI 0) ∧ J 0 60 0 = nI 0) := by
  have hn4 := hG.hi
  have hn2 := hG.lo
  refine am_of (by decide +kernel) hG.nd (Nat.le_of_ble_eq_true rfl) ?_
  refine am_aload_n dX11_node_0 rfl ?_
  refine am_aload_n dX11_node_1 rfl ?_
  refine am_iload_n dX11_node_2 rfl ?_
  refine am_callVx (i := 0) (j := 60) (as := [.inl (nI i)]) (rest := [.inr (0, 60)]) dX11_node_3 lkX11_isNode ml_X11_434 imX11_isNode seX11_isNode rfl rfl (hG.m0 (by decide)) rfl (Nat.le_of_ble_eq_true rfl) rfl (c_MisNodeY hG hi (by simp [am_up, am_upf, upd, hI, am_fr, am_dk, hi])) ?_
  refine am_if_eq (tgt := 19) dX11_node_6 (by decide) (fun h => absurd h (by decide)) (fun _ => ?_)
  refine am_iload_n dX11_node_9 rfl ?_
  refine am_iconst (v := nI 0) dX11_node_10 (by decide) ?_
  refine am_bipush (v := nI 6) dX11_node_11 (by decide) ?_
  refine am_callSx (as := [.inl (nI 3), .inl (nI 0), .inl (nI 6)]) (rest := [.inr (0, 60)]) dX11_node_13 lkX11_in ml_X11_243 isX11_in rfl (Nat.le_of_ble_eq_true rfl) rfl (c_Min hG.nd (nI 3) (nI 0) (nI 6) I) ?_
  refine am_top (show am_b (decide ((nI 0).toInt ≤ (nI 3).toInt ∧ (nI 3).toInt ≤ (nI 6).toInt)) = nI 1 by decide) ?_
  refine am_if_ne (tgt := 23) dX11_node_16 (by decide) (fun _ => ?_) (fun h => absurd h (by decide))
  refine am_iconst (v := nI 0) dX11_node_23 (by decide) ?_
  refine am_iconst (v := nI 0) dX11_node_24 (by decide) ?_
  refine am_iconst (v := nI 0) dX11_node_25 (by decide) ?_
  refine am_callVx (i := 0) (j := 60) (as := [.inl (nI 0), .inl (nI 0), .inl (nI 0)]) (rest := []) dX11_node_26 lkX11_refuse ml_X11_441 imX11_refuse seX11_refuse rfl rfl (hG.m0 (by decide)) rfl (Nat.le_of_ble_eq_true rfl) rfl (c_refuse000 hG I) ?_
  refine am_if_eq (tgt := 34) dX11_node_29 (by decide) (fun _ => ?_) (fun h => absurd h (by decide))
  refine am_iconst (v := nI 0) dX11_node_34 (by decide) ?_
  refine am_istore_n dX11_node_35 (by decide) ?_
  refine am_iload_n dX11_node_36 rfl ?_
  refine am_tabIn (off := 76) (tgt := 113) dX11_node_37 (by decide) (by decide) rfl (by decide) ?_
  refine am_aload_n dX11_node_113 rfl ?_
  refine am_get (v := .inr (0, 72)) dX11_node_114 fl_11_36 (hG.m0 (by decide)) rfl ?_
  refine am_iload_n dX11_node_117 rfl ?_
  refine am_iald (a := i) dX11_node_118 (hG.m0 (by decide)) rfl rfl (show i < 4 from (by omega)) (show 4 < 2 ^ 31 by decide) ?_
  refine am_top (show (am_up I 0 60 0 (nI 0)) 0 72 i = nI 0 from (by simp [am_up, am_upf, upd, hI, am_fr, am_dk, hi])) ?_
  refine am_aload_n dX11_node_119 rfl ?_
  refine am_get (v := .inr (0, 73)) dX11_node_120 fl_11_39 (hG.m0 (by decide)) rfl ?_
  refine am_iload_n dX11_node_123 rfl ?_
  refine am_iald (a := i) dX11_node_124 (hG.m0 (by decide)) rfl rfl (show i < 4 from (by omega)) (show 4 < 2 ^ 31 by decide) ?_
  refine am_top (show (am_up I 0 60 0 (nI 0)) 0 73 i = nI 0 from (by simp [am_up, am_upf, upd, hI, am_fr, am_dk, hi])) ?_
  refine am_isub dX11_node_125 ?_
  refine am_top (show (nI 0) - (nI 0) = nI 0 by decide) ?_
  refine am_iret dX11_node_126 rfl rfl ?_
  exact ⟨rfl, (by simp [am_up, am_upf, upd, hI, am_fr, am_dk, hi])⟩
theorem m_node4 {G : am_G} (hG : am_okM G) {d : Nat} {i : Nat} (hi : i < G.2.2.2.1)  {I : am_I} (hI : I = am_fr G.2.2.2.1)  : am_C G (d + 3) mX11_node [.inr (0, 60), .inl (nI i), .inl (nI 4)] I (fun rr J => rr = some (nI 0) ∧ J 0 60 0 = nI 0) := by
  have hn4 := hG.hi
  have hn2 := hG.lo
  refine am_of (by decide +kernel) hG.nd (Nat.le_of_ble_eq_true rfl) ?_
  refine am_aload_n dX11_node_0 rfl ?_
  refine am_aload_n dX11_node_1 rfl ?_
  refine am_iload_n dX11_node_2 rfl ?_
  refine am_callVx (i := 0) (j := 60) (as := [.inl (nI i)]) (rest := [.inr (0, 60)]) dX11_node_3 lkX11_isNode ml_X11_434 imX11_isNode seX11_isNode rfl rfl (hG.m0 (by decide)) rfl (Nat.le_of_ble_eq_true rfl) rfl (c_MisNodeY hG hi (by simp [am_up, am_upf, upd, hI, am_fr, am_dk, hi])) ?_
  refine am_if_eq (tgt := 19) dX11_node_6 (by decide) (fun h => absurd h (by decide)) (fun _ => ?_)
  refine am_iload_n dX11_node_9 rfl ?_
  refine am_iconst (v := nI 0) dX11_node_10 (by decide) ?_
  refine am_bipush (v := nI 6) dX11_node_11 (by decide) ?_
  refine am_callSx (as := [.inl (nI 4), .inl (nI 0), .inl (nI 6)]) (rest := [.inr (0, 60)]) dX11_node_13 lkX11_in ml_X11_243 isX11_in rfl (Nat.le_of_ble_eq_true rfl) rfl (c_Min hG.nd (nI 4) (nI 0) (nI 6) I) ?_
  refine am_top (show am_b (decide ((nI 0).toInt ≤ (nI 4).toInt ∧ (nI 4).toInt ≤ (nI 6).toInt)) = nI 1 by decide) ?_
  refine am_if_ne (tgt := 23) dX11_node_16 (by decide) (fun _ => ?_) (fun h => absurd h (by decide))
  refine am_iconst (v := nI 0) dX11_node_23 (by decide) ?_
  refine am_iconst (v := nI 0) dX11_node_24 (by decide) ?_
  refine am_iconst (v := nI 0) dX11_node_25 (by decide) ?_
  refine am_callVx (i := 0) (j := 60) (as := [.inl (nI 0), .inl (nI 0), .inl (nI 0)]) (rest := []) dX11_node_26 lkX11_refuse ml_X11_441 imX11_refuse seX11_refuse rfl rfl (hG.m0 (by decide)) rfl (Nat.le_of_ble_eq_true rfl) rfl (c_refuse000 hG I) ?_
  refine am_if_eq (tgt := 34) dX11_node_29 (by decide) (fun _ => ?_) (fun h => absurd h (by decide))
  refine am_iconst (v := nI 0) dX11_node_34 (by decide) ?_
  refine am_istore_n dX11_node_35 (by decide) ?_
  refine am_iload_n dX11_node_36 rfl ?_
  refine am_tabIn (off := 90) (tgt := 127) dX11_node_37 (by decide) (by decide) rfl (by decide) ?_
  refine am_aload_n dX11_node_127 rfl ?_
  refine am_get (v := .inr (0, 71)) dX11_node_128 fl_11_33 (hG.m0 (by decide)) rfl ?_
  refine am_iload_n dX11_node_131 rfl ?_
  refine am_iald (a := i) dX11_node_132 (hG.m0 (by decide)) rfl rfl (show i < 4 from (by omega)) (show 4 < 2 ^ 31 by decide) ?_
  refine am_top (show (am_up I 0 60 0 (nI 0)) 0 71 i = nI 0 from (by simp [am_up, am_upf, upd, hI, am_fr, am_dk, hi])) ?_
  refine am_iret dX11_node_133 rfl rfl ?_
  exact ⟨rfl, (by simp [am_up, am_upf, upd, hI, am_fr, am_dk, hi])⟩
theorem m_node6 {G : am_G} (hG : am_okM G) {d : Nat} {i : Nat} (hi : i < G.2.2.2.1)  {I : am_I} (hI : I = am_fr G.2.2.2.1)  : am_C G (d + 3) mX11_node [.inr (0, 60), .inl (nI i), .inl (nI 6)] I (fun rr J => rr = some (-1 : Int32) ∧ J 0 60 0 = nI 0) := by
  have hn4 := hG.hi
  have hn2 := hG.lo
  refine am_of (by decide +kernel) hG.nd (Nat.le_of_ble_eq_true rfl) ?_
  refine am_aload_n dX11_node_0 rfl ?_
  refine am_aload_n dX11_node_1 rfl ?_
  refine am_iload_n dX11_node_2 rfl ?_
  refine am_callVx (i := 0) (j := 60) (as := [.inl (nI i)]) (rest := [.inr (0, 60)]) dX11_node_3 lkX11_isNode ml_X11_434 imX11_isNode seX11_isNode rfl rfl (hG.m0 (by decide)) rfl (Nat.le_of_ble_eq_true rfl) rfl (c_MisNodeY hG hi (by simp [am_up, am_upf, upd, hI, am_fr, am_dk, hi])) ?_
  refine am_if_eq (tgt := 19) dX11_node_6 (by decide) (fun h => absurd h (by decide)) (fun _ => ?_)
  refine am_iload_n dX11_node_9 rfl ?_
  refine am_iconst (v := nI 0) dX11_node_10 (by decide) ?_
  refine am_bipush (v := nI 6) dX11_node_11 (by decide) ?_
  refine am_callSx (as := [.inl (nI 6), .inl (nI 0), .inl (nI 6)]) (rest := [.inr (0, 60)]) dX11_node_13 lkX11_in ml_X11_243 isX11_in rfl (Nat.le_of_ble_eq_true rfl) rfl (c_Min hG.nd (nI 6) (nI 0) (nI 6) I) ?_
  refine am_top (show am_b (decide ((nI 0).toInt ≤ (nI 6).toInt ∧ (nI 6).toInt ≤ (nI 6).toInt)) = nI 1 by decide) ?_
  refine am_if_ne (tgt := 23) dX11_node_16 (by decide) (fun _ => ?_) (fun h => absurd h (by decide))
  refine am_iconst (v := nI 0) dX11_node_23 (by decide) ?_
  refine am_iconst (v := nI 0) dX11_node_24 (by decide) ?_
  refine am_iconst (v := nI 0) dX11_node_25 (by decide) ?_
  refine am_callVx (i := 0) (j := 60) (as := [.inl (nI 0), .inl (nI 0), .inl (nI 0)]) (rest := []) dX11_node_26 lkX11_refuse ml_X11_441 imX11_refuse seX11_refuse rfl rfl (hG.m0 (by decide)) rfl (Nat.le_of_ble_eq_true rfl) rfl (c_refuse000 hG I) ?_
  refine am_if_eq (tgt := 34) dX11_node_29 (by decide) (fun _ => ?_) (fun h => absurd h (by decide))
  refine am_iconst (v := nI 0) dX11_node_34 (by decide) ?_
  refine am_istore_n dX11_node_35 (by decide) ?_
  refine am_iload_n dX11_node_36 rfl ?_
  refine am_tabOut (tgt := 177) dX11_node_37 (by decide) (by decide) ?_
  refine am_aload_n dX11_node_177 rfl ?_
  refine am_get (v := .inr (0, 72)) dX11_node_178 fl_11_36 (hG.m0 (by decide)) rfl ?_
  refine am_iload_n dX11_node_181 rfl ?_
  refine am_iald (a := i) dX11_node_182 (hG.m0 (by decide)) rfl rfl (show i < 4 from (by omega)) (show 4 < 2 ^ 31 by decide) ?_
  refine am_top (show (am_up I 0 60 0 (nI 0)) 0 72 i = nI 0 from (by simp [am_up, am_upf, upd, hI, am_fr, am_dk, hi])) ?_
  refine am_if_le (tgt := 205) dX11_node_183 (by decide) (fun _ => ?_) (fun h => absurd h (by decide))
  refine am_iconst (v := (-1 : Int32)) dX11_node_205 (by decide) ?_
  refine am_iret dX11_node_206 rfl rfl ?_
  exact ⟨rfl, (by simp [am_up, am_upf, upd, hI, am_fr, am_dk, hi])⟩
theorem m_node5 {G : am_G} (hG : am_okM G) {d : Nat} {i : Nat} (hi : i < G.2.2.2.1)  {I : am_I} (hI : I = am_fr G.2.2.2.1)  : am_C G (d + 3) mX11_node [.inr (0, 60), .inl (nI i), .inl (nI 5)] I (fun rr J => rr = some (nI 0) ∧ J 0 60 0 = nI 0) := by
  have hn4 := hG.hi
  have hn2 := hG.lo
  have K : ∀ (m b : Nat), b + m = 640 → am_J G (d + 3) mX11_node am_no (fun rr J => rr = some (nI 0) ∧ J 0 60 0 = nI 0) 137 [some (.inr (0, 60)), some (.inl (nI i)), some (.inl (nI 5)), some (.inl (nI 0)), some (.inl (nI b))] [] (am_up I 0 60 0 (nI 0)) := by
    intro m
    induction m with
    | zero =>
      intro b ha
      obtain rfl : b = 640 := by omega
      refine am_iload dX11_node_137 rfl ?_
      refine am_sipush (v := nI 640) dX11_node_139 (by decide) ?_
      refine am_icmp_ge (tgt := 175) dX11_node_142 (by decide) (fun _ => ?_) (fun h => absurd ((nI_leI (a := 640) (b := 640) (by omega) (by omega)).mpr (by omega)) h)
      refine am_iload_n dX11_node_175 rfl ?_
      refine am_iret dX11_node_176 rfl rfl ?_
      exact ⟨rfl, by simp [am_up, am_upf, upd]⟩
    | succ m ih =>
      intro b ha
      refine am_iload dX11_node_137 rfl ?_
      refine am_sipush (v := nI 640) dX11_node_139 (by decide) ?_
      refine am_icmp_ge (tgt := 175) dX11_node_142 (by decide) (fun h => absurd ((nI_leI (a := 640) (b := b) (by omega) (by omega)).mp h) (by omega)) (fun _ => ?_)
      refine am_aload_n dX11_node_145 rfl ?_
      refine am_get (v := .inr (0, 68)) dX11_node_146 fl_11_24 (hG.m0 (by decide)) rfl ?_
      refine am_sipush (v := nI 640) dX11_node_149 (by decide) ?_
      refine am_iload_n dX11_node_152 rfl ?_
      refine am_imul dX11_node_153 ?_
      refine am_top (pk_mul _ _) ?_
      refine am_iload dX11_node_154 rfl ?_
      refine am_iadd dX11_node_156 ?_
      refine am_top (nI_add _ _) ?_
      refine am_zald (a := 640 * i + b) dX11_node_157 (hG.m0 (by decide)) rfl rfl (show 640 * i + b < 2560 from (by omega)) (show 2560 < 2 ^ 31 by decide) ?_
      refine am_top (show (am_up I 0 60 0 (nI 0)) 0 68 (640 * i + b) = nI 0 from by simp [am_up, am_upf, hI, am_fr]) ?_
      refine am_if_eq (tgt := 167) dX11_node_158 (by decide) (fun _ => ?_) (fun h => absurd h (by decide))
      refine am_iload_n dX11_node_167 rfl ?_
      refine am_istore_n dX11_node_168 (by decide) ?_
      refine am_iinc (v := nI (b + 1)) dX11_node_169 rfl (nI_add _ _) ?_
      refine am_goto (tgt := 137) dX11_node_172 (by decide) ?_
      exact ih (b + 1) (by omega)
  refine am_of (by decide +kernel) hG.nd (Nat.le_of_ble_eq_true rfl) ?_
  refine am_aload_n dX11_node_0 rfl ?_
  refine am_aload_n dX11_node_1 rfl ?_
  refine am_iload_n dX11_node_2 rfl ?_
  refine am_callVx (i := 0) (j := 60) (as := [.inl (nI i)]) (rest := [.inr (0, 60)]) dX11_node_3 lkX11_isNode ml_X11_434 imX11_isNode seX11_isNode rfl rfl (hG.m0 (by decide)) rfl (Nat.le_of_ble_eq_true rfl) rfl (c_MisNodeY hG hi (by simp [am_up, am_upf, upd, hI, am_fr, am_dk, hi])) ?_
  refine am_if_eq (tgt := 19) dX11_node_6 (by decide) (fun h => absurd h (by decide)) (fun _ => ?_)
  refine am_iload_n dX11_node_9 rfl ?_
  refine am_iconst (v := nI 0) dX11_node_10 (by decide) ?_
  refine am_bipush (v := nI 6) dX11_node_11 (by decide) ?_
  refine am_callSx (as := [.inl (nI 5), .inl (nI 0), .inl (nI 6)]) (rest := [.inr (0, 60)]) dX11_node_13 lkX11_in ml_X11_243 isX11_in rfl (Nat.le_of_ble_eq_true rfl) rfl (c_Min hG.nd (nI 5) (nI 0) (nI 6) I) ?_
  refine am_top (show am_b (decide ((nI 0).toInt ≤ (nI 5).toInt ∧ (nI 5).toInt ≤ (nI 6).toInt)) = nI 1 by decide) ?_
  refine am_if_ne (tgt := 23) dX11_node_16 (by decide) (fun _ => ?_) (fun h => absurd h (by decide))
  refine am_iconst (v := nI 0) dX11_node_23 (by decide) ?_
  refine am_iconst (v := nI 0) dX11_node_24 (by decide) ?_
  refine am_iconst (v := nI 0) dX11_node_25 (by decide) ?_
  refine am_callVx (i := 0) (j := 60) (as := [.inl (nI 0), .inl (nI 0), .inl (nI 0)]) (rest := []) dX11_node_26 lkX11_refuse ml_X11_441 imX11_refuse seX11_refuse rfl rfl (hG.m0 (by decide)) rfl (Nat.le_of_ble_eq_true rfl) rfl (c_refuse000 hG I) ?_
  refine am_if_eq (tgt := 34) dX11_node_29 (by decide) (fun _ => ?_) (fun h => absurd h (by decide))
  refine am_iconst (v := nI 0) dX11_node_34 (by decide) ?_
  refine am_istore_n dX11_node_35 (by decide) ?_
  refine am_iload_n dX11_node_36 rfl ?_
  refine am_tabIn (off := 97) (tgt := 134) dX11_node_37 (by decide) (by decide) rfl (by decide) ?_
  refine am_iconst (v := nI 0) dX11_node_134 (by decide) ?_
  refine am_istore dX11_node_135 (by decide) ?_
  exact K 640 0 (by omega)
theorem m_about0 {G : am_G} (hG : am_okM G) {d : Nat}  {I : am_I} (hI : I = am_fr G.2.2.2.1)  : am_C G (d + 3) mX11_about [.inr (0, 60), .inl (nI 0)] I (fun rr J => rr = some (nI 0) ∧ J 0 60 0 = nI 0) := by
  have hn4 := hG.hi
  have hn2 := hG.lo
  refine am_of (by decide +kernel) hG.nd (Nat.le_of_ble_eq_true rfl) ?_
  refine am_aload_n dX11_about_0 rfl ?_
  refine am_iload_n dX11_about_1 rfl ?_
  refine am_iconst (v := nI 0) dX11_about_2 (by decide) ?_
  refine am_bipush (v := nI 9) dX11_about_3 (by decide) ?_
  refine am_callSx (as := [.inl (nI 0), .inl (nI 0), .inl (nI 9)]) (rest := [.inr (0, 60)]) dX11_about_5 lkX11_in ml_X11_243 isX11_in rfl (Nat.le_of_ble_eq_true rfl) rfl (c_Min hG.nd (nI 0) (nI 0) (nI 9) I) ?_
  refine am_top (show am_b (decide ((nI 0).toInt ≤ (nI 0).toInt ∧ (nI 0).toInt ≤ (nI 9).toInt)) = nI 1 by decide) ?_
  refine am_if_ne (tgt := 15) dX11_about_8 (by decide) (fun _ => ?_) (fun h => absurd h (by decide))
  refine am_iconst (v := nI 0) dX11_about_15 (by decide) ?_
  refine am_iconst (v := nI 0) dX11_about_16 (by decide) ?_
  refine am_iconst (v := nI 0) dX11_about_17 (by decide) ?_
  refine am_callVx (i := 0) (j := 60) (as := [.inl (nI 0), .inl (nI 0), .inl (nI 0)]) (rest := []) dX11_about_18 lkX11_refuse ml_X11_441 imX11_refuse seX11_refuse rfl rfl (hG.m0 (by decide)) rfl (Nat.le_of_ble_eq_true rfl) rfl (c_refuse000 hG I) ?_
  refine am_if_eq (tgt := 26) dX11_about_21 (by decide) (fun _ => ?_) (fun h => absurd h (by decide))
  refine am_iload_n dX11_about_26 rfl ?_
  refine am_tabIn (off := 49) (tgt := 76) dX11_about_27 (by decide) (by decide) rfl (by decide) ?_
  refine am_aload_n dX11_about_76 rfl ?_
  refine am_get (v := .inl ((am_up I 0 60 0 (nI 0)) 0 60 2)) dX11_about_77 fl_11_194 (hG.m0 (by decide)) rfl ?_
  refine am_top (show (am_up I 0 60 0 (nI 0)) 0 60 2 = nI 0 from (by simp [am_up, am_upf, upd, hI, am_fr, am_dk])) ?_
  refine am_iret dX11_about_80 rfl rfl ?_
  exact ⟨rfl, (by simp [am_up, am_upf, upd, hI, am_fr, am_dk])⟩
theorem m_about1 {G : am_G} (hG : am_okM G) {d : Nat}  {I : am_I} (hI : I = am_fr G.2.2.2.1)  : am_C G (d + 3) mX11_about [.inr (0, 60), .inl (nI 1)] I (fun rr J => rr = some (nI 0) ∧ J 0 60 0 = nI 0) := by
  have hn4 := hG.hi
  have hn2 := hG.lo
  refine am_of (by decide +kernel) hG.nd (Nat.le_of_ble_eq_true rfl) ?_
  refine am_aload_n dX11_about_0 rfl ?_
  refine am_iload_n dX11_about_1 rfl ?_
  refine am_iconst (v := nI 0) dX11_about_2 (by decide) ?_
  refine am_bipush (v := nI 9) dX11_about_3 (by decide) ?_
  refine am_callSx (as := [.inl (nI 1), .inl (nI 0), .inl (nI 9)]) (rest := [.inr (0, 60)]) dX11_about_5 lkX11_in ml_X11_243 isX11_in rfl (Nat.le_of_ble_eq_true rfl) rfl (c_Min hG.nd (nI 1) (nI 0) (nI 9) I) ?_
  refine am_top (show am_b (decide ((nI 0).toInt ≤ (nI 1).toInt ∧ (nI 1).toInt ≤ (nI 9).toInt)) = nI 1 by decide) ?_
  refine am_if_ne (tgt := 15) dX11_about_8 (by decide) (fun _ => ?_) (fun h => absurd h (by decide))
  refine am_iconst (v := nI 0) dX11_about_15 (by decide) ?_
  refine am_iconst (v := nI 0) dX11_about_16 (by decide) ?_
  refine am_iconst (v := nI 0) dX11_about_17 (by decide) ?_
  refine am_callVx (i := 0) (j := 60) (as := [.inl (nI 0), .inl (nI 0), .inl (nI 0)]) (rest := []) dX11_about_18 lkX11_refuse ml_X11_441 imX11_refuse seX11_refuse rfl rfl (hG.m0 (by decide)) rfl (Nat.le_of_ble_eq_true rfl) rfl (c_refuse000 hG I) ?_
  refine am_if_eq (tgt := 26) dX11_about_21 (by decide) (fun _ => ?_) (fun h => absurd h (by decide))
  refine am_iload_n dX11_about_26 rfl ?_
  refine am_tabIn (off := 54) (tgt := 81) dX11_about_27 (by decide) (by decide) rfl (by decide) ?_
  refine am_aload_n dX11_about_81 rfl ?_
  refine am_get (v := .inl ((am_up I 0 60 0 (nI 0)) 0 60 38)) dX11_about_82 fl_11_197 (hG.m0 (by decide)) rfl ?_
  refine am_top (show (am_up I 0 60 0 (nI 0)) 0 60 38 = nI 0 from (by simp [am_up, am_upf, upd, hI, am_fr, am_dk])) ?_
  refine am_iret dX11_about_85 rfl rfl ?_
  exact ⟨rfl, (by simp [am_up, am_upf, upd, hI, am_fr, am_dk])⟩
theorem m_about2 {G : am_G} (hG : am_okM G) {d : Nat}  {I : am_I} (hI : I = am_fr G.2.2.2.1)  : am_C G (d + 3) mX11_about [.inr (0, 60), .inl (nI 2)] I (fun rr J => rr = some (nI 0) ∧ J 0 60 0 = nI 0) := by
  have hn4 := hG.hi
  have hn2 := hG.lo
  refine am_of (by decide +kernel) hG.nd (Nat.le_of_ble_eq_true rfl) ?_
  refine am_aload_n dX11_about_0 rfl ?_
  refine am_iload_n dX11_about_1 rfl ?_
  refine am_iconst (v := nI 0) dX11_about_2 (by decide) ?_
  refine am_bipush (v := nI 9) dX11_about_3 (by decide) ?_
  refine am_callSx (as := [.inl (nI 2), .inl (nI 0), .inl (nI 9)]) (rest := [.inr (0, 60)]) dX11_about_5 lkX11_in ml_X11_243 isX11_in rfl (Nat.le_of_ble_eq_true rfl) rfl (c_Min hG.nd (nI 2) (nI 0) (nI 9) I) ?_
  refine am_top (show am_b (decide ((nI 0).toInt ≤ (nI 2).toInt ∧ (nI 2).toInt ≤ (nI 9).toInt)) = nI 1 by decide) ?_
  refine am_if_ne (tgt := 15) dX11_about_8 (by decide) (fun _ => ?_) (fun h => absurd h (by decide))
  refine am_iconst (v := nI 0) dX11_about_15 (by decide) ?_
  refine am_iconst (v := nI 0) dX11_about_16 (by decide) ?_
  refine am_iconst (v := nI 0) dX11_about_17 (by decide) ?_
  refine am_callVx (i := 0) (j := 60) (as := [.inl (nI 0), .inl (nI 0), .inl (nI 0)]) (rest := []) dX11_about_18 lkX11_refuse ml_X11_441 imX11_refuse seX11_refuse rfl rfl (hG.m0 (by decide)) rfl (Nat.le_of_ble_eq_true rfl) rfl (c_refuse000 hG I) ?_
  refine am_if_eq (tgt := 26) dX11_about_21 (by decide) (fun _ => ?_) (fun h => absurd h (by decide))
  refine am_iload_n dX11_about_26 rfl ?_
  refine am_tabIn (off := 59) (tgt := 86) dX11_about_27 (by decide) (by decide) rfl (by decide) ?_
  refine am_aload_n dX11_about_86 rfl ?_
  refine am_get (v := .inl ((am_up I 0 60 0 (nI 0)) 0 60 39)) dX11_about_87 fl_11_191 (hG.m0 (by decide)) rfl ?_
  refine am_top (show (am_up I 0 60 0 (nI 0)) 0 60 39 = nI 0 from (by simp [am_up, am_upf, upd, hI, am_fr, am_dk])) ?_
  refine am_iret dX11_about_90 rfl rfl ?_
  exact ⟨rfl, (by simp [am_up, am_upf, upd, hI, am_fr, am_dk])⟩
theorem m_about3 {G : am_G} (hG : am_okM G) {d : Nat}  {I : am_I} (hI : I = am_fr G.2.2.2.1)  : am_C G (d + 3) mX11_about [.inr (0, 60), .inl (nI 3)] I (fun rr J => rr = some (nI 0) ∧ J 0 60 0 = nI 0) := by
  have hn4 := hG.hi
  have hn2 := hG.lo
  refine am_of (by decide +kernel) hG.nd (Nat.le_of_ble_eq_true rfl) ?_
  refine am_aload_n dX11_about_0 rfl ?_
  refine am_iload_n dX11_about_1 rfl ?_
  refine am_iconst (v := nI 0) dX11_about_2 (by decide) ?_
  refine am_bipush (v := nI 9) dX11_about_3 (by decide) ?_
  refine am_callSx (as := [.inl (nI 3), .inl (nI 0), .inl (nI 9)]) (rest := [.inr (0, 60)]) dX11_about_5 lkX11_in ml_X11_243 isX11_in rfl (Nat.le_of_ble_eq_true rfl) rfl (c_Min hG.nd (nI 3) (nI 0) (nI 9) I) ?_
  refine am_top (show am_b (decide ((nI 0).toInt ≤ (nI 3).toInt ∧ (nI 3).toInt ≤ (nI 9).toInt)) = nI 1 by decide) ?_
  refine am_if_ne (tgt := 15) dX11_about_8 (by decide) (fun _ => ?_) (fun h => absurd h (by decide))
  refine am_iconst (v := nI 0) dX11_about_15 (by decide) ?_
  refine am_iconst (v := nI 0) dX11_about_16 (by decide) ?_
  refine am_iconst (v := nI 0) dX11_about_17 (by decide) ?_
  refine am_callVx (i := 0) (j := 60) (as := [.inl (nI 0), .inl (nI 0), .inl (nI 0)]) (rest := []) dX11_about_18 lkX11_refuse ml_X11_441 imX11_refuse seX11_refuse rfl rfl (hG.m0 (by decide)) rfl (Nat.le_of_ble_eq_true rfl) rfl (c_refuse000 hG I) ?_
  refine am_if_eq (tgt := 26) dX11_about_21 (by decide) (fun _ => ?_) (fun h => absurd h (by decide))
  refine am_iload_n dX11_about_26 rfl ?_
  refine am_tabIn (off := 64) (tgt := 91) dX11_about_27 (by decide) (by decide) rfl (by decide) ?_
  refine am_aload_n dX11_about_91 rfl ?_
  refine am_get (v := .inl ((am_up I 0 60 0 (nI 0)) 0 60 48)) dX11_about_92 fl_11_454 (hG.m0 (by decide)) rfl ?_
  refine am_top (show (am_up I 0 60 0 (nI 0)) 0 60 48 = nI 0 from (by simp [am_up, am_upf, upd, hI, am_fr, am_dk])) ?_
  refine am_iret dX11_about_95 rfl rfl ?_
  exact ⟨rfl, (by simp [am_up, am_upf, upd, hI, am_fr, am_dk])⟩
theorem m_about4 {G : am_G} (hG : am_okM G) {d : Nat}  {I : am_I} (hI : I = am_fr G.2.2.2.1)  : am_C G (d + 3) mX11_about [.inr (0, 60), .inl (nI 4)] I (fun rr J => rr = some (nI 0) ∧ J 0 60 0 = nI 0) := by
  have hn4 := hG.hi
  have hn2 := hG.lo
  refine am_of (by decide +kernel) hG.nd (Nat.le_of_ble_eq_true rfl) ?_
  refine am_aload_n dX11_about_0 rfl ?_
  refine am_iload_n dX11_about_1 rfl ?_
  refine am_iconst (v := nI 0) dX11_about_2 (by decide) ?_
  refine am_bipush (v := nI 9) dX11_about_3 (by decide) ?_
  refine am_callSx (as := [.inl (nI 4), .inl (nI 0), .inl (nI 9)]) (rest := [.inr (0, 60)]) dX11_about_5 lkX11_in ml_X11_243 isX11_in rfl (Nat.le_of_ble_eq_true rfl) rfl (c_Min hG.nd (nI 4) (nI 0) (nI 9) I) ?_
  refine am_top (show am_b (decide ((nI 0).toInt ≤ (nI 4).toInt ∧ (nI 4).toInt ≤ (nI 9).toInt)) = nI 1 by decide) ?_
  refine am_if_ne (tgt := 15) dX11_about_8 (by decide) (fun _ => ?_) (fun h => absurd h (by decide))
  refine am_iconst (v := nI 0) dX11_about_15 (by decide) ?_
  refine am_iconst (v := nI 0) dX11_about_16 (by decide) ?_
  refine am_iconst (v := nI 0) dX11_about_17 (by decide) ?_
  refine am_callVx (i := 0) (j := 60) (as := [.inl (nI 0), .inl (nI 0), .inl (nI 0)]) (rest := []) dX11_about_18 lkX11_refuse ml_X11_441 imX11_refuse seX11_refuse rfl rfl (hG.m0 (by decide)) rfl (Nat.le_of_ble_eq_true rfl) rfl (c_refuse000 hG I) ?_
  refine am_if_eq (tgt := 26) dX11_about_21 (by decide) (fun _ => ?_) (fun h => absurd h (by decide))
  refine am_iload_n dX11_about_26 rfl ?_
  refine am_tabIn (off := 69) (tgt := 96) dX11_about_27 (by decide) (by decide) rfl (by decide) ?_
  refine am_aload_n dX11_about_96 rfl ?_
  refine am_get (v := .inl ((am_up I 0 60 0 (nI 0)) 0 60 49)) dX11_about_97 fl_11_268 (hG.m0 (by decide)) rfl ?_
  refine am_top (show (am_up I 0 60 0 (nI 0)) 0 60 49 = nI 0 from (by simp [am_up, am_upf, upd, hI, am_fr, am_dk])) ?_
  refine am_iret dX11_about_100 rfl rfl ?_
  exact ⟨rfl, (by simp [am_up, am_upf, upd, hI, am_fr, am_dk])⟩
theorem m_about5 {G : am_G} (hG : am_okM G) {d : Nat}  {I : am_I} (hI : I = am_fr G.2.2.2.1)  : am_C G (d + 3) mX11_about [.inr (0, 60), .inl (nI 5)] I (fun rr J => rr = some (nI 0) ∧ J 0 60 0 = nI 0) := by
  have hn4 := hG.hi
  have hn2 := hG.lo
  refine am_of (by decide +kernel) hG.nd (Nat.le_of_ble_eq_true rfl) ?_
  refine am_aload_n dX11_about_0 rfl ?_
  refine am_iload_n dX11_about_1 rfl ?_
  refine am_iconst (v := nI 0) dX11_about_2 (by decide) ?_
  refine am_bipush (v := nI 9) dX11_about_3 (by decide) ?_
  refine am_callSx (as := [.inl (nI 5), .inl (nI 0), .inl (nI 9)]) (rest := [.inr (0, 60)]) dX11_about_5 lkX11_in ml_X11_243 isX11_in rfl (Nat.le_of_ble_eq_true rfl) rfl (c_Min hG.nd (nI 5) (nI 0) (nI 9) I) ?_
  refine am_top (show am_b (decide ((nI 0).toInt ≤ (nI 5).toInt ∧ (nI 5).toInt ≤ (nI 9).toInt)) = nI 1 by decide) ?_
  refine am_if_ne (tgt := 15) dX11_about_8 (by decide) (fun _ => ?_) (fun h => absurd h (by decide))
  refine am_iconst (v := nI 0) dX11_about_15 (by decide) ?_
  refine am_iconst (v := nI 0) dX11_about_16 (by decide) ?_
  refine am_iconst (v := nI 0) dX11_about_17 (by decide) ?_
  refine am_callVx (i := 0) (j := 60) (as := [.inl (nI 0), .inl (nI 0), .inl (nI 0)]) (rest := []) dX11_about_18 lkX11_refuse ml_X11_441 imX11_refuse seX11_refuse rfl rfl (hG.m0 (by decide)) rfl (Nat.le_of_ble_eq_true rfl) rfl (c_refuse000 hG I) ?_
  refine am_if_eq (tgt := 26) dX11_about_21 (by decide) (fun _ => ?_) (fun h => absurd h (by decide))
  refine am_iload_n dX11_about_26 rfl ?_
  refine am_tabIn (off := 74) (tgt := 101) dX11_about_27 (by decide) (by decide) rfl (by decide) ?_
  refine am_aload_n dX11_about_101 rfl ?_
  refine am_get (v := .inl ((am_up I 0 60 0 (nI 0)) 0 60 50)) dX11_about_102 fl_11_472 (hG.m0 (by decide)) rfl ?_
  refine am_top (show (am_up I 0 60 0 (nI 0)) 0 60 50 = nI 0 from (by simp [am_up, am_upf, upd, hI, am_fr, am_dk])) ?_
  refine am_iret dX11_about_105 rfl rfl ?_
  exact ⟨rfl, (by simp [am_up, am_upf, upd, hI, am_fr, am_dk])⟩
theorem m_about6 {G : am_G} (hG : am_okM G) {d : Nat}  {I : am_I} (hI : I = am_fr G.2.2.2.1)  : am_C G (d + 3) mX11_about [.inr (0, 60), .inl (nI 6)] I (fun rr J => rr = some (nI G.2.2.2.1) ∧ J 0 60 0 = nI 0) := by
  have hn4 := hG.hi
  have hn2 := hG.lo
  refine am_of (by decide +kernel) hG.nd (Nat.le_of_ble_eq_true rfl) ?_
  refine am_aload_n dX11_about_0 rfl ?_
  refine am_iload_n dX11_about_1 rfl ?_
  refine am_iconst (v := nI 0) dX11_about_2 (by decide) ?_
  refine am_bipush (v := nI 9) dX11_about_3 (by decide) ?_
  refine am_callSx (as := [.inl (nI 6), .inl (nI 0), .inl (nI 9)]) (rest := [.inr (0, 60)]) dX11_about_5 lkX11_in ml_X11_243 isX11_in rfl (Nat.le_of_ble_eq_true rfl) rfl (c_Min hG.nd (nI 6) (nI 0) (nI 9) I) ?_
  refine am_top (show am_b (decide ((nI 0).toInt ≤ (nI 6).toInt ∧ (nI 6).toInt ≤ (nI 9).toInt)) = nI 1 by decide) ?_
  refine am_if_ne (tgt := 15) dX11_about_8 (by decide) (fun _ => ?_) (fun h => absurd h (by decide))
  refine am_iconst (v := nI 0) dX11_about_15 (by decide) ?_
  refine am_iconst (v := nI 0) dX11_about_16 (by decide) ?_
  refine am_iconst (v := nI 0) dX11_about_17 (by decide) ?_
  refine am_callVx (i := 0) (j := 60) (as := [.inl (nI 0), .inl (nI 0), .inl (nI 0)]) (rest := []) dX11_about_18 lkX11_refuse ml_X11_441 imX11_refuse seX11_refuse rfl rfl (hG.m0 (by decide)) rfl (Nat.le_of_ble_eq_true rfl) rfl (c_refuse000 hG I) ?_
  refine am_if_eq (tgt := 26) dX11_about_21 (by decide) (fun _ => ?_) (fun h => absurd h (by decide))
  refine am_iload_n dX11_about_26 rfl ?_
  refine am_tabIn (off := 79) (tgt := 106) dX11_about_27 (by decide) (by decide) rfl (by decide) ?_
  refine am_aload_n dX11_about_106 rfl ?_
  refine am_get (v := .inl ((am_up I 0 60 0 (nI 0)) 0 60 1)) dX11_about_107 fl_11_177 (hG.m0 (by decide)) rfl ?_
  refine am_top (show (am_up I 0 60 0 (nI 0)) 0 60 1 = nI G.2.2.2.1 from (by simp [am_up, am_upf, upd, hI, am_fr, am_dk])) ?_
  refine am_iret dX11_about_110 rfl rfl ?_
  exact ⟨rfl, (by simp [am_up, am_upf, upd, hI, am_fr, am_dk])⟩
theorem m_aboutA {G : am_G} (hG : am_okM G) {d : Nat} (w : Int32) (hw : w.toInt < 0 ∨ 9 < w.toInt) {I : am_I} (hI : I = am_fr G.2.2.2.1)  : am_C G (d + 3) mX11_about [.inr (0, 60), .inl w] I (fun rr J => rr = some (nI 0) ∧ J 0 60 0 = nI 1) := by
  have hn4 := hG.hi
  have hn2 := hG.lo
  refine am_of (by decide +kernel) hG.nd (Nat.le_of_ble_eq_true rfl) ?_
  refine am_aload_n dX11_about_0 rfl ?_
  refine am_iload_n dX11_about_1 rfl ?_
  refine am_iconst (v := nI 0) dX11_about_2 (by decide) ?_
  refine am_bipush (v := nI 9) dX11_about_3 (by decide) ?_
  refine am_callSx (as := [.inl w, .inl (nI 0), .inl (nI 9)]) (rest := [.inr (0, 60)]) dX11_about_5 lkX11_in ml_X11_243 isX11_in rfl (Nat.le_of_ble_eq_true rfl) rfl (c_Min hG.nd w (nI 0) (nI 9) I) ?_
  refine am_top (show am_b (decide ((nI 0).toInt ≤ w.toInt ∧ w.toInt ≤ (nI 9).toInt)) = nI 0 from Eq.trans (show am_b (decide ((nI 0).toInt ≤ w.toInt ∧ w.toInt ≤ (nI 9).toInt)) = am_b (decide (0 ≤ w.toInt ∧ w.toInt ≤ 9)) from by rw [nI_toInt (n := 0) (by omega), nI_toInt (n := 9) (by omega)]; rfl) (am_bF _ (by omega))) ?_
  refine am_if_ne (tgt := 15) dX11_about_8 (by decide) (fun h => absurd h (by decide)) (fun _ => ?_)
  refine am_iconst (v := nI 1) dX11_about_11 (by decide) ?_
  refine am_goto (tgt := 16) dX11_about_12 (by decide) ?_
  refine am_iconst (v := nI 0) dX11_about_16 (by decide) ?_
  refine am_iconst (v := nI 0) dX11_about_17 (by decide) ?_
  refine am_callVx (i := 0) (j := 60) (as := [.inl (nI 1), .inl (nI 0), .inl (nI 0)]) (rest := []) dX11_about_18 lkX11_refuse ml_X11_441 imX11_refuse seX11_refuse rfl rfl (hG.m0 (by decide)) rfl (Nat.le_of_ble_eq_true rfl) rfl (c_refuse100 hG I) ?_
  refine am_if_eq (tgt := 26) dX11_about_21 (by decide) (fun h => absurd h (by decide)) (fun _ => ?_)
  refine am_iconst (v := nI 0) dX11_about_24 (by decide) ?_
  refine am_iret dX11_about_25 rfl rfl ?_
  exact ⟨rfl, (by simp [am_up, am_upf, upd, hI, am_fr, am_dk])⟩
