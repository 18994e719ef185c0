def am_qm (n : Nat) (J : am_I) : Prop := J 0 60 1 = nI n ∧ J 0 60 38 = nI 0 ∧ (∀ k, k < n → J 0 65 k = nI 1) ∧ (∀ k, k < n → J 0 72 k = nI 0) ∧ J 0 60 49 = nI 0 ∧ J 0 60 0 = nI 0
theorem am_qm_t {n : Nat} {J : am_I} (h : am_qm n J) (v : Int32) : am_qm n (am_up J 0 60 2 v) := ⟨by simp [am_up, am_upf, upd, h.1], by simp [am_up, am_upf, upd, h.2.1], fun k hk => by simp [am_up, am_upf, upd, h.2.2.1 k hk], fun k hk => by simp [am_up, am_upf, upd, h.2.2.2.1 k hk], by simp [am_up, am_upf, upd, h.2.2.2.2.1], by simp [am_up, am_upf, upd, h.2.2.2.2.2]⟩
theorem c_MoneTick {G : am_G} (hG : am_okM G) {d : Nat} {I : am_I} (hq : am_qm G.2.2.2.1 I) : am_C G d mX11_oneTick [.inr (0, 60)] I (am_E none (am_up I 0 60 2 (I 0 60 2 + nI 1))) := by
  have hn4 := hG.hi
  have hn2 := hG.lo
  have L : ∀ (m k : Nat), k + m = G.2.2.2.1 → am_J G d mX11_oneTick am_no (am_E none (am_up I 0 60 2 (I 0 60 2 + nI 1))) 99 [some (.inr (0, 60)), some (.inl (nI 0)), some (.inl (nI k)), none, none, none, none] [] (am_up I 0 60 2 (I 0 60 2 + nI 1)) := by
    intro m
    induction m with
    | zero =>
      intro k ha
      obtain rfl : k = G.2.2.2.1 := by omega
      refine am_iload_n dX11_oneTick_99 rfl ?_
      refine am_aload_n dX11_oneTick_100 rfl ?_
      refine am_get (v := .inl ((am_up I 0 60 2 (I 0 60 2 + nI 1)) 0 60 1)) dX11_oneTick_101 fl_11_177 (hG.m0 (by decide)) rfl ?_
      refine am_top (show (am_up I 0 60 2 (I 0 60 2 + nI 1)) 0 60 1 = nI G.2.2.2.1 from (am_qm_t hq _).1) ?_
      refine am_icmp_ge (tgt := 215) dX11_oneTick_104 (by decide) (fun _ => ?_) (fun h => absurd ((nI_leI (a := G.2.2.2.1) (b := G.2.2.2.1) (by omega) (by omega)).mpr (by omega)) h)
      refine am_vret dX11_oneTick_215 rfl ?_
      exact ⟨rfl, rfl⟩
    | succ m ih =>
      intro k ha
      refine am_iload_n dX11_oneTick_99 rfl ?_
      refine am_aload_n dX11_oneTick_100 rfl ?_
      refine am_get (v := .inl ((am_up I 0 60 2 (I 0 60 2 + nI 1)) 0 60 1)) dX11_oneTick_101 fl_11_177 (hG.m0 (by decide)) rfl ?_
      refine am_top (show (am_up I 0 60 2 (I 0 60 2 + nI 1)) 0 60 1 = nI G.2.2.2.1 from (am_qm_t hq _).1) ?_
      refine am_icmp_ge (tgt := 215) dX11_oneTick_104 (by decide) (fun h => absurd ((nI_leI (a := G.2.2.2.1) (b := k) (by omega) (by omega)).mp h) (by omega)) (fun _ => ?_)
      refine am_aload_n dX11_oneTick_107 rfl ?_
      refine am_get (v := .inr (0, 65)) dX11_oneTick_108 fl_11_13 (hG.m0 (by decide)) rfl ?_
      refine am_iload_n dX11_oneTick_111 rfl ?_
      refine am_zald (a := k) dX11_oneTick_112 (hG.m0 (by decide)) rfl rfl (show k < 4 from (by omega)) (show 4 < 2 ^ 31 by decide) ?_
      refine am_top ((am_qm_t hq _).2.2.1 _ (by omega)) ?_
      refine am_if_eq (tgt := 209) dX11_oneTick_113 (by decide) (fun h => absurd h (by decide)) (fun _ => ?_)
      refine am_aload_n dX11_oneTick_116 rfl ?_
      refine am_get (v := .inr (0, 72)) dX11_oneTick_117 fl_11_36 (hG.m0 (by decide)) rfl ?_
      refine am_iload_n dX11_oneTick_120 rfl ?_
      refine am_iald (a := k) dX11_oneTick_121 (hG.m0 (by decide)) rfl rfl (show k < 4 from (by omega)) (show 4 < 2 ^ 31 by decide) ?_
      refine am_top ((am_qm_t hq _).2.2.2.1 _ (by omega)) ?_
      refine am_if_ne (tgt := 128) dX11_oneTick_122 (by decide) (fun h => absurd h (by decide)) (fun _ => ?_)
      refine am_goto (tgt := 209) dX11_oneTick_125 (by decide) ?_
      refine am_iinc (v := nI (k + 1)) dX11_oneTick_209 rfl (nI_add _ _) ?_
      refine am_goto (tgt := 99) dX11_oneTick_212 (by decide) ?_
      exact ih (k + 1) (by omega)
  refine am_of (by decide +kernel) hG.nd (Nat.le_of_ble_eq_true rfl) ?_
  refine am_aload_n dX11_oneTick_0 rfl ?_
  refine am_dup dX11_oneTick_1 ?_
  refine am_get (v := .inl (I 0 60 2)) dX11_oneTick_2 fl_11_194 (hG.m0 (by decide)) rfl ?_
  refine am_iconst (v := nI 1) dX11_oneTick_5 (by decide) ?_
  refine am_iadd dX11_oneTick_6 ?_
  refine am_put (x := (I 0 60 2) + (nI 1)) dX11_oneTick_7 fp_11_194 (hG.m0 (by decide)) (Nat.le_of_ble_eq_true rfl) rfl ?_
  refine am_iconst (v := nI 0) dX11_oneTick_10 (by decide) ?_
  refine am_istore_n dX11_oneTick_11 (by decide) ?_
  refine am_iload_n dX11_oneTick_12 rfl ?_
  refine am_aload_n dX11_oneTick_13 rfl ?_
  refine am_get (v := .inl ((am_up I 0 60 2 ((I 0 60 2) + (nI 1))) 0 60 38)) dX11_oneTick_14 fl_11_197 (hG.m0 (by decide)) rfl ?_
  refine am_top ((am_qm_t hq _).2.1) ?_
  refine am_icmp_ge (tgt := 97) dX11_oneTick_17 (by decide) (fun _ => ?_) (fun h => absurd h (by decide))
  refine am_iconst (v := nI 0) dX11_oneTick_97 (by decide) ?_
  refine am_istore_n dX11_oneTick_98 (by decide) ?_
  exact L G.2.2.2.1 0 (by omega)
theorem m_tick {G : am_G} (hG : am_okM G) {d : Nat} {t : Nat} (ht : t ≤ 100) {I : am_I} (hI : I = am_fr G.2.2.2.1)  : am_C G (d + 3) mX11_tick [.inr (0, 60), .inl (nI t)] I (fun rr J => rr = some (nI 0) ∧ J 0 60 0 = nI 0) := by
  have hn4 := hG.hi
  have hn2 := hG.lo
  have K : ∀ (m a : Nat) (J : am_I), a + m = t → am_qm G.2.2.2.1 J → am_J G (d + 3) mX11_tick am_no (fun rr J => rr = some (nI 0) ∧ J 0 60 0 = nI 0) 33 [some (.inr (0, 60)), some (.inl (nI t)), some (.inl (nI 0)), some (.inl (nI a))] [] J := by
    intro m
    induction m with
    | zero =>
      intro a J ha hq
      obtain rfl : a = t := by omega
      refine am_iload_n dX11_tick_33 rfl ?_
      refine am_iload_n dX11_tick_34 rfl ?_
      refine am_icmp_ge (tgt := 48) dX11_tick_35 (by decide) (fun _ => ?_) (fun h => absurd ((nI_leI (a := a) (b := a) (by omega) (by omega)).mpr (by omega)) h)
      refine am_aload_n dX11_tick_48 rfl ?_
      refine am_get (v := .inl (J 0 60 49)) dX11_tick_49 fl_11_268 (hG.m0 (by decide)) rfl ?_
      refine am_top hq.2.2.2.2.1 ?_
      refine am_iload_n dX11_tick_52 rfl ?_
      refine am_isub dX11_tick_53 ?_
      refine am_top (show (nI 0) - (nI 0) = nI 0 by decide) ?_
      refine am_iret dX11_tick_54 rfl rfl ?_
      exact ⟨rfl, hq.2.2.2.2.2⟩
    | succ m ih =>
      intro a J ha hq
      refine am_iload_n dX11_tick_33 rfl ?_
      refine am_iload_n dX11_tick_34 rfl ?_
      refine am_icmp_ge (tgt := 48) dX11_tick_35 (by decide) (fun h => absurd ((nI_leI (a := t) (b := a) (by omega) (by omega)).mp h) (by omega)) (fun _ => ?_)
      refine am_aload_n dX11_tick_38 rfl ?_
      refine am_callVe (i := 0) (j := 60) (as := []) (rest := []) dX11_tick_39 lkX11_oneTick ml_X11_466 imX11_oneTick seX11_oneTick rfl rfl (hG.m0 (by decide)) rfl (Nat.le_of_ble_eq_true rfl) rfl (c_MoneTick hG hq) ?_
      refine am_iinc (v := nI (a + 1)) dX11_tick_42 rfl (nI_add _ _) ?_
      refine am_goto (tgt := 33) dX11_tick_45 (by decide) ?_
      exact ih (a + 1) _ (by omega) (am_qm_t hq _)
  refine am_of (by decide +kernel) hG.nd (Nat.le_of_ble_eq_true rfl) ?_
  refine am_aload_n dX11_tick_0 rfl ?_
  refine am_iload_n dX11_tick_1 rfl ?_
  refine am_iconst (v := nI 0) dX11_tick_2 (by decide) ?_
  refine am_bipush (v := nI 100) dX11_tick_3 (by decide) ?_
  refine am_callSx (as := [.inl (nI t), .inl (nI 0), .inl (nI 100)]) (rest := [.inr (0, 60)]) dX11_tick_5 lkX11_in ml_X11_243 isX11_in rfl (Nat.le_of_ble_eq_true rfl) rfl (c_Min hG.nd (nI t) (nI 0) (nI 100) I) ?_
  refine am_top (show am_b (decide ((nI 0).toInt ≤ (nI t).toInt ∧ (nI t).toInt ≤ (nI 100).toInt)) = nI 1 from Eq.trans (show am_b (decide ((nI 0).toInt ≤ (nI t).toInt ∧ (nI t).toInt ≤ (nI 100).toInt)) = am_b (decide (0 ≤ (nI t).toInt ∧ (nI t).toInt ≤ 100)) from by rw [nI_toInt (n := 0) (by omega), nI_toInt (n := 100) (by omega)]; rfl) (am_bT _ (by rw [nI_toInt (n := t) (by omega)]; omega))) ?_
  refine am_if_ne (tgt := 15) dX11_tick_8 (by decide) (fun _ => ?_) (fun h => absurd h (by decide))
  refine am_iconst (v := nI 0) dX11_tick_15 (by decide) ?_
  refine am_iconst (v := nI 0) dX11_tick_16 (by decide) ?_
  refine am_iconst (v := nI 0) dX11_tick_17 (by decide) ?_
  refine am_callVx (i := 0) (j := 60) (as := [.inl (nI 0), .inl (nI 0), .inl (nI 0)]) (rest := []) dX11_tick_18 lkX11_refuse ml_X11_441 imX11_refuse seX11_refuse rfl rfl (hG.m0 (by decide)) rfl (Nat.le_of_ble_eq_true rfl) rfl (c_refuse000 hG I) ?_
  refine am_if_eq (tgt := 26) dX11_tick_21 (by decide) (fun _ => ?_) (fun h => absurd h (by decide))
  refine am_aload_n dX11_tick_26 rfl ?_
  refine am_get (v := .inl ((am_up I 0 60 0 (nI 0)) 0 60 49)) dX11_tick_27 fl_11_268 (hG.m0 (by decide)) rfl ?_
  refine am_top (show (am_up I 0 60 0 (nI 0)) 0 60 49 = nI 0 from (by simp [am_up, am_upf, upd, hI, am_fr, am_dk])) ?_
  refine am_istore_n dX11_tick_30 (by decide) ?_
  refine am_iconst (v := nI 0) dX11_tick_31 (by decide) ?_
  refine am_istore_n dX11_tick_32 (by decide) ?_
  exact K t 0 _ (by omega) ⟨by simp [am_up, am_upf, upd, hI, am_fr], by simp [am_up, am_upf, upd, hI, am_fr], fun k hk => by simp [am_up, am_upf, upd, hI, am_fr, hk], fun k hk => by simp [am_up, am_upf, upd, hI, am_fr], by simp [am_up, am_upf, upd, hI, am_fr], by simp [am_up, am_upf, upd]⟩
theorem m_tickA {G : am_G} (hG : am_okM G) {d : Nat} (w : Int32) (hw : w.toInt < 0 ∨ 100 < w.toInt) {I : am_I} (hI : I = am_fr G.2.2.2.1)  : am_C G (d + 3) mX11_tick [.inr (0, 60), .inl w] I (fun rr J => rr = some (nI 0) ∧ J 0 60 0 = nI 1) := by
  have hn4 := hG.hi
  have hn2 := hG.lo
  refine am_of (by decide +kernel) hG.nd (Nat.le_of_ble_eq_true rfl) ?_
  refine am_aload_n dX11_tick_0 rfl ?_
  refine am_iload_n dX11_tick_1 rfl ?_
  refine am_iconst (v := nI 0) dX11_tick_2 (by decide) ?_
  refine am_bipush (v := nI 100) dX11_tick_3 (by decide) ?_
  refine am_callSx (as := [.inl w, .inl (nI 0), .inl (nI 100)]) (rest := [.inr (0, 60)]) dX11_tick_5 lkX11_in ml_X11_243 isX11_in rfl (Nat.le_of_ble_eq_true rfl) rfl (c_Min hG.nd w (nI 0) (nI 100) I) ?_
  refine am_top (show am_b (decide ((nI 0).toInt ≤ w.toInt ∧ w.toInt ≤ (nI 100).toInt)) = nI 0 from Eq.trans (show am_b (decide ((nI 0).toInt ≤ w.toInt ∧ w.toInt ≤ (nI 100).toInt)) = am_b (decide (0 ≤ w.toInt ∧ w.toInt ≤ 100)) from by rw [nI_toInt (n := 0) (by omega), nI_toInt (n := 100) (by omega)]; rfl) (am_bF _ (by omega))) ?_
  refine am_if_ne (tgt := 15) dX11_tick_8 (by decide) (fun h => absurd h (by decide)) (fun _ => ?_)
  refine am_iconst (v := nI 1) dX11_tick_11 (by decide) ?_
  refine am_goto (tgt := 16) dX11_tick_12 (by decide) ?_
  refine am_iconst (v := nI 0) dX11_tick_16 (by decide) ?_
  refine am_iconst (v := nI 0) dX11_tick_17 (by decide) ?_
  refine am_callVx (i := 0) (j := 60) (as := [.inl (nI 1), .inl (nI 0), .inl (nI 0)]) (rest := []) dX11_tick_18 lkX11_refuse ml_X11_441 imX11_refuse seX11_refuse rfl rfl (hG.m0 (by decide)) rfl (Nat.le_of_ble_eq_true rfl) rfl (c_refuse100 hG I) ?_
  refine am_if_eq (tgt := 26) dX11_tick_21 (by decide) (fun h => absurd h (by decide)) (fun _ => ?_)
  refine am_iconst (v := nI 0) dX11_tick_24 (by decide) ?_
  refine am_iret dX11_tick_25 rfl rfl ?_
  exact ⟨rfl, (by simp [am_up, am_upf, upd, hI, am_fr, am_dk])⟩
theorem c_MnoteGone0 {G : am_G} (hG : am_okM G) {d : Nat} (x : Int32) (I : am_I)  (htl : I 0 60 63 = nI 0) : am_C G d mX11_noteGone [.inr (0, 60), .inl x] I (am_E none (I)) := by
  refine am_of (by decide +kernel) hG.nd (Nat.le_of_ble_eq_true rfl) ?_
  refine am_iconst (v := nI 0) dX11_noteGone_0 (by decide) ?_
  refine am_istore_n dX11_noteGone_1 (by decide) ?_
  refine am_iload_n dX11_noteGone_2 rfl ?_
  refine am_aload_n dX11_noteGone_3 rfl ?_
  refine am_get (v := .inl (I 0 60 63)) dX11_noteGone_4 fl_11_274 (hG.m0 (by decide)) rfl ?_
  refine am_top (show I 0 60 63 = nI 0 from (by simp [am_up, am_upf, upd, htl])) ?_
  refine am_icmp_ge (tgt := 58) dX11_noteGone_7 (by decide) (fun _ => ?_) (fun h => absurd h (by decide))
  refine am_vret dX11_noteGone_58 rfl ?_
  exact ⟨rfl, rfl⟩
theorem c_MnoMaster {G : am_G} (hG : am_okM G) {d : Nat} {r : Nat} (hr : r < 136) (I : am_I)  : am_C G d mX11_noMaster [.inr (0, 60), .inl (nI r)] I (fun rr J => rr = none ∧ J 0 66 = I 0 66 ∧ J 0 60 = I 0 60) := by
  refine am_of (by decide +kernel) hG.nd (Nat.le_of_ble_eq_true rfl) ?_
  refine am_aload_n dX11_noMaster_0 rfl ?_
  refine am_get (v := .inr (0, 96)) dX11_noMaster_1 fl_11_108 (hG.m0 (by decide)) rfl ?_
  refine am_iload_n dX11_noMaster_4 rfl ?_
  refine am_iconst (v := nI 0) dX11_noMaster_5 (by decide) ?_
  refine am_iast (a := r) dX11_noMaster_6 (hG.m0 (by decide)) rfl rfl (show r < 136 from (by omega)) (show 136 < 2 ^ 31 by decide) ?_
  refine am_iconst (v := nI 0) dX11_noMaster_7 (by decide) ?_
  refine am_istore_n dX11_noMaster_8 (by decide) ?_
  refine am_iload_n dX11_noMaster_9 rfl ?_
  refine am_iconst (v := nI 4) dX11_noMaster_10 (by decide) ?_
  refine am_icmp_ge (tgt := 42) dX11_noMaster_11 (by decide) (fun h => absurd h (by decide)) (fun _ => ?_)
  refine am_aload_n dX11_noMaster_14 rfl ?_
  refine am_get (v := .inr (0, 94)) dX11_noMaster_15 fl_11_102 (hG.m0 (by decide)) rfl ?_
  refine am_iconst (v := nI 4) dX11_noMaster_18 (by decide) ?_
  refine am_iload_n dX11_noMaster_19 rfl ?_
  refine am_imul dX11_noMaster_20 ?_
  refine am_top (pk_mul _ _) ?_
  refine am_iload_n dX11_noMaster_21 rfl ?_
  refine am_iadd dX11_noMaster_22 ?_
  refine am_top (nI_add _ _) ?_
  refine am_iconst (v := nI 0) dX11_noMaster_23 (by decide) ?_
  refine am_iast (a := 4 * r + 0) dX11_noMaster_24 (hG.m0 (by decide)) rfl rfl (show 4 * r + 0 < 544 from (by omega)) (show 544 < 2 ^ 31 by decide) ?_
  refine am_aload_n dX11_noMaster_25 rfl ?_
  refine am_get (v := .inr (0, 95)) dX11_noMaster_26 fl_11_105 (hG.m0 (by decide)) rfl ?_
  refine am_iconst (v := nI 4) dX11_noMaster_29 (by decide) ?_
  refine am_iload_n dX11_noMaster_30 rfl ?_
  refine am_imul dX11_noMaster_31 ?_
  refine am_top (pk_mul _ _) ?_
  refine am_iload_n dX11_noMaster_32 rfl ?_
  refine am_iadd dX11_noMaster_33 ?_
  refine am_top (nI_add _ _) ?_
  refine am_iconst (v := (-1 : Int32)) dX11_noMaster_34 (by decide) ?_
  refine am_iast (a := 4 * r + 0) dX11_noMaster_35 (hG.m0 (by decide)) rfl rfl (show 4 * r + 0 < 544 from (by omega)) (show 544 < 2 ^ 31 by decide) ?_
  refine am_iinc (v := nI 1) dX11_noMaster_36 rfl (by decide) ?_
  refine am_goto (tgt := 9) dX11_noMaster_39 (by decide) ?_
  refine am_iload_n dX11_noMaster_9 rfl ?_
  refine am_iconst (v := nI 4) dX11_noMaster_10 (by decide) ?_
  refine am_icmp_ge (tgt := 42) dX11_noMaster_11 (by decide) (fun h => absurd h (by decide)) (fun _ => ?_)
  refine am_aload_n dX11_noMaster_14 rfl ?_
  refine am_get (v := .inr (0, 94)) dX11_noMaster_15 fl_11_102 (hG.m0 (by decide)) rfl ?_
  refine am_iconst (v := nI 4) dX11_noMaster_18 (by decide) ?_
  refine am_iload_n dX11_noMaster_19 rfl ?_
  refine am_imul dX11_noMaster_20 ?_
  refine am_top (pk_mul _ _) ?_
  refine am_iload_n dX11_noMaster_21 rfl ?_
  refine am_iadd dX11_noMaster_22 ?_
  refine am_top (nI_add _ _) ?_
  refine am_iconst (v := nI 0) dX11_noMaster_23 (by decide) ?_
  refine am_iast (a := 4 * r + 1) dX11_noMaster_24 (hG.m0 (by decide)) rfl rfl (show 4 * r + 1 < 544 from (by omega)) (show 544 < 2 ^ 31 by decide) ?_
  refine am_aload_n dX11_noMaster_25 rfl ?_
  refine am_get (v := .inr (0, 95)) dX11_noMaster_26 fl_11_105 (hG.m0 (by decide)) rfl ?_
  refine am_iconst (v := nI 4) dX11_noMaster_29 (by decide) ?_
  refine am_iload_n dX11_noMaster_30 rfl ?_
  refine am_imul dX11_noMaster_31 ?_
  refine am_top (pk_mul _ _) ?_
  refine am_iload_n dX11_noMaster_32 rfl ?_
  refine am_iadd dX11_noMaster_33 ?_
  refine am_top (nI_add _ _) ?_
  refine am_iconst (v := (-1 : Int32)) dX11_noMaster_34 (by decide) ?_
  refine am_iast (a := 4 * r + 1) dX11_noMaster_35 (hG.m0 (by decide)) rfl rfl (show 4 * r + 1 < 544 from (by omega)) (show 544 < 2 ^ 31 by decide) ?_
  refine am_iinc (v := nI 2) dX11_noMaster_36 rfl (by decide) ?_
  refine am_goto (tgt := 9) dX11_noMaster_39 (by decide) ?_
  refine am_iload_n dX11_noMaster_9 rfl ?_
  refine am_iconst (v := nI 4) dX11_noMaster_10 (by decide) ?_
  refine am_icmp_ge (tgt := 42) dX11_noMaster_11 (by decide) (fun h => absurd h (by decide)) (fun _ => ?_)
  refine am_aload_n dX11_noMaster_14 rfl ?_
  refine am_get (v := .inr (0, 94)) dX11_noMaster_15 fl_11_102 (hG.m0 (by decide)) rfl ?_
  refine am_iconst (v := nI 4) dX11_noMaster_18 (by decide) ?_
  refine am_iload_n dX11_noMaster_19 rfl ?_
  refine am_imul dX11_noMaster_20 ?_
  refine am_top (pk_mul _ _) ?_
  refine am_iload_n dX11_noMaster_21 rfl ?_
  refine am_iadd dX11_noMaster_22 ?_
  refine am_top (nI_add _ _) ?_
  refine am_iconst (v := nI 0) dX11_noMaster_23 (by decide) ?_
  refine am_iast (a := 4 * r + 2) dX11_noMaster_24 (hG.m0 (by decide)) rfl rfl (show 4 * r + 2 < 544 from (by omega)) (show 544 < 2 ^ 31 by decide) ?_
  refine am_aload_n dX11_noMaster_25 rfl ?_
  refine am_get (v := .inr (0, 95)) dX11_noMaster_26 fl_11_105 (hG.m0 (by decide)) rfl ?_
  refine am_iconst (v := nI 4) dX11_noMaster_29 (by decide) ?_
  refine am_iload_n dX11_noMaster_30 rfl ?_
  refine am_imul dX11_noMaster_31 ?_
  refine am_top (pk_mul _ _) ?_
  refine am_iload_n dX11_noMaster_32 rfl ?_
  refine am_iadd dX11_noMaster_33 ?_
  refine am_top (nI_add _ _) ?_
  refine am_iconst (v := (-1 : Int32)) dX11_noMaster_34 (by decide) ?_
  refine am_iast (a := 4 * r + 2) dX11_noMaster_35 (hG.m0 (by decide)) rfl rfl (show 4 * r + 2 < 544 from (by omega)) (show 544 < 2 ^ 31 by decide) ?_
  refine am_iinc (v := nI 3) dX11_noMaster_36 rfl (by decide) ?_
  refine am_goto (tgt := 9) dX11_noMaster_39 (by decide) ?_
  refine am_iload_n dX11_noMaster_9 rfl ?_
  refine am_iconst (v := nI 4) dX11_noMaster_10 (by decide) ?_
  refine am_icmp_ge (tgt := 42) dX11_noMaster_11 (by decide) (fun h => absurd h (by decide)) (fun _ => ?_)
  refine am_aload_n dX11_noMaster_14 rfl ?_
  refine am_get (v := .inr (0, 94)) dX11_noMaster_15 fl_11_102 (hG.m0 (by decide)) rfl ?_
  refine am_iconst (v := nI 4) dX11_noMaster_18 (by decide) ?_
  refine am_iload_n dX11_noMaster_19 rfl ?_
  refine am_imul dX11_noMaster_20 ?_
  refine am_top (pk_mul _ _) ?_
  refine am_iload_n dX11_noMaster_21 rfl ?_
  refine am_iadd dX11_noMaster_22 ?_
  refine am_top (nI_add _ _) ?_
  refine am_iconst (v := nI 0) dX11_noMaster_23 (by decide) ?_
  refine am_iast (a := 4 * r + 3) dX11_noMaster_24 (hG.m0 (by decide)) rfl rfl (show 4 * r + 3 < 544 from (by omega)) (show 544 < 2 ^ 31 by decide) ?_
  refine am_aload_n dX11_noMaster_25 rfl ?_
  refine am_get (v := .inr (0, 95)) dX11_noMaster_26 fl_11_105 (hG.m0 (by decide)) rfl ?_
  refine am_iconst (v := nI 4) dX11_noMaster_29 (by decide) ?_
  refine am_iload_n dX11_noMaster_30 rfl ?_
  refine am_imul dX11_noMaster_31 ?_
  refine am_top (pk_mul _ _) ?_
  refine am_iload_n dX11_noMaster_32 rfl ?_
  refine am_iadd dX11_noMaster_33 ?_
  refine am_top (nI_add _ _) ?_
  refine am_iconst (v := (-1 : Int32)) dX11_noMaster_34 (by decide) ?_
  refine am_iast (a := 4 * r + 3) dX11_noMaster_35 (hG.m0 (by decide)) rfl rfl (show 4 * r + 3 < 544 from (by omega)) (show 544 < 2 ^ 31 by decide) ?_
  refine am_iinc (v := nI 4) dX11_noMaster_36 rfl (by decide) ?_
  refine am_goto (tgt := 9) dX11_noMaster_39 (by decide) ?_
  refine am_iload_n dX11_noMaster_9 rfl ?_
  refine am_iconst (v := nI 4) dX11_noMaster_10 (by decide) ?_
  refine am_icmp_ge (tgt := 42) dX11_noMaster_11 (by decide) (fun _ => ?_) (fun h => absurd h (by decide))
  refine am_vret dX11_noMaster_42 rfl ?_
  exact ⟨rfl, by simp [am_up, am_upf], by simp [am_up, am_upf]⟩
theorem c_MnoneOf {G : am_G} (hG : am_okM G) {d : Nat} {i : Nat} (hi : i < G.2.2.2.1) {I : am_I} : am_C G (d + 1) mX11_noneOf [.inr (0, 60), .inl (nI i)] I (fun rr J => rr = none ∧ J 0 66 = I 0 66 ∧ J 0 60 = I 0 60) := by
  have hn4 := hG.hi
  have hn2 := hG.lo
  have K2 : ∀ (m b : Nat) (J : am_I) (s3 : Option am_V), b + m = 136 → (J 0 66 = I 0 66 ∧ J 0 60 = I 0 60) → am_J G (d + 1) mX11_noneOf am_no (fun rr J => rr = none ∧ J 0 66 = I 0 66 ∧ J 0 60 = I 0 60) 71 [some (.inr (0, 60)), some (.inl (nI i)), some (.inl (nI b)), s3] [] J := by
    intro m
    induction m with
    | zero =>
      intro b J s3 ha hF
      obtain rfl : b = 136 := by omega
      refine am_iload_n dX11_noneOf_71 rfl ?_
      refine am_sipush (v := nI 136) dX11_noneOf_72 (by decide) ?_
      refine am_icmp_ge (tgt := 125) dX11_noneOf_75 (by decide) (fun _ => ?_) (fun h => absurd ((nI_leI (a := 136) (b := 136) (by omega) (by omega)).mpr (by omega)) h)
      refine am_vret dX11_noneOf_125 rfl ?_
      exact ⟨rfl, hF⟩
    | succ m ih =>
      intro b J s3 ha hF
      refine am_iload_n dX11_noneOf_71 rfl ?_
      refine am_sipush (v := nI 136) dX11_noneOf_72 (by decide) ?_
      refine am_icmp_ge (tgt := 125) dX11_noneOf_75 (by decide) (fun h => absurd ((nI_leI (a := 136) (b := b) (by omega) (by omega)).mp h) (by omega)) (fun _ => ?_)
      refine am_iload_n dX11_noneOf_78 rfl ?_
      refine am_iload_n dX11_noneOf_79 rfl ?_
      refine am_callSx (as := [.inl (nI i), .inl (nI b)]) (rest := []) dX11_noneOf_80 lkX11_at ml_X11_208 isX11_at rfl (Nat.le_of_ble_eq_true rfl) rfl (c_Mat hG.nd (g := i) (r := b) (by omega) (by omega) J) ?_
      refine am_istore_n dX11_noneOf_83 (by decide) ?_
      refine am_aload_n dX11_noneOf_84 rfl ?_
      refine am_get (v := .inr (0, 76)) dX11_noneOf_85 fl_11_48 (hG.m0 (by decide)) rfl ?_
      refine am_iload_n dX11_noneOf_88 rfl ?_
      refine am_iconst (v := nI 0) dX11_noneOf_89 (by decide) ?_
      refine am_iast (a := 136 * i + b) dX11_noneOf_90 (hG.m0 (by decide)) rfl rfl (show 136 * i + b < 544 from (by omega)) (show 544 < 2 ^ 31 by decide) ?_
      refine am_aload_n dX11_noneOf_91 rfl ?_
      refine am_get (v := .inr (0, 77)) dX11_noneOf_92 fl_11_51 (hG.m0 (by decide)) rfl ?_
      refine am_iload_n dX11_noneOf_95 rfl ?_
      refine am_iconst (v := nI 0) dX11_noneOf_96 (by decide) ?_
      refine am_iast (a := 136 * i + b) dX11_noneOf_97 (hG.m0 (by decide)) rfl rfl (show 136 * i + b < 544 from (by omega)) (show 544 < 2 ^ 31 by decide) ?_
      refine am_aload_n dX11_noneOf_98 rfl ?_
      refine am_get (v := .inr (0, 78)) dX11_noneOf_99 fl_11_54 (hG.m0 (by decide)) rfl ?_
      refine am_iload_n dX11_noneOf_102 rfl ?_
      refine am_iconst (v := (-1 : Int32)) dX11_noneOf_103 (by decide) ?_
      refine am_iast (a := 136 * i + b) dX11_noneOf_104 (hG.m0 (by decide)) rfl rfl (show 136 * i + b < 544 from (by omega)) (show 544 < 2 ^ 31 by decide) ?_
      refine am_aload_n dX11_noneOf_105 rfl ?_
      refine am_get (v := .inr (0, 79)) dX11_noneOf_106 fl_11_57 (hG.m0 (by decide)) rfl ?_
      refine am_iload_n dX11_noneOf_109 rfl ?_
      refine am_iconst (v := nI 0) dX11_noneOf_110 (by decide) ?_
      refine am_zast (a := 136 * i + b) dX11_noneOf_111 (hG.m0 (by decide)) rfl (by decide) rfl (show 136 * i + b < 544 from (by omega)) (show 544 < 2 ^ 31 by decide) ?_
      refine am_aload_n dX11_noneOf_112 rfl ?_
      refine am_get (v := .inr (0, 80)) dX11_noneOf_113 fl_11_60 (hG.m0 (by decide)) rfl ?_
      refine am_iload_n dX11_noneOf_116 rfl ?_
      refine am_iconst (v := nI 0) dX11_noneOf_117 (by decide) ?_
      refine am_zast (a := 136 * i + b) dX11_noneOf_118 (hG.m0 (by decide)) rfl (by decide) rfl (show 136 * i + b < 544 from (by omega)) (show 544 < 2 ^ 31 by decide) ?_
      refine am_iinc (v := nI (b + 1)) dX11_noneOf_119 rfl (nI_add _ _) ?_
      refine am_goto (tgt := 71) dX11_noneOf_122 (by decide) ?_
      exact ih (b + 1) _ _ (by omega) ⟨by simp [am_up, am_upf, hF.1], by simp [am_up, am_upf, hF.2]⟩
  have K1 : ∀ (m b : Nat) (J : am_I), b + m = 640 → (J 0 66 = I 0 66 ∧ J 0 60 = I 0 60) → am_J G (d + 1) mX11_noneOf am_no (fun rr J => rr = none ∧ J 0 66 = I 0 66 ∧ J 0 60 = I 0 60) 2 [some (.inr (0, 60)), some (.inl (nI i)), some (.inl (nI b)), none] [] J := by
    intro m
    induction m with
    | zero =>
      intro b J ha hF
      obtain rfl : b = 640 := by omega
      refine am_iload_n dX11_noneOf_2 rfl ?_
      refine am_sipush (v := nI 640) dX11_noneOf_3 (by decide) ?_
      refine am_icmp_ge (tgt := 41) dX11_noneOf_6 (by decide) (fun _ => ?_) (fun h => absurd ((nI_leI (a := 640) (b := 640) (by omega) (by omega)).mpr (by omega)) h)
      refine am_aload_n dX11_noneOf_41 rfl ?_
      refine am_get (v := .inr (0, 70)) dX11_noneOf_42 fl_11_30 (hG.m0 (by decide)) rfl ?_
      refine am_iload_n dX11_noneOf_45 rfl ?_
      refine am_iconst (v := nI 0) dX11_noneOf_46 (by decide) ?_
      refine am_iast (a := i) dX11_noneOf_47 (hG.m0 (by decide)) rfl rfl (show i < 4 from (by omega)) (show 4 < 2 ^ 31 by decide) ?_
      refine am_aload_n dX11_noneOf_48 rfl ?_
      refine am_get (v := .inr (0, 72)) dX11_noneOf_49 fl_11_36 (hG.m0 (by decide)) rfl ?_
      refine am_iload_n dX11_noneOf_52 rfl ?_
      refine am_iconst (v := nI 0) dX11_noneOf_53 (by decide) ?_
      refine am_iast (a := i) dX11_noneOf_54 (hG.m0 (by decide)) rfl rfl (show i < 4 from (by omega)) (show 4 < 2 ^ 31 by decide) ?_
      refine am_aload_n dX11_noneOf_55 rfl ?_
      refine am_get (v := .inr (0, 73)) dX11_noneOf_56 fl_11_39 (hG.m0 (by decide)) rfl ?_
      refine am_iload_n dX11_noneOf_59 rfl ?_
      refine am_iconst (v := nI 0) dX11_noneOf_60 (by decide) ?_
      refine am_iast (a := i) dX11_noneOf_61 (hG.m0 (by decide)) rfl rfl (show i < 4 from (by omega)) (show 4 < 2 ^ 31 by decide) ?_
      refine am_aload_n dX11_noneOf_62 rfl ?_
      refine am_get (v := .inr (0, 93)) dX11_noneOf_63 fl_11_99 (hG.m0 (by decide)) rfl ?_
      refine am_iload_n dX11_noneOf_66 rfl ?_
      refine am_iconst (v := nI 0) dX11_noneOf_67 (by decide) ?_
      refine am_zast (a := i) dX11_noneOf_68 (hG.m0 (by decide)) rfl (by decide) rfl (show i < 4 from (by omega)) (show 4 < 2 ^ 31 by decide) ?_
      refine am_iconst (v := nI 0) dX11_noneOf_69 (by decide) ?_
      refine am_istore_n dX11_noneOf_70 (by decide) ?_
      exact K2 136 0 _ none (by omega) ⟨by simp [am_up, am_upf, hF.1], by simp [am_up, am_upf, hF.2]⟩
    | succ m ih =>
      intro b J ha hF
      refine am_iload_n dX11_noneOf_2 rfl ?_
      refine am_sipush (v := nI 640) dX11_noneOf_3 (by decide) ?_
      refine am_icmp_ge (tgt := 41) dX11_noneOf_6 (by decide) (fun h => absurd ((nI_leI (a := 640) (b := b) (by omega) (by omega)).mp h) (by omega)) (fun _ => ?_)
      refine am_aload_n dX11_noneOf_9 rfl ?_
      refine am_get (v := .inr (0, 68)) dX11_noneOf_10 fl_11_24 (hG.m0 (by decide)) rfl ?_
      refine am_sipush (v := nI 640) dX11_noneOf_13 (by decide) ?_
      refine am_iload_n dX11_noneOf_16 rfl ?_
      refine am_imul dX11_noneOf_17 ?_
      refine am_top (pk_mul _ _) ?_
      refine am_iload_n dX11_noneOf_18 rfl ?_
      refine am_iadd dX11_noneOf_19 ?_
      refine am_top (nI_add _ _) ?_
      refine am_iconst (v := nI 0) dX11_noneOf_20 (by decide) ?_
      refine am_zast (a := 640 * i + b) dX11_noneOf_21 (hG.m0 (by decide)) rfl (by decide) rfl (show 640 * i + b < 2560 from (by omega)) (show 2560 < 2 ^ 31 by decide) ?_
      refine am_aload_n dX11_noneOf_22 rfl ?_
      refine am_get (v := .inr (0, 69)) dX11_noneOf_23 fl_11_27 (hG.m0 (by decide)) rfl ?_
      refine am_sipush (v := nI 640) dX11_noneOf_26 (by decide) ?_
      refine am_iload_n dX11_noneOf_29 rfl ?_
      refine am_imul dX11_noneOf_30 ?_
      refine am_top (pk_mul _ _) ?_
      refine am_iload_n dX11_noneOf_31 rfl ?_
      refine am_iadd dX11_noneOf_32 ?_
      refine am_top (nI_add _ _) ?_
      refine am_iconst (v := nI 0) dX11_noneOf_33 (by decide) ?_
      refine am_zast (a := 640 * i + b) dX11_noneOf_34 (hG.m0 (by decide)) rfl (by decide) rfl (show 640 * i + b < 2560 from (by omega)) (show 2560 < 2 ^ 31 by decide) ?_
      refine am_iinc (v := nI (b + 1)) dX11_noneOf_35 rfl (nI_add _ _) ?_
      refine am_goto (tgt := 2) dX11_noneOf_38 (by decide) ?_
      exact ih (b + 1) _ (by omega) ⟨by simp [am_up, am_upf, hF.1], by simp [am_up, am_upf, hF.2]⟩
  refine am_of (by decide +kernel) hG.nd (Nat.le_of_ble_eq_true rfl) ?_
  refine am_iconst (v := nI 0) dX11_noneOf_0 (by decide) ?_
  refine am_istore_n dX11_noneOf_1 (by decide) ?_
  exact K1 640 0 _ (by omega) ⟨rfl, rfl⟩
theorem m_crash {G : am_G} (hG : am_okM G) {d : Nat} {i : Nat} (hi : i < G.2.2.2.1) (w : Int32) (hw : 0 ≤ w.toInt ∧ w.toInt ≤ 15) {I : am_I} (hI : I = am_fr G.2.2.2.1)  : am_C G (d + 3) mX11_crash [.inr (0, 60), .inl (nI i), .inl w] I (fun rr J => rr = none ∧ J 0 60 0 = nI 0) := by
  have hn4 := hG.hi
  have hn2 := hG.lo
  have K : ∀ (m r : Nat) (J : am_I), r + m = 136 → (∀ x, x < G.2.2.2.1 → J 0 66 x = nI 1) → J 0 60 1 = nI G.2.2.2.1 → J 0 60 38 = nI 0 → J 0 60 0 = nI 0 → am_J G (d + 3) mX11_crash am_no (fun rr J => rr = none ∧ J 0 60 0 = nI 0) 193 [some (.inr (0, 60)), some (.inl (nI i)), some (.inl w), some (.inl (nI 1)), some (.inl (nI r)), none] [] J := by
    intro m
    induction m with
    | zero =>
      intro r J ha hj hnn hms hth
      obtain rfl : r = 136 := by omega
      refine am_iload dX11_crash_193 rfl ?_
      refine am_sipush (v := nI 136) dX11_crash_195 (by decide) ?_
      refine am_icmp_ge (tgt := 223) dX11_crash_198 (by decide) (fun _ => ?_) (fun h => absurd ((nI_leI (a := 136) (b := 136) (by omega) (by omega)).mpr (by omega)) h)
      refine am_iconst (v := nI 0) dX11_crash_223 (by decide) ?_
      refine am_istore dX11_crash_224 (by decide) ?_
      refine am_iload dX11_crash_226 rfl ?_
      refine am_aload_n dX11_crash_228 rfl ?_
      refine am_get (v := .inl (J 0 60 38)) dX11_crash_229 fl_11_197 (hG.m0 (by decide)) rfl ?_
      refine am_top hms ?_
      refine am_icmp_ge (tgt := 272) dX11_crash_232 (by decide) (fun _ => ?_) (fun h => absurd h (by decide))
      refine am_iconst (v := nI 0) dX11_crash_272 (by decide) ?_
      refine am_istore dX11_crash_273 (by decide) ?_
      refine am_iload dX11_crash_275 rfl ?_
      refine am_iconst (v := nI 4) dX11_crash_277 (by decide) ?_
      refine am_icmp_ge (tgt := 311) dX11_crash_278 (by decide) (fun h => absurd h (by decide)) (fun _ => ?_)
      refine am_aload_n dX11_crash_281 rfl ?_
      refine am_get (v := .inr (0, 108)) dX11_crash_282 fl_11_138 (hG.m0 (by decide)) rfl ?_
      refine am_iconst (v := nI 4) dX11_crash_285 (by decide) ?_
      refine am_iload_n dX11_crash_286 rfl ?_
      refine am_imul dX11_crash_287 ?_
      refine am_top (pk_mul _ _) ?_
      refine am_iload dX11_crash_288 rfl ?_
      refine am_iadd dX11_crash_290 ?_
      refine am_top (nI_add _ _) ?_
      refine am_iconst (v := nI 0) dX11_crash_291 (by decide) ?_
      refine am_iast (a := 4 * i + 0) dX11_crash_292 (hG.m0 (by decide)) rfl rfl (show 4 * i + 0 < 16 from (by omega)) (show 16 < 2 ^ 31 by decide) ?_
      refine am_aload_n dX11_crash_293 rfl ?_
      refine am_get (v := .inr (0, 108)) dX11_crash_294 fl_11_138 (hG.m0 (by decide)) rfl ?_
      refine am_iconst (v := nI 4) dX11_crash_297 (by decide) ?_
      refine am_iload dX11_crash_298 rfl ?_
      refine am_imul dX11_crash_300 ?_
      refine am_top (show (nI 4) * (nI 0) = nI 0 by decide) ?_
      refine am_iload_n dX11_crash_301 rfl ?_
      refine am_iadd dX11_crash_302 ?_
      refine am_top (nI_add _ _) ?_
      refine am_iconst (v := nI 0) dX11_crash_303 (by decide) ?_
      refine am_iast (a := 0 + i) dX11_crash_304 (hG.m0 (by decide)) rfl rfl (show 0 + i < 16 from (by omega)) (show 16 < 2 ^ 31 by decide) ?_
      refine am_iinc (v := nI 1) dX11_crash_305 rfl (by decide) ?_
      refine am_goto (tgt := 275) dX11_crash_308 (by decide) ?_
      refine am_iload dX11_crash_275 rfl ?_
      refine am_iconst (v := nI 4) dX11_crash_277 (by decide) ?_
      refine am_icmp_ge (tgt := 311) dX11_crash_278 (by decide) (fun h => absurd h (by decide)) (fun _ => ?_)
      refine am_aload_n dX11_crash_281 rfl ?_
      refine am_get (v := .inr (0, 108)) dX11_crash_282 fl_11_138 (hG.m0 (by decide)) rfl ?_
      refine am_iconst (v := nI 4) dX11_crash_285 (by decide) ?_
      refine am_iload_n dX11_crash_286 rfl ?_
      refine am_imul dX11_crash_287 ?_
      refine am_top (pk_mul _ _) ?_
      refine am_iload dX11_crash_288 rfl ?_
      refine am_iadd dX11_crash_290 ?_
      refine am_top (nI_add _ _) ?_
      refine am_iconst (v := nI 0) dX11_crash_291 (by decide) ?_
      refine am_iast (a := 4 * i + 1) dX11_crash_292 (hG.m0 (by decide)) rfl rfl (show 4 * i + 1 < 16 from (by omega)) (show 16 < 2 ^ 31 by decide) ?_
      refine am_aload_n dX11_crash_293 rfl ?_
      refine am_get (v := .inr (0, 108)) dX11_crash_294 fl_11_138 (hG.m0 (by decide)) rfl ?_
      refine am_iconst (v := nI 4) dX11_crash_297 (by decide) ?_
      refine am_iload dX11_crash_298 rfl ?_
      refine am_imul dX11_crash_300 ?_
      refine am_top (show (nI 4) * (nI 1) = nI 4 by decide) ?_
      refine am_iload_n dX11_crash_301 rfl ?_
      refine am_iadd dX11_crash_302 ?_
      refine am_top (nI_add _ _) ?_
      refine am_iconst (v := nI 0) dX11_crash_303 (by decide) ?_
      refine am_iast (a := 4 + i) dX11_crash_304 (hG.m0 (by decide)) rfl rfl (show 4 + i < 16 from (by omega)) (show 16 < 2 ^ 31 by decide) ?_
      refine am_iinc (v := nI 2) dX11_crash_305 rfl (by decide) ?_
      refine am_goto (tgt := 275) dX11_crash_308 (by decide) ?_
      refine am_iload dX11_crash_275 rfl ?_
      refine am_iconst (v := nI 4) dX11_crash_277 (by decide) ?_
      refine am_icmp_ge (tgt := 311) dX11_crash_278 (by decide) (fun h => absurd h (by decide)) (fun _ => ?_)
      refine am_aload_n dX11_crash_281 rfl ?_
      refine am_get (v := .inr (0, 108)) dX11_crash_282 fl_11_138 (hG.m0 (by decide)) rfl ?_
      refine am_iconst (v := nI 4) dX11_crash_285 (by decide) ?_
      refine am_iload_n dX11_crash_286 rfl ?_
      refine am_imul dX11_crash_287 ?_
      refine am_top (pk_mul _ _) ?_
      refine am_iload dX11_crash_288 rfl ?_
      refine am_iadd dX11_crash_290 ?_
      refine am_top (nI_add _ _) ?_
      refine am_iconst (v := nI 0) dX11_crash_291 (by decide) ?_
      refine am_iast (a := 4 * i + 2) dX11_crash_292 (hG.m0 (by decide)) rfl rfl (show 4 * i + 2 < 16 from (by omega)) (show 16 < 2 ^ 31 by decide) ?_
      refine am_aload_n dX11_crash_293 rfl ?_
      refine am_get (v := .inr (0, 108)) dX11_crash_294 fl_11_138 (hG.m0 (by decide)) rfl ?_
      refine am_iconst (v := nI 4) dX11_crash_297 (by decide) ?_
      refine am_iload dX11_crash_298 rfl ?_
      refine am_imul dX11_crash_300 ?_
      refine am_top (show (nI 4) * (nI 2) = nI 8 by decide) ?_
      refine am_iload_n dX11_crash_301 rfl ?_
      refine am_iadd dX11_crash_302 ?_
      refine am_top (nI_add _ _) ?_
      refine am_iconst (v := nI 0) dX11_crash_303 (by decide) ?_
      refine am_iast (a := 8 + i) dX11_crash_304 (hG.m0 (by decide)) rfl rfl (show 8 + i < 16 from (by omega)) (show 16 < 2 ^ 31 by decide) ?_
      refine am_iinc (v := nI 3) dX11_crash_305 rfl (by decide) ?_
      refine am_goto (tgt := 275) dX11_crash_308 (by decide) ?_
      refine am_iload dX11_crash_275 rfl ?_
      refine am_iconst (v := nI 4) dX11_crash_277 (by decide) ?_
      refine am_icmp_ge (tgt := 311) dX11_crash_278 (by decide) (fun h => absurd h (by decide)) (fun _ => ?_)
      refine am_aload_n dX11_crash_281 rfl ?_
      refine am_get (v := .inr (0, 108)) dX11_crash_282 fl_11_138 (hG.m0 (by decide)) rfl ?_
      refine am_iconst (v := nI 4) dX11_crash_285 (by decide) ?_
      refine am_iload_n dX11_crash_286 rfl ?_
      refine am_imul dX11_crash_287 ?_
      refine am_top (pk_mul _ _) ?_
      refine am_iload dX11_crash_288 rfl ?_
      refine am_iadd dX11_crash_290 ?_
      refine am_top (nI_add _ _) ?_
      refine am_iconst (v := nI 0) dX11_crash_291 (by decide) ?_
      refine am_iast (a := 4 * i + 3) dX11_crash_292 (hG.m0 (by decide)) rfl rfl (show 4 * i + 3 < 16 from (by omega)) (show 16 < 2 ^ 31 by decide) ?_
      refine am_aload_n dX11_crash_293 rfl ?_
      refine am_get (v := .inr (0, 108)) dX11_crash_294 fl_11_138 (hG.m0 (by decide)) rfl ?_
      refine am_iconst (v := nI 4) dX11_crash_297 (by decide) ?_
      refine am_iload dX11_crash_298 rfl ?_
      refine am_imul dX11_crash_300 ?_
      refine am_top (show (nI 4) * (nI 3) = nI 12 by decide) ?_
      refine am_iload_n dX11_crash_301 rfl ?_
      refine am_iadd dX11_crash_302 ?_
      refine am_top (nI_add _ _) ?_
      refine am_iconst (v := nI 0) dX11_crash_303 (by decide) ?_
      refine am_iast (a := 12 + i) dX11_crash_304 (hG.m0 (by decide)) rfl rfl (show 12 + i < 16 from (by omega)) (show 16 < 2 ^ 31 by decide) ?_
      refine am_iinc (v := nI 4) dX11_crash_305 rfl (by decide) ?_
      refine am_goto (tgt := 275) dX11_crash_308 (by decide) ?_
      refine am_iload dX11_crash_275 rfl ?_
      refine am_iconst (v := nI 4) dX11_crash_277 (by decide) ?_
      refine am_icmp_ge (tgt := 311) dX11_crash_278 (by decide) (fun _ => ?_) (fun h => absurd h (by decide))
      refine am_vret dX11_crash_311 rfl ?_
      exact ⟨rfl, by simp [am_up, am_upf, hth]⟩
    | succ m ih =>
      intro r J ha hj hnn hms hth
      refine am_iload dX11_crash_193 rfl ?_
      refine am_sipush (v := nI 136) dX11_crash_195 (by decide) ?_
      refine am_icmp_ge (tgt := 223) dX11_crash_198 (by decide) (fun h => absurd ((nI_leI (a := 136) (b := r) (by omega) (by omega)).mp h) (by omega)) (fun _ => ?_)
      have hrm := Nat.mod_lt r (show 0 < G.2.2.2.1 by omega)
      refine am_aload_n dX11_crash_201 rfl ?_
      refine am_iload dX11_crash_202 rfl ?_
      refine am_callVx (i := 0) (j := 60) (as := [.inl (nI r)]) (rest := []) dX11_crash_204 lkX11_masterOf ml_X11_226 imX11_masterOf seX11_masterOf rfl rfl (hG.m0 (by decide)) rfl (Nat.le_of_ble_eq_true rfl) rfl (c_MmasterOf hG (by omega) J hj hnn) ?_
      refine am_iload_n dX11_crash_207 rfl ?_
      refine am_icmp_ne (tgt := 217) dX11_crash_208 (by decide) (fun c_208 => ?_) (fun c_208 => ?_)
      · skip
        have c_208 := mt (nI_eq (a := r % G.2.2.2.1) (b := i) (by omega) (by omega)).mpr c_208
        refine am_iinc (v := nI (r + 1)) dX11_crash_217 rfl (nI_add _ _) ?_
        refine am_goto (tgt := 193) dX11_crash_220 (by decide) ?_
        exact ih (r + 1) J (by omega) hj hnn hms hth
      · skip
        have c_208 := (nI_eq (a := r % G.2.2.2.1) (b := i) (by omega) (by omega)).mp c_208
        refine am_aload_n dX11_crash_211 rfl ?_
        refine am_iload dX11_crash_212 rfl ?_
        refine am_callVv (i := 0) (j := 60) (as := [.inl (nI r)]) (rest := []) dX11_crash_214 lkX11_noMaster ml_X11_478 imX11_noMaster seX11_noMaster rfl rfl (hG.m0 (by decide)) rfl (Nat.le_of_ble_eq_true rfl) rfl (c_MnoMaster hG (by omega) J) rfl (fun J2 hq => ?_)
        have hj : ∀ x, x < G.2.2.2.1 → J2 0 66 x = nI 1 := fun x hx => by rw [hq.2.1]; exact hj x hx
        have hnn : J2 0 60 1 = nI G.2.2.2.1 := by rw [hq.2.2]; exact hnn
        have hms : J2 0 60 38 = nI 0 := by rw [hq.2.2]; exact hms
        have hth : J2 0 60 0 = nI 0 := by rw [hq.2.2]; exact hth
        refine am_iinc (v := nI (r + 1)) dX11_crash_217 rfl (nI_add _ _) ?_
        refine am_goto (tgt := 193) dX11_crash_220 (by decide) ?_
        exact ih (r + 1) J2 (by omega) hj hnn hms hth
  refine am_of (by decide +kernel) hG.nd (Nat.le_of_ble_eq_true rfl) ?_
  refine am_aload_n dX11_crash_0 rfl ?_
  refine am_iload_n dX11_crash_1 rfl ?_
  refine am_callVx (i := 0) (j := 60) (as := [.inl (nI i)]) (rest := []) dX11_crash_2 lkX11_isNode ml_X11_434 imX11_isNode seX11_isNode rfl rfl (hG.m0 (by decide)) rfl (Nat.le_of_ble_eq_true rfl) rfl (c_MisNodeY hG hi (by simp [am_up, am_upf, upd, hI, am_fr, am_dk, hi])) ?_
  refine am_if_eq (tgt := 22) dX11_crash_5 (by decide) (fun h => absurd h (by decide)) (fun _ => ?_)
  refine am_iload_n dX11_crash_8 rfl ?_
  refine am_iconst (v := nI 0) dX11_crash_9 (by decide) ?_
  refine am_bipush (v := nI 15) dX11_crash_10 (by decide) ?_
  refine am_callSx (as := [.inl w, .inl (nI 0), .inl (nI 15)]) (rest := []) dX11_crash_12 lkX11_in ml_X11_243 isX11_in rfl (Nat.le_of_ble_eq_true rfl) rfl (c_Min hG.nd w (nI 0) (nI 15) I) ?_
  refine am_top (show am_b (decide ((nI 0).toInt ≤ w.toInt ∧ w.toInt ≤ (nI 15).toInt)) = nI 1 from Eq.trans (show am_b (decide ((nI 0).toInt ≤ w.toInt ∧ w.toInt ≤ (nI 15).toInt)) = am_b (decide (0 ≤ w.toInt ∧ w.toInt ≤ 15)) from by rw [nI_toInt (n := 0) (by omega), nI_toInt (n := 15) (by omega)]; rfl) (am_bT _ (by omega))) ?_
  refine am_if_eq (tgt := 22) dX11_crash_15 (by decide) (fun h => absurd h (by decide)) (fun _ => ?_)
  refine am_iconst (v := nI 1) dX11_crash_18 (by decide) ?_
  refine am_goto (tgt := 23) dX11_crash_19 (by decide) ?_
  refine am_istore_n dX11_crash_23 (by decide) ?_
  refine am_aload_n dX11_crash_24 rfl ?_
  refine am_iload_n dX11_crash_25 rfl ?_
  refine am_if_ne (tgt := 33) dX11_crash_26 (by decide) (fun _ => ?_) (fun h => absurd h (by decide))
  refine am_iconst (v := nI 0) dX11_crash_33 (by decide) ?_
  refine am_iload_n dX11_crash_34 rfl ?_
  refine am_if_eq (tgt := 51) dX11_crash_35 (by decide) (fun h => absurd h (by decide)) (fun _ => ?_)
  refine am_aload_n dX11_crash_38 rfl ?_
  refine am_get (v := .inr (0, 65)) dX11_crash_39 fl_11_13 (hG.m0 (by decide)) rfl ?_
  refine am_iload_n dX11_crash_42 rfl ?_
  refine am_zald (a := i) dX11_crash_43 (hG.m0 (by decide)) rfl rfl (show i < 4 from (by omega)) (show 4 < 2 ^ 31 by decide) ?_
  refine am_top (show I 0 65 i = nI 1 from (by simp [am_up, am_upf, upd, hI, am_fr, am_dk, hi])) ?_
  refine am_if_ne (tgt := 51) dX11_crash_44 (by decide) (fun _ => ?_) (fun h => absurd h (by decide))
  refine am_iconst (v := nI 0) dX11_crash_51 (by decide) ?_
  refine am_iconst (v := nI 0) dX11_crash_52 (by decide) ?_
  refine am_callVx (i := 0) (j := 60) (as := [.inl (nI 0), .inl (nI 0), .inl (nI 0)]) (rest := []) dX11_crash_53 lkX11_refuse ml_X11_441 imX11_refuse seX11_refuse rfl rfl (hG.m0 (by decide)) rfl (Nat.le_of_ble_eq_true rfl) rfl (c_refuse000 hG I) ?_
  refine am_if_eq (tgt := 60) dX11_crash_56 (by decide) (fun _ => ?_) (fun h => absurd h (by decide))
  refine am_aload_n dX11_crash_60 rfl ?_
  refine am_get (v := .inr (0, 72)) dX11_crash_61 fl_11_36 (hG.m0 (by decide)) rfl ?_
  refine am_iload_n dX11_crash_64 rfl ?_
  refine am_iald (a := i) dX11_crash_65 (hG.m0 (by decide)) rfl rfl (show i < 4 from (by omega)) (show 4 < 2 ^ 31 by decide) ?_
  refine am_top (show (am_up I 0 60 0 (nI 0)) 0 72 i = nI 0 from (by simp [am_up, am_upf, upd, hI, am_fr, am_dk, hi])) ?_
  refine am_if_le (tgt := 117) dX11_crash_66 (by decide) (fun _ => ?_) (fun h => absurd h (by decide))
  refine am_aload_n dX11_crash_117 rfl ?_
  refine am_iload_n dX11_crash_118 rfl ?_
  refine am_callVe (i := 0) (j := 60) (as := [.inl (nI i)]) (rest := []) dX11_crash_119 lkX11_noteGone ml_X11_469 imX11_noteGone seX11_noteGone rfl rfl (hG.m0 (by decide)) rfl (Nat.le_of_ble_eq_true rfl) rfl (c_MnoteGone0 hG (nI i) (am_up I 0 60 0 (nI 0)) (by simp [am_up, am_upf, upd, hI, am_fr, am_dk, hi])) ?_
  refine am_aload_n dX11_crash_122 rfl ?_
  refine am_get (v := .inr (0, 71)) dX11_crash_123 fl_11_33 (hG.m0 (by decide)) rfl ?_
  refine am_iload_n dX11_crash_126 rfl ?_
  refine am_iconst (v := nI 0) dX11_crash_127 (by decide) ?_
  refine am_iast (a := i) dX11_crash_128 (hG.m0 (by decide)) rfl rfl (show i < 4 from (by omega)) (show 4 < 2 ^ 31 by decide) ?_
  refine am_aload_n dX11_crash_129 rfl ?_
  refine am_get (v := .inr (0, 65)) dX11_crash_130 fl_11_13 (hG.m0 (by decide)) rfl ?_
  refine am_iload_n dX11_crash_133 rfl ?_
  refine am_iconst (v := nI 0) dX11_crash_134 (by decide) ?_
  refine am_zast (a := i) dX11_crash_135 (hG.m0 (by decide)) rfl (by decide) rfl (show i < 4 from (by omega)) (show 4 < 2 ^ 31 by decide) ?_
  refine am_aload_n dX11_crash_136 rfl ?_
  refine am_iload_n dX11_crash_137 rfl ?_
  refine am_callVx (i := 0) (j := 60) (as := [.inl (nI i)]) (rest := []) dX11_crash_138 lkX11_isCalling ml_X11_264 imX11_isCalling seX11_isCalling rfl rfl (hG.m0 (by decide)) rfl (Nat.le_of_ble_eq_true rfl) rfl (c_MisCalling0 hG hi (am_up (am_up (am_up I 0 60 0 (nI 0)) 0 71 i (nI 0)) 0 65 i (nI 0)) (by simp [am_up, am_upf, upd, hI, am_fr, am_dk, hi])) ?_
  refine am_if_eq (tgt := 185) dX11_crash_141 (by decide) (fun _ => ?_) (fun h => absurd h (by decide))
  refine am_aload_n dX11_crash_185 rfl ?_
  refine am_iload_n dX11_crash_186 rfl ?_
  refine am_callVv (i := 0) (j := 60) (as := [.inl (nI i)]) (rest := []) dX11_crash_187 lkX11_noneOf ml_X11_475 imX11_noneOf seX11_noneOf rfl rfl (hG.m0 (by decide)) rfl (Nat.le_of_ble_eq_true rfl) rfl (c_MnoneOf (I := am_up (am_up (am_up I 0 60 0 (nI 0)) 0 71 i (nI 0)) 0 65 i (nI 0)) hG hi) rfl (fun J1 hq => ?_)
  skip
  refine am_iconst (v := nI 0) dX11_crash_190 (by decide) ?_
  refine am_istore dX11_crash_191 (by decide) ?_
  exact K 136 0 _ (by omega) (fun x hx => by rw [hq.2.1]; simp [am_up, am_upf, upd, hI, am_fr, hx]) (by rw [hq.2.2]; simp [am_up, am_upf, upd, hI, am_fr]) (by rw [hq.2.2]; simp [am_up, am_upf, upd, hI, am_fr]) (by rw [hq.2.2]; simp [am_up, am_upf, upd, hI, am_fr])
theorem m_crashA {G : am_G} (hG : am_okM G) {d : Nat} (x : Int32) (hx : ¬ (0 ≤ x.toInt ∧ x.toInt < (G.2.2.2.1 : Int))) (w : Int32) {I : am_I} (hI : I = am_fr G.2.2.2.1)  : am_C G (d + 3) mX11_crash [.inr (0, 60), .inl x, .inl w] I (fun rr J => rr = none ∧ J 0 60 0 = nI 1) := by
  have hn4 := hG.hi
  have hn2 := hG.lo
  refine am_of (by decide +kernel) hG.nd (Nat.le_of_ble_eq_true rfl) ?_
  refine am_aload_n dX11_crash_0 rfl ?_
  refine am_iload_n dX11_crash_1 rfl ?_
  refine am_callVx (i := 0) (j := 60) (as := [.inl x]) (rest := []) dX11_crash_2 lkX11_isNode ml_X11_434 imX11_isNode seX11_isNode rfl rfl (hG.m0 (by decide)) rfl (Nat.le_of_ble_eq_true rfl) rfl (c_MisNodeN hG hx (by simp [am_up, am_upf, upd, hI, am_fr, am_dk])) ?_
  refine am_if_eq (tgt := 22) dX11_crash_5 (by decide) (fun _ => ?_) (fun h => absurd h (by decide))
  refine am_iconst (v := nI 0) dX11_crash_22 (by decide) ?_
  refine am_istore_n dX11_crash_23 (by decide) ?_
  refine am_aload_n dX11_crash_24 rfl ?_
  refine am_iload_n dX11_crash_25 rfl ?_
  refine am_if_ne (tgt := 33) dX11_crash_26 (by decide) (fun h => absurd h (by decide)) (fun _ => ?_)
  refine am_iconst (v := nI 1) dX11_crash_29 (by decide) ?_
  refine am_goto (tgt := 34) dX11_crash_30 (by decide) ?_
  refine am_iload_n dX11_crash_34 rfl ?_
  refine am_if_eq (tgt := 51) dX11_crash_35 (by decide) (fun _ => ?_) (fun h => absurd h (by decide))
  refine am_iconst (v := nI 0) dX11_crash_51 (by decide) ?_
  refine am_iconst (v := nI 0) dX11_crash_52 (by decide) ?_
  refine am_callVx (i := 0) (j := 60) (as := [.inl (nI 1), .inl (nI 0), .inl (nI 0)]) (rest := []) dX11_crash_53 lkX11_refuse ml_X11_441 imX11_refuse seX11_refuse rfl rfl (hG.m0 (by decide)) rfl (Nat.le_of_ble_eq_true rfl) rfl (c_refuse100 hG I) ?_
  refine am_if_eq (tgt := 60) dX11_crash_56 (by decide) (fun h => absurd h (by decide)) (fun _ => ?_)
  refine am_vret dX11_crash_59 rfl ?_
  exact ⟨rfl, (by simp [am_up, am_upf, upd, hI, am_fr, am_dk])⟩
theorem m_crashB {G : am_G} (hG : am_okM G) {d : Nat} {i : Nat} (hi : i < G.2.2.2.1) (w : Int32) (hw : w.toInt < 0 ∨ 15 < w.toInt) {I : am_I} (hI : I = am_fr G.2.2.2.1)  : am_C G (d + 3) mX11_crash [.inr (0, 60), .inl (nI i), .inl w] I (fun rr J => rr = none ∧ J 0 60 0 = nI 1) := by
  have hn4 := hG.hi
  have hn2 := hG.lo
  refine am_of (by decide +kernel) hG.nd (Nat.le_of_ble_eq_true rfl) ?_
  refine am_aload_n dX11_crash_0 rfl ?_
  refine am_iload_n dX11_crash_1 rfl ?_
  refine am_callVx (i := 0) (j := 60) (as := [.inl (nI i)]) (rest := []) dX11_crash_2 lkX11_isNode ml_X11_434 imX11_isNode seX11_isNode rfl rfl (hG.m0 (by decide)) rfl (Nat.le_of_ble_eq_true rfl) rfl (c_MisNodeY hG hi (by simp [am_up, am_upf, upd, hI, am_fr, am_dk, hi])) ?_
  refine am_if_eq (tgt := 22) dX11_crash_5 (by decide) (fun h => absurd h (by decide)) (fun _ => ?_)
  refine am_iload_n dX11_crash_8 rfl ?_
  refine am_iconst (v := nI 0) dX11_crash_9 (by decide) ?_
  refine am_bipush (v := nI 15) dX11_crash_10 (by decide) ?_
  refine am_callSx (as := [.inl w, .inl (nI 0), .inl (nI 15)]) (rest := []) dX11_crash_12 lkX11_in ml_X11_243 isX11_in rfl (Nat.le_of_ble_eq_true rfl) rfl (c_Min hG.nd w (nI 0) (nI 15) I) ?_
  refine am_top (show am_b (decide ((nI 0).toInt ≤ w.toInt ∧ w.toInt ≤ (nI 15).toInt)) = nI 0 from Eq.trans (show am_b (decide ((nI 0).toInt ≤ w.toInt ∧ w.toInt ≤ (nI 15).toInt)) = am_b (decide (0 ≤ w.toInt ∧ w.toInt ≤ 15)) from by rw [nI_toInt (n := 0) (by omega), nI_toInt (n := 15) (by omega)]; rfl) (am_bF _ (by omega))) ?_
  refine am_if_eq (tgt := 22) dX11_crash_15 (by decide) (fun _ => ?_) (fun h => absurd h (by decide))
  refine am_iconst (v := nI 0) dX11_crash_22 (by decide) ?_
  refine am_istore_n dX11_crash_23 (by decide) ?_
  refine am_aload_n dX11_crash_24 rfl ?_
  refine am_iload_n dX11_crash_25 rfl ?_
  refine am_if_ne (tgt := 33) dX11_crash_26 (by decide) (fun h => absurd h (by decide)) (fun _ => ?_)
  refine am_iconst (v := nI 1) dX11_crash_29 (by decide) ?_
  refine am_goto (tgt := 34) dX11_crash_30 (by decide) ?_
  refine am_iload_n dX11_crash_34 rfl ?_
  refine am_if_eq (tgt := 51) dX11_crash_35 (by decide) (fun _ => ?_) (fun h => absurd h (by decide))
  refine am_iconst (v := nI 0) dX11_crash_51 (by decide) ?_
  refine am_iconst (v := nI 0) dX11_crash_52 (by decide) ?_
  refine am_callVx (i := 0) (j := 60) (as := [.inl (nI 1), .inl (nI 0), .inl (nI 0)]) (rest := []) dX11_crash_53 lkX11_refuse ml_X11_441 imX11_refuse seX11_refuse rfl rfl (hG.m0 (by decide)) rfl (Nat.le_of_ble_eq_true rfl) rfl (c_refuse100 hG I) ?_
  refine am_if_eq (tgt := 60) dX11_crash_56 (by decide) (fun h => absurd h (by decide)) (fun _ => ?_)
  refine am_vret dX11_crash_59 rfl ?_
  exact ⟨rfl, (by simp [am_up, am_upf, upd, hI, am_fr, am_dk, hi])⟩
