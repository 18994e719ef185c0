theorem m_delay {G : am_G} (hG : am_okM G) {d : Nat} {i : Nat} (hi : i < G.2.2.2.1) {u : Nat} (hu : u < G.2.2.2.1) (t : Int32) (ht : 1 ≤ t.toInt ∧ t.toInt ≤ 20) {I : am_I} (hI : I = am_fr G.2.2.2.1)  : am_C G (d + 3) mX11_delay [.inr (0, 60), .inl (nI i), .inl (nI u), .inl t] I (fun rr J => rr = none ∧ J 0 60 0 = nI 0) := by
  have hn4 := hG.hi
  have hn2 := hG.lo
  refine am_of (by decide +kernel) hG.nd (Nat.le_of_ble_eq_true rfl) ?_
  refine am_aload_n dX11_delay_0 rfl ?_
  refine am_aload_n dX11_delay_1 rfl ?_
  refine am_iload_n dX11_delay_2 rfl ?_
  refine am_callVx (i := 0) (j := 60) (as := [.inl (nI i)]) (rest := [.inr (0, 60)]) dX11_delay_3 lkX11_isNode ml_X11_434 imX11_isNode seX11_isNode rfl rfl (hG.m0 (by decide)) rfl (Nat.le_of_ble_eq_true rfl) rfl (c_MisNodeY hG hi (by simp [am_up, am_upf, upd, hI, am_fr, am_dk, hi])) ?_
  refine am_if_eq (tgt := 27) dX11_delay_6 (by decide) (fun h => absurd h (by decide)) (fun _ => ?_)
  refine am_aload_n dX11_delay_9 rfl ?_
  refine am_iload_n dX11_delay_10 rfl ?_
  refine am_callVx (i := 0) (j := 60) (as := [.inl (nI u)]) (rest := [.inr (0, 60)]) dX11_delay_11 lkX11_isNode ml_X11_434 imX11_isNode seX11_isNode rfl rfl (hG.m0 (by decide)) rfl (Nat.le_of_ble_eq_true rfl) rfl (c_MisNodeY hG hu (by simp [am_up, am_upf, upd, hI, am_fr, am_dk, hi])) ?_
  refine am_if_eq (tgt := 27) dX11_delay_14 (by decide) (fun h => absurd h (by decide)) (fun _ => ?_)
  refine am_iload_n dX11_delay_17 rfl ?_
  refine am_iconst (v := nI 1) dX11_delay_18 (by decide) ?_
  refine am_bipush (v := nI 20) dX11_delay_19 (by decide) ?_
  refine am_callSx (as := [.inl t, .inl (nI 1), .inl (nI 20)]) (rest := [.inr (0, 60)]) dX11_delay_21 lkX11_in ml_X11_243 isX11_in rfl (Nat.le_of_ble_eq_true rfl) rfl (c_Min hG.nd t (nI 1) (nI 20) I) ?_
  refine am_top (show am_b (decide ((nI 1).toInt ≤ t.toInt ∧ t.toInt ≤ (nI 20).toInt)) = nI 1 from Eq.trans (show am_b (decide ((nI 1).toInt ≤ t.toInt ∧ t.toInt ≤ (nI 20).toInt)) = am_b (decide (1 ≤ t.toInt ∧ t.toInt ≤ 20)) from by rw [nI_toInt (n := 1) (by omega), nI_toInt (n := 20) (by omega)]; rfl) (am_bT _ (by omega))) ?_
  refine am_if_ne (tgt := 31) dX11_delay_24 (by decide) (fun _ => ?_) (fun h => absurd h (by decide))
  refine am_iconst (v := nI 0) dX11_delay_31 (by decide) ?_
  refine am_iconst (v := nI 0) dX11_delay_32 (by decide) ?_
  refine am_iconst (v := nI 0) dX11_delay_33 (by decide) ?_
  refine am_callVx (i := 0) (j := 60) (as := [.inl (nI 0), .inl (nI 0), .inl (nI 0)]) (rest := []) dX11_delay_34 lkX11_refuse ml_X11_441 imX11_refuse seX11_refuse rfl rfl (hG.m0 (by decide)) rfl (Nat.le_of_ble_eq_true rfl) rfl (c_refuse000 hG I) ?_
  refine am_if_ne (tgt := 51) dX11_delay_37 (by decide) (fun h => absurd h (by decide)) (fun _ => ?_)
  refine am_aload_n dX11_delay_40 rfl ?_
  refine am_get (v := .inr (0, 107)) dX11_delay_41 fl_11_135 (hG.m0 (by decide)) rfl ?_
  refine am_iconst (v := nI 4) dX11_delay_44 (by decide) ?_
  refine am_iload_n dX11_delay_45 rfl ?_
  refine am_imul dX11_delay_46 ?_
  refine am_top (pk_mul _ _) ?_
  refine am_iload_n dX11_delay_47 rfl ?_
  refine am_iadd dX11_delay_48 ?_
  refine am_top (nI_add _ _) ?_
  refine am_iload_n dX11_delay_49 rfl ?_
  refine am_iast (a := 4 * i + u) dX11_delay_50 (hG.m0 (by decide)) rfl rfl (show 4 * i + u < 16 from (by omega)) (show 16 < 2 ^ 31 by decide) ?_
  refine am_vret dX11_delay_51 rfl ?_
  exact ⟨rfl, (by simp [am_up, am_upf, upd, hI, am_fr, am_dk, hi])⟩
theorem m_delayA {G : am_G} (hG : am_okM G) {d : Nat} (x : Int32) (hx : ¬ (0 ≤ x.toInt ∧ x.toInt < (G.2.2.2.1 : Int))) (y t : Int32) {I : am_I} (hI : I = am_fr G.2.2.2.1)  : am_C G (d + 3) mX11_delay [.inr (0, 60), .inl x, .inl y, .inl t] I (fun rr J => rr = none ∧ J 0 60 0 = nI 1) := by
  have hn4 := hG.hi
  have hn2 := hG.lo
  refine am_of (by decide +kernel) hG.nd (Nat.le_of_ble_eq_true rfl) ?_
  refine am_aload_n dX11_delay_0 rfl ?_
  refine am_aload_n dX11_delay_1 rfl ?_
  refine am_iload_n dX11_delay_2 rfl ?_
  refine am_callVx (i := 0) (j := 60) (as := [.inl x]) (rest := [.inr (0, 60)]) dX11_delay_3 lkX11_isNode ml_X11_434 imX11_isNode seX11_isNode rfl rfl (hG.m0 (by decide)) rfl (Nat.le_of_ble_eq_true rfl) rfl (c_MisNodeN hG hx (by simp [am_up, am_upf, upd, hI, am_fr, am_dk])) ?_
  refine am_if_eq (tgt := 27) dX11_delay_6 (by decide) (fun _ => ?_) (fun h => absurd h (by decide))
  refine am_iconst (v := nI 1) dX11_delay_27 (by decide) ?_
  refine am_goto (tgt := 32) dX11_delay_28 (by decide) ?_
  refine am_iconst (v := nI 0) dX11_delay_32 (by decide) ?_
  refine am_iconst (v := nI 0) dX11_delay_33 (by decide) ?_
  refine am_callVx (i := 0) (j := 60) (as := [.inl (nI 1), .inl (nI 0), .inl (nI 0)]) (rest := []) dX11_delay_34 lkX11_refuse ml_X11_441 imX11_refuse seX11_refuse rfl rfl (hG.m0 (by decide)) rfl (Nat.le_of_ble_eq_true rfl) rfl (c_refuse100 hG I) ?_
  refine am_if_ne (tgt := 51) dX11_delay_37 (by decide) (fun _ => ?_) (fun h => absurd h (by decide))
  refine am_vret dX11_delay_51 rfl ?_
  exact ⟨rfl, (by simp [am_up, am_upf, upd, hI, am_fr, am_dk])⟩
theorem m_delayB {G : am_G} (hG : am_okM G) {d : Nat} {i : Nat} (hi : i < G.2.2.2.1) (x : Int32) (hx : ¬ (0 ≤ x.toInt ∧ x.toInt < (G.2.2.2.1 : Int))) (t : Int32) {I : am_I} (hI : I = am_fr G.2.2.2.1)  : am_C G (d + 3) mX11_delay [.inr (0, 60), .inl (nI i), .inl x, .inl t] I (fun rr J => rr = none ∧ J 0 60 0 = nI 1) := by
  have hn4 := hG.hi
  have hn2 := hG.lo
  refine am_of (by decide +kernel) hG.nd (Nat.le_of_ble_eq_true rfl) ?_
  refine am_aload_n dX11_delay_0 rfl ?_
  refine am_aload_n dX11_delay_1 rfl ?_
  refine am_iload_n dX11_delay_2 rfl ?_
  refine am_callVx (i := 0) (j := 60) (as := [.inl (nI i)]) (rest := [.inr (0, 60)]) dX11_delay_3 lkX11_isNode ml_X11_434 imX11_isNode seX11_isNode rfl rfl (hG.m0 (by decide)) rfl (Nat.le_of_ble_eq_true rfl) rfl (c_MisNodeY hG hi (by simp [am_up, am_upf, upd, hI, am_fr, am_dk, hi])) ?_
  refine am_if_eq (tgt := 27) dX11_delay_6 (by decide) (fun h => absurd h (by decide)) (fun _ => ?_)
  refine am_aload_n dX11_delay_9 rfl ?_
  refine am_iload_n dX11_delay_10 rfl ?_
  refine am_callVx (i := 0) (j := 60) (as := [.inl x]) (rest := [.inr (0, 60)]) dX11_delay_11 lkX11_isNode ml_X11_434 imX11_isNode seX11_isNode rfl rfl (hG.m0 (by decide)) rfl (Nat.le_of_ble_eq_true rfl) rfl (c_MisNodeN hG hx (by simp [am_up, am_upf, upd, hI, am_fr, am_dk, hi])) ?_
  refine am_if_eq (tgt := 27) dX11_delay_14 (by decide) (fun _ => ?_) (fun h => absurd h (by decide))
  refine am_iconst (v := nI 1) dX11_delay_27 (by decide) ?_
  refine am_goto (tgt := 32) dX11_delay_28 (by decide) ?_
  refine am_iconst (v := nI 0) dX11_delay_32 (by decide) ?_
  refine am_iconst (v := nI 0) dX11_delay_33 (by decide) ?_
  refine am_callVx (i := 0) (j := 60) (as := [.inl (nI 1), .inl (nI 0), .inl (nI 0)]) (rest := []) dX11_delay_34 lkX11_refuse ml_X11_441 imX11_refuse seX11_refuse rfl rfl (hG.m0 (by decide)) rfl (Nat.le_of_ble_eq_true rfl) rfl (c_refuse100 hG I) ?_
  refine am_if_ne (tgt := 51) dX11_delay_37 (by decide) (fun _ => ?_) (fun h => absurd h (by decide))
  refine am_vret dX11_delay_51 rfl ?_
  exact ⟨rfl, (by simp [am_up, am_upf, upd, hI, am_fr, am_dk, hi])⟩
theorem m_delayC {G : am_G} (hG : am_okM G) {d : Nat} {i : Nat} (hi : i < G.2.2.2.1) {u : Nat} (hu : u < G.2.2.2.1) (t : Int32) (ht : ¬ (1 ≤ t.toInt ∧ t.toInt ≤ 20)) {I : am_I} (hI : I = am_fr G.2.2.2.1)  : am_C G (d + 3) mX11_delay [.inr (0, 60), .inl (nI i), .inl (nI u), .inl t] I (fun rr J => rr = none ∧ J 0 60 0 = nI 1) := by
  have hn4 := hG.hi
  have hn2 := hG.lo
  refine am_of (by decide +kernel) hG.nd (Nat.le_of_ble_eq_true rfl) ?_
  refine am_aload_n dX11_delay_0 rfl ?_
  refine am_aload_n dX11_delay_1 rfl ?_
  refine am_iload_n dX11_delay_2 rfl ?_
  refine am_callVx (i := 0) (j := 60) (as := [.inl (nI i)]) (rest := [.inr (0, 60)]) dX11_delay_3 lkX11_isNode ml_X11_434 imX11_isNode seX11_isNode rfl rfl (hG.m0 (by decide)) rfl (Nat.le_of_ble_eq_true rfl) rfl (c_MisNodeY hG hi (by simp [am_up, am_upf, upd, hI, am_fr, am_dk, hi])) ?_
  refine am_if_eq (tgt := 27) dX11_delay_6 (by decide) (fun h => absurd h (by decide)) (fun _ => ?_)
  refine am_aload_n dX11_delay_9 rfl ?_
  refine am_iload_n dX11_delay_10 rfl ?_
  refine am_callVx (i := 0) (j := 60) (as := [.inl (nI u)]) (rest := [.inr (0, 60)]) dX11_delay_11 lkX11_isNode ml_X11_434 imX11_isNode seX11_isNode rfl rfl (hG.m0 (by decide)) rfl (Nat.le_of_ble_eq_true rfl) rfl (c_MisNodeY hG hu (by simp [am_up, am_upf, upd, hI, am_fr, am_dk, hi])) ?_
  refine am_if_eq (tgt := 27) dX11_delay_14 (by decide) (fun h => absurd h (by decide)) (fun _ => ?_)
  refine am_iload_n dX11_delay_17 rfl ?_
  refine am_iconst (v := nI 1) dX11_delay_18 (by decide) ?_
  refine am_bipush (v := nI 20) dX11_delay_19 (by decide) ?_
  refine am_callSx (as := [.inl t, .inl (nI 1), .inl (nI 20)]) (rest := [.inr (0, 60)]) dX11_delay_21 lkX11_in ml_X11_243 isX11_in rfl (Nat.le_of_ble_eq_true rfl) rfl (c_Min hG.nd t (nI 1) (nI 20) I) ?_
  refine am_top (show am_b (decide ((nI 1).toInt ≤ t.toInt ∧ t.toInt ≤ (nI 20).toInt)) = nI 0 from Eq.trans (show am_b (decide ((nI 1).toInt ≤ t.toInt ∧ t.toInt ≤ (nI 20).toInt)) = am_b (decide (1 ≤ t.toInt ∧ t.toInt ≤ 20)) from by rw [nI_toInt (n := 1) (by omega), nI_toInt (n := 20) (by omega)]; rfl) (am_bF _ (by omega))) ?_
  refine am_if_ne (tgt := 31) dX11_delay_24 (by decide) (fun h => absurd h (by decide)) (fun _ => ?_)
  refine am_iconst (v := nI 1) dX11_delay_27 (by decide) ?_
  refine am_goto (tgt := 32) dX11_delay_28 (by decide) ?_
  refine am_iconst (v := nI 0) dX11_delay_32 (by decide) ?_
  refine am_iconst (v := nI 0) dX11_delay_33 (by decide) ?_
  refine am_callVx (i := 0) (j := 60) (as := [.inl (nI 1), .inl (nI 0), .inl (nI 0)]) (rest := []) dX11_delay_34 lkX11_refuse ml_X11_441 imX11_refuse seX11_refuse rfl rfl (hG.m0 (by decide)) rfl (Nat.le_of_ble_eq_true rfl) rfl (c_refuse100 hG I) ?_
  refine am_if_ne (tgt := 51) dX11_delay_37 (by decide) (fun _ => ?_) (fun h => absurd h (by decide))
  refine am_vret dX11_delay_51 rfl ?_
  exact ⟨rfl, (by simp [am_up, am_upf, upd, hI, am_fr, am_dk, hi])⟩
theorem c_MisDead0 {G : am_G} (hG : am_okM G) {d : Nat} {i : Nat} (hi : i < G.2.2.2.1) (I : am_I)  (hup : I 0 65 i = nI 1) : am_C G d mX11_isDead [.inr (0, 60), .inl (nI i)] I (am_E (some (nI 0)) (I)) := by
  have hn4 := hG.hi
  have hn2 := hG.lo
  refine am_of (by decide +kernel) hG.nd (Nat.le_of_ble_eq_true rfl) ?_
  refine am_aload_n dX11_isDead_0 rfl ?_
  refine am_get (v := .inr (0, 65)) dX11_isDead_1 fl_11_13 (hG.m0 (by decide)) rfl ?_
  refine am_iload_n dX11_isDead_4 rfl ?_
  refine am_zald (a := i) dX11_isDead_5 (hG.m0 (by decide)) rfl rfl (show i < 4 from (by omega)) (show 4 < 2 ^ 31 by decide) ?_
  refine am_top (show I 0 65 i = nI 1 from (by simp [am_up, am_upf, upd, hup])) ?_
  refine am_if_ne (tgt := 22) dX11_isDead_6 (by decide) (fun _ => ?_) (fun h => absurd h (by decide))
  refine am_iconst (v := nI 0) dX11_isDead_22 (by decide) ?_
  refine am_iret dX11_isDead_23 rfl (am_nz (by decide)).1 ?_
  exact ⟨rfl, rfl⟩
theorem m_recoverA {G : am_G} (hG : am_okM G) {d : Nat} (x : Int32) (hx : ¬ (0 ≤ x.toInt ∧ x.toInt < (G.2.2.2.1 : Int)))  {I : am_I} (hI : I = am_fr G.2.2.2.1)  : am_C G (d + 3) mX11_recover [.inr (0, 60), .inl x] I (fun rr J => rr = some (nI 0) ∧ J 0 60 0 = nI 1) := by
  have hn4 := hG.hi
  have hn2 := hG.lo
  refine am_of (by decide +kernel) hG.nd (Nat.le_of_ble_eq_true rfl) ?_
  refine am_aload_n dX11_recover_0 rfl ?_
  refine am_iload_n dX11_recover_1 rfl ?_
  refine am_callVx (i := 0) (j := 60) (as := [.inl x]) (rest := []) dX11_recover_2 lkX11_isNode ml_X11_434 imX11_isNode seX11_isNode rfl rfl (hG.m0 (by decide)) rfl (Nat.le_of_ble_eq_true rfl) rfl (c_MisNodeN hG hx (by simp [am_up, am_upf, upd, hI, am_fr, am_dk])) ?_
  refine am_istore_n dX11_recover_5 (by decide) ?_
  refine am_aload_n dX11_recover_6 rfl ?_
  refine am_iload_n dX11_recover_7 rfl ?_
  refine am_if_ne (tgt := 15) dX11_recover_8 (by decide) (fun h => absurd h (by decide)) (fun _ => ?_)
  refine am_iconst (v := nI 1) dX11_recover_11 (by decide) ?_
  refine am_goto (tgt := 16) dX11_recover_12 (by decide) ?_
  refine am_iload_n dX11_recover_16 rfl ?_
  refine am_if_eq (tgt := 32) dX11_recover_17 (by decide) (fun _ => ?_) (fun h => absurd h (by decide))
  refine am_iconst (v := nI 0) dX11_recover_32 (by decide) ?_
  refine am_iconst (v := nI 0) dX11_recover_33 (by decide) ?_
  refine am_callVx (i := 0) (j := 60) (as := [.inl (nI 1), .inl (nI 0), .inl (nI 0)]) (rest := []) dX11_recover_34 lkX11_refuse ml_X11_441 imX11_refuse seX11_refuse rfl rfl (hG.m0 (by decide)) rfl (Nat.le_of_ble_eq_true rfl) rfl (c_refuse100 hG I) ?_
  refine am_if_eq (tgt := 42) dX11_recover_37 (by decide) (fun h => absurd h (by decide)) (fun _ => ?_)
  refine am_iconst (v := nI 0) dX11_recover_40 (by decide) ?_
  refine am_iret dX11_recover_41 rfl rfl ?_
  exact ⟨rfl, (by simp [am_up, am_upf, upd, hI, am_fr, am_dk])⟩
theorem m_recoverB {G : am_G} (hG : am_okM G) {d : Nat} {i : Nat} (hi : i < G.2.2.2.1)  {I : am_I} (hI : I = am_fr G.2.2.2.1)  : am_C G (d + 3) mX11_recover [.inr (0, 60), .inl (nI i)] I (fun rr J => rr = some (nI 0) ∧ J 0 60 0 = nI 2) := by
  have hn4 := hG.hi
  have hn2 := hG.lo
  refine am_of (by decide +kernel) hG.nd (Nat.le_of_ble_eq_true rfl) ?_
  refine am_aload_n dX11_recover_0 rfl ?_
  refine am_iload_n dX11_recover_1 rfl ?_
  refine am_callVx (i := 0) (j := 60) (as := [.inl (nI i)]) (rest := []) dX11_recover_2 lkX11_isNode ml_X11_434 imX11_isNode seX11_isNode rfl rfl (hG.m0 (by decide)) rfl (Nat.le_of_ble_eq_true rfl) rfl (c_MisNodeY hG hi (by simp [am_up, am_upf, upd, hI, am_fr, am_dk, hi])) ?_
  refine am_istore_n dX11_recover_5 (by decide) ?_
  refine am_aload_n dX11_recover_6 rfl ?_
  refine am_iload_n dX11_recover_7 rfl ?_
  refine am_if_ne (tgt := 15) dX11_recover_8 (by decide) (fun _ => ?_) (fun h => absurd h (by decide))
  refine am_iconst (v := nI 0) dX11_recover_15 (by decide) ?_
  refine am_iload_n dX11_recover_16 rfl ?_
  refine am_if_eq (tgt := 32) dX11_recover_17 (by decide) (fun h => absurd h (by decide)) (fun _ => ?_)
  refine am_aload_n dX11_recover_20 rfl ?_
  refine am_iload_n dX11_recover_21 rfl ?_
  refine am_callVx (i := 0) (j := 60) (as := [.inl (nI i)]) (rest := [.inl (nI 0), .inr (0, 60)]) dX11_recover_22 lkX11_isDead ml_X11_484 imX11_isDead seX11_isDead rfl rfl (hG.m0 (by decide)) rfl (Nat.le_of_ble_eq_true rfl) rfl (c_MisDead0 hG hi I (by simp [hI, am_fr, show i < G.2.2.2.1 by omega])) ?_
  refine am_if_ne (tgt := 32) dX11_recover_25 (by decide) (fun h => absurd h (by decide)) (fun _ => ?_)
  refine am_iconst (v := nI 1) dX11_recover_28 (by decide) ?_
  refine am_goto (tgt := 33) dX11_recover_29 (by decide) ?_
  refine am_iconst (v := nI 0) dX11_recover_33 (by decide) ?_
  refine am_callVx (i := 0) (j := 60) (as := [.inl (nI 0), .inl (nI 1), .inl (nI 0)]) (rest := []) dX11_recover_34 lkX11_refuse ml_X11_441 imX11_refuse seX11_refuse rfl rfl (hG.m0 (by decide)) rfl (Nat.le_of_ble_eq_true rfl) rfl (c_refuse010 hG I) ?_
  refine am_if_eq (tgt := 42) dX11_recover_37 (by decide) (fun h => absurd h (by decide)) (fun _ => ?_)
  refine am_iconst (v := nI 0) dX11_recover_40 (by decide) ?_
  refine am_iret dX11_recover_41 rfl rfl ?_
  exact ⟨rfl, (by simp [am_up, am_upf, upd, hI, am_fr, am_dk, hi])⟩
theorem m_startA {G : am_G} (hG : am_okM G) {d : Nat} (x : Int32) (hx : ¬ (0 ≤ x.toInt ∧ x.toInt < (G.2.2.2.1 : Int)))  {I : am_I} (hI : I = am_fr G.2.2.2.1)  : am_C G (d + 3) mX11_start [.inr (0, 60), .inl x] I (fun rr J => rr = none ∧ J 0 60 0 = nI 1) := by
  have hn4 := hG.hi
  have hn2 := hG.lo
  have K : ∀ m a : Nat, a + m = G.2.2.2.1 → am_J G (d + 3) mX11_start am_no (fun rr J => rr = none ∧ J 0 60 0 = nI 1) 11 [some (.inr (0, 60)), some (.inl x), some (.inl (nI 0)), some (.inl (nI 0)), some (.inl (nI a))] [] I := by
    intro m
    induction m with
    | zero =>
      intro a ha
      obtain rfl : a = G.2.2.2.1 := by omega
      refine am_iload dX11_start_11 rfl ?_
      refine am_aload_n dX11_start_13 rfl ?_
      refine am_get (v := .inl (I 0 60 1)) dX11_start_14 fl_11_177 (hG.m0 (by decide)) rfl ?_
      refine am_top (show I 0 60 1 = nI G.2.2.2.1 from (by simp [am_up, am_upf, upd, hI, am_fr, am_dk])) ?_
      refine am_icmp_ge (tgt := 45) dX11_start_17 (by decide) (fun _ => ?_) (fun h => absurd ((nI_leI (a := G.2.2.2.1) (b := G.2.2.2.1) (by omega) (by omega)).mpr (by omega)) h)
      refine am_aload_n dX11_start_45 rfl ?_
      refine am_iload_n dX11_start_46 rfl ?_
      refine am_if_ne (tgt := 54) dX11_start_47 (by decide) (fun h => absurd h (by decide)) (fun _ => ?_)
      refine am_iconst (v := nI 1) dX11_start_50 (by decide) ?_
      refine am_goto (tgt := 55) dX11_start_51 (by decide) ?_
      refine am_iload_n dX11_start_55 rfl ?_
      refine am_if_eq (tgt := 76) dX11_start_56 (by decide) (fun _ => ?_) (fun h => absurd h (by decide))
      refine am_iconst (v := nI 0) dX11_start_76 (by decide) ?_
      refine am_iconst (v := nI 0) dX11_start_77 (by decide) ?_
      refine am_callVx (i := 0) (j := 60) (as := [.inl (nI 1), .inl (nI 0), .inl (nI 0)]) (rest := []) dX11_start_78 lkX11_refuse ml_X11_441 imX11_refuse seX11_refuse rfl rfl (hG.m0 (by decide)) rfl (Nat.le_of_ble_eq_true rfl) rfl (c_refuse100 hG I) ?_
      refine am_if_eq (tgt := 85) dX11_start_81 (by decide) (fun h => absurd h (by decide)) (fun _ => ?_)
      refine am_vret dX11_start_84 rfl ?_
      exact ⟨rfl, (by simp [am_up, am_upf, upd, hI, am_fr, am_dk])⟩
    | succ m ih =>
      intro a ha
      refine am_iload dX11_start_11 rfl ?_
      refine am_aload_n dX11_start_13 rfl ?_
      refine am_get (v := .inl (I 0 60 1)) dX11_start_14 fl_11_177 (hG.m0 (by decide)) rfl ?_
      refine am_top (show I 0 60 1 = nI G.2.2.2.1 from (by simp [am_up, am_upf, upd, hI, am_fr, am_dk])) ?_
      refine am_icmp_ge (tgt := 45) dX11_start_17 (by decide) (fun h => absurd ((nI_leI (a := G.2.2.2.1) (b := a) (by omega) (by omega)).mp h) (by omega)) (fun _ => ?_)
      refine am_iload_n dX11_start_20 rfl ?_
      refine am_if_ne (tgt := 33) dX11_start_21 (by decide) (fun h => absurd h (by decide)) (fun _ => ?_)
      refine am_aload_n dX11_start_24 rfl ?_
      refine am_iload dX11_start_25 rfl ?_
      refine am_callVx (i := 0) (j := 60) (as := [.inl (nI a)]) (rest := []) dX11_start_27 lkX11_isDead ml_X11_484 imX11_isDead seX11_isDead rfl rfl (hG.m0 (by decide)) rfl (Nat.le_of_ble_eq_true rfl) rfl (c_MisDead0 hG (by omega) I (by simp [hI, am_fr, show a < G.2.2.2.1 by omega])) ?_
      refine am_if_eq (tgt := 37) dX11_start_30 (by decide) (fun _ => ?_) (fun h => absurd h (by decide))
      refine am_iconst (v := nI 0) dX11_start_37 (by decide) ?_
      refine am_istore_n dX11_start_38 (by decide) ?_
      refine am_iinc (v := nI (a + 1)) dX11_start_39 rfl (nI_add _ _) ?_
      refine am_goto (tgt := 11) dX11_start_42 (by decide) ?_
      exact ih (a + 1) (by omega)
  refine am_of (by decide +kernel) hG.nd (Nat.le_of_ble_eq_true rfl) ?_
  refine am_aload_n dX11_start_0 rfl ?_
  refine am_iload_n dX11_start_1 rfl ?_
  refine am_callVx (i := 0) (j := 60) (as := [.inl x]) (rest := []) dX11_start_2 lkX11_isNode ml_X11_434 imX11_isNode seX11_isNode rfl rfl (hG.m0 (by decide)) rfl (Nat.le_of_ble_eq_true rfl) rfl (c_MisNodeN hG hx (by simp [am_up, am_upf, upd, hI, am_fr, am_dk])) ?_
  refine am_istore_n dX11_start_5 (by decide) ?_
  refine am_iconst (v := nI 0) dX11_start_6 (by decide) ?_
  refine am_istore_n dX11_start_7 (by decide) ?_
  refine am_iconst (v := nI 0) dX11_start_8 (by decide) ?_
  refine am_istore dX11_start_9 (by decide) ?_
  exact K G.2.2.2.1 0 (by omega)
theorem m_startB {G : am_G} (hG : am_okM G) {d : Nat} {i : Nat} (hi : i < G.2.2.2.1)  {I : am_I} (hI : I = am_fr G.2.2.2.1)  : am_C G (d + 3) mX11_start [.inr (0, 60), .inl (nI i)] I (fun rr J => rr = none ∧ J 0 60 0 = nI 2) := by
  have hn4 := hG.hi
  have hn2 := hG.lo
  have K : ∀ m a : Nat, a + m = G.2.2.2.1 → am_J G (d + 3) mX11_start am_no (fun rr J => rr = none ∧ J 0 60 0 = nI 2) 11 [some (.inr (0, 60)), some (.inl (nI i)), some (.inl (nI 1)), some (.inl (nI 0)), some (.inl (nI a))] [] I := by
    intro m
    induction m with
    | zero =>
      intro a ha
      obtain rfl : a = G.2.2.2.1 := by omega
      refine am_iload dX11_start_11 rfl ?_
      refine am_aload_n dX11_start_13 rfl ?_
      refine am_get (v := .inl (I 0 60 1)) dX11_start_14 fl_11_177 (hG.m0 (by decide)) rfl ?_
      refine am_top (show I 0 60 1 = nI G.2.2.2.1 from (by simp [am_up, am_upf, upd, hI, am_fr, am_dk, hi])) ?_
      refine am_icmp_ge (tgt := 45) dX11_start_17 (by decide) (fun _ => ?_) (fun h => absurd ((nI_leI (a := G.2.2.2.1) (b := G.2.2.2.1) (by omega) (by omega)).mpr (by omega)) h)
      refine am_aload_n dX11_start_45 rfl ?_
      refine am_iload_n dX11_start_46 rfl ?_
      refine am_if_ne (tgt := 54) dX11_start_47 (by decide) (fun _ => ?_) (fun h => absurd h (by decide))
      refine am_iconst (v := nI 0) dX11_start_54 (by decide) ?_
      refine am_iload_n dX11_start_55 rfl ?_
      refine am_if_eq (tgt := 76) dX11_start_56 (by decide) (fun h => absurd h (by decide)) (fun _ => ?_)
      refine am_aload_n dX11_start_59 rfl ?_
      refine am_get (v := .inr (0, 65)) dX11_start_60 fl_11_13 (hG.m0 (by decide)) rfl ?_
      refine am_iload_n dX11_start_63 rfl ?_
      refine am_zald (a := i) dX11_start_64 (hG.m0 (by decide)) rfl rfl (show i < 4 from (by omega)) (show 4 < 2 ^ 31 by decide) ?_
      refine am_top (show I 0 65 i = nI 1 from (by simp [am_up, am_upf, upd, hI, am_fr, am_dk, hi])) ?_
      refine am_if_ne (tgt := 72) dX11_start_65 (by decide) (fun _ => ?_) (fun h => absurd h (by decide))
      refine am_iconst (v := nI 1) dX11_start_72 (by decide) ?_
      refine am_goto (tgt := 77) dX11_start_73 (by decide) ?_
      refine am_iconst (v := nI 0) dX11_start_77 (by decide) ?_
      refine am_callVx (i := 0) (j := 60) (as := [.inl (nI 0), .inl (nI 1), .inl (nI 0)]) (rest := []) dX11_start_78 lkX11_refuse ml_X11_441 imX11_refuse seX11_refuse rfl rfl (hG.m0 (by decide)) rfl (Nat.le_of_ble_eq_true rfl) rfl (c_refuse010 hG I) ?_
      refine am_if_eq (tgt := 85) dX11_start_81 (by decide) (fun h => absurd h (by decide)) (fun _ => ?_)
      refine am_vret dX11_start_84 rfl ?_
      exact ⟨rfl, (by simp [am_up, am_upf, upd, hI, am_fr, am_dk, hi])⟩
    | succ m ih =>
      intro a ha
      refine am_iload dX11_start_11 rfl ?_
      refine am_aload_n dX11_start_13 rfl ?_
      refine am_get (v := .inl (I 0 60 1)) dX11_start_14 fl_11_177 (hG.m0 (by decide)) rfl ?_
      refine am_top (show I 0 60 1 = nI G.2.2.2.1 from (by simp [am_up, am_upf, upd, hI, am_fr, am_dk, hi])) ?_
      refine am_icmp_ge (tgt := 45) dX11_start_17 (by decide) (fun h => absurd ((nI_leI (a := G.2.2.2.1) (b := a) (by omega) (by omega)).mp h) (by omega)) (fun _ => ?_)
      refine am_iload_n dX11_start_20 rfl ?_
      refine am_if_ne (tgt := 33) dX11_start_21 (by decide) (fun h => absurd h (by decide)) (fun _ => ?_)
      refine am_aload_n dX11_start_24 rfl ?_
      refine am_iload dX11_start_25 rfl ?_
      refine am_callVx (i := 0) (j := 60) (as := [.inl (nI a)]) (rest := []) dX11_start_27 lkX11_isDead ml_X11_484 imX11_isDead seX11_isDead rfl rfl (hG.m0 (by decide)) rfl (Nat.le_of_ble_eq_true rfl) rfl (c_MisDead0 hG (by omega) I (by simp [hI, am_fr, show a < G.2.2.2.1 by omega])) ?_
      refine am_if_eq (tgt := 37) dX11_start_30 (by decide) (fun _ => ?_) (fun h => absurd h (by decide))
      refine am_iconst (v := nI 0) dX11_start_37 (by decide) ?_
      refine am_istore_n dX11_start_38 (by decide) ?_
      refine am_iinc (v := nI (a + 1)) dX11_start_39 rfl (nI_add _ _) ?_
      refine am_goto (tgt := 11) dX11_start_42 (by decide) ?_
      exact ih (a + 1) (by omega)
  refine am_of (by decide +kernel) hG.nd (Nat.le_of_ble_eq_true rfl) ?_
  refine am_aload_n dX11_start_0 rfl ?_
  refine am_iload_n dX11_start_1 rfl ?_
  refine am_callVx (i := 0) (j := 60) (as := [.inl (nI i)]) (rest := []) dX11_start_2 lkX11_isNode ml_X11_434 imX11_isNode seX11_isNode rfl rfl (hG.m0 (by decide)) rfl (Nat.le_of_ble_eq_true rfl) rfl (c_MisNodeY hG hi (by simp [am_up, am_upf, upd, hI, am_fr, am_dk, hi])) ?_
  refine am_istore_n dX11_start_5 (by decide) ?_
  refine am_iconst (v := nI 0) dX11_start_6 (by decide) ?_
  refine am_istore_n dX11_start_7 (by decide) ?_
  refine am_iconst (v := nI 0) dX11_start_8 (by decide) ?_
  refine am_istore dX11_start_9 (by decide) ?_
  exact K G.2.2.2.1 0 (by omega)
theorem m_resultA {G : am_G} (hG : am_okM G) {d : Nat} (x : Int32) (hx : ¬ (0 ≤ x.toInt ∧ x.toInt < (G.2.2.2.1 : Int))) (w : Int32) {I : am_I} (hI : I = am_fr G.2.2.2.1)  : am_C G (d + 3) mX11_result [.inr (0, 60), .inl x, .inl w] I (fun rr J => rr = some (nI 0) ∧ J 0 60 0 = nI 1) := by
  have hn4 := hG.hi
  have hn2 := hG.lo
  refine am_of (by decide +kernel) hG.nd (Nat.le_of_ble_eq_true rfl) ?_
  refine am_aload_n dX11_result_0 rfl ?_
  refine am_aload_n dX11_result_1 rfl ?_
  refine am_iload_n dX11_result_2 rfl ?_
  refine am_callVx (i := 0) (j := 60) (as := [.inl x]) (rest := [.inr (0, 60)]) dX11_result_3 lkX11_isNode ml_X11_434 imX11_isNode seX11_isNode rfl rfl (hG.m0 (by decide)) rfl (Nat.le_of_ble_eq_true rfl) rfl (c_MisNodeN hG hx (by simp [am_up, am_upf, upd, hI, am_fr, am_dk])) ?_
  refine am_if_eq (tgt := 18) dX11_result_6 (by decide) (fun _ => ?_) (fun h => absurd h (by decide))
  refine am_iconst (v := nI 1) dX11_result_18 (by decide) ?_
  refine am_goto (tgt := 23) dX11_result_19 (by decide) ?_
  refine am_iconst (v := nI 0) dX11_result_23 (by decide) ?_
  refine am_iconst (v := nI 0) dX11_result_24 (by decide) ?_
  refine am_callVx (i := 0) (j := 60) (as := [.inl (nI 1), .inl (nI 0), .inl (nI 0)]) (rest := []) dX11_result_25 lkX11_refuse ml_X11_441 imX11_refuse seX11_refuse rfl rfl (hG.m0 (by decide)) rfl (Nat.le_of_ble_eq_true rfl) rfl (c_refuse100 hG I) ?_
  refine am_if_eq (tgt := 33) dX11_result_28 (by decide) (fun h => absurd h (by decide)) (fun _ => ?_)
  refine am_iconst (v := nI 0) dX11_result_31 (by decide) ?_
  refine am_iret dX11_result_32 rfl rfl ?_
  exact ⟨rfl, (by simp [am_up, am_upf, upd, hI, am_fr, am_dk])⟩
theorem m_resultB {G : am_G} (hG : am_okM G) {d : Nat} {i : Nat} (hi : i < G.2.2.2.1) (w : Int32) (hw : w.toInt < 0 ∨ 4 < w.toInt) {I : am_I} (hI : I = am_fr G.2.2.2.1)  : am_C G (d + 3) mX11_result [.inr (0, 60), .inl (nI i), .inl w] I (fun rr J => rr = some (nI 0) ∧ J 0 60 0 = nI 1) := by
  have hn4 := hG.hi
  have hn2 := hG.lo
  refine am_of (by decide +kernel) hG.nd (Nat.le_of_ble_eq_true rfl) ?_
  refine am_aload_n dX11_result_0 rfl ?_
  refine am_aload_n dX11_result_1 rfl ?_
  refine am_iload_n dX11_result_2 rfl ?_
  refine am_callVx (i := 0) (j := 60) (as := [.inl (nI i)]) (rest := [.inr (0, 60)]) dX11_result_3 lkX11_isNode ml_X11_434 imX11_isNode seX11_isNode rfl rfl (hG.m0 (by decide)) rfl (Nat.le_of_ble_eq_true rfl) rfl (c_MisNodeY hG hi (by simp [am_up, am_upf, upd, hI, am_fr, am_dk, hi])) ?_
  refine am_if_eq (tgt := 18) dX11_result_6 (by decide) (fun h => absurd h (by decide)) (fun _ => ?_)
  refine am_iload_n dX11_result_9 rfl ?_
  refine am_iconst (v := nI 0) dX11_result_10 (by decide) ?_
  refine am_iconst (v := nI 4) dX11_result_11 (by decide) ?_
  refine am_callSx (as := [.inl w, .inl (nI 0), .inl (nI 4)]) (rest := [.inr (0, 60)]) dX11_result_12 lkX11_in ml_X11_243 isX11_in rfl (Nat.le_of_ble_eq_true rfl) rfl (c_Min hG.nd w (nI 0) (nI 4) I) ?_
  refine am_top (show am_b (decide ((nI 0).toInt ≤ w.toInt ∧ w.toInt ≤ (nI 4).toInt)) = nI 0 from Eq.trans (show am_b (decide ((nI 0).toInt ≤ w.toInt ∧ w.toInt ≤ (nI 4).toInt)) = am_b (decide (0 ≤ w.toInt ∧ w.toInt ≤ 4)) from by rw [nI_toInt (n := 0) (by omega), nI_toInt (n := 4) (by omega)]; rfl) (am_bF _ (by omega))) ?_
  refine am_if_ne (tgt := 22) dX11_result_15 (by decide) (fun h => absurd h (by decide)) (fun _ => ?_)
  refine am_iconst (v := nI 1) dX11_result_18 (by decide) ?_
  refine am_goto (tgt := 23) dX11_result_19 (by decide) ?_
  refine am_iconst (v := nI 0) dX11_result_23 (by decide) ?_
  refine am_iconst (v := nI 0) dX11_result_24 (by decide) ?_
  refine am_callVx (i := 0) (j := 60) (as := [.inl (nI 1), .inl (nI 0), .inl (nI 0)]) (rest := []) dX11_result_25 lkX11_refuse ml_X11_441 imX11_refuse seX11_refuse rfl rfl (hG.m0 (by decide)) rfl (Nat.le_of_ble_eq_true rfl) rfl (c_refuse100 hG I) ?_
  refine am_if_eq (tgt := 33) dX11_result_28 (by decide) (fun h => absurd h (by decide)) (fun _ => ?_)
  refine am_iconst (v := nI 0) dX11_result_31 (by decide) ?_
  refine am_iret dX11_result_32 rfl rfl ?_
  exact ⟨rfl, (by simp [am_up, am_upf, upd, hI, am_fr, am_dk, hi])⟩
theorem m_result0 {G : am_G} (hG : am_okM G) {d : Nat} {i : Nat} (hi : i < G.2.2.2.1)  {I : am_I} (hI : I = am_fr G.2.2.2.1)  : am_C G (d + 3) mX11_result [.inr (0, 60), .inl (nI i), .inl (nI 0)] I (fun rr J => rr = some (nI 0) ∧ J 0 60 0 = nI 0) := by
  have hn4 := hG.hi
  have hn2 := hG.lo
  refine am_of (by decide +kernel) hG.nd (Nat.le_of_ble_eq_true rfl) ?_
  refine am_aload_n dX11_result_0 rfl ?_
  refine am_aload_n dX11_result_1 rfl ?_
  refine am_iload_n dX11_result_2 rfl ?_
  refine am_callVx (i := 0) (j := 60) (as := [.inl (nI i)]) (rest := [.inr (0, 60)]) dX11_result_3 lkX11_isNode ml_X11_434 imX11_isNode seX11_isNode rfl rfl (hG.m0 (by decide)) rfl (Nat.le_of_ble_eq_true rfl) rfl (c_MisNodeY hG hi (by simp [am_up, am_upf, upd, hI, am_fr, am_dk, hi])) ?_
  refine am_if_eq (tgt := 18) dX11_result_6 (by decide) (fun h => absurd h (by decide)) (fun _ => ?_)
  refine am_iload_n dX11_result_9 rfl ?_
  refine am_iconst (v := nI 0) dX11_result_10 (by decide) ?_
  refine am_iconst (v := nI 4) dX11_result_11 (by decide) ?_
  refine am_callSx (as := [.inl (nI 0), .inl (nI 0), .inl (nI 4)]) (rest := [.inr (0, 60)]) dX11_result_12 lkX11_in ml_X11_243 isX11_in rfl (Nat.le_of_ble_eq_true rfl) rfl (c_Min hG.nd (nI 0) (nI 0) (nI 4) I) ?_
  refine am_top (show am_b (decide ((nI 0).toInt ≤ (nI 0).toInt ∧ (nI 0).toInt ≤ (nI 4).toInt)) = nI 1 by decide) ?_
  refine am_if_ne (tgt := 22) dX11_result_15 (by decide) (fun _ => ?_) (fun h => absurd h (by decide))
  refine am_iconst (v := nI 0) dX11_result_22 (by decide) ?_
  refine am_iconst (v := nI 0) dX11_result_23 (by decide) ?_
  refine am_iconst (v := nI 0) dX11_result_24 (by decide) ?_
  refine am_callVx (i := 0) (j := 60) (as := [.inl (nI 0), .inl (nI 0), .inl (nI 0)]) (rest := []) dX11_result_25 lkX11_refuse ml_X11_441 imX11_refuse seX11_refuse rfl rfl (hG.m0 (by decide)) rfl (Nat.le_of_ble_eq_true rfl) rfl (c_refuse000 hG I) ?_
  refine am_if_eq (tgt := 33) dX11_result_28 (by decide) (fun _ => ?_) (fun h => absurd h (by decide))
  refine am_iload_n dX11_result_33 rfl ?_
  refine am_tabIn (off := 30) (tgt := 64) dX11_result_34 (by decide) (by decide) rfl (by decide) ?_
  refine am_aload_n dX11_result_64 rfl ?_
  refine am_get (v := .inr (0, 87)) dX11_result_65 fl_11_81 (hG.m0 (by decide)) rfl ?_
  refine am_iload_n dX11_result_68 rfl ?_
  refine am_iald (a := i) dX11_result_69 (hG.m0 (by decide)) rfl rfl (show i < 4 from (by omega)) (show 4 < 2 ^ 31 by decide) ?_
  refine am_top (show (am_up I 0 60 0 (nI 0)) 0 87 i = nI 0 from (by simp [am_up, am_upf, upd, hI, am_fr, am_dk, hi])) ?_
  refine am_iret dX11_result_70 rfl rfl ?_
  exact ⟨rfl, (by simp [am_up, am_upf, upd, hI, am_fr, am_dk, hi])⟩
theorem m_result1 {G : am_G} (hG : am_okM G) {d : Nat} {i : Nat} (hi : i < G.2.2.2.1)  {I : am_I} (hI : I = am_fr G.2.2.2.1)  : am_C G (d + 3) mX11_result [.inr (0, 60), .inl (nI i), .inl (nI 1)] I (fun rr J => rr = some (nI 0) ∧ J 0 60 0 = nI 0) := by
  have hn4 := hG.hi
  have hn2 := hG.lo
  refine am_of (by decide +kernel) hG.nd (Nat.le_of_ble_eq_true rfl) ?_
  refine am_aload_n dX11_result_0 rfl ?_
  refine am_aload_n dX11_result_1 rfl ?_
  refine am_iload_n dX11_result_2 rfl ?_
  refine am_callVx (i := 0) (j := 60) (as := [.inl (nI i)]) (rest := [.inr (0, 60)]) dX11_result_3 lkX11_isNode ml_X11_434 imX11_isNode seX11_isNode rfl rfl (hG.m0 (by decide)) rfl (Nat.le_of_ble_eq_true rfl) rfl (c_MisNodeY hG hi (by simp [am_up, am_upf, upd, hI, am_fr, am_dk, hi])) ?_
  refine am_if_eq (tgt := 18) dX11_result_6 (by decide) (fun h => absurd h (by decide)) (fun _ => ?_)
  refine am_iload_n dX11_result_9 rfl ?_
  refine am_iconst (v := nI 0) dX11_result_10 (by decide) ?_
  refine am_iconst (v := nI 4) dX11_result_11 (by decide) ?_
  refine am_callSx (as := [.inl (nI 1), .inl (nI 0), .inl (nI 4)]) (rest := [.inr (0, 60)]) dX11_result_12 lkX11_in ml_X11_243 isX11_in rfl (Nat.le_of_ble_eq_true rfl) rfl (c_Min hG.nd (nI 1) (nI 0) (nI 4) I) ?_
  refine am_top (show am_b (decide ((nI 0).toInt ≤ (nI 1).toInt ∧ (nI 1).toInt ≤ (nI 4).toInt)) = nI 1 by decide) ?_
  refine am_if_ne (tgt := 22) dX11_result_15 (by decide) (fun _ => ?_) (fun h => absurd h (by decide))
  refine am_iconst (v := nI 0) dX11_result_22 (by decide) ?_
  refine am_iconst (v := nI 0) dX11_result_23 (by decide) ?_
  refine am_iconst (v := nI 0) dX11_result_24 (by decide) ?_
  refine am_callVx (i := 0) (j := 60) (as := [.inl (nI 0), .inl (nI 0), .inl (nI 0)]) (rest := []) dX11_result_25 lkX11_refuse ml_X11_441 imX11_refuse seX11_refuse rfl rfl (hG.m0 (by decide)) rfl (Nat.le_of_ble_eq_true rfl) rfl (c_refuse000 hG I) ?_
  refine am_if_eq (tgt := 33) dX11_result_28 (by decide) (fun _ => ?_) (fun h => absurd h (by decide))
  refine am_iload_n dX11_result_33 rfl ?_
  refine am_tabIn (off := 37) (tgt := 71) dX11_result_34 (by decide) (by decide) rfl (by decide) ?_
  refine am_aload_n dX11_result_71 rfl ?_
  refine am_get (v := .inr (0, 87)) dX11_result_72 fl_11_81 (hG.m0 (by decide)) rfl ?_
  refine am_iload_n dX11_result_75 rfl ?_
  refine am_iald (a := i) dX11_result_76 (hG.m0 (by decide)) rfl rfl (show i < 4 from (by omega)) (show 4 < 2 ^ 31 by decide) ?_
  refine am_top (show (am_up I 0 60 0 (nI 0)) 0 87 i = nI 0 from (by simp [am_up, am_upf, upd, hI, am_fr, am_dk, hi])) ?_
  refine am_iconst (v := nI 2) dX11_result_77 (by decide) ?_
  refine am_icmp_eq (tgt := 91) dX11_result_78 (by decide) (fun h => absurd h (by decide)) (fun _ => ?_)
  refine am_aload_n dX11_result_81 rfl ?_
  refine am_get (v := .inr (0, 87)) dX11_result_82 fl_11_81 (hG.m0 (by decide)) rfl ?_
  refine am_iload_n dX11_result_85 rfl ?_
  refine am_iald (a := i) dX11_result_86 (hG.m0 (by decide)) rfl rfl (show i < 4 from (by omega)) (show 4 < 2 ^ 31 by decide) ?_
  refine am_top (show (am_up I 0 60 0 (nI 0)) 0 87 i = nI 0 from (by simp [am_up, am_upf, upd, hI, am_fr, am_dk, hi])) ?_
  refine am_iconst (v := nI 3) dX11_result_87 (by decide) ?_
  refine am_icmp_ne (tgt := 100) dX11_result_88 (by decide) (fun _ => ?_) (fun h => absurd h (by decide))
  refine am_iconst (v := nI 0) dX11_result_100 (by decide) ?_
  refine am_iret dX11_result_101 rfl rfl ?_
  exact ⟨rfl, (by simp [am_up, am_upf, upd, hI, am_fr, am_dk, hi])⟩
theorem m_result2 {G : am_G} (hG : am_okM G) {d : Nat} {i : Nat} (hi : i < G.2.2.2.1)  {I : am_I} (hI : I = am_fr G.2.2.2.1)  : am_C G (d + 3) mX11_result [.inr (0, 60), .inl (nI i), .inl (nI 2)] I (fun rr J => rr = some (nI 0) ∧ J 0 60 0 = nI 0) := by
  have hn4 := hG.hi
  have hn2 := hG.lo
  refine am_of (by decide +kernel) hG.nd (Nat.le_of_ble_eq_true rfl) ?_
  refine am_aload_n dX11_result_0 rfl ?_
  refine am_aload_n dX11_result_1 rfl ?_
  refine am_iload_n dX11_result_2 rfl ?_
  refine am_callVx (i := 0) (j := 60) (as := [.inl (nI i)]) (rest := [.inr (0, 60)]) dX11_result_3 lkX11_isNode ml_X11_434 imX11_isNode seX11_isNode rfl rfl (hG.m0 (by decide)) rfl (Nat.le_of_ble_eq_true rfl) rfl (c_MisNodeY hG hi (by simp [am_up, am_upf, upd, hI, am_fr, am_dk, hi])) ?_
  refine am_if_eq (tgt := 18) dX11_result_6 (by decide) (fun h => absurd h (by decide)) (fun _ => ?_)
  refine am_iload_n dX11_result_9 rfl ?_
  refine am_iconst (v := nI 0) dX11_result_10 (by decide) ?_
  refine am_iconst (v := nI 4) dX11_result_11 (by decide) ?_
  refine am_callSx (as := [.inl (nI 2), .inl (nI 0), .inl (nI 4)]) (rest := [.inr (0, 60)]) dX11_result_12 lkX11_in ml_X11_243 isX11_in rfl (Nat.le_of_ble_eq_true rfl) rfl (c_Min hG.nd (nI 2) (nI 0) (nI 4) I) ?_
  refine am_top (show am_b (decide ((nI 0).toInt ≤ (nI 2).toInt ∧ (nI 2).toInt ≤ (nI 4).toInt)) = nI 1 by decide) ?_
  refine am_if_ne (tgt := 22) dX11_result_15 (by decide) (fun _ => ?_) (fun h => absurd h (by decide))
  refine am_iconst (v := nI 0) dX11_result_22 (by decide) ?_
  refine am_iconst (v := nI 0) dX11_result_23 (by decide) ?_
  refine am_iconst (v := nI 0) dX11_result_24 (by decide) ?_
  refine am_callVx (i := 0) (j := 60) (as := [.inl (nI 0), .inl (nI 0), .inl (nI 0)]) (rest := []) dX11_result_25 lkX11_refuse ml_X11_441 imX11_refuse seX11_refuse rfl rfl (hG.m0 (by decide)) rfl (Nat.le_of_ble_eq_true rfl) rfl (c_refuse000 hG I) ?_
  refine am_if_eq (tgt := 33) dX11_result_28 (by decide) (fun _ => ?_) (fun h => absurd h (by decide))
  refine am_iload_n dX11_result_33 rfl ?_
  refine am_tabIn (off := 68) (tgt := 102) dX11_result_34 (by decide) (by decide) rfl (by decide) ?_
  refine am_aload_n dX11_result_102 rfl ?_
  refine am_get (v := .inr (0, 87)) dX11_result_103 fl_11_81 (hG.m0 (by decide)) rfl ?_
  refine am_iload_n dX11_result_106 rfl ?_
  refine am_iald (a := i) dX11_result_107 (hG.m0 (by decide)) rfl rfl (show i < 4 from (by omega)) (show 4 < 2 ^ 31 by decide) ?_
  refine am_top (show (am_up I 0 60 0 (nI 0)) 0 87 i = nI 0 from (by simp [am_up, am_upf, upd, hI, am_fr, am_dk, hi])) ?_
  refine am_iconst (v := nI 1) dX11_result_108 (by decide) ?_
  refine am_icmp_ne (tgt := 126) dX11_result_109 (by decide) (fun _ => ?_) (fun h => absurd h (by decide))
  refine am_aload_n dX11_result_126 rfl ?_
  refine am_get (v := .inr (0, 90)) dX11_result_127 fl_11_90 (hG.m0 (by decide)) rfl ?_
  refine am_iload_n dX11_result_130 rfl ?_
  refine am_iald (a := i) dX11_result_131 (hG.m0 (by decide)) rfl rfl (show i < 4 from (by omega)) (show 4 < 2 ^ 31 by decide) ?_
  refine am_top (show (am_up I 0 60 0 (nI 0)) 0 90 i = nI 0 from (by simp [am_up, am_upf, upd, hI, am_fr, am_dk, hi])) ?_
  refine am_iret dX11_result_132 rfl rfl ?_
  exact ⟨rfl, (by simp [am_up, am_upf, upd, hI, am_fr, am_dk, hi])⟩
theorem m_result3 {G : am_G} (hG : am_okM G) {d : Nat} {i : Nat} (hi : i < G.2.2.2.1)  {I : am_I} (hI : I = am_fr G.2.2.2.1)  : am_C G (d + 3) mX11_result [.inr (0, 60), .inl (nI i), .inl (nI 3)] I (fun rr J => rr = some (nI 0) ∧ J 0 60 0 = nI 0) := by
  have hn4 := hG.hi
  have hn2 := hG.lo
  refine am_of (by decide +kernel) hG.nd (Nat.le_of_ble_eq_true rfl) ?_
  refine am_aload_n dX11_result_0 rfl ?_
  refine am_aload_n dX11_result_1 rfl ?_
  refine am_iload_n dX11_result_2 rfl ?_
  refine am_callVx (i := 0) (j := 60) (as := [.inl (nI i)]) (rest := [.inr (0, 60)]) dX11_result_3 lkX11_isNode ml_X11_434 imX11_isNode seX11_isNode rfl rfl (hG.m0 (by decide)) rfl (Nat.le_of_ble_eq_true rfl) rfl (c_MisNodeY hG hi (by simp [am_up, am_upf, upd, hI, am_fr, am_dk, hi])) ?_
  refine am_if_eq (tgt := 18) dX11_result_6 (by decide) (fun h => absurd h (by decide)) (fun _ => ?_)
  refine am_iload_n dX11_result_9 rfl ?_
  refine am_iconst (v := nI 0) dX11_result_10 (by decide) ?_
  refine am_iconst (v := nI 4) dX11_result_11 (by decide) ?_
  refine am_callSx (as := [.inl (nI 3), .inl (nI 0), .inl (nI 4)]) (rest := [.inr (0, 60)]) dX11_result_12 lkX11_in ml_X11_243 isX11_in rfl (Nat.le_of_ble_eq_true rfl) rfl (c_Min hG.nd (nI 3) (nI 0) (nI 4) I) ?_
  refine am_top (show am_b (decide ((nI 0).toInt ≤ (nI 3).toInt ∧ (nI 3).toInt ≤ (nI 4).toInt)) = nI 1 by decide) ?_
  refine am_if_ne (tgt := 22) dX11_result_15 (by decide) (fun _ => ?_) (fun h => absurd h (by decide))
  refine am_iconst (v := nI 0) dX11_result_22 (by decide) ?_
  refine am_iconst (v := nI 0) dX11_result_23 (by decide) ?_
  refine am_iconst (v := nI 0) dX11_result_24 (by decide) ?_
  refine am_callVx (i := 0) (j := 60) (as := [.inl (nI 0), .inl (nI 0), .inl (nI 0)]) (rest := []) dX11_result_25 lkX11_refuse ml_X11_441 imX11_refuse seX11_refuse rfl rfl (hG.m0 (by decide)) rfl (Nat.le_of_ble_eq_true rfl) rfl (c_refuse000 hG I) ?_
  refine am_if_eq (tgt := 33) dX11_result_28 (by decide) (fun _ => ?_) (fun h => absurd h (by decide))
  refine am_iload_n dX11_result_33 rfl ?_
  refine am_tabIn (off := 99) (tgt := 133) dX11_result_34 (by decide) (by decide) rfl (by decide) ?_
  refine am_aload_n dX11_result_133 rfl ?_
  refine am_get (v := .inr (0, 91)) dX11_result_134 fl_11_93 (hG.m0 (by decide)) rfl ?_
  refine am_iload_n dX11_result_137 rfl ?_
  refine am_iald (a := i) dX11_result_138 (hG.m0 (by decide)) rfl rfl (show i < 4 from (by omega)) (show 4 < 2 ^ 31 by decide) ?_
  refine am_top (show (am_up I 0 60 0 (nI 0)) 0 91 i = nI 0 from (by simp [am_up, am_upf, upd, hI, am_fr, am_dk, hi])) ?_
  refine am_iret dX11_result_139 rfl rfl ?_
  exact ⟨rfl, (by simp [am_up, am_upf, upd, hI, am_fr, am_dk, hi])⟩
theorem m_result4 {G : am_G} (hG : am_okM G) {d : Nat} {i : Nat} (hi : i < G.2.2.2.1)  {I : am_I} (hI : I = am_fr G.2.2.2.1)  : am_C G (d + 3) mX11_result [.inr (0, 60), .inl (nI i), .inl (nI 4)] I (fun rr J => rr = some (nI 0) ∧ J 0 60 0 = nI 0) := by
  have hn4 := hG.hi
  have hn2 := hG.lo
  refine am_of (by decide +kernel) hG.nd (Nat.le_of_ble_eq_true rfl) ?_
  refine am_aload_n dX11_result_0 rfl ?_
  refine am_aload_n dX11_result_1 rfl ?_
  refine am_iload_n dX11_result_2 rfl ?_
  refine am_callVx (i := 0) (j := 60) (as := [.inl (nI i)]) (rest := [.inr (0, 60)]) dX11_result_3 lkX11_isNode ml_X11_434 imX11_isNode seX11_isNode rfl rfl (hG.m0 (by decide)) rfl (Nat.le_of_ble_eq_true rfl) rfl (c_MisNodeY hG hi (by simp [am_up, am_upf, upd, hI, am_fr, am_dk, hi])) ?_
  refine am_if_eq (tgt := 18) dX11_result_6 (by decide) (fun h => absurd h (by decide)) (fun _ => ?_)
  refine am_iload_n dX11_result_9 rfl ?_
  refine am_iconst (v := nI 0) dX11_result_10 (by decide) ?_
  refine am_iconst (v := nI 4) dX11_result_11 (by decide) ?_
  refine am_callSx (as := [.inl (nI 4), .inl (nI 0), .inl (nI 4)]) (rest := [.inr (0, 60)]) dX11_result_12 lkX11_in ml_X11_243 isX11_in rfl (Nat.le_of_ble_eq_true rfl) rfl (c_Min hG.nd (nI 4) (nI 0) (nI 4) I) ?_
  refine am_top (show am_b (decide ((nI 0).toInt ≤ (nI 4).toInt ∧ (nI 4).toInt ≤ (nI 4).toInt)) = nI 1 by decide) ?_
  refine am_if_ne (tgt := 22) dX11_result_15 (by decide) (fun _ => ?_) (fun h => absurd h (by decide))
  refine am_iconst (v := nI 0) dX11_result_22 (by decide) ?_
  refine am_iconst (v := nI 0) dX11_result_23 (by decide) ?_
  refine am_iconst (v := nI 0) dX11_result_24 (by decide) ?_
  refine am_callVx (i := 0) (j := 60) (as := [.inl (nI 0), .inl (nI 0), .inl (nI 0)]) (rest := []) dX11_result_25 lkX11_refuse ml_X11_441 imX11_refuse seX11_refuse rfl rfl (hG.m0 (by decide)) rfl (Nat.le_of_ble_eq_true rfl) rfl (c_refuse000 hG I) ?_
  refine am_if_eq (tgt := 33) dX11_result_28 (by decide) (fun _ => ?_) (fun h => absurd h (by decide))
  refine am_iload_n dX11_result_33 rfl ?_
  refine am_tabOut (tgt := 140) dX11_result_34 (by decide) (by decide) ?_
  refine am_aload_n dX11_result_140 rfl ?_
  refine am_get (v := .inr (0, 92)) dX11_result_141 fl_11_96 (hG.m0 (by decide)) rfl ?_
  refine am_iload_n dX11_result_144 rfl ?_
  refine am_iald (a := i) dX11_result_145 (hG.m0 (by decide)) rfl rfl (show i < 4 from (by omega)) (show 4 < 2 ^ 31 by decide) ?_
  refine am_top (show (am_up I 0 60 0 (nI 0)) 0 92 i = nI 0 from (by simp [am_up, am_upf, upd, hI, am_fr, am_dk, hi])) ?_
  refine am_iret dX11_result_146 rfl rfl ?_
  exact ⟨rfl, (by simp [am_up, am_upf, upd, hI, am_fr, am_dk, hi])⟩
