theorem am_up_id {I : am_I} {i j k : Nat} {v : Int32} (h : I i j k = v) : am_up I i j k v = I := by
  funext a b c
  by_cases hh : a = i ∧ b = j ∧ c = k
  · obtain ⟨rfl, rfl, rfl⟩ := hh
    rw [am_ups, h]
  · rw [am_upn I v hh]
theorem c_refuse000 {G : am_G} (hG : am_okM G) {d : Nat} (I : am_I) : am_C G d mX11_refuse [.inr (0, 60), .inl (nI 0), .inl (nI 0), .inl (nI 0)] I (am_E (some (nI 0)) (am_up I 0 60 0 (nI 0))) := by
  refine am_of (by decide +kernel) hG.nd (Nat.le_of_ble_eq_true rfl) ?_
  refine am_aload_n dX11_refuse_0 rfl ?_
  refine am_iload_n dX11_refuse_1 rfl ?_
  refine am_if_eq (tgt := 9) dX11_refuse_2 (by decide) (fun _ => ?_) (fun h => absurd h (by decide))
  refine am_iload_n dX11_refuse_9 rfl ?_
  refine am_if_eq (tgt := 17) dX11_refuse_10 (by decide) (fun _ => ?_) (fun h => absurd h (by decide))
  refine am_iload_n dX11_refuse_17 rfl ?_
  refine am_if_eq (tgt := 25) dX11_refuse_18 (by decide) (fun _ => ?_) (fun h => absurd h (by decide))
  refine am_iconst (v := nI 0) dX11_refuse_25 (by decide) ?_
  refine am_put (x := nI 0) dX11_refuse_26 fp_11_188 (hG.m0 (by decide)) (Nat.le_of_ble_eq_true rfl) rfl ?_
  refine am_aload_n dX11_refuse_29 rfl ?_
  refine am_get (v := .inl ((am_up I 0 60 0 (nI 0)) 0 60 0)) dX11_refuse_30 fl_11_188 (hG.m0 (by decide)) rfl ?_
  refine am_top (show (am_up I 0 60 0 (nI 0)) 0 60 0 = nI 0 from (by simp [am_up, am_upf, upd])) ?_
  refine am_if_le (tgt := 40) dX11_refuse_33 (by decide) (fun _ => ?_) (fun h => absurd h (by decide))
  refine am_iconst (v := nI 0) dX11_refuse_40 (by decide) ?_
  refine am_iret dX11_refuse_41 rfl (am_nz (by decide)).1 ?_
  exact ⟨rfl, rfl⟩
theorem c_refuse100 {G : am_G} (hG : am_okM G) {d : Nat} (I : am_I) : am_C G d mX11_refuse [.inr (0, 60), .inl (nI 1), .inl (nI 0), .inl (nI 0)] I (am_E (some (nI 1)) (am_up I 0 60 0 (nI 1))) := by
  refine am_of (by decide +kernel) hG.nd (Nat.le_of_ble_eq_true rfl) ?_
  refine am_aload_n dX11_refuse_0 rfl ?_
  refine am_iload_n dX11_refuse_1 rfl ?_
  refine am_if_eq (tgt := 9) dX11_refuse_2 (by decide) (fun h => absurd h (by decide)) (fun _ => ?_)
  refine am_iconst (v := nI 1) dX11_refuse_5 (by decide) ?_
  refine am_goto (tgt := 26) dX11_refuse_6 (by decide) ?_
  refine am_put (x := nI 1) dX11_refuse_26 fp_11_188 (hG.m0 (by decide)) (Nat.le_of_ble_eq_true rfl) rfl ?_
  refine am_aload_n dX11_refuse_29 rfl ?_
  refine am_get (v := .inl ((am_up I 0 60 0 (nI 1)) 0 60 0)) dX11_refuse_30 fl_11_188 (hG.m0 (by decide)) rfl ?_
  refine am_top (show (am_up I 0 60 0 (nI 1)) 0 60 0 = nI 1 from (by simp [am_up, am_upf, upd])) ?_
  refine am_if_le (tgt := 40) dX11_refuse_33 (by decide) (fun h => absurd h (by decide)) (fun _ => ?_)
  refine am_iconst (v := nI 1) dX11_refuse_36 (by decide) ?_
  refine am_goto (tgt := 41) dX11_refuse_37 (by decide) ?_
  refine am_iret dX11_refuse_41 rfl (am_nz (by decide)).1 ?_
  exact ⟨rfl, rfl⟩
theorem c_refuse010 {G : am_G} (hG : am_okM G) {d : Nat} (I : am_I) : am_C G d mX11_refuse [.inr (0, 60), .inl (nI 0), .inl (nI 1), .inl (nI 0)] I (am_E (some (nI 1)) (am_up I 0 60 0 (nI 2))) := by
  refine am_of (by decide +kernel) hG.nd (Nat.le_of_ble_eq_true rfl) ?_
  refine am_aload_n dX11_refuse_0 rfl ?_
  refine am_iload_n dX11_refuse_1 rfl ?_
  refine am_if_eq (tgt := 9) dX11_refuse_2 (by decide) (fun _ => ?_) (fun h => absurd h (by decide))
  refine am_iload_n dX11_refuse_9 rfl ?_
  refine am_if_eq (tgt := 17) dX11_refuse_10 (by decide) (fun h => absurd h (by decide)) (fun _ => ?_)
  refine am_iconst (v := nI 2) dX11_refuse_13 (by decide) ?_
  refine am_goto (tgt := 26) dX11_refuse_14 (by decide) ?_
  refine am_put (x := nI 2) dX11_refuse_26 fp_11_188 (hG.m0 (by decide)) (Nat.le_of_ble_eq_true rfl) rfl ?_
  refine am_aload_n dX11_refuse_29 rfl ?_
  refine am_get (v := .inl ((am_up I 0 60 0 (nI 2)) 0 60 0)) dX11_refuse_30 fl_11_188 (hG.m0 (by decide)) rfl ?_
  refine am_top (show (am_up I 0 60 0 (nI 2)) 0 60 0 = nI 2 from (by simp [am_up, am_upf, upd])) ?_
  refine am_if_le (tgt := 40) dX11_refuse_33 (by decide) (fun h => absurd h (by decide)) (fun _ => ?_)
  refine am_iconst (v := nI 1) dX11_refuse_36 (by decide) ?_
  refine am_goto (tgt := 41) dX11_refuse_37 (by decide) ?_
  refine am_iret dX11_refuse_41 rfl (am_nz (by decide)).1 ?_
  exact ⟨rfl, rfl⟩
theorem c_refuse001 {G : am_G} (hG : am_okM G) {d : Nat} (I : am_I) : am_C G d mX11_refuse [.inr (0, 60), .inl (nI 0), .inl (nI 0), .inl (nI 1)] I (am_E (some (nI 1)) (am_up I 0 60 0 (nI 3))) := by
  refine am_of (by decide +kernel) hG.nd (Nat.le_of_ble_eq_true rfl) ?_
  refine am_aload_n dX11_refuse_0 rfl ?_
  refine am_iload_n dX11_refuse_1 rfl ?_
  refine am_if_eq (tgt := 9) dX11_refuse_2 (by decide) (fun _ => ?_) (fun h => absurd h (by decide))
  refine am_iload_n dX11_refuse_9 rfl ?_
  refine am_if_eq (tgt := 17) dX11_refuse_10 (by decide) (fun _ => ?_) (fun h => absurd h (by decide))
  refine am_iload_n dX11_refuse_17 rfl ?_
  refine am_if_eq (tgt := 25) dX11_refuse_18 (by decide) (fun h => absurd h (by decide)) (fun _ => ?_)
  refine am_iconst (v := nI 3) dX11_refuse_21 (by decide) ?_
  refine am_goto (tgt := 26) dX11_refuse_22 (by decide) ?_
  refine am_put (x := nI 3) dX11_refuse_26 fp_11_188 (hG.m0 (by decide)) (Nat.le_of_ble_eq_true rfl) rfl ?_
  refine am_aload_n dX11_refuse_29 rfl ?_
  refine am_get (v := .inl ((am_up I 0 60 0 (nI 3)) 0 60 0)) dX11_refuse_30 fl_11_188 (hG.m0 (by decide)) rfl ?_
  refine am_top (show (am_up I 0 60 0 (nI 3)) 0 60 0 = nI 3 from (by simp [am_up, am_upf, upd])) ?_
  refine am_if_le (tgt := 40) dX11_refuse_33 (by decide) (fun h => absurd h (by decide)) (fun _ => ?_)
  refine am_iconst (v := nI 1) dX11_refuse_36 (by decide) ?_
  refine am_goto (tgt := 41) dX11_refuse_37 (by decide) ?_
  refine am_iret dX11_refuse_41 rfl (am_nz (by decide)).1 ?_
  exact ⟨rfl, rfl⟩
theorem c_MisNode {G : am_G} (hG : am_okM G) {d : Nat} (x : Int32) {I : am_I} (hnn : I 0 60 1 = nI G.2.2.2.1) : am_C G (d + 1) mX11_isNode [.inr (0, 60), .inl x] I (am_E (some (am_b (decide (0 ≤ x.toInt ∧ x.toInt < (G.2.2.2.1 : Int))))) I) := by
  have hn4 := hG.hi
  have hn2 := hG.lo
  refine am_of (by decide +kernel) hG.nd (Nat.le_of_ble_eq_true rfl) ?_
  refine am_iload_n dX11_isNode_0 rfl ?_
  refine am_iconst (v := nI 0) dX11_isNode_1 (by decide) ?_
  refine am_aload_n dX11_isNode_2 rfl ?_
  refine am_get (v := .inl (I 0 60 1)) dX11_isNode_3 fl_11_177 (hG.m0 (by decide)) rfl ?_
  refine am_top (show I 0 60 1 = nI G.2.2.2.1 from hnn) ?_
  refine am_iconst (v := nI 1) dX11_isNode_6 (by decide) ?_
  refine am_isub dX11_isNode_7 ?_
  refine am_top (pk_sub (by omega)) ?_
  refine am_callSx (as := [.inl x, .inl (nI 0), .inl (nI (G.2.2.2.1 - 1))]) (rest := []) dX11_isNode_8 lkX11_in ml_X11_243 isX11_in rfl (Nat.le_of_ble_eq_true rfl) rfl (c_Min hG.nd x (nI 0) (nI (G.2.2.2.1 - 1)) I) ?_
  refine am_top (show am_b (decide ((nI 0).toInt ≤ x.toInt ∧ x.toInt ≤ (nI (G.2.2.2.1 - 1)).toInt)) = am_b (decide (0 ≤ x.toInt ∧ x.toInt ≤ ((G.2.2.2.1 - 1 : Nat) : Int))) from by rw [nI_toInt (n := 0) (by omega), nI_toInt (n := G.2.2.2.1 - 1) (by omega)]; rfl) ?_
  refine am_iret dX11_isNode_11 rfl (am_nz (am_b01 _)).1 ?_
  exact ⟨congrArg (fun b => some (am_b b)) (decide_eq_decide.mpr (by omega)), rfl⟩
theorem c_MisNodeY {G : am_G} (hG : am_okM G) {d t : Nat} (ht : t < G.2.2.2.1) {I : am_I} (hnn : I 0 60 1 = nI G.2.2.2.1) : am_C G (d + 1) mX11_isNode [.inr (0, 60), .inl (nI t)] I (am_E (some (nI 1)) I) := by
  have hn4 := hG.hi
  have h := c_MisNode hG (d := d) (nI t) hnn
  rw [am_bT _ (by rw [nI_toInt (by omega)]; omega)] at h
  exact h
theorem c_MisNodeN {G : am_G} (hG : am_okM G) {d : Nat} {x : Int32} (hx : ¬ (0 ≤ x.toInt ∧ x.toInt < (G.2.2.2.1 : Int))) {I : am_I} (hnn : I 0 60 1 = nI G.2.2.2.1) : am_C G (d + 1) mX11_isNode [.inr (0, 60), .inl x] I (am_E (some (nI 0)) I) := by
  have h := c_MisNode hG (d := d) x hnn
  rw [am_bF _ hx] at h
  exact h
theorem c_MisCalling0 {G : am_G} (hG : am_okM G) {d : Nat} {i : Nat} (hi : i < G.2.2.2.1) (I : am_I)  (hst : I 0 87 i = nI 0) : am_C G d mX11_isCalling [.inr (0, 60), .inl (nI i)] I (am_E (some (nI 0)) (I)) := by
  have hn4 := hG.hi
  have hn2 := hG.lo
  refine am_of (by decide +kernel) hG.nd (Nat.le_of_ble_eq_true rfl) ?_
  refine am_aload_n dX11_isCalling_0 rfl ?_
  refine am_get (v := .inr (0, 87)) dX11_isCalling_1 fl_11_81 (hG.m0 (by decide)) rfl ?_
  refine am_iload_n dX11_isCalling_4 rfl ?_
  refine am_iald (a := i) dX11_isCalling_5 (hG.m0 (by decide)) rfl rfl (show i < 4 from (by omega)) (show 4 < 2 ^ 31 by decide) ?_
  refine am_top (show I 0 87 i = nI 0 from (by simp [am_up, am_upf, upd, hst])) ?_
  refine am_iconst (v := nI 1) dX11_isCalling_6 (by decide) ?_
  refine am_icmp_ne (tgt := 14) dX11_isCalling_7 (by decide) (fun _ => ?_) (fun h => absurd h (by decide))
  refine am_iconst (v := nI 0) dX11_isCalling_14 (by decide) ?_
  refine am_iret dX11_isCalling_15 rfl (am_nz (by decide)).1 ?_
  exact ⟨rfl, rfl⟩
theorem c_MisCalling1 {G : am_G} (hG : am_okM G) {d : Nat} {i : Nat} (hi : i < G.2.2.2.1) (I : am_I)  (hst : I 0 87 i = nI 1) : am_C G d mX11_isCalling [.inr (0, 60), .inl (nI i)] I (am_E (some (nI 1)) (I)) := by
  have hn4 := hG.hi
  have hn2 := hG.lo
  refine am_of (by decide +kernel) hG.nd (Nat.le_of_ble_eq_true rfl) ?_
  refine am_aload_n dX11_isCalling_0 rfl ?_
  refine am_get (v := .inr (0, 87)) dX11_isCalling_1 fl_11_81 (hG.m0 (by decide)) rfl ?_
  refine am_iload_n dX11_isCalling_4 rfl ?_
  refine am_iald (a := i) dX11_isCalling_5 (hG.m0 (by decide)) rfl rfl (show i < 4 from (by omega)) (show 4 < 2 ^ 31 by decide) ?_
  refine am_top (show I 0 87 i = nI 1 from (by simp [am_up, am_upf, upd, hst])) ?_
  refine am_iconst (v := nI 1) dX11_isCalling_6 (by decide) ?_
  refine am_icmp_ne (tgt := 14) dX11_isCalling_7 (by decide) (fun h => absurd h (by decide)) (fun _ => ?_)
  refine am_iconst (v := nI 1) dX11_isCalling_10 (by decide) ?_
  refine am_goto (tgt := 15) dX11_isCalling_11 (by decide) ?_
  refine am_iret dX11_isCalling_15 rfl (am_nz (by decide)).1 ?_
  exact ⟨rfl, rfl⟩
theorem c_MisCalling2 {G : am_G} (hG : am_okM G) {d : Nat} {i : Nat} (hi : i < G.2.2.2.1) (I : am_I)  (hst : I 0 87 i = nI 2) : am_C G d mX11_isCalling [.inr (0, 60), .inl (nI i)] I (am_E (some (nI 0)) (I)) := by
  have hn4 := hG.hi
  have hn2 := hG.lo
  refine am_of (by decide +kernel) hG.nd (Nat.le_of_ble_eq_true rfl) ?_
  refine am_aload_n dX11_isCalling_0 rfl ?_
  refine am_get (v := .inr (0, 87)) dX11_isCalling_1 fl_11_81 (hG.m0 (by decide)) rfl ?_
  refine am_iload_n dX11_isCalling_4 rfl ?_
  refine am_iald (a := i) dX11_isCalling_5 (hG.m0 (by decide)) rfl rfl (show i < 4 from (by omega)) (show 4 < 2 ^ 31 by decide) ?_
  refine am_top (show I 0 87 i = nI 2 from (by simp [am_up, am_upf, upd, hst])) ?_
  refine am_iconst (v := nI 1) dX11_isCalling_6 (by decide) ?_
  refine am_icmp_ne (tgt := 14) dX11_isCalling_7 (by decide) (fun _ => ?_) (fun h => absurd h (by decide))
  refine am_iconst (v := nI 0) dX11_isCalling_14 (by decide) ?_
  refine am_iret dX11_isCalling_15 rfl (am_nz (by decide)).1 ?_
  exact ⟨rfl, rfl⟩
theorem c_MisOver0 {G : am_G} (hG : am_okM G) {d : Nat} (I : am_I)  (hlk : I 0 60 52 = (-1 : Int32)) (hft : I 0 60 54 = nI 0) : am_C G d mX11_isOver [.inr (0, 60)] I (am_E (some (nI 0)) (I)) := by
  refine am_of (by decide +kernel) hG.nd (Nat.le_of_ble_eq_true rfl) ?_
  refine am_aload_n dX11_isOver_0 rfl ?_
  refine am_get (v := .inl (I 0 60 52)) dX11_isOver_1 fl_11_295 (hG.m0 (by decide)) rfl ?_
  refine am_top (show I 0 60 52 = (-1 : Int32) from (by simp [am_up, am_upf, upd, hlk, hft])) ?_
  refine am_iconst (v := (-1 : Int32)) dX11_isOver_4 (by decide) ?_
  refine am_icmp_ne (tgt := 15) dX11_isOver_5 (by decide) (fun h => absurd h (by decide)) (fun _ => ?_)
  refine am_aload_n dX11_isOver_8 rfl ?_
  refine am_get (v := .inl (I 0 60 54)) dX11_isOver_9 fl_11_304 (hG.m0 (by decide)) rfl ?_
  refine am_top (show I 0 60 54 = nI 0 from (by simp [am_up, am_upf, upd, hlk, hft])) ?_
  refine am_if_eq (tgt := 19) dX11_isOver_12 (by decide) (fun _ => ?_) (fun h => absurd h (by decide))
  refine am_iconst (v := nI 0) dX11_isOver_19 (by decide) ?_
  refine am_iret dX11_isOver_20 rfl (am_nz (by decide)).1 ?_
  exact ⟨rfl, rfl⟩
theorem c_Mmeets0 {G : am_G} (hG : am_okM G) {d : Nat} {r : Nat} (hr : r < 136) (x : Int32) {i : Nat} (hi : i < G.2.2.2.1) (I : am_I)  (hlk : I 0 60 52 = (-1 : Int32)) (hft : I 0 60 54 = nI 0) (hwh : I 0 60 51 = nI i) (hp : I 0 79 (136 * i + r) = nI 0) : am_C G (d + 1) mX11_meets [.inr (0, 60), .inl (nI r), .inl x] I (am_E (some (nI 0)) (am_up (am_up I 0 60 52 (nI r)) 0 60 53 x)) := by
  have hn4 := hG.hi
  have hn2 := hG.lo
  refine am_of (by decide +kernel) hG.nd (Nat.le_of_ble_eq_true rfl) ?_
  refine am_aload_n dX11_meets_0 rfl ?_
  refine am_callVx (i := 0) (j := 60) (as := []) (rest := []) dX11_meets_1 lkX11_isOver ml_X11_322 imX11_isOver seX11_isOver rfl rfl (hG.m0 (by decide)) rfl (Nat.le_of_ble_eq_true rfl) rfl (c_MisOver0 hG I (by simp [am_up, am_upf, upd, hlk, hft, hwh, hp]) (by simp [am_up, am_upf, upd, hlk, hft, hwh, hp])) ?_
  refine am_if_eq (tgt := 9) dX11_meets_4 (by decide) (fun _ => ?_) (fun h => absurd h (by decide))
  refine am_aload_n dX11_meets_9 rfl ?_
  refine am_get (v := .inr (0, 79)) dX11_meets_10 fl_11_57 (hG.m0 (by decide)) rfl ?_
  refine am_aload_n dX11_meets_13 rfl ?_
  refine am_get (v := .inl (I 0 60 51)) dX11_meets_14 fl_11_319 (hG.m0 (by decide)) rfl ?_
  refine am_top (show I 0 60 51 = nI i from (by simp [am_up, am_upf, upd, hlk, hft, hwh, hp])) ?_
  refine am_iload_n dX11_meets_17 rfl ?_
  refine am_callSx (as := [.inl (nI i), .inl (nI r)]) (rest := [.inr (0, 79)]) dX11_meets_18 lkX11_at ml_X11_208 isX11_at rfl (Nat.le_of_ble_eq_true rfl) rfl (c_Mat hG.nd (g := i) (r := r) (by omega) (by omega) I) ?_
  refine am_zald (a := 136 * i + r) dX11_meets_21 (hG.m0 (by decide)) rfl rfl (show 136 * i + r < 544 from (by omega)) (show 544 < 2 ^ 31 by decide) ?_
  refine am_top (show I 0 79 (136 * i + r) = nI 0 from (by simp [am_up, am_upf, upd, hlk, hft, hwh, hp])) ?_
  refine am_if_eq (tgt := 44) dX11_meets_22 (by decide) (fun _ => ?_) (fun h => absurd h (by decide))
  refine am_aload_n dX11_meets_44 rfl ?_
  refine am_iload_n dX11_meets_45 rfl ?_
  refine am_put (x := nI r) dX11_meets_46 fp_11_295 (hG.m0 (by decide)) (Nat.le_of_ble_eq_true rfl) rfl ?_
  refine am_aload_n dX11_meets_49 rfl ?_
  refine am_iload_n dX11_meets_50 rfl ?_
  refine am_put (x := x) dX11_meets_51 fp_11_301 (hG.m0 (by decide)) (Nat.le_of_ble_eq_true rfl) rfl ?_
  refine am_iconst (v := nI 0) dX11_meets_54 (by decide) ?_
  refine am_iret dX11_meets_55 rfl (am_nz (by decide)).1 ?_
  exact ⟨rfl, rfl⟩
theorem c_MisOf0 {G : am_G} (hG : am_okM G) {d : Nat} {r : Nat} (hr : r < 136) (x : Int32) (y : Int32) (z : Int32) {i : Nat} (hi : i < G.2.2.2.1) (I : am_I)  (hlk : I 0 60 52 = (-1 : Int32)) (hft : I 0 60 54 = nI 0) (hwh : I 0 60 51 = nI i) (hp : I 0 79 (136 * i + r) = nI 0) : am_C G (d + 2) mX11_isOf [.inr (0, 60), .inl (nI r), .inl x, .inl y, .inl z] I (am_E (some (nI 0)) (am_up (am_up I 0 60 52 (nI r)) 0 60 53 x)) := by
  have hn4 := hG.hi
  have hn2 := hG.lo
  refine am_of (by decide +kernel) hG.nd (Nat.le_of_ble_eq_true rfl) ?_
  refine am_aload_n dX11_isOf_0 rfl ?_
  refine am_iload_n dX11_isOf_1 rfl ?_
  refine am_iload_n dX11_isOf_2 rfl ?_
  refine am_callVx (i := 0) (j := 60) (as := [.inl (nI r), .inl x]) (rest := []) dX11_isOf_3 lkX11_meets ml_X11_338 imX11_meets seX11_meets rfl rfl (hG.m0 (by decide)) rfl (Nat.le_of_ble_eq_true rfl) rfl (c_Mmeets0 hG (by omega) x hi I (by simp [am_up, am_upf, upd, hlk, hft, hwh, hp]) (by simp [am_up, am_upf, upd, hlk, hft, hwh, hp]) (by simp [am_up, am_upf, upd, hlk, hft, hwh, hp]) (by simp [am_up, am_upf, upd, hlk, hft, hwh, hp])) ?_
  refine am_if_ne (tgt := 11) dX11_isOf_6 (by decide) (fun h => absurd h (by decide)) (fun _ => ?_)
  refine am_iconst (v := nI 0) dX11_isOf_9 (by decide) ?_
  refine am_iret dX11_isOf_10 rfl (am_nz (by decide)).1 ?_
  exact ⟨rfl, rfl⟩
theorem c_MtryLook0 {G : am_G} (hG : am_okM G) {d : Nat} {i a : Nat} (hi : i < G.2.2.2.1) (hab : a < 128) (b : Int32) (I : am_I)  (hlk : I 0 60 52 = (-1 : Int32)) (hft : I 0 60 54 = nI 0) (hwh : I 0 60 51 = nI i) (hp : I 0 79 (136 * i + a) = nI 0) : am_C G (d + 3) mX11_tryLook [.inr (0, 60), .inl (nI a), .inl b] I (am_E none (am_up (am_up I 0 60 52 (nI a)) 0 60 53 (nI 1))) := by
  have hn4 := hG.hi
  have hn2 := hG.lo
  refine am_of (by decide +kernel) hG.nd (Nat.le_of_ble_eq_true rfl) ?_
  refine am_aload_n dX11_tryLook_0 rfl ?_
  refine am_iload_n dX11_tryLook_1 rfl ?_
  refine am_iconst (v := nI 1) dX11_tryLook_2 (by decide) ?_
  refine am_iconst (v := nI 2) dX11_tryLook_3 (by decide) ?_
  refine am_bipush (v := (-2 : Int32)) dX11_tryLook_4 (by decide) ?_
  refine am_callVx (i := 0) (j := 60) (as := [.inl (nI a), .inl (nI 1), .inl (nI 2), .inl (-2 : Int32)]) (rest := []) dX11_tryLook_6 lkX11_isOf ml_X11_390 imX11_isOf seX11_isOf rfl rfl (hG.m0 (by decide)) rfl (Nat.le_of_ble_eq_true rfl) rfl (c_MisOf0 hG (by omega) (nI 1) (nI 2) (-2 : Int32) hi I (by simp [am_up, am_upf, upd, hlk, hft, hwh, hp]) (by simp [am_up, am_upf, upd, hlk, hft, hwh, hp]) (by simp [am_up, am_upf, upd, hlk, hft, hwh, hp]) (by simp [am_up, am_upf, upd, hlk, hft, hwh, hp])) ?_
  refine am_if_ne (tgt := 13) dX11_tryLook_9 (by decide) (fun h => absurd h (by decide)) (fun _ => ?_)
  refine am_vret dX11_tryLook_12 rfl ?_
  exact ⟨rfl, rfl⟩
theorem c_MtryMake0 {G : am_G} (hG : am_okM G) {d : Nat} {i a : Nat} (hi : i < G.2.2.2.1) (hab : a < 128) (b : Int32) (c : Int32) (I : am_I)  (hlk : I 0 60 52 = (-1 : Int32)) (hft : I 0 60 54 = nI 0) (hwh : I 0 60 51 = nI i) (hp : I 0 79 (136 * i + a) = nI 0) : am_C G (d + 3) mX11_tryMake [.inr (0, 60), .inl (nI a), .inl b, .inl c] I (am_E none (am_up (am_up I 0 60 52 (nI a)) 0 60 53 (nI 2))) := by
  have hn4 := hG.hi
  have hn2 := hG.lo
  refine am_of (by decide +kernel) hG.nd (Nat.le_of_ble_eq_true rfl) ?_
  refine am_aload_n dX11_tryMake_0 rfl ?_
  refine am_iload_n dX11_tryMake_1 rfl ?_
  refine am_iconst (v := nI 2) dX11_tryMake_2 (by decide) ?_
  refine am_iconst (v := nI 2) dX11_tryMake_3 (by decide) ?_
  refine am_bipush (v := (-2 : Int32)) dX11_tryMake_4 (by decide) ?_
  refine am_callVx (i := 0) (j := 60) (as := [.inl (nI a), .inl (nI 2), .inl (nI 2), .inl (-2 : Int32)]) (rest := []) dX11_tryMake_6 lkX11_isOf ml_X11_390 imX11_isOf seX11_isOf rfl rfl (hG.m0 (by decide)) rfl (Nat.le_of_ble_eq_true rfl) rfl (c_MisOf0 hG (by omega) (nI 2) (nI 2) (-2 : Int32) hi I (by simp [am_up, am_upf, upd, hlk, hft, hwh, hp]) (by simp [am_up, am_upf, upd, hlk, hft, hwh, hp]) (by simp [am_up, am_upf, upd, hlk, hft, hwh, hp]) (by simp [am_up, am_upf, upd, hlk, hft, hwh, hp])) ?_
  refine am_if_ne (tgt := 13) dX11_tryMake_9 (by decide) (fun h => absurd h (by decide)) (fun _ => ?_)
  refine am_vret dX11_tryMake_12 rfl ?_
  exact ⟨rfl, rfl⟩
theorem c_MtryRemove0 {G : am_G} (hG : am_okM G) {d : Nat} {i a : Nat} (hi : i < G.2.2.2.1) (hab : a < 128) (b : Int32) (I : am_I)  (hlk : I 0 60 52 = (-1 : Int32)) (hft : I 0 60 54 = nI 0) (hwh : I 0 60 51 = nI i) (hp : I 0 79 (136 * i + a) = nI 0) : am_C G (d + 3) mX11_tryRemove [.inr (0, 60), .inl (nI a), .inl b] I (am_E none (am_up (am_up I 0 60 52 (nI a)) 0 60 53 (nI 2))) := by
  have hn4 := hG.hi
  have hn2 := hG.lo
  refine am_of (by decide +kernel) hG.nd (Nat.le_of_ble_eq_true rfl) ?_
  refine am_aload_n dX11_tryRemove_0 rfl ?_
  refine am_iload_n dX11_tryRemove_1 rfl ?_
  refine am_iconst (v := nI 2) dX11_tryRemove_2 (by decide) ?_
  refine am_iconst (v := nI 2) dX11_tryRemove_3 (by decide) ?_
  refine am_bipush (v := (-2 : Int32)) dX11_tryRemove_4 (by decide) ?_
  refine am_callVx (i := 0) (j := 60) (as := [.inl (nI a), .inl (nI 2), .inl (nI 2), .inl (-2 : Int32)]) (rest := []) dX11_tryRemove_6 lkX11_isOf ml_X11_390 imX11_isOf seX11_isOf rfl rfl (hG.m0 (by decide)) rfl (Nat.le_of_ble_eq_true rfl) rfl (c_MisOf0 hG (by omega) (nI 2) (nI 2) (-2 : Int32) hi I (by simp [am_up, am_upf, upd, hlk, hft, hwh, hp]) (by simp [am_up, am_upf, upd, hlk, hft, hwh, hp]) (by simp [am_up, am_upf, upd, hlk, hft, hwh, hp]) (by simp [am_up, am_upf, upd, hlk, hft, hwh, hp])) ?_
  refine am_if_ne (tgt := 13) dX11_tryRemove_9 (by decide) (fun h => absurd h (by decide)) (fun _ => ?_)
  refine am_vret dX11_tryRemove_12 rfl ?_
  exact ⟨rfl, rfl⟩
theorem c_MtryLink0 {G : am_G} (hG : am_okM G) {d : Nat} {i a : Nat} (hi : i < G.2.2.2.1) (hab : a < 128) (b : Int32) (c : Int32) (I : am_I)  (hlk : I 0 60 52 = (-1 : Int32)) (hft : I 0 60 54 = nI 0) (hwh : I 0 60 51 = nI i) (hp : I 0 79 (136 * i + a) = nI 0) : am_C G (d + 3) mX11_tryLink [.inr (0, 60), .inl (nI a), .inl b, .inl c] I (am_E none (am_up (am_up I 0 60 52 (nI a)) 0 60 53 (nI 2))) := by
  have hn4 := hG.hi
  have hn2 := hG.lo
  refine am_of (by decide +kernel) hG.nd (Nat.le_of_ble_eq_true rfl) ?_
  refine am_aload_n dX11_tryLink_0 rfl ?_
  refine am_iload_n dX11_tryLink_1 rfl ?_
  refine am_iconst (v := nI 2) dX11_tryLink_2 (by decide) ?_
  refine am_iconst (v := nI 2) dX11_tryLink_3 (by decide) ?_
  refine am_bipush (v := (-2 : Int32)) dX11_tryLink_4 (by decide) ?_
  refine am_callVx (i := 0) (j := 60) (as := [.inl (nI a), .inl (nI 2), .inl (nI 2), .inl (-2 : Int32)]) (rest := []) dX11_tryLink_6 lkX11_isOf ml_X11_390 imX11_isOf seX11_isOf rfl rfl (hG.m0 (by decide)) rfl (Nat.le_of_ble_eq_true rfl) rfl (c_MisOf0 hG (by omega) (nI 2) (nI 2) (-2 : Int32) hi I (by simp [am_up, am_upf, upd, hlk, hft, hwh, hp]) (by simp [am_up, am_upf, upd, hlk, hft, hwh, hp]) (by simp [am_up, am_upf, upd, hlk, hft, hwh, hp]) (by simp [am_up, am_upf, upd, hlk, hft, hwh, hp])) ?_
  refine am_if_ne (tgt := 13) dX11_tryLink_9 (by decide) (fun h => absurd h (by decide)) (fun _ => ?_)
  refine am_vret dX11_tryLink_12 rfl ?_
  exact ⟨rfl, rfl⟩
theorem c_MtryRename0 {G : am_G} (hG : am_okM G) {d : Nat} {i a : Nat} (hi : i < G.2.2.2.1) (hab : a < 128) (b : Int32) (c : Int32) (e : Int32) (I : am_I)  (hlk : I 0 60 52 = (-1 : Int32)) (hft : I 0 60 54 = nI 0) (hwh : I 0 60 51 = nI i) (hp : I 0 79 (136 * i + a) = nI 0) : am_C G (d + 3) mX11_tryRename [.inr (0, 60), .inl (nI a), .inl b, .inl c, .inl e] I (am_E none (am_up (am_up I 0 60 52 (nI a)) 0 60 53 (nI 2))) := by
  have hn4 := hG.hi
  have hn2 := hG.lo
  refine am_of (by decide +kernel) hG.nd (Nat.le_of_ble_eq_true rfl) ?_
  refine am_aload_n dX11_tryRename_0 rfl ?_
  refine am_iload_n dX11_tryRename_1 rfl ?_
  refine am_iconst (v := nI 2) dX11_tryRename_2 (by decide) ?_
  refine am_iconst (v := nI 2) dX11_tryRename_3 (by decide) ?_
  refine am_bipush (v := (-2 : Int32)) dX11_tryRename_4 (by decide) ?_
  refine am_callVx (i := 0) (j := 60) (as := [.inl (nI a), .inl (nI 2), .inl (nI 2), .inl (-2 : Int32)]) (rest := []) dX11_tryRename_6 lkX11_isOf ml_X11_390 imX11_isOf seX11_isOf rfl rfl (hG.m0 (by decide)) rfl (Nat.le_of_ble_eq_true rfl) rfl (c_MisOf0 hG (by omega) (nI 2) (nI 2) (-2 : Int32) hi I (by simp [am_up, am_upf, upd, hlk, hft, hwh, hp]) (by simp [am_up, am_upf, upd, hlk, hft, hwh, hp]) (by simp [am_up, am_upf, upd, hlk, hft, hwh, hp]) (by simp [am_up, am_upf, upd, hlk, hft, hwh, hp])) ?_
  refine am_if_eq (tgt := 24) dX11_tryRename_9 (by decide) (fun _ => ?_) (fun h => absurd h (by decide))
  refine am_vret dX11_tryRename_24 rfl ?_
  exact ⟨rfl, rfl⟩
theorem c_MtryWrite0 {G : am_G} (hG : am_okM G) {d : Nat} {i a : Nat} (hi : i < G.2.2.2.1) (hab : a < 128) (b : Int32) (c : Int32) (e : Int32) (I : am_I)  (hlk : I 0 60 52 = (-1 : Int32)) (hft : I 0 60 54 = nI 0) (hwh : I 0 60 51 = nI i) (hp : I 0 79 (136 * i + a) = nI 0) : am_C G (d + 3) mX11_tryWrite [.inr (0, 60), .inl (nI a), .inl b, .inl c, .inl e] I (am_E none (am_up (am_up I 0 60 52 (nI a)) 0 60 53 (nI 2))) := by
  have hn4 := hG.hi
  have hn2 := hG.lo
  refine am_of (by decide +kernel) hG.nd (Nat.le_of_ble_eq_true rfl) ?_
  refine am_aload_n dX11_tryWrite_0 rfl ?_
  refine am_iload_n dX11_tryWrite_1 rfl ?_
  refine am_iconst (v := nI 2) dX11_tryWrite_2 (by decide) ?_
  refine am_iconst (v := nI 1) dX11_tryWrite_3 (by decide) ?_
  refine am_bipush (v := (-4 : Int32)) dX11_tryWrite_4 (by decide) ?_
  refine am_callVx (i := 0) (j := 60) (as := [.inl (nI a), .inl (nI 2), .inl (nI 1), .inl (-4 : Int32)]) (rest := []) dX11_tryWrite_6 lkX11_isOf ml_X11_390 imX11_isOf seX11_isOf rfl rfl (hG.m0 (by decide)) rfl (Nat.le_of_ble_eq_true rfl) rfl (c_MisOf0 hG (by omega) (nI 2) (nI 1) (-4 : Int32) hi I (by simp [am_up, am_upf, upd, hlk, hft, hwh, hp]) (by simp [am_up, am_upf, upd, hlk, hft, hwh, hp]) (by simp [am_up, am_upf, upd, hlk, hft, hwh, hp]) (by simp [am_up, am_upf, upd, hlk, hft, hwh, hp])) ?_
  refine am_if_ne (tgt := 13) dX11_tryWrite_9 (by decide) (fun h => absurd h (by decide)) (fun _ => ?_)
  refine am_vret dX11_tryWrite_12 rfl ?_
  exact ⟨rfl, rfl⟩
theorem c_MtryAppend0 {G : am_G} (hG : am_okM G) {d : Nat} {i a : Nat} (hi : i < G.2.2.2.1) (hab : a < 128) (b : Int32) (I : am_I)  (hlk : I 0 60 52 = (-1 : Int32)) (hft : I 0 60 54 = nI 0) (hwh : I 0 60 51 = nI i) (hp : I 0 79 (136 * i + a) = nI 0) : am_C G (d + 3) mX11_tryAppend [.inr (0, 60), .inl (nI a), .inl b] I (am_E none (am_up (am_up I 0 60 52 (nI a)) 0 60 53 (nI 2))) := by
  have hn4 := hG.hi
  have hn2 := hG.lo
  refine am_of (by decide +kernel) hG.nd (Nat.le_of_ble_eq_true rfl) ?_
  refine am_aload_n dX11_tryAppend_0 rfl ?_
  refine am_iload_n dX11_tryAppend_1 rfl ?_
  refine am_iconst (v := nI 2) dX11_tryAppend_2 (by decide) ?_
  refine am_iconst (v := nI 1) dX11_tryAppend_3 (by decide) ?_
  refine am_bipush (v := (-4 : Int32)) dX11_tryAppend_4 (by decide) ?_
  refine am_callVx (i := 0) (j := 60) (as := [.inl (nI a), .inl (nI 2), .inl (nI 1), .inl (-4 : Int32)]) (rest := []) dX11_tryAppend_6 lkX11_isOf ml_X11_390 imX11_isOf seX11_isOf rfl rfl (hG.m0 (by decide)) rfl (Nat.le_of_ble_eq_true rfl) rfl (c_MisOf0 hG (by omega) (nI 2) (nI 1) (-4 : Int32) hi I (by simp [am_up, am_upf, upd, hlk, hft, hwh, hp]) (by simp [am_up, am_upf, upd, hlk, hft, hwh, hp]) (by simp [am_up, am_upf, upd, hlk, hft, hwh, hp]) (by simp [am_up, am_upf, upd, hlk, hft, hwh, hp])) ?_
  refine am_if_ne (tgt := 13) dX11_tryAppend_9 (by decide) (fun h => absurd h (by decide)) (fun _ => ?_)
  refine am_vret dX11_tryAppend_12 rfl ?_
  exact ⟨rfl, rfl⟩
theorem c_MtryCount0 {G : am_G} (hG : am_okM G) {d : Nat} {i a : Nat} (hi : i < G.2.2.2.1) (hab : a < 128) (I : am_I)  (hlk : I 0 60 52 = (-1 : Int32)) (hft : I 0 60 54 = nI 0) (hwh : I 0 60 51 = nI i) (hp : I 0 79 (136 * i + a) = nI 0) : am_C G (d + 3) mX11_tryCount [.inr (0, 60), .inl (nI a)] I (am_E none (am_up (am_up I 0 60 52 (nI a)) 0 60 53 (nI 1))) := by
  have hn4 := hG.hi
  have hn2 := hG.lo
  refine am_of (by decide +kernel) hG.nd (Nat.le_of_ble_eq_true rfl) ?_
  refine am_aload_n dX11_tryCount_0 rfl ?_
  refine am_iload_n dX11_tryCount_1 rfl ?_
  refine am_iconst (v := nI 1) dX11_tryCount_2 (by decide) ?_
  refine am_iconst (v := nI 2) dX11_tryCount_3 (by decide) ?_
  refine am_bipush (v := (-2 : Int32)) dX11_tryCount_4 (by decide) ?_
  refine am_callVx (i := 0) (j := 60) (as := [.inl (nI a), .inl (nI 1), .inl (nI 2), .inl (-2 : Int32)]) (rest := []) dX11_tryCount_6 lkX11_isOf ml_X11_390 imX11_isOf seX11_isOf rfl rfl (hG.m0 (by decide)) rfl (Nat.le_of_ble_eq_true rfl) rfl (c_MisOf0 hG (by omega) (nI 1) (nI 2) (-2 : Int32) hi I (by simp [am_up, am_upf, upd, hlk, hft, hwh, hp]) (by simp [am_up, am_upf, upd, hlk, hft, hwh, hp]) (by simp [am_up, am_upf, upd, hlk, hft, hwh, hp]) (by simp [am_up, am_upf, upd, hlk, hft, hwh, hp])) ?_
  refine am_if_ne (tgt := 13) dX11_tryCount_9 (by decide) (fun h => absurd h (by decide)) (fun _ => ?_)
  refine am_vret dX11_tryCount_12 rfl ?_
  exact ⟨rfl, rfl⟩
theorem c_MtryCut0 {G : am_G} (hG : am_okM G) {d : Nat} {i a : Nat} (hi : i < G.2.2.2.1) (hab : a < 128) (b : Int32) (I : am_I)  (hlk : I 0 60 52 = (-1 : Int32)) (hft : I 0 60 54 = nI 0) (hwh : I 0 60 51 = nI i) (hp : I 0 79 (136 * i + a) = nI 0) : am_C G (d + 3) mX11_tryCut [.inr (0, 60), .inl (nI a), .inl b] I (am_E none (am_up (am_up I 0 60 52 (nI a)) 0 60 53 (nI 2))) := by
  have hn4 := hG.hi
  have hn2 := hG.lo
  refine am_of (by decide +kernel) hG.nd (Nat.le_of_ble_eq_true rfl) ?_
  refine am_aload_n dX11_tryCut_0 rfl ?_
  refine am_iload_n dX11_tryCut_1 rfl ?_
  refine am_iconst (v := nI 2) dX11_tryCut_2 (by decide) ?_
  refine am_iconst (v := nI 1) dX11_tryCut_3 (by decide) ?_
  refine am_bipush (v := (-4 : Int32)) dX11_tryCut_4 (by decide) ?_
  refine am_callVx (i := 0) (j := 60) (as := [.inl (nI a), .inl (nI 2), .inl (nI 1), .inl (-4 : Int32)]) (rest := []) dX11_tryCut_6 lkX11_isOf ml_X11_390 imX11_isOf seX11_isOf rfl rfl (hG.m0 (by decide)) rfl (Nat.le_of_ble_eq_true rfl) rfl (c_MisOf0 hG (by omega) (nI 2) (nI 1) (-4 : Int32) hi I (by simp [am_up, am_upf, upd, hlk, hft, hwh, hp]) (by simp [am_up, am_upf, upd, hlk, hft, hwh, hp]) (by simp [am_up, am_upf, upd, hlk, hft, hwh, hp]) (by simp [am_up, am_upf, upd, hlk, hft, hwh, hp])) ?_
  refine am_if_ne (tgt := 13) dX11_tryCut_9 (by decide) (fun h => absurd h (by decide)) (fun _ => ?_)
  refine am_vret dX11_tryCut_12 rfl ?_
  exact ⟨rfl, rfl⟩
theorem c_MtryEntry0 {G : am_G} (hG : am_okM G) {d : Nat} {i a : Nat} (hi : i < G.2.2.2.1) (hab : a < 128) (b : Int32) (I : am_I)  (hlk : I 0 60 52 = (-1 : Int32)) (hft : I 0 60 54 = nI 0) (hwh : I 0 60 51 = nI i) (hp : I 0 79 (136 * i + a) = nI 0) : am_C G (d + 3) mX11_tryEntry [.inr (0, 60), .inl (nI a), .inl b] I (am_E none (am_up (am_up I 0 60 52 (nI a)) 0 60 53 (nI 1))) := by
  have hn4 := hG.hi
  have hn2 := hG.lo
  refine am_of (by decide +kernel) hG.nd (Nat.le_of_ble_eq_true rfl) ?_
  refine am_aload_n dX11_tryEntry_0 rfl ?_
  refine am_iload_n dX11_tryEntry_1 rfl ?_
  refine am_iconst (v := nI 1) dX11_tryEntry_2 (by decide) ?_
  refine am_iconst (v := nI 2) dX11_tryEntry_3 (by decide) ?_
  refine am_bipush (v := (-2 : Int32)) dX11_tryEntry_4 (by decide) ?_
  refine am_callVx (i := 0) (j := 60) (as := [.inl (nI a), .inl (nI 1), .inl (nI 2), .inl (-2 : Int32)]) (rest := []) dX11_tryEntry_6 lkX11_isOf ml_X11_390 imX11_isOf seX11_isOf rfl rfl (hG.m0 (by decide)) rfl (Nat.le_of_ble_eq_true rfl) rfl (c_MisOf0 hG (by omega) (nI 1) (nI 2) (-2 : Int32) hi I (by simp [am_up, am_upf, upd, hlk, hft, hwh, hp]) (by simp [am_up, am_upf, upd, hlk, hft, hwh, hp]) (by simp [am_up, am_upf, upd, hlk, hft, hwh, hp]) (by simp [am_up, am_upf, upd, hlk, hft, hwh, hp])) ?_
  refine am_if_ne (tgt := 13) dX11_tryEntry_9 (by decide) (fun h => absurd h (by decide)) (fun _ => ?_)
  refine am_vret dX11_tryEntry_12 rfl ?_
  exact ⟨rfl, rfl⟩
theorem c_MtryStat0 {G : am_G} (hG : am_okM G) {d : Nat} {i a : Nat} (hi : i < G.2.2.2.1) (hab : a < 128) (b : Int32) (I : am_I)  (hlk : I 0 60 52 = (-1 : Int32)) (hft : I 0 60 54 = nI 0) (hwh : I 0 60 51 = nI i) (hp : I 0 79 (136 * i + a) = nI 0) : am_C G (d + 3) mX11_tryStat [.inr (0, 60), .inl (nI a), .inl b] I (am_E none (am_up (am_up I 0 60 52 (nI a)) 0 60 53 (nI 1))) := by
  have hn4 := hG.hi
  have hn2 := hG.lo
  refine am_of (by decide +kernel) hG.nd (Nat.le_of_ble_eq_true rfl) ?_
  refine am_aload_n dX11_tryStat_0 rfl ?_
  refine am_iload_n dX11_tryStat_1 rfl ?_
  refine am_iconst (v := nI 1) dX11_tryStat_2 (by decide) ?_
  refine am_callVx (i := 0) (j := 60) (as := [.inl (nI a), .inl (nI 1)]) (rest := []) dX11_tryStat_3 lkX11_meets ml_X11_338 imX11_meets seX11_meets rfl rfl (hG.m0 (by decide)) rfl (Nat.le_of_ble_eq_true rfl) rfl (c_Mmeets0 hG (by omega) (nI 1) hi I (by simp [am_up, am_upf, upd, hlk, hft, hwh, hp]) (by simp [am_up, am_upf, upd, hlk, hft, hwh, hp]) (by simp [am_up, am_upf, upd, hlk, hft, hwh, hp]) (by simp [am_up, am_upf, upd, hlk, hft, hwh, hp])) ?_
  refine am_if_ne (tgt := 10) dX11_tryStat_6 (by decide) (fun h => absurd h (by decide)) (fun _ => ?_)
  refine am_vret dX11_tryStat_9 rfl ?_
  exact ⟨rfl, rfl⟩
theorem c_MtryRoom0 {G : am_G} (hG : am_okM G) {d : Nat} {i : Nat} (hi : i < G.2.2.2.1) (I : am_I)  (hlk : I 0 60 52 = (-1 : Int32)) (hft : I 0 60 54 = nI 0) (hwh : I 0 60 51 = nI i) (hp : I 0 79 (136 * i + 128) = nI 0) : am_C G (d + 3) mX11_tryRoom [.inr (0, 60)] I (am_E none (am_up (am_up I 0 60 52 (nI 128)) 0 60 53 (nI 1))) := by
  have hn4 := hG.hi
  have hn2 := hG.lo
  refine am_of (by decide +kernel) hG.nd (Nat.le_of_ble_eq_true rfl) ?_
  refine am_iconst (v := nI 0) dX11_tryRoom_0 (by decide) ?_
  refine am_istore_n dX11_tryRoom_1 (by decide) ?_
  refine am_iload_n dX11_tryRoom_2 rfl ?_
  refine am_bipush (v := nI 8) dX11_tryRoom_3 (by decide) ?_
  refine am_icmp_ge (tgt := 83) dX11_tryRoom_5 (by decide) (fun h => absurd h (by decide)) (fun _ => ?_)
  refine am_aload_n dX11_tryRoom_8 rfl ?_
  refine am_sipush (v := nI 128) dX11_tryRoom_9 (by decide) ?_
  refine am_iload_n dX11_tryRoom_12 rfl ?_
  refine am_iadd dX11_tryRoom_13 ?_
  refine am_top (show (nI 128) + (nI 0) = nI 128 by decide) ?_
  refine am_iconst (v := nI 1) dX11_tryRoom_14 (by decide) ?_
  refine am_callVx (i := 0) (j := 60) (as := [.inl (nI 128), .inl (nI 1)]) (rest := []) dX11_tryRoom_15 lkX11_meets ml_X11_338 imX11_meets seX11_meets rfl rfl (hG.m0 (by decide)) rfl (Nat.le_of_ble_eq_true rfl) rfl (c_Mmeets0 hG (by omega) (nI 1) hi I (by simp [am_up, am_upf, upd, hlk, hft, hwh, hp]) (by simp [am_up, am_upf, upd, hlk, hft, hwh, hp]) (by simp [am_up, am_upf, upd, hlk, hft, hwh, hp]) (by simp [am_up, am_upf, upd, hlk, hft, hwh, hp])) ?_
  refine am_if_ne (tgt := 22) dX11_tryRoom_18 (by decide) (fun h => absurd h (by decide)) (fun _ => ?_)
  refine am_vret dX11_tryRoom_21 rfl ?_
  exact ⟨rfl, rfl⟩
theorem c_Mattempt0 {G : am_G} (hG : am_okM G) {d : Nat} {i a : Nat} (hi : i < G.2.2.2.1) (hab : a < 128) (I : am_I)  (hkd : I 0 82 i = nI 0) (hp : I 0 79 (136 * i + a) = nI 0) (ha : I 0 83 i = nI a) : am_C G (d + 4) mX11_attempt [.inr (0, 60), .inl (nI i)] I (am_E none (am_up (am_up (am_up (am_up (am_up (am_up (am_up (am_up (am_up I 0 60 51 (nI i)) 0 60 52 (-1 : Int32)) 0 60 53 (nI 0)) 0 60 54 (nI 0)) 0 60 55 (nI 0)) 0 60 56 (nI 0)) 0 60 61 (nI 0)) 0 60 52 (nI a)) 0 60 53 (nI 1))) := by
  have hn4 := hG.hi
  have hn2 := hG.lo
  refine am_of (by decide +kernel) hG.nd (Nat.le_of_ble_eq_true rfl) ?_
  refine am_aload_n dX11_attempt_0 rfl ?_
  refine am_iload_n dX11_attempt_1 rfl ?_
  refine am_put (x := nI i) dX11_attempt_2 fp_11_319 (hG.m0 (by decide)) (Nat.le_of_ble_eq_true rfl) rfl ?_
  refine am_aload_n dX11_attempt_5 rfl ?_
  refine am_iconst (v := (-1 : Int32)) dX11_attempt_6 (by decide) ?_
  refine am_put (x := (-1 : Int32)) dX11_attempt_7 fp_11_295 (hG.m0 (by decide)) (Nat.le_of_ble_eq_true rfl) rfl ?_
  refine am_aload_n dX11_attempt_10 rfl ?_
  refine am_iconst (v := nI 0) dX11_attempt_11 (by decide) ?_
  refine am_put (x := nI 0) dX11_attempt_12 fp_11_301 (hG.m0 (by decide)) (Nat.le_of_ble_eq_true rfl) rfl ?_
  refine am_aload_n dX11_attempt_15 rfl ?_
  refine am_iconst (v := nI 0) dX11_attempt_16 (by decide) ?_
  refine am_put (x := nI 0) dX11_attempt_17 fp_11_304 (hG.m0 (by decide)) (Nat.le_of_ble_eq_true rfl) rfl ?_
  refine am_aload_n dX11_attempt_20 rfl ?_
  refine am_iconst (v := nI 0) dX11_attempt_21 (by decide) ?_
  refine am_put (x := nI 0) dX11_attempt_22 fp_11_316 (hG.m0 (by decide)) (Nat.le_of_ble_eq_true rfl) rfl ?_
  refine am_aload_n dX11_attempt_25 rfl ?_
  refine am_iconst (v := nI 0) dX11_attempt_26 (by decide) ?_
  refine am_put (x := nI 0) dX11_attempt_27 fp_11_307 (hG.m0 (by decide)) (Nat.le_of_ble_eq_true rfl) rfl ?_
  refine am_aload_n dX11_attempt_30 rfl ?_
  refine am_iconst (v := nI 0) dX11_attempt_31 (by decide) ?_
  refine am_put (x := nI 0) dX11_attempt_32 fp_11_310 (hG.m0 (by decide)) (Nat.le_of_ble_eq_true rfl) rfl ?_
  refine am_aload_n dX11_attempt_35 rfl ?_
  refine am_get (v := .inr (0, 83)) dX11_attempt_36 fl_11_69 (hG.m0 (by decide)) rfl ?_
  refine am_iload_n dX11_attempt_39 rfl ?_
  refine am_iald (a := i) dX11_attempt_40 (hG.m0 (by decide)) rfl rfl (show i < 4 from (by omega)) (show 4 < 2 ^ 31 by decide) ?_
  refine am_top (show (am_up (am_up (am_up (am_up (am_up (am_up (am_up I 0 60 51 (nI i)) 0 60 52 (-1 : Int32)) 0 60 53 (nI 0)) 0 60 54 (nI 0)) 0 60 55 (nI 0)) 0 60 56 (nI 0)) 0 60 61 (nI 0)) 0 83 i = nI a from (by simp [am_up, am_upf, upd, hkd, hp, ha])) ?_
  refine am_istore_n dX11_attempt_41 (by decide) ?_
  refine am_aload_n dX11_attempt_42 rfl ?_
  refine am_get (v := .inr (0, 84)) dX11_attempt_43 fl_11_72 (hG.m0 (by decide)) rfl ?_
  refine am_iload_n dX11_attempt_46 rfl ?_
  refine am_iald (a := i) dX11_attempt_47 (hG.m0 (by decide)) rfl rfl (show i < 4 from (by omega)) (show 4 < 2 ^ 31 by decide) ?_
  refine am_istore_n dX11_attempt_48 (by decide) ?_
  refine am_aload_n dX11_attempt_49 rfl ?_
  refine am_get (v := .inr (0, 85)) dX11_attempt_50 fl_11_75 (hG.m0 (by decide)) rfl ?_
  refine am_iload_n dX11_attempt_53 rfl ?_
  refine am_iald (a := i) dX11_attempt_54 (hG.m0 (by decide)) rfl rfl (show i < 4 from (by omega)) (show 4 < 2 ^ 31 by decide) ?_
  refine am_istore dX11_attempt_55 (by decide) ?_
  refine am_aload_n dX11_attempt_57 rfl ?_
  refine am_get (v := .inr (0, 82)) dX11_attempt_58 fl_11_66 (hG.m0 (by decide)) rfl ?_
  refine am_iload_n dX11_attempt_61 rfl ?_
  refine am_iald (a := i) dX11_attempt_62 (hG.m0 (by decide)) rfl rfl (show i < 4 from (by omega)) (show 4 < 2 ^ 31 by decide) ?_
  refine am_top (show (am_up (am_up (am_up (am_up (am_up (am_up (am_up I 0 60 51 (nI i)) 0 60 52 (-1 : Int32)) 0 60 53 (nI 0)) 0 60 54 (nI 0)) 0 60 55 (nI 0)) 0 60 56 (nI 0)) 0 60 61 (nI 0)) 0 82 i = nI 0 from (by simp [am_up, am_upf, upd, hkd, hp, ha])) ?_
  refine am_tabIn (off := 73) (tgt := 136) dX11_attempt_63 (by decide) (by decide) rfl (by decide) ?_
  refine am_aload_n dX11_attempt_136 rfl ?_
  refine am_iload_n dX11_attempt_137 rfl ?_
  refine am_iload_n dX11_attempt_138 rfl ?_
  refine am_callVe (i := 0) (j := 60) (as := [.inl (nI a), .inl ((am_up (am_up (am_up (am_up (am_up (am_up (am_up I 0 60 51 (nI i)) 0 60 52 (-1 : Int32)) 0 60 53 (nI 0)) 0 60 54 (nI 0)) 0 60 55 (nI 0)) 0 60 56 (nI 0)) 0 60 61 (nI 0)) 0 84 i)]) (rest := []) dX11_attempt_139 lkX11_tryLook ml_X11_375 imX11_tryLook seX11_tryLook rfl rfl (hG.m0 (by decide)) rfl (Nat.le_of_ble_eq_true rfl) rfl (c_MtryLook0 hG hi (by omega) ((am_up (am_up (am_up (am_up (am_up (am_up (am_up I 0 60 51 (nI i)) 0 60 52 (-1 : Int32)) 0 60 53 (nI 0)) 0 60 54 (nI 0)) 0 60 55 (nI 0)) 0 60 56 (nI 0)) 0 60 61 (nI 0)) 0 84 i) (am_up (am_up (am_up (am_up (am_up (am_up (am_up I 0 60 51 (nI i)) 0 60 52 (-1 : Int32)) 0 60 53 (nI 0)) 0 60 54 (nI 0)) 0 60 55 (nI 0)) 0 60 56 (nI 0)) 0 60 61 (nI 0)) (by simp [am_up, am_upf, upd, hkd, hp, ha]) (by simp [am_up, am_upf, upd, hkd, hp, ha]) (by simp [am_up, am_upf, upd, hkd, hp, ha]) (by simp [am_up, am_upf, upd, hkd, hp, ha])) ?_
  refine am_goto (tgt := 312) dX11_attempt_142 (by decide) ?_
  refine am_vret dX11_attempt_312 rfl ?_
  exact ⟨rfl, rfl⟩
theorem c_Mattempt1 {G : am_G} (hG : am_okM G) {d : Nat} {i a : Nat} (hi : i < G.2.2.2.1) (hab : a < 128) (I : am_I)  (hkd : I 0 82 i = nI 1) (hp : I 0 79 (136 * i + a) = nI 0) (ha : I 0 83 i = nI a) : am_C G (d + 4) mX11_attempt [.inr (0, 60), .inl (nI i)] I (am_E none (am_up (am_up (am_up (am_up (am_up (am_up (am_up (am_up (am_up I 0 60 51 (nI i)) 0 60 52 (-1 : Int32)) 0 60 53 (nI 0)) 0 60 54 (nI 0)) 0 60 55 (nI 0)) 0 60 56 (nI 0)) 0 60 61 (nI 0)) 0 60 52 (nI a)) 0 60 53 (nI 2))) := by
  have hn4 := hG.hi
  have hn2 := hG.lo
  refine am_of (by decide +kernel) hG.nd (Nat.le_of_ble_eq_true rfl) ?_
  refine am_aload_n dX11_attempt_0 rfl ?_
  refine am_iload_n dX11_attempt_1 rfl ?_
  refine am_put (x := nI i) dX11_attempt_2 fp_11_319 (hG.m0 (by decide)) (Nat.le_of_ble_eq_true rfl) rfl ?_
  refine am_aload_n dX11_attempt_5 rfl ?_
  refine am_iconst (v := (-1 : Int32)) dX11_attempt_6 (by decide) ?_
  refine am_put (x := (-1 : Int32)) dX11_attempt_7 fp_11_295 (hG.m0 (by decide)) (Nat.le_of_ble_eq_true rfl) rfl ?_
  refine am_aload_n dX11_attempt_10 rfl ?_
  refine am_iconst (v := nI 0) dX11_attempt_11 (by decide) ?_
  refine am_put (x := nI 0) dX11_attempt_12 fp_11_301 (hG.m0 (by decide)) (Nat.le_of_ble_eq_true rfl) rfl ?_
  refine am_aload_n dX11_attempt_15 rfl ?_
  refine am_iconst (v := nI 0) dX11_attempt_16 (by decide) ?_
  refine am_put (x := nI 0) dX11_attempt_17 fp_11_304 (hG.m0 (by decide)) (Nat.le_of_ble_eq_true rfl) rfl ?_
  refine am_aload_n dX11_attempt_20 rfl ?_
  refine am_iconst (v := nI 0) dX11_attempt_21 (by decide) ?_
  refine am_put (x := nI 0) dX11_attempt_22 fp_11_316 (hG.m0 (by decide)) (Nat.le_of_ble_eq_true rfl) rfl ?_
  refine am_aload_n dX11_attempt_25 rfl ?_
  refine am_iconst (v := nI 0) dX11_attempt_26 (by decide) ?_
  refine am_put (x := nI 0) dX11_attempt_27 fp_11_307 (hG.m0 (by decide)) (Nat.le_of_ble_eq_true rfl) rfl ?_
  refine am_aload_n dX11_attempt_30 rfl ?_
  refine am_iconst (v := nI 0) dX11_attempt_31 (by decide) ?_
  refine am_put (x := nI 0) dX11_attempt_32 fp_11_310 (hG.m0 (by decide)) (Nat.le_of_ble_eq_true rfl) rfl ?_
  refine am_aload_n dX11_attempt_35 rfl ?_
  refine am_get (v := .inr (0, 83)) dX11_attempt_36 fl_11_69 (hG.m0 (by decide)) rfl ?_
  refine am_iload_n dX11_attempt_39 rfl ?_
  refine am_iald (a := i) dX11_attempt_40 (hG.m0 (by decide)) rfl rfl (show i < 4 from (by omega)) (show 4 < 2 ^ 31 by decide) ?_
  refine am_top (show (am_up (am_up (am_up (am_up (am_up (am_up (am_up I 0 60 51 (nI i)) 0 60 52 (-1 : Int32)) 0 60 53 (nI 0)) 0 60 54 (nI 0)) 0 60 55 (nI 0)) 0 60 56 (nI 0)) 0 60 61 (nI 0)) 0 83 i = nI a from (by simp [am_up, am_upf, upd, hkd, hp, ha])) ?_
  refine am_istore_n dX11_attempt_41 (by decide) ?_
  refine am_aload_n dX11_attempt_42 rfl ?_
  refine am_get (v := .inr (0, 84)) dX11_attempt_43 fl_11_72 (hG.m0 (by decide)) rfl ?_
  refine am_iload_n dX11_attempt_46 rfl ?_
  refine am_iald (a := i) dX11_attempt_47 (hG.m0 (by decide)) rfl rfl (show i < 4 from (by omega)) (show 4 < 2 ^ 31 by decide) ?_
  refine am_istore_n dX11_attempt_48 (by decide) ?_
  refine am_aload_n dX11_attempt_49 rfl ?_
  refine am_get (v := .inr (0, 85)) dX11_attempt_50 fl_11_75 (hG.m0 (by decide)) rfl ?_
  refine am_iload_n dX11_attempt_53 rfl ?_
  refine am_iald (a := i) dX11_attempt_54 (hG.m0 (by decide)) rfl rfl (show i < 4 from (by omega)) (show 4 < 2 ^ 31 by decide) ?_
  refine am_istore dX11_attempt_55 (by decide) ?_
  refine am_aload_n dX11_attempt_57 rfl ?_
  refine am_get (v := .inr (0, 82)) dX11_attempt_58 fl_11_66 (hG.m0 (by decide)) rfl ?_
  refine am_iload_n dX11_attempt_61 rfl ?_
  refine am_iald (a := i) dX11_attempt_62 (hG.m0 (by decide)) rfl rfl (show i < 4 from (by omega)) (show 4 < 2 ^ 31 by decide) ?_
  refine am_top (show (am_up (am_up (am_up (am_up (am_up (am_up (am_up I 0 60 51 (nI i)) 0 60 52 (-1 : Int32)) 0 60 53 (nI 0)) 0 60 54 (nI 0)) 0 60 55 (nI 0)) 0 60 56 (nI 0)) 0 60 61 (nI 0)) 0 82 i = nI 1 from (by simp [am_up, am_upf, upd, hkd, hp, ha])) ?_
  refine am_tabIn (off := 82) (tgt := 145) dX11_attempt_63 (by decide) (by decide) rfl (by decide) ?_
  refine am_aload_n dX11_attempt_145 rfl ?_
  refine am_iload_n dX11_attempt_146 rfl ?_
  refine am_iload_n dX11_attempt_147 rfl ?_
  refine am_iload dX11_attempt_148 rfl ?_
  refine am_callVe (i := 0) (j := 60) (as := [.inl (nI a), .inl ((am_up (am_up (am_up (am_up (am_up (am_up (am_up I 0 60 51 (nI i)) 0 60 52 (-1 : Int32)) 0 60 53 (nI 0)) 0 60 54 (nI 0)) 0 60 55 (nI 0)) 0 60 56 (nI 0)) 0 60 61 (nI 0)) 0 84 i), .inl ((am_up (am_up (am_up (am_up (am_up (am_up (am_up I 0 60 51 (nI i)) 0 60 52 (-1 : Int32)) 0 60 53 (nI 0)) 0 60 54 (nI 0)) 0 60 55 (nI 0)) 0 60 56 (nI 0)) 0 60 61 (nI 0)) 0 85 i)]) (rest := []) dX11_attempt_150 lkX11_tryMake ml_X11_378 imX11_tryMake seX11_tryMake rfl rfl (hG.m0 (by decide)) rfl (Nat.le_of_ble_eq_true rfl) rfl (c_MtryMake0 hG hi (by omega) ((am_up (am_up (am_up (am_up (am_up (am_up (am_up I 0 60 51 (nI i)) 0 60 52 (-1 : Int32)) 0 60 53 (nI 0)) 0 60 54 (nI 0)) 0 60 55 (nI 0)) 0 60 56 (nI 0)) 0 60 61 (nI 0)) 0 84 i) ((am_up (am_up (am_up (am_up (am_up (am_up (am_up I 0 60 51 (nI i)) 0 60 52 (-1 : Int32)) 0 60 53 (nI 0)) 0 60 54 (nI 0)) 0 60 55 (nI 0)) 0 60 56 (nI 0)) 0 60 61 (nI 0)) 0 85 i) (am_up (am_up (am_up (am_up (am_up (am_up (am_up I 0 60 51 (nI i)) 0 60 52 (-1 : Int32)) 0 60 53 (nI 0)) 0 60 54 (nI 0)) 0 60 55 (nI 0)) 0 60 56 (nI 0)) 0 60 61 (nI 0)) (by simp [am_up, am_upf, upd, hkd, hp, ha]) (by simp [am_up, am_upf, upd, hkd, hp, ha]) (by simp [am_up, am_upf, upd, hkd, hp, ha]) (by simp [am_up, am_upf, upd, hkd, hp, ha])) ?_
  refine am_goto (tgt := 312) dX11_attempt_153 (by decide) ?_
  refine am_vret dX11_attempt_312 rfl ?_
  exact ⟨rfl, rfl⟩
theorem c_Mattempt2 {G : am_G} (hG : am_okM G) {d : Nat} {i a : Nat} (hi : i < G.2.2.2.1) (hab : a < 128) (I : am_I)  (hkd : I 0 82 i = nI 2) (hp : I 0 79 (136 * i + a) = nI 0) (ha : I 0 83 i = nI a) : am_C G (d + 4) mX11_attempt [.inr (0, 60), .inl (nI i)] I (am_E none (am_up (am_up (am_up (am_up (am_up (am_up (am_up (am_up (am_up I 0 60 51 (nI i)) 0 60 52 (-1 : Int32)) 0 60 53 (nI 0)) 0 60 54 (nI 0)) 0 60 55 (nI 0)) 0 60 56 (nI 0)) 0 60 61 (nI 0)) 0 60 52 (nI a)) 0 60 53 (nI 2))) := by
  have hn4 := hG.hi
  have hn2 := hG.lo
  refine am_of (by decide +kernel) hG.nd (Nat.le_of_ble_eq_true rfl) ?_
  refine am_aload_n dX11_attempt_0 rfl ?_
  refine am_iload_n dX11_attempt_1 rfl ?_
  refine am_put (x := nI i) dX11_attempt_2 fp_11_319 (hG.m0 (by decide)) (Nat.le_of_ble_eq_true rfl) rfl ?_
  refine am_aload_n dX11_attempt_5 rfl ?_
  refine am_iconst (v := (-1 : Int32)) dX11_attempt_6 (by decide) ?_
  refine am_put (x := (-1 : Int32)) dX11_attempt_7 fp_11_295 (hG.m0 (by decide)) (Nat.le_of_ble_eq_true rfl) rfl ?_
  refine am_aload_n dX11_attempt_10 rfl ?_
  refine am_iconst (v := nI 0) dX11_attempt_11 (by decide) ?_
  refine am_put (x := nI 0) dX11_attempt_12 fp_11_301 (hG.m0 (by decide)) (Nat.le_of_ble_eq_true rfl) rfl ?_
  refine am_aload_n dX11_attempt_15 rfl ?_
  refine am_iconst (v := nI 0) dX11_attempt_16 (by decide) ?_
  refine am_put (x := nI 0) dX11_attempt_17 fp_11_304 (hG.m0 (by decide)) (Nat.le_of_ble_eq_true rfl) rfl ?_
  refine am_aload_n dX11_attempt_20 rfl ?_
  refine am_iconst (v := nI 0) dX11_attempt_21 (by decide) ?_
  refine am_put (x := nI 0) dX11_attempt_22 fp_11_316 (hG.m0 (by decide)) (Nat.le_of_ble_eq_true rfl) rfl ?_
  refine am_aload_n dX11_attempt_25 rfl ?_
  refine am_iconst (v := nI 0) dX11_attempt_26 (by decide) ?_
  refine am_put (x := nI 0) dX11_attempt_27 fp_11_307 (hG.m0 (by decide)) (Nat.le_of_ble_eq_true rfl) rfl ?_
  refine am_aload_n dX11_attempt_30 rfl ?_
  refine am_iconst (v := nI 0) dX11_attempt_31 (by decide) ?_
  refine am_put (x := nI 0) dX11_attempt_32 fp_11_310 (hG.m0 (by decide)) (Nat.le_of_ble_eq_true rfl) rfl ?_
  refine am_aload_n dX11_attempt_35 rfl ?_
  refine am_get (v := .inr (0, 83)) dX11_attempt_36 fl_11_69 (hG.m0 (by decide)) rfl ?_
  refine am_iload_n dX11_attempt_39 rfl ?_
  refine am_iald (a := i) dX11_attempt_40 (hG.m0 (by decide)) rfl rfl (show i < 4 from (by omega)) (show 4 < 2 ^ 31 by decide) ?_
  refine am_top (show (am_up (am_up (am_up (am_up (am_up (am_up (am_up I 0 60 51 (nI i)) 0 60 52 (-1 : Int32)) 0 60 53 (nI 0)) 0 60 54 (nI 0)) 0 60 55 (nI 0)) 0 60 56 (nI 0)) 0 60 61 (nI 0)) 0 83 i = nI a from (by simp [am_up, am_upf, upd, hkd, hp, ha])) ?_
  refine am_istore_n dX11_attempt_41 (by decide) ?_
  refine am_aload_n dX11_attempt_42 rfl ?_
  refine am_get (v := .inr (0, 84)) dX11_attempt_43 fl_11_72 (hG.m0 (by decide)) rfl ?_
  refine am_iload_n dX11_attempt_46 rfl ?_
  refine am_iald (a := i) dX11_attempt_47 (hG.m0 (by decide)) rfl rfl (show i < 4 from (by omega)) (show 4 < 2 ^ 31 by decide) ?_
  refine am_istore_n dX11_attempt_48 (by decide) ?_
  refine am_aload_n dX11_attempt_49 rfl ?_
  refine am_get (v := .inr (0, 85)) dX11_attempt_50 fl_11_75 (hG.m0 (by decide)) rfl ?_
  refine am_iload_n dX11_attempt_53 rfl ?_
  refine am_iald (a := i) dX11_attempt_54 (hG.m0 (by decide)) rfl rfl (show i < 4 from (by omega)) (show 4 < 2 ^ 31 by decide) ?_
  refine am_istore dX11_attempt_55 (by decide) ?_
  refine am_aload_n dX11_attempt_57 rfl ?_
  refine am_get (v := .inr (0, 82)) dX11_attempt_58 fl_11_66 (hG.m0 (by decide)) rfl ?_
  refine am_iload_n dX11_attempt_61 rfl ?_
  refine am_iald (a := i) dX11_attempt_62 (hG.m0 (by decide)) rfl rfl (show i < 4 from (by omega)) (show 4 < 2 ^ 31 by decide) ?_
  refine am_top (show (am_up (am_up (am_up (am_up (am_up (am_up (am_up I 0 60 51 (nI i)) 0 60 52 (-1 : Int32)) 0 60 53 (nI 0)) 0 60 54 (nI 0)) 0 60 55 (nI 0)) 0 60 56 (nI 0)) 0 60 61 (nI 0)) 0 82 i = nI 2 from (by simp [am_up, am_upf, upd, hkd, hp, ha])) ?_
  refine am_tabIn (off := 93) (tgt := 156) dX11_attempt_63 (by decide) (by decide) rfl (by decide) ?_
  refine am_aload_n dX11_attempt_156 rfl ?_
  refine am_iload_n dX11_attempt_157 rfl ?_
  refine am_iload_n dX11_attempt_158 rfl ?_
  refine am_callVe (i := 0) (j := 60) (as := [.inl (nI a), .inl ((am_up (am_up (am_up (am_up (am_up (am_up (am_up I 0 60 51 (nI i)) 0 60 52 (-1 : Int32)) 0 60 53 (nI 0)) 0 60 54 (nI 0)) 0 60 55 (nI 0)) 0 60 56 (nI 0)) 0 60 61 (nI 0)) 0 84 i)]) (rest := []) dX11_attempt_159 lkX11_tryRemove ml_X11_381 imX11_tryRemove seX11_tryRemove rfl rfl (hG.m0 (by decide)) rfl (Nat.le_of_ble_eq_true rfl) rfl (c_MtryRemove0 hG hi (by omega) ((am_up (am_up (am_up (am_up (am_up (am_up (am_up I 0 60 51 (nI i)) 0 60 52 (-1 : Int32)) 0 60 53 (nI 0)) 0 60 54 (nI 0)) 0 60 55 (nI 0)) 0 60 56 (nI 0)) 0 60 61 (nI 0)) 0 84 i) (am_up (am_up (am_up (am_up (am_up (am_up (am_up I 0 60 51 (nI i)) 0 60 52 (-1 : Int32)) 0 60 53 (nI 0)) 0 60 54 (nI 0)) 0 60 55 (nI 0)) 0 60 56 (nI 0)) 0 60 61 (nI 0)) (by simp [am_up, am_upf, upd, hkd, hp, ha]) (by simp [am_up, am_upf, upd, hkd, hp, ha]) (by simp [am_up, am_upf, upd, hkd, hp, ha]) (by simp [am_up, am_upf, upd, hkd, hp, ha])) ?_
  refine am_goto (tgt := 312) dX11_attempt_162 (by decide) ?_
  refine am_vret dX11_attempt_312 rfl ?_
  exact ⟨rfl, rfl⟩
theorem c_Mattempt3 {G : am_G} (hG : am_okM G) {d : Nat} {i a : Nat} (hi : i < G.2.2.2.1) (hab : a < 128) (I : am_I)  (hkd : I 0 82 i = nI 3) (hp : I 0 79 (136 * i + a) = nI 0) (ha : I 0 83 i = nI a) : am_C G (d + 4) mX11_attempt [.inr (0, 60), .inl (nI i)] I (am_E none (am_up (am_up (am_up (am_up (am_up (am_up (am_up (am_up (am_up I 0 60 51 (nI i)) 0 60 52 (-1 : Int32)) 0 60 53 (nI 0)) 0 60 54 (nI 0)) 0 60 55 (nI 0)) 0 60 56 (nI 0)) 0 60 61 (nI 0)) 0 60 52 (nI a)) 0 60 53 (nI 2))) := by
  have hn4 := hG.hi
  have hn2 := hG.lo
  refine am_of (by decide +kernel) hG.nd (Nat.le_of_ble_eq_true rfl) ?_
  refine am_aload_n dX11_attempt_0 rfl ?_
  refine am_iload_n dX11_attempt_1 rfl ?_
  refine am_put (x := nI i) dX11_attempt_2 fp_11_319 (hG.m0 (by decide)) (Nat.le_of_ble_eq_true rfl) rfl ?_
  refine am_aload_n dX11_attempt_5 rfl ?_
  refine am_iconst (v := (-1 : Int32)) dX11_attempt_6 (by decide) ?_
  refine am_put (x := (-1 : Int32)) dX11_attempt_7 fp_11_295 (hG.m0 (by decide)) (Nat.le_of_ble_eq_true rfl) rfl ?_
  refine am_aload_n dX11_attempt_10 rfl ?_
  refine am_iconst (v := nI 0) dX11_attempt_11 (by decide) ?_
  refine am_put (x := nI 0) dX11_attempt_12 fp_11_301 (hG.m0 (by decide)) (Nat.le_of_ble_eq_true rfl) rfl ?_
  refine am_aload_n dX11_attempt_15 rfl ?_
  refine am_iconst (v := nI 0) dX11_attempt_16 (by decide) ?_
  refine am_put (x := nI 0) dX11_attempt_17 fp_11_304 (hG.m0 (by decide)) (Nat.le_of_ble_eq_true rfl) rfl ?_
  refine am_aload_n dX11_attempt_20 rfl ?_
  refine am_iconst (v := nI 0) dX11_attempt_21 (by decide) ?_
  refine am_put (x := nI 0) dX11_attempt_22 fp_11_316 (hG.m0 (by decide)) (Nat.le_of_ble_eq_true rfl) rfl ?_
  refine am_aload_n dX11_attempt_25 rfl ?_
  refine am_iconst (v := nI 0) dX11_attempt_26 (by decide) ?_
  refine am_put (x := nI 0) dX11_attempt_27 fp_11_307 (hG.m0 (by decide)) (Nat.le_of_ble_eq_true rfl) rfl ?_
  refine am_aload_n dX11_attempt_30 rfl ?_
  refine am_iconst (v := nI 0) dX11_attempt_31 (by decide) ?_
  refine am_put (x := nI 0) dX11_attempt_32 fp_11_310 (hG.m0 (by decide)) (Nat.le_of_ble_eq_true rfl) rfl ?_
  refine am_aload_n dX11_attempt_35 rfl ?_
  refine am_get (v := .inr (0, 83)) dX11_attempt_36 fl_11_69 (hG.m0 (by decide)) rfl ?_
  refine am_iload_n dX11_attempt_39 rfl ?_
  refine am_iald (a := i) dX11_attempt_40 (hG.m0 (by decide)) rfl rfl (show i < 4 from (by omega)) (show 4 < 2 ^ 31 by decide) ?_
  refine am_top (show (am_up (am_up (am_up (am_up (am_up (am_up (am_up I 0 60 51 (nI i)) 0 60 52 (-1 : Int32)) 0 60 53 (nI 0)) 0 60 54 (nI 0)) 0 60 55 (nI 0)) 0 60 56 (nI 0)) 0 60 61 (nI 0)) 0 83 i = nI a from (by simp [am_up, am_upf, upd, hkd, hp, ha])) ?_
  refine am_istore_n dX11_attempt_41 (by decide) ?_
  refine am_aload_n dX11_attempt_42 rfl ?_
  refine am_get (v := .inr (0, 84)) dX11_attempt_43 fl_11_72 (hG.m0 (by decide)) rfl ?_
  refine am_iload_n dX11_attempt_46 rfl ?_
  refine am_iald (a := i) dX11_attempt_47 (hG.m0 (by decide)) rfl rfl (show i < 4 from (by omega)) (show 4 < 2 ^ 31 by decide) ?_
  refine am_istore_n dX11_attempt_48 (by decide) ?_
  refine am_aload_n dX11_attempt_49 rfl ?_
  refine am_get (v := .inr (0, 85)) dX11_attempt_50 fl_11_75 (hG.m0 (by decide)) rfl ?_
  refine am_iload_n dX11_attempt_53 rfl ?_
  refine am_iald (a := i) dX11_attempt_54 (hG.m0 (by decide)) rfl rfl (show i < 4 from (by omega)) (show 4 < 2 ^ 31 by decide) ?_
  refine am_istore dX11_attempt_55 (by decide) ?_
  refine am_aload_n dX11_attempt_57 rfl ?_
  refine am_get (v := .inr (0, 82)) dX11_attempt_58 fl_11_66 (hG.m0 (by decide)) rfl ?_
  refine am_iload_n dX11_attempt_61 rfl ?_
  refine am_iald (a := i) dX11_attempt_62 (hG.m0 (by decide)) rfl rfl (show i < 4 from (by omega)) (show 4 < 2 ^ 31 by decide) ?_
  refine am_top (show (am_up (am_up (am_up (am_up (am_up (am_up (am_up I 0 60 51 (nI i)) 0 60 52 (-1 : Int32)) 0 60 53 (nI 0)) 0 60 54 (nI 0)) 0 60 55 (nI 0)) 0 60 56 (nI 0)) 0 60 61 (nI 0)) 0 82 i = nI 3 from (by simp [am_up, am_upf, upd, hkd, hp, ha])) ?_
  refine am_tabIn (off := 102) (tgt := 165) dX11_attempt_63 (by decide) (by decide) rfl (by decide) ?_
  refine am_aload_n dX11_attempt_165 rfl ?_
  refine am_iload_n dX11_attempt_166 rfl ?_
  refine am_iload_n dX11_attempt_167 rfl ?_
  refine am_iload dX11_attempt_168 rfl ?_
  refine am_callVe (i := 0) (j := 60) (as := [.inl (nI a), .inl ((am_up (am_up (am_up (am_up (am_up (am_up (am_up I 0 60 51 (nI i)) 0 60 52 (-1 : Int32)) 0 60 53 (nI 0)) 0 60 54 (nI 0)) 0 60 55 (nI 0)) 0 60 56 (nI 0)) 0 60 61 (nI 0)) 0 84 i), .inl ((am_up (am_up (am_up (am_up (am_up (am_up (am_up I 0 60 51 (nI i)) 0 60 52 (-1 : Int32)) 0 60 53 (nI 0)) 0 60 54 (nI 0)) 0 60 55 (nI 0)) 0 60 56 (nI 0)) 0 60 61 (nI 0)) 0 85 i)]) (rest := []) dX11_attempt_170 lkX11_tryLink ml_X11_384 imX11_tryLink seX11_tryLink rfl rfl (hG.m0 (by decide)) rfl (Nat.le_of_ble_eq_true rfl) rfl (c_MtryLink0 hG hi (by omega) ((am_up (am_up (am_up (am_up (am_up (am_up (am_up I 0 60 51 (nI i)) 0 60 52 (-1 : Int32)) 0 60 53 (nI 0)) 0 60 54 (nI 0)) 0 60 55 (nI 0)) 0 60 56 (nI 0)) 0 60 61 (nI 0)) 0 84 i) ((am_up (am_up (am_up (am_up (am_up (am_up (am_up I 0 60 51 (nI i)) 0 60 52 (-1 : Int32)) 0 60 53 (nI 0)) 0 60 54 (nI 0)) 0 60 55 (nI 0)) 0 60 56 (nI 0)) 0 60 61 (nI 0)) 0 85 i) (am_up (am_up (am_up (am_up (am_up (am_up (am_up I 0 60 51 (nI i)) 0 60 52 (-1 : Int32)) 0 60 53 (nI 0)) 0 60 54 (nI 0)) 0 60 55 (nI 0)) 0 60 56 (nI 0)) 0 60 61 (nI 0)) (by simp [am_up, am_upf, upd, hkd, hp, ha]) (by simp [am_up, am_upf, upd, hkd, hp, ha]) (by simp [am_up, am_upf, upd, hkd, hp, ha]) (by simp [am_up, am_upf, upd, hkd, hp, ha])) ?_
  refine am_goto (tgt := 312) dX11_attempt_173 (by decide) ?_
  refine am_vret dX11_attempt_312 rfl ?_
  exact ⟨rfl, rfl⟩
theorem c_Mattempt4 {G : am_G} (hG : am_okM G) {d : Nat} {i a : Nat} (hi : i < G.2.2.2.1) (hab : a < 128) (I : am_I)  (hkd : I 0 82 i = nI 4) (hp : I 0 79 (136 * i + a) = nI 0) (ha : I 0 83 i = nI a) : am_C G (d + 4) mX11_attempt [.inr (0, 60), .inl (nI i)] I (am_E none (am_up (am_up (am_up (am_up (am_up (am_up (am_up (am_up (am_up I 0 60 51 (nI i)) 0 60 52 (-1 : Int32)) 0 60 53 (nI 0)) 0 60 54 (nI 0)) 0 60 55 (nI 0)) 0 60 56 (nI 0)) 0 60 61 (nI 0)) 0 60 52 (nI a)) 0 60 53 (nI 2))) := by
  have hn4 := hG.hi
  have hn2 := hG.lo
  refine am_of (by decide +kernel) hG.nd (Nat.le_of_ble_eq_true rfl) ?_
  refine am_aload_n dX11_attempt_0 rfl ?_
  refine am_iload_n dX11_attempt_1 rfl ?_
  refine am_put (x := nI i) dX11_attempt_2 fp_11_319 (hG.m0 (by decide)) (Nat.le_of_ble_eq_true rfl) rfl ?_
  refine am_aload_n dX11_attempt_5 rfl ?_
  refine am_iconst (v := (-1 : Int32)) dX11_attempt_6 (by decide) ?_
  refine am_put (x := (-1 : Int32)) dX11_attempt_7 fp_11_295 (hG.m0 (by decide)) (Nat.le_of_ble_eq_true rfl) rfl ?_
  refine am_aload_n dX11_attempt_10 rfl ?_
  refine am_iconst (v := nI 0) dX11_attempt_11 (by decide) ?_
  refine am_put (x := nI 0) dX11_attempt_12 fp_11_301 (hG.m0 (by decide)) (Nat.le_of_ble_eq_true rfl) rfl ?_
  refine am_aload_n dX11_attempt_15 rfl ?_
  refine am_iconst (v := nI 0) dX11_attempt_16 (by decide) ?_
  refine am_put (x := nI 0) dX11_attempt_17 fp_11_304 (hG.m0 (by decide)) (Nat.le_of_ble_eq_true rfl) rfl ?_
  refine am_aload_n dX11_attempt_20 rfl ?_
  refine am_iconst (v := nI 0) dX11_attempt_21 (by decide) ?_
  refine am_put (x := nI 0) dX11_attempt_22 fp_11_316 (hG.m0 (by decide)) (Nat.le_of_ble_eq_true rfl) rfl ?_
  refine am_aload_n dX11_attempt_25 rfl ?_
  refine am_iconst (v := nI 0) dX11_attempt_26 (by decide) ?_
  refine am_put (x := nI 0) dX11_attempt_27 fp_11_307 (hG.m0 (by decide)) (Nat.le_of_ble_eq_true rfl) rfl ?_
  refine am_aload_n dX11_attempt_30 rfl ?_
  refine am_iconst (v := nI 0) dX11_attempt_31 (by decide) ?_
  refine am_put (x := nI 0) dX11_attempt_32 fp_11_310 (hG.m0 (by decide)) (Nat.le_of_ble_eq_true rfl) rfl ?_
  refine am_aload_n dX11_attempt_35 rfl ?_
  refine am_get (v := .inr (0, 83)) dX11_attempt_36 fl_11_69 (hG.m0 (by decide)) rfl ?_
  refine am_iload_n dX11_attempt_39 rfl ?_
  refine am_iald (a := i) dX11_attempt_40 (hG.m0 (by decide)) rfl rfl (show i < 4 from (by omega)) (show 4 < 2 ^ 31 by decide) ?_
  refine am_top (show (am_up (am_up (am_up (am_up (am_up (am_up (am_up I 0 60 51 (nI i)) 0 60 52 (-1 : Int32)) 0 60 53 (nI 0)) 0 60 54 (nI 0)) 0 60 55 (nI 0)) 0 60 56 (nI 0)) 0 60 61 (nI 0)) 0 83 i = nI a from (by simp [am_up, am_upf, upd, hkd, hp, ha])) ?_
  refine am_istore_n dX11_attempt_41 (by decide) ?_
  refine am_aload_n dX11_attempt_42 rfl ?_
  refine am_get (v := .inr (0, 84)) dX11_attempt_43 fl_11_72 (hG.m0 (by decide)) rfl ?_
  refine am_iload_n dX11_attempt_46 rfl ?_
  refine am_iald (a := i) dX11_attempt_47 (hG.m0 (by decide)) rfl rfl (show i < 4 from (by omega)) (show 4 < 2 ^ 31 by decide) ?_
  refine am_istore_n dX11_attempt_48 (by decide) ?_
  refine am_aload_n dX11_attempt_49 rfl ?_
  refine am_get (v := .inr (0, 85)) dX11_attempt_50 fl_11_75 (hG.m0 (by decide)) rfl ?_
  refine am_iload_n dX11_attempt_53 rfl ?_
  refine am_iald (a := i) dX11_attempt_54 (hG.m0 (by decide)) rfl rfl (show i < 4 from (by omega)) (show 4 < 2 ^ 31 by decide) ?_
  refine am_istore dX11_attempt_55 (by decide) ?_
  refine am_aload_n dX11_attempt_57 rfl ?_
  refine am_get (v := .inr (0, 82)) dX11_attempt_58 fl_11_66 (hG.m0 (by decide)) rfl ?_
  refine am_iload_n dX11_attempt_61 rfl ?_
  refine am_iald (a := i) dX11_attempt_62 (hG.m0 (by decide)) rfl rfl (show i < 4 from (by omega)) (show 4 < 2 ^ 31 by decide) ?_
  refine am_top (show (am_up (am_up (am_up (am_up (am_up (am_up (am_up I 0 60 51 (nI i)) 0 60 52 (-1 : Int32)) 0 60 53 (nI 0)) 0 60 54 (nI 0)) 0 60 55 (nI 0)) 0 60 56 (nI 0)) 0 60 61 (nI 0)) 0 82 i = nI 4 from (by simp [am_up, am_upf, upd, hkd, hp, ha])) ?_
  refine am_tabIn (off := 113) (tgt := 176) dX11_attempt_63 (by decide) (by decide) rfl (by decide) ?_
  refine am_aload_n dX11_attempt_176 rfl ?_
  refine am_iload_n dX11_attempt_177 rfl ?_
  refine am_iload_n dX11_attempt_178 rfl ?_
  refine am_iload dX11_attempt_179 rfl ?_
  refine am_aload_n dX11_attempt_181 rfl ?_
  refine am_get (v := .inr (0, 86)) dX11_attempt_182 fl_11_78 (hG.m0 (by decide)) rfl ?_
  refine am_iload_n dX11_attempt_185 rfl ?_
  refine am_iald (a := i) dX11_attempt_186 (hG.m0 (by decide)) rfl rfl (show i < 4 from (by omega)) (show 4 < 2 ^ 31 by decide) ?_
  refine am_callVe (i := 0) (j := 60) (as := [.inl (nI a), .inl ((am_up (am_up (am_up (am_up (am_up (am_up (am_up I 0 60 51 (nI i)) 0 60 52 (-1 : Int32)) 0 60 53 (nI 0)) 0 60 54 (nI 0)) 0 60 55 (nI 0)) 0 60 56 (nI 0)) 0 60 61 (nI 0)) 0 84 i), .inl ((am_up (am_up (am_up (am_up (am_up (am_up (am_up I 0 60 51 (nI i)) 0 60 52 (-1 : Int32)) 0 60 53 (nI 0)) 0 60 54 (nI 0)) 0 60 55 (nI 0)) 0 60 56 (nI 0)) 0 60 61 (nI 0)) 0 85 i), .inl ((am_up (am_up (am_up (am_up (am_up (am_up (am_up I 0 60 51 (nI i)) 0 60 52 (-1 : Int32)) 0 60 53 (nI 0)) 0 60 54 (nI 0)) 0 60 55 (nI 0)) 0 60 56 (nI 0)) 0 60 61 (nI 0)) 0 86 i)]) (rest := []) dX11_attempt_187 lkX11_tryRename ml_X11_387 imX11_tryRename seX11_tryRename rfl rfl (hG.m0 (by decide)) rfl (Nat.le_of_ble_eq_true rfl) rfl (c_MtryRename0 hG hi (by omega) ((am_up (am_up (am_up (am_up (am_up (am_up (am_up I 0 60 51 (nI i)) 0 60 52 (-1 : Int32)) 0 60 53 (nI 0)) 0 60 54 (nI 0)) 0 60 55 (nI 0)) 0 60 56 (nI 0)) 0 60 61 (nI 0)) 0 84 i) ((am_up (am_up (am_up (am_up (am_up (am_up (am_up I 0 60 51 (nI i)) 0 60 52 (-1 : Int32)) 0 60 53 (nI 0)) 0 60 54 (nI 0)) 0 60 55 (nI 0)) 0 60 56 (nI 0)) 0 60 61 (nI 0)) 0 85 i) ((am_up (am_up (am_up (am_up (am_up (am_up (am_up I 0 60 51 (nI i)) 0 60 52 (-1 : Int32)) 0 60 53 (nI 0)) 0 60 54 (nI 0)) 0 60 55 (nI 0)) 0 60 56 (nI 0)) 0 60 61 (nI 0)) 0 86 i) (am_up (am_up (am_up (am_up (am_up (am_up (am_up I 0 60 51 (nI i)) 0 60 52 (-1 : Int32)) 0 60 53 (nI 0)) 0 60 54 (nI 0)) 0 60 55 (nI 0)) 0 60 56 (nI 0)) 0 60 61 (nI 0)) (by simp [am_up, am_upf, upd, hkd, hp, ha]) (by simp [am_up, am_upf, upd, hkd, hp, ha]) (by simp [am_up, am_upf, upd, hkd, hp, ha]) (by simp [am_up, am_upf, upd, hkd, hp, ha])) ?_
  refine am_goto (tgt := 312) dX11_attempt_190 (by decide) ?_
  refine am_vret dX11_attempt_312 rfl ?_
  exact ⟨rfl, rfl⟩
theorem c_Mattempt5 {G : am_G} (hG : am_okM G) {d : Nat} {i a : Nat} (hi : i < G.2.2.2.1) (hab : a < 128) (I : am_I)  (hkd : I 0 82 i = nI 5) (hp : I 0 79 (136 * i + a) = nI 0) (ha : I 0 83 i = nI a) : am_C G (d + 4) mX11_attempt [.inr (0, 60), .inl (nI i)] I (am_E none (am_up (am_up (am_up (am_up (am_up (am_up (am_up (am_up (am_up I 0 60 51 (nI i)) 0 60 52 (-1 : Int32)) 0 60 53 (nI 0)) 0 60 54 (nI 0)) 0 60 55 (nI 0)) 0 60 56 (nI 0)) 0 60 61 (nI 0)) 0 60 52 (nI a)) 0 60 53 (nI 1))) := by
  have hn4 := hG.hi
  have hn2 := hG.lo
  refine am_of (by decide +kernel) hG.nd (Nat.le_of_ble_eq_true rfl) ?_
  refine am_aload_n dX11_attempt_0 rfl ?_
  refine am_iload_n dX11_attempt_1 rfl ?_
  refine am_put (x := nI i) dX11_attempt_2 fp_11_319 (hG.m0 (by decide)) (Nat.le_of_ble_eq_true rfl) rfl ?_
  refine am_aload_n dX11_attempt_5 rfl ?_
  refine am_iconst (v := (-1 : Int32)) dX11_attempt_6 (by decide) ?_
  refine am_put (x := (-1 : Int32)) dX11_attempt_7 fp_11_295 (hG.m0 (by decide)) (Nat.le_of_ble_eq_true rfl) rfl ?_
  refine am_aload_n dX11_attempt_10 rfl ?_
  refine am_iconst (v := nI 0) dX11_attempt_11 (by decide) ?_
  refine am_put (x := nI 0) dX11_attempt_12 fp_11_301 (hG.m0 (by decide)) (Nat.le_of_ble_eq_true rfl) rfl ?_
  refine am_aload_n dX11_attempt_15 rfl ?_
  refine am_iconst (v := nI 0) dX11_attempt_16 (by decide) ?_
  refine am_put (x := nI 0) dX11_attempt_17 fp_11_304 (hG.m0 (by decide)) (Nat.le_of_ble_eq_true rfl) rfl ?_
  refine am_aload_n dX11_attempt_20 rfl ?_
  refine am_iconst (v := nI 0) dX11_attempt_21 (by decide) ?_
  refine am_put (x := nI 0) dX11_attempt_22 fp_11_316 (hG.m0 (by decide)) (Nat.le_of_ble_eq_true rfl) rfl ?_
  refine am_aload_n dX11_attempt_25 rfl ?_
  refine am_iconst (v := nI 0) dX11_attempt_26 (by decide) ?_
  refine am_put (x := nI 0) dX11_attempt_27 fp_11_307 (hG.m0 (by decide)) (Nat.le_of_ble_eq_true rfl) rfl ?_
  refine am_aload_n dX11_attempt_30 rfl ?_
  refine am_iconst (v := nI 0) dX11_attempt_31 (by decide) ?_
  refine am_put (x := nI 0) dX11_attempt_32 fp_11_310 (hG.m0 (by decide)) (Nat.le_of_ble_eq_true rfl) rfl ?_
  refine am_aload_n dX11_attempt_35 rfl ?_
  refine am_get (v := .inr (0, 83)) dX11_attempt_36 fl_11_69 (hG.m0 (by decide)) rfl ?_
  refine am_iload_n dX11_attempt_39 rfl ?_
  refine am_iald (a := i) dX11_attempt_40 (hG.m0 (by decide)) rfl rfl (show i < 4 from (by omega)) (show 4 < 2 ^ 31 by decide) ?_
  refine am_top (show (am_up (am_up (am_up (am_up (am_up (am_up (am_up I 0 60 51 (nI i)) 0 60 52 (-1 : Int32)) 0 60 53 (nI 0)) 0 60 54 (nI 0)) 0 60 55 (nI 0)) 0 60 56 (nI 0)) 0 60 61 (nI 0)) 0 83 i = nI a from (by simp [am_up, am_upf, upd, hkd, hp, ha])) ?_
  refine am_istore_n dX11_attempt_41 (by decide) ?_
  refine am_aload_n dX11_attempt_42 rfl ?_
  refine am_get (v := .inr (0, 84)) dX11_attempt_43 fl_11_72 (hG.m0 (by decide)) rfl ?_
  refine am_iload_n dX11_attempt_46 rfl ?_
  refine am_iald (a := i) dX11_attempt_47 (hG.m0 (by decide)) rfl rfl (show i < 4 from (by omega)) (show 4 < 2 ^ 31 by decide) ?_
  refine am_istore_n dX11_attempt_48 (by decide) ?_
  refine am_aload_n dX11_attempt_49 rfl ?_
  refine am_get (v := .inr (0, 85)) dX11_attempt_50 fl_11_75 (hG.m0 (by decide)) rfl ?_
  refine am_iload_n dX11_attempt_53 rfl ?_
  refine am_iald (a := i) dX11_attempt_54 (hG.m0 (by decide)) rfl rfl (show i < 4 from (by omega)) (show 4 < 2 ^ 31 by decide) ?_
  refine am_istore dX11_attempt_55 (by decide) ?_
  refine am_aload_n dX11_attempt_57 rfl ?_
  refine am_get (v := .inr (0, 82)) dX11_attempt_58 fl_11_66 (hG.m0 (by decide)) rfl ?_
  refine am_iload_n dX11_attempt_61 rfl ?_
  refine am_iald (a := i) dX11_attempt_62 (hG.m0 (by decide)) rfl rfl (show i < 4 from (by omega)) (show 4 < 2 ^ 31 by decide) ?_
  refine am_top (show (am_up (am_up (am_up (am_up (am_up (am_up (am_up I 0 60 51 (nI i)) 0 60 52 (-1 : Int32)) 0 60 53 (nI 0)) 0 60 54 (nI 0)) 0 60 55 (nI 0)) 0 60 56 (nI 0)) 0 60 61 (nI 0)) 0 82 i = nI 5 from (by simp [am_up, am_upf, upd, hkd, hp, ha])) ?_
  refine am_tabIn (off := 130) (tgt := 193) dX11_attempt_63 (by decide) (by decide) rfl (by decide) ?_
  refine am_aload_n dX11_attempt_193 rfl ?_
  refine am_iload_n dX11_attempt_194 rfl ?_
  refine am_iconst (v := nI 1) dX11_attempt_195 (by decide) ?_
  refine am_iconst (v := nI 1) dX11_attempt_196 (by decide) ?_
  refine am_bipush (v := (-4 : Int32)) dX11_attempt_197 (by decide) ?_
  refine am_callVx (i := 0) (j := 60) (as := [.inl (nI a), .inl (nI 1), .inl (nI 1), .inl (-4 : Int32)]) (rest := []) dX11_attempt_199 lkX11_isOf ml_X11_390 imX11_isOf seX11_isOf rfl rfl (hG.m0 (by decide)) rfl (Nat.le_of_ble_eq_true rfl) rfl (c_MisOf0 hG (by omega) (nI 1) (nI 1) (-4 : Int32) hi (am_up (am_up (am_up (am_up (am_up (am_up (am_up I 0 60 51 (nI i)) 0 60 52 (-1 : Int32)) 0 60 53 (nI 0)) 0 60 54 (nI 0)) 0 60 55 (nI 0)) 0 60 56 (nI 0)) 0 60 61 (nI 0)) (by simp [am_up, am_upf, upd, hkd, hp, ha]) (by simp [am_up, am_upf, upd, hkd, hp, ha]) (by simp [am_up, am_upf, upd, hkd, hp, ha]) (by simp [am_up, am_upf, upd, hkd, hp, ha])) ?_
  refine am_if_eq (tgt := 312) dX11_attempt_202 (by decide) (fun _ => ?_) (fun h => absurd h (by decide))
  refine am_vret dX11_attempt_312 rfl ?_
  exact ⟨rfl, rfl⟩
theorem c_Mattempt6 {G : am_G} (hG : am_okM G) {d : Nat} {i a : Nat} (hi : i < G.2.2.2.1) (hab : a < 128) (I : am_I)  (hkd : I 0 82 i = nI 6) (hp : I 0 79 (136 * i + a) = nI 0) (ha : I 0 83 i = nI a) : am_C G (d + 4) mX11_attempt [.inr (0, 60), .inl (nI i)] I (am_E none (am_up (am_up (am_up (am_up (am_up (am_up (am_up (am_up (am_up I 0 60 51 (nI i)) 0 60 52 (-1 : Int32)) 0 60 53 (nI 0)) 0 60 54 (nI 0)) 0 60 55 (nI 0)) 0 60 56 (nI 0)) 0 60 61 (nI 0)) 0 60 52 (nI a)) 0 60 53 (nI 2))) := by
  have hn4 := hG.hi
  have hn2 := hG.lo
  refine am_of (by decide +kernel) hG.nd (Nat.le_of_ble_eq_true rfl) ?_
  refine am_aload_n dX11_attempt_0 rfl ?_
  refine am_iload_n dX11_attempt_1 rfl ?_
  refine am_put (x := nI i) dX11_attempt_2 fp_11_319 (hG.m0 (by decide)) (Nat.le_of_ble_eq_true rfl) rfl ?_
  refine am_aload_n dX11_attempt_5 rfl ?_
  refine am_iconst (v := (-1 : Int32)) dX11_attempt_6 (by decide) ?_
  refine am_put (x := (-1 : Int32)) dX11_attempt_7 fp_11_295 (hG.m0 (by decide)) (Nat.le_of_ble_eq_true rfl) rfl ?_
  refine am_aload_n dX11_attempt_10 rfl ?_
  refine am_iconst (v := nI 0) dX11_attempt_11 (by decide) ?_
  refine am_put (x := nI 0) dX11_attempt_12 fp_11_301 (hG.m0 (by decide)) (Nat.le_of_ble_eq_true rfl) rfl ?_
  refine am_aload_n dX11_attempt_15 rfl ?_
  refine am_iconst (v := nI 0) dX11_attempt_16 (by decide) ?_
  refine am_put (x := nI 0) dX11_attempt_17 fp_11_304 (hG.m0 (by decide)) (Nat.le_of_ble_eq_true rfl) rfl ?_
  refine am_aload_n dX11_attempt_20 rfl ?_
  refine am_iconst (v := nI 0) dX11_attempt_21 (by decide) ?_
  refine am_put (x := nI 0) dX11_attempt_22 fp_11_316 (hG.m0 (by decide)) (Nat.le_of_ble_eq_true rfl) rfl ?_
  refine am_aload_n dX11_attempt_25 rfl ?_
  refine am_iconst (v := nI 0) dX11_attempt_26 (by decide) ?_
  refine am_put (x := nI 0) dX11_attempt_27 fp_11_307 (hG.m0 (by decide)) (Nat.le_of_ble_eq_true rfl) rfl ?_
  refine am_aload_n dX11_attempt_30 rfl ?_
  refine am_iconst (v := nI 0) dX11_attempt_31 (by decide) ?_
  refine am_put (x := nI 0) dX11_attempt_32 fp_11_310 (hG.m0 (by decide)) (Nat.le_of_ble_eq_true rfl) rfl ?_
  refine am_aload_n dX11_attempt_35 rfl ?_
  refine am_get (v := .inr (0, 83)) dX11_attempt_36 fl_11_69 (hG.m0 (by decide)) rfl ?_
  refine am_iload_n dX11_attempt_39 rfl ?_
  refine am_iald (a := i) dX11_attempt_40 (hG.m0 (by decide)) rfl rfl (show i < 4 from (by omega)) (show 4 < 2 ^ 31 by decide) ?_
  refine am_top (show (am_up (am_up (am_up (am_up (am_up (am_up (am_up I 0 60 51 (nI i)) 0 60 52 (-1 : Int32)) 0 60 53 (nI 0)) 0 60 54 (nI 0)) 0 60 55 (nI 0)) 0 60 56 (nI 0)) 0 60 61 (nI 0)) 0 83 i = nI a from (by simp [am_up, am_upf, upd, hkd, hp, ha])) ?_
  refine am_istore_n dX11_attempt_41 (by decide) ?_
  refine am_aload_n dX11_attempt_42 rfl ?_
  refine am_get (v := .inr (0, 84)) dX11_attempt_43 fl_11_72 (hG.m0 (by decide)) rfl ?_
  refine am_iload_n dX11_attempt_46 rfl ?_
  refine am_iald (a := i) dX11_attempt_47 (hG.m0 (by decide)) rfl rfl (show i < 4 from (by omega)) (show 4 < 2 ^ 31 by decide) ?_
  refine am_istore_n dX11_attempt_48 (by decide) ?_
  refine am_aload_n dX11_attempt_49 rfl ?_
  refine am_get (v := .inr (0, 85)) dX11_attempt_50 fl_11_75 (hG.m0 (by decide)) rfl ?_
  refine am_iload_n dX11_attempt_53 rfl ?_
  refine am_iald (a := i) dX11_attempt_54 (hG.m0 (by decide)) rfl rfl (show i < 4 from (by omega)) (show 4 < 2 ^ 31 by decide) ?_
  refine am_istore dX11_attempt_55 (by decide) ?_
  refine am_aload_n dX11_attempt_57 rfl ?_
  refine am_get (v := .inr (0, 82)) dX11_attempt_58 fl_11_66 (hG.m0 (by decide)) rfl ?_
  refine am_iload_n dX11_attempt_61 rfl ?_
  refine am_iald (a := i) dX11_attempt_62 (hG.m0 (by decide)) rfl rfl (show i < 4 from (by omega)) (show 4 < 2 ^ 31 by decide) ?_
  refine am_top (show (am_up (am_up (am_up (am_up (am_up (am_up (am_up I 0 60 51 (nI i)) 0 60 52 (-1 : Int32)) 0 60 53 (nI 0)) 0 60 54 (nI 0)) 0 60 55 (nI 0)) 0 60 56 (nI 0)) 0 60 61 (nI 0)) 0 82 i = nI 6 from (by simp [am_up, am_upf, upd, hkd, hp, ha])) ?_
  refine am_tabIn (off := 174) (tgt := 237) dX11_attempt_63 (by decide) (by decide) rfl (by decide) ?_
  refine am_aload_n dX11_attempt_237 rfl ?_
  refine am_iload_n dX11_attempt_238 rfl ?_
  refine am_iload_n dX11_attempt_239 rfl ?_
  refine am_iload dX11_attempt_240 rfl ?_
  refine am_aload_n dX11_attempt_242 rfl ?_
  refine am_get (v := .inr (0, 82)) dX11_attempt_243 fl_11_66 (hG.m0 (by decide)) rfl ?_
  refine am_iload_n dX11_attempt_246 rfl ?_
  refine am_iald (a := i) dX11_attempt_247 (hG.m0 (by decide)) rfl rfl (show i < 4 from (by omega)) (show 4 < 2 ^ 31 by decide) ?_
  refine am_top (show (am_up (am_up (am_up (am_up (am_up (am_up (am_up I 0 60 51 (nI i)) 0 60 52 (-1 : Int32)) 0 60 53 (nI 0)) 0 60 54 (nI 0)) 0 60 55 (nI 0)) 0 60 56 (nI 0)) 0 60 61 (nI 0)) 0 82 i = nI 6 from (by simp [am_up, am_upf, upd, hkd, hp, ha])) ?_
  refine am_bipush (v := nI 11) dX11_attempt_248 (by decide) ?_
  refine am_icmp_ne (tgt := 257) dX11_attempt_250 (by decide) (fun _ => ?_) (fun h => absurd h (by decide))
  refine am_iconst (v := nI 0) dX11_attempt_257 (by decide) ?_
  refine am_callVe (i := 0) (j := 60) (as := [.inl (nI a), .inl ((am_up (am_up (am_up (am_up (am_up (am_up (am_up I 0 60 51 (nI i)) 0 60 52 (-1 : Int32)) 0 60 53 (nI 0)) 0 60 54 (nI 0)) 0 60 55 (nI 0)) 0 60 56 (nI 0)) 0 60 61 (nI 0)) 0 84 i), .inl ((am_up (am_up (am_up (am_up (am_up (am_up (am_up I 0 60 51 (nI i)) 0 60 52 (-1 : Int32)) 0 60 53 (nI 0)) 0 60 54 (nI 0)) 0 60 55 (nI 0)) 0 60 56 (nI 0)) 0 60 61 (nI 0)) 0 85 i), .inl (nI 0)]) (rest := []) dX11_attempt_258 lkX11_tryWrite ml_X11_394 imX11_tryWrite seX11_tryWrite rfl rfl (hG.m0 (by decide)) rfl (Nat.le_of_ble_eq_true rfl) rfl (c_MtryWrite0 hG hi (by omega) ((am_up (am_up (am_up (am_up (am_up (am_up (am_up I 0 60 51 (nI i)) 0 60 52 (-1 : Int32)) 0 60 53 (nI 0)) 0 60 54 (nI 0)) 0 60 55 (nI 0)) 0 60 56 (nI 0)) 0 60 61 (nI 0)) 0 84 i) ((am_up (am_up (am_up (am_up (am_up (am_up (am_up I 0 60 51 (nI i)) 0 60 52 (-1 : Int32)) 0 60 53 (nI 0)) 0 60 54 (nI 0)) 0 60 55 (nI 0)) 0 60 56 (nI 0)) 0 60 61 (nI 0)) 0 85 i) (nI 0) (am_up (am_up (am_up (am_up (am_up (am_up (am_up I 0 60 51 (nI i)) 0 60 52 (-1 : Int32)) 0 60 53 (nI 0)) 0 60 54 (nI 0)) 0 60 55 (nI 0)) 0 60 56 (nI 0)) 0 60 61 (nI 0)) (by simp [am_up, am_upf, upd, hkd, hp, ha]) (by simp [am_up, am_upf, upd, hkd, hp, ha]) (by simp [am_up, am_upf, upd, hkd, hp, ha]) (by simp [am_up, am_upf, upd, hkd, hp, ha])) ?_
  refine am_goto (tgt := 312) dX11_attempt_261 (by decide) ?_
  refine am_vret dX11_attempt_312 rfl ?_
  exact ⟨rfl, rfl⟩
theorem c_Mattempt7 {G : am_G} (hG : am_okM G) {d : Nat} {i a : Nat} (hi : i < G.2.2.2.1) (hab : a < 128) (I : am_I)  (hkd : I 0 82 i = nI 7) (hp : I 0 79 (136 * i + a) = nI 0) (ha : I 0 83 i = nI a) : am_C G (d + 4) mX11_attempt [.inr (0, 60), .inl (nI i)] I (am_E none (am_up (am_up (am_up (am_up (am_up (am_up (am_up (am_up (am_up I 0 60 51 (nI i)) 0 60 52 (-1 : Int32)) 0 60 53 (nI 0)) 0 60 54 (nI 0)) 0 60 55 (nI 0)) 0 60 56 (nI 0)) 0 60 61 (nI 0)) 0 60 52 (nI a)) 0 60 53 (nI 2))) := by
  have hn4 := hG.hi
  have hn2 := hG.lo
  refine am_of (by decide +kernel) hG.nd (Nat.le_of_ble_eq_true rfl) ?_
  refine am_aload_n dX11_attempt_0 rfl ?_
  refine am_iload_n dX11_attempt_1 rfl ?_
  refine am_put (x := nI i) dX11_attempt_2 fp_11_319 (hG.m0 (by decide)) (Nat.le_of_ble_eq_true rfl) rfl ?_
  refine am_aload_n dX11_attempt_5 rfl ?_
  refine am_iconst (v := (-1 : Int32)) dX11_attempt_6 (by decide) ?_
  refine am_put (x := (-1 : Int32)) dX11_attempt_7 fp_11_295 (hG.m0 (by decide)) (Nat.le_of_ble_eq_true rfl) rfl ?_
  refine am_aload_n dX11_attempt_10 rfl ?_
  refine am_iconst (v := nI 0) dX11_attempt_11 (by decide) ?_
  refine am_put (x := nI 0) dX11_attempt_12 fp_11_301 (hG.m0 (by decide)) (Nat.le_of_ble_eq_true rfl) rfl ?_
  refine am_aload_n dX11_attempt_15 rfl ?_
  refine am_iconst (v := nI 0) dX11_attempt_16 (by decide) ?_
  refine am_put (x := nI 0) dX11_attempt_17 fp_11_304 (hG.m0 (by decide)) (Nat.le_of_ble_eq_true rfl) rfl ?_
  refine am_aload_n dX11_attempt_20 rfl ?_
  refine am_iconst (v := nI 0) dX11_attempt_21 (by decide) ?_
  refine am_put (x := nI 0) dX11_attempt_22 fp_11_316 (hG.m0 (by decide)) (Nat.le_of_ble_eq_true rfl) rfl ?_
  refine am_aload_n dX11_attempt_25 rfl ?_
  refine am_iconst (v := nI 0) dX11_attempt_26 (by decide) ?_
  refine am_put (x := nI 0) dX11_attempt_27 fp_11_307 (hG.m0 (by decide)) (Nat.le_of_ble_eq_true rfl) rfl ?_
  refine am_aload_n dX11_attempt_30 rfl ?_
  refine am_iconst (v := nI 0) dX11_attempt_31 (by decide) ?_
  refine am_put (x := nI 0) dX11_attempt_32 fp_11_310 (hG.m0 (by decide)) (Nat.le_of_ble_eq_true rfl) rfl ?_
  refine am_aload_n dX11_attempt_35 rfl ?_
  refine am_get (v := .inr (0, 83)) dX11_attempt_36 fl_11_69 (hG.m0 (by decide)) rfl ?_
  refine am_iload_n dX11_attempt_39 rfl ?_
  refine am_iald (a := i) dX11_attempt_40 (hG.m0 (by decide)) rfl rfl (show i < 4 from (by omega)) (show 4 < 2 ^ 31 by decide) ?_
  refine am_top (show (am_up (am_up (am_up (am_up (am_up (am_up (am_up I 0 60 51 (nI i)) 0 60 52 (-1 : Int32)) 0 60 53 (nI 0)) 0 60 54 (nI 0)) 0 60 55 (nI 0)) 0 60 56 (nI 0)) 0 60 61 (nI 0)) 0 83 i = nI a from (by simp [am_up, am_upf, upd, hkd, hp, ha])) ?_
  refine am_istore_n dX11_attempt_41 (by decide) ?_
  refine am_aload_n dX11_attempt_42 rfl ?_
  refine am_get (v := .inr (0, 84)) dX11_attempt_43 fl_11_72 (hG.m0 (by decide)) rfl ?_
  refine am_iload_n dX11_attempt_46 rfl ?_
  refine am_iald (a := i) dX11_attempt_47 (hG.m0 (by decide)) rfl rfl (show i < 4 from (by omega)) (show 4 < 2 ^ 31 by decide) ?_
  refine am_istore_n dX11_attempt_48 (by decide) ?_
  refine am_aload_n dX11_attempt_49 rfl ?_
  refine am_get (v := .inr (0, 85)) dX11_attempt_50 fl_11_75 (hG.m0 (by decide)) rfl ?_
  refine am_iload_n dX11_attempt_53 rfl ?_
  refine am_iald (a := i) dX11_attempt_54 (hG.m0 (by decide)) rfl rfl (show i < 4 from (by omega)) (show 4 < 2 ^ 31 by decide) ?_
  refine am_istore dX11_attempt_55 (by decide) ?_
  refine am_aload_n dX11_attempt_57 rfl ?_
  refine am_get (v := .inr (0, 82)) dX11_attempt_58 fl_11_66 (hG.m0 (by decide)) rfl ?_
  refine am_iload_n dX11_attempt_61 rfl ?_
  refine am_iald (a := i) dX11_attempt_62 (hG.m0 (by decide)) rfl rfl (show i < 4 from (by omega)) (show 4 < 2 ^ 31 by decide) ?_
  refine am_top (show (am_up (am_up (am_up (am_up (am_up (am_up (am_up I 0 60 51 (nI i)) 0 60 52 (-1 : Int32)) 0 60 53 (nI 0)) 0 60 54 (nI 0)) 0 60 55 (nI 0)) 0 60 56 (nI 0)) 0 60 61 (nI 0)) 0 82 i = nI 7 from (by simp [am_up, am_upf, upd, hkd, hp, ha])) ?_
  refine am_tabIn (off := 225) (tgt := 288) dX11_attempt_63 (by decide) (by decide) rfl (by decide) ?_
  refine am_aload_n dX11_attempt_288 rfl ?_
  refine am_iload_n dX11_attempt_289 rfl ?_
  refine am_iload_n dX11_attempt_290 rfl ?_
  refine am_callVe (i := 0) (j := 60) (as := [.inl (nI a), .inl ((am_up (am_up (am_up (am_up (am_up (am_up (am_up I 0 60 51 (nI i)) 0 60 52 (-1 : Int32)) 0 60 53 (nI 0)) 0 60 54 (nI 0)) 0 60 55 (nI 0)) 0 60 56 (nI 0)) 0 60 61 (nI 0)) 0 84 i)]) (rest := []) dX11_attempt_291 lkX11_tryCut ml_X11_407 imX11_tryCut seX11_tryCut rfl rfl (hG.m0 (by decide)) rfl (Nat.le_of_ble_eq_true rfl) rfl (c_MtryCut0 hG hi (by omega) ((am_up (am_up (am_up (am_up (am_up (am_up (am_up I 0 60 51 (nI i)) 0 60 52 (-1 : Int32)) 0 60 53 (nI 0)) 0 60 54 (nI 0)) 0 60 55 (nI 0)) 0 60 56 (nI 0)) 0 60 61 (nI 0)) 0 84 i) (am_up (am_up (am_up (am_up (am_up (am_up (am_up I 0 60 51 (nI i)) 0 60 52 (-1 : Int32)) 0 60 53 (nI 0)) 0 60 54 (nI 0)) 0 60 55 (nI 0)) 0 60 56 (nI 0)) 0 60 61 (nI 0)) (by simp [am_up, am_upf, upd, hkd, hp, ha]) (by simp [am_up, am_upf, upd, hkd, hp, ha]) (by simp [am_up, am_upf, upd, hkd, hp, ha]) (by simp [am_up, am_upf, upd, hkd, hp, ha])) ?_
  refine am_goto (tgt := 312) dX11_attempt_294 (by decide) ?_
  refine am_vret dX11_attempt_312 rfl ?_
  exact ⟨rfl, rfl⟩
theorem c_Mattempt8 {G : am_G} (hG : am_okM G) {d : Nat} {i a : Nat} (hi : i < G.2.2.2.1) (hab : a < 128) (I : am_I)  (hkd : I 0 82 i = nI 8) (hp : I 0 79 (136 * i + a) = nI 0) (ha : I 0 83 i = nI a) : am_C G (d + 4) mX11_attempt [.inr (0, 60), .inl (nI i)] I (am_E none (am_up (am_up (am_up (am_up (am_up (am_up (am_up (am_up (am_up I 0 60 51 (nI i)) 0 60 52 (-1 : Int32)) 0 60 53 (nI 0)) 0 60 54 (nI 0)) 0 60 55 (nI 0)) 0 60 56 (nI 0)) 0 60 61 (nI 0)) 0 60 52 (nI a)) 0 60 53 (nI 1))) := by
  have hn4 := hG.hi
  have hn2 := hG.lo
  refine am_of (by decide +kernel) hG.nd (Nat.le_of_ble_eq_true rfl) ?_
  refine am_aload_n dX11_attempt_0 rfl ?_
  refine am_iload_n dX11_attempt_1 rfl ?_
  refine am_put (x := nI i) dX11_attempt_2 fp_11_319 (hG.m0 (by decide)) (Nat.le_of_ble_eq_true rfl) rfl ?_
  refine am_aload_n dX11_attempt_5 rfl ?_
  refine am_iconst (v := (-1 : Int32)) dX11_attempt_6 (by decide) ?_
  refine am_put (x := (-1 : Int32)) dX11_attempt_7 fp_11_295 (hG.m0 (by decide)) (Nat.le_of_ble_eq_true rfl) rfl ?_
  refine am_aload_n dX11_attempt_10 rfl ?_
  refine am_iconst (v := nI 0) dX11_attempt_11 (by decide) ?_
  refine am_put (x := nI 0) dX11_attempt_12 fp_11_301 (hG.m0 (by decide)) (Nat.le_of_ble_eq_true rfl) rfl ?_
  refine am_aload_n dX11_attempt_15 rfl ?_
  refine am_iconst (v := nI 0) dX11_attempt_16 (by decide) ?_
  refine am_put (x := nI 0) dX11_attempt_17 fp_11_304 (hG.m0 (by decide)) (Nat.le_of_ble_eq_true rfl) rfl ?_
  refine am_aload_n dX11_attempt_20 rfl ?_
  refine am_iconst (v := nI 0) dX11_attempt_21 (by decide) ?_
  refine am_put (x := nI 0) dX11_attempt_22 fp_11_316 (hG.m0 (by decide)) (Nat.le_of_ble_eq_true rfl) rfl ?_
  refine am_aload_n dX11_attempt_25 rfl ?_
  refine am_iconst (v := nI 0) dX11_attempt_26 (by decide) ?_
  refine am_put (x := nI 0) dX11_attempt_27 fp_11_307 (hG.m0 (by decide)) (Nat.le_of_ble_eq_true rfl) rfl ?_
  refine am_aload_n dX11_attempt_30 rfl ?_
  refine am_iconst (v := nI 0) dX11_attempt_31 (by decide) ?_
  refine am_put (x := nI 0) dX11_attempt_32 fp_11_310 (hG.m0 (by decide)) (Nat.le_of_ble_eq_true rfl) rfl ?_
  refine am_aload_n dX11_attempt_35 rfl ?_
  refine am_get (v := .inr (0, 83)) dX11_attempt_36 fl_11_69 (hG.m0 (by decide)) rfl ?_
  refine am_iload_n dX11_attempt_39 rfl ?_
  refine am_iald (a := i) dX11_attempt_40 (hG.m0 (by decide)) rfl rfl (show i < 4 from (by omega)) (show 4 < 2 ^ 31 by decide) ?_
  refine am_top (show (am_up (am_up (am_up (am_up (am_up (am_up (am_up I 0 60 51 (nI i)) 0 60 52 (-1 : Int32)) 0 60 53 (nI 0)) 0 60 54 (nI 0)) 0 60 55 (nI 0)) 0 60 56 (nI 0)) 0 60 61 (nI 0)) 0 83 i = nI a from (by simp [am_up, am_upf, upd, hkd, hp, ha])) ?_
  refine am_istore_n dX11_attempt_41 (by decide) ?_
  refine am_aload_n dX11_attempt_42 rfl ?_
  refine am_get (v := .inr (0, 84)) dX11_attempt_43 fl_11_72 (hG.m0 (by decide)) rfl ?_
  refine am_iload_n dX11_attempt_46 rfl ?_
  refine am_iald (a := i) dX11_attempt_47 (hG.m0 (by decide)) rfl rfl (show i < 4 from (by omega)) (show 4 < 2 ^ 31 by decide) ?_
  refine am_istore_n dX11_attempt_48 (by decide) ?_
  refine am_aload_n dX11_attempt_49 rfl ?_
  refine am_get (v := .inr (0, 85)) dX11_attempt_50 fl_11_75 (hG.m0 (by decide)) rfl ?_
  refine am_iload_n dX11_attempt_53 rfl ?_
  refine am_iald (a := i) dX11_attempt_54 (hG.m0 (by decide)) rfl rfl (show i < 4 from (by omega)) (show 4 < 2 ^ 31 by decide) ?_
  refine am_istore dX11_attempt_55 (by decide) ?_
  refine am_aload_n dX11_attempt_57 rfl ?_
  refine am_get (v := .inr (0, 82)) dX11_attempt_58 fl_11_66 (hG.m0 (by decide)) rfl ?_
  refine am_iload_n dX11_attempt_61 rfl ?_
  refine am_iald (a := i) dX11_attempt_62 (hG.m0 (by decide)) rfl rfl (show i < 4 from (by omega)) (show 4 < 2 ^ 31 by decide) ?_
  refine am_top (show (am_up (am_up (am_up (am_up (am_up (am_up (am_up I 0 60 51 (nI i)) 0 60 52 (-1 : Int32)) 0 60 53 (nI 0)) 0 60 54 (nI 0)) 0 60 55 (nI 0)) 0 60 56 (nI 0)) 0 60 61 (nI 0)) 0 82 i = nI 8 from (by simp [am_up, am_upf, upd, hkd, hp, ha])) ?_
  refine am_tabIn (off := 234) (tgt := 297) dX11_attempt_63 (by decide) (by decide) rfl (by decide) ?_
  refine am_aload_n dX11_attempt_297 rfl ?_
  refine am_iload_n dX11_attempt_298 rfl ?_
  refine am_iload_n dX11_attempt_299 rfl ?_
  refine am_callVe (i := 0) (j := 60) (as := [.inl (nI a), .inl ((am_up (am_up (am_up (am_up (am_up (am_up (am_up I 0 60 51 (nI i)) 0 60 52 (-1 : Int32)) 0 60 53 (nI 0)) 0 60 54 (nI 0)) 0 60 55 (nI 0)) 0 60 56 (nI 0)) 0 60 61 (nI 0)) 0 84 i)]) (rest := []) dX11_attempt_300 lkX11_tryEntry ml_X11_410 imX11_tryEntry seX11_tryEntry rfl rfl (hG.m0 (by decide)) rfl (Nat.le_of_ble_eq_true rfl) rfl (c_MtryEntry0 hG hi (by omega) ((am_up (am_up (am_up (am_up (am_up (am_up (am_up I 0 60 51 (nI i)) 0 60 52 (-1 : Int32)) 0 60 53 (nI 0)) 0 60 54 (nI 0)) 0 60 55 (nI 0)) 0 60 56 (nI 0)) 0 60 61 (nI 0)) 0 84 i) (am_up (am_up (am_up (am_up (am_up (am_up (am_up I 0 60 51 (nI i)) 0 60 52 (-1 : Int32)) 0 60 53 (nI 0)) 0 60 54 (nI 0)) 0 60 55 (nI 0)) 0 60 56 (nI 0)) 0 60 61 (nI 0)) (by simp [am_up, am_upf, upd, hkd, hp, ha]) (by simp [am_up, am_upf, upd, hkd, hp, ha]) (by simp [am_up, am_upf, upd, hkd, hp, ha]) (by simp [am_up, am_upf, upd, hkd, hp, ha])) ?_
  refine am_goto (tgt := 312) dX11_attempt_303 (by decide) ?_
  refine am_vret dX11_attempt_312 rfl ?_
  exact ⟨rfl, rfl⟩
theorem c_Mattempt9 {G : am_G} (hG : am_okM G) {d : Nat} {i a : Nat} (hi : i < G.2.2.2.1) (hab : a < 128) (I : am_I)  (hkd : I 0 82 i = nI 9) (hp : I 0 79 (136 * i + a) = nI 0) (ha : I 0 83 i = nI a) : am_C G (d + 4) mX11_attempt [.inr (0, 60), .inl (nI i)] I (am_E none (am_up (am_up (am_up (am_up (am_up (am_up (am_up (am_up (am_up I 0 60 51 (nI i)) 0 60 52 (-1 : Int32)) 0 60 53 (nI 0)) 0 60 54 (nI 0)) 0 60 55 (nI 0)) 0 60 56 (nI 0)) 0 60 61 (nI 0)) 0 60 52 (nI a)) 0 60 53 (nI 1))) := by
  have hn4 := hG.hi
  have hn2 := hG.lo
  refine am_of (by decide +kernel) hG.nd (Nat.le_of_ble_eq_true rfl) ?_
  refine am_aload_n dX11_attempt_0 rfl ?_
  refine am_iload_n dX11_attempt_1 rfl ?_
  refine am_put (x := nI i) dX11_attempt_2 fp_11_319 (hG.m0 (by decide)) (Nat.le_of_ble_eq_true rfl) rfl ?_
  refine am_aload_n dX11_attempt_5 rfl ?_
  refine am_iconst (v := (-1 : Int32)) dX11_attempt_6 (by decide) ?_
  refine am_put (x := (-1 : Int32)) dX11_attempt_7 fp_11_295 (hG.m0 (by decide)) (Nat.le_of_ble_eq_true rfl) rfl ?_
  refine am_aload_n dX11_attempt_10 rfl ?_
  refine am_iconst (v := nI 0) dX11_attempt_11 (by decide) ?_
  refine am_put (x := nI 0) dX11_attempt_12 fp_11_301 (hG.m0 (by decide)) (Nat.le_of_ble_eq_true rfl) rfl ?_
  refine am_aload_n dX11_attempt_15 rfl ?_
  refine am_iconst (v := nI 0) dX11_attempt_16 (by decide) ?_
  refine am_put (x := nI 0) dX11_attempt_17 fp_11_304 (hG.m0 (by decide)) (Nat.le_of_ble_eq_true rfl) rfl ?_
  refine am_aload_n dX11_attempt_20 rfl ?_
  refine am_iconst (v := nI 0) dX11_attempt_21 (by decide) ?_
  refine am_put (x := nI 0) dX11_attempt_22 fp_11_316 (hG.m0 (by decide)) (Nat.le_of_ble_eq_true rfl) rfl ?_
  refine am_aload_n dX11_attempt_25 rfl ?_
  refine am_iconst (v := nI 0) dX11_attempt_26 (by decide) ?_
  refine am_put (x := nI 0) dX11_attempt_27 fp_11_307 (hG.m0 (by decide)) (Nat.le_of_ble_eq_true rfl) rfl ?_
  refine am_aload_n dX11_attempt_30 rfl ?_
  refine am_iconst (v := nI 0) dX11_attempt_31 (by decide) ?_
  refine am_put (x := nI 0) dX11_attempt_32 fp_11_310 (hG.m0 (by decide)) (Nat.le_of_ble_eq_true rfl) rfl ?_
  refine am_aload_n dX11_attempt_35 rfl ?_
  refine am_get (v := .inr (0, 83)) dX11_attempt_36 fl_11_69 (hG.m0 (by decide)) rfl ?_
  refine am_iload_n dX11_attempt_39 rfl ?_
  refine am_iald (a := i) dX11_attempt_40 (hG.m0 (by decide)) rfl rfl (show i < 4 from (by omega)) (show 4 < 2 ^ 31 by decide) ?_
  refine am_top (show (am_up (am_up (am_up (am_up (am_up (am_up (am_up I 0 60 51 (nI i)) 0 60 52 (-1 : Int32)) 0 60 53 (nI 0)) 0 60 54 (nI 0)) 0 60 55 (nI 0)) 0 60 56 (nI 0)) 0 60 61 (nI 0)) 0 83 i = nI a from (by simp [am_up, am_upf, upd, hkd, hp, ha])) ?_
  refine am_istore_n dX11_attempt_41 (by decide) ?_
  refine am_aload_n dX11_attempt_42 rfl ?_
  refine am_get (v := .inr (0, 84)) dX11_attempt_43 fl_11_72 (hG.m0 (by decide)) rfl ?_
  refine am_iload_n dX11_attempt_46 rfl ?_
  refine am_iald (a := i) dX11_attempt_47 (hG.m0 (by decide)) rfl rfl (show i < 4 from (by omega)) (show 4 < 2 ^ 31 by decide) ?_
  refine am_istore_n dX11_attempt_48 (by decide) ?_
  refine am_aload_n dX11_attempt_49 rfl ?_
  refine am_get (v := .inr (0, 85)) dX11_attempt_50 fl_11_75 (hG.m0 (by decide)) rfl ?_
  refine am_iload_n dX11_attempt_53 rfl ?_
  refine am_iald (a := i) dX11_attempt_54 (hG.m0 (by decide)) rfl rfl (show i < 4 from (by omega)) (show 4 < 2 ^ 31 by decide) ?_
  refine am_istore dX11_attempt_55 (by decide) ?_
  refine am_aload_n dX11_attempt_57 rfl ?_
  refine am_get (v := .inr (0, 82)) dX11_attempt_58 fl_11_66 (hG.m0 (by decide)) rfl ?_
  refine am_iload_n dX11_attempt_61 rfl ?_
  refine am_iald (a := i) dX11_attempt_62 (hG.m0 (by decide)) rfl rfl (show i < 4 from (by omega)) (show 4 < 2 ^ 31 by decide) ?_
  refine am_top (show (am_up (am_up (am_up (am_up (am_up (am_up (am_up I 0 60 51 (nI i)) 0 60 52 (-1 : Int32)) 0 60 53 (nI 0)) 0 60 54 (nI 0)) 0 60 55 (nI 0)) 0 60 56 (nI 0)) 0 60 61 (nI 0)) 0 82 i = nI 9 from (by simp [am_up, am_upf, upd, hkd, hp, ha])) ?_
  refine am_tabIn (off := 243) (tgt := 306) dX11_attempt_63 (by decide) (by decide) rfl (by decide) ?_
  refine am_aload_n dX11_attempt_306 rfl ?_
  refine am_iload_n dX11_attempt_307 rfl ?_
  refine am_iload_n dX11_attempt_308 rfl ?_
  refine am_callVe (i := 0) (j := 60) (as := [.inl (nI a), .inl ((am_up (am_up (am_up (am_up (am_up (am_up (am_up I 0 60 51 (nI i)) 0 60 52 (-1 : Int32)) 0 60 53 (nI 0)) 0 60 54 (nI 0)) 0 60 55 (nI 0)) 0 60 56 (nI 0)) 0 60 61 (nI 0)) 0 84 i)]) (rest := []) dX11_attempt_309 lkX11_tryStat ml_X11_413 imX11_tryStat seX11_tryStat rfl rfl (hG.m0 (by decide)) rfl (Nat.le_of_ble_eq_true rfl) rfl (c_MtryStat0 hG hi (by omega) ((am_up (am_up (am_up (am_up (am_up (am_up (am_up I 0 60 51 (nI i)) 0 60 52 (-1 : Int32)) 0 60 53 (nI 0)) 0 60 54 (nI 0)) 0 60 55 (nI 0)) 0 60 56 (nI 0)) 0 60 61 (nI 0)) 0 84 i) (am_up (am_up (am_up (am_up (am_up (am_up (am_up I 0 60 51 (nI i)) 0 60 52 (-1 : Int32)) 0 60 53 (nI 0)) 0 60 54 (nI 0)) 0 60 55 (nI 0)) 0 60 56 (nI 0)) 0 60 61 (nI 0)) (by simp [am_up, am_upf, upd, hkd, hp, ha]) (by simp [am_up, am_upf, upd, hkd, hp, ha]) (by simp [am_up, am_upf, upd, hkd, hp, ha]) (by simp [am_up, am_upf, upd, hkd, hp, ha])) ?_
  refine am_vret dX11_attempt_312 rfl ?_
  exact ⟨rfl, rfl⟩
theorem c_Mattempt11 {G : am_G} (hG : am_okM G) {d : Nat} {i a : Nat} (hi : i < G.2.2.2.1) (hab : a < 128) (I : am_I)  (hkd : I 0 82 i = nI 11) (hp : I 0 79 (136 * i + a) = nI 0) (ha : I 0 83 i = nI a) : am_C G (d + 4) mX11_attempt [.inr (0, 60), .inl (nI i)] I (am_E none (am_up (am_up (am_up (am_up (am_up (am_up (am_up (am_up (am_up I 0 60 51 (nI i)) 0 60 52 (-1 : Int32)) 0 60 53 (nI 0)) 0 60 54 (nI 0)) 0 60 55 (nI 0)) 0 60 56 (nI 0)) 0 60 61 (nI 0)) 0 60 52 (nI a)) 0 60 53 (nI 2))) := by
  have hn4 := hG.hi
  have hn2 := hG.lo
  refine am_of (by decide +kernel) hG.nd (Nat.le_of_ble_eq_true rfl) ?_
  refine am_aload_n dX11_attempt_0 rfl ?_
  refine am_iload_n dX11_attempt_1 rfl ?_
  refine am_put (x := nI i) dX11_attempt_2 fp_11_319 (hG.m0 (by decide)) (Nat.le_of_ble_eq_true rfl) rfl ?_
  refine am_aload_n dX11_attempt_5 rfl ?_
  refine am_iconst (v := (-1 : Int32)) dX11_attempt_6 (by decide) ?_
  refine am_put (x := (-1 : Int32)) dX11_attempt_7 fp_11_295 (hG.m0 (by decide)) (Nat.le_of_ble_eq_true rfl) rfl ?_
  refine am_aload_n dX11_attempt_10 rfl ?_
  refine am_iconst (v := nI 0) dX11_attempt_11 (by decide) ?_
  refine am_put (x := nI 0) dX11_attempt_12 fp_11_301 (hG.m0 (by decide)) (Nat.le_of_ble_eq_true rfl) rfl ?_
  refine am_aload_n dX11_attempt_15 rfl ?_
  refine am_iconst (v := nI 0) dX11_attempt_16 (by decide) ?_
  refine am_put (x := nI 0) dX11_attempt_17 fp_11_304 (hG.m0 (by decide)) (Nat.le_of_ble_eq_true rfl) rfl ?_
  refine am_aload_n dX11_attempt_20 rfl ?_
  refine am_iconst (v := nI 0) dX11_attempt_21 (by decide) ?_
  refine am_put (x := nI 0) dX11_attempt_22 fp_11_316 (hG.m0 (by decide)) (Nat.le_of_ble_eq_true rfl) rfl ?_
  refine am_aload_n dX11_attempt_25 rfl ?_
  refine am_iconst (v := nI 0) dX11_attempt_26 (by decide) ?_
  refine am_put (x := nI 0) dX11_attempt_27 fp_11_307 (hG.m0 (by decide)) (Nat.le_of_ble_eq_true rfl) rfl ?_
  refine am_aload_n dX11_attempt_30 rfl ?_
  refine am_iconst (v := nI 0) dX11_attempt_31 (by decide) ?_
  refine am_put (x := nI 0) dX11_attempt_32 fp_11_310 (hG.m0 (by decide)) (Nat.le_of_ble_eq_true rfl) rfl ?_
  refine am_aload_n dX11_attempt_35 rfl ?_
  refine am_get (v := .inr (0, 83)) dX11_attempt_36 fl_11_69 (hG.m0 (by decide)) rfl ?_
  refine am_iload_n dX11_attempt_39 rfl ?_
  refine am_iald (a := i) dX11_attempt_40 (hG.m0 (by decide)) rfl rfl (show i < 4 from (by omega)) (show 4 < 2 ^ 31 by decide) ?_
  refine am_top (show (am_up (am_up (am_up (am_up (am_up (am_up (am_up I 0 60 51 (nI i)) 0 60 52 (-1 : Int32)) 0 60 53 (nI 0)) 0 60 54 (nI 0)) 0 60 55 (nI 0)) 0 60 56 (nI 0)) 0 60 61 (nI 0)) 0 83 i = nI a from (by simp [am_up, am_upf, upd, hkd, hp, ha])) ?_
  refine am_istore_n dX11_attempt_41 (by decide) ?_
  refine am_aload_n dX11_attempt_42 rfl ?_
  refine am_get (v := .inr (0, 84)) dX11_attempt_43 fl_11_72 (hG.m0 (by decide)) rfl ?_
  refine am_iload_n dX11_attempt_46 rfl ?_
  refine am_iald (a := i) dX11_attempt_47 (hG.m0 (by decide)) rfl rfl (show i < 4 from (by omega)) (show 4 < 2 ^ 31 by decide) ?_
  refine am_istore_n dX11_attempt_48 (by decide) ?_
  refine am_aload_n dX11_attempt_49 rfl ?_
  refine am_get (v := .inr (0, 85)) dX11_attempt_50 fl_11_75 (hG.m0 (by decide)) rfl ?_
  refine am_iload_n dX11_attempt_53 rfl ?_
  refine am_iald (a := i) dX11_attempt_54 (hG.m0 (by decide)) rfl rfl (show i < 4 from (by omega)) (show 4 < 2 ^ 31 by decide) ?_
  refine am_istore dX11_attempt_55 (by decide) ?_
  refine am_aload_n dX11_attempt_57 rfl ?_
  refine am_get (v := .inr (0, 82)) dX11_attempt_58 fl_11_66 (hG.m0 (by decide)) rfl ?_
  refine am_iload_n dX11_attempt_61 rfl ?_
  refine am_iald (a := i) dX11_attempt_62 (hG.m0 (by decide)) rfl rfl (show i < 4 from (by omega)) (show 4 < 2 ^ 31 by decide) ?_
  refine am_top (show (am_up (am_up (am_up (am_up (am_up (am_up (am_up I 0 60 51 (nI i)) 0 60 52 (-1 : Int32)) 0 60 53 (nI 0)) 0 60 54 (nI 0)) 0 60 55 (nI 0)) 0 60 56 (nI 0)) 0 60 61 (nI 0)) 0 82 i = nI 11 from (by simp [am_up, am_upf, upd, hkd, hp, ha])) ?_
  refine am_tabIn (off := 174) (tgt := 237) dX11_attempt_63 (by decide) (by decide) rfl (by decide) ?_
  refine am_aload_n dX11_attempt_237 rfl ?_
  refine am_iload_n dX11_attempt_238 rfl ?_
  refine am_iload_n dX11_attempt_239 rfl ?_
  refine am_iload dX11_attempt_240 rfl ?_
  refine am_aload_n dX11_attempt_242 rfl ?_
  refine am_get (v := .inr (0, 82)) dX11_attempt_243 fl_11_66 (hG.m0 (by decide)) rfl ?_
  refine am_iload_n dX11_attempt_246 rfl ?_
  refine am_iald (a := i) dX11_attempt_247 (hG.m0 (by decide)) rfl rfl (show i < 4 from (by omega)) (show 4 < 2 ^ 31 by decide) ?_
  refine am_top (show (am_up (am_up (am_up (am_up (am_up (am_up (am_up I 0 60 51 (nI i)) 0 60 52 (-1 : Int32)) 0 60 53 (nI 0)) 0 60 54 (nI 0)) 0 60 55 (nI 0)) 0 60 56 (nI 0)) 0 60 61 (nI 0)) 0 82 i = nI 11 from (by simp [am_up, am_upf, upd, hkd, hp, ha])) ?_
  refine am_bipush (v := nI 11) dX11_attempt_248 (by decide) ?_
  refine am_icmp_ne (tgt := 257) dX11_attempt_250 (by decide) (fun h => absurd h (by decide)) (fun _ => ?_)
  refine am_iconst (v := nI 1) dX11_attempt_253 (by decide) ?_
  refine am_goto (tgt := 258) dX11_attempt_254 (by decide) ?_
  refine am_callVe (i := 0) (j := 60) (as := [.inl (nI a), .inl ((am_up (am_up (am_up (am_up (am_up (am_up (am_up I 0 60 51 (nI i)) 0 60 52 (-1 : Int32)) 0 60 53 (nI 0)) 0 60 54 (nI 0)) 0 60 55 (nI 0)) 0 60 56 (nI 0)) 0 60 61 (nI 0)) 0 84 i), .inl ((am_up (am_up (am_up (am_up (am_up (am_up (am_up I 0 60 51 (nI i)) 0 60 52 (-1 : Int32)) 0 60 53 (nI 0)) 0 60 54 (nI 0)) 0 60 55 (nI 0)) 0 60 56 (nI 0)) 0 60 61 (nI 0)) 0 85 i), .inl (nI 1)]) (rest := []) dX11_attempt_258 lkX11_tryWrite ml_X11_394 imX11_tryWrite seX11_tryWrite rfl rfl (hG.m0 (by decide)) rfl (Nat.le_of_ble_eq_true rfl) rfl (c_MtryWrite0 hG hi (by omega) ((am_up (am_up (am_up (am_up (am_up (am_up (am_up I 0 60 51 (nI i)) 0 60 52 (-1 : Int32)) 0 60 53 (nI 0)) 0 60 54 (nI 0)) 0 60 55 (nI 0)) 0 60 56 (nI 0)) 0 60 61 (nI 0)) 0 84 i) ((am_up (am_up (am_up (am_up (am_up (am_up (am_up I 0 60 51 (nI i)) 0 60 52 (-1 : Int32)) 0 60 53 (nI 0)) 0 60 54 (nI 0)) 0 60 55 (nI 0)) 0 60 56 (nI 0)) 0 60 61 (nI 0)) 0 85 i) (nI 1) (am_up (am_up (am_up (am_up (am_up (am_up (am_up I 0 60 51 (nI i)) 0 60 52 (-1 : Int32)) 0 60 53 (nI 0)) 0 60 54 (nI 0)) 0 60 55 (nI 0)) 0 60 56 (nI 0)) 0 60 61 (nI 0)) (by simp [am_up, am_upf, upd, hkd, hp, ha]) (by simp [am_up, am_upf, upd, hkd, hp, ha]) (by simp [am_up, am_upf, upd, hkd, hp, ha]) (by simp [am_up, am_upf, upd, hkd, hp, ha])) ?_
  refine am_goto (tgt := 312) dX11_attempt_261 (by decide) ?_
  refine am_vret dX11_attempt_312 rfl ?_
  exact ⟨rfl, rfl⟩
theorem c_Mattempt12 {G : am_G} (hG : am_okM G) {d : Nat} {i a : Nat} (hi : i < G.2.2.2.1) (hab : a < 128) (I : am_I)  (hkd : I 0 82 i = nI 12) (hp : I 0 79 (136 * i + a) = nI 0) (ha : I 0 83 i = nI a) : am_C G (d + 4) mX11_attempt [.inr (0, 60), .inl (nI i)] I (am_E none (am_up (am_up (am_up (am_up (am_up (am_up (am_up (am_up (am_up I 0 60 51 (nI i)) 0 60 52 (-1 : Int32)) 0 60 53 (nI 0)) 0 60 54 (nI 0)) 0 60 55 (nI 0)) 0 60 56 (nI 0)) 0 60 61 (nI 0)) 0 60 52 (nI a)) 0 60 53 (nI 2))) := by
  have hn4 := hG.hi
  have hn2 := hG.lo
  refine am_of (by decide +kernel) hG.nd (Nat.le_of_ble_eq_true rfl) ?_
  refine am_aload_n dX11_attempt_0 rfl ?_
  refine am_iload_n dX11_attempt_1 rfl ?_
  refine am_put (x := nI i) dX11_attempt_2 fp_11_319 (hG.m0 (by decide)) (Nat.le_of_ble_eq_true rfl) rfl ?_
  refine am_aload_n dX11_attempt_5 rfl ?_
  refine am_iconst (v := (-1 : Int32)) dX11_attempt_6 (by decide) ?_
  refine am_put (x := (-1 : Int32)) dX11_attempt_7 fp_11_295 (hG.m0 (by decide)) (Nat.le_of_ble_eq_true rfl) rfl ?_
  refine am_aload_n dX11_attempt_10 rfl ?_
  refine am_iconst (v := nI 0) dX11_attempt_11 (by decide) ?_
  refine am_put (x := nI 0) dX11_attempt_12 fp_11_301 (hG.m0 (by decide)) (Nat.le_of_ble_eq_true rfl) rfl ?_
  refine am_aload_n dX11_attempt_15 rfl ?_
  refine am_iconst (v := nI 0) dX11_attempt_16 (by decide) ?_
  refine am_put (x := nI 0) dX11_attempt_17 fp_11_304 (hG.m0 (by decide)) (Nat.le_of_ble_eq_true rfl) rfl ?_
  refine am_aload_n dX11_attempt_20 rfl ?_
  refine am_iconst (v := nI 0) dX11_attempt_21 (by decide) ?_
  refine am_put (x := nI 0) dX11_attempt_22 fp_11_316 (hG.m0 (by decide)) (Nat.le_of_ble_eq_true rfl) rfl ?_
  refine am_aload_n dX11_attempt_25 rfl ?_
  refine am_iconst (v := nI 0) dX11_attempt_26 (by decide) ?_
  refine am_put (x := nI 0) dX11_attempt_27 fp_11_307 (hG.m0 (by decide)) (Nat.le_of_ble_eq_true rfl) rfl ?_
  refine am_aload_n dX11_attempt_30 rfl ?_
  refine am_iconst (v := nI 0) dX11_attempt_31 (by decide) ?_
  refine am_put (x := nI 0) dX11_attempt_32 fp_11_310 (hG.m0 (by decide)) (Nat.le_of_ble_eq_true rfl) rfl ?_
  refine am_aload_n dX11_attempt_35 rfl ?_
  refine am_get (v := .inr (0, 83)) dX11_attempt_36 fl_11_69 (hG.m0 (by decide)) rfl ?_
  refine am_iload_n dX11_attempt_39 rfl ?_
  refine am_iald (a := i) dX11_attempt_40 (hG.m0 (by decide)) rfl rfl (show i < 4 from (by omega)) (show 4 < 2 ^ 31 by decide) ?_
  refine am_top (show (am_up (am_up (am_up (am_up (am_up (am_up (am_up I 0 60 51 (nI i)) 0 60 52 (-1 : Int32)) 0 60 53 (nI 0)) 0 60 54 (nI 0)) 0 60 55 (nI 0)) 0 60 56 (nI 0)) 0 60 61 (nI 0)) 0 83 i = nI a from (by simp [am_up, am_upf, upd, hkd, hp, ha])) ?_
  refine am_istore_n dX11_attempt_41 (by decide) ?_
  refine am_aload_n dX11_attempt_42 rfl ?_
  refine am_get (v := .inr (0, 84)) dX11_attempt_43 fl_11_72 (hG.m0 (by decide)) rfl ?_
  refine am_iload_n dX11_attempt_46 rfl ?_
  refine am_iald (a := i) dX11_attempt_47 (hG.m0 (by decide)) rfl rfl (show i < 4 from (by omega)) (show 4 < 2 ^ 31 by decide) ?_
  refine am_istore_n dX11_attempt_48 (by decide) ?_
  refine am_aload_n dX11_attempt_49 rfl ?_
  refine am_get (v := .inr (0, 85)) dX11_attempt_50 fl_11_75 (hG.m0 (by decide)) rfl ?_
  refine am_iload_n dX11_attempt_53 rfl ?_
  refine am_iald (a := i) dX11_attempt_54 (hG.m0 (by decide)) rfl rfl (show i < 4 from (by omega)) (show 4 < 2 ^ 31 by decide) ?_
  refine am_istore dX11_attempt_55 (by decide) ?_
  refine am_aload_n dX11_attempt_57 rfl ?_
  refine am_get (v := .inr (0, 82)) dX11_attempt_58 fl_11_66 (hG.m0 (by decide)) rfl ?_
  refine am_iload_n dX11_attempt_61 rfl ?_
  refine am_iald (a := i) dX11_attempt_62 (hG.m0 (by decide)) rfl rfl (show i < 4 from (by omega)) (show 4 < 2 ^ 31 by decide) ?_
  refine am_top (show (am_up (am_up (am_up (am_up (am_up (am_up (am_up I 0 60 51 (nI i)) 0 60 52 (-1 : Int32)) 0 60 53 (nI 0)) 0 60 54 (nI 0)) 0 60 55 (nI 0)) 0 60 56 (nI 0)) 0 60 61 (nI 0)) 0 82 i = nI 12 from (by simp [am_up, am_upf, upd, hkd, hp, ha])) ?_
  refine am_tabIn (off := 201) (tgt := 264) dX11_attempt_63 (by decide) (by decide) rfl (by decide) ?_
  refine am_aload_n dX11_attempt_264 rfl ?_
  refine am_iload_n dX11_attempt_265 rfl ?_
  refine am_iload_n dX11_attempt_266 rfl ?_
  refine am_callVe (i := 0) (j := 60) (as := [.inl (nI a), .inl ((am_up (am_up (am_up (am_up (am_up (am_up (am_up I 0 60 51 (nI i)) 0 60 52 (-1 : Int32)) 0 60 53 (nI 0)) 0 60 54 (nI 0)) 0 60 55 (nI 0)) 0 60 56 (nI 0)) 0 60 61 (nI 0)) 0 84 i)]) (rest := []) dX11_attempt_267 lkX11_tryAppend ml_X11_398 imX11_tryAppend seX11_tryAppend rfl rfl (hG.m0 (by decide)) rfl (Nat.le_of_ble_eq_true rfl) rfl (c_MtryAppend0 hG hi (by omega) ((am_up (am_up (am_up (am_up (am_up (am_up (am_up I 0 60 51 (nI i)) 0 60 52 (-1 : Int32)) 0 60 53 (nI 0)) 0 60 54 (nI 0)) 0 60 55 (nI 0)) 0 60 56 (nI 0)) 0 60 61 (nI 0)) 0 84 i) (am_up (am_up (am_up (am_up (am_up (am_up (am_up I 0 60 51 (nI i)) 0 60 52 (-1 : Int32)) 0 60 53 (nI 0)) 0 60 54 (nI 0)) 0 60 55 (nI 0)) 0 60 56 (nI 0)) 0 60 61 (nI 0)) (by simp [am_up, am_upf, upd, hkd, hp, ha]) (by simp [am_up, am_upf, upd, hkd, hp, ha]) (by simp [am_up, am_upf, upd, hkd, hp, ha]) (by simp [am_up, am_upf, upd, hkd, hp, ha])) ?_
  refine am_goto (tgt := 312) dX11_attempt_270 (by decide) ?_
  refine am_vret dX11_attempt_312 rfl ?_
  exact ⟨rfl, rfl⟩
theorem c_Mattempt13 {G : am_G} (hG : am_okM G) {d : Nat} {i a : Nat} (hi : i < G.2.2.2.1) (hab : a < 128) (I : am_I)  (hkd : I 0 82 i = nI 13) (hp : I 0 79 (136 * i + a) = nI 0) (ha : I 0 83 i = nI a) : am_C G (d + 4) mX11_attempt [.inr (0, 60), .inl (nI i)] I (am_E none (am_up (am_up (am_up (am_up (am_up (am_up (am_up (am_up (am_up I 0 60 51 (nI i)) 0 60 52 (-1 : Int32)) 0 60 53 (nI 0)) 0 60 54 (nI 0)) 0 60 55 (nI 0)) 0 60 56 (nI 0)) 0 60 61 (nI 0)) 0 60 52 (nI a)) 0 60 53 (nI 1))) := by
  have hn4 := hG.hi
  have hn2 := hG.lo
  refine am_of (by decide +kernel) hG.nd (Nat.le_of_ble_eq_true rfl) ?_
  refine am_aload_n dX11_attempt_0 rfl ?_
  refine am_iload_n dX11_attempt_1 rfl ?_
  refine am_put (x := nI i) dX11_attempt_2 fp_11_319 (hG.m0 (by decide)) (Nat.le_of_ble_eq_true rfl) rfl ?_
  refine am_aload_n dX11_attempt_5 rfl ?_
  refine am_iconst (v := (-1 : Int32)) dX11_attempt_6 (by decide) ?_
  refine am_put (x := (-1 : Int32)) dX11_attempt_7 fp_11_295 (hG.m0 (by decide)) (Nat.le_of_ble_eq_true rfl) rfl ?_
  refine am_aload_n dX11_attempt_10 rfl ?_
  refine am_iconst (v := nI 0) dX11_attempt_11 (by decide) ?_
  refine am_put (x := nI 0) dX11_attempt_12 fp_11_301 (hG.m0 (by decide)) (Nat.le_of_ble_eq_true rfl) rfl ?_
  refine am_aload_n dX11_attempt_15 rfl ?_
  refine am_iconst (v := nI 0) dX11_attempt_16 (by decide) ?_
  refine am_put (x := nI 0) dX11_attempt_17 fp_11_304 (hG.m0 (by decide)) (Nat.le_of_ble_eq_true rfl) rfl ?_
  refine am_aload_n dX11_attempt_20 rfl ?_
  refine am_iconst (v := nI 0) dX11_attempt_21 (by decide) ?_
  refine am_put (x := nI 0) dX11_attempt_22 fp_11_316 (hG.m0 (by decide)) (Nat.le_of_ble_eq_true rfl) rfl ?_
  refine am_aload_n dX11_attempt_25 rfl ?_
  refine am_iconst (v := nI 0) dX11_attempt_26 (by decide) ?_
  refine am_put (x := nI 0) dX11_attempt_27 fp_11_307 (hG.m0 (by decide)) (Nat.le_of_ble_eq_true rfl) rfl ?_
  refine am_aload_n dX11_attempt_30 rfl ?_
  refine am_iconst (v := nI 0) dX11_attempt_31 (by decide) ?_
  refine am_put (x := nI 0) dX11_attempt_32 fp_11_310 (hG.m0 (by decide)) (Nat.le_of_ble_eq_true rfl) rfl ?_
  refine am_aload_n dX11_attempt_35 rfl ?_
  refine am_get (v := .inr (0, 83)) dX11_attempt_36 fl_11_69 (hG.m0 (by decide)) rfl ?_
  refine am_iload_n dX11_attempt_39 rfl ?_
  refine am_iald (a := i) dX11_attempt_40 (hG.m0 (by decide)) rfl rfl (show i < 4 from (by omega)) (show 4 < 2 ^ 31 by decide) ?_
  refine am_top (show (am_up (am_up (am_up (am_up (am_up (am_up (am_up I 0 60 51 (nI i)) 0 60 52 (-1 : Int32)) 0 60 53 (nI 0)) 0 60 54 (nI 0)) 0 60 55 (nI 0)) 0 60 56 (nI 0)) 0 60 61 (nI 0)) 0 83 i = nI a from (by simp [am_up, am_upf, upd, hkd, hp, ha])) ?_
  refine am_istore_n dX11_attempt_41 (by decide) ?_
  refine am_aload_n dX11_attempt_42 rfl ?_
  refine am_get (v := .inr (0, 84)) dX11_attempt_43 fl_11_72 (hG.m0 (by decide)) rfl ?_
  refine am_iload_n dX11_attempt_46 rfl ?_
  refine am_iald (a := i) dX11_attempt_47 (hG.m0 (by decide)) rfl rfl (show i < 4 from (by omega)) (show 4 < 2 ^ 31 by decide) ?_
  refine am_istore_n dX11_attempt_48 (by decide) ?_
  refine am_aload_n dX11_attempt_49 rfl ?_
  refine am_get (v := .inr (0, 85)) dX11_attempt_50 fl_11_75 (hG.m0 (by decide)) rfl ?_
  refine am_iload_n dX11_attempt_53 rfl ?_
  refine am_iald (a := i) dX11_attempt_54 (hG.m0 (by decide)) rfl rfl (show i < 4 from (by omega)) (show 4 < 2 ^ 31 by decide) ?_
  refine am_istore dX11_attempt_55 (by decide) ?_
  refine am_aload_n dX11_attempt_57 rfl ?_
  refine am_get (v := .inr (0, 82)) dX11_attempt_58 fl_11_66 (hG.m0 (by decide)) rfl ?_
  refine am_iload_n dX11_attempt_61 rfl ?_
  refine am_iald (a := i) dX11_attempt_62 (hG.m0 (by decide)) rfl rfl (show i < 4 from (by omega)) (show 4 < 2 ^ 31 by decide) ?_
  refine am_top (show (am_up (am_up (am_up (am_up (am_up (am_up (am_up I 0 60 51 (nI i)) 0 60 52 (-1 : Int32)) 0 60 53 (nI 0)) 0 60 54 (nI 0)) 0 60 55 (nI 0)) 0 60 56 (nI 0)) 0 60 61 (nI 0)) 0 82 i = nI 13 from (by simp [am_up, am_upf, upd, hkd, hp, ha])) ?_
  refine am_tabIn (off := 210) (tgt := 273) dX11_attempt_63 (by decide) (by decide) rfl (by decide) ?_
  refine am_aload_n dX11_attempt_273 rfl ?_
  refine am_iload_n dX11_attempt_274 rfl ?_
  refine am_callVe (i := 0) (j := 60) (as := [.inl (nI a)]) (rest := []) dX11_attempt_275 lkX11_tryCount ml_X11_401 imX11_tryCount seX11_tryCount rfl rfl (hG.m0 (by decide)) rfl (Nat.le_of_ble_eq_true rfl) rfl (c_MtryCount0 hG hi (by omega)  (am_up (am_up (am_up (am_up (am_up (am_up (am_up I 0 60 51 (nI i)) 0 60 52 (-1 : Int32)) 0 60 53 (nI 0)) 0 60 54 (nI 0)) 0 60 55 (nI 0)) 0 60 56 (nI 0)) 0 60 61 (nI 0)) (by simp [am_up, am_upf, upd, hkd, hp, ha]) (by simp [am_up, am_upf, upd, hkd, hp, ha]) (by simp [am_up, am_upf, upd, hkd, hp, ha]) (by simp [am_up, am_upf, upd, hkd, hp, ha])) ?_
  refine am_goto (tgt := 312) dX11_attempt_278 (by decide) ?_
  refine am_vret dX11_attempt_312 rfl ?_
  exact ⟨rfl, rfl⟩
theorem c_Mattempt14 {G : am_G} (hG : am_okM G) {d : Nat} {i : Nat} (hi : i < G.2.2.2.1) (I : am_I)  (hkd : I 0 82 i = nI 14) (hp : I 0 79 (136 * i + 128) = nI 0) : am_C G (d + 4) mX11_attempt [.inr (0, 60), .inl (nI i)] I (am_E none (am_up (am_up (am_up (am_up (am_up (am_up (am_up (am_up (am_up I 0 60 51 (nI i)) 0 60 52 (-1 : Int32)) 0 60 53 (nI 0)) 0 60 54 (nI 0)) 0 60 55 (nI 0)) 0 60 56 (nI 0)) 0 60 61 (nI 0)) 0 60 52 (nI 128)) 0 60 53 (nI 1))) := by
  have hn4 := hG.hi
  have hn2 := hG.lo
  refine am_of (by decide +kernel) hG.nd (Nat.le_of_ble_eq_true rfl) ?_
  refine am_aload_n dX11_attempt_0 rfl ?_
  refine am_iload_n dX11_attempt_1 rfl ?_
  refine am_put (x := nI i) dX11_attempt_2 fp_11_319 (hG.m0 (by decide)) (Nat.le_of_ble_eq_true rfl) rfl ?_
  refine am_aload_n dX11_attempt_5 rfl ?_
  refine am_iconst (v := (-1 : Int32)) dX11_attempt_6 (by decide) ?_
  refine am_put (x := (-1 : Int32)) dX11_attempt_7 fp_11_295 (hG.m0 (by decide)) (Nat.le_of_ble_eq_true rfl) rfl ?_
  refine am_aload_n dX11_attempt_10 rfl ?_
  refine am_iconst (v := nI 0) dX11_attempt_11 (by decide) ?_
  refine am_put (x := nI 0) dX11_attempt_12 fp_11_301 (hG.m0 (by decide)) (Nat.le_of_ble_eq_true rfl) rfl ?_
  refine am_aload_n dX11_attempt_15 rfl ?_
  refine am_iconst (v := nI 0) dX11_attempt_16 (by decide) ?_
  refine am_put (x := nI 0) dX11_attempt_17 fp_11_304 (hG.m0 (by decide)) (Nat.le_of_ble_eq_true rfl) rfl ?_
  refine am_aload_n dX11_attempt_20 rfl ?_
  refine am_iconst (v := nI 0) dX11_attempt_21 (by decide) ?_
  refine am_put (x := nI 0) dX11_attempt_22 fp_11_316 (hG.m0 (by decide)) (Nat.le_of_ble_eq_true rfl) rfl ?_
  refine am_aload_n dX11_attempt_25 rfl ?_
  refine am_iconst (v := nI 0) dX11_attempt_26 (by decide) ?_
  refine am_put (x := nI 0) dX11_attempt_27 fp_11_307 (hG.m0 (by decide)) (Nat.le_of_ble_eq_true rfl) rfl ?_
  refine am_aload_n dX11_attempt_30 rfl ?_
  refine am_iconst (v := nI 0) dX11_attempt_31 (by decide) ?_
  refine am_put (x := nI 0) dX11_attempt_32 fp_11_310 (hG.m0 (by decide)) (Nat.le_of_ble_eq_true rfl) rfl ?_
  refine am_aload_n dX11_attempt_35 rfl ?_
  refine am_get (v := .inr (0, 83)) dX11_attempt_36 fl_11_69 (hG.m0 (by decide)) rfl ?_
  refine am_iload_n dX11_attempt_39 rfl ?_
  refine am_iald (a := i) dX11_attempt_40 (hG.m0 (by decide)) rfl rfl (show i < 4 from (by omega)) (show 4 < 2 ^ 31 by decide) ?_
  refine am_istore_n dX11_attempt_41 (by decide) ?_
  refine am_aload_n dX11_attempt_42 rfl ?_
  refine am_get (v := .inr (0, 84)) dX11_attempt_43 fl_11_72 (hG.m0 (by decide)) rfl ?_
  refine am_iload_n dX11_attempt_46 rfl ?_
  refine am_iald (a := i) dX11_attempt_47 (hG.m0 (by decide)) rfl rfl (show i < 4 from (by omega)) (show 4 < 2 ^ 31 by decide) ?_
  refine am_istore_n dX11_attempt_48 (by decide) ?_
  refine am_aload_n dX11_attempt_49 rfl ?_
  refine am_get (v := .inr (0, 85)) dX11_attempt_50 fl_11_75 (hG.m0 (by decide)) rfl ?_
  refine am_iload_n dX11_attempt_53 rfl ?_
  refine am_iald (a := i) dX11_attempt_54 (hG.m0 (by decide)) rfl rfl (show i < 4 from (by omega)) (show 4 < 2 ^ 31 by decide) ?_
  refine am_istore dX11_attempt_55 (by decide) ?_
  refine am_aload_n dX11_attempt_57 rfl ?_
  refine am_get (v := .inr (0, 82)) dX11_attempt_58 fl_11_66 (hG.m0 (by decide)) rfl ?_
  refine am_iload_n dX11_attempt_61 rfl ?_
  refine am_iald (a := i) dX11_attempt_62 (hG.m0 (by decide)) rfl rfl (show i < 4 from (by omega)) (show 4 < 2 ^ 31 by decide) ?_
  refine am_top (show (am_up (am_up (am_up (am_up (am_up (am_up (am_up I 0 60 51 (nI i)) 0 60 52 (-1 : Int32)) 0 60 53 (nI 0)) 0 60 54 (nI 0)) 0 60 55 (nI 0)) 0 60 56 (nI 0)) 0 60 61 (nI 0)) 0 82 i = nI 14 from (by simp [am_up, am_upf, upd, hkd, hp])) ?_
  refine am_tabIn (off := 218) (tgt := 281) dX11_attempt_63 (by decide) (by decide) rfl (by decide) ?_
  refine am_aload_n dX11_attempt_281 rfl ?_
  refine am_callVe (i := 0) (j := 60) (as := []) (rest := []) dX11_attempt_282 lkX11_tryRoom ml_X11_404 imX11_tryRoom seX11_tryRoom rfl rfl (hG.m0 (by decide)) rfl (Nat.le_of_ble_eq_true rfl) rfl (c_MtryRoom0 (i := i) hG hi (am_up (am_up (am_up (am_up (am_up (am_up (am_up I 0 60 51 (nI i)) 0 60 52 (-1 : Int32)) 0 60 53 (nI 0)) 0 60 54 (nI 0)) 0 60 55 (nI 0)) 0 60 56 (nI 0)) 0 60 61 (nI 0)) (by simp [am_up, am_upf, upd, hkd, hp]) (by simp [am_up, am_upf, upd, hkd, hp]) (by simp [am_up, am_upf, upd, hkd, hp]) (by simp [am_up, am_upf, upd, hkd, hp])) ?_
  refine am_goto (tgt := 312) dX11_attempt_285 (by decide) ?_
  refine am_vret dX11_attempt_312 rfl ?_
  exact ⟨rfl, rfl⟩
