theorem oi_1 : Cond.instanceMethod objectInit ∈ am_T := am_t1 30 rfl rfl
theorem oi_2 : Cond.code objectInit ⟨#[0xb1]⟩ 1 none ∈ am_T := am_t1 31 rfl rfl
theorem ar_I : Cond.arrayClass .int ∈ am_T := am_t1 68 rfl rfl
theorem ar_Z : Cond.arrayClass .boolean ∈ am_T := am_t1 69 rfl rfl
theorem ar_L : Cond.arrayClass .long ∈ am_T := am_t8 220 rfl rfl
theorem ob_0 : Cond.methodLink RX0 3 objectInit ∈ am_T := am_t2 72 rfl rfl
theorem ob_1 : Cond.methodLink RX1 3 objectInit ∈ am_T := am_t1 50 rfl rfl
theorem ob_2 : Cond.methodLink RX2 3 objectInit ∈ am_T := am_t2 150 rfl rfl
theorem ob_3 : Cond.methodLink RX3 3 objectInit ∈ am_T := am_t1 181 rfl rfl
theorem ob_4 : Cond.methodLink RX4 3 objectInit ∈ am_T := am_t1 75 rfl rfl
theorem ob_5 : Cond.methodLink RX5 3 objectInit ∈ am_T := am_t2 45 rfl rfl
theorem ob_6 : Cond.methodLink RX6 3 objectInit ∈ am_T := am_t2 17 rfl rfl
theorem ob_7 : Cond.methodLink RX7 1 objectInit ∈ am_T := am_t1 44 rfl rfl
theorem ob_8 : Cond.methodLink RX8 3 objectInit ∈ am_T := am_t1 115 rfl rfl
theorem ob_9 : Cond.methodLink RX9 3 objectInit ∈ am_T := am_t2 87 rfl rfl
theorem ob_10 : Cond.methodLink RX10 3 objectInit ∈ am_T := am_t1 29 rfl rfl
theorem ob_11 : Cond.methodLink RX11 1 objectInit ∈ am_T := am_t6 49 rfl rfl
theorem lkX10_init : am_lk mX10_init 1 := ⟨am_t1 28 rfl rfl, am_t1 1 rfl rfl, ⟨by decide +kernel, by decide +kernel, by decide +kernel⟩, by decide⟩
theorem inX10_init : Cond.instanceMethod yX10_init ∈ am_T := am_t1 27 rfl rfl
theorem cdX10_init : Cond.code yX10_init cX10_init 5 none ∈ am_T := am_t1 28 rfl rfl
theorem lkX7_init : am_lk mX7_init 1 := ⟨am_t1 43 rfl rfl, am_t1 2 rfl rfl, ⟨by decide +kernel, by decide +kernel, by decide +kernel⟩, by decide⟩
theorem inX7_init : Cond.instanceMethod yX7_init ∈ am_T := am_t1 42 rfl rfl
theorem cdX7_init : Cond.code yX7_init cX7_init 2 none ∈ am_T := am_t1 43 rfl rfl
theorem lkX1_init : am_lk mX1_init 0 := ⟨am_t1 49 rfl rfl, am_t1 3 rfl rfl, ⟨by decide +kernel, by decide +kernel, by decide +kernel⟩, by decide⟩
theorem inX1_init : Cond.instanceMethod yX1_init ∈ am_T := am_t1 48 rfl rfl
theorem cdX1_init : Cond.code yX1_init cX1_init 1 none ∈ am_T := am_t1 49 rfl rfl
theorem lkX4_init : am_lk mX4_init 0 := ⟨am_t1 74 rfl rfl, am_t1 4 rfl rfl, ⟨by decide +kernel, by decide +kernel, by decide +kernel⟩, by decide⟩
theorem inX4_init : Cond.instanceMethod yX4_init ∈ am_T := am_t1 73 rfl rfl
theorem cdX4_init : Cond.code yX4_init cX4_init 1 none ∈ am_T := am_t1 74 rfl rfl
theorem lkX8_init : am_lk mX8_init 0 := ⟨am_t1 114 rfl rfl, am_t1 6 rfl rfl, ⟨by decide +kernel, by decide +kernel, by decide +kernel⟩, by decide⟩
theorem inX8_init : Cond.instanceMethod yX8_init ∈ am_T := am_t1 113 rfl rfl
theorem cdX8_init : Cond.code yX8_init cX8_init 1 none ∈ am_T := am_t1 114 rfl rfl
theorem lkX3_init : am_lk mX3_init 1 := ⟨am_t1 180 rfl rfl, am_t1 7 rfl rfl, ⟨by decide +kernel, by decide +kernel, by decide +kernel⟩, by decide⟩
theorem inX3_init : Cond.instanceMethod yX3_init ∈ am_T := am_t1 179 rfl rfl
theorem cdX3_init : Cond.code yX3_init cX3_init 2 none ∈ am_T := am_t1 180 rfl rfl
theorem lkX6_init : am_lk mX6_init 0 := ⟨am_t2 16 rfl rfl, am_t1 8 rfl rfl, ⟨by decide +kernel, by decide +kernel, by decide +kernel⟩, by decide⟩
theorem inX6_init : Cond.instanceMethod yX6_init ∈ am_T := am_t2 15 rfl rfl
theorem cdX6_init : Cond.code yX6_init cX6_init 1 none ∈ am_T := am_t2 16 rfl rfl
theorem lkX5_init : am_lk mX5_init 0 := ⟨am_t2 44 rfl rfl, am_t1 9 rfl rfl, ⟨by decide +kernel, by decide +kernel, by decide +kernel⟩, by decide⟩
theorem inX5_init : Cond.instanceMethod yX5_init ∈ am_T := am_t2 43 rfl rfl
theorem cdX5_init : Cond.code yX5_init cX5_init 1 none ∈ am_T := am_t2 44 rfl rfl
theorem lkX0_init : am_lk mX0_init 0 := ⟨am_t2 71 rfl rfl, am_t1 10 rfl rfl, ⟨by decide +kernel, by decide +kernel, by decide +kernel⟩, by decide⟩
theorem inX0_init : Cond.instanceMethod yX0_init ∈ am_T := am_t2 70 rfl rfl
theorem cdX0_init : Cond.code yX0_init cX0_init 1 none ∈ am_T := am_t2 71 rfl rfl
theorem lkX9_init : am_lk mX9_init 2 := ⟨am_t2 86 rfl rfl, am_t1 11 rfl rfl, ⟨by decide +kernel, by decide +kernel, by decide +kernel⟩, by decide⟩
theorem inX9_init : Cond.instanceMethod yX9_init ∈ am_T := am_t2 85 rfl rfl
theorem cdX9_init : Cond.code yX9_init cX9_init 3 none ∈ am_T := am_t2 86 rfl rfl
theorem lkX2_init : am_lk mX2_init 1 := ⟨am_t2 149 rfl rfl, am_t1 12 rfl rfl, ⟨by decide +kernel, by decide +kernel, by decide +kernel⟩, by decide⟩
theorem inX2_init : Cond.instanceMethod yX2_init ∈ am_T := am_t2 148 rfl rfl
theorem cdX2_init : Cond.code yX2_init cX2_init 2 none ∈ am_T := am_t2 149 rfl rfl
theorem lkX11_init : am_lk mX11_init 1 := ⟨am_t6 48 rfl rfl, am_t1 13 rfl rfl, ⟨by decide +kernel, by decide +kernel, by decide +kernel⟩, by decide⟩
theorem inX11_init : Cond.instanceMethod yX11_init ∈ am_T := am_t6 47 rfl rfl
theorem cdX11_init : Cond.code yX11_init cX11_init 3 none ∈ am_T := am_t6 48 rfl rfl
theorem ff_1_9 : k_ff RX1 9 1 0 (.array .int) := ⟨RX1, TX1, 3, tyX1, rfl, ux_1, by decide, am_t1 51 rfl rfl, nmX1, tyX1_ok, rfl, rfl, by decide +kernel⟩
theorem ff_1_15 : k_ff RX1 15 1 1 (.array .boolean) := ⟨RX1, TX1, 3, tyX1, rfl, ux_1, by decide, am_t1 55 rfl rfl, nmX1, tyX1_ok, rfl, rfl, by decide +kernel⟩
def kw_1 (B : k_B) (a : Nat → Nat) : va_W := [(a 41, .inr (1, [.ref (a 42), .ref (a 43), .int 0])), (a 42, .inl (B.2.1.1, 10240, .inl (fun _ => 0))), (a 43, .inl (B.2.1.2.1, 640, .inl (fun _ => 0)))]
theorem ki_1 {B : k_B} {d : Nat} {o : Nat} : k_C B (d + 1) 2 10880 mX1_init [.inr (o, 0)] [(o, .inr (1, [.null, .null, .int 0]))] (fun _ w => ∃ a : Nat → Nat, a 41 = o ∧ w = kw_1 B  a) := by
  refine k_of (by decide) (Nat.le_of_ble_eq_true rfl) ?_
  refine k_aload_n (k := 0) (x := o) dX1_init_0 rfl ?_
  refine k_obj dX1_init_1 ob_1 oi_1 oi_2 (by omega) rfl ?_
  refine k_aload_n (k := 0) (x := o) dX1_init_4 rfl ?_
  refine k_sipush (v := nI 10240) dX1_init_5 (by decide) ?_
  refine k_newI (N' := 10240) dX1_init_8 ar_I (by decide) (by decide) (by decide) (Nat.le_of_ble_eq_true rfl) (Nat.le_of_ble_eq_true rfl) (fun q8 => ?_)
  refine k_putF (k := 0) dX1_init_10 ff_1_9 rfl rfl rfl (Nat.le_of_ble_eq_true rfl) ?_
  refine k_aload_n (k := 0) (x := o) dX1_init_13 rfl ?_
  refine k_sipush (v := nI 640) dX1_init_14 (by decide) ?_
  refine k_newZ (N' := 640) dX1_init_17 ar_Z (by decide) (by decide) (by decide) (Nat.le_of_ble_eq_true rfl) (Nat.le_of_ble_eq_true rfl) (fun q17 => ?_)
  refine k_putF (k := 1) dX1_init_19 ff_1_15 rfl rfl rfl (Nat.le_of_ble_eq_true rfl) ?_
  exact k_vret dX1_init_22 rfl rfl rfl ⟨fun j => [o, q8, q17].getD (j - 41) 0, rfl, rfl⟩
theorem ff_4_9 : k_ff RX4 9 4 0 (.array .int) := ⟨RX4, TX4, 7, tyX4, rfl, ux_4, by decide, am_t1 79 rfl rfl, nmX4, tyX4_ok, rfl, rfl, by decide +kernel⟩
theorem ff_4_15 : k_ff RX4 15 4 1 (.array .int) := ⟨RX4, TX4, 7, tyX4, rfl, ux_4, by decide, am_t1 82 rfl rfl, nmX4, tyX4_ok, rfl, rfl, by decide +kernel⟩
theorem ff_4_18 : k_ff RX4 18 4 2 (.array .int) := ⟨RX4, TX4, 7, tyX4, rfl, ux_4, by decide, am_t1 84 rfl rfl, nmX4, tyX4_ok, rfl, rfl, by decide +kernel⟩
theorem ff_4_21 : k_ff RX4 21 4 3 (.array .boolean) := ⟨RX4, TX4, 7, tyX4, rfl, ux_4, by decide, am_t1 86 rfl rfl, nmX4, tyX4_ok, rfl, rfl, by decide +kernel⟩
theorem ff_4_25 : k_ff RX4 25 4 4 (.array .int) := ⟨RX4, TX4, 7, tyX4, rfl, ux_4, by decide, am_t1 89 rfl rfl, nmX4, tyX4_ok, rfl, rfl, by decide +kernel⟩
theorem ff_4_28 : k_ff RX4 28 4 5 (.array .int) := ⟨RX4, TX4, 7, tyX4, rfl, ux_4, by decide, am_t1 91 rfl rfl, nmX4, tyX4_ok, rfl, rfl, by decide +kernel⟩
def kw_4 (B : k_B) (a : Nat → Nat) : va_W := [(a 48, .inr (4, [.ref (a 49), .ref (a 50), .ref (a 51), .ref (a 52), .ref (a 53), .ref (a 54), .int 0])), (a 49, .inl (B.2.1.1, 136, .inl (fun _ => 0))), (a 50, .inl (B.2.1.1, 136, .inl (fun _ => 0))), (a 51, .inl (B.2.1.1, 136, .inl (am_fil (fun _ => 0) 136 (-1)))), (a 52, .inl (B.2.1.2.1, 136, .inl (fun _ => 0))), (a 53, .inl (B.2.1.1, 136, .inl (fun _ => 0))), (a 54, .inl (B.2.1.1, 136, .inl (fun _ => 0)))]
theorem ki_4 {B : k_B} {d : Nat} {o : Nat} : k_C B (d + 1) 6 816 mX4_init [.inr (o, 0)] [(o, .inr (4, [.null, .null, .null, .null, .null, .null, .int 0]))] (fun _ w => ∃ a : Nat → Nat, a 48 = o ∧ w = kw_4 B  a) := by
  refine k_of (by decide) (Nat.le_of_ble_eq_true rfl) ?_
  refine k_aload_n (k := 0) (x := o) dX4_init_0 rfl ?_
  refine k_obj dX4_init_1 ob_4 oi_1 oi_2 (by omega) rfl ?_
  refine k_aload_n (k := 0) (x := o) dX4_init_4 rfl ?_
  refine k_sipush (v := nI 136) dX4_init_5 (by decide) ?_
  refine k_newI (N' := 136) dX4_init_8 ar_I (by decide) (by decide) (by decide) (Nat.le_of_ble_eq_true rfl) (Nat.le_of_ble_eq_true rfl) (fun q8 => ?_)
  refine k_putF (k := 0) dX4_init_10 ff_4_9 rfl rfl rfl (Nat.le_of_ble_eq_true rfl) ?_
  refine k_aload_n (k := 0) (x := o) dX4_init_13 rfl ?_
  refine k_sipush (v := nI 136) dX4_init_14 (by decide) ?_
  refine k_newI (N' := 136) dX4_init_17 ar_I (by decide) (by decide) (by decide) (Nat.le_of_ble_eq_true rfl) (Nat.le_of_ble_eq_true rfl) (fun q17 => ?_)
  refine k_putF (k := 1) dX4_init_19 ff_4_15 rfl rfl rfl (Nat.le_of_ble_eq_true rfl) ?_
  refine k_aload_n (k := 0) (x := o) dX4_init_22 rfl ?_
  refine k_sipush (v := nI 136) dX4_init_23 (by decide) ?_
  refine k_newI (N' := 136) dX4_init_26 ar_I (by decide) (by decide) (by decide) (Nat.le_of_ble_eq_true rfl) (Nat.le_of_ble_eq_true rfl) (fun q26 => ?_)
  refine k_putF (k := 2) dX4_init_28 ff_4_18 rfl rfl rfl (Nat.le_of_ble_eq_true rfl) ?_
  refine k_aload_n (k := 0) (x := o) dX4_init_31 rfl ?_
  refine k_sipush (v := nI 136) dX4_init_32 (by decide) ?_
  refine k_newZ (N' := 136) dX4_init_35 ar_Z (by decide) (by decide) (by decide) (Nat.le_of_ble_eq_true rfl) (Nat.le_of_ble_eq_true rfl) (fun q35 => ?_)
  refine k_putF (k := 3) dX4_init_37 ff_4_21 rfl rfl rfl (Nat.le_of_ble_eq_true rfl) ?_
  refine k_aload_n (k := 0) (x := o) dX4_init_40 rfl ?_
  refine k_sipush (v := nI 136) dX4_init_41 (by decide) ?_
  refine k_newI (N' := 136) dX4_init_44 ar_I (by decide) (by decide) (by decide) (Nat.le_of_ble_eq_true rfl) (Nat.le_of_ble_eq_true rfl) (fun q44 => ?_)
  refine k_putF (k := 4) dX4_init_46 ff_4_25 rfl rfl rfl (Nat.le_of_ble_eq_true rfl) ?_
  refine k_aload_n (k := 0) (x := o) dX4_init_49 rfl ?_
  refine k_sipush (v := nI 136) dX4_init_50 (by decide) ?_
  refine k_newI (N' := 136) dX4_init_53 ar_I (by decide) (by decide) (by decide) (Nat.le_of_ble_eq_true rfl) (Nat.le_of_ble_eq_true rfl) (fun q53 => ?_)
  refine k_putF (k := 5) dX4_init_55 ff_4_28 rfl rfl rfl (Nat.le_of_ble_eq_true rfl) ?_
  refine k_aload_n (k := 0) (x := o) dX4_init_58 rfl ?_
  refine k_get (j := 48) (k := 2) (v := .ref q26) dX4_init_59 fl_4_18 rfl ?_
  refine k_iconst (v := (-1)) dX4_init_62 (by decide) ?_
  refine k_callS (G := (B.1, B.2.1, fun _ _ => q26, 0, [(0, 51)])) (I := fun _ _ _ => 0) (as := [.inr (0, 51), .inl (-1)]) (rest := []) (w1 := (o, .inr (4, [.ref q8, .ref q17, .ref q26, .ref q35, .ref q44, .ref q53, .int 0])) :: [(q8, .inl (B.2.1.1, 136, .inl (fun _ => 0))), (q17, .inl (B.2.1.1, 136, .inl (fun _ => 0)))]) (w3 := [(q35, .inl (B.2.1.2.1, 136, .inl (fun _ => 0))), (q44, .inl (B.2.1.1, 136, .inl (fun _ => 0))), (q53, .inl (B.2.1.1, 136, .inl (fun _ => 0)))]) ⟨rfl, rfl⟩ dX4_init_63 lkJ7_fill_53178 ml_X4_31 isJ7_fill_53178 rfl (by decide) rfl rfl (Nat.le_of_ble_eq_true rfl) (Nat.le_of_ble_eq_true rfl) (c_fill (by show [((0 : Nat), (51 : Nat))].Nodup; decide) (List.mem_cons_self) rfl (by show 136 < 2 ^ 31; decide) (-1) _) ?_
  intro r I' _ hq
  obtain ⟨rfl, rfl⟩ := hq
  refine k_ws (ws' := (o, .inr (4, [.ref q8, .ref q17, .ref q26, .ref q35, .ref q44, .ref q53, .int 0])) :: [(q8, .inl (B.2.1.1, 136, .inl (fun _ => 0))), (q17, .inl (B.2.1.1, 136, .inl (fun _ => 0))), (q26, .inl (B.2.1.1, 136, .inl (am_fil (fun _ => 0) 136 (-1)))), (q35, .inl (B.2.1.2.1, 136, .inl (fun _ => 0))), (q44, .inl (B.2.1.1, 136, .inl (fun _ => 0))), (q53, .inl (B.2.1.1, 136, .inl (fun _ => 0)))]) rfl ?_
  exact k_vret dX4_init_66 rfl rfl rfl ⟨fun j => [o, q8, q17, q26, q35, q44, q53].getD (j - 48) 0, rfl, rfl⟩
def kw_8 (B : k_B) (a : Nat → Nat) : va_W := [(a 55, .inr (8, [.int 0, .int 0, .int 0, .int 0, .int 0, .int 0, .int 0, .int 0, .int 0, .int 0, .int 0, .int 0]))]
theorem ki_8 {B : k_B} {d : Nat} {o : Nat} : k_C B (d + 1) 0 0 mX8_init [.inr (o, 0)] [(o, .inr (8, [.int 0, .int 0, .int 0, .int 0, .int 0, .int 0, .int 0, .int 0, .int 0, .int 0, .int 0, .int 0]))] (fun _ w => ∃ a : Nat → Nat, a 55 = o ∧ w = kw_8 B  a) := by
  refine k_of (by decide) (Nat.le_of_ble_eq_true rfl) ?_
  refine k_aload_n (k := 0) (x := o) dX8_init_0 rfl ?_
  refine k_obj dX8_init_1 ob_8 oi_1 oi_2 (by omega) rfl ?_
  exact k_vret dX8_init_4 rfl rfl rfl ⟨fun j => [o].getD (j - 55) 0, rfl, rfl⟩
theorem ff_3_9 : k_ff RX3 9 3 1 (.array .int) := ⟨RX3, TX3, 9, tyX3, rfl, ux_3, by decide, am_t1 183 rfl rfl, nmX3, tyX3_ok, rfl, rfl, by decide +kernel⟩
theorem ff_3_15 : k_ff RX3 15 3 3 (.array .int) := ⟨RX3, TX3, 9, tyX3, rfl, ux_3, by decide, am_t1 188 rfl rfl, nmX3, tyX3_ok, rfl, rfl, by decide +kernel⟩
theorem ff_3_18 : k_ff RX3 18 3 4 (.array .int) := ⟨RX3, TX3, 9, tyX3, rfl, ux_3, by decide, am_t1 189 rfl rfl, nmX3, tyX3_ok, rfl, rfl, by decide +kernel⟩
theorem ff_3_21 : k_ff RX3 21 3 0 .int := ⟨RX3, TX3, 9, tyX3, rfl, ux_3, by decide, am_t1 182 rfl rfl, nmX3, tyX3_ok, rfl, rfl, by decide +kernel⟩
def kw_3 (B : k_B) (hd : Int32) (a : Nat → Nat) : va_W := [(a 44, .inr (3, [.int hd, .ref (a 45), .int 0, .ref (a 46), .ref (a 47), .int 0, .int 0, .int 0, .int 0])), (a 45, .inl (B.2.1.1, 16, .inl (fun _ => 0))), (a 46, .inl (B.2.1.1, 16, .inl (fun _ => 0))), (a 47, .inl (B.2.1.1, 256, .inl (fun _ => 0)))]
theorem ki_3 {B : k_B} {d : Nat} {o : Nat} (hd : Int32) : k_C B (d + 1) 3 288 mX3_init [.inr (o, 0), .inl hd] [(o, .inr (3, [.int 0, .null, .int 0, .null, .null, .int 0, .int 0, .int 0, .int 0]))] (fun _ w => ∃ a : Nat → Nat, a 44 = o ∧ w = kw_3 B hd a) := by
  refine k_of (by decide) (Nat.le_of_ble_eq_true rfl) ?_
  refine k_aload_n (k := 0) (x := o) dX3_init_0 rfl ?_
  refine k_obj dX3_init_1 ob_3 oi_1 oi_2 (by omega) rfl ?_
  refine k_aload_n (k := 0) (x := o) dX3_init_4 rfl ?_
  refine k_bipush (v := nI 16) dX3_init_5 (by decide) ?_
  refine k_newI (N' := 16) dX3_init_7 ar_I (by decide) (by decide) (by decide) (Nat.le_of_ble_eq_true rfl) (Nat.le_of_ble_eq_true rfl) (fun q7 => ?_)
  refine k_putF (k := 1) dX3_init_9 ff_3_9 rfl rfl rfl (Nat.le_of_ble_eq_true rfl) ?_
  refine k_aload_n (k := 0) (x := o) dX3_init_12 rfl ?_
  refine k_bipush (v := nI 16) dX3_init_13 (by decide) ?_
  refine k_newI (N' := 16) dX3_init_15 ar_I (by decide) (by decide) (by decide) (Nat.le_of_ble_eq_true rfl) (Nat.le_of_ble_eq_true rfl) (fun q15 => ?_)
  refine k_putF (k := 3) dX3_init_17 ff_3_15 rfl rfl rfl (Nat.le_of_ble_eq_true rfl) ?_
  refine k_aload_n (k := 0) (x := o) dX3_init_20 rfl ?_
  refine k_sipush (v := nI 256) dX3_init_21 (by decide) ?_
  refine k_newI (N' := 256) dX3_init_24 ar_I (by decide) (by decide) (by decide) (Nat.le_of_ble_eq_true rfl) (Nat.le_of_ble_eq_true rfl) (fun q24 => ?_)
  refine k_putF (k := 4) dX3_init_26 ff_3_18 rfl rfl rfl (Nat.le_of_ble_eq_true rfl) ?_
  refine k_aload_n (k := 0) (x := o) dX3_init_29 rfl ?_
  refine k_iload_n (k := 1) (x := hd) dX3_init_30 rfl ?_
  refine k_putF (k := 0) dX3_init_31 ff_3_21 rfl rfl rfl (Nat.le_of_ble_eq_true rfl) ?_
  exact k_vret dX3_init_34 rfl rfl rfl ⟨fun j => [o, q7, q15, q24].getD (j - 44) 0, rfl, rfl⟩
theorem ff_6_9 : k_ff RX6 9 6 0 (.array .int) := ⟨RX6, TX6, 5, tyX6, rfl, ux_6, by decide, am_t2 19 rfl rfl, nmX6, tyX6_ok, rfl, rfl, by decide +kernel⟩
theorem ff_6_15 : k_ff RX6 15 6 1 (.array .int) := ⟨RX6, TX6, 5, tyX6, rfl, ux_6, by decide, am_t2 21 rfl rfl, nmX6, tyX6_ok, rfl, rfl, by decide +kernel⟩
theorem ff_6_18 : k_ff RX6 18 6 2 (.array .int) := ⟨RX6, TX6, 5, tyX6, rfl, ux_6, by decide, am_t2 23 rfl rfl, nmX6, tyX6_ok, rfl, rfl, by decide +kernel⟩
theorem ff_6_21 : k_ff RX6 21 6 3 (.array .int) := ⟨RX6, TX6, 5, tyX6, rfl, ux_6, by decide, am_t2 25 rfl rfl, nmX6, tyX6_ok, rfl, rfl, by decide +kernel⟩
theorem ff_6_24 : k_ff RX6 24 6 4 (.array .int) := ⟨RX6, TX6, 5, tyX6, rfl, ux_6, by decide, am_t2 27 rfl rfl, nmX6, tyX6_ok, rfl, rfl, by decide +kernel⟩
def kw_6 (B : k_B) (a : Nat → Nat) : va_W := [(a 3, .inr (6, [.ref (a 4), .ref (a 5), .ref (a 6), .ref (a 7), .ref (a 8)])), (a 4, .inl (B.2.1.1, 544, .inl (fun _ => 0))), (a 5, .inl (B.2.1.1, 544, .inl (am_fil (fun _ => 0) 544 (-1)))), (a 6, .inl (B.2.1.1, 544, .inl (fun _ => 0))), (a 7, .inl (B.2.1.1, 544, .inl (fun _ => 0))), (a 8, .inl (B.2.1.1, 136, .inl (fun _ => 0)))]
theorem ki_6 {B : k_B} {d : Nat} {o : Nat} : k_C B (d + 1) 5 2312 mX6_init [.inr (o, 0)] [(o, .inr (6, [.null, .null, .null, .null, .null]))] (fun _ w => ∃ a : Nat → Nat, a 3 = o ∧ w = kw_6 B  a) := by
  refine k_of (by decide) (Nat.le_of_ble_eq_true rfl) ?_
  refine k_aload_n (k := 0) (x := o) dX6_init_0 rfl ?_
  refine k_obj dX6_init_1 ob_6 oi_1 oi_2 (by omega) rfl ?_
  refine k_aload_n (k := 0) (x := o) dX6_init_4 rfl ?_
  refine k_sipush (v := nI 544) dX6_init_5 (by decide) ?_
  refine k_newI (N' := 544) dX6_init_8 ar_I (by decide) (by decide) (by decide) (Nat.le_of_ble_eq_true rfl) (Nat.le_of_ble_eq_true rfl) (fun q8 => ?_)
  refine k_putF (k := 0) dX6_init_10 ff_6_9 rfl rfl rfl (Nat.le_of_ble_eq_true rfl) ?_
  refine k_aload_n (k := 0) (x := o) dX6_init_13 rfl ?_
  refine k_sipush (v := nI 544) dX6_init_14 (by decide) ?_
  refine k_newI (N' := 544) dX6_init_17 ar_I (by decide) (by decide) (by decide) (Nat.le_of_ble_eq_true rfl) (Nat.le_of_ble_eq_true rfl) (fun q17 => ?_)
  refine k_putF (k := 1) dX6_init_19 ff_6_15 rfl rfl rfl (Nat.le_of_ble_eq_true rfl) ?_
  refine k_aload_n (k := 0) (x := o) dX6_init_22 rfl ?_
  refine k_sipush (v := nI 544) dX6_init_23 (by decide) ?_
  refine k_newI (N' := 544) dX6_init_26 ar_I (by decide) (by decide) (by decide) (Nat.le_of_ble_eq_true rfl) (Nat.le_of_ble_eq_true rfl) (fun q26 => ?_)
  refine k_putF (k := 2) dX6_init_28 ff_6_18 rfl rfl rfl (Nat.le_of_ble_eq_true rfl) ?_
  refine k_aload_n (k := 0) (x := o) dX6_init_31 rfl ?_
  refine k_sipush (v := nI 544) dX6_init_32 (by decide) ?_
  refine k_newI (N' := 544) dX6_init_35 ar_I (by decide) (by decide) (by decide) (Nat.le_of_ble_eq_true rfl) (Nat.le_of_ble_eq_true rfl) (fun q35 => ?_)
  refine k_putF (k := 3) dX6_init_37 ff_6_21 rfl rfl rfl (Nat.le_of_ble_eq_true rfl) ?_
  refine k_aload_n (k := 0) (x := o) dX6_init_40 rfl ?_
  refine k_sipush (v := nI 136) dX6_init_41 (by decide) ?_
  refine k_newI (N' := 136) dX6_init_44 ar_I (by decide) (by decide) (by decide) (Nat.le_of_ble_eq_true rfl) (Nat.le_of_ble_eq_true rfl) (fun q44 => ?_)
  refine k_putF (k := 4) dX6_init_46 ff_6_24 rfl rfl rfl (Nat.le_of_ble_eq_true rfl) ?_
  refine k_aload_n (k := 0) (x := o) dX6_init_49 rfl ?_
  refine k_get (j := 3) (k := 1) (v := .ref q17) dX6_init_50 fl_6_15 rfl ?_
  refine k_iconst (v := (-1)) dX6_init_53 (by decide) ?_
  refine k_callS (G := (B.1, B.2.1, fun _ _ => q17, 0, [(0, 5)])) (I := fun _ _ _ => 0) (as := [.inr (0, 5), .inl (-1)]) (rest := []) (w1 := (o, .inr (6, [.ref q8, .ref q17, .ref q26, .ref q35, .ref q44])) :: [(q8, .inl (B.2.1.1, 544, .inl (fun _ => 0)))]) (w3 := [(q26, .inl (B.2.1.1, 544, .inl (fun _ => 0))), (q35, .inl (B.2.1.1, 544, .inl (fun _ => 0))), (q44, .inl (B.2.1.1, 136, .inl (fun _ => 0)))]) ⟨rfl, rfl⟩ dX6_init_54 lkJ7_fill_53178 ml_X6_27 isJ7_fill_53178 rfl (by decide) rfl rfl (Nat.le_of_ble_eq_true rfl) (Nat.le_of_ble_eq_true rfl) (c_fill (by show [((0 : Nat), (5 : Nat))].Nodup; decide) (List.mem_cons_self) rfl (by show 544 < 2 ^ 31; decide) (-1) _) ?_
  intro r I' _ hq
  obtain ⟨rfl, rfl⟩ := hq
  refine k_ws (ws' := (o, .inr (6, [.ref q8, .ref q17, .ref q26, .ref q35, .ref q44])) :: [(q8, .inl (B.2.1.1, 544, .inl (fun _ => 0))), (q17, .inl (B.2.1.1, 544, .inl (am_fil (fun _ => 0) 544 (-1)))), (q26, .inl (B.2.1.1, 544, .inl (fun _ => 0))), (q35, .inl (B.2.1.1, 544, .inl (fun _ => 0))), (q44, .inl (B.2.1.1, 136, .inl (fun _ => 0)))]) rfl ?_
  exact k_vret dX6_init_57 rfl rfl rfl ⟨fun j => [o, q8, q17, q26, q35, q44].getD (j - 3) 0, rfl, rfl⟩
theorem ff_5_9 : k_ff RX5 9 5 0 (.array .int) := ⟨RX5, TX5, 5, tyX5, rfl, ux_5, by decide, am_t2 47 rfl rfl, nmX5, tyX5_ok, rfl, rfl, by decide +kernel⟩
theorem ff_5_15 : k_ff RX5 15 5 1 (.array .int) := ⟨RX5, TX5, 5, tyX5, rfl, ux_5, by decide, am_t2 49 rfl rfl, nmX5, tyX5_ok, rfl, rfl, by decide +kernel⟩
theorem ff_5_18 : k_ff RX5 18 5 2 (.array .int) := ⟨RX5, TX5, 5, tyX5, rfl, ux_5, by decide, am_t2 51 rfl rfl, nmX5, tyX5_ok, rfl, rfl, by decide +kernel⟩
def kw_5 (B : k_B) (a : Nat → Nat) : va_W := [(a 9, .inr (5, [.ref (a 10), .ref (a 11), .ref (a 12), .int 0, .int 0])), (a 10, .inl (B.2.1.1, 16, .inl (am_fil (fun _ => 0) 16 (nI 1)))), (a 11, .inl (B.2.1.1, 768, .inl (fun _ => 0))), (a 12, .inl (B.2.1.1, 768, .inl (fun _ => 0)))]
theorem ki_5 {B : k_B} {d : Nat} {o : Nat} : k_C B (d + 1) 3 1552 mX5_init [.inr (o, 0)] [(o, .inr (5, [.null, .null, .null, .int 0, .int 0]))] (fun _ w => ∃ a : Nat → Nat, a 9 = o ∧ w = kw_5 B  a) := by
  refine k_of (by decide) (Nat.le_of_ble_eq_true rfl) ?_
  refine k_aload_n (k := 0) (x := o) dX5_init_0 rfl ?_
  refine k_obj dX5_init_1 ob_5 oi_1 oi_2 (by omega) rfl ?_
  refine k_aload_n (k := 0) (x := o) dX5_init_4 rfl ?_
  refine k_bipush (v := nI 16) dX5_init_5 (by decide) ?_
  refine k_newI (N' := 16) dX5_init_7 ar_I (by decide) (by decide) (by decide) (Nat.le_of_ble_eq_true rfl) (Nat.le_of_ble_eq_true rfl) (fun q7 => ?_)
  refine k_putF (k := 0) dX5_init_9 ff_5_9 rfl rfl rfl (Nat.le_of_ble_eq_true rfl) ?_
  refine k_aload_n (k := 0) (x := o) dX5_init_12 rfl ?_
  refine k_sipush (v := nI 768) dX5_init_13 (by decide) ?_
  refine k_newI (N' := 768) dX5_init_16 ar_I (by decide) (by decide) (by decide) (Nat.le_of_ble_eq_true rfl) (Nat.le_of_ble_eq_true rfl) (fun q16 => ?_)
  refine k_putF (k := 1) dX5_init_18 ff_5_15 rfl rfl rfl (Nat.le_of_ble_eq_true rfl) ?_
  refine k_aload_n (k := 0) (x := o) dX5_init_21 rfl ?_
  refine k_sipush (v := nI 768) dX5_init_22 (by decide) ?_
  refine k_newI (N' := 768) dX5_init_25 ar_I (by decide) (by decide) (by decide) (Nat.le_of_ble_eq_true rfl) (Nat.le_of_ble_eq_true rfl) (fun q25 => ?_)
  refine k_putF (k := 2) dX5_init_27 ff_5_18 rfl rfl rfl (Nat.le_of_ble_eq_true rfl) ?_
  refine k_aload_n (k := 0) (x := o) dX5_init_30 rfl ?_
  refine k_get (j := 9) (k := 0) (v := .ref q7) dX5_init_31 fl_5_9 rfl ?_
  refine k_iconst (v := (nI 1)) dX5_init_34 (by decide) ?_
  refine k_callS (G := (B.1, B.2.1, fun _ _ => q7, 0, [(0, 10)])) (I := fun _ _ _ => 0) (as := [.inr (0, 10), .inl (nI 1)]) (rest := []) (w1 := (o, .inr (5, [.ref q7, .ref q16, .ref q25, .int 0, .int 0])) :: []) (w3 := [(q16, .inl (B.2.1.1, 768, .inl (fun _ => 0))), (q25, .inl (B.2.1.1, 768, .inl (fun _ => 0)))]) ⟨rfl, rfl⟩ dX5_init_35 lkJ7_fill_53178 ml_X5_21 isJ7_fill_53178 rfl (by decide) rfl rfl (Nat.le_of_ble_eq_true rfl) (Nat.le_of_ble_eq_true rfl) (c_fill (by show [((0 : Nat), (10 : Nat))].Nodup; decide) (List.mem_cons_self) rfl (by show 16 < 2 ^ 31; decide) (nI 1) _) ?_
  intro r I' _ hq
  obtain ⟨rfl, rfl⟩ := hq
  refine k_ws (ws' := (o, .inr (5, [.ref q7, .ref q16, .ref q25, .int 0, .int 0])) :: [(q7, .inl (B.2.1.1, 16, .inl (am_fil (fun _ => 0) 16 (nI 1)))), (q16, .inl (B.2.1.1, 768, .inl (fun _ => 0))), (q25, .inl (B.2.1.1, 768, .inl (fun _ => 0)))]) rfl ?_
  exact k_vret dX5_init_38 rfl rfl rfl ⟨fun j => [o, q7, q16, q25].getD (j - 9) 0, rfl, rfl⟩
theorem ff_0_11 : k_ff RX0 11 0 0 (.array .int) := ⟨RX0, TX0, 2, tyX0, rfl, ux_0, by decide, am_t2 73 rfl rfl, nmX0, tyX0_ok, rfl, rfl, by decide +kernel⟩
def kw_0 (B : k_B) (a : Nat → Nat) : va_W := [(a 13, .inr (0, [.ref (a 14), .int 0])), (a 14, .inl (B.2.1.1, 4000, .inl (fun _ => 0)))]
theorem ki_0 {B : k_B} {d : Nat} {o : Nat} : k_C B (d + 1) 1 4000 mX0_init [.inr (o, 0)] [(o, .inr (0, [.null, .int 0]))] (fun _ w => ∃ a : Nat → Nat, a 13 = o ∧ w = kw_0 B  a) := by
  refine k_of (by decide) (Nat.le_of_ble_eq_true rfl) ?_
  refine k_aload_n (k := 0) (x := o) dX0_init_0 rfl ?_
  refine k_obj dX0_init_1 ob_0 oi_1 oi_2 (by omega) rfl ?_
  refine k_aload_n (k := 0) (x := o) dX0_init_4 rfl ?_
  refine k_sipush (v := nI 4000) dX0_init_5 (by decide) ?_
  refine k_newI (N' := 4000) dX0_init_8 ar_I (by decide) (by decide) (by decide) (Nat.le_of_ble_eq_true rfl) (Nat.le_of_ble_eq_true rfl) (fun q8 => ?_)
  refine k_putF (k := 0) dX0_init_10 ff_0_11 rfl rfl rfl (Nat.le_of_ble_eq_true rfl) ?_
  exact k_vret dX0_init_13 rfl rfl rfl ⟨fun j => [o, q8].getD (j - 13) 0, rfl, rfl⟩
theorem ff_9_11 : k_ff RX9 11 9 1 (.array .int) := ⟨RX9, TX9, 17, tyX9, rfl, ux_9, by decide, am_t2 89 rfl rfl, nmX9, tyX9_ok, rfl, rfl, by decide +kernel⟩
theorem ff_9_15 : k_ff RX9 15 9 2 (.array .boolean) := ⟨RX9, TX9, 17, tyX9, rfl, ux_9, by decide, am_t2 90 rfl rfl, nmX9, tyX9_ok, rfl, rfl, by decide +kernel⟩
theorem ff_9_19 : k_ff RX9 19 9 3 (.array .int) := ⟨RX9, TX9, 17, tyX9, rfl, ux_9, by decide, am_t2 91 rfl rfl, nmX9, tyX9_ok, rfl, rfl, by decide +kernel⟩
theorem ff_9_22 : k_ff RX9 22 9 4 (.array .boolean) := ⟨RX9, TX9, 17, tyX9, rfl, ux_9, by decide, am_t2 92 rfl rfl, nmX9, tyX9_ok, rfl, rfl, by decide +kernel⟩
theorem ff_9_25 : k_ff RX9 25 9 6 (.array .int) := ⟨RX9, TX9, 17, tyX9, rfl, ux_9, by decide, am_t2 95 rfl rfl, nmX9, tyX9_ok, rfl, rfl, by decide +kernel⟩
theorem ff_9_28 : k_ff RX9 28 9 0 (.array .int) := ⟨RX9, TX9, 17, tyX9, rfl, ux_9, by decide, am_t2 88 rfl rfl, nmX9, tyX9_ok, rfl, rfl, by decide +kernel⟩
def kw_9 (B : k_B) (dk nd : Nat) (a : Nat → Nat) : va_W := [(a 15, .inr (9, [.ref dk, .ref (a 16), .ref (a 17), .ref (a 18), .ref (a 19), .int 0, .ref (a 20), .int 0, .ref nd, .int 0, .int 0, .int 0, .int 0, .int 0, .int 0, .int 0, .int 0])), (a 16, .inl (B.2.1.1, 32, .inl (fun _ => 0))), (a 17, .inl (B.2.1.2.1, 32, .inl (fun _ => 0))), (a 18, .inl (B.2.1.1, 512, .inl (fun _ => 0))), (a 19, .inl (B.2.1.2.1, 640, .inl (fun _ => 0))), (a 20, .inl (B.2.1.1, 32, .inl (fun _ => 0)))]
theorem ki_9 {B : k_B} {d : Nat} {o : Nat} (dk nd : Nat) : k_C B (d + 1) 5 1248 mX9_init [.inr (o, 0), .inr (dk, 0), .inr (nd, 0)] [(o, .inr (9, [.null, .null, .null, .null, .null, .int 0, .null, .int 0, .null, .int 0, .int 0, .int 0, .int 0, .int 0, .int 0, .int 0, .int 0]))] (fun _ w => ∃ a : Nat → Nat, a 15 = o ∧ w = kw_9 B dk nd a) := by
  refine k_of (by decide) (Nat.le_of_ble_eq_true rfl) ?_
  refine k_aload_n (k := 0) (x := o) dX9_init_0 rfl ?_
  refine k_obj dX9_init_1 ob_9 oi_1 oi_2 (by omega) rfl ?_
  refine k_aload_n (k := 0) (x := o) dX9_init_4 rfl ?_
  refine k_bipush (v := nI 32) dX9_init_5 (by decide) ?_
  refine k_newI (N' := 32) dX9_init_7 ar_I (by decide) (by decide) (by decide) (Nat.le_of_ble_eq_true rfl) (Nat.le_of_ble_eq_true rfl) (fun q7 => ?_)
  refine k_putF (k := 1) dX9_init_9 ff_9_11 rfl rfl rfl (Nat.le_of_ble_eq_true rfl) ?_
  refine k_aload_n (k := 0) (x := o) dX9_init_12 rfl ?_
  refine k_bipush (v := nI 32) dX9_init_13 (by decide) ?_
  refine k_newZ (N' := 32) dX9_init_15 ar_Z (by decide) (by decide) (by decide) (Nat.le_of_ble_eq_true rfl) (Nat.le_of_ble_eq_true rfl) (fun q15 => ?_)
  refine k_putF (k := 2) dX9_init_17 ff_9_15 rfl rfl rfl (Nat.le_of_ble_eq_true rfl) ?_
  refine k_aload_n (k := 0) (x := o) dX9_init_20 rfl ?_
  refine k_sipush (v := nI 512) dX9_init_21 (by decide) ?_
  refine k_newI (N' := 512) dX9_init_24 ar_I (by decide) (by decide) (by decide) (Nat.le_of_ble_eq_true rfl) (Nat.le_of_ble_eq_true rfl) (fun q24 => ?_)
  refine k_putF (k := 3) dX9_init_26 ff_9_19 rfl rfl rfl (Nat.le_of_ble_eq_true rfl) ?_
  refine k_aload_n (k := 0) (x := o) dX9_init_29 rfl ?_
  refine k_sipush (v := nI 640) dX9_init_30 (by decide) ?_
  refine k_newZ (N' := 640) dX9_init_33 ar_Z (by decide) (by decide) (by decide) (Nat.le_of_ble_eq_true rfl) (Nat.le_of_ble_eq_true rfl) (fun q33 => ?_)
  refine k_putF (k := 4) dX9_init_35 ff_9_22 rfl rfl rfl (Nat.le_of_ble_eq_true rfl) ?_
  refine k_aload_n (k := 0) (x := o) dX9_init_38 rfl ?_
  refine k_bipush (v := nI 32) dX9_init_39 (by decide) ?_
  refine k_newI (N' := 32) dX9_init_41 ar_I (by decide) (by decide) (by decide) (Nat.le_of_ble_eq_true rfl) (Nat.le_of_ble_eq_true rfl) (fun q41 => ?_)
  refine k_putF (k := 6) dX9_init_43 ff_9_25 rfl rfl rfl (Nat.le_of_ble_eq_true rfl) ?_
  refine k_aload_n (k := 0) (x := o) dX9_init_46 rfl ?_
  refine k_aload_n (k := 1) (x := dk) dX9_init_47 rfl ?_
  refine k_putF (k := 0) dX9_init_48 ff_9_28 rfl rfl rfl (Nat.le_of_ble_eq_true rfl) ?_
  refine k_aload_n (k := 0) (x := o) dX9_init_51 rfl ?_
  refine k_aload_n (k := 2) (x := nd) dX9_init_52 rfl ?_
  refine k_put (j := 15) (k := 8) dX9_init_53 fp_9_31 rfl rfl (Nat.le_of_ble_eq_true rfl) ?_
  exact k_vret dX9_init_56 rfl rfl rfl ⟨fun j => [o, q7, q15, q24, q33, q41].getD (j - 15) 0, rfl, rfl⟩
theorem ff_2_9 : k_ff RX2 9 2 1 (.array .int) := ⟨RX2, TX2, 8, tyX2, rfl, ux_2, by decide, am_t2 152 rfl rfl, nmX2, tyX2_ok, rfl, rfl, by decide +kernel⟩
theorem ff_2_15 : k_ff RX2 15 2 2 (.array .int) := ⟨RX2, TX2, 8, tyX2, rfl, ux_2, by decide, am_t2 153 rfl rfl, nmX2, tyX2_ok, rfl, rfl, by decide +kernel⟩
theorem ff_2_18 : k_ff RX2 18 2 3 (.array .boolean) := ⟨RX2, TX2, 8, tyX2, rfl, ux_2, by decide, am_t2 154 rfl rfl, nmX2, tyX2_ok, rfl, rfl, by decide +kernel⟩
theorem ff_2_22 : k_ff RX2 22 2 4 (.array .int) := ⟨RX2, TX2, 8, tyX2, rfl, ux_2, by decide, am_t2 155 rfl rfl, nmX2, tyX2_ok, rfl, rfl, by decide +kernel⟩
theorem ff_2_25 : k_ff RX2 25 2 6 (.array .int) := ⟨RX2, TX2, 8, tyX2, rfl, ux_2, by decide, am_t2 157 rfl rfl, nmX2, tyX2_ok, rfl, rfl, by decide +kernel⟩
theorem ff_2_28 : k_ff RX2 28 2 0 (.array .int) := ⟨RX2, TX2, 8, tyX2, rfl, ux_2, by decide, am_t2 151 rfl rfl, nmX2, tyX2_ok, rfl, rfl, by decide +kernel⟩
def kw_2 (B : k_B) (dk : Nat) (a : Nat → Nat) : va_W := [(a 21, .inr (2, [.ref dk, .ref (a 22), .ref (a 23), .ref (a 24), .ref (a 25), .int 0, .ref (a 26), .int 0])), (a 22, .inl (B.2.1.1, 640, .inl (fun _ => 0))), (a 23, .inl (B.2.1.1, 128, .inl (fun _ => 0))), (a 24, .inl (B.2.1.2.1, 128, .inl (fun _ => 0))), (a 25, .inl (B.2.1.1, 128, .inl (fun _ => 0))), (a 26, .inl (B.2.1.1, 24, .inl (fun _ => 0)))]
theorem ki_2 {B : k_B} {d : Nat} {o : Nat} (dk : Nat) : k_C B (d + 1) 5 1048 mX2_init [.inr (o, 0), .inr (dk, 0)] [(o, .inr (2, [.null, .null, .null, .null, .null, .int 0, .null, .int 0]))] (fun _ w => ∃ a : Nat → Nat, a 21 = o ∧ w = kw_2 B dk a) := by
  refine k_of (by decide) (Nat.le_of_ble_eq_true rfl) ?_
  refine k_aload_n (k := 0) (x := o) dX2_init_0 rfl ?_
  refine k_obj dX2_init_1 ob_2 oi_1 oi_2 (by omega) rfl ?_
  refine k_aload_n (k := 0) (x := o) dX2_init_4 rfl ?_
  refine k_sipush (v := nI 640) dX2_init_5 (by decide) ?_
  refine k_newI (N' := 640) dX2_init_8 ar_I (by decide) (by decide) (by decide) (Nat.le_of_ble_eq_true rfl) (Nat.le_of_ble_eq_true rfl) (fun q8 => ?_)
  refine k_putF (k := 1) dX2_init_10 ff_2_9 rfl rfl rfl (Nat.le_of_ble_eq_true rfl) ?_
  refine k_aload_n (k := 0) (x := o) dX2_init_13 rfl ?_
  refine k_sipush (v := nI 128) dX2_init_14 (by decide) ?_
  refine k_newI (N' := 128) dX2_init_17 ar_I (by decide) (by decide) (by decide) (Nat.le_of_ble_eq_true rfl) (Nat.le_of_ble_eq_true rfl) (fun q17 => ?_)
  refine k_putF (k := 2) dX2_init_19 ff_2_15 rfl rfl rfl (Nat.le_of_ble_eq_true rfl) ?_
  refine k_aload_n (k := 0) (x := o) dX2_init_22 rfl ?_
  refine k_sipush (v := nI 128) dX2_init_23 (by decide) ?_
  refine k_newZ (N' := 128) dX2_init_26 ar_Z (by decide) (by decide) (by decide) (Nat.le_of_ble_eq_true rfl) (Nat.le_of_ble_eq_true rfl) (fun q26 => ?_)
  refine k_putF (k := 3) dX2_init_28 ff_2_18 rfl rfl rfl (Nat.le_of_ble_eq_true rfl) ?_
  refine k_aload_n (k := 0) (x := o) dX2_init_31 rfl ?_
  refine k_sipush (v := nI 128) dX2_init_32 (by decide) ?_
  refine k_newI (N' := 128) dX2_init_35 ar_I (by decide) (by decide) (by decide) (Nat.le_of_ble_eq_true rfl) (Nat.le_of_ble_eq_true rfl) (fun q35 => ?_)
  refine k_putF (k := 4) dX2_init_37 ff_2_22 rfl rfl rfl (Nat.le_of_ble_eq_true rfl) ?_
  refine k_aload_n (k := 0) (x := o) dX2_init_40 rfl ?_
  refine k_bipush (v := nI 24) dX2_init_41 (by decide) ?_
  refine k_newI (N' := 24) dX2_init_43 ar_I (by decide) (by decide) (by decide) (Nat.le_of_ble_eq_true rfl) (Nat.le_of_ble_eq_true rfl) (fun q43 => ?_)
  refine k_putF (k := 6) dX2_init_45 ff_2_25 rfl rfl rfl (Nat.le_of_ble_eq_true rfl) ?_
  refine k_aload_n (k := 0) (x := o) dX2_init_48 rfl ?_
  refine k_aload_n (k := 1) (x := dk) dX2_init_49 rfl ?_
  refine k_putF (k := 0) dX2_init_50 ff_2_28 rfl rfl rfl (Nat.le_of_ble_eq_true rfl) ?_
  exact k_vret dX2_init_53 rfl rfl rfl ⟨fun j => [o, q8, q17, q26, q35, q43].getD (j - 21) 0, rfl, rfl⟩
