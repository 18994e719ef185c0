theorem cl_10_17 : Cond.classLink RX10 17 RX7 ∈ am_T := am_t1 38 rfl rfl
theorem nk_7_7 : k_nk RX7 7 1 3 [.null, .null, .int 0] := ⟨RX1, TX1, tyX1, rfl, ux_1, tyX1_ok, am_t1 45 rfl rfl, am_t1 46 rfl rfl, am_t1 3 rfl rfl, fun j hj => by
  rcases (show j = 0 ∨ j = 1 ∨ j = 2 by omega) with rfl | rfl | rfl
  all_goals rfl⟩
theorem nk_7_16 : k_nk RX7 16 4 7 [.null, .null, .null, .null, .null, .null, .int 0] := ⟨RX4, TX4, tyX4, rfl, ux_4, tyX4_ok, am_t1 70 rfl rfl, am_t1 71 rfl rfl, am_t1 4 rfl rfl, fun j hj => by
  rcases (show j = 0 ∨ j = 1 ∨ j = 2 ∨ j = 3 ∨ j = 4 ∨ j = 5 ∨ j = 6 by omega) with rfl | rfl | rfl | rfl | rfl | rfl | rfl
  all_goals rfl⟩
theorem nk_7_23 : k_nk RX7 23 8 12 [.int 0, .int 0, .int 0, .int 0, .int 0, .int 0, .int 0, .int 0, .int 0, .int 0, .int 0, .int 0] := ⟨RX8, TX8, tyX8, rfl, ux_8, tyX8_ok, am_t1 110 rfl rfl, am_t1 111 rfl rfl, am_t1 6 rfl rfl, fun j hj => by
  rcases (show j = 0 ∨ j = 1 ∨ j = 2 ∨ j = 3 ∨ j = 4 ∨ j = 5 ∨ j = 6 ∨ j = 7 ∨ j = 8 ∨ j = 9 ∨ j = 10 ∨ j = 11 by omega) with rfl | rfl | rfl | rfl | rfl | rfl | rfl | rfl | rfl | rfl | rfl | rfl
  all_goals rfl⟩
theorem nk_7_41 : k_nk RX7 41 3 9 [.int 0, .null, .int 0, .null, .null, .int 0, .int 0, .int 0, .int 0] := ⟨RX3, TX3, tyX3, rfl, ux_3, tyX3_ok, am_t1 173 rfl rfl, am_t1 174 rfl rfl, am_t1 7 rfl rfl, fun j hj => by
  rcases (show j = 0 ∨ j = 1 ∨ j = 2 ∨ j = 3 ∨ j = 4 ∨ j = 5 ∨ j = 6 ∨ j = 7 ∨ j = 8 by omega) with rfl | rfl | rfl | rfl | rfl | rfl | rfl | rfl | rfl
  all_goals rfl⟩
theorem nk_10_17 : k_nk RX10 17 7 7 [.int 0, .null, .null, .null, .null, .int 0, .int 0] := ⟨RX7, TX7, tyX7, rfl, ux_7, tyX7_ok, am_t1 38 rfl rfl, am_t1 40 rfl rfl, am_t1 2 rfl rfl, fun j hj => by
  rcases (show j = 0 ∨ j = 1 ∨ j = 2 ∨ j = 3 ∨ j = 4 ∨ j = 5 ∨ j = 6 by omega) with rfl | rfl | rfl | rfl | rfl | rfl | rfl
  all_goals rfl⟩
theorem nk_10_26 : k_nk RX10 26 6 5 [.null, .null, .null, .null, .null] := ⟨RX6, TX6, tyX6, rfl, ux_6, tyX6_ok, am_t2 12 rfl rfl, am_t2 13 rfl rfl, am_t1 8 rfl rfl, fun j hj => by
  rcases (show j = 0 ∨ j = 1 ∨ j = 2 ∨ j = 3 ∨ j = 4 by omega) with rfl | rfl | rfl | rfl | rfl
  all_goals rfl⟩
theorem nk_10_33 : k_nk RX10 33 5 5 [.null, .null, .null, .int 0, .int 0] := ⟨RX5, TX5, tyX5, rfl, ux_5, tyX5_ok, am_t2 40 rfl rfl, am_t2 41 rfl rfl, am_t1 9 rfl rfl, fun j hj => by
  rcases (show j = 0 ∨ j = 1 ∨ j = 2 ∨ j = 3 ∨ j = 4 by omega) with rfl | rfl | rfl | rfl | rfl
  all_goals rfl⟩
theorem nk_10_40 : k_nk RX10 40 0 2 [.null, .int 0] := ⟨RX0, TX0, tyX0, rfl, ux_0, tyX0_ok, am_t2 67 rfl rfl, am_t2 68 rfl rfl, am_t1 10 rfl rfl, fun j hj => by
  rcases (show j = 0 ∨ j = 1 by omega) with rfl | rfl
  all_goals rfl⟩
theorem nk_10_47 : k_nk RX10 47 9 17 [.null, .null, .null, .null, .null, .int 0, .null, .int 0, .null, .int 0, .int 0, .int 0, .int 0, .int 0, .int 0, .int 0, .int 0] := ⟨RX9, TX9, tyX9, rfl, ux_9, tyX9_ok, am_t2 82 rfl rfl, am_t2 83 rfl rfl, am_t1 11 rfl rfl, fun j hj => by
  rcases (show j = 0 ∨ j = 1 ∨ j = 2 ∨ j = 3 ∨ j = 4 ∨ j = 5 ∨ j = 6 ∨ j = 7 ∨ j = 8 ∨ j = 9 ∨ j = 10 ∨ j = 11 ∨ j = 12 ∨ j = 13 ∨ j = 14 ∨ j = 15 ∨ j = 16 by omega) with rfl | rfl | rfl | rfl | rfl | rfl | rfl | rfl | rfl | rfl | rfl | rfl | rfl | rfl | rfl | rfl | rfl
  all_goals rfl⟩
theorem nk_10_56 : k_nk RX10 56 2 8 [.null, .null, .null, .null, .null, .int 0, .null, .int 0] := ⟨RX2, TX2, tyX2, rfl, ux_2, tyX2_ok, am_t2 145 rfl rfl, am_t2 146 rfl rfl, am_t1 12 rfl rfl, fun j hj => by
  rcases (show j = 0 ∨ j = 1 ∨ j = 2 ∨ j = 3 ∨ j = 4 ∨ j = 5 ∨ j = 6 ∨ j = 7 by omega) with rfl | rfl | rfl | rfl | rfl | rfl | rfl | rfl
  all_goals rfl⟩
theorem ff_7_10 : k_ff RX7 10 7 1 (.object "ClusterShelf$Cache") := ⟨RX7, TX7, 7, tyX7, rfl, ux_7, by decide, am_t1 219 rfl rfl, nmX7, tyX7_ok, rfl, rfl, by decide +kernel⟩
theorem ff_7_19 : k_ff RX7 19 7 3 (.object "ClusterShelf$Locks") := ⟨RX7, TX7, 7, tyX7, rfl, ux_7, by decide, am_t1 225 rfl rfl, nmX7, tyX7_ok, rfl, rfl, by decide +kernel⟩
theorem ff_7_26 : k_ff RX7 26 7 4 (.object "ClusterShelf$Task") := ⟨RX7, TX7, 7, tyX7, rfl, ux_7, by decide, am_t1 228 rfl rfl, nmX7, tyX7_ok, rfl, rfl, by decide +kernel⟩
theorem ff_7_37 : k_ff RX7 37 7 0 .int := ⟨RX7, TX7, 7, tyX7, rfl, ux_7, by decide, am_t1 216 rfl rfl, nmX7, tyX7_ok, rfl, rfl, by decide +kernel⟩
theorem ff_7_52 : k_ff RX7 52 7 2 (.object "ClusterShelf$Journal") := ⟨RX7, TX7, 7, tyX7, rfl, ux_7, by decide, am_t1 222 rfl rfl, nmX7, tyX7_ok, rfl, rfl, by decide +kernel⟩
theorem ff_10_9 : k_ff RX10 9 10 0 (.array .int) := ⟨RX10, TX10, 10, tyX10, rfl, ux_10, by decide, am_t2 176 rfl rfl, nmX10, tyX10_ok, rfl, rfl, by decide +kernel⟩
theorem ff_10_19 : k_ff RX10 19 10 1 (.array (.object "ClusterShelf$Node")) := ⟨RX10, TX10, 10, tyX10, rfl, ux_10, by decide, am_t2 177 rfl rfl, nmX10, tyX10_ok, rfl, rfl, by decide +kernel⟩
theorem ff_10_29 : k_ff RX10 29 10 2 (.object "ClusterShelf$Masters") := ⟨RX10, TX10, 10, tyX10, rfl, ux_10, by decide, am_t2 178 rfl rfl, nmX10, tyX10_ok, rfl, rfl, by decide +kernel⟩
theorem ff_10_36 : k_ff RX10 36 10 3 (.object "ClusterShelf$Mail") := ⟨RX10, TX10, 10, tyX10, rfl, ux_10, by decide, am_t2 179 rfl rfl, nmX10, tyX10_ok, rfl, rfl, by decide +kernel⟩
theorem ff_10_43 : k_ff RX10 43 10 4 (.object "ClusterShelf$Book") := ⟨RX10, TX10, 10, tyX10, rfl, ux_10, by decide, am_t2 180 rfl rfl, nmX10, tyX10_ok, rfl, rfl, by decide +kernel⟩
theorem ff_10_52 : k_ff RX10 52 10 5 (.object "ClusterShelf$Trial") := ⟨RX10, TX10, 10, tyX10, rfl, ux_10, by decide, am_t2 181 rfl rfl, nmX10, tyX10_ok, rfl, rfl, by decide +kernel⟩
theorem ff_10_61 : k_ff RX10 61 10 6 (.object "ClusterShelf$Checker") := ⟨RX10, TX10, 10, tyX10, rfl, ux_10, by decide, am_t2 182 rfl rfl, nmX10, tyX10_ok, rfl, rfl, by decide +kernel⟩
def kw_7 (B : k_B) (i : Nat) (a : Nat → Nat) : va_W := (a 40, .inr (7, [.int (nI i), .ref (a 41), .ref (a 44), .ref (a 48), .ref (a 55), .int (nI 1), .int (nI 1)])) :: (kw_1 B a ++ kw_4 B a ++ kw_8 B a ++ kw_3 B (nI (1 + 24 * i)) a)
theorem ml_X7_18 : Cond.methodLink RX7 18 yX4_init ∈ am_T := am_t1 72 rfl rfl
theorem ml_X7_49 : Cond.methodLink RX7 49 yX3_init ∈ am_T := am_t1 178 rfl rfl
theorem ml_X10_23 : Cond.methodLink RX10 23 yX7_init ∈ am_T := am_t1 41 rfl rfl
theorem ml_X10_28 : Cond.methodLink RX10 28 yX6_init ∈ am_T := am_t2 14 rfl rfl
theorem ml_X10_35 : Cond.methodLink RX10 35 yX5_init ∈ am_T := am_t2 42 rfl rfl
theorem ml_X10_49 : Cond.methodLink RX10 49 yX9_init ∈ am_T := am_t2 84 rfl rfl
theorem ml_X10_58 : Cond.methodLink RX10 58 yX2_init ∈ am_T := am_t2 147 rfl rfl
theorem ki_7 {B : k_B} {d : Nat} {o i : Nat} (hi : i < 1000) : k_C B (d + 2) 15 12015 mX7_init [.inr (o, 0), .inl (nI i)] [(o, .inr (7, [.int 0, .null, .null, .null, .null, .int 0, .int 0]))] (fun _ w => ∃ a : Nat → Nat, a 40 = o ∧ w = kw_7 B i a) := by
  refine k_of (by decide) (Nat.le_of_ble_eq_true rfl) ?_
  refine k_aload_n (k := 0) (x := o) dX7_init_0 rfl ?_
  refine k_obj dX7_init_1 ob_7 oi_1 oi_2 (by omega) rfl ?_
  refine k_aload_n (k := 0) (x := o) dX7_init_4 rfl ?_
  refine k_new (fs := [.null, .null, .int 0]) dX7_init_5 nk_7_7 (Nat.le_of_ble_eq_true rfl) (Nat.le_of_ble_eq_true rfl) (fun q1 => ?_)
  refine k_dup dX7_init_8 rfl ?_
  refine k_ctorN (o := q1) (as := []) (rest := [.ref q1, .ref o]) (w1 := [(o, .inr (7, [.int 0, .null, .null, .null, .null, .int 0, .int 0]))]) (w2 := [(q1, .inr (1, [.null, .null, .int 0]))]) dX7_init_9 lkX1_init nl_X7_9 inX1_init rfl rfl rfl (Nat.le_of_ble_eq_true rfl) rfl rfl (Nat.le_of_ble_eq_true rfl) (Nat.le_of_ble_eq_true rfl) ki_1 ?_
  rintro _ ⟨a1, rfl, rfl⟩
  refine k_putF (k := 1) dX7_init_12 ff_7_10 rfl rfl rfl (Nat.le_of_ble_eq_true rfl) ?_
  refine k_aload_n (k := 0) (x := o) dX7_init_15 rfl ?_
  refine k_new (fs := [.null, .null, .null, .null, .null, .null, .int 0]) dX7_init_16 nk_7_16 (Nat.le_of_ble_eq_true rfl) (Nat.le_of_ble_eq_true rfl) (fun q4 => ?_)
  refine k_dup dX7_init_19 rfl ?_
  refine k_ctor (o := q4) (as := []) (rest := [.ref q4, .ref o]) (w1 := (o, .inr (7, [.int 0, .ref (a1 41), .null, .null, .null, .int 0, .int 0])) :: kw_1 B a1) (w2 := [(q4, .inr (4, [.null, .null, .null, .null, .null, .null, .int 0]))]) dX7_init_20 lkX4_init ml_X7_18 inX4_init rfl rfl rfl (Nat.le_of_ble_eq_true rfl) rfl rfl (Nat.le_of_ble_eq_true rfl) (Nat.le_of_ble_eq_true rfl) ki_4 ?_
  rintro _ ⟨a4, rfl, rfl⟩
  refine k_putF (k := 3) dX7_init_23 ff_7_19 rfl rfl rfl (Nat.le_of_ble_eq_true rfl) ?_
  refine k_aload_n (k := 0) (x := o) dX7_init_26 rfl ?_
  refine k_new (fs := [.int 0, .int 0, .int 0, .int 0, .int 0, .int 0, .int 0, .int 0, .int 0, .int 0, .int 0, .int 0]) dX7_init_27 nk_7_23 (Nat.le_of_ble_eq_true rfl) (Nat.le_of_ble_eq_true rfl) (fun q8 => ?_)
  refine k_dup dX7_init_30 rfl ?_
  refine k_ctorN (o := q8) (as := []) (rest := [.ref q8, .ref o]) (w1 := (o, .inr (7, [.int 0, .ref (a1 41), .null, .ref (a4 48), .null, .int 0, .int 0])) :: (kw_1 B a1 ++ kw_4 B a4)) (w2 := [(q8, .inr (8, [.int 0, .int 0, .int 0, .int 0, .int 0, .int 0, .int 0, .int 0, .int 0, .int 0, .int 0, .int 0]))]) dX7_init_31 lkX8_init nl_X7_25 inX8_init rfl rfl rfl (Nat.le_of_ble_eq_true rfl) rfl rfl (Nat.le_of_ble_eq_true rfl) (Nat.le_of_ble_eq_true rfl) ki_8 ?_
  rintro _ ⟨a8, rfl, rfl⟩
  refine k_putF (k := 4) dX7_init_34 ff_7_26 rfl rfl rfl (Nat.le_of_ble_eq_true rfl) ?_
  refine k_aload_n (k := 0) (x := o) dX7_init_37 rfl ?_
  refine k_iconst (v := nI 1) dX7_init_38 (by decide) ?_
  refine k_put (j := 40) (k := 5) dX7_init_39 fp_7_30 (by decide) (by decide) (Nat.le_of_ble_eq_true rfl) ?_
  refine k_aload_n (k := 0) (x := o) dX7_init_42 rfl ?_
  refine k_iconst (v := nI 1) dX7_init_43 (by decide) ?_
  refine k_put (j := 40) (k := 6) dX7_init_44 fp_7_34 (by decide) (by decide) (Nat.le_of_ble_eq_true rfl) ?_
  refine k_aload_n (k := 0) (x := o) dX7_init_47 rfl ?_
  refine k_iload_n (k := 1) (x := nI i) dX7_init_48 rfl ?_
  refine k_putF (k := 0) dX7_init_49 ff_7_37 rfl rfl rfl (Nat.le_of_ble_eq_true rfl) ?_
  refine k_aload_n (k := 0) (x := o) dX7_init_52 rfl ?_
  refine k_new (fs := [.int 0, .null, .int 0, .null, .null, .int 0, .int 0, .int 0, .int 0]) dX7_init_53 nk_7_41 (Nat.le_of_ble_eq_true rfl) (Nat.le_of_ble_eq_true rfl) (fun q3 => ?_)
  refine k_dup dX7_init_56 rfl ?_
  refine k_iload_n (k := 1) (x := nI i) dX7_init_57 rfl ?_
  refine k_pureN (as := [.inl (nI i)]) (rest := [.ref q3, .ref q3, .ref o]) dX7_init_58 lkX10_headBlock nl_X7_43 isX10_headBlock rfl (Nat.le_of_ble_eq_true rfl) rfl (Nat.le_of_ble_eq_true rfl) (Nat.le_of_ble_eq_true rfl) (c_headBlock List.nodup_nil hi _) ?_
  refine k_ctor (o := q3) (as := [.inl (nI (1 + 24 * i))]) (rest := [.ref q3, .ref o]) (w1 := (o, .inr (7, [.int (nI i), .ref (a1 41), .null, .ref (a4 48), .ref (a8 55), .int (nI 1), .int (nI 1)])) :: (kw_1 B a1 ++ kw_4 B a4 ++ kw_8 B a8)) (w2 := [(q3, .inr (3, [.int 0, .null, .int 0, .null, .null, .int 0, .int 0, .int 0, .int 0]))]) dX7_init_61 lkX3_init ml_X7_49 inX3_init rfl rfl rfl (Nat.le_of_ble_eq_true rfl) rfl rfl (Nat.le_of_ble_eq_true rfl) (Nat.le_of_ble_eq_true rfl) (ki_3 _) ?_
  rintro _ ⟨a3, rfl, rfl⟩
  refine k_putF (k := 2) dX7_init_64 ff_7_52 rfl rfl rfl (Nat.le_of_ble_eq_true rfl) ?_
  exact k_vret dX7_init_67 rfl rfl rfl ⟨fun j => if j = 40 then o else if j < 44 then a1 j else if j < 48 then a3 j else if j < 55 then a4 j else a8 j, rfl, rfl⟩
/-- the number of nodes -/
def am_cl (x : Int32) : Nat := if x < nI 2 then 2 else if nI 4 < x then 4 else x.toInt.toNat
theorem am_cl_lo (x : Int32) (h : ¬ nI 2 ≤ x) : am_cl x = 2 := by
  have h1 : x < nI 2 := Int32.not_le.mp h
  simp [am_cl, h1]
theorem am_cl_hi (x : Int32) (h : nI 2 ≤ x) (h2 : ¬ x ≤ nI 4) : am_cl x = 4 := by
  have h1 : ¬ x < nI 2 := Int32.not_lt.mpr h
  have h3 : nI 4 < x := Int32.not_le.mp h2
  simp [am_cl, h1, h3]
theorem am_cl_in (x : Int32) (h : nI 2 ≤ x) (h2 : x ≤ nI 4) : x = nI (am_cl x) ∧ 2 ≤ am_cl x ∧ am_cl x ≤ 4 := by
  have h1 : ¬ x < nI 2 := Int32.not_lt.mpr h
  have h3 : ¬ nI 4 < x := Int32.not_lt.mpr h2
  have e2 : (nI 2).toInt = 2 := by decide
  have e4 : (nI 4).toInt = 4 := by decide
  have h5 := Int32.le_iff_toInt_le.mp h
  have h6 := Int32.le_iff_toInt_le.mp h2
  rw [e2] at h5
  rw [e4] at h6
  have hc : am_cl x = x.toInt.toNat := by simp [am_cl, h1, h3]
  refine ⟨?_, by omega, by omega⟩
  apply Int32.toInt_inj.mp
  rw [nI_toInt (by omega), hc]
  omega
theorem am_cl_bd (x : Int32) : 2 ≤ am_cl x ∧ am_cl x ≤ 4 := by
  by_cases h : nI 2 ≤ x
  · by_cases h2 : x ≤ nI 4
    · exact (am_cl_in x h h2).2
    · rw [am_cl_hi x h h2]; omega
  · rw [am_cl_lo x h]; omega
def kw_nodes (B : k_B) (i : Nat) (a : Nat → Nat → Nat) : va_W := (List.range i).flatMap (fun k => kw_7 B k (a k))
theorem kw_nodes_cg {B : k_B} {i : Nat} {a b : Nat → Nat → Nat} (h : ∀ k, k < i → a k = b k) : kw_nodes B i a = kw_nodes B i b := by
  have hc : (List.range i).map (fun k => kw_7 B k (a k)) = (List.range i).map (fun k => kw_7 B k (b k)) := List.map_congr_left (fun k hk => by rw [h k (List.mem_range.mp hk)])
  simp only [kw_nodes, List.flatMap_def, hc]
theorem kw_nodes_succ {B : k_B} {i : Nat} {a : Nat → Nat → Nat} : kw_nodes B (i + 1) a = kw_nodes B i a ++ kw_7 B i (a i) := by
  simp [kw_nodes, List.range_succ, List.flatMap_append]
def kw_dk (n : Nat) : Nat → Int32 := upd (upd (upd (upd (upd (fun _ => 0) 0 (nI 7177)) 1 (nI n)) 2048 (nI 1)) 2064 (nI 2)) 2065 (nI 1)
def kw_cl (i : Nat) (a : Nat → Nat → Nat) : Nat → Option Nat := fun k => if k < i then some (a k 40) else none
theorem kw_cl_succ {i : Nat} {a : Nat → Nat → Nat} : va_up (kw_cl i a) i (some (a i 40)) = kw_cl (i + 1) a := by
  funext k
  simp only [va_up, kw_cl]
  by_cases h : k = i
  · subst h; simp
  · by_cases h2 : k < i
    · simp [h, h2, Nat.lt_succ_of_lt h2]
    · simp [h, h2, show ¬ k < i + 1 by omega]
theorem kw_cl_cg {i : Nat} {a b : Nat → Nat → Nat} (h : ∀ k, k < i → a k = b k) : kw_cl i a = kw_cl i b := by
  funext k
  simp only [kw_cl]
  by_cases h2 : k < i
  · simp [h2, h k h2]
  · simp [h2]
/-- the world of a new object of n nodes -/
def kw_10 (B : k_B) (n : Nat) (a : Nat → Nat → Nat) : va_W := (a 0 0, .inr (10, [.ref (a 0 1), .ref (a 0 2), .ref (a 0 3), .ref (a 0 9), .ref (a 0 13), .ref (a 0 15), .ref (a 0 21), .int 0, .int 0, .int 0])) :: (a 0 1, .inl (B.2.1.1, 10240, .inl (kw_dk n))) :: (a 0 2, .inl (B.2.1.2.2, n, .inr (.inr (.inr (.inr (kw_cl n a)))))) :: (kw_nodes B n a ++ kw_6 B (a 0) ++ kw_5 B (a 0) ++ kw_0 B (a 0) ++ kw_9 B (a 0 1) (a 0 40) (a 0) ++ kw_2 B (a 0 1) (a 0))
abbrev kc_10 (n : Nat) : Nat := 2 + 16 * n + 24
abbrev ks_10 (n : Nat) : Nat := 10240 + n + 12022 * n + 10197
theorem ki_10 {B : k_B} {d : Nat} {o n : Nat} (x : Int32) (hn : am_cl x = n) : k_C B (d + 3) (kc_10 n) (ks_10 n) mX10_init [.inr (o, 0), .inl x] [(o, .inr (10, [.null, .null, .null, .null, .null, .null, .null, .int 0, .int 0, .int 0]))] (fun _ w => ∃ a : Nat → Nat → Nat, a 0 0 = o ∧ w = kw_10 B n a) := by
  have hb := am_cl_bd x
  rw [hn] at hb
  have hkc : kc_10 n = 2 + 16 * n + 24 := rfl
  have hks : ks_10 n = 10240 + n + 12022 * n + 10197 := rfl
  -- the end: five objects
  have fin : ∀ (qd qc : Nat) (aN : Nat → Nat → Nat), am_K B (d + 3) mX10_init (kc_10 n) (ks_10 n) (fun _ w => ∃ a : Nat → Nat → Nat, a 0 0 = o ∧ w = kw_10 B n a) 123 [some (.inr (o, 0)), some (.inl x), some (.inl (nI n)), some (.inl (nI 2064)), some (.inl (nI n))] [] ((o, .inr (10, [.ref qd, .ref qc, .null, .null, .null, .null, .null, .int 0, .int 0, .int 0])) :: (qd, .inl (B.2.1.1, 10240, .inl (kw_dk n))) :: (qc, .inl (B.2.1.2.2, n, .inr (.inr (.inr (.inr (kw_cl n aN)))))) :: (kw_nodes B n aN)) (2 + 16 * n) (10240 + n + 12022 * n) := by
    intro qd qc aN
    refine k_aload_n (k := 0) (x := o) dX10_init_123 rfl ?_
    refine k_new (fs := [.null, .null, .null, .null, .null]) dX10_init_124 nk_10_26 (by omega) (by omega) (fun q6 => ?_)
    refine k_dup dX10_init_127 rfl ?_
    refine k_ctor (o := q6) (as := []) (rest := [.ref q6, .ref o]) (w1 := (o, .inr (10, [.ref qd, .ref qc, .null, .null, .null, .null, .null, .int 0, .int 0, .int 0])) :: (qd, .inl (B.2.1.1, 10240, .inl (kw_dk n))) :: (qc, .inl (B.2.1.2.2, n, .inr (.inr (.inr (.inr (kw_cl n aN)))))) :: (kw_nodes B n aN)) (w2 := [(q6, .inr (6, [.null, .null, .null, .null, .null]))]) dX10_init_128 lkX6_init ml_X10_28 inX6_init rfl rfl rfl (Nat.le_of_ble_eq_true rfl) rfl rfl (by omega) (by omega) ki_6 ?_
    rintro _ ⟨a6, rfl, rfl⟩
    refine k_putF (k := 2) dX10_init_131 ff_10_29 rfl rfl rfl (Nat.le_of_ble_eq_true rfl) ?_
    refine k_aload_n (k := 0) (x := o) dX10_init_134 rfl ?_
    refine k_new (fs := [.null, .null, .null, .int 0, .int 0]) dX10_init_135 nk_10_33 (by omega) (by omega) (fun q5 => ?_)
    refine k_dup dX10_init_138 rfl ?_
    refine k_ctor (o := q5) (as := []) (rest := [.ref q5, .ref o]) (w1 := (o, .inr (10, [.ref qd, .ref qc, .ref (a6 3), .null, .null, .null, .null, .int 0, .int 0, .int 0])) :: (qd, .inl (B.2.1.1, 10240, .inl (kw_dk n))) :: (qc, .inl (B.2.1.2.2, n, .inr (.inr (.inr (.inr (kw_cl n aN)))))) :: (kw_nodes B n aN ++ kw_6 B  a6)) (w2 := [(q5, .inr (5, [.null, .null, .null, .int 0, .int 0]))]) dX10_init_139 lkX5_init ml_X10_35 inX5_init rfl rfl rfl (Nat.le_of_ble_eq_true rfl) rfl rfl (by omega) (by omega) ki_5 ?_
    rintro _ ⟨a5, rfl, rfl⟩
    refine k_putF (k := 3) dX10_init_142 ff_10_36 rfl rfl rfl (Nat.le_of_ble_eq_true rfl) ?_
    refine k_aload_n (k := 0) (x := o) dX10_init_145 rfl ?_
    refine k_new (fs := [.null, .int 0]) dX10_init_146 nk_10_40 (by omega) (by omega) (fun q0 => ?_)
    refine k_dup dX10_init_149 rfl ?_
    refine k_ctorN (o := q0) (as := []) (rest := [.ref q0, .ref o]) (w1 := (o, .inr (10, [.ref qd, .ref qc, .ref (a6 3), .ref (a5 9), .null, .null, .null, .int 0, .int 0, .int 0])) :: (qd, .inl (B.2.1.1, 10240, .inl (kw_dk n))) :: (qc, .inl (B.2.1.2.2, n, .inr (.inr (.inr (.inr (kw_cl n aN)))))) :: (kw_nodes B n aN ++ kw_6 B  a6 ++ kw_5 B  a5)) (w2 := [(q0, .inr (0, [.null, .int 0]))]) dX10_init_150 lkX0_init nl_X10_42 inX0_init rfl rfl rfl (Nat.le_of_ble_eq_true rfl) rfl rfl (by omega) (by omega) ki_0 ?_
    rintro _ ⟨a0, rfl, rfl⟩
    refine k_putF (k := 4) dX10_init_153 ff_10_43 rfl rfl rfl (Nat.le_of_ble_eq_true rfl) ?_
    refine k_aload_n (k := 0) (x := o) dX10_init_156 rfl ?_
    refine k_new (fs := [.null, .null, .null, .null, .null, .int 0, .null, .int 0, .null, .int 0, .int 0, .int 0, .int 0, .int 0, .int 0, .int 0, .int 0]) dX10_init_157 nk_10_47 (by omega) (by omega) (fun q9 => ?_)
    refine k_dup dX10_init_160 rfl ?_
    refine k_aload_n (k := 0) (x := o) dX10_init_161 rfl ?_
    refine k_get (j := 0) (k := 0) (v := .ref qd) dX10_init_162 fl_10_9 rfl ?_
    refine k_aload_n (k := 0) (x := o) dX10_init_165 rfl ?_
    refine k_get (j := 0) (k := 1) (v := .ref qc) dX10_init_166 fl_10_19 rfl ?_
    refine k_iconst (v := nI 0) dX10_init_169 (by decide) ?_
    refine k_aaldQ (q0 := 2) (n := n) (b := 0) (v := aN 0 40) (f := kw_cl n aN) dX10_init_170 rfl rfl (by omega) (by omega) (by simp [kw_cl]; omega) ?_
    refine k_ctor (o := q9) (as := [.inr (qd, 0), .inr (aN 0 40, 0)]) (rest := [.ref q9, .ref o]) (w1 := (o, .inr (10, [.ref qd, .ref qc, .ref (a6 3), .ref (a5 9), .ref (a0 13), .null, .null, .int 0, .int 0, .int 0])) :: (qd, .inl (B.2.1.1, 10240, .inl (kw_dk n))) :: (qc, .inl (B.2.1.2.2, n, .inr (.inr (.inr (.inr (kw_cl n aN)))))) :: (kw_nodes B n aN ++ kw_6 B  a6 ++ kw_5 B  a5 ++ kw_0 B  a0)) (w2 := [(q9, .inr (9, [.null, .null, .null, .null, .null, .int 0, .null, .int 0, .null, .int 0, .int 0, .int 0, .int 0, .int 0, .int 0, .int 0, .int 0]))]) dX10_init_171 lkX9_init ml_X10_49 inX9_init rfl rfl rfl (Nat.le_of_ble_eq_true rfl) rfl rfl (by omega) (by omega) (ki_9 _ _) ?_
    rintro _ ⟨a9, rfl, rfl⟩
    refine k_putF (k := 5) dX10_init_174 ff_10_52 rfl rfl rfl (Nat.le_of_ble_eq_true rfl) ?_
    refine k_aload_n (k := 0) (x := o) dX10_init_177 rfl ?_
    refine k_new (fs := [.null, .null, .null, .null, .null, .int 0, .null, .int 0]) dX10_init_178 nk_10_56 (by omega) (by omega) (fun q2 => ?_)
    refine k_dup dX10_init_181 rfl ?_
    refine k_aload_n (k := 0) (x := o) dX10_init_182 rfl ?_
    refine k_get (j := 0) (k := 0) (v := .ref qd) dX10_init_183 fl_10_9 rfl ?_
    refine k_ctor (o := q2) (as := [.inr (qd, 0)]) (rest := [.ref q2, .ref o]) (w1 := (o, .inr (10, [.ref qd, .ref qc, .ref (a6 3), .ref (a5 9), .ref (a0 13), .ref (a9 15), .null, .int 0, .int 0, .int 0])) :: (qd, .inl (B.2.1.1, 10240, .inl (kw_dk n))) :: (qc, .inl (B.2.1.2.2, n, .inr (.inr (.inr (.inr (kw_cl n aN)))))) :: (kw_nodes B n aN ++ kw_6 B  a6 ++ kw_5 B  a5 ++ kw_0 B  a0 ++ kw_9 B qd (aN 0 40) a9)) (w2 := [(q2, .inr (2, [.null, .null, .null, .null, .null, .int 0, .null, .int 0]))]) dX10_init_186 lkX2_init ml_X10_58 inX2_init rfl rfl rfl (Nat.le_of_ble_eq_true rfl) rfl rfl (by omega) (by omega) (ki_2 _) ?_
    rintro _ ⟨a2, rfl, rfl⟩
    refine k_putF (k := 6) dX10_init_189 ff_10_61 rfl rfl rfl (Nat.le_of_ble_eq_true rfl) ?_
    refine k_n (nc' := kc_10 n) (ns' := ks_10 n) (by simp only [hkc, Nat.add_assoc, Nat.reduceAdd]) (by simp only [hks, Nat.add_assoc, Nat.reduceAdd]) ?_
    refine k_vret dX10_init_192 rfl rfl rfl ?_
    refine ⟨fun i j => if 40 ≤ j then aN i j else if j = 0 then o else if j = 1 then qd else if j = 2 then qc else if j < 9 then a6 j else if j < 13 then a5 j else if j < 15 then a0 j else if j < 21 then a9 j else a2 j, ?_, ?_⟩
    · simp
    · rfl
  -- the loop
  have loop : ∀ (m i qd qc : Nat) (aN : Nat → Nat → Nat), i + m = n → am_K B (d + 3) mX10_init (kc_10 n) (ks_10 n) (fun _ w => ∃ a : Nat → Nat → Nat, a 0 0 = o ∧ w = kw_10 B n a) 95 [some (.inr (o, 0)), some (.inl x), some (.inl (nI n)), some (.inl (nI 2064)), some (.inl (nI i))] [] ((o, .inr (10, [.ref qd, .ref qc, .null, .null, .null, .null, .null, .int 0, .int 0, .int 0])) :: (qd, .inl (B.2.1.1, 10240, .inl (kw_dk n))) :: (qc, .inl (B.2.1.2.2, n, .inr (.inr (.inr (.inr (kw_cl i aN)))))) :: (kw_nodes B i aN)) (2 + 16 * i) (10240 + n + 12022 * i) := by
    intro m
    induction m with
    | zero =>
      intro i qd qc aN hi
      have hi : i = n := by omega
      subst hi
      refine k_iload (x := nI i) dX10_init_95 rfl ?_
      refine k_iload_n (k := 2) (x := nI i) dX10_init_97 rfl ?_
      exact k_icmp_ge (tgt := 123) dX10_init_98 (by decide) (fun _ => fin qd qc aN) (fun h => absurd (nI_le (Nat.le_refl _) (by omega)) h)
    | succ m ih =>
      intro i qd qc aN hi
      refine k_iload (x := nI i) dX10_init_95 rfl ?_
      refine k_iload_n (k := 2) (x := nI n) dX10_init_97 rfl ?_
      refine k_icmp_ge (tgt := 123) dX10_init_98 (by decide) (fun h => absurd h (nI_ge (by omega) (by omega))) (fun _ => ?_)
      refine k_aload_n (k := 0) (x := o) dX10_init_101 rfl ?_
      refine k_get (j := 0) (k := 1) (v := .ref qc) dX10_init_102 fl_10_19 rfl ?_
      refine k_iload (x := nI i) dX10_init_105 rfl ?_
      refine k_new (fs := [.int 0, .null, .null, .null, .null, .int 0, .int 0]) dX10_init_107 nk_10_17 (by omega) (by omega) (fun q7 => ?_)
      refine k_dup dX10_init_110 rfl ?_
      refine k_iload (x := nI i) dX10_init_111 rfl ?_
      refine k_ctor (o := q7) (as := [.inl (nI i)]) (rest := [.ref q7, .int (nI i), .ref qc]) (w1 := (o, .inr (10, [.ref qd, .ref qc, .null, .null, .null, .null, .null, .int 0, .int 0, .int 0])) :: (qd, .inl (B.2.1.1, 10240, .inl (kw_dk n))) :: (qc, .inl (B.2.1.2.2, n, .inr (.inr (.inr (.inr (kw_cl i aN)))))) :: kw_nodes B i aN) (w2 := [(q7, .inr (7, [.int 0, .null, .null, .null, .null, .int 0, .int 0]))]) dX10_init_113 lkX7_init ml_X10_23 inX7_init rfl rfl rfl (Nat.le_of_ble_eq_true rfl) rfl rfl (by omega) (by omega) (ki_7 (by omega)) ?_
      rintro _ ⟨a7, rfl, rfl⟩
      refine k_astQ (q0 := 2) (a := qc) (n := n) (b := i) (v := a7 40) (f := kw_cl i aN) (vs := [.int (nI i), .ref (a7 41), .ref (a7 44), .ref (a7 48), .ref (a7 55), .int (nI 1), .int (nI 1)]) dX10_init_116 rfl (by simp [kw_7]) rfl (by omega) (by omega) ?_
      refine k_iinc (v := nI (i + 1)) dX10_init_117 rfl (nI_add _ _) ?_
      refine k_goto (tgt := 95) dX10_init_120 (by decide) ?_
      have h9 := ih (i + 1) qd qc (fun k => if k = i then a7 else aN k) (by omega)
      rw [kw_nodes_succ, ← kw_cl_succ, if_pos rfl, kw_nodes_cg (b := aN) (fun k hk => if_neg (by omega)), kw_cl_cg (b := aN) (fun k hk => if_neg (by omega))] at h9
      refine k_n (by omega) (by omega) (k_ws ?_ h9)
      rfl
  have main : am_K B (d + 3) mX10_init (kc_10 n) (ks_10 n) (fun _ w => ∃ a : Nat → Nat → Nat, a 0 0 = o ∧ w = kw_10 B n a) 23 [some (.inr (o, 0)), some (.inl x), none, none, none] [.int (nI n)] [(o, .inr (10, [.null, .null, .null, .null, .null, .null, .null, .int 0, .int 0, .int 0]))] 0 0 := by
    refine k_istore_n (k := 2) dX10_init_23 (by decide) ?_
    refine k_aload_n (k := 0) (x := o) dX10_init_24 rfl ?_
    refine k_sipush (v := nI 10240) dX10_init_25 (by decide) ?_
    refine k_newI (N' := 10240) dX10_init_28 ar_I (by decide) (by decide) (by decide) (by omega) (by omega) (fun qd => ?_)
    refine k_putF (k := 0) dX10_init_30 ff_10_9 rfl rfl rfl (Nat.le_of_ble_eq_true rfl) ?_
    refine k_aload_n (k := 0) (x := o) dX10_init_33 rfl ?_
    refine k_get (j := 0) (k := 0) (v := .ref qd) dX10_init_34 fl_10_9 rfl ?_
    refine k_iconst (v := nI 0) dX10_init_37 (by decide) ?_
    refine k_sipush (v := nI 7177) dX10_init_38 (by decide) ?_
    refine k_iast (q0 := 1) (n := 10240) (b := 0) (f := fun _ => 0) dX10_init_41 rfl rfl (by decide) (by decide) ?_
    refine k_aload_n (k := 0) (x := o) dX10_init_42 rfl ?_
    refine k_get (j := 0) (k := 0) (v := .ref qd) dX10_init_43 fl_10_9 rfl ?_
    refine k_iconst (v := nI 1) dX10_init_46 (by decide) ?_
    refine k_iload_n (k := 2) (x := nI n) dX10_init_47 rfl ?_
    refine k_iast (q0 := 1) (n := 10240) (b := 1) (f := upd (fun _ => 0) 0 (nI 7177)) dX10_init_48 rfl rfl (by decide) (by decide) ?_
    refine k_aload_n (k := 0) (x := o) dX10_init_49 rfl ?_
    refine k_get (j := 0) (k := 0) (v := .ref qd) dX10_init_50 fl_10_9 rfl ?_
    refine k_sipush (v := nI 2048) dX10_init_53 (by decide) ?_
    refine k_iconst (v := nI 1) dX10_init_56 (by decide) ?_
    refine k_iast (q0 := 1) (n := 10240) (b := 2048) (f := upd (upd (fun _ => 0) 0 (nI 7177)) 1 (nI n)) dX10_init_57 rfl rfl (by decide) (by decide) ?_
    refine k_iconst (v := nI 0) dX10_init_58 (by decide) ?_
    refine k_pure (as := [.inl (nI 0)]) (rest := []) dX10_init_59 lkX10_inodeBlock ml_X10_13 isX10_inodeBlock rfl (Nat.le_of_ble_eq_true rfl) rfl (by omega) (by omega) (c_inodeBlock List.nodup_nil (k := 0) (by decide) _) ?_
    refine k_bipush (v := nI 16) dX10_init_62 (by decide) ?_
    refine k_imul dX10_init_64 ?_
    rw [show nI (129 + 64 * (0 / 16) + 0 % 16) * nI 16 = nI 2064 by decide]
    refine k_istore_n (k := 3) dX10_init_65 (by decide) ?_
    refine k_aload_n (k := 0) (x := o) dX10_init_66 rfl ?_
    refine k_get (j := 0) (k := 0) (v := .ref qd) dX10_init_67 fl_10_9 rfl ?_
    refine k_iload_n (k := 3) (x := nI 2064) dX10_init_70 rfl ?_
    refine k_iconst (v := nI 0) dX10_init_71 (by decide) ?_
    refine k_iadd dX10_init_72 ?_
    rw [show nI 2064 + nI 0 = nI 2064 by decide]
    refine k_iconst (v := nI 2) dX10_init_73 (by decide) ?_
    refine k_iast (q0 := 1) (n := 10240) (b := 2064) (f := upd (upd (upd (fun _ => 0) 0 (nI 7177)) 1 (nI n)) 2048 (nI 1)) dX10_init_74 rfl rfl (by decide) (by decide) ?_
    refine k_aload_n (k := 0) (x := o) dX10_init_75 rfl ?_
    refine k_get (j := 0) (k := 0) (v := .ref qd) dX10_init_76 fl_10_9 rfl ?_
    refine k_iload_n (k := 3) (x := nI 2064) dX10_init_79 rfl ?_
    refine k_iconst (v := nI 1) dX10_init_80 (by decide) ?_
    refine k_iadd dX10_init_81 ?_
    rw [show nI 2064 + nI 1 = nI 2065 by decide]
    refine k_iconst (v := nI 1) dX10_init_82 (by decide) ?_
    refine k_iast (q0 := 1) (n := 10240) (b := 2065) (f := upd (upd (upd (upd (fun _ => 0) 0 (nI 7177)) 1 (nI n)) 2048 (nI 1)) 2064 (nI 2)) dX10_init_83 rfl rfl (by decide) (by decide) ?_
    refine k_aload_n (k := 0) (x := o) dX10_init_84 rfl ?_
    refine k_iload_n (k := 2) (x := nI n) dX10_init_85 rfl ?_
    refine k_newQ (N' := n) dX10_init_86 cl_10_17 (nI_pos (by omega)) (nI_clamp (by omega)) (by omega) (by omega) (by omega) (fun qc => ?_)
    refine k_putF (k := 1) dX10_init_89 ff_10_19 rfl rfl rfl (Nat.le_of_ble_eq_true rfl) ?_
    refine k_iconst (v := nI 0) dX10_init_92 (by decide) ?_
    refine k_istore (k := 4) dX10_init_93 (by decide) ?_
    have h9 := loop n 0 qd qc (fun _ _ => 0) (by omega)
    have hz : kw_cl 0 (fun _ _ => 0) = fun _ => none := by funext k; simp [kw_cl]
    rw [hz] at h9
    refine k_n (by omega) (by omega) (k_ws ?_ h9)
    rfl
  refine k_of (by decide) (Nat.le_of_ble_eq_true rfl) ?_
  refine k_aload_n (k := 0) (x := o) dX10_init_0 rfl ?_
  refine k_obj dX10_init_1 ob_10 oi_1 oi_2 (by omega) rfl ?_
  refine k_iload_n (k := 1) (x := x) dX10_init_4 rfl ?_
  refine k_iconst (v := nI 2) dX10_init_5 (by decide) ?_
  refine k_icmp_ge (tgt := 13) dX10_init_6 (by decide) (fun h1 => ?_) (fun h1 => ?_)
  · refine k_iload_n (k := 1) (x := x) dX10_init_13 rfl ?_
    refine k_iconst (v := nI 4) dX10_init_14 (by decide) ?_
    refine k_icmp_le (tgt := 22) dX10_init_15 (by decide) (fun h2 => ?_) (fun h2 => ?_)
    · refine k_iload_n (k := 1) (x := x) dX10_init_22 rfl ?_
      exact k_st (by rw [← hn, ← (am_cl_in x h1 h2).1]) main
    · refine k_iconst (v := nI 4) dX10_init_18 (by decide) ?_
      refine k_goto (tgt := 23) dX10_init_19 (by decide) ?_
      exact k_st (by rw [← hn, am_cl_hi x h1 h2]) main
  · refine k_iconst (v := nI 2) dX10_init_9 (by decide) ?_
    refine k_goto (tgt := 23) dX10_init_10 (by decide) ?_
    exact k_st (by rw [← hn, am_cl_lo x h1]) main
