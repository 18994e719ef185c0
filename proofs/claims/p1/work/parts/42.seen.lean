theorem j_delay {G : am_G} (hG : am_ok G) {d : Nat} {TH : Nat → List (Option am_V) → List am_V → am_I → Prop} {Q : Option Int32 → am_I → Prop} {I : am_I} {i : Nat} (hi : i < G.2.2.2.1) {u : Nat} (hu : u < G.2.2.2.1) (t : Int32) (ht : 1 ≤ t.toInt ∧ t.toInt ≤ 20) (hI : I = am_fr G.2.2.2.1) (hQ : ∀ J, Q none J) : am_J G (d + 3) mX10_delay TH Q 0 [some (.inr (0, 0)), some (.inl (nI i)), some (.inl (nI u)), some (.inl t)] [] I := by
  have hn4 := hG.hi
  have hn2 := hG.lo
  refine am_aload_n dX10_delay_0 rfl ?_
  refine am_iload_n dX10_delay_1 rfl ?_
  refine am_callVx (i := 0) (j := 0) (as := [.inl (nI i)]) (rest := []) dX10_delay_2 lkX10_isNode ml_X10_65 imX10_isNode seX10_isNode rfl rfl (hG.m0 (by decide)) rfl (Nat.le_of_ble_eq_true rfl) rfl (c_isNodeY hG hi I) ?_
  refine am_if_eq (tgt := 27) dX10_delay_5 (by decide) (fun h => absurd h (by decide)) (fun _ => ?_)
  refine am_aload_n dX10_delay_8 rfl ?_
  refine am_iload_n dX10_delay_9 rfl ?_
  refine am_callVx (i := 0) (j := 0) (as := [.inl (nI u)]) (rest := []) dX10_delay_10 lkX10_isNode ml_X10_65 imX10_isNode seX10_isNode rfl rfl (hG.m0 (by decide)) rfl (Nat.le_of_ble_eq_true rfl) rfl (c_isNodeY hG hu I) ?_
  refine am_if_eq (tgt := 27) dX10_delay_13 (by decide) (fun h => absurd h (by decide)) (fun _ => ?_)
  refine am_iload_n dX10_delay_16 rfl ?_
  refine am_iconst (v := nI 1) dX10_delay_17 (by decide) ?_
  refine am_icmp_lt (tgt := 27) dX10_delay_18 (by decide) (fun c_18 => ?_) (fun c_18 => ?_)
  · skip
    have c_18 := Int32.lt_iff_toInt_lt.mp c_18
    rw [nI_toInt (n := 1) (by omega)] at c_18
    exact absurd ht (by omega)
  · skip
    have c_18 := mt Int32.lt_iff_toInt_lt.mpr c_18
    rw [nI_toInt (n := 1) (by omega)] at c_18
    refine am_iload_n dX10_delay_21 rfl ?_
    refine am_bipush (v := nI 20) dX10_delay_22 (by decide) ?_
    refine am_icmp_le (tgt := 37) dX10_delay_24 (by decide) (fun c_24 => ?_) (fun c_24 => ?_)
    · skip
      have c_24 := Int32.le_iff_toInt_le.mp c_24
      rw [nI_toInt (n := 20) (by omega)] at c_24
      refine am_aload_n dX10_delay_37 rfl ?_
      refine am_get (v := .inr (0, 9)) dX10_delay_38 fl_10_36 (hG.m0 (by decide)) rfl ?_
      refine am_get (v := .inr (0, 10)) dX10_delay_41 fl_10_116 (hG.m0 (by decide)) rfl ?_
      refine am_iload_n dX10_delay_44 rfl ?_
      refine am_iconst (v := nI 4) dX10_delay_45 (by decide) ?_
      refine am_imul dX10_delay_46 ?_
      refine am_top (pk_mul _ _) ?_
      refine am_iload_n dX10_delay_47 rfl ?_
      refine am_iadd dX10_delay_48 ?_
      refine am_top (nI_add _ _) ?_
      refine am_iload_n dX10_delay_49 rfl ?_
      refine am_iast (a := i * 4 + u) dX10_delay_50 (hG.m0 (by decide)) rfl rfl (show i * 4 + u < 16 from (by omega)) (show 16 < 2 ^ 31 by decide) ?_
      refine am_vret dX10_delay_51 rfl ?_
      exact hQ _
    · skip
      have c_24 := mt Int32.le_iff_toInt_le.mpr c_24
      rw [nI_toInt (n := 20) (by omega)] at c_24
      exact absurd ht (by omega)
theorem j_delayA {G : am_G} (hG : am_ok G) {d : Nat} {TH : Nat → List (Option am_V) → List am_V → am_I → Prop} {Q : Option Int32 → am_I → Prop} {I : am_I} (x : Int32) (hx : ¬ (0 ≤ x.toInt ∧ x.toInt < (G.2.2.2.1 : Int))) (y t : Int32) (hI : I = am_fr G.2.2.2.1) (hT : ∀ lo, TH 27 lo [] I) : am_J G (d + 3) mX10_delay TH Q 0 [some (.inr (0, 0)), some (.inl x), some (.inl y), some (.inl t)] [] I := by
  have hn4 := hG.hi
  have hn2 := hG.lo
  refine am_aload_n dX10_delay_0 rfl ?_
  refine am_iload_n dX10_delay_1 rfl ?_
  refine am_callVx (i := 0) (j := 0) (as := [.inl x]) (rest := []) dX10_delay_2 lkX10_isNode ml_X10_65 imX10_isNode seX10_isNode rfl rfl (hG.m0 (by decide)) rfl (Nat.le_of_ble_eq_true rfl) rfl (c_isNode hG x I) ?_
  refine am_if_eq (tgt := 27) dX10_delay_5 (by decide) (fun _ => ?_) (fun h => absurd h (fun z => z ((am_bz _).mpr (decide_eq_false hx))))
  exact am_exit (hT _)
theorem j_delayB {G : am_G} (hG : am_ok G) {d : Nat} {TH : Nat → List (Option am_V) → List am_V → am_I → Prop} {Q : Option Int32 → am_I → Prop} {I : am_I} {i : Nat} (hi : i < G.2.2.2.1) (x : Int32) (hx : ¬ (0 ≤ x.toInt ∧ x.toInt < (G.2.2.2.1 : Int))) (t : Int32) (hI : I = am_fr G.2.2.2.1) (hT : ∀ lo, TH 27 lo [] I) : am_J G (d + 3) mX10_delay TH Q 0 [some (.inr (0, 0)), some (.inl (nI i)), some (.inl x), some (.inl t)] [] I := by
  have hn4 := hG.hi
  have hn2 := hG.lo
  refine am_aload_n dX10_delay_0 rfl ?_
  refine am_iload_n dX10_delay_1 rfl ?_
  refine am_callVx (i := 0) (j := 0) (as := [.inl (nI i)]) (rest := []) dX10_delay_2 lkX10_isNode ml_X10_65 imX10_isNode seX10_isNode rfl rfl (hG.m0 (by decide)) rfl (Nat.le_of_ble_eq_true rfl) rfl (c_isNodeY hG hi I) ?_
  refine am_if_eq (tgt := 27) dX10_delay_5 (by decide) (fun h => absurd h (by decide)) (fun _ => ?_)
  refine am_aload_n dX10_delay_8 rfl ?_
  refine am_iload_n dX10_delay_9 rfl ?_
  refine am_callVx (i := 0) (j := 0) (as := [.inl x]) (rest := []) dX10_delay_10 lkX10_isNode ml_X10_65 imX10_isNode seX10_isNode rfl rfl (hG.m0 (by decide)) rfl (Nat.le_of_ble_eq_true rfl) rfl (c_isNode hG x I) ?_
  refine am_if_eq (tgt := 27) dX10_delay_13 (by decide) (fun _ => ?_) (fun h => absurd h (fun z => z ((am_bz _).mpr (decide_eq_false hx))))
  exact am_exit (hT _)
theorem j_delayC {G : am_G} (hG : am_ok G) {d : Nat} {TH : Nat → List (Option am_V) → List am_V → am_I → Prop} {Q : Option Int32 → am_I → Prop} {I : am_I} {i : Nat} (hi : i < G.2.2.2.1) {u : Nat} (hu : u < G.2.2.2.1) (t : Int32) (hw : ¬ (1 ≤ t.toInt ∧ t.toInt ≤ 20)) (hI : I = am_fr G.2.2.2.1) (hT : ∀ lo, TH 27 lo [] I) : am_J G (d + 3) mX10_delay TH Q 0 [some (.inr (0, 0)), some (.inl (nI i)), some (.inl (nI u)), some (.inl t)] [] I := by
  have hn4 := hG.hi
  have hn2 := hG.lo
  refine am_aload_n dX10_delay_0 rfl ?_
  refine am_iload_n dX10_delay_1 rfl ?_
  refine am_callVx (i := 0) (j := 0) (as := [.inl (nI i)]) (rest := []) dX10_delay_2 lkX10_isNode ml_X10_65 imX10_isNode seX10_isNode rfl rfl (hG.m0 (by decide)) rfl (Nat.le_of_ble_eq_true rfl) rfl (c_isNodeY hG hi I) ?_
  refine am_if_eq (tgt := 27) dX10_delay_5 (by decide) (fun h => absurd h (by decide)) (fun _ => ?_)
  refine am_aload_n dX10_delay_8 rfl ?_
  refine am_iload_n dX10_delay_9 rfl ?_
  refine am_callVx (i := 0) (j := 0) (as := [.inl (nI u)]) (rest := []) dX10_delay_10 lkX10_isNode ml_X10_65 imX10_isNode seX10_isNode rfl rfl (hG.m0 (by decide)) rfl (Nat.le_of_ble_eq_true rfl) rfl (c_isNodeY hG hu I) ?_
  refine am_if_eq (tgt := 27) dX10_delay_13 (by decide) (fun h => absurd h (by decide)) (fun _ => ?_)
  refine am_iload_n dX10_delay_16 rfl ?_
  refine am_iconst (v := nI 1) dX10_delay_17 (by decide) ?_
  refine am_icmp_lt (tgt := 27) dX10_delay_18 (by decide) (fun c_18 => ?_) (fun c_18 => ?_)
  · skip
    have c_18 := Int32.lt_iff_toInt_lt.mp c_18
    rw [nI_toInt (n := 1) (by omega)] at c_18
    exact am_exit (hT _)
  · skip
    have c_18 := mt Int32.lt_iff_toInt_lt.mpr c_18
    rw [nI_toInt (n := 1) (by omega)] at c_18
    refine am_iload_n dX10_delay_21 rfl ?_
    refine am_bipush (v := nI 20) dX10_delay_22 (by decide) ?_
    refine am_icmp_le (tgt := 37) dX10_delay_24 (by decide) (fun c_24 => ?_) (fun c_24 => ?_)
    · skip
      have c_24 := Int32.le_iff_toInt_le.mp c_24
      rw [nI_toInt (n := 20) (by omega)] at c_24
      exact absurd hw (by omega)
    · skip
      have c_24 := mt Int32.le_iff_toInt_le.mpr c_24
      rw [nI_toInt (n := 20) (by omega)] at c_24
      exact am_exit (hT _)
theorem j_recoverA {G : am_G} (hG : am_ok G) {d : Nat} {TH : Nat → List (Option am_V) → List am_V → am_I → Prop} {Q : Option Int32 → am_I → Prop} {I : am_I} (x : Int32) (hx : ¬ (0 ≤ x.toInt ∧ x.toInt < (G.2.2.2.1 : Int)))  (hI : I = am_fr G.2.2.2.1) (hT : ∀ lo, TH 8 lo [] I) : am_J G (d + 3) mX10_recover TH Q 0 [some (.inr (0, 0)), some (.inl x), none, none, none] [] I := by
  have hn4 := hG.hi
  have hn2 := hG.lo
  refine am_aload_n dX10_recover_0 rfl ?_
  refine am_iload_n dX10_recover_1 rfl ?_
  refine am_callVx (i := 0) (j := 0) (as := [.inl x]) (rest := []) dX10_recover_2 lkX10_isNode ml_X10_65 imX10_isNode seX10_isNode rfl rfl (hG.m0 (by decide)) rfl (Nat.le_of_ble_eq_true rfl) rfl (c_isNode hG x I) ?_
  refine am_if_ne (tgt := 18) dX10_recover_5 (by decide) (fun h => absurd h (fun z => z ((am_bz _).mpr (decide_eq_false hx)))) (fun _ => ?_)
  exact am_exit (hT _)
theorem j_recoverB {G : am_G} (hG : am_ok G) {d : Nat} {TH : Nat → List (Option am_V) → List am_V → am_I → Prop} {Q : Option Int32 → am_I → Prop} {I : am_I} {i : Nat} (hi : i < G.2.2.2.1)  (hI : I = am_fr G.2.2.2.1) (hT : ∀ lo, TH 42 lo [] I) : am_J G (d + 3) mX10_recover TH Q 0 [some (.inr (0, 0)), some (.inl (nI i)), none, none, none] [] I := by
  have hn4 := hG.hi
  have hn2 := hG.lo
  refine am_aload_n dX10_recover_0 rfl ?_
  refine am_iload_n dX10_recover_1 rfl ?_
  refine am_callVx (i := 0) (j := 0) (as := [.inl (nI i)]) (rest := []) dX10_recover_2 lkX10_isNode ml_X10_65 imX10_isNode seX10_isNode rfl rfl (hG.m0 (by decide)) rfl (Nat.le_of_ble_eq_true rfl) rfl (c_isNodeY hG hi I) ?_
  refine am_if_ne (tgt := 18) dX10_recover_5 (by decide) (fun _ => ?_) (fun h => absurd h (by decide))
  refine am_aload_n dX10_recover_18 rfl ?_
  refine am_get (v := .inr (0, 2)) dX10_recover_19 fl_10_19 (hG.m0 (by decide)) rfl ?_
  refine am_iload_n dX10_recover_22 rfl ?_
  refine am_aald (a := i) dX10_recover_23 (hG.m0 (by decide)) rfl rfl (by omega) hG.n31 ?_
  refine am_get (v := .inl (I i 40 5)) dX10_recover_24 fl_10_80 (hG.mn hi (by decide) (by decide)) rfl ?_
  refine am_top (show I i 40 5 = nI 1 from (by simp [am_up, am_upf, upd, hI, am_fr, am_dk])) ?_
  refine am_if_ne (tgt := 42) dX10_recover_27 (by decide) (fun _ => ?_) (fun h => absurd h (by decide))
  exact am_exit (hT _)
theorem j_startA {G : am_G} (hG : am_ok G) {d : Nat} {TH : Nat → List (Option am_V) → List am_V → am_I → Prop} {Q : Option Int32 → am_I → Prop} {I : am_I} (x : Int32) (hx : ¬ (0 ≤ x.toInt ∧ x.toInt < (G.2.2.2.1 : Int)))  (hI : I = am_fr G.2.2.2.1) (hT : ∀ lo, TH 8 lo [] I) : am_J G (d + 3) mX10_start TH Q 0 [some (.inr (0, 0)), some (.inl x), none, none] [] I := by
  have hn4 := hG.hi
  have hn2 := hG.lo
  refine am_aload_n dX10_start_0 rfl ?_
  refine am_iload_n dX10_start_1 rfl ?_
  refine am_callVx (i := 0) (j := 0) (as := [.inl x]) (rest := []) dX10_start_2 lkX10_isNode ml_X10_65 imX10_isNode seX10_isNode rfl rfl (hG.m0 (by decide)) rfl (Nat.le_of_ble_eq_true rfl) rfl (c_isNode hG x I) ?_
  refine am_if_ne (tgt := 18) dX10_start_5 (by decide) (fun h => absurd h (fun z => z ((am_bz _).mpr (decide_eq_false hx)))) (fun _ => ?_)
  exact am_exit (hT _)
theorem j_startB {G : am_G} (hG : am_ok G) {d : Nat} {TH : Nat → List (Option am_V) → List am_V → am_I → Prop} {Q : Option Int32 → am_I → Prop} {I : am_I} {i : Nat} (hi : i < G.2.2.2.1)  (hI : I = am_fr G.2.2.2.1) (hT : ∀ lo, TH 46 lo [] I) : am_J G (d + 3) mX10_start TH Q 0 [some (.inr (0, 0)), some (.inl (nI i)), none, none] [] I := by
  have hn4 := hG.hi
  have hn2 := hG.lo
  refine am_aload_n dX10_start_0 rfl ?_
  refine am_iload_n dX10_start_1 rfl ?_
  refine am_callVx (i := 0) (j := 0) (as := [.inl (nI i)]) (rest := []) dX10_start_2 lkX10_isNode ml_X10_65 imX10_isNode seX10_isNode rfl rfl (hG.m0 (by decide)) rfl (Nat.le_of_ble_eq_true rfl) rfl (c_isNodeY hG hi I) ?_
  refine am_if_ne (tgt := 18) dX10_start_5 (by decide) (fun _ => ?_) (fun h => absurd h (by decide))
  refine am_aload_n dX10_start_18 rfl ?_
  refine am_get (v := .inr (0, 2)) dX10_start_19 fl_10_19 (hG.m0 (by decide)) rfl ?_
  refine am_iload_n dX10_start_22 rfl ?_
  refine am_aald (a := i) dX10_start_23 (hG.m0 (by decide)) rfl rfl (by omega) hG.n31 ?_
  refine am_astore_n dX10_start_24 (by decide) ?_
  refine am_aload_n dX10_start_25 rfl ?_
  refine am_get (v := .inl (I i 40 5)) dX10_start_26 fl_10_80 (hG.mn hi (by decide) (by decide)) rfl ?_
  refine am_top (show I i 40 5 = nI 1 from (by simp [am_up, am_upf, upd, hI, am_fr, am_dk])) ?_
  refine am_if_ne (tgt := 46) dX10_start_29 (by decide) (fun _ => ?_) (fun h => absurd h (by decide))
  exact am_exit (hT _)
theorem j_resultA {G : am_G} (hG : am_ok G) {d : Nat} {TH : Nat → List (Option am_V) → List am_V → am_I → Prop} {Q : Option Int32 → am_I → Prop} {I : am_I} (x : Int32) (hx : ¬ (0 ≤ x.toInt ∧ x.toInt < (G.2.2.2.1 : Int))) (w : Int32) (hI : I = am_fr G.2.2.2.1) (hT : ∀ lo, TH 17 lo [] I) : am_J G (d + 3) mX10_result TH Q 0 [some (.inr (0, 0)), some (.inl x), some (.inl w), none] [] I := by
  have hn4 := hG.hi
  have hn2 := hG.lo
  refine am_aload_n dX10_result_0 rfl ?_
  refine am_iload_n dX10_result_1 rfl ?_
  refine am_callVx (i := 0) (j := 0) (as := [.inl x]) (rest := []) dX10_result_2 lkX10_isNode ml_X10_65 imX10_isNode seX10_isNode rfl rfl (hG.m0 (by decide)) rfl (Nat.le_of_ble_eq_true rfl) rfl (c_isNode hG x I) ?_
  refine am_if_eq (tgt := 17) dX10_result_5 (by decide) (fun _ => ?_) (fun h => absurd h (fun z => z ((am_bz _).mpr (decide_eq_false hx))))
  exact am_exit (hT _)
theorem j_resultB {G : am_G} (hG : am_ok G) {d : Nat} {TH : Nat → List (Option am_V) → List am_V → am_I → Prop} {Q : Option Int32 → am_I → Prop} {I : am_I} {i : Nat} (hi : i < G.2.2.2.1) (w : Int32) (hw : w.toInt < 0 ∨ 4 < w.toInt) (hI : I = am_fr G.2.2.2.1) (hT : ∀ lo, TH 17 lo [] I) : am_J G (d + 3) mX10_result TH Q 0 [some (.inr (0, 0)), some (.inl (nI i)), some (.inl w), none] [] I := by
  have hn4 := hG.hi
  have hn2 := hG.lo
  refine am_aload_n dX10_result_0 rfl ?_
  refine am_iload_n dX10_result_1 rfl ?_
  refine am_callVx (i := 0) (j := 0) (as := [.inl (nI i)]) (rest := []) dX10_result_2 lkX10_isNode ml_X10_65 imX10_isNode seX10_isNode rfl rfl (hG.m0 (by decide)) rfl (Nat.le_of_ble_eq_true rfl) rfl (c_isNodeY hG hi I) ?_
  refine am_if_eq (tgt := 17) dX10_result_5 (by decide) (fun h => absurd h (by decide)) (fun _ => ?_)
  refine am_iload_n dX10_result_8 rfl ?_
  refine am_if_lt (tgt := 17) dX10_result_9 (by decide) (fun c_9 => ?_) (fun c_9 => ?_)
  · skip
    have c_9 := Int32.lt_iff_toInt_lt.mp c_9
    rw [am_i0] at c_9
    exact am_exit (hT _)
  · skip
    have c_9 := mt Int32.lt_iff_toInt_lt.mpr c_9
    rw [am_i0] at c_9
    refine am_iload_n dX10_result_12 rfl ?_
    refine am_iconst (v := nI 4) dX10_result_13 (by decide) ?_
    refine am_icmp_le (tgt := 27) dX10_result_14 (by decide) (fun c_14 => ?_) (fun c_14 => ?_)
    · skip
      have c_14 := Int32.le_iff_toInt_le.mp c_14
      rw [nI_toInt (n := 4) (by omega)] at c_14
      exact absurd hw (by omega)
    · skip
      have c_14 := mt Int32.le_iff_toInt_le.mpr c_14
      rw [nI_toInt (n := 4) (by omega)] at c_14
      exact am_exit (hT _)
theorem j_result0 {G : am_G} (hG : am_ok G) {d : Nat} {TH : Nat → List (Option am_V) → List am_V → am_I → Prop} {Q : Option Int32 → am_I → Prop} {I : am_I} {i : Nat} (hi : i < G.2.2.2.1)  (hI : I = am_fr G.2.2.2.1) (hQ : ∀ J, Q (some (nI 0)) J) : am_J G (d + 3) mX10_result TH Q 0 [some (.inr (0, 0)), some (.inl (nI i)), some (.inl (nI 0)), none] [] I := by
  have hn4 := hG.hi
  have hn2 := hG.lo
  refine am_aload_n dX10_result_0 rfl ?_
  refine am_iload_n dX10_result_1 rfl ?_
  refine am_callVx (i := 0) (j := 0) (as := [.inl (nI i)]) (rest := []) dX10_result_2 lkX10_isNode ml_X10_65 imX10_isNode seX10_isNode rfl rfl (hG.m0 (by decide)) rfl (Nat.le_of_ble_eq_true rfl) rfl (c_isNodeY hG hi I) ?_
  refine am_if_eq (tgt := 17) dX10_result_5 (by decide) (fun h => absurd h (by decide)) (fun _ => ?_)
  refine am_iload_n dX10_result_8 rfl ?_
  refine am_if_lt (tgt := 17) dX10_result_9 (by decide) (fun h => absurd h (by decide)) (fun _ => ?_)
  refine am_iload_n dX10_result_12 rfl ?_
  refine am_iconst (v := nI 4) dX10_result_13 (by decide) ?_
  refine am_icmp_le (tgt := 27) dX10_result_14 (by decide) (fun _ => ?_) (fun h => absurd h (by decide))
  refine am_aload_n dX10_result_27 rfl ?_
  refine am_get (v := .inr (0, 2)) dX10_result_28 fl_10_19 (hG.m0 (by decide)) rfl ?_
  refine am_iload_n dX10_result_31 rfl ?_
  refine am_aald (a := i) dX10_result_32 (hG.m0 (by decide)) rfl rfl (by omega) hG.n31 ?_
  refine am_get (v := .inr (i, 55)) dX10_result_33 fl_10_84 (hG.mn hi (by decide) (by decide)) rfl ?_
  refine am_astore_n dX10_result_36 (by decide) ?_
  refine am_iload_n dX10_result_37 rfl ?_
  refine am_tabIn (off := 30) (tgt := 68) dX10_result_38 (by decide) (by decide) rfl (by decide) ?_
  refine am_aload_n dX10_result_68 rfl ?_
  refine am_get (v := .inl (I i 55 5)) dX10_result_69 fl_10_88 (hG.mn hi (by decide) (by decide)) rfl ?_
  refine am_top (show I i 55 5 = nI 0 from (by simp [am_up, am_upf, upd, hI, am_fr, am_dk])) ?_
  refine am_iret dX10_result_72 rfl rfl ?_
  exact hQ _
theorem j_result1 {G : am_G} (hG : am_ok G) {d : Nat} {TH : Nat → List (Option am_V) → List am_V → am_I → Prop} {Q : Option Int32 → am_I → Prop} {I : am_I} {i : Nat} (hi : i < G.2.2.2.1)  (hI : I = am_fr G.2.2.2.1) (hQ : ∀ J, Q (some (nI 0)) J) : am_J G (d + 3) mX10_result TH Q 0 [some (.inr (0, 0)), some (.inl (nI i)), some (.inl (nI 1)), none] [] I := by
  have hn4 := hG.hi
  have hn2 := hG.lo
  refine am_aload_n dX10_result_0 rfl ?_
  refine am_iload_n dX10_result_1 rfl ?_
  refine am_callVx (i := 0) (j := 0) (as := [.inl (nI i)]) (rest := []) dX10_result_2 lkX10_isNode ml_X10_65 imX10_isNode seX10_isNode rfl rfl (hG.m0 (by decide)) rfl (Nat.le_of_ble_eq_true rfl) rfl (c_isNodeY hG hi I) ?_
  refine am_if_eq (tgt := 17) dX10_result_5 (by decide) (fun h => absurd h (by decide)) (fun _ => ?_)
  refine am_iload_n dX10_result_8 rfl ?_
  refine am_if_lt (tgt := 17) dX10_result_9 (by decide) (fun h => absurd h (by decide)) (fun _ => ?_)
  refine am_iload_n dX10_result_12 rfl ?_
  refine am_iconst (v := nI 4) dX10_result_13 (by decide) ?_
  refine am_icmp_le (tgt := 27) dX10_result_14 (by decide) (fun _ => ?_) (fun h => absurd h (by decide))
  refine am_aload_n dX10_result_27 rfl ?_
  refine am_get (v := .inr (0, 2)) dX10_result_28 fl_10_19 (hG.m0 (by decide)) rfl ?_
  refine am_iload_n dX10_result_31 rfl ?_
  refine am_aald (a := i) dX10_result_32 (hG.m0 (by decide)) rfl rfl (by omega) hG.n31 ?_
  refine am_get (v := .inr (i, 55)) dX10_result_33 fl_10_84 (hG.mn hi (by decide) (by decide)) rfl ?_
  refine am_astore_n dX10_result_36 (by decide) ?_
  refine am_iload_n dX10_result_37 rfl ?_
  refine am_tabIn (off := 35) (tgt := 73) dX10_result_38 (by decide) (by decide) rfl (by decide) ?_
  refine am_aload_n dX10_result_73 rfl ?_
  refine am_get (v := .inl (I i 55 6)) dX10_result_74 fl_10_186 (hG.mn hi (by decide) (by decide)) rfl ?_
  refine am_top (show I i 55 6 = nI 0 from (by simp [am_up, am_upf, upd, hI, am_fr, am_dk])) ?_
  refine am_iret dX10_result_77 rfl rfl ?_
  exact hQ _
theorem j_result2 {G : am_G} (hG : am_ok G) {d : Nat} {TH : Nat → List (Option am_V) → List am_V → am_I → Prop} {Q : Option Int32 → am_I → Prop} {I : am_I} {i : Nat} (hi : i < G.2.2.2.1)  (hI : I = am_fr G.2.2.2.1) (hQ : ∀ J, Q (some (nI 0)) J) : am_J G (d + 3) mX10_result TH Q 0 [some (.inr (0, 0)), some (.inl (nI i)), some (.inl (nI 2)), none] [] I := by
  have hn4 := hG.hi
  have hn2 := hG.lo
  refine am_aload_n dX10_result_0 rfl ?_
  refine am_iload_n dX10_result_1 rfl ?_
  refine am_callVx (i := 0) (j := 0) (as := [.inl (nI i)]) (rest := []) dX10_result_2 lkX10_isNode ml_X10_65 imX10_isNode seX10_isNode rfl rfl (hG.m0 (by decide)) rfl (Nat.le_of_ble_eq_true rfl) rfl (c_isNodeY hG hi I) ?_
  refine am_if_eq (tgt := 17) dX10_result_5 (by decide) (fun h => absurd h (by decide)) (fun _ => ?_)
  refine am_iload_n dX10_result_8 rfl ?_
  refine am_if_lt (tgt := 17) dX10_result_9 (by decide) (fun h => absurd h (by decide)) (fun _ => ?_)
  refine am_iload_n dX10_result_12 rfl ?_
  refine am_iconst (v := nI 4) dX10_result_13 (by decide) ?_
  refine am_icmp_le (tgt := 27) dX10_result_14 (by decide) (fun _ => ?_) (fun h => absurd h (by decide))
  refine am_aload_n dX10_result_27 rfl ?_
  refine am_get (v := .inr (0, 2)) dX10_result_28 fl_10_19 (hG.m0 (by decide)) rfl ?_
  refine am_iload_n dX10_result_31 rfl ?_
  refine am_aald (a := i) dX10_result_32 (hG.m0 (by decide)) rfl rfl (by omega) hG.n31 ?_
  refine am_get (v := .inr (i, 55)) dX10_result_33 fl_10_84 (hG.mn hi (by decide) (by decide)) rfl ?_
  refine am_astore_n dX10_result_36 (by decide) ?_
  refine am_iload_n dX10_result_37 rfl ?_
  refine am_tabIn (off := 40) (tgt := 78) dX10_result_38 (by decide) (by decide) rfl (by decide) ?_
  refine am_aload_n dX10_result_78 rfl ?_
  refine am_get (v := .inl (I i 55 5)) dX10_result_79 fl_10_88 (hG.mn hi (by decide) (by decide)) rfl ?_
  refine am_top (show I i 55 5 = nI 0 from (by simp [am_up, am_upf, upd, hI, am_fr, am_dk])) ?_
  refine am_iconst (v := nI 1) dX10_result_82 (by decide) ?_
  refine am_icmp_ne (tgt := 98) dX10_result_83 (by decide) (fun _ => ?_) (fun h => absurd h (by decide))
  refine am_aload_n dX10_result_98 rfl ?_
  refine am_get (v := .inl (I i 55 8)) dX10_result_99 fl_10_192 (hG.mn hi (by decide) (by decide)) rfl ?_
  refine am_top (show I i 55 8 = nI 0 from (by simp [am_up, am_upf, upd, hI, am_fr, am_dk])) ?_
  refine am_iret dX10_result_102 rfl rfl ?_
  exact hQ _
theorem j_result3 {G : am_G} (hG : am_ok G) {d : Nat} {TH : Nat → List (Option am_V) → List am_V → am_I → Prop} {Q : Option Int32 → am_I → Prop} {I : am_I} {i : Nat} (hi : i < G.2.2.2.1)  (hI : I = am_fr G.2.2.2.1) (hQ : ∀ J, Q (some (nI 0)) J) : am_J G (d + 3) mX10_result TH Q 0 [some (.inr (0, 0)), some (.inl (nI i)), some (.inl (nI 3)), none] [] I := by
  have hn4 := hG.hi
  have hn2 := hG.lo
  refine am_aload_n dX10_result_0 rfl ?_
  refine am_iload_n dX10_result_1 rfl ?_
  refine am_callVx (i := 0) (j := 0) (as := [.inl (nI i)]) (rest := []) dX10_result_2 lkX10_isNode ml_X10_65 imX10_isNode seX10_isNode rfl rfl (hG.m0 (by decide)) rfl (Nat.le_of_ble_eq_true rfl) rfl (c_isNodeY hG hi I) ?_
  refine am_if_eq (tgt := 17) dX10_result_5 (by decide) (fun h => absurd h (by decide)) (fun _ => ?_)
  refine am_iload_n dX10_result_8 rfl ?_
  refine am_if_lt (tgt := 17) dX10_result_9 (by decide) (fun h => absurd h (by decide)) (fun _ => ?_)
  refine am_iload_n dX10_result_12 rfl ?_
  refine am_iconst (v := nI 4) dX10_result_13 (by decide) ?_
  refine am_icmp_le (tgt := 27) dX10_result_14 (by decide) (fun _ => ?_) (fun h => absurd h (by decide))
  refine am_aload_n dX10_result_27 rfl ?_
  refine am_get (v := .inr (0, 2)) dX10_result_28 fl_10_19 (hG.m0 (by decide)) rfl ?_
  refine am_iload_n dX10_result_31 rfl ?_
  refine am_aald (a := i) dX10_result_32 (hG.m0 (by decide)) rfl rfl (by omega) hG.n31 ?_
  refine am_get (v := .inr (i, 55)) dX10_result_33 fl_10_84 (hG.mn hi (by decide) (by decide)) rfl ?_
  refine am_astore_n dX10_result_36 (by decide) ?_
  refine am_iload_n dX10_result_37 rfl ?_
  refine am_tabIn (off := 65) (tgt := 103) dX10_result_38 (by decide) (by decide) rfl (by decide) ?_
  refine am_aload_n dX10_result_103 rfl ?_
  refine am_get (v := .inl (I i 55 9)) dX10_result_104 fl_10_195 (hG.mn hi (by decide) (by decide)) rfl ?_
  refine am_top (show I i 55 9 = nI 0 from (by simp [am_up, am_upf, upd, hI, am_fr, am_dk])) ?_
  refine am_iret dX10_result_107 rfl rfl ?_
  exact hQ _
theorem j_result4 {G : am_G} (hG : am_ok G) {d : Nat} {TH : Nat → List (Option am_V) → List am_V → am_I → Prop} {Q : Option Int32 → am_I → Prop} {I : am_I} {i : Nat} (hi : i < G.2.2.2.1)  (hI : I = am_fr G.2.2.2.1) (hQ : ∀ J, Q (some (nI 0)) J) : am_J G (d + 3) mX10_result TH Q 0 [some (.inr (0, 0)), some (.inl (nI i)), some (.inl (nI 4)), none] [] I := by
  have hn4 := hG.hi
  have hn2 := hG.lo
  refine am_aload_n dX10_result_0 rfl ?_
  refine am_iload_n dX10_result_1 rfl ?_
  refine am_callVx (i := 0) (j := 0) (as := [.inl (nI i)]) (rest := []) dX10_result_2 lkX10_isNode ml_X10_65 imX10_isNode seX10_isNode rfl rfl (hG.m0 (by decide)) rfl (Nat.le_of_ble_eq_true rfl) rfl (c_isNodeY hG hi I) ?_
  refine am_if_eq (tgt := 17) dX10_result_5 (by decide) (fun h => absurd h (by decide)) (fun _ => ?_)
  refine am_iload_n dX10_result_8 rfl ?_
  refine am_if_lt (tgt := 17) dX10_result_9 (by decide) (fun h => absurd h (by decide)) (fun _ => ?_)
  refine am_iload_n dX10_result_12 rfl ?_
  refine am_iconst (v := nI 4) dX10_result_13 (by decide) ?_
  refine am_icmp_le (tgt := 27) dX10_result_14 (by decide) (fun _ => ?_) (fun h => absurd h (by decide))
  refine am_aload_n dX10_result_27 rfl ?_
  refine am_get (v := .inr (0, 2)) dX10_result_28 fl_10_19 (hG.m0 (by decide)) rfl ?_
  refine am_iload_n dX10_result_31 rfl ?_
  refine am_aald (a := i) dX10_result_32 (hG.m0 (by decide)) rfl rfl (by omega) hG.n31 ?_
  refine am_get (v := .inr (i, 55)) dX10_result_33 fl_10_84 (hG.mn hi (by decide) (by decide)) rfl ?_
  refine am_astore_n dX10_result_36 (by decide) ?_
  refine am_iload_n dX10_result_37 rfl ?_
  refine am_tabOut (tgt := 108) dX10_result_38 (by decide) (by decide) ?_
  refine am_aload_n dX10_result_108 rfl ?_
  refine am_get (v := .inl (I i 55 10)) dX10_result_109 fl_10_198 (hG.mn hi (by decide) (by decide)) rfl ?_
  refine am_top (show I i 55 10 = nI 0 from (by simp [am_up, am_upf, upd, hI, am_fr, am_dk])) ?_
  refine am_iret dX10_result_112 rfl rfl ?_
  exact hQ _
theorem c_kept0 {G : am_G} (hG : am_ok G) {d : Nat} (I : am_I)  (hen : I 0 13 1 = nI 0) : am_C G (d + 1) mX0_kept [.inr (0, 13)] I (am_E (some (nI 0)) I) := by
  refine am_of (by decide +kernel) hG.nd (Nat.le_of_ble_eq_true rfl) ?_
  refine am_aload_n dX0_kept_0 rfl ?_
  refine am_get (v := .inl (I 0 13 1)) dX0_kept_1 fl_0_15 (hG.m0 (by decide)) rfl ?_
  refine am_top (show I 0 13 1 = nI 0 from (by simp [am_up, am_upf, upd, hen])) ?_
  refine am_sipush (v := nI 400) dX0_kept_4 (by decide) ?_
  refine am_callSx (as := [.inl (nI 0), .inl (nI 400)]) (rest := []) dX0_kept_7 lkJ9_min_7cf53 ml_X0_19 isJ9_min_7cf53 rfl (Nat.le_of_ble_eq_true rfl) rfl (c_min hG.nd (nI 0) (nI 400) I) ?_
  refine am_iret dX0_kept_10 rfl rfl ?_
  exact ⟨congrArg some (if_pos (by decide)), rfl⟩
theorem j_history {G : am_G} (hG : am_ok G) {d : Nat} {TH : Nat → List (Option am_V) → List am_V → am_I → Prop} {Q : Option Int32 → am_I → Prop} {I : am_I} (x w : Int32) (hI : I = am_fr G.2.2.2.1) (hT : ∀ lo, TH 15 lo [] I) : am_J G (d + 3) mX10_history TH Q 0 [some (.inr (0, 0)), some (.inl x), some (.inl w)] [] I := by
  have hn4 := hG.hi
  have hn2 := hG.lo
  refine am_iload_n dX10_history_0 rfl ?_
  refine am_if_lt (tgt := 15) dX10_history_1 (by decide) (fun c_1 => ?_) (fun c_1 => ?_)
  · skip
    have c_1 := Int32.lt_iff_toInt_lt.mp c_1
    rw [am_i0] at c_1
    exact am_exit (hT _)
  · skip
    have c_1 := mt Int32.lt_iff_toInt_lt.mpr c_1
    rw [am_i0] at c_1
    refine am_iload_n dX10_history_4 rfl ?_
    refine am_aload_n dX10_history_5 rfl ?_
    refine am_get (v := .inr (0, 13)) dX10_history_6 fl_10_43 (hG.m0 (by decide)) rfl ?_
    refine am_callVx (i := 0) (j := 13) (as := []) (rest := [.inl x]) dX10_history_9 lkX0_kept ml_X10_201 imX0_kept seX0_kept rfl rfl (hG.m0 (by decide)) rfl (Nat.le_of_ble_eq_true rfl) rfl (c_kept0 hG I (by simp [am_up, am_upf, upd, hI, am_fr, am_dk])) ?_
    refine am_icmp_lt (tgt := 25) dX10_history_12 (by decide) (fun c_12 => ?_) (fun c_12 => ?_)
    · skip
      have c_12 := Int32.lt_iff_toInt_lt.mp c_12
      rw [nI_toInt (n := 0) (by omega)] at c_12
      exact absurd c_12 (by omega)
    · skip
      have c_12 := mt Int32.lt_iff_toInt_lt.mpr c_12
      rw [nI_toInt (n := 0) (by omega)] at c_12
      exact am_exit (hT _)
theorem j_message {G : am_G} (hG : am_ok G) {d : Nat} {TH : Nat → List (Option am_V) → List am_V → am_I → Prop} {Q : Option Int32 → am_I → Prop} {I : am_I} (x w : Int32) (hI : I = am_fr G.2.2.2.1) (hT : ∀ lo, TH 15 lo [] I) : am_J G (d + 3) mX10_message TH Q 0 [some (.inr (0, 0)), some (.inl x), some (.inl w)] [] I := by
  have hn4 := hG.hi
  have hn2 := hG.lo
  refine am_iload_n dX10_message_0 rfl ?_
  refine am_if_lt (tgt := 15) dX10_message_1 (by decide) (fun c_1 => ?_) (fun c_1 => ?_)
  · skip
    have c_1 := Int32.lt_iff_toInt_lt.mp c_1
    rw [am_i0] at c_1
    exact am_exit (hT _)
  · skip
    have c_1 := mt Int32.lt_iff_toInt_lt.mpr c_1
    rw [am_i0] at c_1
    refine am_iload_n dX10_message_4 rfl ?_
    refine am_aload_n dX10_message_5 rfl ?_
    refine am_get (v := .inr (0, 9)) dX10_message_6 fl_10_36 (hG.m0 (by decide)) rfl ?_
    refine am_get (v := .inl (I 0 9 3)) dX10_message_9 fl_10_276 (hG.m0 (by decide)) rfl ?_
    refine am_top (show I 0 9 3 = nI 0 from (by simp [am_up, am_upf, upd, hI, am_fr, am_dk])) ?_
    refine am_icmp_lt (tgt := 26) dX10_message_12 (by decide) (fun c_12 => ?_) (fun c_12 => ?_)
    · skip
      have c_12 := Int32.lt_iff_toInt_lt.mp c_12
      rw [nI_toInt (n := 0) (by omega)] at c_12
      exact absurd c_12 (by omega)
    · skip
      have c_12 := mt Int32.lt_iff_toInt_lt.mpr c_12
      rw [nI_toInt (n := 0) (by omega)] at c_12
      exact am_exit (hT _)
theorem j_word {G : am_G} (hG : am_ok G) {d : Nat} {TH : Nat → List (Option am_V) → List am_V → am_I → Prop} {Q : Option Int32 → am_I → Prop} {I : am_I} {b k : Nat} (hb : b < 640) (hk : k < 16)  (hI : I = am_fr G.2.2.2.1) (hQ : ∀ J, Q (some (I 0 1 (b * 16 + k))) J) : am_J G (d + 3) mX10_word TH Q 0 [some (.inr (0, 0)), some (.inl (nI b)), some (.inl (nI k))] [] I := by
  have hn4 := hG.hi
  have hn2 := hG.lo
  refine am_iload_n dX10_word_0 rfl ?_
  refine am_iload_n dX10_word_1 rfl ?_
  refine am_callSx (as := [.inl (nI b), .inl (nI k)]) (rest := []) dX10_word_2 lkX10_isWord ml_X10_215 isX10_isWord rfl (Nat.le_of_ble_eq_true rfl) rfl (c_isWord hG.nd (nI b) (nI k) I) ?_
  refine am_if_ne (tgt := 18) dX10_word_5 (by decide) (fun _ => ?_) (fun h => absurd h ((am_bn _).mpr (decide_eq_true (by rw [nI_toInt (by omega), nI_toInt (by omega)]; omega))))
  refine am_aload_n dX10_word_18 rfl ?_
  refine am_get (v := .inr (0, 1)) dX10_word_19 fl_10_9 (hG.m0 (by decide)) rfl ?_
  refine am_iload_n dX10_word_22 rfl ?_
  refine am_bipush (v := nI 16) dX10_word_23 (by decide) ?_
  refine am_imul dX10_word_25 ?_
  refine am_top (pk_mul _ _) ?_
  refine am_iload_n dX10_word_26 rfl ?_
  refine am_iadd dX10_word_27 ?_
  refine am_top (nI_add _ _) ?_
  refine am_iald (a := b * 16 + k) dX10_word_28 (hG.m0 (by decide)) rfl rfl (show b * 16 + k < 10240 from (by omega)) (show 10240 < 2 ^ 31 by decide) ?_
  refine am_iret dX10_word_29 rfl rfl ?_
  exact hQ _
theorem j_wordA {G : am_G} (hG : am_ok G) {d : Nat} {TH : Nat → List (Option am_V) → List am_V → am_I → Prop} {Q : Option Int32 → am_I → Prop} {I : am_I} (y w : Int32) (hx : ¬ (0 ≤ y.toInt ∧ y.toInt < 640 ∧ 0 ≤ w.toInt ∧ w.toInt < 16))  (hI : I = am_fr G.2.2.2.1) (hT : ∀ lo, TH 8 lo [] I) : am_J G (d + 3) mX10_word TH Q 0 [some (.inr (0, 0)), some (.inl y), some (.inl w)] [] I := by
  have hn4 := hG.hi
  have hn2 := hG.lo
  refine am_iload_n dX10_word_0 rfl ?_
  refine am_iload_n dX10_word_1 rfl ?_
  refine am_callSx (as := [.inl y, .inl w]) (rest := []) dX10_word_2 lkX10_isWord ml_X10_215 isX10_isWord rfl (Nat.le_of_ble_eq_true rfl) rfl (c_isWord hG.nd y w I) ?_
  refine am_if_ne (tgt := 18) dX10_word_5 (by decide) (fun h => absurd h (fun z => z ((am_bz _).mpr (decide_eq_false hx)))) (fun _ => ?_)
  exact am_exit (hT _)
theorem j_cachedA {G : am_G} (hG : am_ok G) {d : Nat} {TH : Nat → List (Option am_V) → List am_V → am_I → Prop} {Q : Option Int32 → am_I → Prop} {I : am_I} (x : Int32) (hx : ¬ (0 ≤ x.toInt ∧ x.toInt < (G.2.2.2.1 : Int))) (y w : Int32) (hI : I = am_fr G.2.2.2.1) (hT : ∀ lo, TH 8 lo [] I) : am_J G (d + 3) mX10_cached TH Q 0 [some (.inr (0, 0)), some (.inl x), some (.inl y), some (.inl w), none] [] I := by
  have hn4 := hG.hi
  have hn2 := hG.lo
  refine am_aload_n dX10_cached_0 rfl ?_
  refine am_iload_n dX10_cached_1 rfl ?_
  refine am_callVx (i := 0) (j := 0) (as := [.inl x]) (rest := []) dX10_cached_2 lkX10_isNode ml_X10_65 imX10_isNode seX10_isNode rfl rfl (hG.m0 (by decide)) rfl (Nat.le_of_ble_eq_true rfl) rfl (c_isNode hG x I) ?_
  refine am_if_ne (tgt := 18) dX10_cached_5 (by decide) (fun h => absurd h (fun z => z ((am_bz _).mpr (decide_eq_false hx)))) (fun _ => ?_)
  exact am_exit (hT _)
theorem j_cachedB {G : am_G} (hG : am_ok G) {d : Nat} {TH : Nat → List (Option am_V) → List am_V → am_I → Prop} {Q : Option Int32 → am_I → Prop} {I : am_I} {i : Nat} (hi : i < G.2.2.2.1) (y w : Int32) (hx : ¬ (0 ≤ y.toInt ∧ y.toInt < 640 ∧ 0 ≤ w.toInt ∧ w.toInt < 16))  (hI : I = am_fr G.2.2.2.1) (hT : ∀ lo, TH 26 lo [] I) : am_J G (d + 3) mX10_cached TH Q 0 [some (.inr (0, 0)), some (.inl (nI i)), some (.inl y), some (.inl w), none] [] I := by
  have hn4 := hG.hi
  have hn2 := hG.lo
  refine am_aload_n dX10_cached_0 rfl ?_
  refine am_iload_n dX10_cached_1 rfl ?_
  refine am_callVx (i := 0) (j := 0) (as := [.inl (nI i)]) (rest := []) dX10_cached_2 lkX10_isNode ml_X10_65 imX10_isNode seX10_isNode rfl rfl (hG.m0 (by decide)) rfl (Nat.le_of_ble_eq_true rfl) rfl (c_isNodeY hG hi I) ?_
  refine am_if_ne (tgt := 18) dX10_cached_5 (by decide) (fun _ => ?_) (fun h => absurd h (by decide))
  refine am_iload_n dX10_cached_18 rfl ?_
  refine am_iload_n dX10_cached_19 rfl ?_
  refine am_callSx (as := [.inl y, .inl w]) (rest := []) dX10_cached_20 lkX10_isWord ml_X10_215 isX10_isWord rfl (Nat.le_of_ble_eq_true rfl) rfl (c_isWord hG.nd y w I) ?_
  refine am_if_ne (tgt := 36) dX10_cached_23 (by decide) (fun h => absurd h (fun z => z ((am_bz _).mpr (decide_eq_false hx)))) (fun _ => ?_)
  exact am_exit (hT _)
theorem j_cachedC {G : am_G} (hG : am_ok G) {d : Nat} {TH : Nat → List (Option am_V) → List am_V → am_I → Prop} {Q : Option Int32 → am_I → Prop} {I : am_I} {i : Nat} (hi : i < G.2.2.2.1) {b k : Nat} (hb : b < 640) (hk : k < 16)  (hI : I = am_fr G.2.2.2.1) (hT : ∀ lo, TH 57 lo [] I) : am_J G (d + 3) mX10_cached TH Q 0 [some (.inr (0, 0)), some (.inl (nI i)), some (.inl (nI b)), some (.inl (nI k)), none] [] I := by
  have hn4 := hG.hi
  have hn2 := hG.lo
  refine am_aload_n dX10_cached_0 rfl ?_
  refine am_iload_n dX10_cached_1 rfl ?_
  refine am_callVx (i := 0) (j := 0) (as := [.inl (nI i)]) (rest := []) dX10_cached_2 lkX10_isNode ml_X10_65 imX10_isNode seX10_isNode rfl rfl (hG.m0 (by decide)) rfl (Nat.le_of_ble_eq_true rfl) rfl (c_isNodeY hG hi I) ?_
  refine am_if_ne (tgt := 18) dX10_cached_5 (by decide) (fun _ => ?_) (fun h => absurd h (by decide))
  refine am_iload_n dX10_cached_18 rfl ?_
  refine am_iload_n dX10_cached_19 rfl ?_
  refine am_callSx (as := [.inl (nI b), .inl (nI k)]) (rest := []) dX10_cached_20 lkX10_isWord ml_X10_215 isX10_isWord rfl (Nat.le_of_ble_eq_true rfl) rfl (c_isWord hG.nd (nI b) (nI k) I) ?_
  refine am_if_ne (tgt := 36) dX10_cached_23 (by decide) (fun _ => ?_) (fun h => absurd h ((am_bn _).mpr (decide_eq_true (by rw [nI_toInt (by omega), nI_toInt (by omega)]; omega))))
  refine am_aload_n dX10_cached_36 rfl ?_
  refine am_get (v := .inr (0, 2)) dX10_cached_37 fl_10_19 (hG.m0 (by decide)) rfl ?_
  refine am_iload_n dX10_cached_40 rfl ?_
  refine am_aald (a := i) dX10_cached_41 (hG.m0 (by decide)) rfl rfl (by omega) hG.n31 ?_
  refine am_get (v := .inr (i, 41)) dX10_cached_42 fl_10_221 (hG.mn hi (by decide) (by decide)) rfl ?_
  refine am_astore dX10_cached_45 (by decide) ?_
  refine am_aload dX10_cached_47 rfl ?_
  refine am_get (v := .inr (i, 43)) dX10_cached_49 fl_10_225 (hG.mn hi (by decide) (by decide)) rfl ?_
  refine am_iload_n dX10_cached_52 rfl ?_
  refine am_zald (a := b) dX10_cached_53 (hG.mn hi (by decide) (by decide)) rfl rfl (show b < 640 from (by omega)) (show 640 < 2 ^ 31 by decide) ?_
  refine am_top (show I i 43 b = nI 0 from (by simp [am_up, am_upf, upd, hI, am_fr, am_dk])) ?_
  refine am_if_ne (tgt := 67) dX10_cached_54 (by decide) (fun h => absurd h (by decide)) (fun _ => ?_)
  exact am_exit (hT _)
theorem j_lockA {G : am_G} (hG : am_ok G) {d : Nat} {TH : Nat → List (Option am_V) → List am_V → am_I → Prop} {Q : Option Int32 → am_I → Prop} {I : am_I} (x : Int32) (hx : ¬ (0 ≤ x.toInt ∧ x.toInt < (G.2.2.2.1 : Int))) (y w : Int32) (hI : I = am_fr G.2.2.2.1) (hT : ∀ lo, TH 24 lo [] I) : am_J G (d + 3) mX10_lock TH Q 0 [some (.inr (0, 0)), some (.inl x), some (.inl y), some (.inl w), none] [] I := by
  have hn4 := hG.hi
  have hn2 := hG.lo
  refine am_aload_n dX10_lock_0 rfl ?_
  refine am_iload_n dX10_lock_1 rfl ?_
  refine am_callVx (i := 0) (j := 0) (as := [.inl x]) (rest := []) dX10_lock_2 lkX10_isNode ml_X10_65 imX10_isNode seX10_isNode rfl rfl (hG.m0 (by decide)) rfl (Nat.le_of_ble_eq_true rfl) rfl (c_isNode hG x I) ?_
  refine am_if_eq (tgt := 24) dX10_lock_5 (by decide) (fun _ => ?_) (fun h => absurd h (fun z => z ((am_bz _).mpr (decide_eq_false hx))))
  exact am_exit (hT _)
theorem j_lockB {G : am_G} (hG : am_ok G) {d : Nat} {TH : Nat → List (Option am_V) → List am_V → am_I → Prop} {Q : Option Int32 → am_I → Prop} {I : am_I} {i : Nat} (hi : i < G.2.2.2.1) (y w : Int32) (hx : ¬ (0 ≤ y.toInt ∧ y.toInt < 136)) (hI : I = am_fr G.2.2.2.1) (hT : ∀ lo, TH 24 lo [] I) : am_J G (d + 3) mX10_lock TH Q 0 [some (.inr (0, 0)), some (.inl (nI i)), some (.inl y), some (.inl w), none] [] I := by
  have hn4 := hG.hi
  have hn2 := hG.lo
  refine am_aload_n dX10_lock_0 rfl ?_
  refine am_iload_n dX10_lock_1 rfl ?_
  refine am_callVx (i := 0) (j := 0) (as := [.inl (nI i)]) (rest := []) dX10_lock_2 lkX10_isNode ml_X10_65 imX10_isNode seX10_isNode rfl rfl (hG.m0 (by decide)) rfl (Nat.le_of_ble_eq_true rfl) rfl (c_isNodeY hG hi I) ?_
  refine am_if_eq (tgt := 24) dX10_lock_5 (by decide) (fun h => absurd h (by decide)) (fun _ => ?_)
  refine am_iload_n dX10_lock_8 rfl ?_
  refine am_callSx (as := [.inl y]) (rest := []) dX10_lock_9 lkX10_isResource ml_X10_239 isX10_isResource rfl (Nat.le_of_ble_eq_true rfl) rfl (c_isResource hG.nd y I) ?_
  refine am_if_eq (tgt := 24) dX10_lock_12 (by decide) (fun _ => ?_) (fun h => absurd h (fun z => z ((am_bz _).mpr (decide_eq_false hx))))
  exact am_exit (hT _)
theorem j_lockC {G : am_G} (hG : am_ok G) {d : Nat} {TH : Nat → List (Option am_V) → List am_V → am_I → Prop} {Q : Option Int32 → am_I → Prop} {I : am_I} {i : Nat} (hi : i < G.2.2.2.1) {r : Nat} (hr : r < 136) (w : Int32) (hw : w.toInt < 0 ∨ 4 < w.toInt) (hI : I = am_fr G.2.2.2.1) (hT : ∀ lo, TH 24 lo [] I) : am_J G (d + 3) mX10_lock TH Q 0 [some (.inr (0, 0)), some (.inl (nI i)), some (.inl (nI r)), some (.inl w), none] [] I := by
  have hn4 := hG.hi
  have hn2 := hG.lo
  refine am_aload_n dX10_lock_0 rfl ?_
  refine am_iload_n dX10_lock_1 rfl ?_
  refine am_callVx (i := 0) (j := 0) (as := [.inl (nI i)]) (rest := []) dX10_lock_2 lkX10_isNode ml_X10_65 imX10_isNode seX10_isNode rfl rfl (hG.m0 (by decide)) rfl (Nat.le_of_ble_eq_true rfl) rfl (c_isNodeY hG hi I) ?_
  refine am_if_eq (tgt := 24) dX10_lock_5 (by decide) (fun h => absurd h (by decide)) (fun _ => ?_)
  refine am_iload_n dX10_lock_8 rfl ?_
  refine am_callSx (as := [.inl (nI r)]) (rest := []) dX10_lock_9 lkX10_isResource ml_X10_239 isX10_isResource rfl (Nat.le_of_ble_eq_true rfl) rfl (c_isResource hG.nd (nI r) I) ?_
  refine am_if_eq (tgt := 24) dX10_lock_12 (by decide) (fun h => absurd h ((am_bn _).mpr (decide_eq_true (by rw [nI_toInt (by omega)]; omega)))) (fun _ => ?_)
  refine am_iload_n dX10_lock_15 rfl ?_
  refine am_if_lt (tgt := 24) dX10_lock_16 (by decide) (fun c_16 => ?_) (fun c_16 => ?_)
  · skip
    have c_16 := Int32.lt_iff_toInt_lt.mp c_16
    rw [am_i0] at c_16
    exact am_exit (hT _)
  · skip
    have c_16 := mt Int32.lt_iff_toInt_lt.mpr c_16
    rw [am_i0] at c_16
    refine am_iload_n dX10_lock_19 rfl ?_
    refine am_iconst (v := nI 4) dX10_lock_20 (by decide) ?_
    refine am_icmp_le (tgt := 34) dX10_lock_21 (by decide) (fun c_21 => ?_) (fun c_21 => ?_)
    · skip
      have c_21 := Int32.le_iff_toInt_le.mp c_21
      rw [nI_toInt (n := 4) (by omega)] at c_21
      exact absurd hw (by omega)
    · skip
      have c_21 := mt Int32.le_iff_toInt_le.mpr c_21
      rw [nI_toInt (n := 4) (by omega)] at c_21
      exact am_exit (hT _)
theorem j_lock0 {G : am_G} (hG : am_ok G) {d : Nat} {TH : Nat → List (Option am_V) → List am_V → am_I → Prop} {Q : Option Int32 → am_I → Prop} {I : am_I} {i : Nat} (hi : i < G.2.2.2.1) {r : Nat} (hr : r < 136)  (hI : I = am_fr G.2.2.2.1) (hQ : ∀ J, Q (some (nI 0)) J) : am_J G (d + 3) mX10_lock TH Q 0 [some (.inr (0, 0)), some (.inl (nI i)), some (.inl (nI r)), some (.inl (nI 0)), none] [] I := by
  have hn4 := hG.hi
  have hn2 := hG.lo
  refine am_aload_n dX10_lock_0 rfl ?_
  refine am_iload_n dX10_lock_1 rfl ?_
  refine am_callVx (i := 0) (j := 0) (as := [.inl (nI i)]) (rest := []) dX10_lock_2 lkX10_isNode ml_X10_65 imX10_isNode seX10_isNode rfl rfl (hG.m0 (by decide)) rfl (Nat.le_of_ble_eq_true rfl) rfl (c_isNodeY hG hi I) ?_
  refine am_if_eq (tgt := 24) dX10_lock_5 (by decide) (fun h => absurd h (by decide)) (fun _ => ?_)
  refine am_iload_n dX10_lock_8 rfl ?_
  refine am_callSx (as := [.inl (nI r)]) (rest := []) dX10_lock_9 lkX10_isResource ml_X10_239 isX10_isResource rfl (Nat.le_of_ble_eq_true rfl) rfl (c_isResource hG.nd (nI r) I) ?_
  refine am_if_eq (tgt := 24) dX10_lock_12 (by decide) (fun h => absurd h ((am_bn _).mpr (decide_eq_true (by rw [nI_toInt (by omega)]; omega)))) (fun _ => ?_)
  refine am_iload_n dX10_lock_15 rfl ?_
  refine am_if_lt (tgt := 24) dX10_lock_16 (by decide) (fun h => absurd h (by decide)) (fun _ => ?_)
  refine am_iload_n dX10_lock_19 rfl ?_
  refine am_iconst (v := nI 4) dX10_lock_20 (by decide) ?_
  refine am_icmp_le (tgt := 34) dX10_lock_21 (by decide) (fun _ => ?_) (fun h => absurd h (by decide))
  refine am_aload_n dX10_lock_34 rfl ?_
  refine am_get (v := .inr (0, 2)) dX10_lock_35 fl_10_19 (hG.m0 (by decide)) rfl ?_
  refine am_iload_n dX10_lock_38 rfl ?_
  refine am_aald (a := i) dX10_lock_39 (hG.m0 (by decide)) rfl rfl (by omega) hG.n31 ?_
  refine am_get (v := .inr (i, 48)) dX10_lock_40 fl_10_244 (hG.mn hi (by decide) (by decide)) rfl ?_
  refine am_astore dX10_lock_43 (by decide) ?_
  refine am_iload_n dX10_lock_45 rfl ?_
  refine am_tabIn (off := 30) (tgt := 76) dX10_lock_46 (by decide) (by decide) rfl (by decide) ?_
  refine am_aload dX10_lock_76 rfl ?_
  refine am_get (v := .inr (i, 49)) dX10_lock_78 fl_10_248 (hG.mn hi (by decide) (by decide)) rfl ?_
  refine am_iload_n dX10_lock_81 rfl ?_
  refine am_iald (a := r) dX10_lock_82 (hG.mn hi (by decide) (by decide)) rfl rfl (show r < 136 from (by omega)) (show 136 < 2 ^ 31 by decide) ?_
  refine am_top (show I i 49 r = nI 0 from (by simp [am_up, am_upf, upd, hI, am_fr, am_dk])) ?_
  refine am_iret dX10_lock_83 rfl rfl ?_
  exact hQ _
theorem j_lock1 {G : am_G} (hG : am_ok G) {d : Nat} {TH : Nat → List (Option am_V) → List am_V → am_I → Prop} {Q : Option Int32 → am_I → Prop} {I : am_I} {i : Nat} (hi : i < G.2.2.2.1) {r : Nat} (hr : r < 136)  (hI : I = am_fr G.2.2.2.1) (hQ : ∀ J, Q (some (nI 0)) J) : am_J G (d + 3) mX10_lock TH Q 0 [some (.inr (0, 0)), some (.inl (nI i)), some (.inl (nI r)), some (.inl (nI 1)), none] [] I := by
  have hn4 := hG.hi
  have hn2 := hG.lo
  refine am_aload_n dX10_lock_0 rfl ?_
  refine am_iload_n dX10_lock_1 rfl ?_
  refine am_callVx (i := 0) (j := 0) (as := [.inl (nI i)]) (rest := []) dX10_lock_2 lkX10_isNode ml_X10_65 imX10_isNode seX10_isNode rfl rfl (hG.m0 (by decide)) rfl (Nat.le_of_ble_eq_true rfl) rfl (c_isNodeY hG hi I) ?_
  refine am_if_eq (tgt := 24) dX10_lock_5 (by decide) (fun h => absurd h (by decide)) (fun _ => ?_)
  refine am_iload_n dX10_lock_8 rfl ?_
  refine am_callSx (as := [.inl (nI r)]) (rest := []) dX10_lock_9 lkX10_isResource ml_X10_239 isX10_isResource rfl (Nat.le_of_ble_eq_true rfl) rfl (c_isResource hG.nd (nI r) I) ?_
  refine am_if_eq (tgt := 24) dX10_lock_12 (by decide) (fun h => absurd h ((am_bn _).mpr (decide_eq_true (by rw [nI_toInt (by omega)]; omega)))) (fun _ => ?_)
  refine am_iload_n dX10_lock_15 rfl ?_
  refine am_if_lt (tgt := 24) dX10_lock_16 (by decide) (fun h => absurd h (by decide)) (fun _ => ?_)
  refine am_iload_n dX10_lock_19 rfl ?_
  refine am_iconst (v := nI 4) dX10_lock_20 (by decide) ?_
  refine am_icmp_le (tgt := 34) dX10_lock_21 (by decide) (fun _ => ?_) (fun h => absurd h (by decide))
  refine am_aload_n dX10_lock_34 rfl ?_
  refine am_get (v := .inr (0, 2)) dX10_lock_35 fl_10_19 (hG.m0 (by decide)) rfl ?_
  refine am_iload_n dX10_lock_38 rfl ?_
  refine am_aald (a := i) dX10_lock_39 (hG.m0 (by decide)) rfl rfl (by omega) hG.n31 ?_
  refine am_get (v := .inr (i, 48)) dX10_lock_40 fl_10_244 (hG.mn hi (by decide) (by decide)) rfl ?_
  refine am_astore dX10_lock_43 (by decide) ?_
  refine am_iload_n dX10_lock_45 rfl ?_
  refine am_tabIn (off := 38) (tgt := 84) dX10_lock_46 (by decide) (by decide) rfl (by decide) ?_
  refine am_aload dX10_lock_84 rfl ?_
  refine am_get (v := .inr (i, 50)) dX10_lock_86 fl_10_253 (hG.mn hi (by decide) (by decide)) rfl ?_
  refine am_iload_n dX10_lock_89 rfl ?_
  refine am_iald (a := r) dX10_lock_90 (hG.mn hi (by decide) (by decide)) rfl rfl (show r < 136 from (by omega)) (show 136 < 2 ^ 31 by decide) ?_
  refine am_top (show I i 50 r = nI 0 from (by simp [am_up, am_upf, upd, hI, am_fr, am_dk])) ?_
  refine am_iret dX10_lock_91 rfl rfl ?_
  exact hQ _
theorem j_lock2 {G : am_G} (hG : am_ok G) {d : Nat} {TH : Nat → List (Option am_V) → List am_V → am_I → Prop} {Q : Option Int32 → am_I → Prop} {I : am_I} {i : Nat} (hi : i < G.2.2.2.1) {r : Nat} (hr : r < 136)  (hI : I = am_fr G.2.2.2.1) (hQ : ∀ J, Q (some (-1 : Int32)) J) : am_J G (d + 3) mX10_lock TH Q 0 [some (.inr (0, 0)), some (.inl (nI i)), some (.inl (nI r)), some (.inl (nI 2)), none] [] I := by
  have hn4 := hG.hi
  have hn2 := hG.lo
  refine am_aload_n dX10_lock_0 rfl ?_
  refine am_iload_n dX10_lock_1 rfl ?_
  refine am_callVx (i := 0) (j := 0) (as := [.inl (nI i)]) (rest := []) dX10_lock_2 lkX10_isNode ml_X10_65 imX10_isNode seX10_isNode rfl rfl (hG.m0 (by decide)) rfl (Nat.le_of_ble_eq_true rfl) rfl (c_isNodeY hG hi I) ?_
  refine am_if_eq (tgt := 24) dX10_lock_5 (by decide) (fun h => absurd h (by decide)) (fun _ => ?_)
  refine am_iload_n dX10_lock_8 rfl ?_
  refine am_callSx (as := [.inl (nI r)]) (rest := []) dX10_lock_9 lkX10_isResource ml_X10_239 isX10_isResource rfl (Nat.le_of_ble_eq_true rfl) rfl (c_isResource hG.nd (nI r) I) ?_
  refine am_if_eq (tgt := 24) dX10_lock_12 (by decide) (fun h => absurd h ((am_bn _).mpr (decide_eq_true (by rw [nI_toInt (by omega)]; omega)))) (fun _ => ?_)
  refine am_iload_n dX10_lock_15 rfl ?_
  refine am_if_lt (tgt := 24) dX10_lock_16 (by decide) (fun h => absurd h (by decide)) (fun _ => ?_)
  refine am_iload_n dX10_lock_19 rfl ?_
  refine am_iconst (v := nI 4) dX10_lock_20 (by decide) ?_
  refine am_icmp_le (tgt := 34) dX10_lock_21 (by decide) (fun _ => ?_) (fun h => absurd h (by decide))
  refine am_aload_n dX10_lock_34 rfl ?_
  refine am_get (v := .inr (0, 2)) dX10_lock_35 fl_10_19 (hG.m0 (by decide)) rfl ?_
  refine am_iload_n dX10_lock_38 rfl ?_
  refine am_aald (a := i) dX10_lock_39 (hG.m0 (by decide)) rfl rfl (by omega) hG.n31 ?_
  refine am_get (v := .inr (i, 48)) dX10_lock_40 fl_10_244 (hG.mn hi (by decide) (by decide)) rfl ?_
  refine am_astore dX10_lock_43 (by decide) ?_
  refine am_iload_n dX10_lock_45 rfl ?_
  refine am_tabIn (off := 46) (tgt := 92) dX10_lock_46 (by decide) (by decide) rfl (by decide) ?_
  refine am_aload dX10_lock_92 rfl ?_
  refine am_get (v := .inr (i, 51)) dX10_lock_94 fl_10_256 (hG.mn hi (by decide) (by decide)) rfl ?_
  refine am_iload_n dX10_lock_97 rfl ?_
  refine am_iald (a := r) dX10_lock_98 (hG.mn hi (by decide) (by decide)) rfl rfl (show r < 136 from (by omega)) (show 136 < 2 ^ 31 by decide) ?_
  refine am_top (show I i 51 r = (-1 : Int32) from (by simp [am_up, am_upf, upd, hI, am_fr, am_dk])) ?_
  refine am_iret dX10_lock_99 rfl rfl ?_
  exact hQ _
theorem j_lock3 {G : am_G} (hG : am_ok G) {d : Nat} {TH : Nat → List (Option am_V) → List am_V → am_I → Prop} {Q : Option Int32 → am_I → Prop} {I : am_I} {i : Nat} (hi : i < G.2.2.2.1) {r : Nat} (hr : r < 136)  (hI : I = am_fr G.2.2.2.1) (hQ : ∀ J, Q (some (nI 0)) J) : am_J G (d + 3) mX10_lock TH Q 0 [some (.inr (0, 0)), some (.inl (nI i)), some (.inl (nI r)), some (.inl (nI 3)), none] [] I := by
  have hn4 := hG.hi
  have hn2 := hG.lo
  refine am_aload_n dX10_lock_0 rfl ?_
  refine am_iload_n dX10_lock_1 rfl ?_
  refine am_callVx (i := 0) (j := 0) (as := [.inl (nI i)]) (rest := []) dX10_lock_2 lkX10_isNode ml_X10_65 imX10_isNode seX10_isNode rfl rfl (hG.m0 (by decide)) rfl (Nat.le_of_ble_eq_true rfl) rfl (c_isNodeY hG hi I) ?_
  refine am_if_eq (tgt := 24) dX10_lock_5 (by decide) (fun h => absurd h (by decide)) (fun _ => ?_)
  refine am_iload_n dX10_lock_8 rfl ?_
  refine am_callSx (as := [.inl (nI r)]) (rest := []) dX10_lock_9 lkX10_isResource ml_X10_239 isX10_isResource rfl (Nat.le_of_ble_eq_true rfl) rfl (c_isResource hG.nd (nI r) I) ?_
  refine am_if_eq (tgt := 24) dX10_lock_12 (by decide) (fun h => absurd h ((am_bn _).mpr (decide_eq_true (by rw [nI_toInt (by omega)]; omega)))) (fun _ => ?_)
  refine am_iload_n dX10_lock_15 rfl ?_
  refine am_if_lt (tgt := 24) dX10_lock_16 (by decide) (fun h => absurd h (by decide)) (fun _ => ?_)
  refine am_iload_n dX10_lock_19 rfl ?_
  refine am_iconst (v := nI 4) dX10_lock_20 (by decide) ?_
  refine am_icmp_le (tgt := 34) dX10_lock_21 (by decide) (fun _ => ?_) (fun h => absurd h (by decide))
  refine am_aload_n dX10_lock_34 rfl ?_
  refine am_get (v := .inr (0, 2)) dX10_lock_35 fl_10_19 (hG.m0 (by decide)) rfl ?_
  refine am_iload_n dX10_lock_38 rfl ?_
  refine am_aald (a := i) dX10_lock_39 (hG.m0 (by decide)) rfl rfl (by omega) hG.n31 ?_
  refine am_get (v := .inr (i, 48)) dX10_lock_40 fl_10_244 (hG.mn hi (by decide) (by decide)) rfl ?_
  refine am_astore dX10_lock_43 (by decide) ?_
  refine am_iload_n dX10_lock_45 rfl ?_
  refine am_tabIn (off := 54) (tgt := 100) dX10_lock_46 (by decide) (by decide) rfl (by decide) ?_
  refine am_aload dX10_lock_100 rfl ?_
  refine am_get (v := .inr (i, 54)) dX10_lock_102 fl_10_259 (hG.mn hi (by decide) (by decide)) rfl ?_
  refine am_iload_n dX10_lock_105 rfl ?_
  refine am_iald (a := r) dX10_lock_106 (hG.mn hi (by decide) (by decide)) rfl rfl (show r < 136 from (by omega)) (show 136 < 2 ^ 31 by decide) ?_
  refine am_top (show I i 54 r = nI 0 from (by simp [am_up, am_upf, upd, hI, am_fr, am_dk])) ?_
  refine am_iret dX10_lock_107 rfl rfl ?_
  exact hQ _
theorem j_lock4 {G : am_G} (hG : am_ok G) {d : Nat} {TH : Nat → List (Option am_V) → List am_V → am_I → Prop} {Q : Option Int32 → am_I → Prop} {I : am_I} {i : Nat} (hi : i < G.2.2.2.1) {r : Nat} (hr : r < 136)  (hI : I = am_fr G.2.2.2.1) (hQ : ∀ J, Q (some (nI 0)) J) : am_J G (d + 3) mX10_lock TH Q 0 [some (.inr (0, 0)), some (.inl (nI i)), some (.inl (nI r)), some (.inl (nI 4)), none] [] I := by
  have hn4 := hG.hi
  have hn2 := hG.lo
  refine am_aload_n dX10_lock_0 rfl ?_
  refine am_iload_n dX10_lock_1 rfl ?_
  refine am_callVx (i := 0) (j := 0) (as := [.inl (nI i)]) (rest := []) dX10_lock_2 lkX10_isNode ml_X10_65 imX10_isNode seX10_isNode rfl rfl (hG.m0 (by decide)) rfl (Nat.le_of_ble_eq_true rfl) rfl (c_isNodeY hG hi I) ?_
  refine am_if_eq (tgt := 24) dX10_lock_5 (by decide) (fun h => absurd h (by decide)) (fun _ => ?_)
  refine am_iload_n dX10_lock_8 rfl ?_
  refine am_callSx (as := [.inl (nI r)]) (rest := []) dX10_lock_9 lkX10_isResource ml_X10_239 isX10_isResource rfl (Nat.le_of_ble_eq_true rfl) rfl (c_isResource hG.nd (nI r) I) ?_
  refine am_if_eq (tgt := 24) dX10_lock_12 (by decide) (fun h => absurd h ((am_bn _).mpr (decide_eq_true (by rw [nI_toInt (by omega)]; omega)))) (fun _ => ?_)
  refine am_iload_n dX10_lock_15 rfl ?_
  refine am_if_lt (tgt := 24) dX10_lock_16 (by decide) (fun h => absurd h (by decide)) (fun _ => ?_)
  refine am_iload_n dX10_lock_19 rfl ?_
  refine am_iconst (v := nI 4) dX10_lock_20 (by decide) ?_
  refine am_icmp_le (tgt := 34) dX10_lock_21 (by decide) (fun _ => ?_) (fun h => absurd h (by decide))
  refine am_aload_n dX10_lock_34 rfl ?_
  refine am_get (v := .inr (0, 2)) dX10_lock_35 fl_10_19 (hG.m0 (by decide)) rfl ?_
  refine am_iload_n dX10_lock_38 rfl ?_
  refine am_aald (a := i) dX10_lock_39 (hG.m0 (by decide)) rfl rfl (by omega) hG.n31 ?_
  refine am_get (v := .inr (i, 48)) dX10_lock_40 fl_10_244 (hG.mn hi (by decide) (by decide)) rfl ?_
  refine am_astore dX10_lock_43 (by decide) ?_
  refine am_iload_n dX10_lock_45 rfl ?_
  refine am_tabOut (tgt := 108) dX10_lock_46 (by decide) (by decide) ?_
  refine am_aload_n dX10_lock_108 rfl ?_
  refine am_get (v := .inr (0, 3)) dX10_lock_109 fl_10_29 (hG.m0 (by decide)) rfl ?_
  refine am_get (v := .inr (0, 4)) dX10_lock_112 fl_10_262 (hG.m0 (by decide)) rfl ?_
  refine am_iload_n dX10_lock_115 rfl ?_
  refine am_iconst (v := nI 4) dX10_lock_116 (by decide) ?_
  refine am_imul dX10_lock_117 ?_
  refine am_top (pk_mul _ _) ?_
  refine am_iload_n dX10_lock_118 rfl ?_
  refine am_iadd dX10_lock_119 ?_
  refine am_top (nI_add _ _) ?_
  refine am_iald (a := r * 4 + i) dX10_lock_120 (hG.m0 (by decide)) rfl rfl (show r * 4 + i < 544 from (by omega)) (show 544 < 2 ^ 31 by decide) ?_
  refine am_top (show I 0 4 (r * 4 + i) = nI 0 from (by simp [am_up, am_upf, upd, hI, am_fr, am_dk])) ?_
  refine am_iret dX10_lock_121 rfl rfl ?_
  exact hQ _
theorem j_rowA {G : am_G} (hG : am_ok G) {d : Nat} {TH : Nat → List (Option am_V) → List am_V → am_I → Prop} {Q : Option Int32 → am_I → Prop} {I : am_I} (y w : Int32) (hx : ¬ (0 ≤ y.toInt ∧ y.toInt < 136)) (hI : I = am_fr G.2.2.2.1) (hT : ∀ lo, TH 11 lo [] I) : am_J G (d + 3) mX10_row TH Q 0 [some (.inr (0, 0)), some (.inl y), some (.inl w), none, none, none] [] I := by
  have hn4 := hG.hi
  have hn2 := hG.lo
  refine am_iload_n dX10_row_0 rfl ?_
  refine am_callSx (as := [.inl y]) (rest := []) dX10_row_1 lkX10_isResource ml_X10_239 isX10_isResource rfl (Nat.le_of_ble_eq_true rfl) rfl (c_isResource hG.nd y I) ?_
  refine am_if_eq (tgt := 11) dX10_row_4 (by decide) (fun _ => ?_) (fun h => absurd h (fun z => z ((am_bz _).mpr (decide_eq_false hx))))
  exact am_exit (hT _)
theorem j_rowB {G : am_G} (hG : am_ok G) {d : Nat} {TH : Nat → List (Option am_V) → List am_V → am_I → Prop} {Q : Option Int32 → am_I → Prop} {I : am_I} {r : Nat} (hr : r < 136) (w : Int32) (hw : w.toInt < 0) (hI : I = am_fr G.2.2.2.1) (hT : ∀ lo, TH 11 lo [] I) : am_J G (d + 3) mX10_row TH Q 0 [some (.inr (0, 0)), some (.inl (nI r)), some (.inl w), none, none, none] [] I := by
  have hn4 := hG.hi
  have hn2 := hG.lo
  refine am_iload_n dX10_row_0 rfl ?_
  refine am_callSx (as := [.inl (nI r)]) (rest := []) dX10_row_1 lkX10_isResource ml_X10_239 isX10_isResource rfl (Nat.le_of_ble_eq_true rfl) rfl (c_isResource hG.nd (nI r) I) ?_
  refine am_if_eq (tgt := 11) dX10_row_4 (by decide) (fun h => absurd h ((am_bn _).mpr (decide_eq_true (by rw [nI_toInt (by omega)]; omega)))) (fun _ => ?_)
  refine am_iload_n dX10_row_7 rfl ?_
  refine am_if_ge (tgt := 22) dX10_row_8 (by decide) (fun c_8 => ?_) (fun c_8 => ?_)
  · skip
    have c_8 := Int32.le_iff_toInt_le.mp c_8
    rw [am_i0] at c_8
    exact absurd hw (by omega)
  · skip
    have c_8 := mt Int32.le_iff_toInt_le.mpr c_8
    rw [am_i0] at c_8
    exact am_exit (hT _)
theorem j_row0 {G : am_G} (hG : am_ok G) {d : Nat} {TH : Nat → List (Option am_V) → List am_V → am_I → Prop} {Q : Option Int32 → am_I → Prop} {I : am_I} {r : Nat} (hr : r < 136)  (hI : I = am_fr G.2.2.2.1) (hQ : ∀ J, Q (some (nI (r % G.2.2.2.1))) J) : am_J G (d + 3) mX10_row TH Q 0 [some (.inr (0, 0)), some (.inl (nI r)), some (.inl (nI 0)), none, none, none] [] I := by
  have hn4 := hG.hi
  have hn2 := hG.lo
  refine am_iload_n dX10_row_0 rfl ?_
  refine am_callSx (as := [.inl (nI r)]) (rest := []) dX10_row_1 lkX10_isResource ml_X10_239 isX10_isResource rfl (Nat.le_of_ble_eq_true rfl) rfl (c_isResource hG.nd (nI r) I) ?_
  refine am_if_eq (tgt := 11) dX10_row_4 (by decide) (fun h => absurd h ((am_bn _).mpr (decide_eq_true (by rw [nI_toInt (by omega)]; omega)))) (fun _ => ?_)
  refine am_iload_n dX10_row_7 rfl ?_
  refine am_if_ge (tgt := 22) dX10_row_8 (by decide) (fun _ => ?_) (fun h => absurd h (by decide))
  refine am_iload_n dX10_row_22 rfl ?_
  refine am_if_ne (tgt := 32) dX10_row_23 (by decide) (fun h => absurd h (by decide)) (fun _ => ?_)
  refine am_aload_n dX10_row_26 rfl ?_
  refine am_iload_n dX10_row_27 rfl ?_
  refine am_callVx (i := 0) (j := 0) (as := [.inl (nI r)]) (rest := []) dX10_row_28 lkX10_masterOf ml_X10_158 imX10_masterOf seX10_masterOf rfl rfl (hG.m0 (by decide)) rfl (Nat.le_of_ble_eq_true rfl) rfl (c_masterOf hG (by omega) I (fun x hx => by simp [am_up, am_upf, upd, hI, am_fr])) ?_
  refine am_iret dX10_row_31 rfl rfl ?_
  exact hQ _
theorem j_row1 {G : am_G} (hG : am_ok G) {d : Nat} {TH : Nat → List (Option am_V) → List am_V → am_I → Prop} {Q : Option Int32 → am_I → Prop} {I : am_I} {r : Nat} (hr : r < 136)  (hI : I = am_fr G.2.2.2.1) (hQ : ∀ J, Q (some (nI 0)) J) : am_J G (d + 3) mX10_row TH Q 0 [some (.inr (0, 0)), some (.inl (nI r)), some (.inl (nI 1)), none, none, none] [] I := by
  have hn4 := hG.hi
  have hn2 := hG.lo
  refine am_iload_n dX10_row_0 rfl ?_
  refine am_callSx (as := [.inl (nI r)]) (rest := []) dX10_row_1 lkX10_isResource ml_X10_239 isX10_isResource rfl (Nat.le_of_ble_eq_true rfl) rfl (c_isResource hG.nd (nI r) I) ?_
  refine am_if_eq (tgt := 11) dX10_row_4 (by decide) (fun h => absurd h ((am_bn _).mpr (decide_eq_true (by rw [nI_toInt (by omega)]; omega)))) (fun _ => ?_)
  refine am_iload_n dX10_row_7 rfl ?_
  refine am_if_ge (tgt := 22) dX10_row_8 (by decide) (fun _ => ?_) (fun h => absurd h (by decide))
  refine am_iload_n dX10_row_22 rfl ?_
  refine am_if_ne (tgt := 32) dX10_row_23 (by decide) (fun _ => ?_) (fun h => absurd h (by decide))
  refine am_aload_n dX10_row_32 rfl ?_
  refine am_get (v := .inr (0, 3)) dX10_row_33 fl_10_29 (hG.m0 (by decide)) rfl ?_
  refine am_get (v := .inr (0, 8)) dX10_row_36 fl_10_267 (hG.m0 (by decide)) rfl ?_
  refine am_iload_n dX10_row_39 rfl ?_
  refine am_iald (a := r) dX10_row_40 (hG.m0 (by decide)) rfl rfl (show r < 136 from (by omega)) (show 136 < 2 ^ 31 by decide) ?_
  refine am_top (show I 0 8 r = nI 0 from (by simp [am_up, am_upf, upd, hI, am_fr, am_dk])) ?_
  refine am_istore_n dX10_row_41 (by decide) ?_
  refine am_iload_n dX10_row_42 rfl ?_
  refine am_iconst (v := nI 1) dX10_row_43 (by decide) ?_
  refine am_icmp_ne (tgt := 49) dX10_row_44 (by decide) (fun h => absurd h (by decide)) (fun _ => ?_)
  refine am_iload_n dX10_row_47 rfl ?_
  refine am_iret dX10_row_48 rfl rfl ?_
  exact hQ _
theorem j_row2 {G : am_G} (hG : am_ok G) {d : Nat} {TH : Nat → List (Option am_V) → List am_V → am_I → Prop} {Q : Option Int32 → am_I → Prop} {I : am_I} {r : Nat} (hr : r < 136) {v : Nat} (hv : 2 ≤ v) (hv2 : v < 2 ^ 31) (hI : I = am_fr G.2.2.2.1) (hQ : ∀ J, Q (some (-1 : Int32)) J) : am_J G (d + 3) mX10_row TH Q 0 [some (.inr (0, 0)), some (.inl (nI r)), some (.inl (nI v)), none, none, none] [] I := by
  have hn4 := hG.hi
  have hn2 := hG.lo
  refine am_iload_n dX10_row_0 rfl ?_
  refine am_callSx (as := [.inl (nI r)]) (rest := []) dX10_row_1 lkX10_isResource ml_X10_239 isX10_isResource rfl (Nat.le_of_ble_eq_true rfl) rfl (c_isResource hG.nd (nI r) I) ?_
  refine am_if_eq (tgt := 11) dX10_row_4 (by decide) (fun h => absurd h ((am_bn _).mpr (decide_eq_true (by rw [nI_toInt (by omega)]; omega)))) (fun _ => ?_)
  refine am_iload_n dX10_row_7 rfl ?_
  refine am_if_ge (tgt := 22) dX10_row_8 (by decide) (fun _ => ?_) (fun h => absurd ((nI_leI (a := 0) (b := v) (by omega) (by omega)).mpr (by omega)) h)
  refine am_iload_n dX10_row_22 rfl ?_
  refine am_if_ne (tgt := 32) dX10_row_23 (by decide) (fun _ => ?_) (fun h => absurd ((nI_eq (a := v) (b := 0) (by omega) (by omega)).mp h) (by omega))
  refine am_aload_n dX10_row_32 rfl ?_
  refine am_get (v := .inr (0, 3)) dX10_row_33 fl_10_29 (hG.m0 (by decide)) rfl ?_
  refine am_get (v := .inr (0, 8)) dX10_row_36 fl_10_267 (hG.m0 (by decide)) rfl ?_
  refine am_iload_n dX10_row_39 rfl ?_
  refine am_iald (a := r) dX10_row_40 (hG.m0 (by decide)) rfl rfl (show r < 136 from (by omega)) (show 136 < 2 ^ 31 by decide) ?_
  refine am_top (show I 0 8 r = nI 0 from (by simp [am_up, am_upf, upd, hI, am_fr, am_dk])) ?_
  refine am_istore_n dX10_row_41 (by decide) ?_
  refine am_iload_n dX10_row_42 rfl ?_
  refine am_iconst (v := nI 1) dX10_row_43 (by decide) ?_
  refine am_icmp_ne (tgt := 49) dX10_row_44 (by decide) (fun _ => ?_) (fun h => absurd ((nI_eq (a := v) (b := 1) (by omega) (by omega)).mp h) (by omega))
  refine am_iload_n dX10_row_49 rfl ?_
  refine am_iconst (v := nI 2) dX10_row_50 (by decide) ?_
  refine am_isub dX10_row_51 ?_
  refine am_top (pk_sub hv) ?_
  refine am_iconst (v := nI 2) dX10_row_52 (by decide) ?_
  refine am_idiv dX10_row_53 (by decide) ?_
  refine am_top (pk_div (by omega) (by omega) (by omega)) ?_
  refine am_istore dX10_row_54 (by decide) ?_
  refine am_iload dX10_row_56 rfl ?_
  refine am_iload_n dX10_row_58 rfl ?_
  refine am_icmp_lt (tgt := 64) dX10_row_59 (by decide) (fun h => absurd ((nI_ltI (a := (v - 2) / 2) (b := 0) (by omega) (by omega)).mp h) (by omega)) (fun _ => ?_)
  refine am_iconst (v := (-1 : Int32)) dX10_row_62 (by decide) ?_
  refine am_iret dX10_row_63 rfl rfl ?_
  exact hQ _
theorem c_Jleft0 {G : am_G} (hG : am_ok G) {d : Nat} {i : Nat} (hi : i < G.2.2.2.1) (I : am_I)  (hct : I i 44 5 = nI 0) : am_C G d mX3_left [.inr (i, 44)] I (am_E (some (nI 0)) (I)) := by
  refine am_of (by decide +kernel) hG.nd (Nat.le_of_ble_eq_true rfl) ?_
  refine am_aload_n dX3_left_0 rfl ?_
  refine am_get (v := .inl (I i 44 5)) dX3_left_1 fl_3_25 (hG.mn hi (by decide) (by decide)) rfl ?_
  refine am_top (show I i 44 5 = nI 0 from (by simp [am_up, am_upf, upd, hct])) ?_
  refine am_if_ne (tgt := 11) dX3_left_4 (by decide) (fun h => absurd h (by decide)) (fun _ => ?_)
  refine am_iconst (v := nI 0) dX3_left_7 (by decide) ?_
  refine am_goto (tgt := 24) dX3_left_8 (by decide) ?_
  refine am_iret dX3_left_24 rfl rfl ?_
  exact ⟨rfl, rfl⟩
theorem c_Jtarget0 {G : am_G} (hG : am_ok G) {d : Nat} {i : Nat} (hi : i < G.2.2.2.1) (I : am_I)  (hct : I i 44 5 = nI 0) : am_C G d mX3_target [.inr (i, 44)] I (am_E (some (-1 : Int32)) (I)) := by
  refine am_of (by decide +kernel) hG.nd (Nat.le_of_ble_eq_true rfl) ?_
  refine am_aload_n dX3_target_0 rfl ?_
  refine am_get (v := .inl (I i 44 5)) dX3_target_1 fl_3_25 (hG.mn hi (by decide) (by decide)) rfl ?_
  refine am_top (show I i 44 5 = nI 0 from (by simp [am_up, am_upf, upd, hct])) ?_
  refine am_if_ne (tgt := 9) dX3_target_4 (by decide) (fun h => absurd h (by decide)) (fun _ => ?_)
  refine am_iconst (v := (-1 : Int32)) dX3_target_7 (by decide) ?_
  refine am_iret dX3_target_8 rfl rfl ?_
  exact ⟨rfl, rfl⟩
theorem j_nodeA {G : am_G} (hG : am_ok G) {d : Nat} {TH : Nat → List (Option am_V) → List am_V → am_I → Prop} {Q : Option Int32 → am_I → Prop} {I : am_I} (x : Int32) (hx : ¬ (0 ≤ x.toInt ∧ x.toInt < (G.2.2.2.1 : Int))) (w : Int32) (hI : I = am_fr G.2.2.2.1) (hT : ∀ lo, TH 18 lo [] I) : am_J G (d + 3) mX10_node TH Q 0 [some (.inr (0, 0)), some (.inl x), some (.inl w), none] [] I := by
  have hn4 := hG.hi
  have hn2 := hG.lo
  refine am_aload_n dX10_node_0 rfl ?_
  refine am_iload_n dX10_node_1 rfl ?_
  refine am_callVx (i := 0) (j := 0) (as := [.inl x]) (rest := []) dX10_node_2 lkX10_isNode ml_X10_65 imX10_isNode seX10_isNode rfl rfl (hG.m0 (by decide)) rfl (Nat.le_of_ble_eq_true rfl) rfl (c_isNode hG x I) ?_
  refine am_if_eq (tgt := 18) dX10_node_5 (by decide) (fun _ => ?_) (fun h => absurd h (fun z => z ((am_bz _).mpr (decide_eq_false hx))))
  exact am_exit (hT _)
theorem j_nodeB {G : am_G} (hG : am_ok G) {d : Nat} {TH : Nat → List (Option am_V) → List am_V → am_I → Prop} {Q : Option Int32 → am_I → Prop} {I : am_I} {i : Nat} (hi : i < G.2.2.2.1) (w : Int32) (hw : w.toInt < 0 ∨ 6 < w.toInt) (hI : I = am_fr G.2.2.2.1) (hT : ∀ lo, TH 18 lo [] I) : am_J G (d + 3) mX10_node TH Q 0 [some (.inr (0, 0)), some (.inl (nI i)), some (.inl w), none] [] I := by
  have hn4 := hG.hi
  have hn2 := hG.lo
  refine am_aload_n dX10_node_0 rfl ?_
  refine am_iload_n dX10_node_1 rfl ?_
  refine am_callVx (i := 0) (j := 0) (as := [.inl (nI i)]) (rest := []) dX10_node_2 lkX10_isNode ml_X10_65 imX10_isNode seX10_isNode rfl rfl (hG.m0 (by decide)) rfl (Nat.le_of_ble_eq_true rfl) rfl (c_isNodeY hG hi I) ?_
  refine am_if_eq (tgt := 18) dX10_node_5 (by decide) (fun h => absurd h (by decide)) (fun _ => ?_)
  refine am_iload_n dX10_node_8 rfl ?_
  refine am_if_lt (tgt := 18) dX10_node_9 (by decide) (fun c_9 => ?_) (fun c_9 => ?_)
  · skip
    have c_9 := Int32.lt_iff_toInt_lt.mp c_9
    rw [am_i0] at c_9
    exact am_exit (hT _)
  · skip
    have c_9 := mt Int32.lt_iff_toInt_lt.mpr c_9
    rw [am_i0] at c_9
    refine am_iload_n dX10_node_12 rfl ?_
    refine am_bipush (v := nI 6) dX10_node_13 (by decide) ?_
    refine am_icmp_le (tgt := 28) dX10_node_15 (by decide) (fun c_15 => ?_) (fun c_15 => ?_)
    · skip
      have c_15 := Int32.le_iff_toInt_le.mp c_15
      rw [nI_toInt (n := 6) (by omega)] at c_15
      exact absurd hw (by omega)
    · skip
      have c_15 := mt Int32.le_iff_toInt_le.mpr c_15
      rw [nI_toInt (n := 6) (by omega)] at c_15
      exact am_exit (hT _)
theorem j_node0 {G : am_G} (hG : am_ok G) {d : Nat} {TH : Nat → List (Option am_V) → List am_V → am_I → Prop} {Q : Option Int32 → am_I → Prop} {I : am_I} {i : Nat} (hi : i < G.2.2.2.1)  (hI : I = am_fr G.2.2.2.1) (hQ : ∀ J, Q (some (nI 1)) J) : am_J G (d + 3) mX10_node TH Q 0 [some (.inr (0, 0)), some (.inl (nI i)), some (.inl (nI 0)), none] [] I := by
  have hn4 := hG.hi
  have hn2 := hG.lo
  refine am_aload_n dX10_node_0 rfl ?_
  refine am_iload_n dX10_node_1 rfl ?_
  refine am_callVx (i := 0) (j := 0) (as := [.inl (nI i)]) (rest := []) dX10_node_2 lkX10_isNode ml_X10_65 imX10_isNode seX10_isNode rfl rfl (hG.m0 (by decide)) rfl (Nat.le_of_ble_eq_true rfl) rfl (c_isNodeY hG hi I) ?_
  refine am_if_eq (tgt := 18) dX10_node_5 (by decide) (fun h => absurd h (by decide)) (fun _ => ?_)
  refine am_iload_n dX10_node_8 rfl ?_
  refine am_if_lt (tgt := 18) dX10_node_9 (by decide) (fun h => absurd h (by decide)) (fun _ => ?_)
  refine am_iload_n dX10_node_12 rfl ?_
  refine am_bipush (v := nI 6) dX10_node_13 (by decide) ?_
  refine am_icmp_le (tgt := 28) dX10_node_15 (by decide) (fun _ => ?_) (fun h => absurd h (by decide))
  refine am_aload_n dX10_node_28 rfl ?_
  refine am_get (v := .inr (0, 2)) dX10_node_29 fl_10_19 (hG.m0 (by decide)) rfl ?_
  refine am_iload_n dX10_node_32 rfl ?_
  refine am_aald (a := i) dX10_node_33 (hG.m0 (by decide)) rfl rfl (by omega) hG.n31 ?_
  refine am_astore_n dX10_node_34 (by decide) ?_
  refine am_iload_n dX10_node_35 rfl ?_
  refine am_tabIn (off := 40) (tgt := 76) dX10_node_36 (by decide) (by decide) rfl (by decide) ?_
  refine am_aload_n dX10_node_76 rfl ?_
  refine am_get (v := .inl (I i 40 5)) dX10_node_77 fl_10_80 (hG.mn hi (by decide) (by decide)) rfl ?_
  refine am_top (show I i 40 5 = nI 1 from (by simp [am_up, am_upf, upd, hI, am_fr, am_dk])) ?_
  refine am_if_eq (tgt := 87) dX10_node_80 (by decide) (fun h => absurd h (by decide)) (fun _ => ?_)
  refine am_iconst (v := nI 1) dX10_node_83 (by decide) ?_
  refine am_goto (tgt := 88) dX10_node_84 (by decide) ?_
  refine am_iret dX10_node_88 rfl rfl ?_
  exact hQ _
theorem j_node1 {G : am_G} (hG : am_ok G) {d : Nat} {TH : Nat → List (Option am_V) → List am_V → am_I → Prop} {Q : Option Int32 → am_I → Prop} {I : am_I} {i : Nat} (hi : i < G.2.2.2.1)  (hI : I = am_fr G.2.2.2.1) (hQ : ∀ J, Q (some (nI 1)) J) : am_J G (d + 3) mX10_node TH Q 0 [some (.inr (0, 0)), some (.inl (nI i)), some (.inl (nI 1)), none] [] I := by
  have hn4 := hG.hi
  have hn2 := hG.lo
  refine am_aload_n dX10_node_0 rfl ?_
  refine am_iload_n dX10_node_1 rfl ?_
  refine am_callVx (i := 0) (j := 0) (as := [.inl (nI i)]) (rest := []) dX10_node_2 lkX10_isNode ml_X10_65 imX10_isNode seX10_isNode rfl rfl (hG.m0 (by decide)) rfl (Nat.le_of_ble_eq_true rfl) rfl (c_isNodeY hG hi I) ?_
  refine am_if_eq (tgt := 18) dX10_node_5 (by decide) (fun h => absurd h (by decide)) (fun _ => ?_)
  refine am_iload_n dX10_node_8 rfl ?_
  refine am_if_lt (tgt := 18) dX10_node_9 (by decide) (fun h => absurd h (by decide)) (fun _ => ?_)
  refine am_iload_n dX10_node_12 rfl ?_
  refine am_bipush (v := nI 6) dX10_node_13 (by decide) ?_
  refine am_icmp_le (tgt := 28) dX10_node_15 (by decide) (fun _ => ?_) (fun h => absurd h (by decide))
  refine am_aload_n dX10_node_28 rfl ?_
  refine am_get (v := .inr (0, 2)) dX10_node_29 fl_10_19 (hG.m0 (by decide)) rfl ?_
  refine am_iload_n dX10_node_32 rfl ?_
  refine am_aald (a := i) dX10_node_33 (hG.m0 (by decide)) rfl rfl (by omega) hG.n31 ?_
  refine am_astore_n dX10_node_34 (by decide) ?_
  refine am_iload_n dX10_node_35 rfl ?_
  refine am_tabIn (off := 53) (tgt := 89) dX10_node_36 (by decide) (by decide) rfl (by decide) ?_
  refine am_aload_n dX10_node_89 rfl ?_
  refine am_get (v := .inl (I i 40 6)) dX10_node_90 fl_10_166 (hG.mn hi (by decide) (by decide)) rfl ?_
  refine am_top (show I i 40 6 = nI 1 from (by simp [am_up, am_upf, upd, hI, am_fr, am_dk])) ?_
  refine am_if_eq (tgt := 100) dX10_node_93 (by decide) (fun h => absurd h (by decide)) (fun _ => ?_)
  refine am_iconst (v := nI 1) dX10_node_96 (by decide) ?_
  refine am_goto (tgt := 101) dX10_node_97 (by decide) ?_
  refine am_iret dX10_node_101 rfl rfl ?_
  exact hQ _
theorem j_node2 {G : am_G} (hG : am_ok G) {d : Nat} {TH : Nat → List (Option am_V) → List am_V → am_I → Prop} {Q : Option Int32 → am_I → Prop} {I : am_I} {i : Nat} (hi : i < G.2.2.2.1)  (hI : I = am_fr G.2.2.2.1) (hQ : ∀ J, Q (some (nI 0)) J) : am_J G (d + 3) mX10_node TH Q 0 [some (.inr (0, 0)), some (.inl (nI i)), some (.inl (nI 2)), none] [] I := by
  have hn4 := hG.hi
  have hn2 := hG.lo
  refine am_aload_n dX10_node_0 rfl ?_
  refine am_iload_n dX10_node_1 rfl ?_
  refine am_callVx (i := 0) (j := 0) (as := [.inl (nI i)]) (rest := []) dX10_node_2 lkX10_isNode ml_X10_65 imX10_isNode seX10_isNode rfl rfl (hG.m0 (by decide)) rfl (Nat.le_of_ble_eq_true rfl) rfl (c_isNodeY hG hi I) ?_
  refine am_if_eq (tgt := 18) dX10_node_5 (by decide) (fun h => absurd h (by decide)) (fun _ => ?_)
  refine am_iload_n dX10_node_8 rfl ?_
  refine am_if_lt (tgt := 18) dX10_node_9 (by decide) (fun h => absurd h (by decide)) (fun _ => ?_)
  refine am_iload_n dX10_node_12 rfl ?_
  refine am_bipush (v := nI 6) dX10_node_13 (by decide) ?_
  refine am_icmp_le (tgt := 28) dX10_node_15 (by decide) (fun _ => ?_) (fun h => absurd h (by decide))
  refine am_aload_n dX10_node_28 rfl ?_
  refine am_get (v := .inr (0, 2)) dX10_node_29 fl_10_19 (hG.m0 (by decide)) rfl ?_
  refine am_iload_n dX10_node_32 rfl ?_
  refine am_aald (a := i) dX10_node_33 (hG.m0 (by decide)) rfl rfl (by omega) hG.n31 ?_
  refine am_astore_n dX10_node_34 (by decide) ?_
  refine am_iload_n dX10_node_35 rfl ?_
  refine am_tabIn (off := 66) (tgt := 102) dX10_node_36 (by decide) (by decide) rfl (by decide) ?_
  refine am_aload_n dX10_node_102 rfl ?_
  refine am_get (v := .inr (i, 44)) dX10_node_103 fl_10_284 (hG.mn hi (by decide) (by decide)) rfl ?_
  refine am_get (v := .inl (I i 44 2)) dX10_node_106 fl_10_288 (hG.mn hi (by decide) (by decide)) rfl ?_
  refine am_top (show I i 44 2 = nI 0 from (by simp [am_up, am_upf, upd, hI, am_fr, am_dk])) ?_
  refine am_iret dX10_node_109 rfl rfl ?_
  exact hQ _
theorem j_node3 {G : am_G} (hG : am_ok G) {d : Nat} {TH : Nat → List (Option am_V) → List am_V → am_I → Prop} {Q : Option Int32 → am_I → Prop} {I : am_I} {i : Nat} (hi : i < G.2.2.2.1)  (hI : I = am_fr G.2.2.2.1) (hQ : ∀ J, Q (some (nI 0)) J) : am_J G (d + 3) mX10_node TH Q 0 [some (.inr (0, 0)), some (.inl (nI i)), some (.inl (nI 3)), none] [] I := by
  have hn4 := hG.hi
  have hn2 := hG.lo
  refine am_aload_n dX10_node_0 rfl ?_
  refine am_iload_n dX10_node_1 rfl ?_
  refine am_callVx (i := 0) (j := 0) (as := [.inl (nI i)]) (rest := []) dX10_node_2 lkX10_isNode ml_X10_65 imX10_isNode seX10_isNode rfl rfl (hG.m0 (by decide)) rfl (Nat.le_of_ble_eq_true rfl) rfl (c_isNodeY hG hi I) ?_
  refine am_if_eq (tgt := 18) dX10_node_5 (by decide) (fun h => absurd h (by decide)) (fun _ => ?_)
  refine am_iload_n dX10_node_8 rfl ?_
  refine am_if_lt (tgt := 18) dX10_node_9 (by decide) (fun h => absurd h (by decide)) (fun _ => ?_)
  refine am_iload_n dX10_node_12 rfl ?_
  refine am_bipush (v := nI 6) dX10_node_13 (by decide) ?_
  refine am_icmp_le (tgt := 28) dX10_node_15 (by decide) (fun _ => ?_) (fun h => absurd h (by decide))
  refine am_aload_n dX10_node_28 rfl ?_
  refine am_get (v := .inr (0, 2)) dX10_node_29 fl_10_19 (hG.m0 (by decide)) rfl ?_
  refine am_iload_n dX10_node_32 rfl ?_
  refine am_aald (a := i) dX10_node_33 (hG.m0 (by decide)) rfl rfl (by omega) hG.n31 ?_
  refine am_astore_n dX10_node_34 (by decide) ?_
  refine am_iload_n dX10_node_35 rfl ?_
  refine am_tabIn (off := 74) (tgt := 110) dX10_node_36 (by decide) (by decide) rfl (by decide) ?_
  refine am_aload_n dX10_node_110 rfl ?_
  refine am_get (v := .inr (i, 44)) dX10_node_111 fl_10_284 (hG.mn hi (by decide) (by decide)) rfl ?_
  refine am_callVx (i := i) (j := 44) (as := []) (rest := []) dX10_node_114 lkX3_left ml_X10_293 imX3_left seX3_left rfl rfl (hG.mn hi (by decide) (by decide)) rfl (Nat.le_of_ble_eq_true rfl) rfl (c_Jleft0 hG hi I (by simp [am_up, am_upf, upd, hI, am_fr, am_dk])) ?_
  refine am_iret dX10_node_117 rfl rfl ?_
  exact hQ _
theorem j_node4 {G : am_G} (hG : am_ok G) {d : Nat} {TH : Nat → List (Option am_V) → List am_V → am_I → Prop} {Q : Option Int32 → am_I → Prop} {I : am_I} {i : Nat} (hi : i < G.2.2.2.1)  (hI : I = am_fr G.2.2.2.1) (hQ : ∀ J, Q (some (nI 0)) J) : am_J G (d + 3) mX10_node TH Q 0 [some (.inr (0, 0)), some (.inl (nI i)), some (.inl (nI 4)), none] [] I := by
  have hn4 := hG.hi
  have hn2 := hG.lo
  refine am_aload_n dX10_node_0 rfl ?_
  refine am_iload_n dX10_node_1 rfl ?_
  refine am_callVx (i := 0) (j := 0) (as := [.inl (nI i)]) (rest := []) dX10_node_2 lkX10_isNode ml_X10_65 imX10_isNode seX10_isNode rfl rfl (hG.m0 (by decide)) rfl (Nat.le_of_ble_eq_true rfl) rfl (c_isNodeY hG hi I) ?_
  refine am_if_eq (tgt := 18) dX10_node_5 (by decide) (fun h => absurd h (by decide)) (fun _ => ?_)
  refine am_iload_n dX10_node_8 rfl ?_
  refine am_if_lt (tgt := 18) dX10_node_9 (by decide) (fun h => absurd h (by decide)) (fun _ => ?_)
  refine am_iload_n dX10_node_12 rfl ?_
  refine am_bipush (v := nI 6) dX10_node_13 (by decide) ?_
  refine am_icmp_le (tgt := 28) dX10_node_15 (by decide) (fun _ => ?_) (fun h => absurd h (by decide))
  refine am_aload_n dX10_node_28 rfl ?_
  refine am_get (v := .inr (0, 2)) dX10_node_29 fl_10_19 (hG.m0 (by decide)) rfl ?_
  refine am_iload_n dX10_node_32 rfl ?_
  refine am_aald (a := i) dX10_node_33 (hG.m0 (by decide)) rfl rfl (by omega) hG.n31 ?_
  refine am_astore_n dX10_node_34 (by decide) ?_
  refine am_iload_n dX10_node_35 rfl ?_
  refine am_tabIn (off := 82) (tgt := 118) dX10_node_36 (by decide) (by decide) rfl (by decide) ?_
  refine am_aload_n dX10_node_118 rfl ?_
  refine am_get (v := .inr (i, 44)) dX10_node_119 fl_10_284 (hG.mn hi (by decide) (by decide)) rfl ?_
  refine am_get (v := .inl (I i 44 7)) dX10_node_122 fl_10_296 (hG.mn hi (by decide) (by decide)) rfl ?_
  refine am_top (show I i 44 7 = nI 0 from (by simp [am_up, am_upf, upd, hI, am_fr, am_dk])) ?_
  refine am_iret dX10_node_125 rfl rfl ?_
  exact hQ _
theorem j_node5 {G : am_G} (hG : am_ok G) {d : Nat} {TH : Nat → List (Option am_V) → List am_V → am_I → Prop} {Q : Option Int32 → am_I → Prop} {I : am_I} {i : Nat} (hi : i < G.2.2.2.1)  (hI : I = am_fr G.2.2.2.1) (hQ : ∀ J, Q (some (nI 0)) J) : am_J G (d + 3) mX10_node TH Q 0 [some (.inr (0, 0)), some (.inl (nI i)), some (.inl (nI 5)), none] [] I := by
  have hn4 := hG.hi
  have hn2 := hG.lo
  refine am_aload_n dX10_node_0 rfl ?_
  refine am_iload_n dX10_node_1 rfl ?_
  refine am_callVx (i := 0) (j := 0) (as := [.inl (nI i)]) (rest := []) dX10_node_2 lkX10_isNode ml_X10_65 imX10_isNode seX10_isNode rfl rfl (hG.m0 (by decide)) rfl (Nat.le_of_ble_eq_true rfl) rfl (c_isNodeY hG hi I) ?_
  refine am_if_eq (tgt := 18) dX10_node_5 (by decide) (fun h => absurd h (by decide)) (fun _ => ?_)
  refine am_iload_n dX10_node_8 rfl ?_
  refine am_if_lt (tgt := 18) dX10_node_9 (by decide) (fun h => absurd h (by decide)) (fun _ => ?_)
  refine am_iload_n dX10_node_12 rfl ?_
  refine am_bipush (v := nI 6) dX10_node_13 (by decide) ?_
  refine am_icmp_le (tgt := 28) dX10_node_15 (by decide) (fun _ => ?_) (fun h => absurd h (by decide))
  refine am_aload_n dX10_node_28 rfl ?_
  refine am_get (v := .inr (0, 2)) dX10_node_29 fl_10_19 (hG.m0 (by decide)) rfl ?_
  refine am_iload_n dX10_node_32 rfl ?_
  refine am_aald (a := i) dX10_node_33 (hG.m0 (by decide)) rfl rfl (by omega) hG.n31 ?_
  refine am_astore_n dX10_node_34 (by decide) ?_
  refine am_iload_n dX10_node_35 rfl ?_
  refine am_tabIn (off := 90) (tgt := 126) dX10_node_36 (by decide) (by decide) rfl (by decide) ?_
  refine am_aload_n dX10_node_126 rfl ?_
  refine am_get (v := .inr (i, 41)) dX10_node_127 fl_10_221 (hG.mn hi (by decide) (by decide)) rfl ?_
  refine am_get (v := .inl (I i 41 2)) dX10_node_130 fl_10_299 (hG.mn hi (by decide) (by decide)) rfl ?_
  refine am_top (show I i 41 2 = nI 0 from (by simp [am_up, am_upf, upd, hI, am_fr, am_dk])) ?_
  refine am_iret dX10_node_133 rfl rfl ?_
  exact hQ _
theorem j_node6 {G : am_G} (hG : am_ok G) {d : Nat} {TH : Nat → List (Option am_V) → List am_V → am_I → Prop} {Q : Option Int32 → am_I → Prop} {I : am_I} {i : Nat} (hi : i < G.2.2.2.1)  (hI : I = am_fr G.2.2.2.1) (hQ : ∀ J, Q (some (-1 : Int32)) J) : am_J G (d + 3) mX10_node TH Q 0 [some (.inr (0, 0)), some (.inl (nI i)), some (.inl (nI 6)), none] [] I := by
  have hn4 := hG.hi
  have hn2 := hG.lo
  refine am_aload_n dX10_node_0 rfl ?_
  refine am_iload_n dX10_node_1 rfl ?_
  refine am_callVx (i := 0) (j := 0) (as := [.inl (nI i)]) (rest := []) dX10_node_2 lkX10_isNode ml_X10_65 imX10_isNode seX10_isNode rfl rfl (hG.m0 (by decide)) rfl (Nat.le_of_ble_eq_true rfl) rfl (c_isNodeY hG hi I) ?_
  refine am_if_eq (tgt := 18) dX10_node_5 (by decide) (fun h => absurd h (by decide)) (fun _ => ?_)
  refine am_iload_n dX10_node_8 rfl ?_
  refine am_if_lt (tgt := 18) dX10_node_9 (by decide) (fun h => absurd h (by decide)) (fun _ => ?_)
  refine am_iload_n dX10_node_12 rfl ?_
  refine am_bipush (v := nI 6) dX10_node_13 (by decide) ?_
  refine am_icmp_le (tgt := 28) dX10_node_15 (by decide) (fun _ => ?_) (fun h => absurd h (by decide))
  refine am_aload_n dX10_node_28 rfl ?_
  refine am_get (v := .inr (0, 2)) dX10_node_29 fl_10_19 (hG.m0 (by decide)) rfl ?_
  refine am_iload_n dX10_node_32 rfl ?_
  refine am_aald (a := i) dX10_node_33 (hG.m0 (by decide)) rfl rfl (by omega) hG.n31 ?_
  refine am_astore_n dX10_node_34 (by decide) ?_
  refine am_iload_n dX10_node_35 rfl ?_
  refine am_tabOut (tgt := 134) dX10_node_36 (by decide) (by decide) ?_
  refine am_aload_n dX10_node_134 rfl ?_
  refine am_get (v := .inr (i, 44)) dX10_node_135 fl_10_284 (hG.mn hi (by decide) (by decide)) rfl ?_
  refine am_callVx (i := i) (j := 44) (as := []) (rest := []) dX10_node_138 lkX3_target ml_X10_300 imX3_target seX3_target rfl rfl (hG.mn hi (by decide) (by decide)) rfl (Nat.le_of_ble_eq_true rfl) rfl (c_Jtarget0 hG hi I (by simp [am_up, am_upf, upd, hI, am_fr, am_dk])) ?_
  refine am_iret dX10_node_141 rfl rfl ?_
  exact hQ _
theorem j_about0 {G : am_G} (hG : am_ok G) {d : Nat} {TH : Nat → List (Option am_V) → List am_V → am_I → Prop} {Q : Option Int32 → am_I → Prop} {I : am_I}  (hI : I = am_fr G.2.2.2.1) (hQ : ∀ J, Q (some (nI 0)) J) : am_J G (d + 3) mX10_about TH Q 0 [some (.inr (0, 0)), some (.inl (nI 0))] [] I := by
  have hn4 := hG.hi
  have hn2 := hG.lo
  refine am_iload_n dX10_about_0 rfl ?_
  refine am_tabIn (off := 55) (tgt := 56) dX10_about_1 (by decide) (by decide) rfl (by decide) ?_
  refine am_aload_n dX10_about_56 rfl ?_
  refine am_get (v := .inl (I 0 0 7)) dX10_about_57 fl_10_99 (hG.m0 (by decide)) rfl ?_
  refine am_top (show I 0 0 7 = nI 0 from (by simp [am_up, am_upf, upd, hI, am_fr, am_dk])) ?_
  refine am_iret dX10_about_60 rfl rfl ?_
  exact hQ _
theorem j_about1 {G : am_G} (hG : am_ok G) {d : Nat} {TH : Nat → List (Option am_V) → List am_V → am_I → Prop} {Q : Option Int32 → am_I → Prop} {I : am_I}  (hI : I = am_fr G.2.2.2.1) (hQ : ∀ J, Q (some (nI 0)) J) : am_J G (d + 3) mX10_about TH Q 0 [some (.inr (0, 0)), some (.inl (nI 1))] [] I := by
  have hn4 := hG.hi
  have hn2 := hG.lo
  refine am_iload_n dX10_about_0 rfl ?_
  refine am_tabIn (off := 60) (tgt := 61) dX10_about_1 (by decide) (by decide) rfl (by decide) ?_
  refine am_aload_n dX10_about_61 rfl ?_
  refine am_get (v := .inr (0, 9)) dX10_about_62 fl_10_36 (hG.m0 (by decide)) rfl ?_
  refine am_get (v := .inl (I 0 9 3)) dX10_about_65 fl_10_276 (hG.m0 (by decide)) rfl ?_
  refine am_top (show I 0 9 3 = nI 0 from (by simp [am_up, am_upf, upd, hI, am_fr, am_dk])) ?_
  refine am_iret dX10_about_68 rfl rfl ?_
  exact hQ _
theorem j_about2 {G : am_G} (hG : am_ok G) {d : Nat} {TH : Nat → List (Option am_V) → List am_V → am_I → Prop} {Q : Option Int32 → am_I → Prop} {I : am_I}  (hI : I = am_fr G.2.2.2.1) (hQ : ∀ J, Q (some (nI 0)) J) : am_J G (d + 3) mX10_about TH Q 0 [some (.inr (0, 0)), some (.inl (nI 2))] [] I := by
  have hn4 := hG.hi
  have hn2 := hG.lo
  refine am_iload_n dX10_about_0 rfl ?_
  refine am_tabIn (off := 68) (tgt := 69) dX10_about_1 (by decide) (by decide) rfl (by decide) ?_
  refine am_aload_n dX10_about_69 rfl ?_
  refine am_get (v := .inr (0, 9)) dX10_about_70 fl_10_36 (hG.m0 (by decide)) rfl ?_
  refine am_get (v := .inl (I 0 9 4)) dX10_about_73 fl_10_303 (hG.m0 (by decide)) rfl ?_
  refine am_top (show I 0 9 4 = nI 0 from (by simp [am_up, am_upf, upd, hI, am_fr, am_dk])) ?_
  refine am_iret dX10_about_76 rfl rfl ?_
  exact hQ _
theorem j_about3 {G : am_G} (hG : am_ok G) {d : Nat} {TH : Nat → List (Option am_V) → List am_V → am_I → Prop} {Q : Option Int32 → am_I → Prop} {I : am_I}  (hI : I = am_fr G.2.2.2.1) (hQ : ∀ J, Q (some (nI 0)) J) : am_J G (d + 3) mX10_about TH Q 0 [some (.inr (0, 0)), some (.inl (nI 3))] [] I := by
  have hn4 := hG.hi
  have hn2 := hG.lo
  refine am_iload_n dX10_about_0 rfl ?_
  refine am_tabIn (off := 76) (tgt := 77) dX10_about_1 (by decide) (by decide) rfl (by decide) ?_
  refine am_aload_n dX10_about_77 rfl ?_
  refine am_get (v := .inl (I 0 0 8)) dX10_about_78 fl_10_306 (hG.m0 (by decide)) rfl ?_
  refine am_top (show I 0 0 8 = nI 0 from (by simp [am_up, am_upf, upd, hI, am_fr, am_dk])) ?_
  refine am_iret dX10_about_81 rfl rfl ?_
  exact hQ _
theorem j_about4 {G : am_G} (hG : am_ok G) {d : Nat} {TH : Nat → List (Option am_V) → List am_V → am_I → Prop} {Q : Option Int32 → am_I → Prop} {I : am_I}  (hI : I = am_fr G.2.2.2.1) (hQ : ∀ J, Q (some (nI 0)) J) : am_J G (d + 3) mX10_about TH Q 0 [some (.inr (0, 0)), some (.inl (nI 4))] [] I := by
  have hn4 := hG.hi
  have hn2 := hG.lo
  refine am_iload_n dX10_about_0 rfl ?_
  refine am_tabIn (off := 81) (tgt := 82) dX10_about_1 (by decide) (by decide) rfl (by decide) ?_
  refine am_aload_n dX10_about_82 rfl ?_
  refine am_get (v := .inr (0, 13)) dX10_about_83 fl_10_43 (hG.m0 (by decide)) rfl ?_
  refine am_get (v := .inl (I 0 13 1)) dX10_about_86 fl_10_121 (hG.m0 (by decide)) rfl ?_
  refine am_top (show I 0 13 1 = nI 0 from (by simp [am_up, am_upf, upd, hI, am_fr, am_dk])) ?_
  refine am_iret dX10_about_89 rfl rfl ?_
  exact hQ _
theorem j_about5 {G : am_G} (hG : am_ok G) {d : Nat} {TH : Nat → List (Option am_V) → List am_V → am_I → Prop} {Q : Option Int32 → am_I → Prop} {I : am_I}  (hI : I = am_fr G.2.2.2.1) (hQ : ∀ J, Q (some (nI 0)) J) : am_J G (d + 3) mX10_about TH Q 0 [some (.inr (0, 0)), some (.inl (nI 5))] [] I := by
  have hn4 := hG.hi
  have hn2 := hG.lo
  refine am_iload_n dX10_about_0 rfl ?_
  refine am_tabIn (off := 89) (tgt := 90) dX10_about_1 (by decide) (by decide) rfl (by decide) ?_
  refine am_aload_n dX10_about_90 rfl ?_
  refine am_get (v := .inl (I 0 0 9)) dX10_about_91 fl_10_149 (hG.m0 (by decide)) rfl ?_
  refine am_top (show I 0 0 9 = nI 0 from (by simp [am_up, am_upf, upd, hI, am_fr, am_dk])) ?_
  refine am_iret dX10_about_94 rfl rfl ?_
  exact hQ _
theorem j_about6 {G : am_G} (hG : am_ok G) {d : Nat} {TH : Nat → List (Option am_V) → List am_V → am_I → Prop} {Q : Option Int32 → am_I → Prop} {I : am_I}  (hI : I = am_fr G.2.2.2.1) (hQ : ∀ J, Q (some (nI G.2.2.2.1)) J) : am_J G (d + 3) mX10_about TH Q 0 [some (.inr (0, 0)), some (.inl (nI 6))] [] I := by
  have hn4 := hG.hi
  have hn2 := hG.lo
  refine am_iload_n dX10_about_0 rfl ?_
  refine am_tabIn (off := 94) (tgt := 95) dX10_about_1 (by decide) (by decide) rfl (by decide) ?_
  refine am_aload_n dX10_about_95 rfl ?_
  refine am_get (v := .inr (0, 2)) dX10_about_96 fl_10_19 (hG.m0 (by decide)) rfl ?_
  refine am_alen3 dX10_about_99 (hG.m0 (by decide)) rfl ?_
  refine am_iret dX10_about_100 rfl rfl ?_
  exact hQ _
theorem j_aboutA {G : am_G} (hG : am_ok G) {d : Nat} {TH : Nat → List (Option am_V) → List am_V → am_I → Prop} {Q : Option Int32 → am_I → Prop} {I : am_I} (w : Int32) (hw : w.toInt < 0 ∨ 9 < w.toInt) (hT : ∀ lo, TH 125 lo [] I) : am_J G d mX10_about TH Q 0 [some (.inr (0, 0)), some (.inl w)] [] I := by
  refine am_iload_n dX10_about_0 rfl ?_
  refine am_tabOut (tgt := 125) dX10_about_1 hw (by decide) ?_
  exact am_exit (hT _)
