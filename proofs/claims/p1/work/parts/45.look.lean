theorem am_dk0 {n k : Nat} (h0 : k ≠ 0) (h1 : k ≠ 1) (h2 : k ≠ 2048) (h3 : k ≠ 2064) (h4 : k ≠ 2065) : am_dk n k = nI 0 := by
  simp only [am_dk, if_neg h0, if_neg h1, if_neg h2, if_neg h3, if_neg h4]
def am_idn (f : Nat → Int32) (a : Nat) : Nat → Int32 := fun k => if k < a then nI k else f k
theorem am_idn0 (f : Nat → Int32) : am_idn f 0 = f := by funext k; simp [am_idn]
theorem am_idns (f : Nat → Int32) (a : Nat) : upd (am_idn f a) a (nI a) = am_idn f (a + 1) := by
  funext k
  simp only [am_idn, upd]
  by_cases h : k = a
  · subst h; simp
  · rw [if_neg h]
    by_cases h2 : k < a
    · rw [if_pos h2, if_pos (by omega)]
    · rw [if_neg h2, if_neg (by omega)]
theorem c_at {G : am_G} (hG : am_ok G) {d : Nat} {b : Nat} (hb : b < 640) {k : Nat} (hk : k < 16) (I : am_I) (hS : ∀ b, b < 640 → I 0 22 b = nI b)  : am_C G (d + 1) mX2_at [.inr (0, 21), .inl (nI b), .inl (nI k)] I (am_E (some (I 0 1 (b * 16 + k))) I) := by
  refine am_of (by decide +kernel) hG.nd (Nat.le_of_ble_eq_true rfl) ?_
  refine am_iload_n dX2_at_0 rfl ?_
  refine am_iload_n dX2_at_1 rfl ?_
  refine am_callSNx (as := [.inl (nI b), .inl (nI k)]) (rest := []) dX2_at_2 lkX10_isWord nl_X2_77 isX10_isWord rfl (Nat.le_of_ble_eq_true rfl) rfl (c_isWord hG.nd (nI b) (nI k) I) ?_
  refine am_if_eq (tgt := 27) dX2_at_5 (by decide) (fun h => absurd h ((am_bn _).mpr (decide_eq_true (by rw [nI_toInt (by omega), nI_toInt (by omega)]; omega)))) (fun _ => ?_)
  refine am_aload_n dX2_at_8 rfl ?_
  refine am_get (v := .inr (0, 1)) dX2_at_9 fl_2_28 (hG.m0 (by decide)) rfl ?_
  refine am_aload_n dX2_at_12 rfl ?_
  refine am_get (v := .inr (0, 22)) dX2_at_13 fl_2_9 (hG.m0 (by decide)) rfl ?_
  refine am_iload_n dX2_at_16 rfl ?_
  refine am_iald (a := b) dX2_at_17 (hG.m0 (by decide)) rfl rfl (show b < 640 from (by omega)) (show 640 < 2 ^ 31 by decide) ?_
  refine am_top (hS b hb) ?_
  refine am_bipush (v := nI 16) dX2_at_18 (by decide) ?_
  refine am_imul dX2_at_20 ?_
  refine am_top (pk_mul _ _) ?_
  refine am_iload_n dX2_at_21 rfl ?_
  refine am_iadd dX2_at_22 ?_
  refine am_top (nI_add _ _) ?_
  refine am_iald (a := b * 16 + k) dX2_at_23 (hG.m0 (by decide)) rfl rfl (show b * 16 + k < 10240 from (by omega)) (show 10240 < 2 ^ 31 by decide) ?_
  refine am_goto (tgt := 28) dX2_at_24 (by decide) ?_
  refine am_iret dX2_at_28 rfl rfl ?_
  exact ⟨rfl, rfl⟩
theorem c_kindOf {G : am_G} (hG : am_ok G) {d : Nat} {k : Nat} (hk : k < 128) (I : am_I) (hS : ∀ b, b < 640 → I 0 22 b = nI b)  : am_C G (d + 2) mX2_kindOf [.inr (0, 21), .inl (nI k)] I (am_E (some (I 0 1 ((129 + 64 * (k / 16) + k % 16) * 16 + 0))) I) := by
  refine am_of (by decide +kernel) hG.nd (Nat.le_of_ble_eq_true rfl) ?_
  refine am_aload_n dX2_kindOf_0 rfl ?_
  refine am_iload_n dX2_kindOf_1 rfl ?_
  refine am_callSNx (as := [.inl (nI k)]) (rest := [.inr (0, 21)]) dX2_kindOf_2 lkX10_inodeBlock nl_X2_81 isX10_inodeBlock rfl (Nat.le_of_ble_eq_true rfl) rfl (c_inodeBlock hG.nd (k := k) (by omega) I) ?_
  refine am_iconst (v := nI 0) dX2_kindOf_5 (by decide) ?_
  refine am_callVx (i := 0) (j := 21) (as := [.inl (nI (129 + 64 * (k / 16) + k % 16)), .inl (nI 0)]) (rest := []) dX2_kindOf_6 lkX2_at ml_X2_84 imX2_at seX2_at rfl rfl (hG.m0 (by decide)) rfl (Nat.le_of_ble_eq_true rfl) rfl (c_at hG (by omega) (by omega) I hS) ?_
  refine am_iret dX2_kindOf_9 rfl rfl ?_
  exact ⟨rfl, rfl⟩
theorem c_isNamedTwice0 {G : am_G} (hG : am_ok G) {d : Nat} {I : am_I} (hN : ∀ k, k < 128 → I 0 23 k = nI 0)  : am_C G (d + 2) mX2_isNamedTwice [.inr (0, 21)] I (am_E (some (nI 0)) I) := by
  have hn4 := hG.hi
  have hn2 := hG.lo
  have L : ∀ (m a : Nat), a + m = 127 → am_J G (d + 2) mX2_isNamedTwice am_no (am_E (some (nI 0)) I) 2 [some (.inr (0, 21)), some (.inl (nI (a + 1)))] [] (I) := by
    intro m
    induction m with
    | zero =>
      intro a ha
      obtain rfl : a = 127 := by omega
      refine am_iload_n dX2_isNamedTwice_2 rfl ?_
      refine am_sipush (v := nI 128) dX2_isNamedTwice_3 (by decide) ?_
      refine am_icmp_ge (tgt := 36) dX2_isNamedTwice_6 (by decide) (fun _ => ?_) (fun h => absurd ((nI_leI (a := 128) (b := 127 + 1) (by omega) (by omega)).mpr (by omega)) h)
      refine am_aload_n dX2_isNamedTwice_36 rfl ?_
      refine am_get (v := .inr (0, 23)) dX2_isNamedTwice_37 fl_2_15 (hG.m0 (by decide)) rfl ?_
      refine am_iconst (v := nI 0) dX2_isNamedTwice_40 (by decide) ?_
      refine am_iald (a := 0) dX2_isNamedTwice_41 (hG.m0 (by decide)) rfl rfl (show 0 < 128 from (by omega)) (show 128 < 2 ^ 31 by decide) ?_
      refine am_top (hN _ (by omega)) ?_
      refine am_if_le (tgt := 49) dX2_isNamedTwice_42 (by decide) (fun _ => ?_) (fun h => absurd h (by decide))
      refine am_iconst (v := nI 0) dX2_isNamedTwice_49 (by decide) ?_
      refine am_iret dX2_isNamedTwice_50 rfl (am_nz (by decide)).1 ?_
      exact ⟨rfl, rfl⟩
    | succ m ih =>
      intro a ha
      refine am_iload_n dX2_isNamedTwice_2 rfl ?_
      refine am_sipush (v := nI 128) dX2_isNamedTwice_3 (by decide) ?_
      refine am_icmp_ge (tgt := 36) dX2_isNamedTwice_6 (by decide) (fun h => absurd ((nI_leI (a := 128) (b := a + 1) (by omega) (by omega)).mp h) (by omega)) (fun _ => ?_)
      refine am_aload_n dX2_isNamedTwice_9 rfl ?_
      refine am_get (v := .inr (0, 23)) dX2_isNamedTwice_10 fl_2_15 (hG.m0 (by decide)) rfl ?_
      refine am_iload_n dX2_isNamedTwice_13 rfl ?_
      refine am_iald (a := a + 1) dX2_isNamedTwice_14 (hG.m0 (by decide)) rfl rfl (show a + 1 < 128 from (by omega)) (show 128 < 2 ^ 31 by decide) ?_
      refine am_top (hN _ (by omega)) ?_
      refine am_iconst (v := nI 1) dX2_isNamedTwice_15 (by decide) ?_
      refine am_icmp_le (tgt := 30) dX2_isNamedTwice_16 (by decide) (fun _ => ?_) (fun h => absurd h (by decide))
      refine am_iinc (v := nI (a + 1 + 1)) dX2_isNamedTwice_30 rfl (nI_add _ _) ?_
      refine am_goto (tgt := 2) dX2_isNamedTwice_33 (by decide) ?_
      exact ih (a + 1) (by omega)
  refine am_of (by decide +kernel) hG.nd (Nat.le_of_ble_eq_true rfl) ?_
  refine am_iconst (v := nI 1) dX2_isNamedTwice_0 (by decide) ?_
  refine am_istore_n dX2_isNamedTwice_1 (by decide) ?_
  exact L 127 0 (by omega)
theorem c_isLeftAlone0 {G : am_G} (hG : am_ok G) {d : Nat} {I : am_I} (hR : ∀ k, 1 ≤ k → k < 128 → I 0 24 k = nI 0) (hD : ∀ k, I 0 1 k = am_dk G.2.2.2.1 k) (hS : ∀ b, b < 640 → I 0 22 b = nI b)  : am_C G (d + 3) mX2_isLeftAlone [.inr (0, 21)] I (am_E (some (nI 0)) I) := by
  have hn4 := hG.hi
  have hn2 := hG.lo
  have L : ∀ (m a : Nat), a + m = 127 → am_J G (d + 3) mX2_isLeftAlone am_no (am_E (some (nI 0)) I) 2 [some (.inr (0, 21)), some (.inl (nI (a + 1)))] [] (I) := by
    intro m
    induction m with
    | zero =>
      intro a ha
      obtain rfl : a = 127 := by omega
      refine am_iload_n dX2_isLeftAlone_2 rfl ?_
      refine am_sipush (v := nI 128) dX2_isLeftAlone_3 (by decide) ?_
      refine am_icmp_ge (tgt := 34) dX2_isLeftAlone_6 (by decide) (fun _ => ?_) (fun h => absurd ((nI_leI (a := 128) (b := 127 + 1) (by omega) (by omega)).mpr (by omega)) h)
      refine am_iconst (v := nI 0) dX2_isLeftAlone_34 (by decide) ?_
      refine am_iret dX2_isLeftAlone_35 rfl (am_nz (by decide)).1 ?_
      exact ⟨rfl, rfl⟩
    | succ m ih =>
      intro a ha
      refine am_iload_n dX2_isLeftAlone_2 rfl ?_
      refine am_sipush (v := nI 128) dX2_isLeftAlone_3 (by decide) ?_
      refine am_icmp_ge (tgt := 34) dX2_isLeftAlone_6 (by decide) (fun h => absurd ((nI_leI (a := 128) (b := a + 1) (by omega) (by omega)).mp h) (by omega)) (fun _ => ?_)
      refine am_aload_n dX2_isLeftAlone_9 rfl ?_
      refine am_get (v := .inr (0, 24)) dX2_isLeftAlone_10 fl_2_18 (hG.m0 (by decide)) rfl ?_
      refine am_iload_n dX2_isLeftAlone_13 rfl ?_
      refine am_zald (a := a + 1) dX2_isLeftAlone_14 (hG.m0 (by decide)) rfl rfl (show a + 1 < 128 from (by omega)) (show 128 < 2 ^ 31 by decide) ?_
      refine am_top (hR _ (by omega) (by omega)) ?_
      refine am_if_ne (tgt := 28) dX2_isLeftAlone_15 (by decide) (fun h => absurd h (by decide)) (fun _ => ?_)
      refine am_aload_n dX2_isLeftAlone_18 rfl ?_
      refine am_iload_n dX2_isLeftAlone_19 rfl ?_
      refine am_callVx (i := 0) (j := 21) (as := [.inl (nI (a + 1))]) (rest := []) dX2_isLeftAlone_20 lkX2_kindOf ml_X2_104 imX2_kindOf seX2_kindOf rfl rfl (hG.m0 (by decide)) rfl (Nat.le_of_ble_eq_true rfl) rfl (c_kindOf hG (by omega) I hS) ?_
      refine am_top (show I 0 1 ((129 + 64 * ((a + 1) / 16) + (a + 1) % 16) * 16 + 0) = nI 0 from (hD _).trans (am_dk0 (by omega) (by omega) (by omega) (by omega) (by omega))) ?_
      refine am_if_eq (tgt := 28) dX2_isLeftAlone_23 (by decide) (fun _ => ?_) (fun h => absurd h (by decide))
      refine am_iinc (v := nI (a + 1 + 1)) dX2_isLeftAlone_28 rfl (nI_add _ _) ?_
      refine am_goto (tgt := 2) dX2_isLeftAlone_31 (by decide) ?_
      exact ih (a + 1) (by omega)
  refine am_of (by decide +kernel) hG.nd (Nat.le_of_ble_eq_true rfl) ?_
  refine am_iconst (v := nI 1) dX2_isLeftAlone_0 (by decide) ?_
  refine am_istore_n dX2_isLeftAlone_1 (by decide) ?_
  exact L 127 0 (by omega)
theorem c_hasWrongLinks0 {G : am_G} (hG : am_ok G) {d : Nat} {I : am_I} (hN : ∀ k, k < 128 → I 0 23 k = nI 0) (hD : ∀ k, I 0 1 k = am_dk G.2.2.2.1 k) (hS : ∀ b, b < 640 → I 0 22 b = nI b)  : am_C G (d + 2) mX2_hasWrongLinks [.inr (0, 21)] I (am_E (some (nI 0)) I) := by
  have hn4 := hG.hi
  have hn2 := hG.lo
  have L : ∀ (m a : Nat), a + m = 128 → am_J G (d + 2) mX2_hasWrongLinks am_no (am_E (some (nI 0)) I) 2 [some (.inr (0, 21)), some (.inl (nI a))] [] (I) := by
    intro m
    induction m with
    | zero =>
      intro a ha
      obtain rfl : a = 128 := by omega
      refine am_iload_n dX2_hasWrongLinks_2 rfl ?_
      refine am_sipush (v := nI 128) dX2_hasWrongLinks_3 (by decide) ?_
      refine am_icmp_ge (tgt := 43) dX2_hasWrongLinks_6 (by decide) (fun _ => ?_) (fun h => absurd ((nI_leI (a := 128) (b := 128) (by omega) (by omega)).mpr (by omega)) h)
      refine am_iconst (v := nI 0) dX2_hasWrongLinks_43 (by decide) ?_
      refine am_iret dX2_hasWrongLinks_44 rfl (am_nz (by decide)).1 ?_
      exact ⟨rfl, rfl⟩
    | succ m ih =>
      intro a ha
      refine am_iload_n dX2_hasWrongLinks_2 rfl ?_
      refine am_sipush (v := nI 128) dX2_hasWrongLinks_3 (by decide) ?_
      refine am_icmp_ge (tgt := 43) dX2_hasWrongLinks_6 (by decide) (fun h => absurd ((nI_leI (a := 128) (b := a) (by omega) (by omega)).mp h) (by omega)) (fun _ => ?_)
      refine am_aload_n dX2_hasWrongLinks_9 rfl ?_
      refine am_iload_n dX2_hasWrongLinks_10 rfl ?_
      refine am_callSNx (as := [.inl (nI a)]) (rest := [.inr (0, 21)]) dX2_hasWrongLinks_11 lkX10_inodeBlock nl_X2_81 isX10_inodeBlock rfl (Nat.le_of_ble_eq_true rfl) rfl (c_inodeBlock hG.nd (k := a) (by omega) I) ?_
      refine am_iconst (v := nI 1) dX2_hasWrongLinks_14 (by decide) ?_
      refine am_callVx (i := 0) (j := 21) (as := [.inl (nI (129 + 64 * (a / 16) + a % 16)), .inl (nI 1)]) (rest := []) dX2_hasWrongLinks_15 lkX2_at ml_X2_84 imX2_at seX2_at rfl rfl (hG.m0 (by decide)) rfl (Nat.le_of_ble_eq_true rfl) rfl (c_at hG (by omega) (by omega) I hS) ?_
      refine am_iload_n dX2_hasWrongLinks_18 rfl ?_
      refine am_if_ne (tgt := 26) dX2_hasWrongLinks_19 (by decide) (fun c_19 => ?_) (fun c_19 => ?_)
      · skip
        have c_19 := mt (nI_eq (a := a) (b := 0) (by omega) (by omega)).mpr c_19
        refine am_aload_n dX2_hasWrongLinks_26 rfl ?_
        refine am_get (v := .inr (0, 23)) dX2_hasWrongLinks_27 fl_2_15 (hG.m0 (by decide)) rfl ?_
        refine am_iload_n dX2_hasWrongLinks_30 rfl ?_
        refine am_iald (a := a) dX2_hasWrongLinks_31 (hG.m0 (by decide)) rfl rfl (show a < 128 from (by omega)) (show 128 < 2 ^ 31 by decide) ?_
        refine am_top (hN _ (by omega)) ?_
        refine am_icmp_eq (tgt := 37) dX2_hasWrongLinks_32 (by decide) (fun _ => ?_) (fun h => absurd h (fun z => z (by first | rw [hD, am_dk0 (by omega) (by omega) (by omega) (by omega) (by omega)] | (rw [hD, show (129 + 64 * (a / 16) + a % 16) * 16 + 1 = 2065 by omega]; rfl))))
        refine am_iinc (v := nI (a + 1)) dX2_hasWrongLinks_37 rfl (nI_add _ _) ?_
        refine am_goto (tgt := 2) dX2_hasWrongLinks_40 (by decide) ?_
        exact ih (a + 1) (by omega)
      · skip
        have c_19 := (nI_eq (a := a) (b := 0) (by omega) (by omega)).mp c_19
        refine am_iconst (v := nI 1) dX2_hasWrongLinks_22 (by decide) ?_
        refine am_goto (tgt := 32) dX2_hasWrongLinks_23 (by decide) ?_
        refine am_icmp_eq (tgt := 37) dX2_hasWrongLinks_32 (by decide) (fun _ => ?_) (fun h => absurd h (fun z => z (by first | rw [hD, am_dk0 (by omega) (by omega) (by omega) (by omega) (by omega)] | (rw [hD, show (129 + 64 * (a / 16) + a % 16) * 16 + 1 = 2065 by omega]; rfl))))
        refine am_iinc (v := nI (a + 1)) dX2_hasWrongLinks_37 rfl (nI_add _ _) ?_
        refine am_goto (tgt := 2) dX2_hasWrongLinks_40 (by decide) ?_
        exact ih (a + 1) (by omega)
  refine am_of (by decide +kernel) hG.nd (Nat.le_of_ble_eq_true rfl) ?_
  refine am_iconst (v := nI 0) dX2_hasWrongLinks_0 (by decide) ?_
  refine am_istore_n dX2_hasWrongLinks_1 (by decide) ?_
  exact L 128 0 (by omega)
theorem c_ownPlaces0 {G : am_G} (hG : am_ok G) {d : Nat} {I : am_I} (hD : ∀ k, I 0 1 k = am_dk G.2.2.2.1 k) (hS : ∀ b, b < 640 → I 0 22 b = nI b)  : am_C G (d + 2) mX2_ownPlaces [.inr (0, 21), .inl (nI 129), .inl (nI 3), .inl (nI 12)] I (am_E (some (nI 1)) I) := by
  have hn4 := hG.hi
  have hn2 := hG.lo
  refine am_of (by decide +kernel) hG.nd (Nat.le_of_ble_eq_true rfl) ?_
  refine am_iload_n dX2_ownPlaces_0 rfl ?_
  refine am_istore dX2_ownPlaces_1 (by decide) ?_
  refine am_iload dX2_ownPlaces_3 rfl ?_
  refine am_iload_n dX2_ownPlaces_5 rfl ?_
  refine am_icmp_ge (tgt := 102) dX2_ownPlaces_6 (by decide) (fun h => absurd h (by decide)) (fun _ => ?_)
  refine am_aload_n dX2_ownPlaces_9 rfl ?_
  refine am_iload_n dX2_ownPlaces_10 rfl ?_
  refine am_iload dX2_ownPlaces_11 rfl ?_
  refine am_callVx (i := 0) (j := 21) (as := [.inl (nI 129), .inl (nI 3)]) (rest := []) dX2_ownPlaces_13 lkX2_at ml_X2_84 imX2_at seX2_at rfl rfl (hG.m0 (by decide)) rfl (Nat.le_of_ble_eq_true rfl) rfl (c_at hG (by omega) (by omega) I hS) ?_
  refine am_top (show I 0 1 (129 * 16 + 3) = nI 0 from (hD (129 * 16 + 3)).trans rfl) ?_
  refine am_istore dX2_ownPlaces_16 (by decide) ?_
  refine am_iload dX2_ownPlaces_18 rfl ?_
  refine am_if_ne (tgt := 26) dX2_ownPlaces_20 (by decide) (fun h => absurd h (by decide)) (fun _ => ?_)
  refine am_goto (tgt := 96) dX2_ownPlaces_23 (by decide) ?_
  refine am_iinc (v := nI 4) dX2_ownPlaces_96 rfl (by decide) ?_
  refine am_goto (tgt := 3) dX2_ownPlaces_99 (by decide) ?_
  refine am_iload dX2_ownPlaces_3 rfl ?_
  refine am_iload_n dX2_ownPlaces_5 rfl ?_
  refine am_icmp_ge (tgt := 102) dX2_ownPlaces_6 (by decide) (fun h => absurd h (by decide)) (fun _ => ?_)
  refine am_aload_n dX2_ownPlaces_9 rfl ?_
  refine am_iload_n dX2_ownPlaces_10 rfl ?_
  refine am_iload dX2_ownPlaces_11 rfl ?_
  refine am_callVx (i := 0) (j := 21) (as := [.inl (nI 129), .inl (nI 4)]) (rest := []) dX2_ownPlaces_13 lkX2_at ml_X2_84 imX2_at seX2_at rfl rfl (hG.m0 (by decide)) rfl (Nat.le_of_ble_eq_true rfl) rfl (c_at hG (by omega) (by omega) I hS) ?_
  refine am_top (show I 0 1 (129 * 16 + 4) = nI 0 from (hD (129 * 16 + 4)).trans rfl) ?_
  refine am_istore dX2_ownPlaces_16 (by decide) ?_
  refine am_iload dX2_ownPlaces_18 rfl ?_
  refine am_if_ne (tgt := 26) dX2_ownPlaces_20 (by decide) (fun h => absurd h (by decide)) (fun _ => ?_)
  refine am_goto (tgt := 96) dX2_ownPlaces_23 (by decide) ?_
  refine am_iinc (v := nI 5) dX2_ownPlaces_96 rfl (by decide) ?_
  refine am_goto (tgt := 3) dX2_ownPlaces_99 (by decide) ?_
  refine am_iload dX2_ownPlaces_3 rfl ?_
  refine am_iload_n dX2_ownPlaces_5 rfl ?_
  refine am_icmp_ge (tgt := 102) dX2_ownPlaces_6 (by decide) (fun h => absurd h (by decide)) (fun _ => ?_)
  refine am_aload_n dX2_ownPlaces_9 rfl ?_
  refine am_iload_n dX2_ownPlaces_10 rfl ?_
  refine am_iload dX2_ownPlaces_11 rfl ?_
  refine am_callVx (i := 0) (j := 21) (as := [.inl (nI 129), .inl (nI 5)]) (rest := []) dX2_ownPlaces_13 lkX2_at ml_X2_84 imX2_at seX2_at rfl rfl (hG.m0 (by decide)) rfl (Nat.le_of_ble_eq_true rfl) rfl (c_at hG (by omega) (by omega) I hS) ?_
  refine am_top (show I 0 1 (129 * 16 + 5) = nI 0 from (hD (129 * 16 + 5)).trans rfl) ?_
  refine am_istore dX2_ownPlaces_16 (by decide) ?_
  refine am_iload dX2_ownPlaces_18 rfl ?_
  refine am_if_ne (tgt := 26) dX2_ownPlaces_20 (by decide) (fun h => absurd h (by decide)) (fun _ => ?_)
  refine am_goto (tgt := 96) dX2_ownPlaces_23 (by decide) ?_
  refine am_iinc (v := nI 6) dX2_ownPlaces_96 rfl (by decide) ?_
  refine am_goto (tgt := 3) dX2_ownPlaces_99 (by decide) ?_
  refine am_iload dX2_ownPlaces_3 rfl ?_
  refine am_iload_n dX2_ownPlaces_5 rfl ?_
  refine am_icmp_ge (tgt := 102) dX2_ownPlaces_6 (by decide) (fun h => absurd h (by decide)) (fun _ => ?_)
  refine am_aload_n dX2_ownPlaces_9 rfl ?_
  refine am_iload_n dX2_ownPlaces_10 rfl ?_
  refine am_iload dX2_ownPlaces_11 rfl ?_
  refine am_callVx (i := 0) (j := 21) (as := [.inl (nI 129), .inl (nI 6)]) (rest := []) dX2_ownPlaces_13 lkX2_at ml_X2_84 imX2_at seX2_at rfl rfl (hG.m0 (by decide)) rfl (Nat.le_of_ble_eq_true rfl) rfl (c_at hG (by omega) (by omega) I hS) ?_
  refine am_top (show I 0 1 (129 * 16 + 6) = nI 0 from (hD (129 * 16 + 6)).trans rfl) ?_
  refine am_istore dX2_ownPlaces_16 (by decide) ?_
  refine am_iload dX2_ownPlaces_18 rfl ?_
  refine am_if_ne (tgt := 26) dX2_ownPlaces_20 (by decide) (fun h => absurd h (by decide)) (fun _ => ?_)
  refine am_goto (tgt := 96) dX2_ownPlaces_23 (by decide) ?_
  refine am_iinc (v := nI 7) dX2_ownPlaces_96 rfl (by decide) ?_
  refine am_goto (tgt := 3) dX2_ownPlaces_99 (by decide) ?_
  refine am_iload dX2_ownPlaces_3 rfl ?_
  refine am_iload_n dX2_ownPlaces_5 rfl ?_
  refine am_icmp_ge (tgt := 102) dX2_ownPlaces_6 (by decide) (fun h => absurd h (by decide)) (fun _ => ?_)
  refine am_aload_n dX2_ownPlaces_9 rfl ?_
  refine am_iload_n dX2_ownPlaces_10 rfl ?_
  refine am_iload dX2_ownPlaces_11 rfl ?_
  refine am_callVx (i := 0) (j := 21) (as := [.inl (nI 129), .inl (nI 7)]) (rest := []) dX2_ownPlaces_13 lkX2_at ml_X2_84 imX2_at seX2_at rfl rfl (hG.m0 (by decide)) rfl (Nat.le_of_ble_eq_true rfl) rfl (c_at hG (by omega) (by omega) I hS) ?_
  refine am_top (show I 0 1 (129 * 16 + 7) = nI 0 from (hD (129 * 16 + 7)).trans rfl) ?_
  refine am_istore dX2_ownPlaces_16 (by decide) ?_
  refine am_iload dX2_ownPlaces_18 rfl ?_
  refine am_if_ne (tgt := 26) dX2_ownPlaces_20 (by decide) (fun h => absurd h (by decide)) (fun _ => ?_)
  refine am_goto (tgt := 96) dX2_ownPlaces_23 (by decide) ?_
  refine am_iinc (v := nI 8) dX2_ownPlaces_96 rfl (by decide) ?_
  refine am_goto (tgt := 3) dX2_ownPlaces_99 (by decide) ?_
  refine am_iload dX2_ownPlaces_3 rfl ?_
  refine am_iload_n dX2_ownPlaces_5 rfl ?_
  refine am_icmp_ge (tgt := 102) dX2_ownPlaces_6 (by decide) (fun h => absurd h (by decide)) (fun _ => ?_)
  refine am_aload_n dX2_ownPlaces_9 rfl ?_
  refine am_iload_n dX2_ownPlaces_10 rfl ?_
  refine am_iload dX2_ownPlaces_11 rfl ?_
  refine am_callVx (i := 0) (j := 21) (as := [.inl (nI 129), .inl (nI 8)]) (rest := []) dX2_ownPlaces_13 lkX2_at ml_X2_84 imX2_at seX2_at rfl rfl (hG.m0 (by decide)) rfl (Nat.le_of_ble_eq_true rfl) rfl (c_at hG (by omega) (by omega) I hS) ?_
  refine am_top (show I 0 1 (129 * 16 + 8) = nI 0 from (hD (129 * 16 + 8)).trans rfl) ?_
  refine am_istore dX2_ownPlaces_16 (by decide) ?_
  refine am_iload dX2_ownPlaces_18 rfl ?_
  refine am_if_ne (tgt := 26) dX2_ownPlaces_20 (by decide) (fun h => absurd h (by decide)) (fun _ => ?_)
  refine am_goto (tgt := 96) dX2_ownPlaces_23 (by decide) ?_
  refine am_iinc (v := nI 9) dX2_ownPlaces_96 rfl (by decide) ?_
  refine am_goto (tgt := 3) dX2_ownPlaces_99 (by decide) ?_
  refine am_iload dX2_ownPlaces_3 rfl ?_
  refine am_iload_n dX2_ownPlaces_5 rfl ?_
  refine am_icmp_ge (tgt := 102) dX2_ownPlaces_6 (by decide) (fun h => absurd h (by decide)) (fun _ => ?_)
  refine am_aload_n dX2_ownPlaces_9 rfl ?_
  refine am_iload_n dX2_ownPlaces_10 rfl ?_
  refine am_iload dX2_ownPlaces_11 rfl ?_
  refine am_callVx (i := 0) (j := 21) (as := [.inl (nI 129), .inl (nI 9)]) (rest := []) dX2_ownPlaces_13 lkX2_at ml_X2_84 imX2_at seX2_at rfl rfl (hG.m0 (by decide)) rfl (Nat.le_of_ble_eq_true rfl) rfl (c_at hG (by omega) (by omega) I hS) ?_
  refine am_top (show I 0 1 (129 * 16 + 9) = nI 0 from (hD (129 * 16 + 9)).trans rfl) ?_
  refine am_istore dX2_ownPlaces_16 (by decide) ?_
  refine am_iload dX2_ownPlaces_18 rfl ?_
  refine am_if_ne (tgt := 26) dX2_ownPlaces_20 (by decide) (fun h => absurd h (by decide)) (fun _ => ?_)
  refine am_goto (tgt := 96) dX2_ownPlaces_23 (by decide) ?_
  refine am_iinc (v := nI 10) dX2_ownPlaces_96 rfl (by decide) ?_
  refine am_goto (tgt := 3) dX2_ownPlaces_99 (by decide) ?_
  refine am_iload dX2_ownPlaces_3 rfl ?_
  refine am_iload_n dX2_ownPlaces_5 rfl ?_
  refine am_icmp_ge (tgt := 102) dX2_ownPlaces_6 (by decide) (fun h => absurd h (by decide)) (fun _ => ?_)
  refine am_aload_n dX2_ownPlaces_9 rfl ?_
  refine am_iload_n dX2_ownPlaces_10 rfl ?_
  refine am_iload dX2_ownPlaces_11 rfl ?_
  refine am_callVx (i := 0) (j := 21) (as := [.inl (nI 129), .inl (nI 10)]) (rest := []) dX2_ownPlaces_13 lkX2_at ml_X2_84 imX2_at seX2_at rfl rfl (hG.m0 (by decide)) rfl (Nat.le_of_ble_eq_true rfl) rfl (c_at hG (by omega) (by omega) I hS) ?_
  refine am_top (show I 0 1 (129 * 16 + 10) = nI 0 from (hD (129 * 16 + 10)).trans rfl) ?_
  refine am_istore dX2_ownPlaces_16 (by decide) ?_
  refine am_iload dX2_ownPlaces_18 rfl ?_
  refine am_if_ne (tgt := 26) dX2_ownPlaces_20 (by decide) (fun h => absurd h (by decide)) (fun _ => ?_)
  refine am_goto (tgt := 96) dX2_ownPlaces_23 (by decide) ?_
  refine am_iinc (v := nI 11) dX2_ownPlaces_96 rfl (by decide) ?_
  refine am_goto (tgt := 3) dX2_ownPlaces_99 (by decide) ?_
  refine am_iload dX2_ownPlaces_3 rfl ?_
  refine am_iload_n dX2_ownPlaces_5 rfl ?_
  refine am_icmp_ge (tgt := 102) dX2_ownPlaces_6 (by decide) (fun h => absurd h (by decide)) (fun _ => ?_)
  refine am_aload_n dX2_ownPlaces_9 rfl ?_
  refine am_iload_n dX2_ownPlaces_10 rfl ?_
  refine am_iload dX2_ownPlaces_11 rfl ?_
  refine am_callVx (i := 0) (j := 21) (as := [.inl (nI 129), .inl (nI 11)]) (rest := []) dX2_ownPlaces_13 lkX2_at ml_X2_84 imX2_at seX2_at rfl rfl (hG.m0 (by decide)) rfl (Nat.le_of_ble_eq_true rfl) rfl (c_at hG (by omega) (by omega) I hS) ?_
  refine am_top (show I 0 1 (129 * 16 + 11) = nI 0 from (hD (129 * 16 + 11)).trans rfl) ?_
  refine am_istore dX2_ownPlaces_16 (by decide) ?_
  refine am_iload dX2_ownPlaces_18 rfl ?_
  refine am_if_ne (tgt := 26) dX2_ownPlaces_20 (by decide) (fun h => absurd h (by decide)) (fun _ => ?_)
  refine am_goto (tgt := 96) dX2_ownPlaces_23 (by decide) ?_
  refine am_iinc (v := nI 12) dX2_ownPlaces_96 rfl (by decide) ?_
  refine am_goto (tgt := 3) dX2_ownPlaces_99 (by decide) ?_
  refine am_iload dX2_ownPlaces_3 rfl ?_
  refine am_iload_n dX2_ownPlaces_5 rfl ?_
  refine am_icmp_ge (tgt := 102) dX2_ownPlaces_6 (by decide) (fun _ => ?_) (fun h => absurd h (by decide))
  refine am_iconst (v := nI 1) dX2_ownPlaces_102 (by decide) ?_
  refine am_iret dX2_ownPlaces_103 rfl (am_nz (by decide)).1 ?_
  exact ⟨rfl, rfl⟩
theorem c_ownBlocks0 {G : am_G} (hG : am_ok G) {d : Nat} {I : am_I} (hD : ∀ k, I 0 1 k = am_dk G.2.2.2.1 k) (hS : ∀ b, b < 640 → I 0 22 b = nI b)  : am_C G (d + 3) mX2_ownBlocks [.inr (0, 21)] I (fun r J => r = some (nI 1) ∧ (∀ k, k < 24 → J 0 26 k = nI (if k = 0 then 1 else 0)) ∧ ∀ a b, b ≠ 26 → J a b = I a b) := by
  have hn4 := hG.hi
  have hn2 := hG.lo
  have L : ∀ (J : am_I) (_ : ∀ k, J 0 1 k = am_dk G.2.2.2.1 k) (_ : ∀ b, b < 640 → J 0 22 b = nI b) (_ : ∀ k, k < 24 → J 0 26 k = nI (if k = 0 then 1 else 0)) (_ : ∀ a b, b ≠ 26 → J a b = I a b) (m a : Nat) (s2 s3 : Option am_V), a + m = 127 → am_J G (d + 3) mX2_ownBlocks am_no (fun r J => r = some (nI 1) ∧ (∀ k, k < 24 → J 0 26 k = nI (if k = 0 then 1 else 0)) ∧ ∀ a b, b ≠ 26 → J a b = I a b) 10 [some (.inr (0, 21)), some (.inl (nI (a + 1))), s2, s3] [] (J) := by
    intro J hD hS hB hF m
    induction m with
    | zero =>
      intro a s2 s3 ha
      obtain rfl : a = 127 := by omega
      refine am_iload_n dX2_ownBlocks_10 rfl ?_
      refine am_sipush (v := nI 128) dX2_ownBlocks_11 (by decide) ?_
      refine am_icmp_ge (tgt := 95) dX2_ownBlocks_14 (by decide) (fun _ => ?_) (fun h => absurd ((nI_leI (a := 128) (b := 127 + 1) (by omega) (by omega)).mpr (by omega)) h)
      refine am_iconst (v := nI 1) dX2_ownBlocks_95 (by decide) ?_
      refine am_iret dX2_ownBlocks_96 rfl (am_nz (by decide)).1 ?_
      exact ⟨rfl, hB, hF⟩
    | succ m ih =>
      intro a s2 s3 ha
      refine am_iload_n dX2_ownBlocks_10 rfl ?_
      refine am_sipush (v := nI 128) dX2_ownBlocks_11 (by decide) ?_
      refine am_icmp_ge (tgt := 95) dX2_ownBlocks_14 (by decide) (fun h => absurd ((nI_leI (a := 128) (b := a + 1) (by omega) (by omega)).mp h) (by omega)) (fun _ => ?_)
      refine am_aload_n dX2_ownBlocks_17 rfl ?_
      refine am_iload_n dX2_ownBlocks_18 rfl ?_
      refine am_callVx (i := 0) (j := 21) (as := [.inl (nI (a + 1))]) (rest := []) dX2_ownBlocks_19 lkX2_kindOf ml_X2_104 imX2_kindOf seX2_kindOf rfl rfl (hG.m0 (by decide)) rfl (Nat.le_of_ble_eq_true rfl) rfl (c_kindOf hG (by omega) J hS) ?_
      refine am_top (show J 0 1 ((129 + 64 * ((a + 1) / 16) + (a + 1) % 16) * 16 + 0) = nI 0 from (hD _).trans (am_dk0 (by omega) (by omega) (by omega) (by omega) (by omega))) ?_
      refine am_if_ne (tgt := 28) dX2_ownBlocks_22 (by decide) (fun h => absurd h (by decide)) (fun _ => ?_)
      refine am_goto (tgt := 89) dX2_ownBlocks_25 (by decide) ?_
      refine am_iinc (v := nI (a + 1 + 1)) dX2_ownBlocks_89 rfl (nI_add _ _) ?_
      refine am_goto (tgt := 10) dX2_ownBlocks_92 (by decide) ?_
      exact ih (a + 1) _ _ (by omega)
  refine am_of (by decide +kernel) hG.nd (Nat.le_of_ble_eq_true rfl) ?_
  refine am_aload_n dX2_ownBlocks_0 rfl ?_
  refine am_get (v := .inr (0, 26)) dX2_ownBlocks_1 fl_2_25 (hG.m0 (by decide)) rfl ?_
  refine am_iconst (v := nI 0) dX2_ownBlocks_4 (by decide) ?_
  refine am_callSe (as := [.inr (0, 26), .inl (nI 0)]) (rest := []) dX2_ownBlocks_5 lkJ7_fill_53178 ml_X2_87 isJ7_fill_53178 rfl (Nat.le_of_ble_eq_true rfl) rfl (c_fill (i := 0) (j := 26) hG.nd (hG.m0 (by decide)) rfl (show 24 < 2 ^ 31 by decide) (nI 0) I) ?_
  refine am_nm (fun I1 hI1 => ?_)
  refine am_iconst (v := nI 0) dX2_ownBlocks_8 (by decide) ?_
  refine am_istore_n dX2_ownBlocks_9 (by decide) ?_
  refine am_iload_n dX2_ownBlocks_10 rfl ?_
  refine am_sipush (v := nI 128) dX2_ownBlocks_11 (by decide) ?_
  refine am_icmp_ge (tgt := 95) dX2_ownBlocks_14 (by decide) (fun h => absurd h (by decide)) (fun _ => ?_)
  refine am_aload_n dX2_ownBlocks_17 rfl ?_
  refine am_iload_n dX2_ownBlocks_18 rfl ?_
  refine am_callVx (i := 0) (j := 21) (as := [.inl (nI 0)]) (rest := []) dX2_ownBlocks_19 lkX2_kindOf ml_X2_104 imX2_kindOf seX2_kindOf rfl rfl (hG.m0 (by decide)) rfl (Nat.le_of_ble_eq_true rfl) rfl (c_kindOf hG (by omega) I1 (show ∀ b, b < 640 → (I1) 0 22 b = nI b from fun b hb => by simp [am_up, am_upf, upd, hS b hb, hI1])) ?_
  refine am_top (show I1 0 1 ((129 + 64 * (0 / 16) + 0 % 16) * 16 + 0) = nI 2 from ((show ∀ k, (I1) 0 1 k = am_dk G.2.2.2.1 k from fun k => by simp [am_up, am_upf, hD k, hI1]) ((129 + 64 * (0 / 16) + 0 % 16) * 16 + 0)).trans rfl) ?_
  refine am_if_ne (tgt := 28) dX2_ownBlocks_22 (by decide) (fun _ => ?_) (fun h => absurd h (by decide))
  refine am_aload_n dX2_ownBlocks_28 rfl ?_
  refine am_get (v := .inr (0, 26)) dX2_ownBlocks_29 fl_2_25 (hG.m0 (by decide)) rfl ?_
  refine am_iload_n dX2_ownBlocks_32 rfl ?_
  refine am_bipush (v := nI 16) dX2_ownBlocks_33 (by decide) ?_
  refine am_idiv dX2_ownBlocks_35 (by decide) ?_
  refine am_top (pk_div (by omega) (by omega) (by omega)) ?_
  refine am_iconst (v := nI 3) dX2_ownBlocks_36 (by decide) ?_
  refine am_imul dX2_ownBlocks_37 ?_
  refine am_top (show (nI 0) * (nI 3) = nI 0 by decide) ?_
  refine am_dup2 dX2_ownBlocks_38 ?_
  refine am_iald (a := 0) dX2_ownBlocks_39 (hG.m0 (by decide)) rfl rfl (show 0 < 24 from (by omega)) (show 24 < 2 ^ 31 by decide) ?_
  refine am_top (show I1 0 26 0 = nI 0 from (by simp [am_up, am_upf, upd, am_fil, am_len, hI1])) ?_
  refine am_iconst (v := nI 1) dX2_ownBlocks_40 (by decide) ?_
  refine am_iload_n dX2_ownBlocks_41 rfl ?_
  refine am_bipush (v := nI 16) dX2_ownBlocks_42 (by decide) ?_
  refine am_irem dX2_ownBlocks_44 (by decide) ?_
  refine am_top (pk_rem (by omega) (by omega) (by omega)) ?_
  refine am_ishl dX2_ownBlocks_45 ?_
  refine am_top (show (nI 1) <<< ((nI 0) &&& 31) = nI 1 by decide) ?_
  refine am_ior dX2_ownBlocks_46 ?_
  refine am_top (show (nI 0) ||| (nI 1) = nI 1 by decide) ?_
  refine am_iast (a := 0) dX2_ownBlocks_47 (hG.m0 (by decide)) rfl rfl (show 0 < 24 from (by omega)) (show 24 < 2 ^ 31 by decide) ?_
  refine am_iload_n dX2_ownBlocks_48 rfl ?_
  refine am_callSNx (as := [.inl (nI 0)]) (rest := []) dX2_ownBlocks_49 lkX10_inodeBlock nl_X2_81 isX10_inodeBlock rfl (Nat.le_of_ble_eq_true rfl) rfl (c_inodeBlock hG.nd (k := 0) (by omega) (am_up I1 0 26 0 (nI 1))) ?_
  refine am_istore_n dX2_ownBlocks_52 (by decide) ?_
  refine am_aload_n dX2_ownBlocks_53 rfl ?_
  refine am_iload_n dX2_ownBlocks_54 rfl ?_
  refine am_bipush (v := nI 11) dX2_ownBlocks_55 (by decide) ?_
  refine am_callVx (i := 0) (j := 21) (as := [.inl (nI 129), .inl (nI 11)]) (rest := []) dX2_ownBlocks_57 lkX2_at ml_X2_84 imX2_at seX2_at rfl rfl (hG.m0 (by decide)) rfl (Nat.le_of_ble_eq_true rfl) rfl (c_at hG (by omega) (by omega) (am_up I1 0 26 0 (nI 1)) (show ∀ b, b < 640 → (am_up I1 0 26 0 (nI 1)) 0 22 b = nI b from fun b hb => by simp [am_up, am_upf, upd, hS b hb, hI1])) ?_
  refine am_top (show (am_up I1 0 26 0 (nI 1)) 0 1 (129 * 16 + 11) = nI 0 from ((show ∀ k, (am_up I1 0 26 0 (nI 1)) 0 1 k = am_dk G.2.2.2.1 k from fun k => by simp [am_up, am_upf, hD k, hI1]) (129 * 16 + 11)).trans rfl) ?_
  refine am_istore_n dX2_ownBlocks_60 (by decide) ?_
  refine am_aload_n dX2_ownBlocks_61 rfl ?_
  refine am_iload_n dX2_ownBlocks_62 rfl ?_
  refine am_iconst (v := nI 3) dX2_ownBlocks_63 (by decide) ?_
  refine am_bipush (v := nI 12) dX2_ownBlocks_64 (by decide) ?_
  refine am_callVx (i := 0) (j := 21) (as := [.inl (nI 129), .inl (nI 3), .inl (nI 12)]) (rest := []) dX2_ownBlocks_66 lkX2_ownPlaces ml_X2_110 imX2_ownPlaces seX2_ownPlaces rfl rfl (hG.m0 (by decide)) rfl (Nat.le_of_ble_eq_true rfl) rfl (c_ownPlaces0 hG (show ∀ k, (am_up I1 0 26 0 (nI 1)) 0 1 k = am_dk G.2.2.2.1 k from fun k => by simp [am_up, am_upf, hD k, hI1]) (show ∀ b, b < 640 → (am_up I1 0 26 0 (nI 1)) 0 22 b = nI b from fun b hb => by simp [am_up, am_upf, upd, hS b hb, hI1])) ?_
  refine am_if_eq (tgt := 87) dX2_ownBlocks_69 (by decide) (fun h => absurd h (by decide)) (fun _ => ?_)
  refine am_iload_n dX2_ownBlocks_72 rfl ?_
  refine am_if_eq (tgt := 89) dX2_ownBlocks_73 (by decide) (fun _ => ?_) (fun h => absurd h (by decide))
  refine am_iinc (v := nI 1) dX2_ownBlocks_89 rfl (by decide) ?_
  refine am_goto (tgt := 10) dX2_ownBlocks_92 (by decide) ?_
  exact L _ (fun k => by simp [am_up, am_upf, hD k, hI1]) (fun b hb => by simp [am_up, am_upf, hS b hb, hI1]) (fun k hk => by simp [am_up, am_upf, upd, am_fil, am_len, hk, hI1]; split <;> simp_all) (fun a b hb => by simp [am_up, am_upf, hb, hI1]) 127 0 _ _ (by omega)
theorem c_hasWrongMap0 {G : am_G} (hG : am_ok G) {d : Nat} {I : am_I} (hB : ∀ k, k < 24 → I 0 26 k = nI (if k = 0 then 1 else 0)) (hD : ∀ k, I 0 1 k = am_dk G.2.2.2.1 k) (hS : ∀ b, b < 640 → I 0 22 b = nI b)  : am_C G (d + 2) mX2_hasWrongMap [.inr (0, 21)] I (am_E (some (nI 0)) I) := by
  have hn4 := hG.hi
  have hn2 := hG.lo
  refine am_of (by decide +kernel) hG.nd (Nat.le_of_ble_eq_true rfl) ?_
  refine am_iconst (v := nI 0) dX2_hasWrongMap_0 (by decide) ?_
  refine am_istore_n dX2_hasWrongMap_1 (by decide) ?_
  refine am_iload_n dX2_hasWrongMap_2 rfl ?_
  refine am_bipush (v := nI 8) dX2_hasWrongMap_3 (by decide) ?_
  refine am_icmp_ge (tgt := 61) dX2_hasWrongMap_5 (by decide) (fun h => absurd h (by decide)) (fun _ => ?_)
  refine am_iconst (v := nI 0) dX2_hasWrongMap_8 (by decide) ?_
  refine am_istore_n dX2_hasWrongMap_9 (by decide) ?_
  refine am_iload_n dX2_hasWrongMap_10 rfl ?_
  refine am_bipush (v := nI 16) dX2_hasWrongMap_11 (by decide) ?_
  refine am_icmp_ge (tgt := 55) dX2_hasWrongMap_13 (by decide) (fun h => absurd h (by decide)) (fun _ => ?_)
  refine am_aload_n dX2_hasWrongMap_16 rfl ?_
  refine am_iload_n dX2_hasWrongMap_17 rfl ?_
  refine am_callSNx (as := [.inl (nI 0)]) (rest := [.inr (0, 21)]) dX2_hasWrongMap_18 lkX10_mapBlock nl_X2_123 isX10_mapBlock rfl (Nat.le_of_ble_eq_true rfl) rfl (c_mapBlock hG.nd (g := 0) (by omega) I) ?_
  refine am_iload_n dX2_hasWrongMap_21 rfl ?_
  refine am_callVx (i := 0) (j := 21) (as := [.inl (nI 128), .inl (nI 0)]) (rest := []) dX2_hasWrongMap_22 lkX2_at ml_X2_84 imX2_at seX2_at rfl rfl (hG.m0 (by decide)) rfl (Nat.le_of_ble_eq_true rfl) rfl (c_at hG (by omega) (by omega) I hS) ?_
  refine am_top (show I 0 1 (128 * 16 + 0) = nI 1 from (hD (128 * 16 + 0)).trans rfl) ?_
  refine am_iload_n dX2_hasWrongMap_25 rfl ?_
  refine am_iconst (v := nI 3) dX2_hasWrongMap_26 (by decide) ?_
  refine am_icmp_ge (tgt := 43) dX2_hasWrongMap_27 (by decide) (fun h => absurd h (by decide)) (fun _ => ?_)
  refine am_aload_n dX2_hasWrongMap_30 rfl ?_
  refine am_get (v := .inr (0, 26)) dX2_hasWrongMap_31 fl_2_25 (hG.m0 (by decide)) rfl ?_
  refine am_iload_n dX2_hasWrongMap_34 rfl ?_
  refine am_iconst (v := nI 3) dX2_hasWrongMap_35 (by decide) ?_
  refine am_imul dX2_hasWrongMap_36 ?_
  refine am_top (show (nI 0) * (nI 3) = nI 0 by decide) ?_
  refine am_iload_n dX2_hasWrongMap_37 rfl ?_
  refine am_iadd dX2_hasWrongMap_38 ?_
  refine am_top (show (nI 0) + (nI 0) = nI 0 by decide) ?_
  refine am_iald (a := 0) dX2_hasWrongMap_39 (hG.m0 (by decide)) rfl rfl (show 0 < 24 from (by omega)) (show 24 < 2 ^ 31 by decide) ?_
  refine am_top ((hB 0 (by decide)).trans rfl) ?_
  refine am_goto (tgt := 44) dX2_hasWrongMap_40 (by decide) ?_
  refine am_icmp_eq (tgt := 49) dX2_hasWrongMap_44 (by decide) (fun _ => ?_) (fun h => absurd h (by decide))
  refine am_iinc (v := nI 1) dX2_hasWrongMap_49 rfl (by decide) ?_
  refine am_goto (tgt := 10) dX2_hasWrongMap_52 (by decide) ?_
  refine am_iload_n dX2_hasWrongMap_10 rfl ?_
  refine am_bipush (v := nI 16) dX2_hasWrongMap_11 (by decide) ?_
  refine am_icmp_ge (tgt := 55) dX2_hasWrongMap_13 (by decide) (fun h => absurd h (by decide)) (fun _ => ?_)
  refine am_aload_n dX2_hasWrongMap_16 rfl ?_
  refine am_iload_n dX2_hasWrongMap_17 rfl ?_
  refine am_callSNx (as := [.inl (nI 0)]) (rest := [.inr (0, 21)]) dX2_hasWrongMap_18 lkX10_mapBlock nl_X2_123 isX10_mapBlock rfl (Nat.le_of_ble_eq_true rfl) rfl (c_mapBlock hG.nd (g := 0) (by omega) I) ?_
  refine am_iload_n dX2_hasWrongMap_21 rfl ?_
  refine am_callVx (i := 0) (j := 21) (as := [.inl (nI 128), .inl (nI 1)]) (rest := []) dX2_hasWrongMap_22 lkX2_at ml_X2_84 imX2_at seX2_at rfl rfl (hG.m0 (by decide)) rfl (Nat.le_of_ble_eq_true rfl) rfl (c_at hG (by omega) (by omega) I hS) ?_
  refine am_top (show I 0 1 (128 * 16 + 1) = nI 0 from (hD (128 * 16 + 1)).trans rfl) ?_
  refine am_iload_n dX2_hasWrongMap_25 rfl ?_
  refine am_iconst (v := nI 3) dX2_hasWrongMap_26 (by decide) ?_
  refine am_icmp_ge (tgt := 43) dX2_hasWrongMap_27 (by decide) (fun h => absurd h (by decide)) (fun _ => ?_)
  refine am_aload_n dX2_hasWrongMap_30 rfl ?_
  refine am_get (v := .inr (0, 26)) dX2_hasWrongMap_31 fl_2_25 (hG.m0 (by decide)) rfl ?_
  refine am_iload_n dX2_hasWrongMap_34 rfl ?_
  refine am_iconst (v := nI 3) dX2_hasWrongMap_35 (by decide) ?_
  refine am_imul dX2_hasWrongMap_36 ?_
  refine am_top (show (nI 0) * (nI 3) = nI 0 by decide) ?_
  refine am_iload_n dX2_hasWrongMap_37 rfl ?_
  refine am_iadd dX2_hasWrongMap_38 ?_
  refine am_top (show (nI 0) + (nI 1) = nI 1 by decide) ?_
  refine am_iald (a := 1) dX2_hasWrongMap_39 (hG.m0 (by decide)) rfl rfl (show 1 < 24 from (by omega)) (show 24 < 2 ^ 31 by decide) ?_
  refine am_top ((hB 1 (by decide)).trans rfl) ?_
  refine am_goto (tgt := 44) dX2_hasWrongMap_40 (by decide) ?_
  refine am_icmp_eq (tgt := 49) dX2_hasWrongMap_44 (by decide) (fun _ => ?_) (fun h => absurd h (by decide))
  refine am_iinc (v := nI 2) dX2_hasWrongMap_49 rfl (by decide) ?_
  refine am_goto (tgt := 10) dX2_hasWrongMap_52 (by decide) ?_
  refine am_iload_n dX2_hasWrongMap_10 rfl ?_
  refine am_bipush (v := nI 16) dX2_hasWrongMap_11 (by decide) ?_
  refine am_icmp_ge (tgt := 55) dX2_hasWrongMap_13 (by decide) (fun h => absurd h (by decide)) (fun _ => ?_)
  refine am_aload_n dX2_hasWrongMap_16 rfl ?_
  refine am_iload_n dX2_hasWrongMap_17 rfl ?_
  refine am_callSNx (as := [.inl (nI 0)]) (rest := [.inr (0, 21)]) dX2_hasWrongMap_18 lkX10_mapBlock nl_X2_123 isX10_mapBlock rfl (Nat.le_of_ble_eq_true rfl) rfl (c_mapBlock hG.nd (g := 0) (by omega) I) ?_
  refine am_iload_n dX2_hasWrongMap_21 rfl ?_
  refine am_callVx (i := 0) (j := 21) (as := [.inl (nI 128), .inl (nI 2)]) (rest := []) dX2_hasWrongMap_22 lkX2_at ml_X2_84 imX2_at seX2_at rfl rfl (hG.m0 (by decide)) rfl (Nat.le_of_ble_eq_true rfl) rfl (c_at hG (by omega) (by omega) I hS) ?_
  refine am_top (show I 0 1 (128 * 16 + 2) = nI 0 from (hD (128 * 16 + 2)).trans rfl) ?_
  refine am_iload_n dX2_hasWrongMap_25 rfl ?_
  refine am_iconst (v := nI 3) dX2_hasWrongMap_26 (by decide) ?_
  refine am_icmp_ge (tgt := 43) dX2_hasWrongMap_27 (by decide) (fun h => absurd h (by decide)) (fun _ => ?_)
  refine am_aload_n dX2_hasWrongMap_30 rfl ?_
  refine am_get (v := .inr (0, 26)) dX2_hasWrongMap_31 fl_2_25 (hG.m0 (by decide)) rfl ?_
  refine am_iload_n dX2_hasWrongMap_34 rfl ?_
  refine am_iconst (v := nI 3) dX2_hasWrongMap_35 (by decide) ?_
  refine am_imul dX2_hasWrongMap_36 ?_
  refine am_top (show (nI 0) * (nI 3) = nI 0 by decide) ?_
  refine am_iload_n dX2_hasWrongMap_37 rfl ?_
  refine am_iadd dX2_hasWrongMap_38 ?_
  refine am_top (show (nI 0) + (nI 2) = nI 2 by decide) ?_
  refine am_iald (a := 2) dX2_hasWrongMap_39 (hG.m0 (by decide)) rfl rfl (show 2 < 24 from (by omega)) (show 24 < 2 ^ 31 by decide) ?_
  refine am_top ((hB 2 (by decide)).trans rfl) ?_
  refine am_goto (tgt := 44) dX2_hasWrongMap_40 (by decide) ?_
  refine am_icmp_eq (tgt := 49) dX2_hasWrongMap_44 (by decide) (fun _ => ?_) (fun h => absurd h (by decide))
  refine am_iinc (v := nI 3) dX2_hasWrongMap_49 rfl (by decide) ?_
  refine am_goto (tgt := 10) dX2_hasWrongMap_52 (by decide) ?_
  refine am_iload_n dX2_hasWrongMap_10 rfl ?_
  refine am_bipush (v := nI 16) dX2_hasWrongMap_11 (by decide) ?_
  refine am_icmp_ge (tgt := 55) dX2_hasWrongMap_13 (by decide) (fun h => absurd h (by decide)) (fun _ => ?_)
  refine am_aload_n dX2_hasWrongMap_16 rfl ?_
  refine am_iload_n dX2_hasWrongMap_17 rfl ?_
  refine am_callSNx (as := [.inl (nI 0)]) (rest := [.inr (0, 21)]) dX2_hasWrongMap_18 lkX10_mapBlock nl_X2_123 isX10_mapBlock rfl (Nat.le_of_ble_eq_true rfl) rfl (c_mapBlock hG.nd (g := 0) (by omega) I) ?_
  refine am_iload_n dX2_hasWrongMap_21 rfl ?_
  refine am_callVx (i := 0) (j := 21) (as := [.inl (nI 128), .inl (nI 3)]) (rest := []) dX2_hasWrongMap_22 lkX2_at ml_X2_84 imX2_at seX2_at rfl rfl (hG.m0 (by decide)) rfl (Nat.le_of_ble_eq_true rfl) rfl (c_at hG (by omega) (by omega) I hS) ?_
  refine am_top (show I 0 1 (128 * 16 + 3) = nI 0 from (hD (128 * 16 + 3)).trans rfl) ?_
  refine am_iload_n dX2_hasWrongMap_25 rfl ?_
  refine am_iconst (v := nI 3) dX2_hasWrongMap_26 (by decide) ?_
  refine am_icmp_ge (tgt := 43) dX2_hasWrongMap_27 (by decide) (fun _ => ?_) (fun h => absurd h (by decide))
  refine am_iconst (v := nI 0) dX2_hasWrongMap_43 (by decide) ?_
  refine am_icmp_eq (tgt := 49) dX2_hasWrongMap_44 (by decide) (fun _ => ?_) (fun h => absurd h (by decide))
  refine am_iinc (v := nI 4) dX2_hasWrongMap_49 rfl (by decide) ?_
  refine am_goto (tgt := 10) dX2_hasWrongMap_52 (by decide) ?_
  refine am_iload_n dX2_hasWrongMap_10 rfl ?_
  refine am_bipush (v := nI 16) dX2_hasWrongMap_11 (by decide) ?_
  refine am_icmp_ge (tgt := 55) dX2_hasWrongMap_13 (by decide) (fun h => absurd h (by decide)) (fun _ => ?_)
  refine am_aload_n dX2_hasWrongMap_16 rfl ?_
  refine am_iload_n dX2_hasWrongMap_17 rfl ?_
  refine am_callSNx (as := [.inl (nI 0)]) (rest := [.inr (0, 21)]) dX2_hasWrongMap_18 lkX10_mapBlock nl_X2_123 isX10_mapBlock rfl (Nat.le_of_ble_eq_true rfl) rfl (c_mapBlock hG.nd (g := 0) (by omega) I) ?_
  refine am_iload_n dX2_hasWrongMap_21 rfl ?_
  refine am_callVx (i := 0) (j := 21) (as := [.inl (nI 128), .inl (nI 4)]) (rest := []) dX2_hasWrongMap_22 lkX2_at ml_X2_84 imX2_at seX2_at rfl rfl (hG.m0 (by decide)) rfl (Nat.le_of_ble_eq_true rfl) rfl (c_at hG (by omega) (by omega) I hS) ?_
  refine am_top (show I 0 1 (128 * 16 + 4) = nI 0 from (hD (128 * 16 + 4)).trans rfl) ?_
  refine am_iload_n dX2_hasWrongMap_25 rfl ?_
  refine am_iconst (v := nI 3) dX2_hasWrongMap_26 (by decide) ?_
  refine am_icmp_ge (tgt := 43) dX2_hasWrongMap_27 (by decide) (fun _ => ?_) (fun h => absurd h (by decide))
  refine am_iconst (v := nI 0) dX2_hasWrongMap_43 (by decide) ?_
  refine am_icmp_eq (tgt := 49) dX2_hasWrongMap_44 (by decide) (fun _ => ?_) (fun h => absurd h (by decide))
  refine am_iinc (v := nI 5) dX2_hasWrongMap_49 rfl (by decide) ?_
  refine am_goto (tgt := 10) dX2_hasWrongMap_52 (by decide) ?_
  refine am_iload_n dX2_hasWrongMap_10 rfl ?_
  refine am_bipush (v := nI 16) dX2_hasWrongMap_11 (by decide) ?_
  refine am_icmp_ge (tgt := 55) dX2_hasWrongMap_13 (by decide) (fun h => absurd h (by decide)) (fun _ => ?_)
  refine am_aload_n dX2_hasWrongMap_16 rfl ?_
  refine am_iload_n dX2_hasWrongMap_17 rfl ?_
  refine am_callSNx (as := [.inl (nI 0)]) (rest := [.inr (0, 21)]) dX2_hasWrongMap_18 lkX10_mapBlock nl_X2_123 isX10_mapBlock rfl (Nat.le_of_ble_eq_true rfl) rfl (c_mapBlock hG.nd (g := 0) (by omega) I) ?_
  refine am_iload_n dX2_hasWrongMap_21 rfl ?_
  refine am_callVx (i := 0) (j := 21) (as := [.inl (nI 128), .inl (nI 5)]) (rest := []) dX2_hasWrongMap_22 lkX2_at ml_X2_84 imX2_at seX2_at rfl rfl (hG.m0 (by decide)) rfl (Nat.le_of_ble_eq_true rfl) rfl (c_at hG (by omega) (by omega) I hS) ?_
  refine am_top (show I 0 1 (128 * 16 + 5) = nI 0 from (hD (128 * 16 + 5)).trans rfl) ?_
  refine am_iload_n dX2_hasWrongMap_25 rfl ?_
  refine am_iconst (v := nI 3) dX2_hasWrongMap_26 (by decide) ?_
  refine am_icmp_ge (tgt := 43) dX2_hasWrongMap_27 (by decide) (fun _ => ?_) (fun h => absurd h (by decide))
  refine am_iconst (v := nI 0) dX2_hasWrongMap_43 (by decide) ?_
  refine am_icmp_eq (tgt := 49) dX2_hasWrongMap_44 (by decide) (fun _ => ?_) (fun h => absurd h (by decide))
  refine am_iinc (v := nI 6) dX2_hasWrongMap_49 rfl (by decide) ?_
  refine am_goto (tgt := 10) dX2_hasWrongMap_52 (by decide) ?_
  refine am_iload_n dX2_hasWrongMap_10 rfl ?_
  refine am_bipush (v := nI 16) dX2_hasWrongMap_11 (by decide) ?_
  refine am_icmp_ge (tgt := 55) dX2_hasWrongMap_13 (by decide) (fun h => absurd h (by decide)) (fun _ => ?_)
  refine am_aload_n dX2_hasWrongMap_16 rfl ?_
  refine am_iload_n dX2_hasWrongMap_17 rfl ?_
  refine am_callSNx (as := [.inl (nI 0)]) (rest := [.inr (0, 21)]) dX2_hasWrongMap_18 lkX10_mapBlock nl_X2_123 isX10_mapBlock rfl (Nat.le_of_ble_eq_true rfl) rfl (c_mapBlock hG.nd (g := 0) (by omega) I) ?_
  refine am_iload_n dX2_hasWrongMap_21 rfl ?_
  refine am_callVx (i := 0) (j := 21) (as := [.inl (nI 128), .inl (nI 6)]) (rest := []) dX2_hasWrongMap_22 lkX2_at ml_X2_84 imX2_at seX2_at rfl rfl (hG.m0 (by decide)) rfl (Nat.le_of_ble_eq_true rfl) rfl (c_at hG (by omega) (by omega) I hS) ?_
  refine am_top (show I 0 1 (128 * 16 + 6) = nI 0 from (hD (128 * 16 + 6)).trans rfl) ?_
  refine am_iload_n dX2_hasWrongMap_25 rfl ?_
  refine am_iconst (v := nI 3) dX2_hasWrongMap_26 (by decide) ?_
  refine am_icmp_ge (tgt := 43) dX2_hasWrongMap_27 (by decide) (fun _ => ?_) (fun h => absurd h (by decide))
  refine am_iconst (v := nI 0) dX2_hasWrongMap_43 (by decide) ?_
  refine am_icmp_eq (tgt := 49) dX2_hasWrongMap_44 (by decide) (fun _ => ?_) (fun h => absurd h (by decide))
  refine am_iinc (v := nI 7) dX2_hasWrongMap_49 rfl (by decide) ?_
  refine am_goto (tgt := 10) dX2_hasWrongMap_52 (by decide) ?_
  refine am_iload_n dX2_hasWrongMap_10 rfl ?_
  refine am_bipush (v := nI 16) dX2_hasWrongMap_11 (by decide) ?_
  refine am_icmp_ge (tgt := 55) dX2_hasWrongMap_13 (by decide) (fun h => absurd h (by decide)) (fun _ => ?_)
  refine am_aload_n dX2_hasWrongMap_16 rfl ?_
  refine am_iload_n dX2_hasWrongMap_17 rfl ?_
  refine am_callSNx (as := [.inl (nI 0)]) (rest := [.inr (0, 21)]) dX2_hasWrongMap_18 lkX10_mapBlock nl_X2_123 isX10_mapBlock rfl (Nat.le_of_ble_eq_true rfl) rfl (c_mapBlock hG.nd (g := 0) (by omega) I) ?_
  refine am_iload_n dX2_hasWrongMap_21 rfl ?_
  refine am_callVx (i := 0) (j := 21) (as := [.inl (nI 128), .inl (nI 7)]) (rest := []) dX2_hasWrongMap_22 lkX2_at ml_X2_84 imX2_at seX2_at rfl rfl (hG.m0 (by decide)) rfl (Nat.le_of_ble_eq_true rfl) rfl (c_at hG (by omega) (by omega) I hS) ?_
  refine am_top (show I 0 1 (128 * 16 + 7) = nI 0 from (hD (128 * 16 + 7)).trans rfl) ?_
  refine am_iload_n dX2_hasWrongMap_25 rfl ?_
  refine am_iconst (v := nI 3) dX2_hasWrongMap_26 (by decide) ?_
  refine am_icmp_ge (tgt := 43) dX2_hasWrongMap_27 (by decide) (fun _ => ?_) (fun h => absurd h (by decide))
  refine am_iconst (v := nI 0) dX2_hasWrongMap_43 (by decide) ?_
  refine am_icmp_eq (tgt := 49) dX2_hasWrongMap_44 (by decide) (fun _ => ?_) (fun h => absurd h (by decide))
  refine am_iinc (v := nI 8) dX2_hasWrongMap_49 rfl (by decide) ?_
  refine am_goto (tgt := 10) dX2_hasWrongMap_52 (by decide) ?_
  refine am_iload_n dX2_hasWrongMap_10 rfl ?_
  refine am_bipush (v := nI 16) dX2_hasWrongMap_11 (by decide) ?_
  refine am_icmp_ge (tgt := 55) dX2_hasWrongMap_13 (by decide) (fun h => absurd h (by decide)) (fun _ => ?_)
  refine am_aload_n dX2_hasWrongMap_16 rfl ?_
  refine am_iload_n dX2_hasWrongMap_17 rfl ?_
  refine am_callSNx (as := [.inl (nI 0)]) (rest := [.inr (0, 21)]) dX2_hasWrongMap_18 lkX10_mapBlock nl_X2_123 isX10_mapBlock rfl (Nat.le_of_ble_eq_true rfl) rfl (c_mapBlock hG.nd (g := 0) (by omega) I) ?_
  refine am_iload_n dX2_hasWrongMap_21 rfl ?_
  refine am_callVx (i := 0) (j := 21) (as := [.inl (nI 128), .inl (nI 8)]) (rest := []) dX2_hasWrongMap_22 lkX2_at ml_X2_84 imX2_at seX2_at rfl rfl (hG.m0 (by decide)) rfl (Nat.le_of_ble_eq_true rfl) rfl (c_at hG (by omega) (by omega) I hS) ?_
  refine am_top (show I 0 1 (128 * 16 + 8) = nI 0 from (hD (128 * 16 + 8)).trans rfl) ?_
  refine am_iload_n dX2_hasWrongMap_25 rfl ?_
  refine am_iconst (v := nI 3) dX2_hasWrongMap_26 (by decide) ?_
  refine am_icmp_ge (tgt := 43) dX2_hasWrongMap_27 (by decide) (fun _ => ?_) (fun h => absurd h (by decide))
  refine am_iconst (v := nI 0) dX2_hasWrongMap_43 (by decide) ?_
  refine am_icmp_eq (tgt := 49) dX2_hasWrongMap_44 (by decide) (fun _ => ?_) (fun h => absurd h (by decide))
  refine am_iinc (v := nI 9) dX2_hasWrongMap_49 rfl (by decide) ?_
  refine am_goto (tgt := 10) dX2_hasWrongMap_52 (by decide) ?_
  refine am_iload_n dX2_hasWrongMap_10 rfl ?_
  refine am_bipush (v := nI 16) dX2_hasWrongMap_11 (by decide) ?_
  refine am_icmp_ge (tgt := 55) dX2_hasWrongMap_13 (by decide) (fun h => absurd h (by decide)) (fun _ => ?_)
  refine am_aload_n dX2_hasWrongMap_16 rfl ?_
  refine am_iload_n dX2_hasWrongMap_17 rfl ?_
  refine am_callSNx (as := [.inl (nI 0)]) (rest := [.inr (0, 21)]) dX2_hasWrongMap_18 lkX10_mapBlock nl_X2_123 isX10_mapBlock rfl (Nat.le_of_ble_eq_true rfl) rfl (c_mapBlock hG.nd (g := 0) (by omega) I) ?_
  refine am_iload_n dX2_hasWrongMap_21 rfl ?_
  refine am_callVx (i := 0) (j := 21) (as := [.inl (nI 128), .inl (nI 9)]) (rest := []) dX2_hasWrongMap_22 lkX2_at ml_X2_84 imX2_at seX2_at rfl rfl (hG.m0 (by decide)) rfl (Nat.le_of_ble_eq_true rfl) rfl (c_at hG (by omega) (by omega) I hS) ?_
  refine am_top (show I 0 1 (128 * 16 + 9) = nI 0 from (hD (128 * 16 + 9)).trans rfl) ?_
  refine am_iload_n dX2_hasWrongMap_25 rfl ?_
  refine am_iconst (v := nI 3) dX2_hasWrongMap_26 (by decide) ?_
  refine am_icmp_ge (tgt := 43) dX2_hasWrongMap_27 (by decide) (fun _ => ?_) (fun h => absurd h (by decide))
  refine am_iconst (v := nI 0) dX2_hasWrongMap_43 (by decide) ?_
  refine am_icmp_eq (tgt := 49) dX2_hasWrongMap_44 (by decide) (fun _ => ?_) (fun h => absurd h (by decide))
  refine am_iinc (v := nI 10) dX2_hasWrongMap_49 rfl (by decide) ?_
  refine am_goto (tgt := 10) dX2_hasWrongMap_52 (by decide) ?_
  refine am_iload_n dX2_hasWrongMap_10 rfl ?_
  refine am_bipush (v := nI 16) dX2_hasWrongMap_11 (by decide) ?_
  refine am_icmp_ge (tgt := 55) dX2_hasWrongMap_13 (by decide) (fun h => absurd h (by decide)) (fun _ => ?_)
  refine am_aload_n dX2_hasWrongMap_16 rfl ?_
  refine am_iload_n dX2_hasWrongMap_17 rfl ?_
  refine am_callSNx (as := [.inl (nI 0)]) (rest := [.inr (0, 21)]) dX2_hasWrongMap_18 lkX10_mapBlock nl_X2_123 isX10_mapBlock rfl (Nat.le_of_ble_eq_true rfl) rfl (c_mapBlock hG.nd (g := 0) (by omega) I) ?_
  refine am_iload_n dX2_hasWrongMap_21 rfl ?_
  refine am_callVx (i := 0) (j := 21) (as := [.inl (nI 128), .inl (nI 10)]) (rest := []) dX2_hasWrongMap_22 lkX2_at ml_X2_84 imX2_at seX2_at rfl rfl (hG.m0 (by decide)) rfl (Nat.le_of_ble_eq_true rfl) rfl (c_at hG (by omega) (by omega) I hS) ?_
  refine am_top (show I 0 1 (128 * 16 + 10) = nI 0 from (hD (128 * 16 + 10)).trans rfl) ?_
  refine am_iload_n dX2_hasWrongMap_25 rfl ?_
  refine am_iconst (v := nI 3) dX2_hasWrongMap_26 (by decide) ?_
  refine am_icmp_ge (tgt := 43) dX2_hasWrongMap_27 (by decide) (fun _ => ?_) (fun h => absurd h (by decide))
  refine am_iconst (v := nI 0) dX2_hasWrongMap_43 (by decide) ?_
  refine am_icmp_eq (tgt := 49) dX2_hasWrongMap_44 (by decide) (fun _ => ?_) (fun h => absurd h (by decide))
  refine am_iinc (v := nI 11) dX2_hasWrongMap_49 rfl (by decide) ?_
  refine am_goto (tgt := 10) dX2_hasWrongMap_52 (by decide) ?_
  refine am_iload_n dX2_hasWrongMap_10 rfl ?_
  refine am_bipush (v := nI 16) dX2_hasWrongMap_11 (by decide) ?_
  refine am_icmp_ge (tgt := 55) dX2_hasWrongMap_13 (by decide) (fun h => absurd h (by decide)) (fun _ => ?_)
  refine am_aload_n dX2_hasWrongMap_16 rfl ?_
  refine am_iload_n dX2_hasWrongMap_17 rfl ?_
  refine am_callSNx (as := [.inl (nI 0)]) (rest := [.inr (0, 21)]) dX2_hasWrongMap_18 lkX10_mapBlock nl_X2_123 isX10_mapBlock rfl (Nat.le_of_ble_eq_true rfl) rfl (c_mapBlock hG.nd (g := 0) (by omega) I) ?_
  refine am_iload_n dX2_hasWrongMap_21 rfl ?_
  refine am_callVx (i := 0) (j := 21) (as := [.inl (nI 128), .inl (nI 11)]) (rest := []) dX2_hasWrongMap_22 lkX2_at ml_X2_84 imX2_at seX2_at rfl rfl (hG.m0 (by decide)) rfl (Nat.le_of_ble_eq_true rfl) rfl (c_at hG (by omega) (by omega) I hS) ?_
  refine am_top (show I 0 1 (128 * 16 + 11) = nI 0 from (hD (128 * 16 + 11)).trans rfl) ?_
  refine am_iload_n dX2_hasWrongMap_25 rfl ?_
  refine am_iconst (v := nI 3) dX2_hasWrongMap_26 (by decide) ?_
  refine am_icmp_ge (tgt := 43) dX2_hasWrongMap_27 (by decide) (fun _ => ?_) (fun h => absurd h (by decide))
  refine am_iconst (v := nI 0) dX2_hasWrongMap_43 (by decide) ?_
  refine am_icmp_eq (tgt := 49) dX2_hasWrongMap_44 (by decide) (fun _ => ?_) (fun h => absurd h (by decide))
  refine am_iinc (v := nI 12) dX2_hasWrongMap_49 rfl (by decide) ?_
  refine am_goto (tgt := 10) dX2_hasWrongMap_52 (by decide) ?_
  refine am_iload_n dX2_hasWrongMap_10 rfl ?_
  refine am_bipush (v := nI 16) dX2_hasWrongMap_11 (by decide) ?_
  refine am_icmp_ge (tgt := 55) dX2_hasWrongMap_13 (by decide) (fun h => absurd h (by decide)) (fun _ => ?_)
  refine am_aload_n dX2_hasWrongMap_16 rfl ?_
  refine am_iload_n dX2_hasWrongMap_17 rfl ?_
  refine am_callSNx (as := [.inl (nI 0)]) (rest := [.inr (0, 21)]) dX2_hasWrongMap_18 lkX10_mapBlock nl_X2_123 isX10_mapBlock rfl (Nat.le_of_ble_eq_true rfl) rfl (c_mapBlock hG.nd (g := 0) (by omega) I) ?_
  refine am_iload_n dX2_hasWrongMap_21 rfl ?_
  refine am_callVx (i := 0) (j := 21) (as := [.inl (nI 128), .inl (nI 12)]) (rest := []) dX2_hasWrongMap_22 lkX2_at ml_X2_84 imX2_at seX2_at rfl rfl (hG.m0 (by decide)) rfl (Nat.le_of_ble_eq_true rfl) rfl (c_at hG (by omega) (by omega) I hS) ?_
  refine am_top (show I 0 1 (128 * 16 + 12) = nI 0 from (hD (128 * 16 + 12)).trans rfl) ?_
  refine am_iload_n dX2_hasWrongMap_25 rfl ?_
  refine am_iconst (v := nI 3) dX2_hasWrongMap_26 (by decide) ?_
  refine am_icmp_ge (tgt := 43) dX2_hasWrongMap_27 (by decide) (fun _ => ?_) (fun h => absurd h (by decide))
  refine am_iconst (v := nI 0) dX2_hasWrongMap_43 (by decide) ?_
  refine am_icmp_eq (tgt := 49) dX2_hasWrongMap_44 (by decide) (fun _ => ?_) (fun h => absurd h (by decide))
  refine am_iinc (v := nI 13) dX2_hasWrongMap_49 rfl (by decide) ?_
  refine am_goto (tgt := 10) dX2_hasWrongMap_52 (by decide) ?_
  refine am_iload_n dX2_hasWrongMap_10 rfl ?_
  refine am_bipush (v := nI 16) dX2_hasWrongMap_11 (by decide) ?_
  refine am_icmp_ge (tgt := 55) dX2_hasWrongMap_13 (by decide) (fun h => absurd h (by decide)) (fun _ => ?_)
  refine am_aload_n dX2_hasWrongMap_16 rfl ?_
  refine am_iload_n dX2_hasWrongMap_17 rfl ?_
  refine am_callSNx (as := [.inl (nI 0)]) (rest := [.inr (0, 21)]) dX2_hasWrongMap_18 lkX10_mapBlock nl_X2_123 isX10_mapBlock rfl (Nat.le_of_ble_eq_true rfl) rfl (c_mapBlock hG.nd (g := 0) (by omega) I) ?_
  refine am_iload_n dX2_hasWrongMap_21 rfl ?_
  refine am_callVx (i := 0) (j := 21) (as := [.inl (nI 128), .inl (nI 13)]) (rest := []) dX2_hasWrongMap_22 lkX2_at ml_X2_84 imX2_at seX2_at rfl rfl (hG.m0 (by decide)) rfl (Nat.le_of_ble_eq_true rfl) rfl (c_at hG (by omega) (by omega) I hS) ?_
  refine am_top (show I 0 1 (128 * 16 + 13) = nI 0 from (hD (128 * 16 + 13)).trans rfl) ?_
  refine am_iload_n dX2_hasWrongMap_25 rfl ?_
  refine am_iconst (v := nI 3) dX2_hasWrongMap_26 (by decide) ?_
  refine am_icmp_ge (tgt := 43) dX2_hasWrongMap_27 (by decide) (fun _ => ?_) (fun h => absurd h (by decide))
  refine am_iconst (v := nI 0) dX2_hasWrongMap_43 (by decide) ?_
  refine am_icmp_eq (tgt := 49) dX2_hasWrongMap_44 (by decide) (fun _ => ?_) (fun h => absurd h (by decide))
  refine am_iinc (v := nI 14) dX2_hasWrongMap_49 rfl (by decide) ?_
  refine am_goto (tgt := 10) dX2_hasWrongMap_52 (by decide) ?_
  refine am_iload_n dX2_hasWrongMap_10 rfl ?_
  refine am_bipush (v := nI 16) dX2_hasWrongMap_11 (by decide) ?_
  refine am_icmp_ge (tgt := 55) dX2_hasWrongMap_13 (by decide) (fun h => absurd h (by decide)) (fun _ => ?_)
  refine am_aload_n dX2_hasWrongMap_16 rfl ?_
  refine am_iload_n dX2_hasWrongMap_17 rfl ?_
  refine am_callSNx (as := [.inl (nI 0)]) (rest := [.inr (0, 21)]) dX2_hasWrongMap_18 lkX10_mapBlock nl_X2_123 isX10_mapBlock rfl (Nat.le_of_ble_eq_true rfl) rfl (c_mapBlock hG.nd (g := 0) (by omega) I) ?_
  refine am_iload_n dX2_hasWrongMap_21 rfl ?_
  refine am_callVx (i := 0) (j := 21) (as := [.inl (nI 128), .inl (nI 14)]) (rest := []) dX2_hasWrongMap_22 lkX2_at ml_X2_84 imX2_at seX2_at rfl rfl (hG.m0 (by decide)) rfl (Nat.le_of_ble_eq_true rfl) rfl (c_at hG (by omega) (by omega) I hS) ?_
  refine am_top (show I 0 1 (128 * 16 + 14) = nI 0 from (hD (128 * 16 + 14)).trans rfl) ?_
  refine am_iload_n dX2_hasWrongMap_25 rfl ?_
  refine am_iconst (v := nI 3) dX2_hasWrongMap_26 (by decide) ?_
  refine am_icmp_ge (tgt := 43) dX2_hasWrongMap_27 (by decide) (fun _ => ?_) (fun h => absurd h (by decide))
  refine am_iconst (v := nI 0) dX2_hasWrongMap_43 (by decide) ?_
  refine am_icmp_eq (tgt := 49) dX2_hasWrongMap_44 (by decide) (fun _ => ?_) (fun h => absurd h (by decide))
  refine am_iinc (v := nI 15) dX2_hasWrongMap_49 rfl (by decide) ?_
  refine am_goto (tgt := 10) dX2_hasWrongMap_52 (by decide) ?_
  refine am_iload_n dX2_hasWrongMap_10 rfl ?_
  refine am_bipush (v := nI 16) dX2_hasWrongMap_11 (by decide) ?_
  refine am_icmp_ge (tgt := 55) dX2_hasWrongMap_13 (by decide) (fun h => absurd h (by decide)) (fun _ => ?_)
  refine am_aload_n dX2_hasWrongMap_16 rfl ?_
  refine am_iload_n dX2_hasWrongMap_17 rfl ?_
  refine am_callSNx (as := [.inl (nI 0)]) (rest := [.inr (0, 21)]) dX2_hasWrongMap_18 lkX10_mapBlock nl_X2_123 isX10_mapBlock rfl (Nat.le_of_ble_eq_true rfl) rfl (c_mapBlock hG.nd (g := 0) (by omega) I) ?_
  refine am_iload_n dX2_hasWrongMap_21 rfl ?_
  refine am_callVx (i := 0) (j := 21) (as := [.inl (nI 128), .inl (nI 15)]) (rest := []) dX2_hasWrongMap_22 lkX2_at ml_X2_84 imX2_at seX2_at rfl rfl (hG.m0 (by decide)) rfl (Nat.le_of_ble_eq_true rfl) rfl (c_at hG (by omega) (by omega) I hS) ?_
  refine am_top (show I 0 1 (128 * 16 + 15) = nI 0 from (hD (128 * 16 + 15)).trans rfl) ?_
  refine am_iload_n dX2_hasWrongMap_25 rfl ?_
  refine am_iconst (v := nI 3) dX2_hasWrongMap_26 (by decide) ?_
  refine am_icmp_ge (tgt := 43) dX2_hasWrongMap_27 (by decide) (fun _ => ?_) (fun h => absurd h (by decide))
  refine am_iconst (v := nI 0) dX2_hasWrongMap_43 (by decide) ?_
  refine am_icmp_eq (tgt := 49) dX2_hasWrongMap_44 (by decide) (fun _ => ?_) (fun h => absurd h (by decide))
  refine am_iinc (v := nI 16) dX2_hasWrongMap_49 rfl (by decide) ?_
  refine am_goto (tgt := 10) dX2_hasWrongMap_52 (by decide) ?_
  refine am_iload_n dX2_hasWrongMap_10 rfl ?_
  refine am_bipush (v := nI 16) dX2_hasWrongMap_11 (by decide) ?_
  refine am_icmp_ge (tgt := 55) dX2_hasWrongMap_13 (by decide) (fun _ => ?_) (fun h => absurd h (by decide))
  refine am_iinc (v := nI 1) dX2_hasWrongMap_55 rfl (by decide) ?_
  refine am_goto (tgt := 2) dX2_hasWrongMap_58 (by decide) ?_
  refine am_iload_n dX2_hasWrongMap_2 rfl ?_
  refine am_bipush (v := nI 8) dX2_hasWrongMap_3 (by decide) ?_
  refine am_icmp_ge (tgt := 61) dX2_hasWrongMap_5 (by decide) (fun h => absurd h (by decide)) (fun _ => ?_)
  refine am_iconst (v := nI 0) dX2_hasWrongMap_8 (by decide) ?_
  refine am_istore_n dX2_hasWrongMap_9 (by decide) ?_
  refine am_iload_n dX2_hasWrongMap_10 rfl ?_
  refine am_bipush (v := nI 16) dX2_hasWrongMap_11 (by decide) ?_
  refine am_icmp_ge (tgt := 55) dX2_hasWrongMap_13 (by decide) (fun h => absurd h (by decide)) (fun _ => ?_)
  refine am_aload_n dX2_hasWrongMap_16 rfl ?_
  refine am_iload_n dX2_hasWrongMap_17 rfl ?_
  refine am_callSNx (as := [.inl (nI 1)]) (rest := [.inr (0, 21)]) dX2_hasWrongMap_18 lkX10_mapBlock nl_X2_123 isX10_mapBlock rfl (Nat.le_of_ble_eq_true rfl) rfl (c_mapBlock hG.nd (g := 1) (by omega) I) ?_
  refine am_iload_n dX2_hasWrongMap_21 rfl ?_
  refine am_callVx (i := 0) (j := 21) (as := [.inl (nI 192), .inl (nI 0)]) (rest := []) dX2_hasWrongMap_22 lkX2_at ml_X2_84 imX2_at seX2_at rfl rfl (hG.m0 (by decide)) rfl (Nat.le_of_ble_eq_true rfl) rfl (c_at hG (by omega) (by omega) I hS) ?_
  refine am_top (show I 0 1 (192 * 16 + 0) = nI 0 from (hD (192 * 16 + 0)).trans rfl) ?_
  refine am_iload_n dX2_hasWrongMap_25 rfl ?_
  refine am_iconst (v := nI 3) dX2_hasWrongMap_26 (by decide) ?_
  refine am_icmp_ge (tgt := 43) dX2_hasWrongMap_27 (by decide) (fun h => absurd h (by decide)) (fun _ => ?_)
  refine am_aload_n dX2_hasWrongMap_30 rfl ?_
  refine am_get (v := .inr (0, 26)) dX2_hasWrongMap_31 fl_2_25 (hG.m0 (by decide)) rfl ?_
  refine am_iload_n dX2_hasWrongMap_34 rfl ?_
  refine am_iconst (v := nI 3) dX2_hasWrongMap_35 (by decide) ?_
  refine am_imul dX2_hasWrongMap_36 ?_
  refine am_top (show (nI 1) * (nI 3) = nI 3 by decide) ?_
  refine am_iload_n dX2_hasWrongMap_37 rfl ?_
  refine am_iadd dX2_hasWrongMap_38 ?_
  refine am_top (show (nI 3) + (nI 0) = nI 3 by decide) ?_
  refine am_iald (a := 3) dX2_hasWrongMap_39 (hG.m0 (by decide)) rfl rfl (show 3 < 24 from (by omega)) (show 24 < 2 ^ 31 by decide) ?_
  refine am_top ((hB 3 (by decide)).trans rfl) ?_
  refine am_goto (tgt := 44) dX2_hasWrongMap_40 (by decide) ?_
  refine am_icmp_eq (tgt := 49) dX2_hasWrongMap_44 (by decide) (fun _ => ?_) (fun h => absurd h (by decide))
  refine am_iinc (v := nI 1) dX2_hasWrongMap_49 rfl (by decide) ?_
  refine am_goto (tgt := 10) dX2_hasWrongMap_52 (by decide) ?_
  refine am_iload_n dX2_hasWrongMap_10 rfl ?_
  refine am_bipush (v := nI 16) dX2_hasWrongMap_11 (by decide) ?_
  refine am_icmp_ge (tgt := 55) dX2_hasWrongMap_13 (by decide) (fun h => absurd h (by decide)) (fun _ => ?_)
  refine am_aload_n dX2_hasWrongMap_16 rfl ?_
  refine am_iload_n dX2_hasWrongMap_17 rfl ?_
  refine am_callSNx (as := [.inl (nI 1)]) (rest := [.inr (0, 21)]) dX2_hasWrongMap_18 lkX10_mapBlock nl_X2_123 isX10_mapBlock rfl (Nat.le_of_ble_eq_true rfl) rfl (c_mapBlock hG.nd (g := 1) (by omega) I) ?_
  refine am_iload_n dX2_hasWrongMap_21 rfl ?_
  refine am_callVx (i := 0) (j := 21) (as := [.inl (nI 192), .inl (nI 1)]) (rest := []) dX2_hasWrongMap_22 lkX2_at ml_X2_84 imX2_at seX2_at rfl rfl (hG.m0 (by decide)) rfl (Nat.le_of_ble_eq_true rfl) rfl (c_at hG (by omega) (by omega) I hS) ?_
  refine am_top (show I 0 1 (192 * 16 + 1) = nI 0 from (hD (192 * 16 + 1)).trans rfl) ?_
  refine am_iload_n dX2_hasWrongMap_25 rfl ?_
  refine am_iconst (v := nI 3) dX2_hasWrongMap_26 (by decide) ?_
  refine am_icmp_ge (tgt := 43) dX2_hasWrongMap_27 (by decide) (fun h => absurd h (by decide)) (fun _ => ?_)
  refine am_aload_n dX2_hasWrongMap_30 rfl ?_
  refine am_get (v := .inr (0, 26)) dX2_hasWrongMap_31 fl_2_25 (hG.m0 (by decide)) rfl ?_
  refine am_iload_n dX2_hasWrongMap_34 rfl ?_
  refine am_iconst (v := nI 3) dX2_hasWrongMap_35 (by decide) ?_
  refine am_imul dX2_hasWrongMap_36 ?_
  refine am_top (show (nI 1) * (nI 3) = nI 3 by decide) ?_
  refine am_iload_n dX2_hasWrongMap_37 rfl ?_
  refine am_iadd dX2_hasWrongMap_38 ?_
  refine am_top (show (nI 3) + (nI 1) = nI 4 by decide) ?_
  refine am_iald (a := 4) dX2_hasWrongMap_39 (hG.m0 (by decide)) rfl rfl (show 4 < 24 from (by omega)) (show 24 < 2 ^ 31 by decide) ?_
  refine am_top ((hB 4 (by decide)).trans rfl) ?_
  refine am_goto (tgt := 44) dX2_hasWrongMap_40 (by decide) ?_
  refine am_icmp_eq (tgt := 49) dX2_hasWrongMap_44 (by decide) (fun _ => ?_) (fun h => absurd h (by decide))
  refine am_iinc (v := nI 2) dX2_hasWrongMap_49 rfl (by decide) ?_
  refine am_goto (tgt := 10) dX2_hasWrongMap_52 (by decide) ?_
  refine am_iload_n dX2_hasWrongMap_10 rfl ?_
  refine am_bipush (v := nI 16) dX2_hasWrongMap_11 (by decide) ?_
  refine am_icmp_ge (tgt := 55) dX2_hasWrongMap_13 (by decide) (fun h => absurd h (by decide)) (fun _ => ?_)
  refine am_aload_n dX2_hasWrongMap_16 rfl ?_
  refine am_iload_n dX2_hasWrongMap_17 rfl ?_
  refine am_callSNx (as := [.inl (nI 1)]) (rest := [.inr (0, 21)]) dX2_hasWrongMap_18 lkX10_mapBlock nl_X2_123 isX10_mapBlock rfl (Nat.le_of_ble_eq_true rfl) rfl (c_mapBlock hG.nd (g := 1) (by omega) I) ?_
  refine am_iload_n dX2_hasWrongMap_21 rfl ?_
  refine am_callVx (i := 0) (j := 21) (as := [.inl (nI 192), .inl (nI 2)]) (rest := []) dX2_hasWrongMap_22 lkX2_at ml_X2_84 imX2_at seX2_at rfl rfl (hG.m0 (by decide)) rfl (Nat.le_of_ble_eq_true rfl) rfl (c_at hG (by omega) (by omega) I hS) ?_
  refine am_top (show I 0 1 (192 * 16 + 2) = nI 0 from (hD (192 * 16 + 2)).trans rfl) ?_
  refine am_iload_n dX2_hasWrongMap_25 rfl ?_
  refine am_iconst (v := nI 3) dX2_hasWrongMap_26 (by decide) ?_
  refine am_icmp_ge (tgt := 43) dX2_hasWrongMap_27 (by decide) (fun h => absurd h (by decide)) (fun _ => ?_)
  refine am_aload_n dX2_hasWrongMap_30 rfl ?_
  refine am_get (v := .inr (0, 26)) dX2_hasWrongMap_31 fl_2_25 (hG.m0 (by decide)) rfl ?_
  refine am_iload_n dX2_hasWrongMap_34 rfl ?_
  refine am_iconst (v := nI 3) dX2_hasWrongMap_35 (by decide) ?_
  refine am_imul dX2_hasWrongMap_36 ?_
  refine am_top (show (nI 1) * (nI 3) = nI 3 by decide) ?_
  refine am_iload_n dX2_hasWrongMap_37 rfl ?_
  refine am_iadd dX2_hasWrongMap_38 ?_
  refine am_top (show (nI 3) + (nI 2) = nI 5 by decide) ?_
  refine am_iald (a := 5) dX2_hasWrongMap_39 (hG.m0 (by decide)) rfl rfl (show 5 < 24 from (by omega)) (show 24 < 2 ^ 31 by decide) ?_
  refine am_top ((hB 5 (by decide)).trans rfl) ?_
  refine am_goto (tgt := 44) dX2_hasWrongMap_40 (by decide) ?_
  refine am_icmp_eq (tgt := 49) dX2_hasWrongMap_44 (by decide) (fun _ => ?_) (fun h => absurd h (by decide))
  refine am_iinc (v := nI 3) dX2_hasWrongMap_49 rfl (by decide) ?_
  refine am_goto (tgt := 10) dX2_hasWrongMap_52 (by decide) ?_
  refine am_iload_n dX2_hasWrongMap_10 rfl ?_
  refine am_bipush (v := nI 16) dX2_hasWrongMap_11 (by decide) ?_
  refine am_icmp_ge (tgt := 55) dX2_hasWrongMap_13 (by decide) (fun h => absurd h (by decide)) (fun _ => ?_)
  refine am_aload_n dX2_hasWrongMap_16 rfl ?_
  refine am_iload_n dX2_hasWrongMap_17 rfl ?_
  refine am_callSNx (as := [.inl (nI 1)]) (rest := [.inr (0, 21)]) dX2_hasWrongMap_18 lkX10_mapBlock nl_X2_123 isX10_mapBlock rfl (Nat.le_of_ble_eq_true rfl) rfl (c_mapBlock hG.nd (g := 1) (by omega) I) ?_
  refine am_iload_n dX2_hasWrongMap_21 rfl ?_
  refine am_callVx (i := 0) (j := 21) (as := [.inl (nI 192), .inl (nI 3)]) (rest := []) dX2_hasWrongMap_22 lkX2_at ml_X2_84 imX2_at seX2_at rfl rfl (hG.m0 (by decide)) rfl (Nat.le_of_ble_eq_true rfl) rfl (c_at hG (by omega) (by omega) I hS) ?_
  refine am_top (show I 0 1 (192 * 16 + 3) = nI 0 from (hD (192 * 16 + 3)).trans rfl) ?_
  refine am_iload_n dX2_hasWrongMap_25 rfl ?_
  refine am_iconst (v := nI 3) dX2_hasWrongMap_26 (by decide) ?_
  refine am_icmp_ge (tgt := 43) dX2_hasWrongMap_27 (by decide) (fun _ => ?_) (fun h => absurd h (by decide))
  refine am_iconst (v := nI 0) dX2_hasWrongMap_43 (by decide) ?_
  refine am_icmp_eq (tgt := 49) dX2_hasWrongMap_44 (by decide) (fun _ => ?_) (fun h => absurd h (by decide))
  refine am_iinc (v := nI 4) dX2_hasWrongMap_49 rfl (by decide) ?_
  refine am_goto (tgt := 10) dX2_hasWrongMap_52 (by decide) ?_
  refine am_iload_n dX2_hasWrongMap_10 rfl ?_
  refine am_bipush (v := nI 16) dX2_hasWrongMap_11 (by decide) ?_
  refine am_icmp_ge (tgt := 55) dX2_hasWrongMap_13 (by decide) (fun h => absurd h (by decide)) (fun _ => ?_)
  refine am_aload_n dX2_hasWrongMap_16 rfl ?_
  refine am_iload_n dX2_hasWrongMap_17 rfl ?_
  refine am_callSNx (as := [.inl (nI 1)]) (rest := [.inr (0, 21)]) dX2_hasWrongMap_18 lkX10_mapBlock nl_X2_123 isX10_mapBlock rfl (Nat.le_of_ble_eq_true rfl) rfl (c_mapBlock hG.nd (g := 1) (by omega) I) ?_
  refine am_iload_n dX2_hasWrongMap_21 rfl ?_
  refine am_callVx (i := 0) (j := 21) (as := [.inl (nI 192), .inl (nI 4)]) (rest := []) dX2_hasWrongMap_22 lkX2_at ml_X2_84 imX2_at seX2_at rfl rfl (hG.m0 (by decide)) rfl (Nat.le_of_ble_eq_true rfl) rfl (c_at hG (by omega) (by omega) I hS) ?_
  refine am_top (show I 0 1 (192 * 16 + 4) = nI 0 from (hD (192 * 16 + 4)).trans rfl) ?_
  refine am_iload_n dX2_hasWrongMap_25 rfl ?_
  refine am_iconst (v := nI 3) dX2_hasWrongMap_26 (by decide) ?_
  refine am_icmp_ge (tgt := 43) dX2_hasWrongMap_27 (by decide) (fun _ => ?_) (fun h => absurd h (by decide))
  refine am_iconst (v := nI 0) dX2_hasWrongMap_43 (by decide) ?_
  refine am_icmp_eq (tgt := 49) dX2_hasWrongMap_44 (by decide) (fun _ => ?_) (fun h => absurd h (by decide))
  refine am_iinc (v := nI 5) dX2_hasWrongMap_49 rfl (by decide) ?_
  refine am_goto (tgt := 10) dX2_hasWrongMap_52 (by decide) ?_
  refine am_iload_n dX2_hasWrongMap_10 rfl ?_
  refine am_bipush (v := nI 16) dX2_hasWrongMap_11 (by decide) ?_
  refine am_icmp_ge (tgt := 55) dX2_hasWrongMap_13 (by decide) (fun h => absurd h (by decide)) (fun _ => ?_)
  refine am_aload_n dX2_hasWrongMap_16 rfl ?_
  refine am_iload_n dX2_hasWrongMap_17 rfl ?_
  refine am_callSNx (as := [.inl (nI 1)]) (rest := [.inr (0, 21)]) dX2_hasWrongMap_18 lkX10_mapBlock nl_X2_123 isX10_mapBlock rfl (Nat.le_of_ble_eq_true rfl) rfl (c_mapBlock hG.nd (g := 1) (by omega) I) ?_
  refine am_iload_n dX2_hasWrongMap_21 rfl ?_
  refine am_callVx (i := 0) (j := 21) (as := [.inl (nI 192), .inl (nI 5)]) (rest := []) dX2_hasWrongMap_22 lkX2_at ml_X2_84 imX2_at seX2_at rfl rfl (hG.m0 (by decide)) rfl (Nat.le_of_ble_eq_true rfl) rfl (c_at hG (by omega) (by omega) I hS) ?_
  refine am_top (show I 0 1 (192 * 16 + 5) = nI 0 from (hD (192 * 16 + 5)).trans rfl) ?_
  refine am_iload_n dX2_hasWrongMap_25 rfl ?_
  refine am_iconst (v := nI 3) dX2_hasWrongMap_26 (by decide) ?_
  refine am_icmp_ge (tgt := 43) dX2_hasWrongMap_27 (by decide) (fun _ => ?_) (fun h => absurd h (by decide))
  refine am_iconst (v := nI 0) dX2_hasWrongMap_43 (by decide) ?_
  refine am_icmp_eq (tgt := 49) dX2_hasWrongMap_44 (by decide) (fun _ => ?_) (fun h => absurd h (by decide))
  refine am_iinc (v := nI 6) dX2_hasWrongMap_49 rfl (by decide) ?_
  refine am_goto (tgt := 10) dX2_hasWrongMap_52 (by decide) ?_
  refine am_iload_n dX2_hasWrongMap_10 rfl ?_
  refine am_bipush (v := nI 16) dX2_hasWrongMap_11 (by decide) ?_
  refine am_icmp_ge (tgt := 55) dX2_hasWrongMap_13 (by decide) (fun h => absurd h (by decide)) (fun _ => ?_)
  refine am_aload_n dX2_hasWrongMap_16 rfl ?_
  refine am_iload_n dX2_hasWrongMap_17 rfl ?_
  refine am_callSNx (as := [.inl (nI 1)]) (rest := [.inr (0, 21)]) dX2_hasWrongMap_18 lkX10_mapBlock nl_X2_123 isX10_mapBlock rfl (Nat.le_of_ble_eq_true rfl) rfl (c_mapBlock hG.nd (g := 1) (by omega) I) ?_
  refine am_iload_n dX2_hasWrongMap_21 rfl ?_
  refine am_callVx (i := 0) (j := 21) (as := [.inl (nI 192), .inl (nI 6)]) (rest := []) dX2_hasWrongMap_22 lkX2_at ml_X2_84 imX2_at seX2_at rfl rfl (hG.m0 (by decide)) rfl (Nat.le_of_ble_eq_true rfl) rfl (c_at hG (by omega) (by omega) I hS) ?_
  refine am_top (show I 0 1 (192 * 16 + 6) = nI 0 from (hD (192 * 16 + 6)).trans rfl) ?_
  refine am_iload_n dX2_hasWrongMap_25 rfl ?_
  refine am_iconst (v := nI 3) dX2_hasWrongMap_26 (by decide) ?_
  refine am_icmp_ge (tgt := 43) dX2_hasWrongMap_27 (by decide) (fun _ => ?_) (fun h => absurd h (by decide))
  refine am_iconst (v := nI 0) dX2_hasWrongMap_43 (by decide) ?_
  refine am_icmp_eq (tgt := 49) dX2_hasWrongMap_44 (by decide) (fun _ => ?_) (fun h => absurd h (by decide))
  refine am_iinc (v := nI 7) dX2_hasWrongMap_49 rfl (by decide) ?_
  refine am_goto (tgt := 10) dX2_hasWrongMap_52 (by decide) ?_
  refine am_iload_n dX2_hasWrongMap_10 rfl ?_
  refine am_bipush (v := nI 16) dX2_hasWrongMap_11 (by decide) ?_
  refine am_icmp_ge (tgt := 55) dX2_hasWrongMap_13 (by decide) (fun h => absurd h (by decide)) (fun _ => ?_)
  refine am_aload_n dX2_hasWrongMap_16 rfl ?_
  refine am_iload_n dX2_hasWrongMap_17 rfl ?_
  refine am_callSNx (as := [.inl (nI 1)]) (rest := [.inr (0, 21)]) dX2_hasWrongMap_18 lkX10_mapBlock nl_X2_123 isX10_mapBlock rfl (Nat.le_of_ble_eq_true rfl) rfl (c_mapBlock hG.nd (g := 1) (by omega) I) ?_
  refine am_iload_n dX2_hasWrongMap_21 rfl ?_
  refine am_callVx (i := 0) (j := 21) (as := [.inl (nI 192), .inl (nI 7)]) (rest := []) dX2_hasWrongMap_22 lkX2_at ml_X2_84 imX2_at seX2_at rfl rfl (hG.m0 (by decide)) rfl (Nat.le_of_ble_eq_true rfl) rfl (c_at hG (by omega) (by omega) I hS) ?_
  refine am_top (show I 0 1 (192 * 16 + 7) = nI 0 from (hD (192 * 16 + 7)).trans rfl) ?_
  refine am_iload_n dX2_hasWrongMap_25 rfl ?_
  refine am_iconst (v := nI 3) dX2_hasWrongMap_26 (by decide) ?_
  refine am_icmp_ge (tgt := 43) dX2_hasWrongMap_27 (by decide) (fun _ => ?_) (fun h => absurd h (by decide))
  refine am_iconst (v := nI 0) dX2_hasWrongMap_43 (by decide) ?_
  refine am_icmp_eq (tgt := 49) dX2_hasWrongMap_44 (by decide) (fun _ => ?_) (fun h => absurd h (by decide))
  refine am_iinc (v := nI 8) dX2_hasWrongMap_49 rfl (by decide) ?_
  refine am_goto (tgt := 10) dX2_hasWrongMap_52 (by decide) ?_
  refine am_iload_n dX2_hasWrongMap_10 rfl ?_
  refine am_bipush (v := nI 16) dX2_hasWrongMap_11 (by decide) ?_
  refine am_icmp_ge (tgt := 55) dX2_hasWrongMap_13 (by decide) (fun h => absurd h (by decide)) (fun _ => ?_)
  refine am_aload_n dX2_hasWrongMap_16 rfl ?_
  refine am_iload_n dX2_hasWrongMap_17 rfl ?_
  refine am_callSNx (as := [.inl (nI 1)]) (rest := [.inr (0, 21)]) dX2_hasWrongMap_18 lkX10_mapBlock nl_X2_123 isX10_mapBlock rfl (Nat.le_of_ble_eq_true rfl) rfl (c_mapBlock hG.nd (g := 1) (by omega) I) ?_
  refine am_iload_n dX2_hasWrongMap_21 rfl ?_
  refine am_callVx (i := 0) (j := 21) (as := [.inl (nI 192), .inl (nI 8)]) (rest := []) dX2_hasWrongMap_22 lkX2_at ml_X2_84 imX2_at seX2_at rfl rfl (hG.m0 (by decide)) rfl (Nat.le_of_ble_eq_true rfl) rfl (c_at hG (by omega) (by omega) I hS) ?_
  refine am_top (show I 0 1 (192 * 16 + 8) = nI 0 from (hD (192 * 16 + 8)).trans rfl) ?_
  refine am_iload_n dX2_hasWrongMap_25 rfl ?_
  refine am_iconst (v := nI 3) dX2_hasWrongMap_26 (by decide) ?_
  refine am_icmp_ge (tgt := 43) dX2_hasWrongMap_27 (by decide) (fun _ => ?_) (fun h => absurd h (by decide))
  refine am_iconst (v := nI 0) dX2_hasWrongMap_43 (by decide) ?_
  refine am_icmp_eq (tgt := 49) dX2_hasWrongMap_44 (by decide) (fun _ => ?_) (fun h => absurd h (by decide))
  refine am_iinc (v := nI 9) dX2_hasWrongMap_49 rfl (by decide) ?_
  refine am_goto (tgt := 10) dX2_hasWrongMap_52 (by decide) ?_
  refine am_iload_n dX2_hasWrongMap_10 rfl ?_
  refine am_bipush (v := nI 16) dX2_hasWrongMap_11 (by decide) ?_
  refine am_icmp_ge (tgt := 55) dX2_hasWrongMap_13 (by decide) (fun h => absurd h (by decide)) (fun _ => ?_)
  refine am_aload_n dX2_hasWrongMap_16 rfl ?_
  refine am_iload_n dX2_hasWrongMap_17 rfl ?_
  refine am_callSNx (as := [.inl (nI 1)]) (rest := [.inr (0, 21)]) dX2_hasWrongMap_18 lkX10_mapBlock nl_X2_123 isX10_mapBlock rfl (Nat.le_of_ble_eq_true rfl) rfl (c_mapBlock hG.nd (g := 1) (by omega) I) ?_
  refine am_iload_n dX2_hasWrongMap_21 rfl ?_
  refine am_callVx (i := 0) (j := 21) (as := [.inl (nI 192), .inl (nI 9)]) (rest := []) dX2_hasWrongMap_22 lkX2_at ml_X2_84 imX2_at seX2_at rfl rfl (hG.m0 (by decide)) rfl (Nat.le_of_ble_eq_true rfl) rfl (c_at hG (by omega) (by omega) I hS) ?_
  refine am_top (show I 0 1 (192 * 16 + 9) = nI 0 from (hD (192 * 16 + 9)).trans rfl) ?_
  refine am_iload_n dX2_hasWrongMap_25 rfl ?_
  refine am_iconst (v := nI 3) dX2_hasWrongMap_26 (by decide) ?_
  refine am_icmp_ge (tgt := 43) dX2_hasWrongMap_27 (by decide) (fun _ => ?_) (fun h => absurd h (by decide))
  refine am_iconst (v := nI 0) dX2_hasWrongMap_43 (by decide) ?_
  refine am_icmp_eq (tgt := 49) dX2_hasWrongMap_44 (by decide) (fun _ => ?_) (fun h => absurd h (by decide))
  refine am_iinc (v := nI 10) dX2_hasWrongMap_49 rfl (by decide) ?_
  refine am_goto (tgt := 10) dX2_hasWrongMap_52 (by decide) ?_
  refine am_iload_n dX2_hasWrongMap_10 rfl ?_
  refine am_bipush (v := nI 16) dX2_hasWrongMap_11 (by decide) ?_
  refine am_icmp_ge (tgt := 55) dX2_hasWrongMap_13 (by decide) (fun h => absurd h (by decide)) (fun _ => ?_)
  refine am_aload_n dX2_hasWrongMap_16 rfl ?_
  refine am_iload_n dX2_hasWrongMap_17 rfl ?_
  refine am_callSNx (as := [.inl (nI 1)]) (rest := [.inr (0, 21)]) dX2_hasWrongMap_18 lkX10_mapBlock nl_X2_123 isX10_mapBlock rfl (Nat.le_of_ble_eq_true rfl) rfl (c_mapBlock hG.nd (g := 1) (by omega) I) ?_
  refine am_iload_n dX2_hasWrongMap_21 rfl ?_
  refine am_callVx (i := 0) (j := 21) (as := [.inl (nI 192), .inl (nI 10)]) (rest := []) dX2_hasWrongMap_22 lkX2_at ml_X2_84 imX2_at seX2_at rfl rfl (hG.m0 (by decide)) rfl (Nat.le_of_ble_eq_true rfl) rfl (c_at hG (by omega) (by omega) I hS) ?_
  refine am_top (show I 0 1 (192 * 16 + 10) = nI 0 from (hD (192 * 16 + 10)).trans rfl) ?_
  refine am_iload_n dX2_hasWrongMap_25 rfl ?_
  refine am_iconst (v := nI 3) dX2_hasWrongMap_26 (by decide) ?_
  refine am_icmp_ge (tgt := 43) dX2_hasWrongMap_27 (by decide) (fun _ => ?_) (fun h => absurd h (by decide))
  refine am_iconst (v := nI 0) dX2_hasWrongMap_43 (by decide) ?_
  refine am_icmp_eq (tgt := 49) dX2_hasWrongMap_44 (by decide) (fun _ => ?_) (fun h => absurd h (by decide))
  refine am_iinc (v := nI 11) dX2_hasWrongMap_49 rfl (by decide) ?_
  refine am_goto (tgt := 10) dX2_hasWrongMap_52 (by decide) ?_
  refine am_iload_n dX2_hasWrongMap_10 rfl ?_
  refine am_bipush (v := nI 16) dX2_hasWrongMap_11 (by decide) ?_
  refine am_icmp_ge (tgt := 55) dX2_hasWrongMap_13 (by decide) (fun h => absurd h (by decide)) (fun _ => ?_)
  refine am_aload_n dX2_hasWrongMap_16 rfl ?_
  refine am_iload_n dX2_hasWrongMap_17 rfl ?_
  refine am_callSNx (as := [.inl (nI 1)]) (rest := [.inr (0, 21)]) dX2_hasWrongMap_18 lkX10_mapBlock nl_X2_123 isX10_mapBlock rfl (Nat.le_of_ble_eq_true rfl) rfl (c_mapBlock hG.nd (g := 1) (by omega) I) ?_
  refine am_iload_n dX2_hasWrongMap_21 rfl ?_
  refine am_callVx (i := 0) (j := 21) (as := [.inl (nI 192), .inl (nI 11)]) (rest := []) dX2_hasWrongMap_22 lkX2_at ml_X2_84 imX2_at seX2_at rfl rfl (hG.m0 (by decide)) rfl (Nat.le_of_ble_eq_true rfl) rfl (c_at hG (by omega) (by omega) I hS) ?_
  refine am_top (show I 0 1 (192 * 16 + 11) = nI 0 from (hD (192 * 16 + 11)).trans rfl) ?_
  refine am_iload_n dX2_hasWrongMap_25 rfl ?_
  refine am_iconst (v := nI 3) dX2_hasWrongMap_26 (by decide) ?_
  refine am_icmp_ge (tgt := 43) dX2_hasWrongMap_27 (by decide) (fun _ => ?_) (fun h => absurd h (by decide))
  refine am_iconst (v := nI 0) dX2_hasWrongMap_43 (by decide) ?_
  refine am_icmp_eq (tgt := 49) dX2_hasWrongMap_44 (by decide) (fun _ => ?_) (fun h => absurd h (by decide))
  refine am_iinc (v := nI 12) dX2_hasWrongMap_49 rfl (by decide) ?_
  refine am_goto (tgt := 10) dX2_hasWrongMap_52 (by decide) ?_
  refine am_iload_n dX2_hasWrongMap_10 rfl ?_
  refine am_bipush (v := nI 16) dX2_hasWrongMap_11 (by decide) ?_
  refine am_icmp_ge (tgt := 55) dX2_hasWrongMap_13 (by decide) (fun h => absurd h (by decide)) (fun _ => ?_)
  refine am_aload_n dX2_hasWrongMap_16 rfl ?_
  refine am_iload_n dX2_hasWrongMap_17 rfl ?_
  refine am_callSNx (as := [.inl (nI 1)]) (rest := [.inr (0, 21)]) dX2_hasWrongMap_18 lkX10_mapBlock nl_X2_123 isX10_mapBlock rfl (Nat.le_of_ble_eq_true rfl) rfl (c_mapBlock hG.nd (g := 1) (by omega) I) ?_
  refine am_iload_n dX2_hasWrongMap_21 rfl ?_
  refine am_callVx (i := 0) (j := 21) (as := [.inl (nI 192), .inl (nI 12)]) (rest := []) dX2_hasWrongMap_22 lkX2_at ml_X2_84 imX2_at seX2_at rfl rfl (hG.m0 (by decide)) rfl (Nat.le_of_ble_eq_true rfl) rfl (c_at hG (by omega) (by omega) I hS) ?_
  refine am_top (show I 0 1 (192 * 16 + 12) = nI 0 from (hD (192 * 16 + 12)).trans rfl) ?_
  refine am_iload_n dX2_hasWrongMap_25 rfl ?_
  refine am_iconst (v := nI 3) dX2_hasWrongMap_26 (by decide) ?_
  refine am_icmp_ge (tgt := 43) dX2_hasWrongMap_27 (by decide) (fun _ => ?_) (fun h => absurd h (by decide))
  refine am_iconst (v := nI 0) dX2_hasWrongMap_43 (by decide) ?_
  refine am_icmp_eq (tgt := 49) dX2_hasWrongMap_44 (by decide) (fun _ => ?_) (fun h => absurd h (by decide))
  refine am_iinc (v := nI 13) dX2_hasWrongMap_49 rfl (by decide) ?_
  refine am_goto (tgt := 10) dX2_hasWrongMap_52 (by decide) ?_
  refine am_iload_n dX2_hasWrongMap_10 rfl ?_
  refine am_bipush (v := nI 16) dX2_hasWrongMap_11 (by decide) ?_
  refine am_icmp_ge (tgt := 55) dX2_hasWrongMap_13 (by decide) (fun h => absurd h (by decide)) (fun _ => ?_)
  refine am_aload_n dX2_hasWrongMap_16 rfl ?_
  refine am_iload_n dX2_hasWrongMap_17 rfl ?_
  refine am_callSNx (as := [.inl (nI 1)]) (rest := [.inr (0, 21)]) dX2_hasWrongMap_18 lkX10_mapBlock nl_X2_123 isX10_mapBlock rfl (Nat.le_of_ble_eq_true rfl) rfl (c_mapBlock hG.nd (g := 1) (by omega) I) ?_
  refine am_iload_n dX2_hasWrongMap_21 rfl ?_
  refine am_callVx (i := 0) (j := 21) (as := [.inl (nI 192), .inl (nI 13)]) (rest := []) dX2_hasWrongMap_22 lkX2_at ml_X2_84 imX2_at seX2_at rfl rfl (hG.m0 (by decide)) rfl (Nat.le_of_ble_eq_true rfl) rfl (c_at hG (by omega) (by omega) I hS) ?_
  refine am_top (show I 0 1 (192 * 16 + 13) = nI 0 from (hD (192 * 16 + 13)).trans rfl) ?_
  refine am_iload_n dX2_hasWrongMap_25 rfl ?_
  refine am_iconst (v := nI 3) dX2_hasWrongMap_26 (by decide) ?_
  refine am_icmp_ge (tgt := 43) dX2_hasWrongMap_27 (by decide) (fun _ => ?_) (fun h => absurd h (by decide))
  refine am_iconst (v := nI 0) dX2_hasWrongMap_43 (by decide) ?_
  refine am_icmp_eq (tgt := 49) dX2_hasWrongMap_44 (by decide) (fun _ => ?_) (fun h => absurd h (by decide))
  refine am_iinc (v := nI 14) dX2_hasWrongMap_49 rfl (by decide) ?_
  refine am_goto (tgt := 10) dX2_hasWrongMap_52 (by decide) ?_
  refine am_iload_n dX2_hasWrongMap_10 rfl ?_
  refine am_bipush (v := nI 16) dX2_hasWrongMap_11 (by decide) ?_
  refine am_icmp_ge (tgt := 55) dX2_hasWrongMap_13 (by decide) (fun h => absurd h (by decide)) (fun _ => ?_)
  refine am_aload_n dX2_hasWrongMap_16 rfl ?_
  refine am_iload_n dX2_hasWrongMap_17 rfl ?_
  refine am_callSNx (as := [.inl (nI 1)]) (rest := [.inr (0, 21)]) dX2_hasWrongMap_18 lkX10_mapBlock nl_X2_123 isX10_mapBlock rfl (Nat.le_of_ble_eq_true rfl) rfl (c_mapBlock hG.nd (g := 1) (by omega) I) ?_
  refine am_iload_n dX2_hasWrongMap_21 rfl ?_
  refine am_callVx (i := 0) (j := 21) (as := [.inl (nI 192), .inl (nI 14)]) (rest := []) dX2_hasWrongMap_22 lkX2_at ml_X2_84 imX2_at seX2_at rfl rfl (hG.m0 (by decide)) rfl (Nat.le_of_ble_eq_true rfl) rfl (c_at hG (by omega) (by omega) I hS) ?_
  refine am_top (show I 0 1 (192 * 16 + 14) = nI 0 from (hD (192 * 16 + 14)).trans rfl) ?_
  refine am_iload_n dX2_hasWrongMap_25 rfl ?_
  refine am_iconst (v := nI 3) dX2_hasWrongMap_26 (by decide) ?_
  refine am_icmp_ge (tgt := 43) dX2_hasWrongMap_27 (by decide) (fun _ => ?_) (fun h => absurd h (by decide))
  refine am_iconst (v := nI 0) dX2_hasWrongMap_43 (by decide) ?_
  refine am_icmp_eq (tgt := 49) dX2_hasWrongMap_44 (by decide) (fun _ => ?_) (fun h => absurd h (by decide))
  refine am_iinc (v := nI 15) dX2_hasWrongMap_49 rfl (by decide) ?_
  refine am_goto (tgt := 10) dX2_hasWrongMap_52 (by decide) ?_
  refine am_iload_n dX2_hasWrongMap_10 rfl ?_
  refine am_bipush (v := nI 16) dX2_hasWrongMap_11 (by decide) ?_
  refine am_icmp_ge (tgt := 55) dX2_hasWrongMap_13 (by decide) (fun h => absurd h (by decide)) (fun _ => ?_)
  refine am_aload_n dX2_hasWrongMap_16 rfl ?_
  refine am_iload_n dX2_hasWrongMap_17 rfl ?_
  refine am_callSNx (as := [.inl (nI 1)]) (rest := [.inr (0, 21)]) dX2_hasWrongMap_18 lkX10_mapBlock nl_X2_123 isX10_mapBlock rfl (Nat.le_of_ble_eq_true rfl) rfl (c_mapBlock hG.nd (g := 1) (by omega) I) ?_
  refine am_iload_n dX2_hasWrongMap_21 rfl ?_
  refine am_callVx (i := 0) (j := 21) (as := [.inl (nI 192), .inl (nI 15)]) (rest := []) dX2_hasWrongMap_22 lkX2_at ml_X2_84 imX2_at seX2_at rfl rfl (hG.m0 (by decide)) rfl (Nat.le_of_ble_eq_true rfl) rfl (c_at hG (by omega) (by omega) I hS) ?_
  refine am_top (show I 0 1 (192 * 16 + 15) = nI 0 from (hD (192 * 16 + 15)).trans rfl) ?_
  refine am_iload_n dX2_hasWrongMap_25 rfl ?_
  refine am_iconst (v := nI 3) dX2_hasWrongMap_26 (by decide) ?_
  refine am_icmp_ge (tgt := 43) dX2_hasWrongMap_27 (by decide) (fun _ => ?_) (fun h => absurd h (by decide))
  refine am_iconst (v := nI 0) dX2_hasWrongMap_43 (by decide) ?_
  refine am_icmp_eq (tgt := 49) dX2_hasWrongMap_44 (by decide) (fun _ => ?_) (fun h => absurd h (by decide))
  refine am_iinc (v := nI 16) dX2_hasWrongMap_49 rfl (by decide) ?_
  refine am_goto (tgt := 10) dX2_hasWrongMap_52 (by decide) ?_
  refine am_iload_n dX2_hasWrongMap_10 rfl ?_
  refine am_bipush (v := nI 16) dX2_hasWrongMap_11 (by decide) ?_
  refine am_icmp_ge (tgt := 55) dX2_hasWrongMap_13 (by decide) (fun _ => ?_) (fun h => absurd h (by decide))
  refine am_iinc (v := nI 2) dX2_hasWrongMap_55 rfl (by decide) ?_
  refine am_goto (tgt := 2) dX2_hasWrongMap_58 (by decide) ?_
  refine am_iload_n dX2_hasWrongMap_2 rfl ?_
  refine am_bipush (v := nI 8) dX2_hasWrongMap_3 (by decide) ?_
  refine am_icmp_ge (tgt := 61) dX2_hasWrongMap_5 (by decide) (fun h => absurd h (by decide)) (fun _ => ?_)
  refine am_iconst (v := nI 0) dX2_hasWrongMap_8 (by decide) ?_
  refine am_istore_n dX2_hasWrongMap_9 (by decide) ?_
  refine am_iload_n dX2_hasWrongMap_10 rfl ?_
  refine am_bipush (v := nI 16) dX2_hasWrongMap_11 (by decide) ?_
  refine am_icmp_ge (tgt := 55) dX2_hasWrongMap_13 (by decide) (fun h => absurd h (by decide)) (fun _ => ?_)
  refine am_aload_n dX2_hasWrongMap_16 rfl ?_
  refine am_iload_n dX2_hasWrongMap_17 rfl ?_
  refine am_callSNx (as := [.inl (nI 2)]) (rest := [.inr (0, 21)]) dX2_hasWrongMap_18 lkX10_mapBlock nl_X2_123 isX10_mapBlock rfl (Nat.le_of_ble_eq_true rfl) rfl (c_mapBlock hG.nd (g := 2) (by omega) I) ?_
  refine am_iload_n dX2_hasWrongMap_21 rfl ?_
  refine am_callVx (i := 0) (j := 21) (as := [.inl (nI 256), .inl (nI 0)]) (rest := []) dX2_hasWrongMap_22 lkX2_at ml_X2_84 imX2_at seX2_at rfl rfl (hG.m0 (by decide)) rfl (Nat.le_of_ble_eq_true rfl) rfl (c_at hG (by omega) (by omega) I hS) ?_
  refine am_top (show I 0 1 (256 * 16 + 0) = nI 0 from (hD (256 * 16 + 0)).trans rfl) ?_
  refine am_iload_n dX2_hasWrongMap_25 rfl ?_
  refine am_iconst (v := nI 3) dX2_hasWrongMap_26 (by decide) ?_
  refine am_icmp_ge (tgt := 43) dX2_hasWrongMap_27 (by decide) (fun h => absurd h (by decide)) (fun _ => ?_)
  refine am_aload_n dX2_hasWrongMap_30 rfl ?_
  refine am_get (v := .inr (0, 26)) dX2_hasWrongMap_31 fl_2_25 (hG.m0 (by decide)) rfl ?_
  refine am_iload_n dX2_hasWrongMap_34 rfl ?_
  refine am_iconst (v := nI 3) dX2_hasWrongMap_35 (by decide) ?_
  refine am_imul dX2_hasWrongMap_36 ?_
  refine am_top (show (nI 2) * (nI 3) = nI 6 by decide) ?_
  refine am_iload_n dX2_hasWrongMap_37 rfl ?_
  refine am_iadd dX2_hasWrongMap_38 ?_
  refine am_top (show (nI 6) + (nI 0) = nI 6 by decide) ?_
  refine am_iald (a := 6) dX2_hasWrongMap_39 (hG.m0 (by decide)) rfl rfl (show 6 < 24 from (by omega)) (show 24 < 2 ^ 31 by decide) ?_
  refine am_top ((hB 6 (by decide)).trans rfl) ?_
  refine am_goto (tgt := 44) dX2_hasWrongMap_40 (by decide) ?_
  refine am_icmp_eq (tgt := 49) dX2_hasWrongMap_44 (by decide) (fun _ => ?_) (fun h => absurd h (by decide))
  refine am_iinc (v := nI 1) dX2_hasWrongMap_49 rfl (by decide) ?_
  refine am_goto (tgt := 10) dX2_hasWrongMap_52 (by decide) ?_
  refine am_iload_n dX2_hasWrongMap_10 rfl ?_
  refine am_bipush (v := nI 16) dX2_hasWrongMap_11 (by decide) ?_
  refine am_icmp_ge (tgt := 55) dX2_hasWrongMap_13 (by decide) (fun h => absurd h (by decide)) (fun _ => ?_)
  refine am_aload_n dX2_hasWrongMap_16 rfl ?_
  refine am_iload_n dX2_hasWrongMap_17 rfl ?_
  refine am_callSNx (as := [.inl (nI 2)]) (rest := [.inr (0, 21)]) dX2_hasWrongMap_18 lkX10_mapBlock nl_X2_123 isX10_mapBlock rfl (Nat.le_of_ble_eq_true rfl) rfl (c_mapBlock hG.nd (g := 2) (by omega) I) ?_
  refine am_iload_n dX2_hasWrongMap_21 rfl ?_
  refine am_callVx (i := 0) (j := 21) (as := [.inl (nI 256), .inl (nI 1)]) (rest := []) dX2_hasWrongMap_22 lkX2_at ml_X2_84 imX2_at seX2_at rfl rfl (hG.m0 (by decide)) rfl (Nat.le_of_ble_eq_true rfl) rfl (c_at hG (by omega) (by omega) I hS) ?_
  refine am_top (show I 0 1 (256 * 16 + 1) = nI 0 from (hD (256 * 16 + 1)).trans rfl) ?_
  refine am_iload_n dX2_hasWrongMap_25 rfl ?_
  refine am_iconst (v := nI 3) dX2_hasWrongMap_26 (by decide) ?_
  refine am_icmp_ge (tgt := 43) dX2_hasWrongMap_27 (by decide) (fun h => absurd h (by decide)) (fun _ => ?_)
  refine am_aload_n dX2_hasWrongMap_30 rfl ?_
  refine am_get (v := .inr (0, 26)) dX2_hasWrongMap_31 fl_2_25 (hG.m0 (by decide)) rfl ?_
  refine am_iload_n dX2_hasWrongMap_34 rfl ?_
  refine am_iconst (v := nI 3) dX2_hasWrongMap_35 (by decide) ?_
  refine am_imul dX2_hasWrongMap_36 ?_
  refine am_top (show (nI 2) * (nI 3) = nI 6 by decide) ?_
  refine am_iload_n dX2_hasWrongMap_37 rfl ?_
  refine am_iadd dX2_hasWrongMap_38 ?_
  refine am_top (show (nI 6) + (nI 1) = nI 7 by decide) ?_
  refine am_iald (a := 7) dX2_hasWrongMap_39 (hG.m0 (by decide)) rfl rfl (show 7 < 24 from (by omega)) (show 24 < 2 ^ 31 by decide) ?_
  refine am_top ((hB 7 (by decide)).trans rfl) ?_
  refine am_goto (tgt := 44) dX2_hasWrongMap_40 (by decide) ?_
  refine am_icmp_eq (tgt := 49) dX2_hasWrongMap_44 (by decide) (fun _ => ?_) (fun h => absurd h (by decide))
  refine am_iinc (v := nI 2) dX2_hasWrongMap_49 rfl (by decide) ?_
  refine am_goto (tgt := 10) dX2_hasWrongMap_52 (by decide) ?_
  refine am_iload_n dX2_hasWrongMap_10 rfl ?_
  refine am_bipush (v := nI 16) dX2_hasWrongMap_11 (by decide) ?_
  refine am_icmp_ge (tgt := 55) dX2_hasWrongMap_13 (by decide) (fun h => absurd h (by decide)) (fun _ => ?_)
  refine am_aload_n dX2_hasWrongMap_16 rfl ?_
  refine am_iload_n dX2_hasWrongMap_17 rfl ?_
  refine am_callSNx (as := [.inl (nI 2)]) (rest := [.inr (0, 21)]) dX2_hasWrongMap_18 lkX10_mapBlock nl_X2_123 isX10_mapBlock rfl (Nat.le_of_ble_eq_true rfl) rfl (c_mapBlock hG.nd (g := 2) (by omega) I) ?_
  refine am_iload_n dX2_hasWrongMap_21 rfl ?_
  refine am_callVx (i := 0) (j := 21) (as := [.inl (nI 256), .inl (nI 2)]) (rest := []) dX2_hasWrongMap_22 lkX2_at ml_X2_84 imX2_at seX2_at rfl rfl (hG.m0 (by decide)) rfl (Nat.le_of_ble_eq_true rfl) rfl (c_at hG (by omega) (by omega) I hS) ?_
  refine am_top (show I 0 1 (256 * 16 + 2) = nI 0 from (hD (256 * 16 + 2)).trans rfl) ?_
  refine am_iload_n dX2_hasWrongMap_25 rfl ?_
  refine am_iconst (v := nI 3) dX2_hasWrongMap_26 (by decide) ?_
  refine am_icmp_ge (tgt := 43) dX2_hasWrongMap_27 (by decide) (fun h => absurd h (by decide)) (fun _ => ?_)
  refine am_aload_n dX2_hasWrongMap_30 rfl ?_
  refine am_get (v := .inr (0, 26)) dX2_hasWrongMap_31 fl_2_25 (hG.m0 (by decide)) rfl ?_
  refine am_iload_n dX2_hasWrongMap_34 rfl ?_
  refine am_iconst (v := nI 3) dX2_hasWrongMap_35 (by decide) ?_
  refine am_imul dX2_hasWrongMap_36 ?_
  refine am_top (show (nI 2) * (nI 3) = nI 6 by decide) ?_
  refine am_iload_n dX2_hasWrongMap_37 rfl ?_
  refine am_iadd dX2_hasWrongMap_38 ?_
  refine am_top (show (nI 6) + (nI 2) = nI 8 by decide) ?_
  refine am_iald (a := 8) dX2_hasWrongMap_39 (hG.m0 (by decide)) rfl rfl (show 8 < 24 from (by omega)) (show 24 < 2 ^ 31 by decide) ?_
  refine am_top ((hB 8 (by decide)).trans rfl) ?_
  refine am_goto (tgt := 44) dX2_hasWrongMap_40 (by decide) ?_
  refine am_icmp_eq (tgt := 49) dX2_hasWrongMap_44 (by decide) (fun _ => ?_) (fun h => absurd h (by decide))
  refine am_iinc (v := nI 3) dX2_hasWrongMap_49 rfl (by decide) ?_
  refine am_goto (tgt := 10) dX2_hasWrongMap_52 (by decide) ?_
  refine am_iload_n dX2_hasWrongMap_10 rfl ?_
  refine am_bipush (v := nI 16) dX2_hasWrongMap_11 (by decide) ?_
  refine am_icmp_ge (tgt := 55) dX2_hasWrongMap_13 (by decide) (fun h => absurd h (by decide)) (fun _ => ?_)
  refine am_aload_n dX2_hasWrongMap_16 rfl ?_
  refine am_iload_n dX2_hasWrongMap_17 rfl ?_
  refine am_callSNx (as := [.inl (nI 2)]) (rest := [.inr (0, 21)]) dX2_hasWrongMap_18 lkX10_mapBlock nl_X2_123 isX10_mapBlock rfl (Nat.le_of_ble_eq_true rfl) rfl (c_mapBlock hG.nd (g := 2) (by omega) I) ?_
  refine am_iload_n dX2_hasWrongMap_21 rfl ?_
  refine am_callVx (i := 0) (j := 21) (as := [.inl (nI 256), .inl (nI 3)]) (rest := []) dX2_hasWrongMap_22 lkX2_at ml_X2_84 imX2_at seX2_at rfl rfl (hG.m0 (by decide)) rfl (Nat.le_of_ble_eq_true rfl) rfl (c_at hG (by omega) (by omega) I hS) ?_
  refine am_top (show I 0 1 (256 * 16 + 3) = nI 0 from (hD (256 * 16 + 3)).trans rfl) ?_
  refine am_iload_n dX2_hasWrongMap_25 rfl ?_
  refine am_iconst (v := nI 3) dX2_hasWrongMap_26 (by decide) ?_
  refine am_icmp_ge (tgt := 43) dX2_hasWrongMap_27 (by decide) (fun _ => ?_) (fun h => absurd h (by decide))
  refine am_iconst (v := nI 0) dX2_hasWrongMap_43 (by decide) ?_
  refine am_icmp_eq (tgt := 49) dX2_hasWrongMap_44 (by decide) (fun _ => ?_) (fun h => absurd h (by decide))
  refine am_iinc (v := nI 4) dX2_hasWrongMap_49 rfl (by decide) ?_
  refine am_goto (tgt := 10) dX2_hasWrongMap_52 (by decide) ?_
  refine am_iload_n dX2_hasWrongMap_10 rfl ?_
  refine am_bipush (v := nI 16) dX2_hasWrongMap_11 (by decide) ?_
  refine am_icmp_ge (tgt := 55) dX2_hasWrongMap_13 (by decide) (fun h => absurd h (by decide)) (fun _ => ?_)
  refine am_aload_n dX2_hasWrongMap_16 rfl ?_
  refine am_iload_n dX2_hasWrongMap_17 rfl ?_
  refine am_callSNx (as := [.inl (nI 2)]) (rest := [.inr (0, 21)]) dX2_hasWrongMap_18 lkX10_mapBlock nl_X2_123 isX10_mapBlock rfl (Nat.le_of_ble_eq_true rfl) rfl (c_mapBlock hG.nd (g := 2) (by omega) I) ?_
  refine am_iload_n dX2_hasWrongMap_21 rfl ?_
  refine am_callVx (i := 0) (j := 21) (as := [.inl (nI 256), .inl (nI 4)]) (rest := []) dX2_hasWrongMap_22 lkX2_at ml_X2_84 imX2_at seX2_at rfl rfl (hG.m0 (by decide)) rfl (Nat.le_of_ble_eq_true rfl) rfl (c_at hG (by omega) (by omega) I hS) ?_
  refine am_top (show I 0 1 (256 * 16 + 4) = nI 0 from (hD (256 * 16 + 4)).trans rfl) ?_
  refine am_iload_n dX2_hasWrongMap_25 rfl ?_
  refine am_iconst (v := nI 3) dX2_hasWrongMap_26 (by decide) ?_
  refine am_icmp_ge (tgt := 43) dX2_hasWrongMap_27 (by decide) (fun _ => ?_) (fun h => absurd h (by decide))
  refine am_iconst (v := nI 0) dX2_hasWrongMap_43 (by decide) ?_
  refine am_icmp_eq (tgt := 49) dX2_hasWrongMap_44 (by decide) (fun _ => ?_) (fun h => absurd h (by decide))
  refine am_iinc (v := nI 5) dX2_hasWrongMap_49 rfl (by decide) ?_
  refine am_goto (tgt := 10) dX2_hasWrongMap_52 (by decide) ?_
  refine am_iload_n dX2_hasWrongMap_10 rfl ?_
  refine am_bipush (v := nI 16) dX2_hasWrongMap_11 (by decide) ?_
  refine am_icmp_ge (tgt := 55) dX2_hasWrongMap_13 (by decide) (fun h => absurd h (by decide)) (fun _ => ?_)
  refine am_aload_n dX2_hasWrongMap_16 rfl ?_
  refine am_iload_n dX2_hasWrongMap_17 rfl ?_
  refine am_callSNx (as := [.inl (nI 2)]) (rest := [.inr (0, 21)]) dX2_hasWrongMap_18 lkX10_mapBlock nl_X2_123 isX10_mapBlock rfl (Nat.le_of_ble_eq_true rfl) rfl (c_mapBlock hG.nd (g := 2) (by omega) I) ?_
  refine am_iload_n dX2_hasWrongMap_21 rfl ?_
  refine am_callVx (i := 0) (j := 21) (as := [.inl (nI 256), .inl (nI 5)]) (rest := []) dX2_hasWrongMap_22 lkX2_at ml_X2_84 imX2_at seX2_at rfl rfl (hG.m0 (by decide)) rfl (Nat.le_of_ble_eq_true rfl) rfl (c_at hG (by omega) (by omega) I hS) ?_
  refine am_top (show I 0 1 (256 * 16 + 5) = nI 0 from (hD (256 * 16 + 5)).trans rfl) ?_
  refine am_iload_n dX2_hasWrongMap_25 rfl ?_
  refine am_iconst (v := nI 3) dX2_hasWrongMap_26 (by decide) ?_
  refine am_icmp_ge (tgt := 43) dX2_hasWrongMap_27 (by decide) (fun _ => ?_) (fun h => absurd h (by decide))
  refine am_iconst (v := nI 0) dX2_hasWrongMap_43 (by decide) ?_
  refine am_icmp_eq (tgt := 49) dX2_hasWrongMap_44 (by decide) (fun _ => ?_) (fun h => absurd h (by decide))
  refine am_iinc (v := nI 6) dX2_hasWrongMap_49 rfl (by decide) ?_
  refine am_goto (tgt := 10) dX2_hasWrongMap_52 (by decide) ?_
  refine am_iload_n dX2_hasWrongMap_10 rfl ?_
  refine am_bipush (v := nI 16) dX2_hasWrongMap_11 (by decide) ?_
  refine am_icmp_ge (tgt := 55) dX2_hasWrongMap_13 (by decide) (fun h => absurd h (by decide)) (fun _ => ?_)
  refine am_aload_n dX2_hasWrongMap_16 rfl ?_
  refine am_iload_n dX2_hasWrongMap_17 rfl ?_
  refine am_callSNx (as := [.inl (nI 2)]) (rest := [.inr (0, 21)]) dX2_hasWrongMap_18 lkX10_mapBlock nl_X2_123 isX10_mapBlock rfl (Nat.le_of_ble_eq_true rfl) rfl (c_mapBlock hG.nd (g := 2) (by omega) I) ?_
  refine am_iload_n dX2_hasWrongMap_21 rfl ?_
  refine am_callVx (i := 0) (j := 21) (as := [.inl (nI 256), .inl (nI 6)]) (rest := []) dX2_hasWrongMap_22 lkX2_at ml_X2_84 imX2_at seX2_at rfl rfl (hG.m0 (by decide)) rfl (Nat.le_of_ble_eq_true rfl) rfl (c_at hG (by omega) (by omega) I hS) ?_
  refine am_top (show I 0 1 (256 * 16 + 6) = nI 0 from (hD (256 * 16 + 6)).trans rfl) ?_
  refine am_iload_n dX2_hasWrongMap_25 rfl ?_
  refine am_iconst (v := nI 3) dX2_hasWrongMap_26 (by decide) ?_
  refine am_icmp_ge (tgt := 43) dX2_hasWrongMap_27 (by decide) (fun _ => ?_) (fun h => absurd h (by decide))
  refine am_iconst (v := nI 0) dX2_hasWrongMap_43 (by decide) ?_
  refine am_icmp_eq (tgt := 49) dX2_hasWrongMap_44 (by decide) (fun _ => ?_) (fun h => absurd h (by decide))
  refine am_iinc (v := nI 7) dX2_hasWrongMap_49 rfl (by decide) ?_
  refine am_goto (tgt := 10) dX2_hasWrongMap_52 (by decide) ?_
  refine am_iload_n dX2_hasWrongMap_10 rfl ?_
  refine am_bipush (v := nI 16) dX2_hasWrongMap_11 (by decide) ?_
  refine am_icmp_ge (tgt := 55) dX2_hasWrongMap_13 (by decide) (fun h => absurd h (by decide)) (fun _ => ?_)
  refine am_aload_n dX2_hasWrongMap_16 rfl ?_
  refine am_iload_n dX2_hasWrongMap_17 rfl ?_
  refine am_callSNx (as := [.inl (nI 2)]) (rest := [.inr (0, 21)]) dX2_hasWrongMap_18 lkX10_mapBlock nl_X2_123 isX10_mapBlock rfl (Nat.le_of_ble_eq_true rfl) rfl (c_mapBlock hG.nd (g := 2) (by omega) I) ?_
  refine am_iload_n dX2_hasWrongMap_21 rfl ?_
  refine am_callVx (i := 0) (j := 21) (as := [.inl (nI 256), .inl (nI 7)]) (rest := []) dX2_hasWrongMap_22 lkX2_at ml_X2_84 imX2_at seX2_at rfl rfl (hG.m0 (by decide)) rfl (Nat.le_of_ble_eq_true rfl) rfl (c_at hG (by omega) (by omega) I hS) ?_
  refine am_top (show I 0 1 (256 * 16 + 7) = nI 0 from (hD (256 * 16 + 7)).trans rfl) ?_
  refine am_iload_n dX2_hasWrongMap_25 rfl ?_
  refine am_iconst (v := nI 3) dX2_hasWrongMap_26 (by decide) ?_
  refine am_icmp_ge (tgt := 43) dX2_hasWrongMap_27 (by decide) (fun _ => ?_) (fun h => absurd h (by decide))
  refine am_iconst (v := nI 0) dX2_hasWrongMap_43 (by decide) ?_
  refine am_icmp_eq (tgt := 49) dX2_hasWrongMap_44 (by decide) (fun _ => ?_) (fun h => absurd h (by decide))
  refine am_iinc (v := nI 8) dX2_hasWrongMap_49 rfl (by decide) ?_
  refine am_goto (tgt := 10) dX2_hasWrongMap_52 (by decide) ?_
  refine am_iload_n dX2_hasWrongMap_10 rfl ?_
  refine am_bipush (v := nI 16) dX2_hasWrongMap_11 (by decide) ?_
  refine am_icmp_ge (tgt := 55) dX2_hasWrongMap_13 (by decide) (fun h => absurd h (by decide)) (fun _ => ?_)
  refine am_aload_n dX2_hasWrongMap_16 rfl ?_
  refine am_iload_n dX2_hasWrongMap_17 rfl ?_
  refine am_callSNx (as := [.inl (nI 2)]) (rest := [.inr (0, 21)]) dX2_hasWrongMap_18 lkX10_mapBlock nl_X2_123 isX10_mapBlock rfl (Nat.le_of_ble_eq_true rfl) rfl (c_mapBlock hG.nd (g := 2) (by omega) I) ?_
  refine am_iload_n dX2_hasWrongMap_21 rfl ?_
  refine am_callVx (i := 0) (j := 21) (as := [.inl (nI 256), .inl (nI 8)]) (rest := []) dX2_hasWrongMap_22 lkX2_at ml_X2_84 imX2_at seX2_at rfl rfl (hG.m0 (by decide)) rfl (Nat.le_of_ble_eq_true rfl) rfl (c_at hG (by omega) (by omega) I hS) ?_
  refine am_top (show I 0 1 (256 * 16 + 8) = nI 0 from (hD (256 * 16 + 8)).trans rfl) ?_
  refine am_iload_n dX2_hasWrongMap_25 rfl ?_
  refine am_iconst (v := nI 3) dX2_hasWrongMap_26 (by decide) ?_
  refine am_icmp_ge (tgt := 43) dX2_hasWrongMap_27 (by decide) (fun _ => ?_) (fun h => absurd h (by decide))
  refine am_iconst (v := nI 0) dX2_hasWrongMap_43 (by decide) ?_
  refine am_icmp_eq (tgt := 49) dX2_hasWrongMap_44 (by decide) (fun _ => ?_) (fun h => absurd h (by decide))
  refine am_iinc (v := nI 9) dX2_hasWrongMap_49 rfl (by decide) ?_
  refine am_goto (tgt := 10) dX2_hasWrongMap_52 (by decide) ?_
  refine am_iload_n dX2_hasWrongMap_10 rfl ?_
  refine am_bipush (v := nI 16) dX2_hasWrongMap_11 (by decide) ?_
  refine am_icmp_ge (tgt := 55) dX2_hasWrongMap_13 (by decide) (fun h => absurd h (by decide)) (fun _ => ?_)
  refine am_aload_n dX2_hasWrongMap_16 rfl ?_
  refine am_iload_n dX2_hasWrongMap_17 rfl ?_
  refine am_callSNx (as := [.inl (nI 2)]) (rest := [.inr (0, 21)]) dX2_hasWrongMap_18 lkX10_mapBlock nl_X2_123 isX10_mapBlock rfl (Nat.le_of_ble_eq_true rfl) rfl (c_mapBlock hG.nd (g := 2) (by omega) I) ?_
  refine am_iload_n dX2_hasWrongMap_21 rfl ?_
  refine am_callVx (i := 0) (j := 21) (as := [.inl (nI 256), .inl (nI 9)]) (rest := []) dX2_hasWrongMap_22 lkX2_at ml_X2_84 imX2_at seX2_at rfl rfl (hG.m0 (by decide)) rfl (Nat.le_of_ble_eq_true rfl) rfl (c_at hG (by omega) (by omega) I hS) ?_
  refine am_top (show I 0 1 (256 * 16 + 9) = nI 0 from (hD (256 * 16 + 9)).trans rfl) ?_
  refine am_iload_n dX2_hasWrongMap_25 rfl ?_
  refine am_iconst (v := nI 3) dX2_hasWrongMap_26 (by decide) ?_
  refine am_icmp_ge (tgt := 43) dX2_hasWrongMap_27 (by decide) (fun _ => ?_) (fun h => absurd h (by decide))
  refine am_iconst (v := nI 0) dX2_hasWrongMap_43 (by decide) ?_
  refine am_icmp_eq (tgt := 49) dX2_hasWrongMap_44 (by decide) (fun _ => ?_) (fun h => absurd h (by decide))
  refine am_iinc (v := nI 10) dX2_hasWrongMap_49 rfl (by decide) ?_
  refine am_goto (tgt := 10) dX2_hasWrongMap_52 (by decide) ?_
  refine am_iload_n dX2_hasWrongMap_10 rfl ?_
  refine am_bipush (v := nI 16) dX2_hasWrongMap_11 (by decide) ?_
  refine am_icmp_ge (tgt := 55) dX2_hasWrongMap_13 (by decide) (fun h => absurd h (by decide)) (fun _ => ?_)
  refine am_aload_n dX2_hasWrongMap_16 rfl ?_
  refine am_iload_n dX2_hasWrongMap_17 rfl ?_
  refine am_callSNx (as := [.inl (nI 2)]) (rest := [.inr (0, 21)]) dX2_hasWrongMap_18 lkX10_mapBlock nl_X2_123 isX10_mapBlock rfl (Nat.le_of_ble_eq_true rfl) rfl (c_mapBlock hG.nd (g := 2) (by omega) I) ?_
  refine am_iload_n dX2_hasWrongMap_21 rfl ?_
  refine am_callVx (i := 0) (j := 21) (as := [.inl (nI 256), .inl (nI 10)]) (rest := []) dX2_hasWrongMap_22 lkX2_at ml_X2_84 imX2_at seX2_at rfl rfl (hG.m0 (by decide)) rfl (Nat.le_of_ble_eq_true rfl) rfl (c_at hG (by omega) (by omega) I hS) ?_
  refine am_top (show I 0 1 (256 * 16 + 10) = nI 0 from (hD (256 * 16 + 10)).trans rfl) ?_
  refine am_iload_n dX2_hasWrongMap_25 rfl ?_
  refine am_iconst (v := nI 3) dX2_hasWrongMap_26 (by decide) ?_
  refine am_icmp_ge (tgt := 43) dX2_hasWrongMap_27 (by decide) (fun _ => ?_) (fun h => absurd h (by decide))
  refine am_iconst (v := nI 0) dX2_hasWrongMap_43 (by decide) ?_
  refine am_icmp_eq (tgt := 49) dX2_hasWrongMap_44 (by decide) (fun _ => ?_) (fun h => absurd h (by decide))
  refine am_iinc (v := nI 11) dX2_hasWrongMap_49 rfl (by decide) ?_
  refine am_goto (tgt := 10) dX2_hasWrongMap_52 (by decide) ?_
  refine am_iload_n dX2_hasWrongMap_10 rfl ?_
  refine am_bipush (v := nI 16) dX2_hasWrongMap_11 (by decide) ?_
  refine am_icmp_ge (tgt := 55) dX2_hasWrongMap_13 (by decide) (fun h => absurd h (by decide)) (fun _ => ?_)
  refine am_aload_n dX2_hasWrongMap_16 rfl ?_
  refine am_iload_n dX2_hasWrongMap_17 rfl ?_
  refine am_callSNx (as := [.inl (nI 2)]) (rest := [.inr (0, 21)]) dX2_hasWrongMap_18 lkX10_mapBlock nl_X2_123 isX10_mapBlock rfl (Nat.le_of_ble_eq_true rfl) rfl (c_mapBlock hG.nd (g := 2) (by omega) I) ?_
  refine am_iload_n dX2_hasWrongMap_21 rfl ?_
  refine am_callVx (i := 0) (j := 21) (as := [.inl (nI 256), .inl (nI 11)]) (rest := []) dX2_hasWrongMap_22 lkX2_at ml_X2_84 imX2_at seX2_at rfl rfl (hG.m0 (by decide)) rfl (Nat.le_of_ble_eq_true rfl) rfl (c_at hG (by omega) (by omega) I hS) ?_
  refine am_top (show I 0 1 (256 * 16 + 11) = nI 0 from (hD (256 * 16 + 11)).trans rfl) ?_
  refine am_iload_n dX2_hasWrongMap_25 rfl ?_
  refine am_iconst (v := nI 3) dX2_hasWrongMap_26 (by decide) ?_
  refine am_icmp_ge (tgt := 43) dX2_hasWrongMap_27 (by decide) (fun _ => ?_) (fun h => absurd h (by decide))
  refine am_iconst (v := nI 0) dX2_hasWrongMap_43 (by decide) ?_
  refine am_icmp_eq (tgt := 49) dX2_hasWrongMap_44 (by decide) (fun _ => ?_) (fun h => absurd h (by decide))
  refine am_iinc (v := nI 12) dX2_hasWrongMap_49 rfl (by decide) ?_
  refine am_goto (tgt := 10) dX2_hasWrongMap_52 (by decide) ?_
  refine am_iload_n dX2_hasWrongMap_10 rfl ?_
  refine am_bipush (v := nI 16) dX2_hasWrongMap_11 (by decide) ?_
  refine am_icmp_ge (tgt := 55) dX2_hasWrongMap_13 (by decide) (fun h => absurd h (by decide)) (fun _ => ?_)
  refine am_aload_n dX2_hasWrongMap_16 rfl ?_
  refine am_iload_n dX2_hasWrongMap_17 rfl ?_
  refine am_callSNx (as := [.inl (nI 2)]) (rest := [.inr (0, 21)]) dX2_hasWrongMap_18 lkX10_mapBlock nl_X2_123 isX10_mapBlock rfl (Nat.le_of_ble_eq_true rfl) rfl (c_mapBlock hG.nd (g := 2) (by omega) I) ?_
  refine am_iload_n dX2_hasWrongMap_21 rfl ?_
  refine am_callVx (i := 0) (j := 21) (as := [.inl (nI 256), .inl (nI 12)]) (rest := []) dX2_hasWrongMap_22 lkX2_at ml_X2_84 imX2_at seX2_at rfl rfl (hG.m0 (by decide)) rfl (Nat.le_of_ble_eq_true rfl) rfl (c_at hG (by omega) (by omega) I hS) ?_
  refine am_top (show I 0 1 (256 * 16 + 12) = nI 0 from (hD (256 * 16 + 12)).trans rfl) ?_
  refine am_iload_n dX2_hasWrongMap_25 rfl ?_
  refine am_iconst (v := nI 3) dX2_hasWrongMap_26 (by decide) ?_
  refine am_icmp_ge (tgt := 43) dX2_hasWrongMap_27 (by decide) (fun _ => ?_) (fun h => absurd h (by decide))
  refine am_iconst (v := nI 0) dX2_hasWrongMap_43 (by decide) ?_
  refine am_icmp_eq (tgt := 49) dX2_hasWrongMap_44 (by decide) (fun _ => ?_) (fun h => absurd h (by decide))
  refine am_iinc (v := nI 13) dX2_hasWrongMap_49 rfl (by decide) ?_
  refine am_goto (tgt := 10) dX2_hasWrongMap_52 (by decide) ?_
  refine am_iload_n dX2_hasWrongMap_10 rfl ?_
  refine am_bipush (v := nI 16) dX2_hasWrongMap_11 (by decide) ?_
  refine am_icmp_ge (tgt := 55) dX2_hasWrongMap_13 (by decide) (fun h => absurd h (by decide)) (fun _ => ?_)
  refine am_aload_n dX2_hasWrongMap_16 rfl ?_
  refine am_iload_n dX2_hasWrongMap_17 rfl ?_
  refine am_callSNx (as := [.inl (nI 2)]) (rest := [.inr (0, 21)]) dX2_hasWrongMap_18 lkX10_mapBlock nl_X2_123 isX10_mapBlock rfl (Nat.le_of_ble_eq_true rfl) rfl (c_mapBlock hG.nd (g := 2) (by omega) I) ?_
  refine am_iload_n dX2_hasWrongMap_21 rfl ?_
  refine am_callVx (i := 0) (j := 21) (as := [.inl (nI 256), .inl (nI 13)]) (rest := []) dX2_hasWrongMap_22 lkX2_at ml_X2_84 imX2_at seX2_at rfl rfl (hG.m0 (by decide)) rfl (Nat.le_of_ble_eq_true rfl) rfl (c_at hG (by omega) (by omega) I hS) ?_
  refine am_top (show I 0 1 (256 * 16 + 13) = nI 0 from (hD (256 * 16 + 13)).trans rfl) ?_
  refine am_iload_n dX2_hasWrongMap_25 rfl ?_
  refine am_iconst (v := nI 3) dX2_hasWrongMap_26 (by decide) ?_
  refine am_icmp_ge (tgt := 43) dX2_hasWrongMap_27 (by decide) (fun _ => ?_) (fun h => absurd h (by decide))
  refine am_iconst (v := nI 0) dX2_hasWrongMap_43 (by decide) ?_
  refine am_icmp_eq (tgt := 49) dX2_hasWrongMap_44 (by decide) (fun _ => ?_) (fun h => absurd h (by decide))
  refine am_iinc (v := nI 14) dX2_hasWrongMap_49 rfl (by decide) ?_
  refine am_goto (tgt := 10) dX2_hasWrongMap_52 (by decide) ?_
  refine am_iload_n dX2_hasWrongMap_10 rfl ?_
  refine am_bipush (v := nI 16) dX2_hasWrongMap_11 (by decide) ?_
  refine am_icmp_ge (tgt := 55) dX2_hasWrongMap_13 (by decide) (fun h => absurd h (by decide)) (fun _ => ?_)
  refine am_aload_n dX2_hasWrongMap_16 rfl ?_
  refine am_iload_n dX2_hasWrongMap_17 rfl ?_
  refine am_callSNx (as := [.inl (nI 2)]) (rest := [.inr (0, 21)]) dX2_hasWrongMap_18 lkX10_mapBlock nl_X2_123 isX10_mapBlock rfl (Nat.le_of_ble_eq_true rfl) rfl (c_mapBlock hG.nd (g := 2) (by omega) I) ?_
  refine am_iload_n dX2_hasWrongMap_21 rfl ?_
  refine am_callVx (i := 0) (j := 21) (as := [.inl (nI 256), .inl (nI 14)]) (rest := []) dX2_hasWrongMap_22 lkX2_at ml_X2_84 imX2_at seX2_at rfl rfl (hG.m0 (by decide)) rfl (Nat.le_of_ble_eq_true rfl) rfl (c_at hG (by omega) (by omega) I hS) ?_
  refine am_top (show I 0 1 (256 * 16 + 14) = nI 0 from (hD (256 * 16 + 14)).trans rfl) ?_
  refine am_iload_n dX2_hasWrongMap_25 rfl ?_
  refine am_iconst (v := nI 3) dX2_hasWrongMap_26 (by decide) ?_
  refine am_icmp_ge (tgt := 43) dX2_hasWrongMap_27 (by decide) (fun _ => ?_) (fun h => absurd h (by decide))
  refine am_iconst (v := nI 0) dX2_hasWrongMap_43 (by decide) ?_
  refine am_icmp_eq (tgt := 49) dX2_hasWrongMap_44 (by decide) (fun _ => ?_) (fun h => absurd h (by decide))
  refine am_iinc (v := nI 15) dX2_hasWrongMap_49 rfl (by decide) ?_
  refine am_goto (tgt := 10) dX2_hasWrongMap_52 (by decide) ?_
  refine am_iload_n dX2_hasWrongMap_10 rfl ?_
  refine am_bipush (v := nI 16) dX2_hasWrongMap_11 (by decide) ?_
  refine am_icmp_ge (tgt := 55) dX2_hasWrongMap_13 (by decide) (fun h => absurd h (by decide)) (fun _ => ?_)
  refine am_aload_n dX2_hasWrongMap_16 rfl ?_
  refine am_iload_n dX2_hasWrongMap_17 rfl ?_
  refine am_callSNx (as := [.inl (nI 2)]) (rest := [.inr (0, 21)]) dX2_hasWrongMap_18 lkX10_mapBlock nl_X2_123 isX10_mapBlock rfl (Nat.le_of_ble_eq_true rfl) rfl (c_mapBlock hG.nd (g := 2) (by omega) I) ?_
  refine am_iload_n dX2_hasWrongMap_21 rfl ?_
  refine am_callVx (i := 0) (j := 21) (as := [.inl (nI 256), .inl (nI 15)]) (rest := []) dX2_hasWrongMap_22 lkX2_at ml_X2_84 imX2_at seX2_at rfl rfl (hG.m0 (by decide)) rfl (Nat.le_of_ble_eq_true rfl) rfl (c_at hG (by omega) (by omega) I hS) ?_
  refine am_top (show I 0 1 (256 * 16 + 15) = nI 0 from (hD (256 * 16 + 15)).trans rfl) ?_
  refine am_iload_n dX2_hasWrongMap_25 rfl ?_
  refine am_iconst (v := nI 3) dX2_hasWrongMap_26 (by decide) ?_
  refine am_icmp_ge (tgt := 43) dX2_hasWrongMap_27 (by decide) (fun _ => ?_) (fun h => absurd h (by decide))
  refine am_iconst (v := nI 0) dX2_hasWrongMap_43 (by decide) ?_
  refine am_icmp_eq (tgt := 49) dX2_hasWrongMap_44 (by decide) (fun _ => ?_) (fun h => absurd h (by decide))
  refine am_iinc (v := nI 16) dX2_hasWrongMap_49 rfl (by decide) ?_
  refine am_goto (tgt := 10) dX2_hasWrongMap_52 (by decide) ?_
  refine am_iload_n dX2_hasWrongMap_10 rfl ?_
  refine am_bipush (v := nI 16) dX2_hasWrongMap_11 (by decide) ?_
  refine am_icmp_ge (tgt := 55) dX2_hasWrongMap_13 (by decide) (fun _ => ?_) (fun h => absurd h (by decide))
  refine am_iinc (v := nI 3) dX2_hasWrongMap_55 rfl (by decide) ?_
  refine am_goto (tgt := 2) dX2_hasWrongMap_58 (by decide) ?_
  refine am_iload_n dX2_hasWrongMap_2 rfl ?_
  refine am_bipush (v := nI 8) dX2_hasWrongMap_3 (by decide) ?_
  refine am_icmp_ge (tgt := 61) dX2_hasWrongMap_5 (by decide) (fun h => absurd h (by decide)) (fun _ => ?_)
  refine am_iconst (v := nI 0) dX2_hasWrongMap_8 (by decide) ?_
  refine am_istore_n dX2_hasWrongMap_9 (by decide) ?_
  refine am_iload_n dX2_hasWrongMap_10 rfl ?_
  refine am_bipush (v := nI 16) dX2_hasWrongMap_11 (by decide) ?_
  refine am_icmp_ge (tgt := 55) dX2_hasWrongMap_13 (by decide) (fun h => absurd h (by decide)) (fun _ => ?_)
  refine am_aload_n dX2_hasWrongMap_16 rfl ?_
  refine am_iload_n dX2_hasWrongMap_17 rfl ?_
  refine am_callSNx (as := [.inl (nI 3)]) (rest := [.inr (0, 21)]) dX2_hasWrongMap_18 lkX10_mapBlock nl_X2_123 isX10_mapBlock rfl (Nat.le_of_ble_eq_true rfl) rfl (c_mapBlock hG.nd (g := 3) (by omega) I) ?_
  refine am_iload_n dX2_hasWrongMap_21 rfl ?_
  refine am_callVx (i := 0) (j := 21) (as := [.inl (nI 320), .inl (nI 0)]) (rest := []) dX2_hasWrongMap_22 lkX2_at ml_X2_84 imX2_at seX2_at rfl rfl (hG.m0 (by decide)) rfl (Nat.le_of_ble_eq_true rfl) rfl (c_at hG (by omega) (by omega) I hS) ?_
  refine am_top (show I 0 1 (320 * 16 + 0) = nI 0 from (hD (320 * 16 + 0)).trans rfl) ?_
  refine am_iload_n dX2_hasWrongMap_25 rfl ?_
  refine am_iconst (v := nI 3) dX2_hasWrongMap_26 (by decide) ?_
  refine am_icmp_ge (tgt := 43) dX2_hasWrongMap_27 (by decide) (fun h => absurd h (by decide)) (fun _ => ?_)
  refine am_aload_n dX2_hasWrongMap_30 rfl ?_
  refine am_get (v := .inr (0, 26)) dX2_hasWrongMap_31 fl_2_25 (hG.m0 (by decide)) rfl ?_
  refine am_iload_n dX2_hasWrongMap_34 rfl ?_
  refine am_iconst (v := nI 3) dX2_hasWrongMap_35 (by decide) ?_
  refine am_imul dX2_hasWrongMap_36 ?_
  refine am_top (show (nI 3) * (nI 3) = nI 9 by decide) ?_
  refine am_iload_n dX2_hasWrongMap_37 rfl ?_
  refine am_iadd dX2_hasWrongMap_38 ?_
  refine am_top (show (nI 9) + (nI 0) = nI 9 by decide) ?_
  refine am_iald (a := 9) dX2_hasWrongMap_39 (hG.m0 (by decide)) rfl rfl (show 9 < 24 from (by omega)) (show 24 < 2 ^ 31 by decide) ?_
  refine am_top ((hB 9 (by decide)).trans rfl) ?_
  refine am_goto (tgt := 44) dX2_hasWrongMap_40 (by decide) ?_
  refine am_icmp_eq (tgt := 49) dX2_hasWrongMap_44 (by decide) (fun _ => ?_) (fun h => absurd h (by decide))
  refine am_iinc (v := nI 1) dX2_hasWrongMap_49 rfl (by decide) ?_
  refine am_goto (tgt := 10) dX2_hasWrongMap_52 (by decide) ?_
  refine am_iload_n dX2_hasWrongMap_10 rfl ?_
  refine am_bipush (v := nI 16) dX2_hasWrongMap_11 (by decide) ?_
  refine am_icmp_ge (tgt := 55) dX2_hasWrongMap_13 (by decide) (fun h => absurd h (by decide)) (fun _ => ?_)
  refine am_aload_n dX2_hasWrongMap_16 rfl ?_
  refine am_iload_n dX2_hasWrongMap_17 rfl ?_
  refine am_callSNx (as := [.inl (nI 3)]) (rest := [.inr (0, 21)]) dX2_hasWrongMap_18 lkX10_mapBlock nl_X2_123 isX10_mapBlock rfl (Nat.le_of_ble_eq_true rfl) rfl (c_mapBlock hG.nd (g := 3) (by omega) I) ?_
  refine am_iload_n dX2_hasWrongMap_21 rfl ?_
  refine am_callVx (i := 0) (j := 21) (as := [.inl (nI 320), .inl (nI 1)]) (rest := []) dX2_hasWrongMap_22 lkX2_at ml_X2_84 imX2_at seX2_at rfl rfl (hG.m0 (by decide)) rfl (Nat.le_of_ble_eq_true rfl) rfl (c_at hG (by omega) (by omega) I hS) ?_
  refine am_top (show I 0 1 (320 * 16 + 1) = nI 0 from (hD (320 * 16 + 1)).trans rfl) ?_
  refine am_iload_n dX2_hasWrongMap_25 rfl ?_
  refine am_iconst (v := nI 3) dX2_hasWrongMap_26 (by decide) ?_
  refine am_icmp_ge (tgt := 43) dX2_hasWrongMap_27 (by decide) (fun h => absurd h (by decide)) (fun _ => ?_)
  refine am_aload_n dX2_hasWrongMap_30 rfl ?_
  refine am_get (v := .inr (0, 26)) dX2_hasWrongMap_31 fl_2_25 (hG.m0 (by decide)) rfl ?_
  refine am_iload_n dX2_hasWrongMap_34 rfl ?_
  refine am_iconst (v := nI 3) dX2_hasWrongMap_35 (by decide) ?_
  refine am_imul dX2_hasWrongMap_36 ?_
  refine am_top (show (nI 3) * (nI 3) = nI 9 by decide) ?_
  refine am_iload_n dX2_hasWrongMap_37 rfl ?_
  refine am_iadd dX2_hasWrongMap_38 ?_
  refine am_top (show (nI 9) + (nI 1) = nI 10 by decide) ?_
  refine am_iald (a := 10) dX2_hasWrongMap_39 (hG.m0 (by decide)) rfl rfl (show 10 < 24 from (by omega)) (show 24 < 2 ^ 31 by decide) ?_
  refine am_top ((hB 10 (by decide)).trans rfl) ?_
  refine am_goto (tgt := 44) dX2_hasWrongMap_40 (by decide) ?_
  refine am_icmp_eq (tgt := 49) dX2_hasWrongMap_44 (by decide) (fun _ => ?_) (fun h => absurd h (by decide))
  refine am_iinc (v := nI 2) dX2_hasWrongMap_49 rfl (by decide) ?_
  refine am_goto (tgt := 10) dX2_hasWrongMap_52 (by decide) ?_
  refine am_iload_n dX2_hasWrongMap_10 rfl ?_
  refine am_bipush (v := nI 16) dX2_hasWrongMap_11 (by decide) ?_
  refine am_icmp_ge (tgt := 55) dX2_hasWrongMap_13 (by decide) (fun h => absurd h (by decide)) (fun _ => ?_)
  refine am_aload_n dX2_hasWrongMap_16 rfl ?_
  refine am_iload_n dX2_hasWrongMap_17 rfl ?_
  refine am_callSNx (as := [.inl (nI 3)]) (rest := [.inr (0, 21)]) dX2_hasWrongMap_18 lkX10_mapBlock nl_X2_123 isX10_mapBlock rfl (Nat.le_of_ble_eq_true rfl) rfl (c_mapBlock hG.nd (g := 3) (by omega) I) ?_
  refine am_iload_n dX2_hasWrongMap_21 rfl ?_
  refine am_callVx (i := 0) (j := 21) (as := [.inl (nI 320), .inl (nI 2)]) (rest := []) dX2_hasWrongMap_22 lkX2_at ml_X2_84 imX2_at seX2_at rfl rfl (hG.m0 (by decide)) rfl (Nat.le_of_ble_eq_true rfl) rfl (c_at hG (by omega) (by omega) I hS) ?_
  refine am_top (show I 0 1 (320 * 16 + 2) = nI 0 from (hD (320 * 16 + 2)).trans rfl) ?_
  refine am_iload_n dX2_hasWrongMap_25 rfl ?_
  refine am_iconst (v := nI 3) dX2_hasWrongMap_26 (by decide) ?_
  refine am_icmp_ge (tgt := 43) dX2_hasWrongMap_27 (by decide) (fun h => absurd h (by decide)) (fun _ => ?_)
  refine am_aload_n dX2_hasWrongMap_30 rfl ?_
  refine am_get (v := .inr (0, 26)) dX2_hasWrongMap_31 fl_2_25 (hG.m0 (by decide)) rfl ?_
  refine am_iload_n dX2_hasWrongMap_34 rfl ?_
  refine am_iconst (v := nI 3) dX2_hasWrongMap_35 (by decide) ?_
  refine am_imul dX2_hasWrongMap_36 ?_
  refine am_top (show (nI 3) * (nI 3) = nI 9 by decide) ?_
  refine am_iload_n dX2_hasWrongMap_37 rfl ?_
  refine am_iadd dX2_hasWrongMap_38 ?_
  refine am_top (show (nI 9) + (nI 2) = nI 11 by decide) ?_
  refine am_iald (a := 11) dX2_hasWrongMap_39 (hG.m0 (by decide)) rfl rfl (show 11 < 24 from (by omega)) (show 24 < 2 ^ 31 by decide) ?_
  refine am_top ((hB 11 (by decide)).trans rfl) ?_
  refine am_goto (tgt := 44) dX2_hasWrongMap_40 (by decide) ?_
  refine am_icmp_eq (tgt := 49) dX2_hasWrongMap_44 (by decide) (fun _ => ?_) (fun h => absurd h (by decide))
  refine am_iinc (v := nI 3) dX2_hasWrongMap_49 rfl (by decide) ?_
  refine am_goto (tgt := 10) dX2_hasWrongMap_52 (by decide) ?_
  refine am_iload_n dX2_hasWrongMap_10 rfl ?_
  refine am_bipush (v := nI 16) dX2_hasWrongMap_11 (by decide) ?_
  refine am_icmp_ge (tgt := 55) dX2_hasWrongMap_13 (by decide) (fun h => absurd h (by decide)) (fun _ => ?_)
  refine am_aload_n dX2_hasWrongMap_16 rfl ?_
  refine am_iload_n dX2_hasWrongMap_17 rfl ?_
  refine am_callSNx (as := [.inl (nI 3)]) (rest := [.inr (0, 21)]) dX2_hasWrongMap_18 lkX10_mapBlock nl_X2_123 isX10_mapBlock rfl (Nat.le_of_ble_eq_true rfl) rfl (c_mapBlock hG.nd (g := 3) (by omega) I) ?_
  refine am_iload_n dX2_hasWrongMap_21 rfl ?_
  refine am_callVx (i := 0) (j := 21) (as := [.inl (nI 320), .inl (nI 3)]) (rest := []) dX2_hasWrongMap_22 lkX2_at ml_X2_84 imX2_at seX2_at rfl rfl (hG.m0 (by decide)) rfl (Nat.le_of_ble_eq_true rfl) rfl (c_at hG (by omega) (by omega) I hS) ?_
  refine am_top (show I 0 1 (320 * 16 + 3) = nI 0 from (hD (320 * 16 + 3)).trans rfl) ?_
  refine am_iload_n dX2_hasWrongMap_25 rfl ?_
  refine am_iconst (v := nI 3) dX2_hasWrongMap_26 (by decide) ?_
  refine am_icmp_ge (tgt := 43) dX2_hasWrongMap_27 (by decide) (fun _ => ?_) (fun h => absurd h (by decide))
  refine am_iconst (v := nI 0) dX2_hasWrongMap_43 (by decide) ?_
  refine am_icmp_eq (tgt := 49) dX2_hasWrongMap_44 (by decide) (fun _ => ?_) (fun h => absurd h (by decide))
  refine am_iinc (v := nI 4) dX2_hasWrongMap_49 rfl (by decide) ?_
  refine am_goto (tgt := 10) dX2_hasWrongMap_52 (by decide) ?_
  refine am_iload_n dX2_hasWrongMap_10 rfl ?_
  refine am_bipush (v := nI 16) dX2_hasWrongMap_11 (by decide) ?_
  refine am_icmp_ge (tgt := 55) dX2_hasWrongMap_13 (by decide) (fun h => absurd h (by decide)) (fun _ => ?_)
  refine am_aload_n dX2_hasWrongMap_16 rfl ?_
  refine am_iload_n dX2_hasWrongMap_17 rfl ?_
  refine am_callSNx (as := [.inl (nI 3)]) (rest := [.inr (0, 21)]) dX2_hasWrongMap_18 lkX10_mapBlock nl_X2_123 isX10_mapBlock rfl (Nat.le_of_ble_eq_true rfl) rfl (c_mapBlock hG.nd (g := 3) (by omega) I) ?_
  refine am_iload_n dX2_hasWrongMap_21 rfl ?_
  refine am_callVx (i := 0) (j := 21) (as := [.inl (nI 320), .inl (nI 4)]) (rest := []) dX2_hasWrongMap_22 lkX2_at ml_X2_84 imX2_at seX2_at rfl rfl (hG.m0 (by decide)) rfl (Nat.le_of_ble_eq_true rfl) rfl (c_at hG (by omega) (by omega) I hS) ?_
  refine am_top (show I 0 1 (320 * 16 + 4) = nI 0 from (hD (320 * 16 + 4)).trans rfl) ?_
  refine am_iload_n dX2_hasWrongMap_25 rfl ?_
  refine am_iconst (v := nI 3) dX2_hasWrongMap_26 (by decide) ?_
  refine am_icmp_ge (tgt := 43) dX2_hasWrongMap_27 (by decide) (fun _ => ?_) (fun h => absurd h (by decide))
  refine am_iconst (v := nI 0) dX2_hasWrongMap_43 (by decide) ?_
  refine am_icmp_eq (tgt := 49) dX2_hasWrongMap_44 (by decide) (fun _ => ?_) (fun h => absurd h (by decide))
  refine am_iinc (v := nI 5) dX2_hasWrongMap_49 rfl (by decide) ?_
  refine am_goto (tgt := 10) dX2_hasWrongMap_52 (by decide) ?_
  refine am_iload_n dX2_hasWrongMap_10 rfl ?_
  refine am_bipush (v := nI 16) dX2_hasWrongMap_11 (by decide) ?_
  refine am_icmp_ge (tgt := 55) dX2_hasWrongMap_13 (by decide) (fun h => absurd h (by decide)) (fun _ => ?_)
  refine am_aload_n dX2_hasWrongMap_16 rfl ?_
  refine am_iload_n dX2_hasWrongMap_17 rfl ?_
  refine am_callSNx (as := [.inl (nI 3)]) (rest := [.inr (0, 21)]) dX2_hasWrongMap_18 lkX10_mapBlock nl_X2_123 isX10_mapBlock rfl (Nat.le_of_ble_eq_true rfl) rfl (c_mapBlock hG.nd (g := 3) (by omega) I) ?_
  refine am_iload_n dX2_hasWrongMap_21 rfl ?_
  refine am_callVx (i := 0) (j := 21) (as := [.inl (nI 320), .inl (nI 5)]) (rest := []) dX2_hasWrongMap_22 lkX2_at ml_X2_84 imX2_at seX2_at rfl rfl (hG.m0 (by decide)) rfl (Nat.le_of_ble_eq_true rfl) rfl (c_at hG (by omega) (by omega) I hS) ?_
  refine am_top (show I 0 1 (320 * 16 + 5) = nI 0 from (hD (320 * 16 + 5)).trans rfl) ?_
  refine am_iload_n dX2_hasWrongMap_25 rfl ?_
  refine am_iconst (v := nI 3) dX2_hasWrongMap_26 (by decide) ?_
  refine am_icmp_ge (tgt := 43) dX2_hasWrongMap_27 (by decide) (fun _ => ?_) (fun h => absurd h (by decide))
  refine am_iconst (v := nI 0) dX2_hasWrongMap_43 (by decide) ?_
  refine am_icmp_eq (tgt := 49) dX2_hasWrongMap_44 (by decide) (fun _ => ?_) (fun h => absurd h (by decide))
  refine am_iinc (v := nI 6) dX2_hasWrongMap_49 rfl (by decide) ?_
  refine am_goto (tgt := 10) dX2_hasWrongMap_52 (by decide) ?_
  refine am_iload_n dX2_hasWrongMap_10 rfl ?_
  refine am_bipush (v := nI 16) dX2_hasWrongMap_11 (by decide) ?_
  refine am_icmp_ge (tgt := 55) dX2_hasWrongMap_13 (by decide) (fun h => absurd h (by decide)) (fun _ => ?_)
  refine am_aload_n dX2_hasWrongMap_16 rfl ?_
  refine am_iload_n dX2_hasWrongMap_17 rfl ?_
  refine am_callSNx (as := [.inl (nI 3)]) (rest := [.inr (0, 21)]) dX2_hasWrongMap_18 lkX10_mapBlock nl_X2_123 isX10_mapBlock rfl (Nat.le_of_ble_eq_true rfl) rfl (c_mapBlock hG.nd (g := 3) (by omega) I) ?_
  refine am_iload_n dX2_hasWrongMap_21 rfl ?_
  refine am_callVx (i := 0) (j := 21) (as := [.inl (nI 320), .inl (nI 6)]) (rest := []) dX2_hasWrongMap_22 lkX2_at ml_X2_84 imX2_at seX2_at rfl rfl (hG.m0 (by decide)) rfl (Nat.le_of_ble_eq_true rfl) rfl (c_at hG (by omega) (by omega) I hS) ?_
  refine am_top (show I 0 1 (320 * 16 + 6) = nI 0 from (hD (320 * 16 + 6)).trans rfl) ?_
  refine am_iload_n dX2_hasWrongMap_25 rfl ?_
  refine am_iconst (v := nI 3) dX2_hasWrongMap_26 (by decide) ?_
  refine am_icmp_ge (tgt := 43) dX2_hasWrongMap_27 (by decide) (fun _ => ?_) (fun h => absurd h (by decide))
  refine am_iconst (v := nI 0) dX2_hasWrongMap_43 (by decide) ?_
  refine am_icmp_eq (tgt := 49) dX2_hasWrongMap_44 (by decide) (fun _ => ?_) (fun h => absurd h (by decide))
  refine am_iinc (v := nI 7) dX2_hasWrongMap_49 rfl (by decide) ?_
  refine am_goto (tgt := 10) dX2_hasWrongMap_52 (by decide) ?_
  refine am_iload_n dX2_hasWrongMap_10 rfl ?_
  refine am_bipush (v := nI 16) dX2_hasWrongMap_11 (by decide) ?_
  refine am_icmp_ge (tgt := 55) dX2_hasWrongMap_13 (by decide) (fun h => absurd h (by decide)) (fun _ => ?_)
  refine am_aload_n dX2_hasWrongMap_16 rfl ?_
  refine am_iload_n dX2_hasWrongMap_17 rfl ?_
  refine am_callSNx (as := [.inl (nI 3)]) (rest := [.inr (0, 21)]) dX2_hasWrongMap_18 lkX10_mapBlock nl_X2_123 isX10_mapBlock rfl (Nat.le_of_ble_eq_true rfl) rfl (c_mapBlock hG.nd (g := 3) (by omega) I) ?_
  refine am_iload_n dX2_hasWrongMap_21 rfl ?_
  refine am_callVx (i := 0) (j := 21) (as := [.inl (nI 320), .inl (nI 7)]) (rest := []) dX2_hasWrongMap_22 lkX2_at ml_X2_84 imX2_at seX2_at rfl rfl (hG.m0 (by decide)) rfl (Nat.le_of_ble_eq_true rfl) rfl (c_at hG (by omega) (by omega) I hS) ?_
  refine am_top (show I 0 1 (320 * 16 + 7) = nI 0 from (hD (320 * 16 + 7)).trans rfl) ?_
  refine am_iload_n dX2_hasWrongMap_25 rfl ?_
  refine am_iconst (v := nI 3) dX2_hasWrongMap_26 (by decide) ?_
  refine am_icmp_ge (tgt := 43) dX2_hasWrongMap_27 (by decide) (fun _ => ?_) (fun h => absurd h (by decide))
  refine am_iconst (v := nI 0) dX2_hasWrongMap_43 (by decide) ?_
  refine am_icmp_eq (tgt := 49) dX2_hasWrongMap_44 (by decide) (fun _ => ?_) (fun h => absurd h (by decide))
  refine am_iinc (v := nI 8) dX2_hasWrongMap_49 rfl (by decide) ?_
  refine am_goto (tgt := 10) dX2_hasWrongMap_52 (by decide) ?_
  refine am_iload_n dX2_hasWrongMap_10 rfl ?_
  refine am_bipush (v := nI 16) dX2_hasWrongMap_11 (by decide) ?_
  refine am_icmp_ge (tgt := 55) dX2_hasWrongMap_13 (by decide) (fun h => absurd h (by decide)) (fun _ => ?_)
  refine am_aload_n dX2_hasWrongMap_16 rfl ?_
  refine am_iload_n dX2_hasWrongMap_17 rfl ?_
  refine am_callSNx (as := [.inl (nI 3)]) (rest := [.inr (0, 21)]) dX2_hasWrongMap_18 lkX10_mapBlock nl_X2_123 isX10_mapBlock rfl (Nat.le_of_ble_eq_true rfl) rfl (c_mapBlock hG.nd (g := 3) (by omega) I) ?_
  refine am_iload_n dX2_hasWrongMap_21 rfl ?_
  refine am_callVx (i := 0) (j := 21) (as := [.inl (nI 320), .inl (nI 8)]) (rest := []) dX2_hasWrongMap_22 lkX2_at ml_X2_84 imX2_at seX2_at rfl rfl (hG.m0 (by decide)) rfl (Nat.le_of_ble_eq_true rfl) rfl (c_at hG (by omega) (by omega) I hS) ?_
  refine am_top (show I 0 1 (320 * 16 + 8) = nI 0 from (hD (320 * 16 + 8)).trans rfl) ?_
  refine am_iload_n dX2_hasWrongMap_25 rfl ?_
  refine am_iconst (v := nI 3) dX2_hasWrongMap_26 (by decide) ?_
  refine am_icmp_ge (tgt := 43) dX2_hasWrongMap_27 (by decide) (fun _ => ?_) (fun h => absurd h (by decide))
  refine am_iconst (v := nI 0) dX2_hasWrongMap_43 (by decide) ?_
  refine am_icmp_eq (tgt := 49) dX2_hasWrongMap_44 (by decide) (fun _ => ?_) (fun h => absurd h (by decide))
  refine am_iinc (v := nI 9) dX2_hasWrongMap_49 rfl (by decide) ?_
  refine am_goto (tgt := 10) dX2_hasWrongMap_52 (by decide) ?_
  refine am_iload_n dX2_hasWrongMap_10 rfl ?_
  refine am_bipush (v := nI 16) dX2_hasWrongMap_11 (by decide) ?_
  refine am_icmp_ge (tgt := 55) dX2_hasWrongMap_13 (by decide) (fun h => absurd h (by decide)) (fun _ => ?_)
  refine am_aload_n dX2_hasWrongMap_16 rfl ?_
  refine am_iload_n dX2_hasWrongMap_17 rfl ?_
  refine am_callSNx (as := [.inl (nI 3)]) (rest := [.inr (0, 21)]) dX2_hasWrongMap_18 lkX10_mapBlock nl_X2_123 isX10_mapBlock rfl (Nat.le_of_ble_eq_true rfl) rfl (c_mapBlock hG.nd (g := 3) (by omega) I) ?_
  refine am_iload_n dX2_hasWrongMap_21 rfl ?_
  refine am_callVx (i := 0) (j := 21) (as := [.inl (nI 320), .inl (nI 9)]) (rest := []) dX2_hasWrongMap_22 lkX2_at ml_X2_84 imX2_at seX2_at rfl rfl (hG.m0 (by decide)) rfl (Nat.le_of_ble_eq_true rfl) rfl (c_at hG (by omega) (by omega) I hS) ?_
  refine am_top (show I 0 1 (320 * 16 + 9) = nI 0 from (hD (320 * 16 + 9)).trans rfl) ?_
  refine am_iload_n dX2_hasWrongMap_25 rfl ?_
  refine am_iconst (v := nI 3) dX2_hasWrongMap_26 (by decide) ?_
  refine am_icmp_ge (tgt := 43) dX2_hasWrongMap_27 (by decide) (fun _ => ?_) (fun h => absurd h (by decide))
  refine am_iconst (v := nI 0) dX2_hasWrongMap_43 (by decide) ?_
  refine am_icmp_eq (tgt := 49) dX2_hasWrongMap_44 (by decide) (fun _ => ?_) (fun h => absurd h (by decide))
  refine am_iinc (v := nI 10) dX2_hasWrongMap_49 rfl (by decide) ?_
  refine am_goto (tgt := 10) dX2_hasWrongMap_52 (by decide) ?_
  refine am_iload_n dX2_hasWrongMap_10 rfl ?_
  refine am_bipush (v := nI 16) dX2_hasWrongMap_11 (by decide) ?_
  refine am_icmp_ge (tgt := 55) dX2_hasWrongMap_13 (by decide) (fun h => absurd h (by decide)) (fun _ => ?_)
  refine am_aload_n dX2_hasWrongMap_16 rfl ?_
  refine am_iload_n dX2_hasWrongMap_17 rfl ?_
  refine am_callSNx (as := [.inl (nI 3)]) (rest := [.inr (0, 21)]) dX2_hasWrongMap_18 lkX10_mapBlock nl_X2_123 isX10_mapBlock rfl (Nat.le_of_ble_eq_true rfl) rfl (c_mapBlock hG.nd (g := 3) (by omega) I) ?_
  refine am_iload_n dX2_hasWrongMap_21 rfl ?_
  refine am_callVx (i := 0) (j := 21) (as := [.inl (nI 320), .inl (nI 10)]) (rest := []) dX2_hasWrongMap_22 lkX2_at ml_X2_84 imX2_at seX2_at rfl rfl (hG.m0 (by decide)) rfl (Nat.le_of_ble_eq_true rfl) rfl (c_at hG (by omega) (by omega) I hS) ?_
  refine am_top (show I 0 1 (320 * 16 + 10) = nI 0 from (hD (320 * 16 + 10)).trans rfl) ?_
  refine am_iload_n dX2_hasWrongMap_25 rfl ?_
  refine am_iconst (v := nI 3) dX2_hasWrongMap_26 (by decide) ?_
  refine am_icmp_ge (tgt := 43) dX2_hasWrongMap_27 (by decide) (fun _ => ?_) (fun h => absurd h (by decide))
  refine am_iconst (v := nI 0) dX2_hasWrongMap_43 (by decide) ?_
  refine am_icmp_eq (tgt := 49) dX2_hasWrongMap_44 (by decide) (fun _ => ?_) (fun h => absurd h (by decide))
  refine am_iinc (v := nI 11) dX2_hasWrongMap_49 rfl (by decide) ?_
  refine am_goto (tgt := 10) dX2_hasWrongMap_52 (by decide) ?_
  refine am_iload_n dX2_hasWrongMap_10 rfl ?_
  refine am_bipush (v := nI 16) dX2_hasWrongMap_11 (by decide) ?_
  refine am_icmp_ge (tgt := 55) dX2_hasWrongMap_13 (by decide) (fun h => absurd h (by decide)) (fun _ => ?_)
  refine am_aload_n dX2_hasWrongMap_16 rfl ?_
  refine am_iload_n dX2_hasWrongMap_17 rfl ?_
  refine am_callSNx (as := [.inl (nI 3)]) (rest := [.inr (0, 21)]) dX2_hasWrongMap_18 lkX10_mapBlock nl_X2_123 isX10_mapBlock rfl (Nat.le_of_ble_eq_true rfl) rfl (c_mapBlock hG.nd (g := 3) (by omega) I) ?_
  refine am_iload_n dX2_hasWrongMap_21 rfl ?_
  refine am_callVx (i := 0) (j := 21) (as := [.inl (nI 320), .inl (nI 11)]) (rest := []) dX2_hasWrongMap_22 lkX2_at ml_X2_84 imX2_at seX2_at rfl rfl (hG.m0 (by decide)) rfl (Nat.le_of_ble_eq_true rfl) rfl (c_at hG (by omega) (by omega) I hS) ?_
  refine am_top (show I 0 1 (320 * 16 + 11) = nI 0 from (hD (320 * 16 + 11)).trans rfl) ?_
  refine am_iload_n dX2_hasWrongMap_25 rfl ?_
  refine am_iconst (v := nI 3) dX2_hasWrongMap_26 (by decide) ?_
  refine am_icmp_ge (tgt := 43) dX2_hasWrongMap_27 (by decide) (fun _ => ?_) (fun h => absurd h (by decide))
  refine am_iconst (v := nI 0) dX2_hasWrongMap_43 (by decide) ?_
  refine am_icmp_eq (tgt := 49) dX2_hasWrongMap_44 (by decide) (fun _ => ?_) (fun h => absurd h (by decide))
  refine am_iinc (v := nI 12) dX2_hasWrongMap_49 rfl (by decide) ?_
  refine am_goto (tgt := 10) dX2_hasWrongMap_52 (by decide) ?_
  refine am_iload_n dX2_hasWrongMap_10 rfl ?_
  refine am_bipush (v := nI 16) dX2_hasWrongMap_11 (by decide) ?_
  refine am_icmp_ge (tgt := 55) dX2_hasWrongMap_13 (by decide) (fun h => absurd h (by decide)) (fun _ => ?_)
  refine am_aload_n dX2_hasWrongMap_16 rfl ?_
  refine am_iload_n dX2_hasWrongMap_17 rfl ?_
  refine am_callSNx (as := [.inl (nI 3)]) (rest := [.inr (0, 21)]) dX2_hasWrongMap_18 lkX10_mapBlock nl_X2_123 isX10_mapBlock rfl (Nat.le_of_ble_eq_true rfl) rfl (c_mapBlock hG.nd (g := 3) (by omega) I) ?_
  refine am_iload_n dX2_hasWrongMap_21 rfl ?_
  refine am_callVx (i := 0) (j := 21) (as := [.inl (nI 320), .inl (nI 12)]) (rest := []) dX2_hasWrongMap_22 lkX2_at ml_X2_84 imX2_at seX2_at rfl rfl (hG.m0 (by decide)) rfl (Nat.le_of_ble_eq_true rfl) rfl (c_at hG (by omega) (by omega) I hS) ?_
  refine am_top (show I 0 1 (320 * 16 + 12) = nI 0 from (hD (320 * 16 + 12)).trans rfl) ?_
  refine am_iload_n dX2_hasWrongMap_25 rfl ?_
  refine am_iconst (v := nI 3) dX2_hasWrongMap_26 (by decide) ?_
  refine am_icmp_ge (tgt := 43) dX2_hasWrongMap_27 (by decide) (fun _ => ?_) (fun h => absurd h (by decide))
  refine am_iconst (v := nI 0) dX2_hasWrongMap_43 (by decide) ?_
  refine am_icmp_eq (tgt := 49) dX2_hasWrongMap_44 (by decide) (fun _ => ?_) (fun h => absurd h (by decide))
  refine am_iinc (v := nI 13) dX2_hasWrongMap_49 rfl (by decide) ?_
  refine am_goto (tgt := 10) dX2_hasWrongMap_52 (by decide) ?_
  refine am_iload_n dX2_hasWrongMap_10 rfl ?_
  refine am_bipush (v := nI 16) dX2_hasWrongMap_11 (by decide) ?_
  refine am_icmp_ge (tgt := 55) dX2_hasWrongMap_13 (by decide) (fun h => absurd h (by decide)) (fun _ => ?_)
  refine am_aload_n dX2_hasWrongMap_16 rfl ?_
  refine am_iload_n dX2_hasWrongMap_17 rfl ?_
  refine am_callSNx (as := [.inl (nI 3)]) (rest := [.inr (0, 21)]) dX2_hasWrongMap_18 lkX10_mapBlock nl_X2_123 isX10_mapBlock rfl (Nat.le_of_ble_eq_true rfl) rfl (c_mapBlock hG.nd (g := 3) (by omega) I) ?_
  refine am_iload_n dX2_hasWrongMap_21 rfl ?_
  refine am_callVx (i := 0) (j := 21) (as := [.inl (nI 320), .inl (nI 13)]) (rest := []) dX2_hasWrongMap_22 lkX2_at ml_X2_84 imX2_at seX2_at rfl rfl (hG.m0 (by decide)) rfl (Nat.le_of_ble_eq_true rfl) rfl (c_at hG (by omega) (by omega) I hS) ?_
  refine am_top (show I 0 1 (320 * 16 + 13) = nI 0 from (hD (320 * 16 + 13)).trans rfl) ?_
  refine am_iload_n dX2_hasWrongMap_25 rfl ?_
  refine am_iconst (v := nI 3) dX2_hasWrongMap_26 (by decide) ?_
  refine am_icmp_ge (tgt := 43) dX2_hasWrongMap_27 (by decide) (fun _ => ?_) (fun h => absurd h (by decide))
  refine am_iconst (v := nI 0) dX2_hasWrongMap_43 (by decide) ?_
  refine am_icmp_eq (tgt := 49) dX2_hasWrongMap_44 (by decide) (fun _ => ?_) (fun h => absurd h (by decide))
  refine am_iinc (v := nI 14) dX2_hasWrongMap_49 rfl (by decide) ?_
  refine am_goto (tgt := 10) dX2_hasWrongMap_52 (by decide) ?_
  refine am_iload_n dX2_hasWrongMap_10 rfl ?_
  refine am_bipush (v := nI 16) dX2_hasWrongMap_11 (by decide) ?_
  refine am_icmp_ge (tgt := 55) dX2_hasWrongMap_13 (by decide) (fun h => absurd h (by decide)) (fun _ => ?_)
  refine am_aload_n dX2_hasWrongMap_16 rfl ?_
  refine am_iload_n dX2_hasWrongMap_17 rfl ?_
  refine am_callSNx (as := [.inl (nI 3)]) (rest := [.inr (0, 21)]) dX2_hasWrongMap_18 lkX10_mapBlock nl_X2_123 isX10_mapBlock rfl (Nat.le_of_ble_eq_true rfl) rfl (c_mapBlock hG.nd (g := 3) (by omega) I) ?_
  refine am_iload_n dX2_hasWrongMap_21 rfl ?_
  refine am_callVx (i := 0) (j := 21) (as := [.inl (nI 320), .inl (nI 14)]) (rest := []) dX2_hasWrongMap_22 lkX2_at ml_X2_84 imX2_at seX2_at rfl rfl (hG.m0 (by decide)) rfl (Nat.le_of_ble_eq_true rfl) rfl (c_at hG (by omega) (by omega) I hS) ?_
  refine am_top (show I 0 1 (320 * 16 + 14) = nI 0 from (hD (320 * 16 + 14)).trans rfl) ?_
  refine am_iload_n dX2_hasWrongMap_25 rfl ?_
  refine am_iconst (v := nI 3) dX2_hasWrongMap_26 (by decide) ?_
  refine am_icmp_ge (tgt := 43) dX2_hasWrongMap_27 (by decide) (fun _ => ?_) (fun h => absurd h (by decide))
  refine am_iconst (v := nI 0) dX2_hasWrongMap_43 (by decide) ?_
  refine am_icmp_eq (tgt := 49) dX2_hasWrongMap_44 (by decide) (fun _ => ?_) (fun h => absurd h (by decide))
  refine am_iinc (v := nI 15) dX2_hasWrongMap_49 rfl (by decide) ?_
  refine am_goto (tgt := 10) dX2_hasWrongMap_52 (by decide) ?_
  refine am_iload_n dX2_hasWrongMap_10 rfl ?_
  refine am_bipush (v := nI 16) dX2_hasWrongMap_11 (by decide) ?_
  refine am_icmp_ge (tgt := 55) dX2_hasWrongMap_13 (by decide) (fun h => absurd h (by decide)) (fun _ => ?_)
  refine am_aload_n dX2_hasWrongMap_16 rfl ?_
  refine am_iload_n dX2_hasWrongMap_17 rfl ?_
  refine am_callSNx (as := [.inl (nI 3)]) (rest := [.inr (0, 21)]) dX2_hasWrongMap_18 lkX10_mapBlock nl_X2_123 isX10_mapBlock rfl (Nat.le_of_ble_eq_true rfl) rfl (c_mapBlock hG.nd (g := 3) (by omega) I) ?_
  refine am_iload_n dX2_hasWrongMap_21 rfl ?_
  refine am_callVx (i := 0) (j := 21) (as := [.inl (nI 320), .inl (nI 15)]) (rest := []) dX2_hasWrongMap_22 lkX2_at ml_X2_84 imX2_at seX2_at rfl rfl (hG.m0 (by decide)) rfl (Nat.le_of_ble_eq_true rfl) rfl (c_at hG (by omega) (by omega) I hS) ?_
  refine am_top (show I 0 1 (320 * 16 + 15) = nI 0 from (hD (320 * 16 + 15)).trans rfl) ?_
  refine am_iload_n dX2_hasWrongMap_25 rfl ?_
  refine am_iconst (v := nI 3) dX2_hasWrongMap_26 (by decide) ?_
  refine am_icmp_ge (tgt := 43) dX2_hasWrongMap_27 (by decide) (fun _ => ?_) (fun h => absurd h (by decide))
  refine am_iconst (v := nI 0) dX2_hasWrongMap_43 (by decide) ?_
  refine am_icmp_eq (tgt := 49) dX2_hasWrongMap_44 (by decide) (fun _ => ?_) (fun h => absurd h (by decide))
  refine am_iinc (v := nI 16) dX2_hasWrongMap_49 rfl (by decide) ?_
  refine am_goto (tgt := 10) dX2_hasWrongMap_52 (by decide) ?_
  refine am_iload_n dX2_hasWrongMap_10 rfl ?_
  refine am_bipush (v := nI 16) dX2_hasWrongMap_11 (by decide) ?_
  refine am_icmp_ge (tgt := 55) dX2_hasWrongMap_13 (by decide) (fun _ => ?_) (fun h => absurd h (by decide))
  refine am_iinc (v := nI 4) dX2_hasWrongMap_55 rfl (by decide) ?_
  refine am_goto (tgt := 2) dX2_hasWrongMap_58 (by decide) ?_
  refine am_iload_n dX2_hasWrongMap_2 rfl ?_
  refine am_bipush (v := nI 8) dX2_hasWrongMap_3 (by decide) ?_
  refine am_icmp_ge (tgt := 61) dX2_hasWrongMap_5 (by decide) (fun h => absurd h (by decide)) (fun _ => ?_)
  refine am_iconst (v := nI 0) dX2_hasWrongMap_8 (by decide) ?_
  refine am_istore_n dX2_hasWrongMap_9 (by decide) ?_
  refine am_iload_n dX2_hasWrongMap_10 rfl ?_
  refine am_bipush (v := nI 16) dX2_hasWrongMap_11 (by decide) ?_
  refine am_icmp_ge (tgt := 55) dX2_hasWrongMap_13 (by decide) (fun h => absurd h (by decide)) (fun _ => ?_)
  refine am_aload_n dX2_hasWrongMap_16 rfl ?_
  refine am_iload_n dX2_hasWrongMap_17 rfl ?_
  refine am_callSNx (as := [.inl (nI 4)]) (rest := [.inr (0, 21)]) dX2_hasWrongMap_18 lkX10_mapBlock nl_X2_123 isX10_mapBlock rfl (Nat.le_of_ble_eq_true rfl) rfl (c_mapBlock hG.nd (g := 4) (by omega) I) ?_
  refine am_iload_n dX2_hasWrongMap_21 rfl ?_
  refine am_callVx (i := 0) (j := 21) (as := [.inl (nI 384), .inl (nI 0)]) (rest := []) dX2_hasWrongMap_22 lkX2_at ml_X2_84 imX2_at seX2_at rfl rfl (hG.m0 (by decide)) rfl (Nat.le_of_ble_eq_true rfl) rfl (c_at hG (by omega) (by omega) I hS) ?_
  refine am_top (show I 0 1 (384 * 16 + 0) = nI 0 from (hD (384 * 16 + 0)).trans rfl) ?_
  refine am_iload_n dX2_hasWrongMap_25 rfl ?_
  refine am_iconst (v := nI 3) dX2_hasWrongMap_26 (by decide) ?_
  refine am_icmp_ge (tgt := 43) dX2_hasWrongMap_27 (by decide) (fun h => absurd h (by decide)) (fun _ => ?_)
  refine am_aload_n dX2_hasWrongMap_30 rfl ?_
  refine am_get (v := .inr (0, 26)) dX2_hasWrongMap_31 fl_2_25 (hG.m0 (by decide)) rfl ?_
  refine am_iload_n dX2_hasWrongMap_34 rfl ?_
  refine am_iconst (v := nI 3) dX2_hasWrongMap_35 (by decide) ?_
  refine am_imul dX2_hasWrongMap_36 ?_
  refine am_top (show (nI 4) * (nI 3) = nI 12 by decide) ?_
  refine am_iload_n dX2_hasWrongMap_37 rfl ?_
  refine am_iadd dX2_hasWrongMap_38 ?_
  refine am_top (show (nI 12) + (nI 0) = nI 12 by decide) ?_
  refine am_iald (a := 12) dX2_hasWrongMap_39 (hG.m0 (by decide)) rfl rfl (show 12 < 24 from (by omega)) (show 24 < 2 ^ 31 by decide) ?_
  refine am_top ((hB 12 (by decide)).trans rfl) ?_
  refine am_goto (tgt := 44) dX2_hasWrongMap_40 (by decide) ?_
  refine am_icmp_eq (tgt := 49) dX2_hasWrongMap_44 (by decide) (fun _ => ?_) (fun h => absurd h (by decide))
  refine am_iinc (v := nI 1) dX2_hasWrongMap_49 rfl (by decide) ?_
  refine am_goto (tgt := 10) dX2_hasWrongMap_52 (by decide) ?_
  refine am_iload_n dX2_hasWrongMap_10 rfl ?_
  refine am_bipush (v := nI 16) dX2_hasWrongMap_11 (by decide) ?_
  refine am_icmp_ge (tgt := 55) dX2_hasWrongMap_13 (by decide) (fun h => absurd h (by decide)) (fun _ => ?_)
  refine am_aload_n dX2_hasWrongMap_16 rfl ?_
  refine am_iload_n dX2_hasWrongMap_17 rfl ?_
  refine am_callSNx (as := [.inl (nI 4)]) (rest := [.inr (0, 21)]) dX2_hasWrongMap_18 lkX10_mapBlock nl_X2_123 isX10_mapBlock rfl (Nat.le_of_ble_eq_true rfl) rfl (c_mapBlock hG.nd (g := 4) (by omega) I) ?_
  refine am_iload_n dX2_hasWrongMap_21 rfl ?_
  refine am_callVx (i := 0) (j := 21) (as := [.inl (nI 384), .inl (nI 1)]) (rest := []) dX2_hasWrongMap_22 lkX2_at ml_X2_84 imX2_at seX2_at rfl rfl (hG.m0 (by decide)) rfl (Nat.le_of_ble_eq_true rfl) rfl (c_at hG (by omega) (by omega) I hS) ?_
  refine am_top (show I 0 1 (384 * 16 + 1) = nI 0 from (hD (384 * 16 + 1)).trans rfl) ?_
  refine am_iload_n dX2_hasWrongMap_25 rfl ?_
  refine am_iconst (v := nI 3) dX2_hasWrongMap_26 (by decide) ?_
  refine am_icmp_ge (tgt := 43) dX2_hasWrongMap_27 (by decide) (fun h => absurd h (by decide)) (fun _ => ?_)
  refine am_aload_n dX2_hasWrongMap_30 rfl ?_
  refine am_get (v := .inr (0, 26)) dX2_hasWrongMap_31 fl_2_25 (hG.m0 (by decide)) rfl ?_
  refine am_iload_n dX2_hasWrongMap_34 rfl ?_
  refine am_iconst (v := nI 3) dX2_hasWrongMap_35 (by decide) ?_
  refine am_imul dX2_hasWrongMap_36 ?_
  refine am_top (show (nI 4) * (nI 3) = nI 12 by decide) ?_
  refine am_iload_n dX2_hasWrongMap_37 rfl ?_
  refine am_iadd dX2_hasWrongMap_38 ?_
  refine am_top (show (nI 12) + (nI 1) = nI 13 by decide) ?_
  refine am_iald (a := 13) dX2_hasWrongMap_39 (hG.m0 (by decide)) rfl rfl (show 13 < 24 from (by omega)) (show 24 < 2 ^ 31 by decide) ?_
  refine am_top ((hB 13 (by decide)).trans rfl) ?_
  refine am_goto (tgt := 44) dX2_hasWrongMap_40 (by decide) ?_
  refine am_icmp_eq (tgt := 49) dX2_hasWrongMap_44 (by decide) (fun _ => ?_) (fun h => absurd h (by decide))
  refine am_iinc (v := nI 2) dX2_hasWrongMap_49 rfl (by decide) ?_
  refine am_goto (tgt := 10) dX2_hasWrongMap_52 (by decide) ?_
  refine am_iload_n dX2_hasWrongMap_10 rfl ?_
  refine am_bipush (v := nI 16) dX2_hasWrongMap_11 (by decide) ?_
  refine am_icmp_ge (tgt := 55) dX2_hasWrongMap_13 (by decide) (fun h => absurd h (by decide)) (fun _ => ?_)
  refine am_aload_n dX2_hasWrongMap_16 rfl ?_
  refine am_iload_n dX2_hasWrongMap_17 rfl ?_
  refine am_callSNx (as := [.inl (nI 4)]) (rest := [.inr (0, 21)]) dX2_hasWrongMap_18 lkX10_mapBlock nl_X2_123 isX10_mapBlock rfl (Nat.le_of_ble_eq_true rfl) rfl (c_mapBlock hG.nd (g := 4) (by omega) I) ?_
  refine am_iload_n dX2_hasWrongMap_21 rfl ?_
  refine am_callVx (i := 0) (j := 21) (as := [.inl (nI 384), .inl (nI 2)]) (rest := []) dX2_hasWrongMap_22 lkX2_at ml_X2_84 imX2_at seX2_at rfl rfl (hG.m0 (by decide)) rfl (Nat.le_of_ble_eq_true rfl) rfl (c_at hG (by omega) (by omega) I hS) ?_
  refine am_top (show I 0 1 (384 * 16 + 2) = nI 0 from (hD (384 * 16 + 2)).trans rfl) ?_
  refine am_iload_n dX2_hasWrongMap_25 rfl ?_
  refine am_iconst (v := nI 3) dX2_hasWrongMap_26 (by decide) ?_
  refine am_icmp_ge (tgt := 43) dX2_hasWrongMap_27 (by decide) (fun h => absurd h (by decide)) (fun _ => ?_)
  refine am_aload_n dX2_hasWrongMap_30 rfl ?_
  refine am_get (v := .inr (0, 26)) dX2_hasWrongMap_31 fl_2_25 (hG.m0 (by decide)) rfl ?_
  refine am_iload_n dX2_hasWrongMap_34 rfl ?_
  refine am_iconst (v := nI 3) dX2_hasWrongMap_35 (by decide) ?_
  refine am_imul dX2_hasWrongMap_36 ?_
  refine am_top (show (nI 4) * (nI 3) = nI 12 by decide) ?_
  refine am_iload_n dX2_hasWrongMap_37 rfl ?_
  refine am_iadd dX2_hasWrongMap_38 ?_
  refine am_top (show (nI 12) + (nI 2) = nI 14 by decide) ?_
  refine am_iald (a := 14) dX2_hasWrongMap_39 (hG.m0 (by decide)) rfl rfl (show 14 < 24 from (by omega)) (show 24 < 2 ^ 31 by decide) ?_
  refine am_top ((hB 14 (by decide)).trans rfl) ?_
  refine am_goto (tgt := 44) dX2_hasWrongMap_40 (by decide) ?_
  refine am_icmp_eq (tgt := 49) dX2_hasWrongMap_44 (by decide) (fun _ => ?_) (fun h => absurd h (by decide))
  refine am_iinc (v := nI 3) dX2_hasWrongMap_49 rfl (by decide) ?_
  refine am_goto (tgt := 10) dX2_hasWrongMap_52 (by decide) ?_
  refine am_iload_n dX2_hasWrongMap_10 rfl ?_
  refine am_bipush (v := nI 16) dX2_hasWrongMap_11 (by decide) ?_
  refine am_icmp_ge (tgt := 55) dX2_hasWrongMap_13 (by decide) (fun h => absurd h (by decide)) (fun _ => ?_)
  refine am_aload_n dX2_hasWrongMap_16 rfl ?_
  refine am_iload_n dX2_hasWrongMap_17 rfl ?_
  refine am_callSNx (as := [.inl (nI 4)]) (rest := [.inr (0, 21)]) dX2_hasWrongMap_18 lkX10_mapBlock nl_X2_123 isX10_mapBlock rfl (Nat.le_of_ble_eq_true rfl) rfl (c_mapBlock hG.nd (g := 4) (by omega) I) ?_
  refine am_iload_n dX2_hasWrongMap_21 rfl ?_
  refine am_callVx (i := 0) (j := 21) (as := [.inl (nI 384), .inl (nI 3)]) (rest := []) dX2_hasWrongMap_22 lkX2_at ml_X2_84 imX2_at seX2_at rfl rfl (hG.m0 (by decide)) rfl (Nat.le_of_ble_eq_true rfl) rfl (c_at hG (by omega) (by omega) I hS) ?_
  refine am_top (show I 0 1 (384 * 16 + 3) = nI 0 from (hD (384 * 16 + 3)).trans rfl) ?_
  refine am_iload_n dX2_hasWrongMap_25 rfl ?_
  refine am_iconst (v := nI 3) dX2_hasWrongMap_26 (by decide) ?_
  refine am_icmp_ge (tgt := 43) dX2_hasWrongMap_27 (by decide) (fun _ => ?_) (fun h => absurd h (by decide))
  refine am_iconst (v := nI 0) dX2_hasWrongMap_43 (by decide) ?_
  refine am_icmp_eq (tgt := 49) dX2_hasWrongMap_44 (by decide) (fun _ => ?_) (fun h => absurd h (by decide))
  refine am_iinc (v := nI 4) dX2_hasWrongMap_49 rfl (by decide) ?_
  refine am_goto (tgt := 10) dX2_hasWrongMap_52 (by decide) ?_
  refine am_iload_n dX2_hasWrongMap_10 rfl ?_
  refine am_bipush (v := nI 16) dX2_hasWrongMap_11 (by decide) ?_
  refine am_icmp_ge (tgt := 55) dX2_hasWrongMap_13 (by decide) (fun h => absurd h (by decide)) (fun _ => ?_)
  refine am_aload_n dX2_hasWrongMap_16 rfl ?_
  refine am_iload_n dX2_hasWrongMap_17 rfl ?_
  refine am_callSNx (as := [.inl (nI 4)]) (rest := [.inr (0, 21)]) dX2_hasWrongMap_18 lkX10_mapBlock nl_X2_123 isX10_mapBlock rfl (Nat.le_of_ble_eq_true rfl) rfl (c_mapBlock hG.nd (g := 4) (by omega) I) ?_
  refine am_iload_n dX2_hasWrongMap_21 rfl ?_
  refine am_callVx (i := 0) (j := 21) (as := [.inl (nI 384), .inl (nI 4)]) (rest := []) dX2_hasWrongMap_22 lkX2_at ml_X2_84 imX2_at seX2_at rfl rfl (hG.m0 (by decide)) rfl (Nat.le_of_ble_eq_true rfl) rfl (c_at hG (by omega) (by omega) I hS) ?_
  refine am_top (show I 0 1 (384 * 16 + 4) = nI 0 from (hD (384 * 16 + 4)).trans rfl) ?_
  refine am_iload_n dX2_hasWrongMap_25 rfl ?_
  refine am_iconst (v := nI 3) dX2_hasWrongMap_26 (by decide) ?_
  refine am_icmp_ge (tgt := 43) dX2_hasWrongMap_27 (by decide) (fun _ => ?_) (fun h => absurd h (by decide))
  refine am_iconst (v := nI 0) dX2_hasWrongMap_43 (by decide) ?_
  refine am_icmp_eq (tgt := 49) dX2_hasWrongMap_44 (by decide) (fun _ => ?_) (fun h => absurd h (by decide))
  refine am_iinc (v := nI 5) dX2_hasWrongMap_49 rfl (by decide) ?_
  refine am_goto (tgt := 10) dX2_hasWrongMap_52 (by decide) ?_
  refine am_iload_n dX2_hasWrongMap_10 rfl ?_
  refine am_bipush (v := nI 16) dX2_hasWrongMap_11 (by decide) ?_
  refine am_icmp_ge (tgt := 55) dX2_hasWrongMap_13 (by decide) (fun h => absurd h (by decide)) (fun _ => ?_)
  refine am_aload_n dX2_hasWrongMap_16 rfl ?_
  refine am_iload_n dX2_hasWrongMap_17 rfl ?_
  refine am_callSNx (as := [.inl (nI 4)]) (rest := [.inr (0, 21)]) dX2_hasWrongMap_18 lkX10_mapBlock nl_X2_123 isX10_mapBlock rfl (Nat.le_of_ble_eq_true rfl) rfl (c_mapBlock hG.nd (g := 4) (by omega) I) ?_
  refine am_iload_n dX2_hasWrongMap_21 rfl ?_
  refine am_callVx (i := 0) (j := 21) (as := [.inl (nI 384), .inl (nI 5)]) (rest := []) dX2_hasWrongMap_22 lkX2_at ml_X2_84 imX2_at seX2_at rfl rfl (hG.m0 (by decide)) rfl (Nat.le_of_ble_eq_true rfl) rfl (c_at hG (by omega) (by omega) I hS) ?_
  refine am_top (show I 0 1 (384 * 16 + 5) = nI 0 from (hD (384 * 16 + 5)).trans rfl) ?_
  refine am_iload_n dX2_hasWrongMap_25 rfl ?_
  refine am_iconst (v := nI 3) dX2_hasWrongMap_26 (by decide) ?_
  refine am_icmp_ge (tgt := 43) dX2_hasWrongMap_27 (by decide) (fun _ => ?_) (fun h => absurd h (by decide))
  refine am_iconst (v := nI 0) dX2_hasWrongMap_43 (by decide) ?_
  refine am_icmp_eq (tgt := 49) dX2_hasWrongMap_44 (by decide) (fun _ => ?_) (fun h => absurd h (by decide))
  refine am_iinc (v := nI 6) dX2_hasWrongMap_49 rfl (by decide) ?_
  refine am_goto (tgt := 10) dX2_hasWrongMap_52 (by decide) ?_
  refine am_iload_n dX2_hasWrongMap_10 rfl ?_
  refine am_bipush (v := nI 16) dX2_hasWrongMap_11 (by decide) ?_
  refine am_icmp_ge (tgt := 55) dX2_hasWrongMap_13 (by decide) (fun h => absurd h (by decide)) (fun _ => ?_)
  refine am_aload_n dX2_hasWrongMap_16 rfl ?_
  refine am_iload_n dX2_hasWrongMap_17 rfl ?_
  refine am_callSNx (as := [.inl (nI 4)]) (rest := [.inr (0, 21)]) dX2_hasWrongMap_18 lkX10_mapBlock nl_X2_123 isX10_mapBlock rfl (Nat.le_of_ble_eq_true rfl) rfl (c_mapBlock hG.nd (g := 4) (by omega) I) ?_
  refine am_iload_n dX2_hasWrongMap_21 rfl ?_
  refine am_callVx (i := 0) (j := 21) (as := [.inl (nI 384), .inl (nI 6)]) (rest := []) dX2_hasWrongMap_22 lkX2_at ml_X2_84 imX2_at seX2_at rfl rfl (hG.m0 (by decide)) rfl (Nat.le_of_ble_eq_true rfl) rfl (c_at hG (by omega) (by omega) I hS) ?_
  refine am_top (show I 0 1 (384 * 16 + 6) = nI 0 from (hD (384 * 16 + 6)).trans rfl) ?_
  refine am_iload_n dX2_hasWrongMap_25 rfl ?_
  refine am_iconst (v := nI 3) dX2_hasWrongMap_26 (by decide) ?_
  refine am_icmp_ge (tgt := 43) dX2_hasWrongMap_27 (by decide) (fun _ => ?_) (fun h => absurd h (by decide))
  refine am_iconst (v := nI 0) dX2_hasWrongMap_43 (by decide) ?_
  refine am_icmp_eq (tgt := 49) dX2_hasWrongMap_44 (by decide) (fun _ => ?_) (fun h => absurd h (by decide))
  refine am_iinc (v := nI 7) dX2_hasWrongMap_49 rfl (by decide) ?_
  refine am_goto (tgt := 10) dX2_hasWrongMap_52 (by decide) ?_
  refine am_iload_n dX2_hasWrongMap_10 rfl ?_
  refine am_bipush (v := nI 16) dX2_hasWrongMap_11 (by decide) ?_
  refine am_icmp_ge (tgt := 55) dX2_hasWrongMap_13 (by decide) (fun h => absurd h (by decide)) (fun _ => ?_)
  refine am_aload_n dX2_hasWrongMap_16 rfl ?_
  refine am_iload_n dX2_hasWrongMap_17 rfl ?_
  refine am_callSNx (as := [.inl (nI 4)]) (rest := [.inr (0, 21)]) dX2_hasWrongMap_18 lkX10_mapBlock nl_X2_123 isX10_mapBlock rfl (Nat.le_of_ble_eq_true rfl) rfl (c_mapBlock hG.nd (g := 4) (by omega) I) ?_
  refine am_iload_n dX2_hasWrongMap_21 rfl ?_
  refine am_callVx (i := 0) (j := 21) (as := [.inl (nI 384), .inl (nI 7)]) (rest := []) dX2_hasWrongMap_22 lkX2_at ml_X2_84 imX2_at seX2_at rfl rfl (hG.m0 (by decide)) rfl (Nat.le_of_ble_eq_true rfl) rfl (c_at hG (by omega) (by omega) I hS) ?_
  refine am_top (show I 0 1 (384 * 16 + 7) = nI 0 from (hD (384 * 16 + 7)).trans rfl) ?_
  refine am_iload_n dX2_hasWrongMap_25 rfl ?_
  refine am_iconst (v := nI 3) dX2_hasWrongMap_26 (by decide) ?_
  refine am_icmp_ge (tgt := 43) dX2_hasWrongMap_27 (by decide) (fun _ => ?_) (fun h => absurd h (by decide))
  refine am_iconst (v := nI 0) dX2_hasWrongMap_43 (by decide) ?_
  refine am_icmp_eq (tgt := 49) dX2_hasWrongMap_44 (by decide) (fun _ => ?_) (fun h => absurd h (by decide))
  refine am_iinc (v := nI 8) dX2_hasWrongMap_49 rfl (by decide) ?_
  refine am_goto (tgt := 10) dX2_hasWrongMap_52 (by decide) ?_
  refine am_iload_n dX2_hasWrongMap_10 rfl ?_
  refine am_bipush (v := nI 16) dX2_hasWrongMap_11 (by decide) ?_
  refine am_icmp_ge (tgt := 55) dX2_hasWrongMap_13 (by decide) (fun h => absurd h (by decide)) (fun _ => ?_)
  refine am_aload_n dX2_hasWrongMap_16 rfl ?_
  refine am_iload_n dX2_hasWrongMap_17 rfl ?_
  refine am_callSNx (as := [.inl (nI 4)]) (rest := [.inr (0, 21)]) dX2_hasWrongMap_18 lkX10_mapBlock nl_X2_123 isX10_mapBlock rfl (Nat.le_of_ble_eq_true rfl) rfl (c_mapBlock hG.nd (g := 4) (by omega) I) ?_
  refine am_iload_n dX2_hasWrongMap_21 rfl ?_
  refine am_callVx (i := 0) (j := 21) (as := [.inl (nI 384), .inl (nI 8)]) (rest := []) dX2_hasWrongMap_22 lkX2_at ml_X2_84 imX2_at seX2_at rfl rfl (hG.m0 (by decide)) rfl (Nat.le_of_ble_eq_true rfl) rfl (c_at hG (by omega) (by omega) I hS) ?_
  refine am_top (show I 0 1 (384 * 16 + 8) = nI 0 from (hD (384 * 16 + 8)).trans rfl) ?_
  refine am_iload_n dX2_hasWrongMap_25 rfl ?_
  refine am_iconst (v := nI 3) dX2_hasWrongMap_26 (by decide) ?_
  refine am_icmp_ge (tgt := 43) dX2_hasWrongMap_27 (by decide) (fun _ => ?_) (fun h => absurd h (by decide))
  refine am_iconst (v := nI 0) dX2_hasWrongMap_43 (by decide) ?_
  refine am_icmp_eq (tgt := 49) dX2_hasWrongMap_44 (by decide) (fun _ => ?_) (fun h => absurd h (by decide))
  refine am_iinc (v := nI 9) dX2_hasWrongMap_49 rfl (by decide) ?_
  refine am_goto (tgt := 10) dX2_hasWrongMap_52 (by decide) ?_
  refine am_iload_n dX2_hasWrongMap_10 rfl ?_
  refine am_bipush (v := nI 16) dX2_hasWrongMap_11 (by decide) ?_
  refine am_icmp_ge (tgt := 55) dX2_hasWrongMap_13 (by decide) (fun h => absurd h (by decide)) (fun _ => ?_)
  refine am_aload_n dX2_hasWrongMap_16 rfl ?_
  refine am_iload_n dX2_hasWrongMap_17 rfl ?_
  refine am_callSNx (as := [.inl (nI 4)]) (rest := [.inr (0, 21)]) dX2_hasWrongMap_18 lkX10_mapBlock nl_X2_123 isX10_mapBlock rfl (Nat.le_of_ble_eq_true rfl) rfl (c_mapBlock hG.nd (g := 4) (by omega) I) ?_
  refine am_iload_n dX2_hasWrongMap_21 rfl ?_
  refine am_callVx (i := 0) (j := 21) (as := [.inl (nI 384), .inl (nI 9)]) (rest := []) dX2_hasWrongMap_22 lkX2_at ml_X2_84 imX2_at seX2_at rfl rfl (hG.m0 (by decide)) rfl (Nat.le_of_ble_eq_true rfl) rfl (c_at hG (by omega) (by omega) I hS) ?_
  refine am_top (show I 0 1 (384 * 16 + 9) = nI 0 from (hD (384 * 16 + 9)).trans rfl) ?_
  refine am_iload_n dX2_hasWrongMap_25 rfl ?_
  refine am_iconst (v := nI 3) dX2_hasWrongMap_26 (by decide) ?_
  refine am_icmp_ge (tgt := 43) dX2_hasWrongMap_27 (by decide) (fun _ => ?_) (fun h => absurd h (by decide))
  refine am_iconst (v := nI 0) dX2_hasWrongMap_43 (by decide) ?_
  refine am_icmp_eq (tgt := 49) dX2_hasWrongMap_44 (by decide) (fun _ => ?_) (fun h => absurd h (by decide))
  refine am_iinc (v := nI 10) dX2_hasWrongMap_49 rfl (by decide) ?_
  refine am_goto (tgt := 10) dX2_hasWrongMap_52 (by decide) ?_
  refine am_iload_n dX2_hasWrongMap_10 rfl ?_
  refine am_bipush (v := nI 16) dX2_hasWrongMap_11 (by decide) ?_
  refine am_icmp_ge (tgt := 55) dX2_hasWrongMap_13 (by decide) (fun h => absurd h (by decide)) (fun _ => ?_)
  refine am_aload_n dX2_hasWrongMap_16 rfl ?_
  refine am_iload_n dX2_hasWrongMap_17 rfl ?_
  refine am_callSNx (as := [.inl (nI 4)]) (rest := [.inr (0, 21)]) dX2_hasWrongMap_18 lkX10_mapBlock nl_X2_123 isX10_mapBlock rfl (Nat.le_of_ble_eq_true rfl) rfl (c_mapBlock hG.nd (g := 4) (by omega) I) ?_
  refine am_iload_n dX2_hasWrongMap_21 rfl ?_
  refine am_callVx (i := 0) (j := 21) (as := [.inl (nI 384), .inl (nI 10)]) (rest := []) dX2_hasWrongMap_22 lkX2_at ml_X2_84 imX2_at seX2_at rfl rfl (hG.m0 (by decide)) rfl (Nat.le_of_ble_eq_true rfl) rfl (c_at hG (by omega) (by omega) I hS) ?_
  refine am_top (show I 0 1 (384 * 16 + 10) = nI 0 from (hD (384 * 16 + 10)).trans rfl) ?_
  refine am_iload_n dX2_hasWrongMap_25 rfl ?_
  refine am_iconst (v := nI 3) dX2_hasWrongMap_26 (by decide) ?_
  refine am_icmp_ge (tgt := 43) dX2_hasWrongMap_27 (by decide) (fun _ => ?_) (fun h => absurd h (by decide))
  refine am_iconst (v := nI 0) dX2_hasWrongMap_43 (by decide) ?_
  refine am_icmp_eq (tgt := 49) dX2_hasWrongMap_44 (by decide) (fun _ => ?_) (fun h => absurd h (by decide))
  refine am_iinc (v := nI 11) dX2_hasWrongMap_49 rfl (by decide) ?_
  refine am_goto (tgt := 10) dX2_hasWrongMap_52 (by decide) ?_
  refine am_iload_n dX2_hasWrongMap_10 rfl ?_
  refine am_bipush (v := nI 16) dX2_hasWrongMap_11 (by decide) ?_
  refine am_icmp_ge (tgt := 55) dX2_hasWrongMap_13 (by decide) (fun h => absurd h (by decide)) (fun _ => ?_)
  refine am_aload_n dX2_hasWrongMap_16 rfl ?_
  refine am_iload_n dX2_hasWrongMap_17 rfl ?_
  refine am_callSNx (as := [.inl (nI 4)]) (rest := [.inr (0, 21)]) dX2_hasWrongMap_18 lkX10_mapBlock nl_X2_123 isX10_mapBlock rfl (Nat.le_of_ble_eq_true rfl) rfl (c_mapBlock hG.nd (g := 4) (by omega) I) ?_
  refine am_iload_n dX2_hasWrongMap_21 rfl ?_
  refine am_callVx (i := 0) (j := 21) (as := [.inl (nI 384), .inl (nI 11)]) (rest := []) dX2_hasWrongMap_22 lkX2_at ml_X2_84 imX2_at seX2_at rfl rfl (hG.m0 (by decide)) rfl (Nat.le_of_ble_eq_true rfl) rfl (c_at hG (by omega) (by omega) I hS) ?_
  refine am_top (show I 0 1 (384 * 16 + 11) = nI 0 from (hD (384 * 16 + 11)).trans rfl) ?_
  refine am_iload_n dX2_hasWrongMap_25 rfl ?_
  refine am_iconst (v := nI 3) dX2_hasWrongMap_26 (by decide) ?_
  refine am_icmp_ge (tgt := 43) dX2_hasWrongMap_27 (by decide) (fun _ => ?_) (fun h => absurd h (by decide))
  refine am_iconst (v := nI 0) dX2_hasWrongMap_43 (by decide) ?_
  refine am_icmp_eq (tgt := 49) dX2_hasWrongMap_44 (by decide) (fun _ => ?_) (fun h => absurd h (by decide))
  refine am_iinc (v := nI 12) dX2_hasWrongMap_49 rfl (by decide) ?_
  refine am_goto (tgt := 10) dX2_hasWrongMap_52 (by decide) ?_
  refine am_iload_n dX2_hasWrongMap_10 rfl ?_
  refine am_bipush (v := nI 16) dX2_hasWrongMap_11 (by decide) ?_
  refine am_icmp_ge (tgt := 55) dX2_hasWrongMap_13 (by decide) (fun h => absurd h (by decide)) (fun _ => ?_)
  refine am_aload_n dX2_hasWrongMap_16 rfl ?_
  refine am_iload_n dX2_hasWrongMap_17 rfl ?_
  refine am_callSNx (as := [.inl (nI 4)]) (rest := [.inr (0, 21)]) dX2_hasWrongMap_18 lkX10_mapBlock nl_X2_123 isX10_mapBlock rfl (Nat.le_of_ble_eq_true rfl) rfl (c_mapBlock hG.nd (g := 4) (by omega) I) ?_
  refine am_iload_n dX2_hasWrongMap_21 rfl ?_
  refine am_callVx (i := 0) (j := 21) (as := [.inl (nI 384), .inl (nI 12)]) (rest := []) dX2_hasWrongMap_22 lkX2_at ml_X2_84 imX2_at seX2_at rfl rfl (hG.m0 (by decide)) rfl (Nat.le_of_ble_eq_true rfl) rfl (c_at hG (by omega) (by omega) I hS) ?_
  refine am_top (show I 0 1 (384 * 16 + 12) = nI 0 from (hD (384 * 16 + 12)).trans rfl) ?_
  refine am_iload_n dX2_hasWrongMap_25 rfl ?_
  refine am_iconst (v := nI 3) dX2_hasWrongMap_26 (by decide) ?_
  refine am_icmp_ge (tgt := 43) dX2_hasWrongMap_27 (by decide) (fun _ => ?_) (fun h => absurd h (by decide))
  refine am_iconst (v := nI 0) dX2_hasWrongMap_43 (by decide) ?_
  refine am_icmp_eq (tgt := 49) dX2_hasWrongMap_44 (by decide) (fun _ => ?_) (fun h => absurd h (by decide))
  refine am_iinc (v := nI 13) dX2_hasWrongMap_49 rfl (by decide) ?_
  refine am_goto (tgt := 10) dX2_hasWrongMap_52 (by decide) ?_
  refine am_iload_n dX2_hasWrongMap_10 rfl ?_
  refine am_bipush (v := nI 16) dX2_hasWrongMap_11 (by decide) ?_
  refine am_icmp_ge (tgt := 55) dX2_hasWrongMap_13 (by decide) (fun h => absurd h (by decide)) (fun _ => ?_)
  refine am_aload_n dX2_hasWrongMap_16 rfl ?_
  refine am_iload_n dX2_hasWrongMap_17 rfl ?_
  refine am_callSNx (as := [.inl (nI 4)]) (rest := [.inr (0, 21)]) dX2_hasWrongMap_18 lkX10_mapBlock nl_X2_123 isX10_mapBlock rfl (Nat.le_of_ble_eq_true rfl) rfl (c_mapBlock hG.nd (g := 4) (by omega) I) ?_
  refine am_iload_n dX2_hasWrongMap_21 rfl ?_
  refine am_callVx (i := 0) (j := 21) (as := [.inl (nI 384), .inl (nI 13)]) (rest := []) dX2_hasWrongMap_22 lkX2_at ml_X2_84 imX2_at seX2_at rfl rfl (hG.m0 (by decide)) rfl (Nat.le_of_ble_eq_true rfl) rfl (c_at hG (by omega) (by omega) I hS) ?_
  refine am_top (show I 0 1 (384 * 16 + 13) = nI 0 from (hD (384 * 16 + 13)).trans rfl) ?_
  refine am_iload_n dX2_hasWrongMap_25 rfl ?_
  refine am_iconst (v := nI 3) dX2_hasWrongMap_26 (by decide) ?_
  refine am_icmp_ge (tgt := 43) dX2_hasWrongMap_27 (by decide) (fun _ => ?_) (fun h => absurd h (by decide))
  refine am_iconst (v := nI 0) dX2_hasWrongMap_43 (by decide) ?_
  refine am_icmp_eq (tgt := 49) dX2_hasWrongMap_44 (by decide) (fun _ => ?_) (fun h => absurd h (by decide))
  refine am_iinc (v := nI 14) dX2_hasWrongMap_49 rfl (by decide) ?_
  refine am_goto (tgt := 10) dX2_hasWrongMap_52 (by decide) ?_
  refine am_iload_n dX2_hasWrongMap_10 rfl ?_
  refine am_bipush (v := nI 16) dX2_hasWrongMap_11 (by decide) ?_
  refine am_icmp_ge (tgt := 55) dX2_hasWrongMap_13 (by decide) (fun h => absurd h (by decide)) (fun _ => ?_)
  refine am_aload_n dX2_hasWrongMap_16 rfl ?_
  refine am_iload_n dX2_hasWrongMap_17 rfl ?_
  refine am_callSNx (as := [.inl (nI 4)]) (rest := [.inr (0, 21)]) dX2_hasWrongMap_18 lkX10_mapBlock nl_X2_123 isX10_mapBlock rfl (Nat.le_of_ble_eq_true rfl) rfl (c_mapBlock hG.nd (g := 4) (by omega) I) ?_
  refine am_iload_n dX2_hasWrongMap_21 rfl ?_
  refine am_callVx (i := 0) (j := 21) (as := [.inl (nI 384), .inl (nI 14)]) (rest := []) dX2_hasWrongMap_22 lkX2_at ml_X2_84 imX2_at seX2_at rfl rfl (hG.m0 (by decide)) rfl (Nat.le_of_ble_eq_true rfl) rfl (c_at hG (by omega) (by omega) I hS) ?_
  refine am_top (show I 0 1 (384 * 16 + 14) = nI 0 from (hD (384 * 16 + 14)).trans rfl) ?_
  refine am_iload_n dX2_hasWrongMap_25 rfl ?_
  refine am_iconst (v := nI 3) dX2_hasWrongMap_26 (by decide) ?_
  refine am_icmp_ge (tgt := 43) dX2_hasWrongMap_27 (by decide) (fun _ => ?_) (fun h => absurd h (by decide))
  refine am_iconst (v := nI 0) dX2_hasWrongMap_43 (by decide) ?_
  refine am_icmp_eq (tgt := 49) dX2_hasWrongMap_44 (by decide) (fun _ => ?_) (fun h => absurd h (by decide))
  refine am_iinc (v := nI 15) dX2_hasWrongMap_49 rfl (by decide) ?_
  refine am_goto (tgt := 10) dX2_hasWrongMap_52 (by decide) ?_
  refine am_iload_n dX2_hasWrongMap_10 rfl ?_
  refine am_bipush (v := nI 16) dX2_hasWrongMap_11 (by decide) ?_
  refine am_icmp_ge (tgt := 55) dX2_hasWrongMap_13 (by decide) (fun h => absurd h (by decide)) (fun _ => ?_)
  refine am_aload_n dX2_hasWrongMap_16 rfl ?_
  refine am_iload_n dX2_hasWrongMap_17 rfl ?_
  refine am_callSNx (as := [.inl (nI 4)]) (rest := [.inr (0, 21)]) dX2_hasWrongMap_18 lkX10_mapBlock nl_X2_123 isX10_mapBlock rfl (Nat.le_of_ble_eq_true rfl) rfl (c_mapBlock hG.nd (g := 4) (by omega) I) ?_
  refine am_iload_n dX2_hasWrongMap_21 rfl ?_
  refine am_callVx (i := 0) (j := 21) (as := [.inl (nI 384), .inl (nI 15)]) (rest := []) dX2_hasWrongMap_22 lkX2_at ml_X2_84 imX2_at seX2_at rfl rfl (hG.m0 (by decide)) rfl (Nat.le_of_ble_eq_true rfl) rfl (c_at hG (by omega) (by omega) I hS) ?_
  refine am_top (show I 0 1 (384 * 16 + 15) = nI 0 from (hD (384 * 16 + 15)).trans rfl) ?_
  refine am_iload_n dX2_hasWrongMap_25 rfl ?_
  refine am_iconst (v := nI 3) dX2_hasWrongMap_26 (by decide) ?_
  refine am_icmp_ge (tgt := 43) dX2_hasWrongMap_27 (by decide) (fun _ => ?_) (fun h => absurd h (by decide))
  refine am_iconst (v := nI 0) dX2_hasWrongMap_43 (by decide) ?_
  refine am_icmp_eq (tgt := 49) dX2_hasWrongMap_44 (by decide) (fun _ => ?_) (fun h => absurd h (by decide))
  refine am_iinc (v := nI 16) dX2_hasWrongMap_49 rfl (by decide) ?_
  refine am_goto (tgt := 10) dX2_hasWrongMap_52 (by decide) ?_
  refine am_iload_n dX2_hasWrongMap_10 rfl ?_
  refine am_bipush (v := nI 16) dX2_hasWrongMap_11 (by decide) ?_
  refine am_icmp_ge (tgt := 55) dX2_hasWrongMap_13 (by decide) (fun _ => ?_) (fun h => absurd h (by decide))
  refine am_iinc (v := nI 5) dX2_hasWrongMap_55 rfl (by decide) ?_
  refine am_goto (tgt := 2) dX2_hasWrongMap_58 (by decide) ?_
  refine am_iload_n dX2_hasWrongMap_2 rfl ?_
  refine am_bipush (v := nI 8) dX2_hasWrongMap_3 (by decide) ?_
  refine am_icmp_ge (tgt := 61) dX2_hasWrongMap_5 (by decide) (fun h => absurd h (by decide)) (fun _ => ?_)
  refine am_iconst (v := nI 0) dX2_hasWrongMap_8 (by decide) ?_
  refine am_istore_n dX2_hasWrongMap_9 (by decide) ?_
  refine am_iload_n dX2_hasWrongMap_10 rfl ?_
  refine am_bipush (v := nI 16) dX2_hasWrongMap_11 (by decide) ?_
  refine am_icmp_ge (tgt := 55) dX2_hasWrongMap_13 (by decide) (fun h => absurd h (by decide)) (fun _ => ?_)
  refine am_aload_n dX2_hasWrongMap_16 rfl ?_
  refine am_iload_n dX2_hasWrongMap_17 rfl ?_
  refine am_callSNx (as := [.inl (nI 5)]) (rest := [.inr (0, 21)]) dX2_hasWrongMap_18 lkX10_mapBlock nl_X2_123 isX10_mapBlock rfl (Nat.le_of_ble_eq_true rfl) rfl (c_mapBlock hG.nd (g := 5) (by omega) I) ?_
  refine am_iload_n dX2_hasWrongMap_21 rfl ?_
  refine am_callVx (i := 0) (j := 21) (as := [.inl (nI 448), .inl (nI 0)]) (rest := []) dX2_hasWrongMap_22 lkX2_at ml_X2_84 imX2_at seX2_at rfl rfl (hG.m0 (by decide)) rfl (Nat.le_of_ble_eq_true rfl) rfl (c_at hG (by omega) (by omega) I hS) ?_
  refine am_top (show I 0 1 (448 * 16 + 0) = nI 0 from (hD (448 * 16 + 0)).trans rfl) ?_
  refine am_iload_n dX2_hasWrongMap_25 rfl ?_
  refine am_iconst (v := nI 3) dX2_hasWrongMap_26 (by decide) ?_
  refine am_icmp_ge (tgt := 43) dX2_hasWrongMap_27 (by decide) (fun h => absurd h (by decide)) (fun _ => ?_)
  refine am_aload_n dX2_hasWrongMap_30 rfl ?_
  refine am_get (v := .inr (0, 26)) dX2_hasWrongMap_31 fl_2_25 (hG.m0 (by decide)) rfl ?_
  refine am_iload_n dX2_hasWrongMap_34 rfl ?_
  refine am_iconst (v := nI 3) dX2_hasWrongMap_35 (by decide) ?_
  refine am_imul dX2_hasWrongMap_36 ?_
  refine am_top (show (nI 5) * (nI 3) = nI 15 by decide) ?_
  refine am_iload_n dX2_hasWrongMap_37 rfl ?_
  refine am_iadd dX2_hasWrongMap_38 ?_
  refine am_top (show (nI 15) + (nI 0) = nI 15 by decide) ?_
  refine am_iald (a := 15) dX2_hasWrongMap_39 (hG.m0 (by decide)) rfl rfl (show 15 < 24 from (by omega)) (show 24 < 2 ^ 31 by decide) ?_
  refine am_top ((hB 15 (by decide)).trans rfl) ?_
  refine am_goto (tgt := 44) dX2_hasWrongMap_40 (by decide) ?_
  refine am_icmp_eq (tgt := 49) dX2_hasWrongMap_44 (by decide) (fun _ => ?_) (fun h => absurd h (by decide))
  refine am_iinc (v := nI 1) dX2_hasWrongMap_49 rfl (by decide) ?_
  refine am_goto (tgt := 10) dX2_hasWrongMap_52 (by decide) ?_
  refine am_iload_n dX2_hasWrongMap_10 rfl ?_
  refine am_bipush (v := nI 16) dX2_hasWrongMap_11 (by decide) ?_
  refine am_icmp_ge (tgt := 55) dX2_hasWrongMap_13 (by decide) (fun h => absurd h (by decide)) (fun _ => ?_)
  refine am_aload_n dX2_hasWrongMap_16 rfl ?_
  refine am_iload_n dX2_hasWrongMap_17 rfl ?_
  refine am_callSNx (as := [.inl (nI 5)]) (rest := [.inr (0, 21)]) dX2_hasWrongMap_18 lkX10_mapBlock nl_X2_123 isX10_mapBlock rfl (Nat.le_of_ble_eq_true rfl) rfl (c_mapBlock hG.nd (g := 5) (by omega) I) ?_
  refine am_iload_n dX2_hasWrongMap_21 rfl ?_
  refine am_callVx (i := 0) (j := 21) (as := [.inl (nI 448), .inl (nI 1)]) (rest := []) dX2_hasWrongMap_22 lkX2_at ml_X2_84 imX2_at seX2_at rfl rfl (hG.m0 (by decide)) rfl (Nat.le_of_ble_eq_true rfl) rfl (c_at hG (by omega) (by omega) I hS) ?_
  refine am_top (show I 0 1 (448 * 16 + 1) = nI 0 from (hD (448 * 16 + 1)).trans rfl) ?_
  refine am_iload_n dX2_hasWrongMap_25 rfl ?_
  refine am_iconst (v := nI 3) dX2_hasWrongMap_26 (by decide) ?_
  refine am_icmp_ge (tgt := 43) dX2_hasWrongMap_27 (by decide) (fun h => absurd h (by decide)) (fun _ => ?_)
  refine am_aload_n dX2_hasWrongMap_30 rfl ?_
  refine am_get (v := .inr (0, 26)) dX2_hasWrongMap_31 fl_2_25 (hG.m0 (by decide)) rfl ?_
  refine am_iload_n dX2_hasWrongMap_34 rfl ?_
  refine am_iconst (v := nI 3) dX2_hasWrongMap_35 (by decide) ?_
  refine am_imul dX2_hasWrongMap_36 ?_
  refine am_top (show (nI 5) * (nI 3) = nI 15 by decide) ?_
  refine am_iload_n dX2_hasWrongMap_37 rfl ?_
  refine am_iadd dX2_hasWrongMap_38 ?_
  refine am_top (show (nI 15) + (nI 1) = nI 16 by decide) ?_
  refine am_iald (a := 16) dX2_hasWrongMap_39 (hG.m0 (by decide)) rfl rfl (show 16 < 24 from (by omega)) (show 24 < 2 ^ 31 by decide) ?_
  refine am_top ((hB 16 (by decide)).trans rfl) ?_
  refine am_goto (tgt := 44) dX2_hasWrongMap_40 (by decide) ?_
  refine am_icmp_eq (tgt := 49) dX2_hasWrongMap_44 (by decide) (fun _ => ?_) (fun h => absurd h (by decide))
  refine am_iinc (v := nI 2) dX2_hasWrongMap_49 rfl (by decide) ?_
  refine am_goto (tgt := 10) dX2_hasWrongMap_52 (by decide) ?_
  refine am_iload_n dX2_hasWrongMap_10 rfl ?_
  refine am_bipush (v := nI 16) dX2_hasWrongMap_11 (by decide) ?_
  refine am_icmp_ge (tgt := 55) dX2_hasWrongMap_13 (by decide) (fun h => absurd h (by decide)) (fun _ => ?_)
  refine am_aload_n dX2_hasWrongMap_16 rfl ?_
  refine am_iload_n dX2_hasWrongMap_17 rfl ?_
  refine am_callSNx (as := [.inl (nI 5)]) (rest := [.inr (0, 21)]) dX2_hasWrongMap_18 lkX10_mapBlock nl_X2_123 isX10_mapBlock rfl (Nat.le_of_ble_eq_true rfl) rfl (c_mapBlock hG.nd (g := 5) (by omega) I) ?_
  refine am_iload_n dX2_hasWrongMap_21 rfl ?_
  refine am_callVx (i := 0) (j := 21) (as := [.inl (nI 448), .inl (nI 2)]) (rest := []) dX2_hasWrongMap_22 lkX2_at ml_X2_84 imX2_at seX2_at rfl rfl (hG.m0 (by decide)) rfl (Nat.le_of_ble_eq_true rfl) rfl (c_at hG (by omega) (by omega) I hS) ?_
  refine am_top (show I 0 1 (448 * 16 + 2) = nI 0 from (hD (448 * 16 + 2)).trans rfl) ?_
  refine am_iload_n dX2_hasWrongMap_25 rfl ?_
  refine am_iconst (v := nI 3) dX2_hasWrongMap_26 (by decide) ?_
  refine am_icmp_ge (tgt := 43) dX2_hasWrongMap_27 (by decide) (fun h => absurd h (by decide)) (fun _ => ?_)
  refine am_aload_n dX2_hasWrongMap_30 rfl ?_
  refine am_get (v := .inr (0, 26)) dX2_hasWrongMap_31 fl_2_25 (hG.m0 (by decide)) rfl ?_
  refine am_iload_n dX2_hasWrongMap_34 rfl ?_
  refine am_iconst (v := nI 3) dX2_hasWrongMap_35 (by decide) ?_
  refine am_imul dX2_hasWrongMap_36 ?_
  refine am_top (show (nI 5) * (nI 3) = nI 15 by decide) ?_
  refine am_iload_n dX2_hasWrongMap_37 rfl ?_
  refine am_iadd dX2_hasWrongMap_38 ?_
  refine am_top (show (nI 15) + (nI 2) = nI 17 by decide) ?_
  refine am_iald (a := 17) dX2_hasWrongMap_39 (hG.m0 (by decide)) rfl rfl (show 17 < 24 from (by omega)) (show 24 < 2 ^ 31 by decide) ?_
  refine am_top ((hB 17 (by decide)).trans rfl) ?_
  refine am_goto (tgt := 44) dX2_hasWrongMap_40 (by decide) ?_
  refine am_icmp_eq (tgt := 49) dX2_hasWrongMap_44 (by decide) (fun _ => ?_) (fun h => absurd h (by decide))
  refine am_iinc (v := nI 3) dX2_hasWrongMap_49 rfl (by decide) ?_
  refine am_goto (tgt := 10) dX2_hasWrongMap_52 (by decide) ?_
  refine am_iload_n dX2_hasWrongMap_10 rfl ?_
  refine am_bipush (v := nI 16) dX2_hasWrongMap_11 (by decide) ?_
  refine am_icmp_ge (tgt := 55) dX2_hasWrongMap_13 (by decide) (fun h => absurd h (by decide)) (fun _ => ?_)
  refine am_aload_n dX2_hasWrongMap_16 rfl ?_
  refine am_iload_n dX2_hasWrongMap_17 rfl ?_
  refine am_callSNx (as := [.inl (nI 5)]) (rest := [.inr (0, 21)]) dX2_hasWrongMap_18 lkX10_mapBlock nl_X2_123 isX10_mapBlock rfl (Nat.le_of_ble_eq_true rfl) rfl (c_mapBlock hG.nd (g := 5) (by omega) I) ?_
  refine am_iload_n dX2_hasWrongMap_21 rfl ?_
  refine am_callVx (i := 0) (j := 21) (as := [.inl (nI 448), .inl (nI 3)]) (rest := []) dX2_hasWrongMap_22 lkX2_at ml_X2_84 imX2_at seX2_at rfl rfl (hG.m0 (by decide)) rfl (Nat.le_of_ble_eq_true rfl) rfl (c_at hG (by omega) (by omega) I hS) ?_
  refine am_top (show I 0 1 (448 * 16 + 3) = nI 0 from (hD (448 * 16 + 3)).trans rfl) ?_
  refine am_iload_n dX2_hasWrongMap_25 rfl ?_
  refine am_iconst (v := nI 3) dX2_hasWrongMap_26 (by decide) ?_
  refine am_icmp_ge (tgt := 43) dX2_hasWrongMap_27 (by decide) (fun _ => ?_) (fun h => absurd h (by decide))
  refine am_iconst (v := nI 0) dX2_hasWrongMap_43 (by decide) ?_
  refine am_icmp_eq (tgt := 49) dX2_hasWrongMap_44 (by decide) (fun _ => ?_) (fun h => absurd h (by decide))
  refine am_iinc (v := nI 4) dX2_hasWrongMap_49 rfl (by decide) ?_
  refine am_goto (tgt := 10) dX2_hasWrongMap_52 (by decide) ?_
  refine am_iload_n dX2_hasWrongMap_10 rfl ?_
  refine am_bipush (v := nI 16) dX2_hasWrongMap_11 (by decide) ?_
  refine am_icmp_ge (tgt := 55) dX2_hasWrongMap_13 (by decide) (fun h => absurd h (by decide)) (fun _ => ?_)
  refine am_aload_n dX2_hasWrongMap_16 rfl ?_
  refine am_iload_n dX2_hasWrongMap_17 rfl ?_
  refine am_callSNx (as := [.inl (nI 5)]) (rest := [.inr (0, 21)]) dX2_hasWrongMap_18 lkX10_mapBlock nl_X2_123 isX10_mapBlock rfl (Nat.le_of_ble_eq_true rfl) rfl (c_mapBlock hG.nd (g := 5) (by omega) I) ?_
  refine am_iload_n dX2_hasWrongMap_21 rfl ?_
  refine am_callVx (i := 0) (j := 21) (as := [.inl (nI 448), .inl (nI 4)]) (rest := []) dX2_hasWrongMap_22 lkX2_at ml_X2_84 imX2_at seX2_at rfl rfl (hG.m0 (by decide)) rfl (Nat.le_of_ble_eq_true rfl) rfl (c_at hG (by omega) (by omega) I hS) ?_
  refine am_top (show I 0 1 (448 * 16 + 4) = nI 0 from (hD (448 * 16 + 4)).trans rfl) ?_
  refine am_iload_n dX2_hasWrongMap_25 rfl ?_
  refine am_iconst (v := nI 3) dX2_hasWrongMap_26 (by decide) ?_
  refine am_icmp_ge (tgt := 43) dX2_hasWrongMap_27 (by decide) (fun _ => ?_) (fun h => absurd h (by decide))
  refine am_iconst (v := nI 0) dX2_hasWrongMap_43 (by decide) ?_
  refine am_icmp_eq (tgt := 49) dX2_hasWrongMap_44 (by decide) (fun _ => ?_) (fun h => absurd h (by decide))
  refine am_iinc (v := nI 5) dX2_hasWrongMap_49 rfl (by decide) ?_
  refine am_goto (tgt := 10) dX2_hasWrongMap_52 (by decide) ?_
  refine am_iload_n dX2_hasWrongMap_10 rfl ?_
  refine am_bipush (v := nI 16) dX2_hasWrongMap_11 (by decide) ?_
  refine am_icmp_ge (tgt := 55) dX2_hasWrongMap_13 (by decide) (fun h => absurd h (by decide)) (fun _ => ?_)
  refine am_aload_n dX2_hasWrongMap_16 rfl ?_
  refine am_iload_n dX2_hasWrongMap_17 rfl ?_
  refine am_callSNx (as := [.inl (nI 5)]) (rest := [.inr (0, 21)]) dX2_hasWrongMap_18 lkX10_mapBlock nl_X2_123 isX10_mapBlock rfl (Nat.le_of_ble_eq_true rfl) rfl (c_mapBlock hG.nd (g := 5) (by omega) I) ?_
  refine am_iload_n dX2_hasWrongMap_21 rfl ?_
  refine am_callVx (i := 0) (j := 21) (as := [.inl (nI 448), .inl (nI 5)]) (rest := []) dX2_hasWrongMap_22 lkX2_at ml_X2_84 imX2_at seX2_at rfl rfl (hG.m0 (by decide)) rfl (Nat.le_of_ble_eq_true rfl) rfl (c_at hG (by omega) (by omega) I hS) ?_
  refine am_top (show I 0 1 (448 * 16 + 5) = nI 0 from (hD (448 * 16 + 5)).trans rfl) ?_
  refine am_iload_n dX2_hasWrongMap_25 rfl ?_
  refine am_iconst (v := nI 3) dX2_hasWrongMap_26 (by decide) ?_
  refine am_icmp_ge (tgt := 43) dX2_hasWrongMap_27 (by decide) (fun _ => ?_) (fun h => absurd h (by decide))
  refine am_iconst (v := nI 0) dX2_hasWrongMap_43 (by decide) ?_
  refine am_icmp_eq (tgt := 49) dX2_hasWrongMap_44 (by decide) (fun _ => ?_) (fun h => absurd h (by decide))
  refine am_iinc (v := nI 6) dX2_hasWrongMap_49 rfl (by decide) ?_
  refine am_goto (tgt := 10) dX2_hasWrongMap_52 (by decide) ?_
  refine am_iload_n dX2_hasWrongMap_10 rfl ?_
  refine am_bipush (v := nI 16) dX2_hasWrongMap_11 (by decide) ?_
  refine am_icmp_ge (tgt := 55) dX2_hasWrongMap_13 (by decide) (fun h => absurd h (by decide)) (fun _ => ?_)
  refine am_aload_n dX2_hasWrongMap_16 rfl ?_
  refine am_iload_n dX2_hasWrongMap_17 rfl ?_
  refine am_callSNx (as := [.inl (nI 5)]) (rest := [.inr (0, 21)]) dX2_hasWrongMap_18 lkX10_mapBlock nl_X2_123 isX10_mapBlock rfl (Nat.le_of_ble_eq_true rfl) rfl (c_mapBlock hG.nd (g := 5) (by omega) I) ?_
  refine am_iload_n dX2_hasWrongMap_21 rfl ?_
  refine am_callVx (i := 0) (j := 21) (as := [.inl (nI 448), .inl (nI 6)]) (rest := []) dX2_hasWrongMap_22 lkX2_at ml_X2_84 imX2_at seX2_at rfl rfl (hG.m0 (by decide)) rfl (Nat.le_of_ble_eq_true rfl) rfl (c_at hG (by omega) (by omega) I hS) ?_
  refine am_top (show I 0 1 (448 * 16 + 6) = nI 0 from (hD (448 * 16 + 6)).trans rfl) ?_
  refine am_iload_n dX2_hasWrongMap_25 rfl ?_
  refine am_iconst (v := nI 3) dX2_hasWrongMap_26 (by decide) ?_
  refine am_icmp_ge (tgt := 43) dX2_hasWrongMap_27 (by decide) (fun _ => ?_) (fun h => absurd h (by decide))
  refine am_iconst (v := nI 0) dX2_hasWrongMap_43 (by decide) ?_
  refine am_icmp_eq (tgt := 49) dX2_hasWrongMap_44 (by decide) (fun _ => ?_) (fun h => absurd h (by decide))
  refine am_iinc (v := nI 7) dX2_hasWrongMap_49 rfl (by decide) ?_
  refine am_goto (tgt := 10) dX2_hasWrongMap_52 (by decide) ?_
  refine am_iload_n dX2_hasWrongMap_10 rfl ?_
  refine am_bipush (v := nI 16) dX2_hasWrongMap_11 (by decide) ?_
  refine am_icmp_ge (tgt := 55) dX2_hasWrongMap_13 (by decide) (fun h => absurd h (by decide)) (fun _ => ?_)
  refine am_aload_n dX2_hasWrongMap_16 rfl ?_
  refine am_iload_n dX2_hasWrongMap_17 rfl ?_
  refine am_callSNx (as := [.inl (nI 5)]) (rest := [.inr (0, 21)]) dX2_hasWrongMap_18 lkX10_mapBlock nl_X2_123 isX10_mapBlock rfl (Nat.le_of_ble_eq_true rfl) rfl (c_mapBlock hG.nd (g := 5) (by omega) I) ?_
  refine am_iload_n dX2_hasWrongMap_21 rfl ?_
  refine am_callVx (i := 0) (j := 21) (as := [.inl (nI 448), .inl (nI 7)]) (rest := []) dX2_hasWrongMap_22 lkX2_at ml_X2_84 imX2_at seX2_at rfl rfl (hG.m0 (by decide)) rfl (Nat.le_of_ble_eq_true rfl) rfl (c_at hG (by omega) (by omega) I hS) ?_
  refine am_top (show I 0 1 (448 * 16 + 7) = nI 0 from (hD (448 * 16 + 7)).trans rfl) ?_
  refine am_iload_n dX2_hasWrongMap_25 rfl ?_
  refine am_iconst (v := nI 3) dX2_hasWrongMap_26 (by decide) ?_
  refine am_icmp_ge (tgt := 43) dX2_hasWrongMap_27 (by decide) (fun _ => ?_) (fun h => absurd h (by decide))
  refine am_iconst (v := nI 0) dX2_hasWrongMap_43 (by decide) ?_
  refine am_icmp_eq (tgt := 49) dX2_hasWrongMap_44 (by decide) (fun _ => ?_) (fun h => absurd h (by decide))
  refine am_iinc (v := nI 8) dX2_hasWrongMap_49 rfl (by decide) ?_
  refine am_goto (tgt := 10) dX2_hasWrongMap_52 (by decide) ?_
  refine am_iload_n dX2_hasWrongMap_10 rfl ?_
  refine am_bipush (v := nI 16) dX2_hasWrongMap_11 (by decide) ?_
  refine am_icmp_ge (tgt := 55) dX2_hasWrongMap_13 (by decide) (fun h => absurd h (by decide)) (fun _ => ?_)
  refine am_aload_n dX2_hasWrongMap_16 rfl ?_
  refine am_iload_n dX2_hasWrongMap_17 rfl ?_
  refine am_callSNx (as := [.inl (nI 5)]) (rest := [.inr (0, 21)]) dX2_hasWrongMap_18 lkX10_mapBlock nl_X2_123 isX10_mapBlock rfl (Nat.le_of_ble_eq_true rfl) rfl (c_mapBlock hG.nd (g := 5) (by omega) I) ?_
  refine am_iload_n dX2_hasWrongMap_21 rfl ?_
  refine am_callVx (i := 0) (j := 21) (as := [.inl (nI 448), .inl (nI 8)]) (rest := []) dX2_hasWrongMap_22 lkX2_at ml_X2_84 imX2_at seX2_at rfl rfl (hG.m0 (by decide)) rfl (Nat.le_of_ble_eq_true rfl) rfl (c_at hG (by omega) (by omega) I hS) ?_
  refine am_top (show I 0 1 (448 * 16 + 8) = nI 0 from (hD (448 * 16 + 8)).trans rfl) ?_
  refine am_iload_n dX2_hasWrongMap_25 rfl ?_
  refine am_iconst (v := nI 3) dX2_hasWrongMap_26 (by decide) ?_
  refine am_icmp_ge (tgt := 43) dX2_hasWrongMap_27 (by decide) (fun _ => ?_) (fun h => absurd h (by decide))
  refine am_iconst (v := nI 0) dX2_hasWrongMap_43 (by decide) ?_
  refine am_icmp_eq (tgt := 49) dX2_hasWrongMap_44 (by decide) (fun _ => ?_) (fun h => absurd h (by decide))
  refine am_iinc (v := nI 9) dX2_hasWrongMap_49 rfl (by decide) ?_
  refine am_goto (tgt := 10) dX2_hasWrongMap_52 (by decide) ?_
  refine am_iload_n dX2_hasWrongMap_10 rfl ?_
  refine am_bipush (v := nI 16) dX2_hasWrongMap_11 (by decide) ?_
  refine am_icmp_ge (tgt := 55) dX2_hasWrongMap_13 (by decide) (fun h => absurd h (by decide)) (fun _ => ?_)
  refine am_aload_n dX2_hasWrongMap_16 rfl ?_
  refine am_iload_n dX2_hasWrongMap_17 rfl ?_
  refine am_callSNx (as := [.inl (nI 5)]) (rest := [.inr (0, 21)]) dX2_hasWrongMap_18 lkX10_mapBlock nl_X2_123 isX10_mapBlock rfl (Nat.le_of_ble_eq_true rfl) rfl (c_mapBlock hG.nd (g := 5) (by omega) I) ?_
  refine am_iload_n dX2_hasWrongMap_21 rfl ?_
  refine am_callVx (i := 0) (j := 21) (as := [.inl (nI 448), .inl (nI 9)]) (rest := []) dX2_hasWrongMap_22 lkX2_at ml_X2_84 imX2_at seX2_at rfl rfl (hG.m0 (by decide)) rfl (Nat.le_of_ble_eq_true rfl) rfl (c_at hG (by omega) (by omega) I hS) ?_
  refine am_top (show I 0 1 (448 * 16 + 9) = nI 0 from (hD (448 * 16 + 9)).trans rfl) ?_
  refine am_iload_n dX2_hasWrongMap_25 rfl ?_
  refine am_iconst (v := nI 3) dX2_hasWrongMap_26 (by decide) ?_
  refine am_icmp_ge (tgt := 43) dX2_hasWrongMap_27 (by decide) (fun _ => ?_) (fun h => absurd h (by decide))
  refine am_iconst (v := nI 0) dX2_hasWrongMap_43 (by decide) ?_
  refine am_icmp_eq (tgt := 49) dX2_hasWrongMap_44 (by decide) (fun _ => ?_) (fun h => absurd h (by decide))
  refine am_iinc (v := nI 10) dX2_hasWrongMap_49 rfl (by decide) ?_
  refine am_goto (tgt := 10) dX2_hasWrongMap_52 (by decide) ?_
  refine am_iload_n dX2_hasWrongMap_10 rfl ?_
  refine am_bipush (v := nI 16) dX2_hasWrongMap_11 (by decide) ?_
  refine am_icmp_ge (tgt := 55) dX2_hasWrongMap_13 (by decide) (fun h => absurd h (by decide)) (fun _ => ?_)
  refine am_aload_n dX2_hasWrongMap_16 rfl ?_
  refine am_iload_n dX2_hasWrongMap_17 rfl ?_
  refine am_callSNx (as := [.inl (nI 5)]) (rest := [.inr (0, 21)]) dX2_hasWrongMap_18 lkX10_mapBlock nl_X2_123 isX10_mapBlock rfl (Nat.le_of_ble_eq_true rfl) rfl (c_mapBlock hG.nd (g := 5) (by omega) I) ?_
  refine am_iload_n dX2_hasWrongMap_21 rfl ?_
  refine am_callVx (i := 0) (j := 21) (as := [.inl (nI 448), .inl (nI 10)]) (rest := []) dX2_hasWrongMap_22 lkX2_at ml_X2_84 imX2_at seX2_at rfl rfl (hG.m0 (by decide)) rfl (Nat.le_of_ble_eq_true rfl) rfl (c_at hG (by omega) (by omega) I hS) ?_
  refine am_top (show I 0 1 (448 * 16 + 10) = nI 0 from (hD (448 * 16 + 10)).trans rfl) ?_
  refine am_iload_n dX2_hasWrongMap_25 rfl ?_
  refine am_iconst (v := nI 3) dX2_hasWrongMap_26 (by decide) ?_
  refine am_icmp_ge (tgt := 43) dX2_hasWrongMap_27 (by decide) (fun _ => ?_) (fun h => absurd h (by decide))
  refine am_iconst (v := nI 0) dX2_hasWrongMap_43 (by decide) ?_
  refine am_icmp_eq (tgt := 49) dX2_hasWrongMap_44 (by decide) (fun _ => ?_) (fun h => absurd h (by decide))
  refine am_iinc (v := nI 11) dX2_hasWrongMap_49 rfl (by decide) ?_
  refine am_goto (tgt := 10) dX2_hasWrongMap_52 (by decide) ?_
  refine am_iload_n dX2_hasWrongMap_10 rfl ?_
  refine am_bipush (v := nI 16) dX2_hasWrongMap_11 (by decide) ?_
  refine am_icmp_ge (tgt := 55) dX2_hasWrongMap_13 (by decide) (fun h => absurd h (by decide)) (fun _ => ?_)
  refine am_aload_n dX2_hasWrongMap_16 rfl ?_
  refine am_iload_n dX2_hasWrongMap_17 rfl ?_
  refine am_callSNx (as := [.inl (nI 5)]) (rest := [.inr (0, 21)]) dX2_hasWrongMap_18 lkX10_mapBlock nl_X2_123 isX10_mapBlock rfl (Nat.le_of_ble_eq_true rfl) rfl (c_mapBlock hG.nd (g := 5) (by omega) I) ?_
  refine am_iload_n dX2_hasWrongMap_21 rfl ?_
  refine am_callVx (i := 0) (j := 21) (as := [.inl (nI 448), .inl (nI 11)]) (rest := []) dX2_hasWrongMap_22 lkX2_at ml_X2_84 imX2_at seX2_at rfl rfl (hG.m0 (by decide)) rfl (Nat.le_of_ble_eq_true rfl) rfl (c_at hG (by omega) (by omega) I hS) ?_
  refine am_top (show I 0 1 (448 * 16 + 11) = nI 0 from (hD (448 * 16 + 11)).trans rfl) ?_
  refine am_iload_n dX2_hasWrongMap_25 rfl ?_
  refine am_iconst (v := nI 3) dX2_hasWrongMap_26 (by decide) ?_
  refine am_icmp_ge (tgt := 43) dX2_hasWrongMap_27 (by decide) (fun _ => ?_) (fun h => absurd h (by decide))
  refine am_iconst (v := nI 0) dX2_hasWrongMap_43 (by decide) ?_
  refine am_icmp_eq (tgt := 49) dX2_hasWrongMap_44 (by decide) (fun _ => ?_) (fun h => absurd h (by decide))
  refine am_iinc (v := nI 12) dX2_hasWrongMap_49 rfl (by decide) ?_
  refine am_goto (tgt := 10) dX2_hasWrongMap_52 (by decide) ?_
  refine am_iload_n dX2_hasWrongMap_10 rfl ?_
  refine am_bipush (v := nI 16) dX2_hasWrongMap_11 (by decide) ?_
  refine am_icmp_ge (tgt := 55) dX2_hasWrongMap_13 (by decide) (fun h => absurd h (by decide)) (fun _ => ?_)
  refine am_aload_n dX2_hasWrongMap_16 rfl ?_
  refine am_iload_n dX2_hasWrongMap_17 rfl ?_
  refine am_callSNx (as := [.inl (nI 5)]) (rest := [.inr (0, 21)]) dX2_hasWrongMap_18 lkX10_mapBlock nl_X2_123 isX10_mapBlock rfl (Nat.le_of_ble_eq_true rfl) rfl (c_mapBlock hG.nd (g := 5) (by omega) I) ?_
  refine am_iload_n dX2_hasWrongMap_21 rfl ?_
  refine am_callVx (i := 0) (j := 21) (as := [.inl (nI 448), .inl (nI 12)]) (rest := []) dX2_hasWrongMap_22 lkX2_at ml_X2_84 imX2_at seX2_at rfl rfl (hG.m0 (by decide)) rfl (Nat.le_of_ble_eq_true rfl) rfl (c_at hG (by omega) (by omega) I hS) ?_
  refine am_top (show I 0 1 (448 * 16 + 12) = nI 0 from (hD (448 * 16 + 12)).trans rfl) ?_
  refine am_iload_n dX2_hasWrongMap_25 rfl ?_
  refine am_iconst (v := nI 3) dX2_hasWrongMap_26 (by decide) ?_
  refine am_icmp_ge (tgt := 43) dX2_hasWrongMap_27 (by decide) (fun _ => ?_) (fun h => absurd h (by decide))
  refine am_iconst (v := nI 0) dX2_hasWrongMap_43 (by decide) ?_
  refine am_icmp_eq (tgt := 49) dX2_hasWrongMap_44 (by decide) (fun _ => ?_) (fun h => absurd h (by decide))
  refine am_iinc (v := nI 13) dX2_hasWrongMap_49 rfl (by decide) ?_
  refine am_goto (tgt := 10) dX2_hasWrongMap_52 (by decide) ?_
  refine am_iload_n dX2_hasWrongMap_10 rfl ?_
  refine am_bipush (v := nI 16) dX2_hasWrongMap_11 (by decide) ?_
  refine am_icmp_ge (tgt := 55) dX2_hasWrongMap_13 (by decide) (fun h => absurd h (by decide)) (fun _ => ?_)
  refine am_aload_n dX2_hasWrongMap_16 rfl ?_
  refine am_iload_n dX2_hasWrongMap_17 rfl ?_
  refine am_callSNx (as := [.inl (nI 5)]) (rest := [.inr (0, 21)]) dX2_hasWrongMap_18 lkX10_mapBlock nl_X2_123 isX10_mapBlock rfl (Nat.le_of_ble_eq_true rfl) rfl (c_mapBlock hG.nd (g := 5) (by omega) I) ?_
  refine am_iload_n dX2_hasWrongMap_21 rfl ?_
  refine am_callVx (i := 0) (j := 21) (as := [.inl (nI 448), .inl (nI 13)]) (rest := []) dX2_hasWrongMap_22 lkX2_at ml_X2_84 imX2_at seX2_at rfl rfl (hG.m0 (by decide)) rfl (Nat.le_of_ble_eq_true rfl) rfl (c_at hG (by omega) (by omega) I hS) ?_
  refine am_top (show I 0 1 (448 * 16 + 13) = nI 0 from (hD (448 * 16 + 13)).trans rfl) ?_
  refine am_iload_n dX2_hasWrongMap_25 rfl ?_
  refine am_iconst (v := nI 3) dX2_hasWrongMap_26 (by decide) ?_
  refine am_icmp_ge (tgt := 43) dX2_hasWrongMap_27 (by decide) (fun _ => ?_) (fun h => absurd h (by decide))
  refine am_iconst (v := nI 0) dX2_hasWrongMap_43 (by decide) ?_
  refine am_icmp_eq (tgt := 49) dX2_hasWrongMap_44 (by decide) (fun _ => ?_) (fun h => absurd h (by decide))
  refine am_iinc (v := nI 14) dX2_hasWrongMap_49 rfl (by decide) ?_
  refine am_goto (tgt := 10) dX2_hasWrongMap_52 (by decide) ?_
  refine am_iload_n dX2_hasWrongMap_10 rfl ?_
  refine am_bipush (v := nI 16) dX2_hasWrongMap_11 (by decide) ?_
  refine am_icmp_ge (tgt := 55) dX2_hasWrongMap_13 (by decide) (fun h => absurd h (by decide)) (fun _ => ?_)
  refine am_aload_n dX2_hasWrongMap_16 rfl ?_
  refine am_iload_n dX2_hasWrongMap_17 rfl ?_
  refine am_callSNx (as := [.inl (nI 5)]) (rest := [.inr (0, 21)]) dX2_hasWrongMap_18 lkX10_mapBlock nl_X2_123 isX10_mapBlock rfl (Nat.le_of_ble_eq_true rfl) rfl (c_mapBlock hG.nd (g := 5) (by omega) I) ?_
  refine am_iload_n dX2_hasWrongMap_21 rfl ?_
  refine am_callVx (i := 0) (j := 21) (as := [.inl (nI 448), .inl (nI 14)]) (rest := []) dX2_hasWrongMap_22 lkX2_at ml_X2_84 imX2_at seX2_at rfl rfl (hG.m0 (by decide)) rfl (Nat.le_of_ble_eq_true rfl) rfl (c_at hG (by omega) (by omega) I hS) ?_
  refine am_top (show I 0 1 (448 * 16 + 14) = nI 0 from (hD (448 * 16 + 14)).trans rfl) ?_
  refine am_iload_n dX2_hasWrongMap_25 rfl ?_
  refine am_iconst (v := nI 3) dX2_hasWrongMap_26 (by decide) ?_
  refine am_icmp_ge (tgt := 43) dX2_hasWrongMap_27 (by decide) (fun _ => ?_) (fun h => absurd h (by decide))
  refine am_iconst (v := nI 0) dX2_hasWrongMap_43 (by decide) ?_
  refine am_icmp_eq (tgt := 49) dX2_hasWrongMap_44 (by decide) (fun _ => ?_) (fun h => absurd h (by decide))
  refine am_iinc (v := nI 15) dX2_hasWrongMap_49 rfl (by decide) ?_
  refine am_goto (tgt := 10) dX2_hasWrongMap_52 (by decide) ?_
  refine am_iload_n dX2_hasWrongMap_10 rfl ?_
  refine am_bipush (v := nI 16) dX2_hasWrongMap_11 (by decide) ?_
  refine am_icmp_ge (tgt := 55) dX2_hasWrongMap_13 (by decide) (fun h => absurd h (by decide)) (fun _ => ?_)
  refine am_aload_n dX2_hasWrongMap_16 rfl ?_
  refine am_iload_n dX2_hasWrongMap_17 rfl ?_
  refine am_callSNx (as := [.inl (nI 5)]) (rest := [.inr (0, 21)]) dX2_hasWrongMap_18 lkX10_mapBlock nl_X2_123 isX10_mapBlock rfl (Nat.le_of_ble_eq_true rfl) rfl (c_mapBlock hG.nd (g := 5) (by omega) I) ?_
  refine am_iload_n dX2_hasWrongMap_21 rfl ?_
  refine am_callVx (i := 0) (j := 21) (as := [.inl (nI 448), .inl (nI 15)]) (rest := []) dX2_hasWrongMap_22 lkX2_at ml_X2_84 imX2_at seX2_at rfl rfl (hG.m0 (by decide)) rfl (Nat.le_of_ble_eq_true rfl) rfl (c_at hG (by omega) (by omega) I hS) ?_
  refine am_top (show I 0 1 (448 * 16 + 15) = nI 0 from (hD (448 * 16 + 15)).trans rfl) ?_
  refine am_iload_n dX2_hasWrongMap_25 rfl ?_
  refine am_iconst (v := nI 3) dX2_hasWrongMap_26 (by decide) ?_
  refine am_icmp_ge (tgt := 43) dX2_hasWrongMap_27 (by decide) (fun _ => ?_) (fun h => absurd h (by decide))
  refine am_iconst (v := nI 0) dX2_hasWrongMap_43 (by decide) ?_
  refine am_icmp_eq (tgt := 49) dX2_hasWrongMap_44 (by decide) (fun _ => ?_) (fun h => absurd h (by decide))
  refine am_iinc (v := nI 16) dX2_hasWrongMap_49 rfl (by decide) ?_
  refine am_goto (tgt := 10) dX2_hasWrongMap_52 (by decide) ?_
  refine am_iload_n dX2_hasWrongMap_10 rfl ?_
  refine am_bipush (v := nI 16) dX2_hasWrongMap_11 (by decide) ?_
  refine am_icmp_ge (tgt := 55) dX2_hasWrongMap_13 (by decide) (fun _ => ?_) (fun h => absurd h (by decide))
  refine am_iinc (v := nI 6) dX2_hasWrongMap_55 rfl (by decide) ?_
  refine am_goto (tgt := 2) dX2_hasWrongMap_58 (by decide) ?_
  refine am_iload_n dX2_hasWrongMap_2 rfl ?_
  refine am_bipush (v := nI 8) dX2_hasWrongMap_3 (by decide) ?_
  refine am_icmp_ge (tgt := 61) dX2_hasWrongMap_5 (by decide) (fun h => absurd h (by decide)) (fun _ => ?_)
  refine am_iconst (v := nI 0) dX2_hasWrongMap_8 (by decide) ?_
  refine am_istore_n dX2_hasWrongMap_9 (by decide) ?_
  refine am_iload_n dX2_hasWrongMap_10 rfl ?_
  refine am_bipush (v := nI 16) dX2_hasWrongMap_11 (by decide) ?_
  refine am_icmp_ge (tgt := 55) dX2_hasWrongMap_13 (by decide) (fun h => absurd h (by decide)) (fun _ => ?_)
  refine am_aload_n dX2_hasWrongMap_16 rfl ?_
  refine am_iload_n dX2_hasWrongMap_17 rfl ?_
  refine am_callSNx (as := [.inl (nI 6)]) (rest := [.inr (0, 21)]) dX2_hasWrongMap_18 lkX10_mapBlock nl_X2_123 isX10_mapBlock rfl (Nat.le_of_ble_eq_true rfl) rfl (c_mapBlock hG.nd (g := 6) (by omega) I) ?_
  refine am_iload_n dX2_hasWrongMap_21 rfl ?_
  refine am_callVx (i := 0) (j := 21) (as := [.inl (nI 512), .inl (nI 0)]) (rest := []) dX2_hasWrongMap_22 lkX2_at ml_X2_84 imX2_at seX2_at rfl rfl (hG.m0 (by decide)) rfl (Nat.le_of_ble_eq_true rfl) rfl (c_at hG (by omega) (by omega) I hS) ?_
  refine am_top (show I 0 1 (512 * 16 + 0) = nI 0 from (hD (512 * 16 + 0)).trans rfl) ?_
  refine am_iload_n dX2_hasWrongMap_25 rfl ?_
  refine am_iconst (v := nI 3) dX2_hasWrongMap_26 (by decide) ?_
  refine am_icmp_ge (tgt := 43) dX2_hasWrongMap_27 (by decide) (fun h => absurd h (by decide)) (fun _ => ?_)
  refine am_aload_n dX2_hasWrongMap_30 rfl ?_
  refine am_get (v := .inr (0, 26)) dX2_hasWrongMap_31 fl_2_25 (hG.m0 (by decide)) rfl ?_
  refine am_iload_n dX2_hasWrongMap_34 rfl ?_
  refine am_iconst (v := nI 3) dX2_hasWrongMap_35 (by decide) ?_
  refine am_imul dX2_hasWrongMap_36 ?_
  refine am_top (show (nI 6) * (nI 3) = nI 18 by decide) ?_
  refine am_iload_n dX2_hasWrongMap_37 rfl ?_
  refine am_iadd dX2_hasWrongMap_38 ?_
  refine am_top (show (nI 18) + (nI 0) = nI 18 by decide) ?_
  refine am_iald (a := 18) dX2_hasWrongMap_39 (hG.m0 (by decide)) rfl rfl (show 18 < 24 from (by omega)) (show 24 < 2 ^ 31 by decide) ?_
  refine am_top ((hB 18 (by decide)).trans rfl) ?_
  refine am_goto (tgt := 44) dX2_hasWrongMap_40 (by decide) ?_
  refine am_icmp_eq (tgt := 49) dX2_hasWrongMap_44 (by decide) (fun _ => ?_) (fun h => absurd h (by decide))
  refine am_iinc (v := nI 1) dX2_hasWrongMap_49 rfl (by decide) ?_
  refine am_goto (tgt := 10) dX2_hasWrongMap_52 (by decide) ?_
  refine am_iload_n dX2_hasWrongMap_10 rfl ?_
  refine am_bipush (v := nI 16) dX2_hasWrongMap_11 (by decide) ?_
  refine am_icmp_ge (tgt := 55) dX2_hasWrongMap_13 (by decide) (fun h => absurd h (by decide)) (fun _ => ?_)
  refine am_aload_n dX2_hasWrongMap_16 rfl ?_
  refine am_iload_n dX2_hasWrongMap_17 rfl ?_
  refine am_callSNx (as := [.inl (nI 6)]) (rest := [.inr (0, 21)]) dX2_hasWrongMap_18 lkX10_mapBlock nl_X2_123 isX10_mapBlock rfl (Nat.le_of_ble_eq_true rfl) rfl (c_mapBlock hG.nd (g := 6) (by omega) I) ?_
  refine am_iload_n dX2_hasWrongMap_21 rfl ?_
  refine am_callVx (i := 0) (j := 21) (as := [.inl (nI 512), .inl (nI 1)]) (rest := []) dX2_hasWrongMap_22 lkX2_at ml_X2_84 imX2_at seX2_at rfl rfl (hG.m0 (by decide)) rfl (Nat.le_of_ble_eq_true rfl) rfl (c_at hG (by omega) (by omega) I hS) ?_
  refine am_top (show I 0 1 (512 * 16 + 1) = nI 0 from (hD (512 * 16 + 1)).trans rfl) ?_
  refine am_iload_n dX2_hasWrongMap_25 rfl ?_
  refine am_iconst (v := nI 3) dX2_hasWrongMap_26 (by decide) ?_
  refine am_icmp_ge (tgt := 43) dX2_hasWrongMap_27 (by decide) (fun h => absurd h (by decide)) (fun _ => ?_)
  refine am_aload_n dX2_hasWrongMap_30 rfl ?_
  refine am_get (v := .inr (0, 26)) dX2_hasWrongMap_31 fl_2_25 (hG.m0 (by decide)) rfl ?_
  refine am_iload_n dX2_hasWrongMap_34 rfl ?_
  refine am_iconst (v := nI 3) dX2_hasWrongMap_35 (by decide) ?_
  refine am_imul dX2_hasWrongMap_36 ?_
  refine am_top (show (nI 6) * (nI 3) = nI 18 by decide) ?_
  refine am_iload_n dX2_hasWrongMap_37 rfl ?_
  refine am_iadd dX2_hasWrongMap_38 ?_
  refine am_top (show (nI 18) + (nI 1) = nI 19 by decide) ?_
  refine am_iald (a := 19) dX2_hasWrongMap_39 (hG.m0 (by decide)) rfl rfl (show 19 < 24 from (by omega)) (show 24 < 2 ^ 31 by decide) ?_
  refine am_top ((hB 19 (by decide)).trans rfl) ?_
  refine am_goto (tgt := 44) dX2_hasWrongMap_40 (by decide) ?_
  refine am_icmp_eq (tgt := 49) dX2_hasWrongMap_44 (by decide) (fun _ => ?_) (fun h => absurd h (by decide))
  refine am_iinc (v := nI 2) dX2_hasWrongMap_49 rfl (by decide) ?_
  refine am_goto (tgt := 10) dX2_hasWrongMap_52 (by decide) ?_
  refine am_iload_n dX2_hasWrongMap_10 rfl ?_
  refine am_bipush (v := nI 16) dX2_hasWrongMap_11 (by decide) ?_
  refine am_icmp_ge (tgt := 55) dX2_hasWrongMap_13 (by decide) (fun h => absurd h (by decide)) (fun _ => ?_)
  refine am_aload_n dX2_hasWrongMap_16 rfl ?_
  refine am_iload_n dX2_hasWrongMap_17 rfl ?_
  refine am_callSNx (as := [.inl (nI 6)]) (rest := [.inr (0, 21)]) dX2_hasWrongMap_18 lkX10_mapBlock nl_X2_123 isX10_mapBlock rfl (Nat.le_of_ble_eq_true rfl) rfl (c_mapBlock hG.nd (g := 6) (by omega) I) ?_
  refine am_iload_n dX2_hasWrongMap_21 rfl ?_
  refine am_callVx (i := 0) (j := 21) (as := [.inl (nI 512), .inl (nI 2)]) (rest := []) dX2_hasWrongMap_22 lkX2_at ml_X2_84 imX2_at seX2_at rfl rfl (hG.m0 (by decide)) rfl (Nat.le_of_ble_eq_true rfl) rfl (c_at hG (by omega) (by omega) I hS) ?_
  refine am_top (show I 0 1 (512 * 16 + 2) = nI 0 from (hD (512 * 16 + 2)).trans rfl) ?_
  refine am_iload_n dX2_hasWrongMap_25 rfl ?_
  refine am_iconst (v := nI 3) dX2_hasWrongMap_26 (by decide) ?_
  refine am_icmp_ge (tgt := 43) dX2_hasWrongMap_27 (by decide) (fun h => absurd h (by decide)) (fun _ => ?_)
  refine am_aload_n dX2_hasWrongMap_30 rfl ?_
  refine am_get (v := .inr (0, 26)) dX2_hasWrongMap_31 fl_2_25 (hG.m0 (by decide)) rfl ?_
  refine am_iload_n dX2_hasWrongMap_34 rfl ?_
  refine am_iconst (v := nI 3) dX2_hasWrongMap_35 (by decide) ?_
  refine am_imul dX2_hasWrongMap_36 ?_
  refine am_top (show (nI 6) * (nI 3) = nI 18 by decide) ?_
  refine am_iload_n dX2_hasWrongMap_37 rfl ?_
  refine am_iadd dX2_hasWrongMap_38 ?_
  refine am_top (show (nI 18) + (nI 2) = nI 20 by decide) ?_
  refine am_iald (a := 20) dX2_hasWrongMap_39 (hG.m0 (by decide)) rfl rfl (show 20 < 24 from (by omega)) (show 24 < 2 ^ 31 by decide) ?_
  refine am_top ((hB 20 (by decide)).trans rfl) ?_
  refine am_goto (tgt := 44) dX2_hasWrongMap_40 (by decide) ?_
  refine am_icmp_eq (tgt := 49) dX2_hasWrongMap_44 (by decide) (fun _ => ?_) (fun h => absurd h (by decide))
  refine am_iinc (v := nI 3) dX2_hasWrongMap_49 rfl (by decide) ?_
  refine am_goto (tgt := 10) dX2_hasWrongMap_52 (by decide) ?_
  refine am_iload_n dX2_hasWrongMap_10 rfl ?_
  refine am_bipush (v := nI 16) dX2_hasWrongMap_11 (by decide) ?_
  refine am_icmp_ge (tgt := 55) dX2_hasWrongMap_13 (by decide) (fun h => absurd h (by decide)) (fun _ => ?_)
  refine am_aload_n dX2_hasWrongMap_16 rfl ?_
  refine am_iload_n dX2_hasWrongMap_17 rfl ?_
  refine am_callSNx (as := [.inl (nI 6)]) (rest := [.inr (0, 21)]) dX2_hasWrongMap_18 lkX10_mapBlock nl_X2_123 isX10_mapBlock rfl (Nat.le_of_ble_eq_true rfl) rfl (c_mapBlock hG.nd (g := 6) (by omega) I) ?_
  refine am_iload_n dX2_hasWrongMap_21 rfl ?_
  refine am_callVx (i := 0) (j := 21) (as := [.inl (nI 512), .inl (nI 3)]) (rest := []) dX2_hasWrongMap_22 lkX2_at ml_X2_84 imX2_at seX2_at rfl rfl (hG.m0 (by decide)) rfl (Nat.le_of_ble_eq_true rfl) rfl (c_at hG (by omega) (by omega) I hS) ?_
  refine am_top (show I 0 1 (512 * 16 + 3) = nI 0 from (hD (512 * 16 + 3)).trans rfl) ?_
  refine am_iload_n dX2_hasWrongMap_25 rfl ?_
  refine am_iconst (v := nI 3) dX2_hasWrongMap_26 (by decide) ?_
  refine am_icmp_ge (tgt := 43) dX2_hasWrongMap_27 (by decide) (fun _ => ?_) (fun h => absurd h (by decide))
  refine am_iconst (v := nI 0) dX2_hasWrongMap_43 (by decide) ?_
  refine am_icmp_eq (tgt := 49) dX2_hasWrongMap_44 (by decide) (fun _ => ?_) (fun h => absurd h (by decide))
  refine am_iinc (v := nI 4) dX2_hasWrongMap_49 rfl (by decide) ?_
  refine am_goto (tgt := 10) dX2_hasWrongMap_52 (by decide) ?_
  refine am_iload_n dX2_hasWrongMap_10 rfl ?_
  refine am_bipush (v := nI 16) dX2_hasWrongMap_11 (by decide) ?_
  refine am_icmp_ge (tgt := 55) dX2_hasWrongMap_13 (by decide) (fun h => absurd h (by decide)) (fun _ => ?_)
  refine am_aload_n dX2_hasWrongMap_16 rfl ?_
  refine am_iload_n dX2_hasWrongMap_17 rfl ?_
  refine am_callSNx (as := [.inl (nI 6)]) (rest := [.inr (0, 21)]) dX2_hasWrongMap_18 lkX10_mapBlock nl_X2_123 isX10_mapBlock rfl (Nat.le_of_ble_eq_true rfl) rfl (c_mapBlock hG.nd (g := 6) (by omega) I) ?_
  refine am_iload_n dX2_hasWrongMap_21 rfl ?_
  refine am_callVx (i := 0) (j := 21) (as := [.inl (nI 512), .inl (nI 4)]) (rest := []) dX2_hasWrongMap_22 lkX2_at ml_X2_84 imX2_at seX2_at rfl rfl (hG.m0 (by decide)) rfl (Nat.le_of_ble_eq_true rfl) rfl (c_at hG (by omega) (by omega) I hS) ?_
  refine am_top (show I 0 1 (512 * 16 + 4) = nI 0 from (hD (512 * 16 + 4)).trans rfl) ?_
  refine am_iload_n dX2_hasWrongMap_25 rfl ?_
  refine am_iconst (v := nI 3) dX2_hasWrongMap_26 (by decide) ?_
  refine am_icmp_ge (tgt := 43) dX2_hasWrongMap_27 (by decide) (fun _ => ?_) (fun h => absurd h (by decide))
  refine am_iconst (v := nI 0) dX2_hasWrongMap_43 (by decide) ?_
  refine am_icmp_eq (tgt := 49) dX2_hasWrongMap_44 (by decide) (fun _ => ?_) (fun h => absurd h (by decide))
  refine am_iinc (v := nI 5) dX2_hasWrongMap_49 rfl (by decide) ?_
  refine am_goto (tgt := 10) dX2_hasWrongMap_52 (by decide) ?_
  refine am_iload_n dX2_hasWrongMap_10 rfl ?_
  refine am_bipush (v := nI 16) dX2_hasWrongMap_11 (by decide) ?_
  refine am_icmp_ge (tgt := 55) dX2_hasWrongMap_13 (by decide) (fun h => absurd h (by decide)) (fun _ => ?_)
  refine am_aload_n dX2_hasWrongMap_16 rfl ?_
  refine am_iload_n dX2_hasWrongMap_17 rfl ?_
  refine am_callSNx (as := [.inl (nI 6)]) (rest := [.inr (0, 21)]) dX2_hasWrongMap_18 lkX10_mapBlock nl_X2_123 isX10_mapBlock rfl (Nat.le_of_ble_eq_true rfl) rfl (c_mapBlock hG.nd (g := 6) (by omega) I) ?_
  refine am_iload_n dX2_hasWrongMap_21 rfl ?_
  refine am_callVx (i := 0) (j := 21) (as := [.inl (nI 512), .inl (nI 5)]) (rest := []) dX2_hasWrongMap_22 lkX2_at ml_X2_84 imX2_at seX2_at rfl rfl (hG.m0 (by decide)) rfl (Nat.le_of_ble_eq_true rfl) rfl (c_at hG (by omega) (by omega) I hS) ?_
  refine am_top (show I 0 1 (512 * 16 + 5) = nI 0 from (hD (512 * 16 + 5)).trans rfl) ?_
  refine am_iload_n dX2_hasWrongMap_25 rfl ?_
  refine am_iconst (v := nI 3) dX2_hasWrongMap_26 (by decide) ?_
  refine am_icmp_ge (tgt := 43) dX2_hasWrongMap_27 (by decide) (fun _ => ?_) (fun h => absurd h (by decide))
  refine am_iconst (v := nI 0) dX2_hasWrongMap_43 (by decide) ?_
  refine am_icmp_eq (tgt := 49) dX2_hasWrongMap_44 (by decide) (fun _ => ?_) (fun h => absurd h (by decide))
  refine am_iinc (v := nI 6) dX2_hasWrongMap_49 rfl (by decide) ?_
  refine am_goto (tgt := 10) dX2_hasWrongMap_52 (by decide) ?_
  refine am_iload_n dX2_hasWrongMap_10 rfl ?_
  refine am_bipush (v := nI 16) dX2_hasWrongMap_11 (by decide) ?_
  refine am_icmp_ge (tgt := 55) dX2_hasWrongMap_13 (by decide) (fun h => absurd h (by decide)) (fun _ => ?_)
  refine am_aload_n dX2_hasWrongMap_16 rfl ?_
  refine am_iload_n dX2_hasWrongMap_17 rfl ?_
  refine am_callSNx (as := [.inl (nI 6)]) (rest := [.inr (0, 21)]) dX2_hasWrongMap_18 lkX10_mapBlock nl_X2_123 isX10_mapBlock rfl (Nat.le_of_ble_eq_true rfl) rfl (c_mapBlock hG.nd (g := 6) (by omega) I) ?_
  refine am_iload_n dX2_hasWrongMap_21 rfl ?_
  refine am_callVx (i := 0) (j := 21) (as := [.inl (nI 512), .inl (nI 6)]) (rest := []) dX2_hasWrongMap_22 lkX2_at ml_X2_84 imX2_at seX2_at rfl rfl (hG.m0 (by decide)) rfl (Nat.le_of_ble_eq_true rfl) rfl (c_at hG (by omega) (by omega) I hS) ?_
  refine am_top (show I 0 1 (512 * 16 + 6) = nI 0 from (hD (512 * 16 + 6)).trans rfl) ?_
  refine am_iload_n dX2_hasWrongMap_25 rfl ?_
  refine am_iconst (v := nI 3) dX2_hasWrongMap_26 (by decide) ?_
  refine am_icmp_ge (tgt := 43) dX2_hasWrongMap_27 (by decide) (fun _ => ?_) (fun h => absurd h (by decide))
  refine am_iconst (v := nI 0) dX2_hasWrongMap_43 (by decide) ?_
  refine am_icmp_eq (tgt := 49) dX2_hasWrongMap_44 (by decide) (fun _ => ?_) (fun h => absurd h (by decide))
  refine am_iinc (v := nI 7) dX2_hasWrongMap_49 rfl (by decide) ?_
  refine am_goto (tgt := 10) dX2_hasWrongMap_52 (by decide) ?_
  refine am_iload_n dX2_hasWrongMap_10 rfl ?_
  refine am_bipush (v := nI 16) dX2_hasWrongMap_11 (by decide) ?_
  refine am_icmp_ge (tgt := 55) dX2_hasWrongMap_13 (by decide) (fun h => absurd h (by decide)) (fun _ => ?_)
  refine am_aload_n dX2_hasWrongMap_16 rfl ?_
  refine am_iload_n dX2_hasWrongMap_17 rfl ?_
  refine am_callSNx (as := [.inl (nI 6)]) (rest := [.inr (0, 21)]) dX2_hasWrongMap_18 lkX10_mapBlock nl_X2_123 isX10_mapBlock rfl (Nat.le_of_ble_eq_true rfl) rfl (c_mapBlock hG.nd (g := 6) (by omega) I) ?_
  refine am_iload_n dX2_hasWrongMap_21 rfl ?_
  refine am_callVx (i := 0) (j := 21) (as := [.inl (nI 512), .inl (nI 7)]) (rest := []) dX2_hasWrongMap_22 lkX2_at ml_X2_84 imX2_at seX2_at rfl rfl (hG.m0 (by decide)) rfl (Nat.le_of_ble_eq_true rfl) rfl (c_at hG (by omega) (by omega) I hS) ?_
  refine am_top (show I 0 1 (512 * 16 + 7) = nI 0 from (hD (512 * 16 + 7)).trans rfl) ?_
  refine am_iload_n dX2_hasWrongMap_25 rfl ?_
  refine am_iconst (v := nI 3) dX2_hasWrongMap_26 (by decide) ?_
  refine am_icmp_ge (tgt := 43) dX2_hasWrongMap_27 (by decide) (fun _ => ?_) (fun h => absurd h (by decide))
  refine am_iconst (v := nI 0) dX2_hasWrongMap_43 (by decide) ?_
  refine am_icmp_eq (tgt := 49) dX2_hasWrongMap_44 (by decide) (fun _ => ?_) (fun h => absurd h (by decide))
  refine am_iinc (v := nI 8) dX2_hasWrongMap_49 rfl (by decide) ?_
  refine am_goto (tgt := 10) dX2_hasWrongMap_52 (by decide) ?_
  refine am_iload_n dX2_hasWrongMap_10 rfl ?_
  refine am_bipush (v := nI 16) dX2_hasWrongMap_11 (by decide) ?_
  refine am_icmp_ge (tgt := 55) dX2_hasWrongMap_13 (by decide) (fun h => absurd h (by decide)) (fun _ => ?_)
  refine am_aload_n dX2_hasWrongMap_16 rfl ?_
  refine am_iload_n dX2_hasWrongMap_17 rfl ?_
  refine am_callSNx (as := [.inl (nI 6)]) (rest := [.inr (0, 21)]) dX2_hasWrongMap_18 lkX10_mapBlock nl_X2_123 isX10_mapBlock rfl (Nat.le_of_ble_eq_true rfl) rfl (c_mapBlock hG.nd (g := 6) (by omega) I) ?_
  refine am_iload_n dX2_hasWrongMap_21 rfl ?_
  refine am_callVx (i := 0) (j := 21) (as := [.inl (nI 512), .inl (nI 8)]) (rest := []) dX2_hasWrongMap_22 lkX2_at ml_X2_84 imX2_at seX2_at rfl rfl (hG.m0 (by decide)) rfl (Nat.le_of_ble_eq_true rfl) rfl (c_at hG (by omega) (by omega) I hS) ?_
  refine am_top (show I 0 1 (512 * 16 + 8) = nI 0 from (hD (512 * 16 + 8)).trans rfl) ?_
  refine am_iload_n dX2_hasWrongMap_25 rfl ?_
  refine am_iconst (v := nI 3) dX2_hasWrongMap_26 (by decide) ?_
  refine am_icmp_ge (tgt := 43) dX2_hasWrongMap_27 (by decide) (fun _ => ?_) (fun h => absurd h (by decide))
  refine am_iconst (v := nI 0) dX2_hasWrongMap_43 (by decide) ?_
  refine am_icmp_eq (tgt := 49) dX2_hasWrongMap_44 (by decide) (fun _ => ?_) (fun h => absurd h (by decide))
  refine am_iinc (v := nI 9) dX2_hasWrongMap_49 rfl (by decide) ?_
  refine am_goto (tgt := 10) dX2_hasWrongMap_52 (by decide) ?_
  refine am_iload_n dX2_hasWrongMap_10 rfl ?_
  refine am_bipush (v := nI 16) dX2_hasWrongMap_11 (by decide) ?_
  refine am_icmp_ge (tgt := 55) dX2_hasWrongMap_13 (by decide) (fun h => absurd h (by decide)) (fun _ => ?_)
  refine am_aload_n dX2_hasWrongMap_16 rfl ?_
  refine am_iload_n dX2_hasWrongMap_17 rfl ?_
  refine am_callSNx (as := [.inl (nI 6)]) (rest := [.inr (0, 21)]) dX2_hasWrongMap_18 lkX10_mapBlock nl_X2_123 isX10_mapBlock rfl (Nat.le_of_ble_eq_true rfl) rfl (c_mapBlock hG.nd (g := 6) (by omega) I) ?_
  refine am_iload_n dX2_hasWrongMap_21 rfl ?_
  refine am_callVx (i := 0) (j := 21) (as := [.inl (nI 512), .inl (nI 9)]) (rest := []) dX2_hasWrongMap_22 lkX2_at ml_X2_84 imX2_at seX2_at rfl rfl (hG.m0 (by decide)) rfl (Nat.le_of_ble_eq_true rfl) rfl (c_at hG (by omega) (by omega) I hS) ?_
  refine am_top (show I 0 1 (512 * 16 + 9) = nI 0 from (hD (512 * 16 + 9)).trans rfl) ?_
  refine am_iload_n dX2_hasWrongMap_25 rfl ?_
  refine am_iconst (v := nI 3) dX2_hasWrongMap_26 (by decide) ?_
  refine am_icmp_ge (tgt := 43) dX2_hasWrongMap_27 (by decide) (fun _ => ?_) (fun h => absurd h (by decide))
  refine am_iconst (v := nI 0) dX2_hasWrongMap_43 (by decide) ?_
  refine am_icmp_eq (tgt := 49) dX2_hasWrongMap_44 (by decide) (fun _ => ?_) (fun h => absurd h (by decide))
  refine am_iinc (v := nI 10) dX2_hasWrongMap_49 rfl (by decide) ?_
  refine am_goto (tgt := 10) dX2_hasWrongMap_52 (by decide) ?_
  refine am_iload_n dX2_hasWrongMap_10 rfl ?_
  refine am_bipush (v := nI 16) dX2_hasWrongMap_11 (by decide) ?_
  refine am_icmp_ge (tgt := 55) dX2_hasWrongMap_13 (by decide) (fun h => absurd h (by decide)) (fun _ => ?_)
  refine am_aload_n dX2_hasWrongMap_16 rfl ?_
  refine am_iload_n dX2_hasWrongMap_17 rfl ?_
  refine am_callSNx (as := [.inl (nI 6)]) (rest := [.inr (0, 21)]) dX2_hasWrongMap_18 lkX10_mapBlock nl_X2_123 isX10_mapBlock rfl (Nat.le_of_ble_eq_true rfl) rfl (c_mapBlock hG.nd (g := 6) (by omega) I) ?_
  refine am_iload_n dX2_hasWrongMap_21 rfl ?_
  refine am_callVx (i := 0) (j := 21) (as := [.inl (nI 512), .inl (nI 10)]) (rest := []) dX2_hasWrongMap_22 lkX2_at ml_X2_84 imX2_at seX2_at rfl rfl (hG.m0 (by decide)) rfl (Nat.le_of_ble_eq_true rfl) rfl (c_at hG (by omega) (by omega) I hS) ?_
  refine am_top (show I 0 1 (512 * 16 + 10) = nI 0 from (hD (512 * 16 + 10)).trans rfl) ?_
  refine am_iload_n dX2_hasWrongMap_25 rfl ?_
  refine am_iconst (v := nI 3) dX2_hasWrongMap_26 (by decide) ?_
  refine am_icmp_ge (tgt := 43) dX2_hasWrongMap_27 (by decide) (fun _ => ?_) (fun h => absurd h (by decide))
  refine am_iconst (v := nI 0) dX2_hasWrongMap_43 (by decide) ?_
  refine am_icmp_eq (tgt := 49) dX2_hasWrongMap_44 (by decide) (fun _ => ?_) (fun h => absurd h (by decide))
  refine am_iinc (v := nI 11) dX2_hasWrongMap_49 rfl (by decide) ?_
  refine am_goto (tgt := 10) dX2_hasWrongMap_52 (by decide) ?_
  refine am_iload_n dX2_hasWrongMap_10 rfl ?_
  refine am_bipush (v := nI 16) dX2_hasWrongMap_11 (by decide) ?_
  refine am_icmp_ge (tgt := 55) dX2_hasWrongMap_13 (by decide) (fun h => absurd h (by decide)) (fun _ => ?_)
  refine am_aload_n dX2_hasWrongMap_16 rfl ?_
  refine am_iload_n dX2_hasWrongMap_17 rfl ?_
  refine am_callSNx (as := [.inl (nI 6)]) (rest := [.inr (0, 21)]) dX2_hasWrongMap_18 lkX10_mapBlock nl_X2_123 isX10_mapBlock rfl (Nat.le_of_ble_eq_true rfl) rfl (c_mapBlock hG.nd (g := 6) (by omega) I) ?_
  refine am_iload_n dX2_hasWrongMap_21 rfl ?_
  refine am_callVx (i := 0) (j := 21) (as := [.inl (nI 512), .inl (nI 11)]) (rest := []) dX2_hasWrongMap_22 lkX2_at ml_X2_84 imX2_at seX2_at rfl rfl (hG.m0 (by decide)) rfl (Nat.le_of_ble_eq_true rfl) rfl (c_at hG (by omega) (by omega) I hS) ?_
  refine am_top (show I 0 1 (512 * 16 + 11) = nI 0 from (hD (512 * 16 + 11)).trans rfl) ?_
  refine am_iload_n dX2_hasWrongMap_25 rfl ?_
  refine am_iconst (v := nI 3) dX2_hasWrongMap_26 (by decide) ?_
  refine am_icmp_ge (tgt := 43) dX2_hasWrongMap_27 (by decide) (fun _ => ?_) (fun h => absurd h (by decide))
  refine am_iconst (v := nI 0) dX2_hasWrongMap_43 (by decide) ?_
  refine am_icmp_eq (tgt := 49) dX2_hasWrongMap_44 (by decide) (fun _ => ?_) (fun h => absurd h (by decide))
  refine am_iinc (v := nI 12) dX2_hasWrongMap_49 rfl (by decide) ?_
  refine am_goto (tgt := 10) dX2_hasWrongMap_52 (by decide) ?_
  refine am_iload_n dX2_hasWrongMap_10 rfl ?_
  refine am_bipush (v := nI 16) dX2_hasWrongMap_11 (by decide) ?_
  refine am_icmp_ge (tgt := 55) dX2_hasWrongMap_13 (by decide) (fun h => absurd h (by decide)) (fun _ => ?_)
  refine am_aload_n dX2_hasWrongMap_16 rfl ?_
  refine am_iload_n dX2_hasWrongMap_17 rfl ?_
  refine am_callSNx (as := [.inl (nI 6)]) (rest := [.inr (0, 21)]) dX2_hasWrongMap_18 lkX10_mapBlock nl_X2_123 isX10_mapBlock rfl (Nat.le_of_ble_eq_true rfl) rfl (c_mapBlock hG.nd (g := 6) (by omega) I) ?_
  refine am_iload_n dX2_hasWrongMap_21 rfl ?_
  refine am_callVx (i := 0) (j := 21) (as := [.inl (nI 512), .inl (nI 12)]) (rest := []) dX2_hasWrongMap_22 lkX2_at ml_X2_84 imX2_at seX2_at rfl rfl (hG.m0 (by decide)) rfl (Nat.le_of_ble_eq_true rfl) rfl (c_at hG (by omega) (by omega) I hS) ?_
  refine am_top (show I 0 1 (512 * 16 + 12) = nI 0 from (hD (512 * 16 + 12)).trans rfl) ?_
  refine am_iload_n dX2_hasWrongMap_25 rfl ?_
  refine am_iconst (v := nI 3) dX2_hasWrongMap_26 (by decide) ?_
  refine am_icmp_ge (tgt := 43) dX2_hasWrongMap_27 (by decide) (fun _ => ?_) (fun h => absurd h (by decide))
  refine am_iconst (v := nI 0) dX2_hasWrongMap_43 (by decide) ?_
  refine am_icmp_eq (tgt := 49) dX2_hasWrongMap_44 (by decide) (fun _ => ?_) (fun h => absurd h (by decide))
  refine am_iinc (v := nI 13) dX2_hasWrongMap_49 rfl (by decide) ?_
  refine am_goto (tgt := 10) dX2_hasWrongMap_52 (by decide) ?_
  refine am_iload_n dX2_hasWrongMap_10 rfl ?_
  refine am_bipush (v := nI 16) dX2_hasWrongMap_11 (by decide) ?_
  refine am_icmp_ge (tgt := 55) dX2_hasWrongMap_13 (by decide) (fun h => absurd h (by decide)) (fun _ => ?_)
  refine am_aload_n dX2_hasWrongMap_16 rfl ?_
  refine am_iload_n dX2_hasWrongMap_17 rfl ?_
  refine am_callSNx (as := [.inl (nI 6)]) (rest := [.inr (0, 21)]) dX2_hasWrongMap_18 lkX10_mapBlock nl_X2_123 isX10_mapBlock rfl (Nat.le_of_ble_eq_true rfl) rfl (c_mapBlock hG.nd (g := 6) (by omega) I) ?_
  refine am_iload_n dX2_hasWrongMap_21 rfl ?_
  refine am_callVx (i := 0) (j := 21) (as := [.inl (nI 512), .inl (nI 13)]) (rest := []) dX2_hasWrongMap_22 lkX2_at ml_X2_84 imX2_at seX2_at rfl rfl (hG.m0 (by decide)) rfl (Nat.le_of_ble_eq_true rfl) rfl (c_at hG (by omega) (by omega) I hS) ?_
  refine am_top (show I 0 1 (512 * 16 + 13) = nI 0 from (hD (512 * 16 + 13)).trans rfl) ?_
  refine am_iload_n dX2_hasWrongMap_25 rfl ?_
  refine am_iconst (v := nI 3) dX2_hasWrongMap_26 (by decide) ?_
  refine am_icmp_ge (tgt := 43) dX2_hasWrongMap_27 (by decide) (fun _ => ?_) (fun h => absurd h (by decide))
  refine am_iconst (v := nI 0) dX2_hasWrongMap_43 (by decide) ?_
  refine am_icmp_eq (tgt := 49) dX2_hasWrongMap_44 (by decide) (fun _ => ?_) (fun h => absurd h (by decide))
  refine am_iinc (v := nI 14) dX2_hasWrongMap_49 rfl (by decide) ?_
  refine am_goto (tgt := 10) dX2_hasWrongMap_52 (by decide) ?_
  refine am_iload_n dX2_hasWrongMap_10 rfl ?_
  refine am_bipush (v := nI 16) dX2_hasWrongMap_11 (by decide) ?_
  refine am_icmp_ge (tgt := 55) dX2_hasWrongMap_13 (by decide) (fun h => absurd h (by decide)) (fun _ => ?_)
  refine am_aload_n dX2_hasWrongMap_16 rfl ?_
  refine am_iload_n dX2_hasWrongMap_17 rfl ?_
  refine am_callSNx (as := [.inl (nI 6)]) (rest := [.inr (0, 21)]) dX2_hasWrongMap_18 lkX10_mapBlock nl_X2_123 isX10_mapBlock rfl (Nat.le_of_ble_eq_true rfl) rfl (c_mapBlock hG.nd (g := 6) (by omega) I) ?_
  refine am_iload_n dX2_hasWrongMap_21 rfl ?_
  refine am_callVx (i := 0) (j := 21) (as := [.inl (nI 512), .inl (nI 14)]) (rest := []) dX2_hasWrongMap_22 lkX2_at ml_X2_84 imX2_at seX2_at rfl rfl (hG.m0 (by decide)) rfl (Nat.le_of_ble_eq_true rfl) rfl (c_at hG (by omega) (by omega) I hS) ?_
  refine am_top (show I 0 1 (512 * 16 + 14) = nI 0 from (hD (512 * 16 + 14)).trans rfl) ?_
  refine am_iload_n dX2_hasWrongMap_25 rfl ?_
  refine am_iconst (v := nI 3) dX2_hasWrongMap_26 (by decide) ?_
  refine am_icmp_ge (tgt := 43) dX2_hasWrongMap_27 (by decide) (fun _ => ?_) (fun h => absurd h (by decide))
  refine am_iconst (v := nI 0) dX2_hasWrongMap_43 (by decide) ?_
  refine am_icmp_eq (tgt := 49) dX2_hasWrongMap_44 (by decide) (fun _ => ?_) (fun h => absurd h (by decide))
  refine am_iinc (v := nI 15) dX2_hasWrongMap_49 rfl (by decide) ?_
  refine am_goto (tgt := 10) dX2_hasWrongMap_52 (by decide) ?_
  refine am_iload_n dX2_hasWrongMap_10 rfl ?_
  refine am_bipush (v := nI 16) dX2_hasWrongMap_11 (by decide) ?_
  refine am_icmp_ge (tgt := 55) dX2_hasWrongMap_13 (by decide) (fun h => absurd h (by decide)) (fun _ => ?_)
  refine am_aload_n dX2_hasWrongMap_16 rfl ?_
  refine am_iload_n dX2_hasWrongMap_17 rfl ?_
  refine am_callSNx (as := [.inl (nI 6)]) (rest := [.inr (0, 21)]) dX2_hasWrongMap_18 lkX10_mapBlock nl_X2_123 isX10_mapBlock rfl (Nat.le_of_ble_eq_true rfl) rfl (c_mapBlock hG.nd (g := 6) (by omega) I) ?_
  refine am_iload_n dX2_hasWrongMap_21 rfl ?_
  refine am_callVx (i := 0) (j := 21) (as := [.inl (nI 512), .inl (nI 15)]) (rest := []) dX2_hasWrongMap_22 lkX2_at ml_X2_84 imX2_at seX2_at rfl rfl (hG.m0 (by decide)) rfl (Nat.le_of_ble_eq_true rfl) rfl (c_at hG (by omega) (by omega) I hS) ?_
  refine am_top (show I 0 1 (512 * 16 + 15) = nI 0 from (hD (512 * 16 + 15)).trans rfl) ?_
  refine am_iload_n dX2_hasWrongMap_25 rfl ?_
  refine am_iconst (v := nI 3) dX2_hasWrongMap_26 (by decide) ?_
  refine am_icmp_ge (tgt := 43) dX2_hasWrongMap_27 (by decide) (fun _ => ?_) (fun h => absurd h (by decide))
  refine am_iconst (v := nI 0) dX2_hasWrongMap_43 (by decide) ?_
  refine am_icmp_eq (tgt := 49) dX2_hasWrongMap_44 (by decide) (fun _ => ?_) (fun h => absurd h (by decide))
  refine am_iinc (v := nI 16) dX2_hasWrongMap_49 rfl (by decide) ?_
  refine am_goto (tgt := 10) dX2_hasWrongMap_52 (by decide) ?_
  refine am_iload_n dX2_hasWrongMap_10 rfl ?_
  refine am_bipush (v := nI 16) dX2_hasWrongMap_11 (by decide) ?_
  refine am_icmp_ge (tgt := 55) dX2_hasWrongMap_13 (by decide) (fun _ => ?_) (fun h => absurd h (by decide))
  refine am_iinc (v := nI 7) dX2_hasWrongMap_55 rfl (by decide) ?_
  refine am_goto (tgt := 2) dX2_hasWrongMap_58 (by decide) ?_
  refine am_iload_n dX2_hasWrongMap_2 rfl ?_
  refine am_bipush (v := nI 8) dX2_hasWrongMap_3 (by decide) ?_
  refine am_icmp_ge (tgt := 61) dX2_hasWrongMap_5 (by decide) (fun h => absurd h (by decide)) (fun _ => ?_)
  refine am_iconst (v := nI 0) dX2_hasWrongMap_8 (by decide) ?_
  refine am_istore_n dX2_hasWrongMap_9 (by decide) ?_
  refine am_iload_n dX2_hasWrongMap_10 rfl ?_
  refine am_bipush (v := nI 16) dX2_hasWrongMap_11 (by decide) ?_
  refine am_icmp_ge (tgt := 55) dX2_hasWrongMap_13 (by decide) (fun h => absurd h (by decide)) (fun _ => ?_)
  refine am_aload_n dX2_hasWrongMap_16 rfl ?_
  refine am_iload_n dX2_hasWrongMap_17 rfl ?_
  refine am_callSNx (as := [.inl (nI 7)]) (rest := [.inr (0, 21)]) dX2_hasWrongMap_18 lkX10_mapBlock nl_X2_123 isX10_mapBlock rfl (Nat.le_of_ble_eq_true rfl) rfl (c_mapBlock hG.nd (g := 7) (by omega) I) ?_
  refine am_iload_n dX2_hasWrongMap_21 rfl ?_
  refine am_callVx (i := 0) (j := 21) (as := [.inl (nI 576), .inl (nI 0)]) (rest := []) dX2_hasWrongMap_22 lkX2_at ml_X2_84 imX2_at seX2_at rfl rfl (hG.m0 (by decide)) rfl (Nat.le_of_ble_eq_true rfl) rfl (c_at hG (by omega) (by omega) I hS) ?_
  refine am_top (show I 0 1 (576 * 16 + 0) = nI 0 from (hD (576 * 16 + 0)).trans rfl) ?_
  refine am_iload_n dX2_hasWrongMap_25 rfl ?_
  refine am_iconst (v := nI 3) dX2_hasWrongMap_26 (by decide) ?_
  refine am_icmp_ge (tgt := 43) dX2_hasWrongMap_27 (by decide) (fun h => absurd h (by decide)) (fun _ => ?_)
  refine am_aload_n dX2_hasWrongMap_30 rfl ?_
  refine am_get (v := .inr (0, 26)) dX2_hasWrongMap_31 fl_2_25 (hG.m0 (by decide)) rfl ?_
  refine am_iload_n dX2_hasWrongMap_34 rfl ?_
  refine am_iconst (v := nI 3) dX2_hasWrongMap_35 (by decide) ?_
  refine am_imul dX2_hasWrongMap_36 ?_
  refine am_top (show (nI 7) * (nI 3) = nI 21 by decide) ?_
  refine am_iload_n dX2_hasWrongMap_37 rfl ?_
  refine am_iadd dX2_hasWrongMap_38 ?_
  refine am_top (show (nI 21) + (nI 0) = nI 21 by decide) ?_
  refine am_iald (a := 21) dX2_hasWrongMap_39 (hG.m0 (by decide)) rfl rfl (show 21 < 24 from (by omega)) (show 24 < 2 ^ 31 by decide) ?_
  refine am_top ((hB 21 (by decide)).trans rfl) ?_
  refine am_goto (tgt := 44) dX2_hasWrongMap_40 (by decide) ?_
  refine am_icmp_eq (tgt := 49) dX2_hasWrongMap_44 (by decide) (fun _ => ?_) (fun h => absurd h (by decide))
  refine am_iinc (v := nI 1) dX2_hasWrongMap_49 rfl (by decide) ?_
  refine am_goto (tgt := 10) dX2_hasWrongMap_52 (by decide) ?_
  refine am_iload_n dX2_hasWrongMap_10 rfl ?_
  refine am_bipush (v := nI 16) dX2_hasWrongMap_11 (by decide) ?_
  refine am_icmp_ge (tgt := 55) dX2_hasWrongMap_13 (by decide) (fun h => absurd h (by decide)) (fun _ => ?_)
  refine am_aload_n dX2_hasWrongMap_16 rfl ?_
  refine am_iload_n dX2_hasWrongMap_17 rfl ?_
  refine am_callSNx (as := [.inl (nI 7)]) (rest := [.inr (0, 21)]) dX2_hasWrongMap_18 lkX10_mapBlock nl_X2_123 isX10_mapBlock rfl (Nat.le_of_ble_eq_true rfl) rfl (c_mapBlock hG.nd (g := 7) (by omega) I) ?_
  refine am_iload_n dX2_hasWrongMap_21 rfl ?_
  refine am_callVx (i := 0) (j := 21) (as := [.inl (nI 576), .inl (nI 1)]) (rest := []) dX2_hasWrongMap_22 lkX2_at ml_X2_84 imX2_at seX2_at rfl rfl (hG.m0 (by decide)) rfl (Nat.le_of_ble_eq_true rfl) rfl (c_at hG (by omega) (by omega) I hS) ?_
  refine am_top (show I 0 1 (576 * 16 + 1) = nI 0 from (hD (576 * 16 + 1)).trans rfl) ?_
  refine am_iload_n dX2_hasWrongMap_25 rfl ?_
  refine am_iconst (v := nI 3) dX2_hasWrongMap_26 (by decide) ?_
  refine am_icmp_ge (tgt := 43) dX2_hasWrongMap_27 (by decide) (fun h => absurd h (by decide)) (fun _ => ?_)
  refine am_aload_n dX2_hasWrongMap_30 rfl ?_
  refine am_get (v := .inr (0, 26)) dX2_hasWrongMap_31 fl_2_25 (hG.m0 (by decide)) rfl ?_
  refine am_iload_n dX2_hasWrongMap_34 rfl ?_
  refine am_iconst (v := nI 3) dX2_hasWrongMap_35 (by decide) ?_
  refine am_imul dX2_hasWrongMap_36 ?_
  refine am_top (show (nI 7) * (nI 3) = nI 21 by decide) ?_
  refine am_iload_n dX2_hasWrongMap_37 rfl ?_
  refine am_iadd dX2_hasWrongMap_38 ?_
  refine am_top (show (nI 21) + (nI 1) = nI 22 by decide) ?_
  refine am_iald (a := 22) dX2_hasWrongMap_39 (hG.m0 (by decide)) rfl rfl (show 22 < 24 from (by omega)) (show 24 < 2 ^ 31 by decide) ?_
  refine am_top ((hB 22 (by decide)).trans rfl) ?_
  refine am_goto (tgt := 44) dX2_hasWrongMap_40 (by decide) ?_
  refine am_icmp_eq (tgt := 49) dX2_hasWrongMap_44 (by decide) (fun _ => ?_) (fun h => absurd h (by decide))
  refine am_iinc (v := nI 2) dX2_hasWrongMap_49 rfl (by decide) ?_
  refine am_goto (tgt := 10) dX2_hasWrongMap_52 (by decide) ?_
  refine am_iload_n dX2_hasWrongMap_10 rfl ?_
  refine am_bipush (v := nI 16) dX2_hasWrongMap_11 (by decide) ?_
  refine am_icmp_ge (tgt := 55) dX2_hasWrongMap_13 (by decide) (fun h => absurd h (by decide)) (fun _ => ?_)
  refine am_aload_n dX2_hasWrongMap_16 rfl ?_
  refine am_iload_n dX2_hasWrongMap_17 rfl ?_
  refine am_callSNx (as := [.inl (nI 7)]) (rest := [.inr (0, 21)]) dX2_hasWrongMap_18 lkX10_mapBlock nl_X2_123 isX10_mapBlock rfl (Nat.le_of_ble_eq_true rfl) rfl (c_mapBlock hG.nd (g := 7) (by omega) I) ?_
  refine am_iload_n dX2_hasWrongMap_21 rfl ?_
  refine am_callVx (i := 0) (j := 21) (as := [.inl (nI 576), .inl (nI 2)]) (rest := []) dX2_hasWrongMap_22 lkX2_at ml_X2_84 imX2_at seX2_at rfl rfl (hG.m0 (by decide)) rfl (Nat.le_of_ble_eq_true rfl) rfl (c_at hG (by omega) (by omega) I hS) ?_
  refine am_top (show I 0 1 (576 * 16 + 2) = nI 0 from (hD (576 * 16 + 2)).trans rfl) ?_
  refine am_iload_n dX2_hasWrongMap_25 rfl ?_
  refine am_iconst (v := nI 3) dX2_hasWrongMap_26 (by decide) ?_
  refine am_icmp_ge (tgt := 43) dX2_hasWrongMap_27 (by decide) (fun h => absurd h (by decide)) (fun _ => ?_)
  refine am_aload_n dX2_hasWrongMap_30 rfl ?_
  refine am_get (v := .inr (0, 26)) dX2_hasWrongMap_31 fl_2_25 (hG.m0 (by decide)) rfl ?_
  refine am_iload_n dX2_hasWrongMap_34 rfl ?_
  refine am_iconst (v := nI 3) dX2_hasWrongMap_35 (by decide) ?_
  refine am_imul dX2_hasWrongMap_36 ?_
  refine am_top (show (nI 7) * (nI 3) = nI 21 by decide) ?_
  refine am_iload_n dX2_hasWrongMap_37 rfl ?_
  refine am_iadd dX2_hasWrongMap_38 ?_
  refine am_top (show (nI 21) + (nI 2) = nI 23 by decide) ?_
  refine am_iald (a := 23) dX2_hasWrongMap_39 (hG.m0 (by decide)) rfl rfl (show 23 < 24 from (by omega)) (show 24 < 2 ^ 31 by decide) ?_
  refine am_top ((hB 23 (by decide)).trans rfl) ?_
  refine am_goto (tgt := 44) dX2_hasWrongMap_40 (by decide) ?_
  refine am_icmp_eq (tgt := 49) dX2_hasWrongMap_44 (by decide) (fun _ => ?_) (fun h => absurd h (by decide))
  refine am_iinc (v := nI 3) dX2_hasWrongMap_49 rfl (by decide) ?_
  refine am_goto (tgt := 10) dX2_hasWrongMap_52 (by decide) ?_
  refine am_iload_n dX2_hasWrongMap_10 rfl ?_
  refine am_bipush (v := nI 16) dX2_hasWrongMap_11 (by decide) ?_
  refine am_icmp_ge (tgt := 55) dX2_hasWrongMap_13 (by decide) (fun h => absurd h (by decide)) (fun _ => ?_)
  refine am_aload_n dX2_hasWrongMap_16 rfl ?_
  refine am_iload_n dX2_hasWrongMap_17 rfl ?_
  refine am_callSNx (as := [.inl (nI 7)]) (rest := [.inr (0, 21)]) dX2_hasWrongMap_18 lkX10_mapBlock nl_X2_123 isX10_mapBlock rfl (Nat.le_of_ble_eq_true rfl) rfl (c_mapBlock hG.nd (g := 7) (by omega) I) ?_
  refine am_iload_n dX2_hasWrongMap_21 rfl ?_
  refine am_callVx (i := 0) (j := 21) (as := [.inl (nI 576), .inl (nI 3)]) (rest := []) dX2_hasWrongMap_22 lkX2_at ml_X2_84 imX2_at seX2_at rfl rfl (hG.m0 (by decide)) rfl (Nat.le_of_ble_eq_true rfl) rfl (c_at hG (by omega) (by omega) I hS) ?_
  refine am_top (show I 0 1 (576 * 16 + 3) = nI 0 from (hD (576 * 16 + 3)).trans rfl) ?_
  refine am_iload_n dX2_hasWrongMap_25 rfl ?_
  refine am_iconst (v := nI 3) dX2_hasWrongMap_26 (by decide) ?_
  refine am_icmp_ge (tgt := 43) dX2_hasWrongMap_27 (by decide) (fun _ => ?_) (fun h => absurd h (by decide))
  refine am_iconst (v := nI 0) dX2_hasWrongMap_43 (by decide) ?_
  refine am_icmp_eq (tgt := 49) dX2_hasWrongMap_44 (by decide) (fun _ => ?_) (fun h => absurd h (by decide))
  refine am_iinc (v := nI 4) dX2_hasWrongMap_49 rfl (by decide) ?_
  refine am_goto (tgt := 10) dX2_hasWrongMap_52 (by decide) ?_
  refine am_iload_n dX2_hasWrongMap_10 rfl ?_
  refine am_bipush (v := nI 16) dX2_hasWrongMap_11 (by decide) ?_
  refine am_icmp_ge (tgt := 55) dX2_hasWrongMap_13 (by decide) (fun h => absurd h (by decide)) (fun _ => ?_)
  refine am_aload_n dX2_hasWrongMap_16 rfl ?_
  refine am_iload_n dX2_hasWrongMap_17 rfl ?_
  refine am_callSNx (as := [.inl (nI 7)]) (rest := [.inr (0, 21)]) dX2_hasWrongMap_18 lkX10_mapBlock nl_X2_123 isX10_mapBlock rfl (Nat.le_of_ble_eq_true rfl) rfl (c_mapBlock hG.nd (g := 7) (by omega) I) ?_
  refine am_iload_n dX2_hasWrongMap_21 rfl ?_
  refine am_callVx (i := 0) (j := 21) (as := [.inl (nI 576), .inl (nI 4)]) (rest := []) dX2_hasWrongMap_22 lkX2_at ml_X2_84 imX2_at seX2_at rfl rfl (hG.m0 (by decide)) rfl (Nat.le_of_ble_eq_true rfl) rfl (c_at hG (by omega) (by omega) I hS) ?_
  refine am_top (show I 0 1 (576 * 16 + 4) = nI 0 from (hD (576 * 16 + 4)).trans rfl) ?_
  refine am_iload_n dX2_hasWrongMap_25 rfl ?_
  refine am_iconst (v := nI 3) dX2_hasWrongMap_26 (by decide) ?_
  refine am_icmp_ge (tgt := 43) dX2_hasWrongMap_27 (by decide) (fun _ => ?_) (fun h => absurd h (by decide))
  refine am_iconst (v := nI 0) dX2_hasWrongMap_43 (by decide) ?_
  refine am_icmp_eq (tgt := 49) dX2_hasWrongMap_44 (by decide) (fun _ => ?_) (fun h => absurd h (by decide))
  refine am_iinc (v := nI 5) dX2_hasWrongMap_49 rfl (by decide) ?_
  refine am_goto (tgt := 10) dX2_hasWrongMap_52 (by decide) ?_
  refine am_iload_n dX2_hasWrongMap_10 rfl ?_
  refine am_bipush (v := nI 16) dX2_hasWrongMap_11 (by decide) ?_
  refine am_icmp_ge (tgt := 55) dX2_hasWrongMap_13 (by decide) (fun h => absurd h (by decide)) (fun _ => ?_)
  refine am_aload_n dX2_hasWrongMap_16 rfl ?_
  refine am_iload_n dX2_hasWrongMap_17 rfl ?_
  refine am_callSNx (as := [.inl (nI 7)]) (rest := [.inr (0, 21)]) dX2_hasWrongMap_18 lkX10_mapBlock nl_X2_123 isX10_mapBlock rfl (Nat.le_of_ble_eq_true rfl) rfl (c_mapBlock hG.nd (g := 7) (by omega) I) ?_
  refine am_iload_n dX2_hasWrongMap_21 rfl ?_
  refine am_callVx (i := 0) (j := 21) (as := [.inl (nI 576), .inl (nI 5)]) (rest := []) dX2_hasWrongMap_22 lkX2_at ml_X2_84 imX2_at seX2_at rfl rfl (hG.m0 (by decide)) rfl (Nat.le_of_ble_eq_true rfl) rfl (c_at hG (by omega) (by omega) I hS) ?_
  refine am_top (show I 0 1 (576 * 16 + 5) = nI 0 from (hD (576 * 16 + 5)).trans rfl) ?_
  refine am_iload_n dX2_hasWrongMap_25 rfl ?_
  refine am_iconst (v := nI 3) dX2_hasWrongMap_26 (by decide) ?_
  refine am_icmp_ge (tgt := 43) dX2_hasWrongMap_27 (by decide) (fun _ => ?_) (fun h => absurd h (by decide))
  refine am_iconst (v := nI 0) dX2_hasWrongMap_43 (by decide) ?_
  refine am_icmp_eq (tgt := 49) dX2_hasWrongMap_44 (by decide) (fun _ => ?_) (fun h => absurd h (by decide))
  refine am_iinc (v := nI 6) dX2_hasWrongMap_49 rfl (by decide) ?_
  refine am_goto (tgt := 10) dX2_hasWrongMap_52 (by decide) ?_
  refine am_iload_n dX2_hasWrongMap_10 rfl ?_
  refine am_bipush (v := nI 16) dX2_hasWrongMap_11 (by decide) ?_
  refine am_icmp_ge (tgt := 55) dX2_hasWrongMap_13 (by decide) (fun h => absurd h (by decide)) (fun _ => ?_)
  refine am_aload_n dX2_hasWrongMap_16 rfl ?_
  refine am_iload_n dX2_hasWrongMap_17 rfl ?_
  refine am_callSNx (as := [.inl (nI 7)]) (rest := [.inr (0, 21)]) dX2_hasWrongMap_18 lkX10_mapBlock nl_X2_123 isX10_mapBlock rfl (Nat.le_of_ble_eq_true rfl) rfl (c_mapBlock hG.nd (g := 7) (by omega) I) ?_
  refine am_iload_n dX2_hasWrongMap_21 rfl ?_
  refine am_callVx (i := 0) (j := 21) (as := [.inl (nI 576), .inl (nI 6)]) (rest := []) dX2_hasWrongMap_22 lkX2_at ml_X2_84 imX2_at seX2_at rfl rfl (hG.m0 (by decide)) rfl (Nat.le_of_ble_eq_true rfl) rfl (c_at hG (by omega) (by omega) I hS) ?_
  refine am_top (show I 0 1 (576 * 16 + 6) = nI 0 from (hD (576 * 16 + 6)).trans rfl) ?_
  refine am_iload_n dX2_hasWrongMap_25 rfl ?_
  refine am_iconst (v := nI 3) dX2_hasWrongMap_26 (by decide) ?_
  refine am_icmp_ge (tgt := 43) dX2_hasWrongMap_27 (by decide) (fun _ => ?_) (fun h => absurd h (by decide))
  refine am_iconst (v := nI 0) dX2_hasWrongMap_43 (by decide) ?_
  refine am_icmp_eq (tgt := 49) dX2_hasWrongMap_44 (by decide) (fun _ => ?_) (fun h => absurd h (by decide))
  refine am_iinc (v := nI 7) dX2_hasWrongMap_49 rfl (by decide) ?_
  refine am_goto (tgt := 10) dX2_hasWrongMap_52 (by decide) ?_
  refine am_iload_n dX2_hasWrongMap_10 rfl ?_
  refine am_bipush (v := nI 16) dX2_hasWrongMap_11 (by decide) ?_
  refine am_icmp_ge (tgt := 55) dX2_hasWrongMap_13 (by decide) (fun h => absurd h (by decide)) (fun _ => ?_)
  refine am_aload_n dX2_hasWrongMap_16 rfl ?_
  refine am_iload_n dX2_hasWrongMap_17 rfl ?_
  refine am_callSNx (as := [.inl (nI 7)]) (rest := [.inr (0, 21)]) dX2_hasWrongMap_18 lkX10_mapBlock nl_X2_123 isX10_mapBlock rfl (Nat.le_of_ble_eq_true rfl) rfl (c_mapBlock hG.nd (g := 7) (by omega) I) ?_
  refine am_iload_n dX2_hasWrongMap_21 rfl ?_
  refine am_callVx (i := 0) (j := 21) (as := [.inl (nI 576), .inl (nI 7)]) (rest := []) dX2_hasWrongMap_22 lkX2_at ml_X2_84 imX2_at seX2_at rfl rfl (hG.m0 (by decide)) rfl (Nat.le_of_ble_eq_true rfl) rfl (c_at hG (by omega) (by omega) I hS) ?_
  refine am_top (show I 0 1 (576 * 16 + 7) = nI 0 from (hD (576 * 16 + 7)).trans rfl) ?_
  refine am_iload_n dX2_hasWrongMap_25 rfl ?_
  refine am_iconst (v := nI 3) dX2_hasWrongMap_26 (by decide) ?_
  refine am_icmp_ge (tgt := 43) dX2_hasWrongMap_27 (by decide) (fun _ => ?_) (fun h => absurd h (by decide))
  refine am_iconst (v := nI 0) dX2_hasWrongMap_43 (by decide) ?_
  refine am_icmp_eq (tgt := 49) dX2_hasWrongMap_44 (by decide) (fun _ => ?_) (fun h => absurd h (by decide))
  refine am_iinc (v := nI 8) dX2_hasWrongMap_49 rfl (by decide) ?_
  refine am_goto (tgt := 10) dX2_hasWrongMap_52 (by decide) ?_
  refine am_iload_n dX2_hasWrongMap_10 rfl ?_
  refine am_bipush (v := nI 16) dX2_hasWrongMap_11 (by decide) ?_
  refine am_icmp_ge (tgt := 55) dX2_hasWrongMap_13 (by decide) (fun h => absurd h (by decide)) (fun _ => ?_)
  refine am_aload_n dX2_hasWrongMap_16 rfl ?_
  refine am_iload_n dX2_hasWrongMap_17 rfl ?_
  refine am_callSNx (as := [.inl (nI 7)]) (rest := [.inr (0, 21)]) dX2_hasWrongMap_18 lkX10_mapBlock nl_X2_123 isX10_mapBlock rfl (Nat.le_of_ble_eq_true rfl) rfl (c_mapBlock hG.nd (g := 7) (by omega) I) ?_
  refine am_iload_n dX2_hasWrongMap_21 rfl ?_
  refine am_callVx (i := 0) (j := 21) (as := [.inl (nI 576), .inl (nI 8)]) (rest := []) dX2_hasWrongMap_22 lkX2_at ml_X2_84 imX2_at seX2_at rfl rfl (hG.m0 (by decide)) rfl (Nat.le_of_ble_eq_true rfl) rfl (c_at hG (by omega) (by omega) I hS) ?_
  refine am_top (show I 0 1 (576 * 16 + 8) = nI 0 from (hD (576 * 16 + 8)).trans rfl) ?_
  refine am_iload_n dX2_hasWrongMap_25 rfl ?_
  refine am_iconst (v := nI 3) dX2_hasWrongMap_26 (by decide) ?_
  refine am_icmp_ge (tgt := 43) dX2_hasWrongMap_27 (by decide) (fun _ => ?_) (fun h => absurd h (by decide))
  refine am_iconst (v := nI 0) dX2_hasWrongMap_43 (by decide) ?_
  refine am_icmp_eq (tgt := 49) dX2_hasWrongMap_44 (by decide) (fun _ => ?_) (fun h => absurd h (by decide))
  refine am_iinc (v := nI 9) dX2_hasWrongMap_49 rfl (by decide) ?_
  refine am_goto (tgt := 10) dX2_hasWrongMap_52 (by decide) ?_
  refine am_iload_n dX2_hasWrongMap_10 rfl ?_
  refine am_bipush (v := nI 16) dX2_hasWrongMap_11 (by decide) ?_
  refine am_icmp_ge (tgt := 55) dX2_hasWrongMap_13 (by decide) (fun h => absurd h (by decide)) (fun _ => ?_)
  refine am_aload_n dX2_hasWrongMap_16 rfl ?_
  refine am_iload_n dX2_hasWrongMap_17 rfl ?_
  refine am_callSNx (as := [.inl (nI 7)]) (rest := [.inr (0, 21)]) dX2_hasWrongMap_18 lkX10_mapBlock nl_X2_123 isX10_mapBlock rfl (Nat.le_of_ble_eq_true rfl) rfl (c_mapBlock hG.nd (g := 7) (by omega) I) ?_
  refine am_iload_n dX2_hasWrongMap_21 rfl ?_
  refine am_callVx (i := 0) (j := 21) (as := [.inl (nI 576), .inl (nI 9)]) (rest := []) dX2_hasWrongMap_22 lkX2_at ml_X2_84 imX2_at seX2_at rfl rfl (hG.m0 (by decide)) rfl (Nat.le_of_ble_eq_true rfl) rfl (c_at hG (by omega) (by omega) I hS) ?_
  refine am_top (show I 0 1 (576 * 16 + 9) = nI 0 from (hD (576 * 16 + 9)).trans rfl) ?_
  refine am_iload_n dX2_hasWrongMap_25 rfl ?_
  refine am_iconst (v := nI 3) dX2_hasWrongMap_26 (by decide) ?_
  refine am_icmp_ge (tgt := 43) dX2_hasWrongMap_27 (by decide) (fun _ => ?_) (fun h => absurd h (by decide))
  refine am_iconst (v := nI 0) dX2_hasWrongMap_43 (by decide) ?_
  refine am_icmp_eq (tgt := 49) dX2_hasWrongMap_44 (by decide) (fun _ => ?_) (fun h => absurd h (by decide))
  refine am_iinc (v := nI 10) dX2_hasWrongMap_49 rfl (by decide) ?_
  refine am_goto (tgt := 10) dX2_hasWrongMap_52 (by decide) ?_
  refine am_iload_n dX2_hasWrongMap_10 rfl ?_
  refine am_bipush (v := nI 16) dX2_hasWrongMap_11 (by decide) ?_
  refine am_icmp_ge (tgt := 55) dX2_hasWrongMap_13 (by decide) (fun h => absurd h (by decide)) (fun _ => ?_)
  refine am_aload_n dX2_hasWrongMap_16 rfl ?_
  refine am_iload_n dX2_hasWrongMap_17 rfl ?_
  refine am_callSNx (as := [.inl (nI 7)]) (rest := [.inr (0, 21)]) dX2_hasWrongMap_18 lkX10_mapBlock nl_X2_123 isX10_mapBlock rfl (Nat.le_of_ble_eq_true rfl) rfl (c_mapBlock hG.nd (g := 7) (by omega) I) ?_
  refine am_iload_n dX2_hasWrongMap_21 rfl ?_
  refine am_callVx (i := 0) (j := 21) (as := [.inl (nI 576), .inl (nI 10)]) (rest := []) dX2_hasWrongMap_22 lkX2_at ml_X2_84 imX2_at seX2_at rfl rfl (hG.m0 (by decide)) rfl (Nat.le_of_ble_eq_true rfl) rfl (c_at hG (by omega) (by omega) I hS) ?_
  refine am_top (show I 0 1 (576 * 16 + 10) = nI 0 from (hD (576 * 16 + 10)).trans rfl) ?_
  refine am_iload_n dX2_hasWrongMap_25 rfl ?_
  refine am_iconst (v := nI 3) dX2_hasWrongMap_26 (by decide) ?_
  refine am_icmp_ge (tgt := 43) dX2_hasWrongMap_27 (by decide) (fun _ => ?_) (fun h => absurd h (by decide))
  refine am_iconst (v := nI 0) dX2_hasWrongMap_43 (by decide) ?_
  refine am_icmp_eq (tgt := 49) dX2_hasWrongMap_44 (by decide) (fun _ => ?_) (fun h => absurd h (by decide))
  refine am_iinc (v := nI 11) dX2_hasWrongMap_49 rfl (by decide) ?_
  refine am_goto (tgt := 10) dX2_hasWrongMap_52 (by decide) ?_
  refine am_iload_n dX2_hasWrongMap_10 rfl ?_
  refine am_bipush (v := nI 16) dX2_hasWrongMap_11 (by decide) ?_
  refine am_icmp_ge (tgt := 55) dX2_hasWrongMap_13 (by decide) (fun h => absurd h (by decide)) (fun _ => ?_)
  refine am_aload_n dX2_hasWrongMap_16 rfl ?_
  refine am_iload_n dX2_hasWrongMap_17 rfl ?_
  refine am_callSNx (as := [.inl (nI 7)]) (rest := [.inr (0, 21)]) dX2_hasWrongMap_18 lkX10_mapBlock nl_X2_123 isX10_mapBlock rfl (Nat.le_of_ble_eq_true rfl) rfl (c_mapBlock hG.nd (g := 7) (by omega) I) ?_
  refine am_iload_n dX2_hasWrongMap_21 rfl ?_
  refine am_callVx (i := 0) (j := 21) (as := [.inl (nI 576), .inl (nI 11)]) (rest := []) dX2_hasWrongMap_22 lkX2_at ml_X2_84 imX2_at seX2_at rfl rfl (hG.m0 (by decide)) rfl (Nat.le_of_ble_eq_true rfl) rfl (c_at hG (by omega) (by omega) I hS) ?_
  refine am_top (show I 0 1 (576 * 16 + 11) = nI 0 from (hD (576 * 16 + 11)).trans rfl) ?_
  refine am_iload_n dX2_hasWrongMap_25 rfl ?_
  refine am_iconst (v := nI 3) dX2_hasWrongMap_26 (by decide) ?_
  refine am_icmp_ge (tgt := 43) dX2_hasWrongMap_27 (by decide) (fun _ => ?_) (fun h => absurd h (by decide))
  refine am_iconst (v := nI 0) dX2_hasWrongMap_43 (by decide) ?_
  refine am_icmp_eq (tgt := 49) dX2_hasWrongMap_44 (by decide) (fun _ => ?_) (fun h => absurd h (by decide))
  refine am_iinc (v := nI 12) dX2_hasWrongMap_49 rfl (by decide) ?_
  refine am_goto (tgt := 10) dX2_hasWrongMap_52 (by decide) ?_
  refine am_iload_n dX2_hasWrongMap_10 rfl ?_
  refine am_bipush (v := nI 16) dX2_hasWrongMap_11 (by decide) ?_
  refine am_icmp_ge (tgt := 55) dX2_hasWrongMap_13 (by decide) (fun h => absurd h (by decide)) (fun _ => ?_)
  refine am_aload_n dX2_hasWrongMap_16 rfl ?_
  refine am_iload_n dX2_hasWrongMap_17 rfl ?_
  refine am_callSNx (as := [.inl (nI 7)]) (rest := [.inr (0, 21)]) dX2_hasWrongMap_18 lkX10_mapBlock nl_X2_123 isX10_mapBlock rfl (Nat.le_of_ble_eq_true rfl) rfl (c_mapBlock hG.nd (g := 7) (by omega) I) ?_
  refine am_iload_n dX2_hasWrongMap_21 rfl ?_
  refine am_callVx (i := 0) (j := 21) (as := [.inl (nI 576), .inl (nI 12)]) (rest := []) dX2_hasWrongMap_22 lkX2_at ml_X2_84 imX2_at seX2_at rfl rfl (hG.m0 (by decide)) rfl (Nat.le_of_ble_eq_true rfl) rfl (c_at hG (by omega) (by omega) I hS) ?_
  refine am_top (show I 0 1 (576 * 16 + 12) = nI 0 from (hD (576 * 16 + 12)).trans rfl) ?_
  refine am_iload_n dX2_hasWrongMap_25 rfl ?_
  refine am_iconst (v := nI 3) dX2_hasWrongMap_26 (by decide) ?_
  refine am_icmp_ge (tgt := 43) dX2_hasWrongMap_27 (by decide) (fun _ => ?_) (fun h => absurd h (by decide))
  refine am_iconst (v := nI 0) dX2_hasWrongMap_43 (by decide) ?_
  refine am_icmp_eq (tgt := 49) dX2_hasWrongMap_44 (by decide) (fun _ => ?_) (fun h => absurd h (by decide))
  refine am_iinc (v := nI 13) dX2_hasWrongMap_49 rfl (by decide) ?_
  refine am_goto (tgt := 10) dX2_hasWrongMap_52 (by decide) ?_
  refine am_iload_n dX2_hasWrongMap_10 rfl ?_
  refine am_bipush (v := nI 16) dX2_hasWrongMap_11 (by decide) ?_
  refine am_icmp_ge (tgt := 55) dX2_hasWrongMap_13 (by decide) (fun h => absurd h (by decide)) (fun _ => ?_)
  refine am_aload_n dX2_hasWrongMap_16 rfl ?_
  refine am_iload_n dX2_hasWrongMap_17 rfl ?_
  refine am_callSNx (as := [.inl (nI 7)]) (rest := [.inr (0, 21)]) dX2_hasWrongMap_18 lkX10_mapBlock nl_X2_123 isX10_mapBlock rfl (Nat.le_of_ble_eq_true rfl) rfl (c_mapBlock hG.nd (g := 7) (by omega) I) ?_
  refine am_iload_n dX2_hasWrongMap_21 rfl ?_
  refine am_callVx (i := 0) (j := 21) (as := [.inl (nI 576), .inl (nI 13)]) (rest := []) dX2_hasWrongMap_22 lkX2_at ml_X2_84 imX2_at seX2_at rfl rfl (hG.m0 (by decide)) rfl (Nat.le_of_ble_eq_true rfl) rfl (c_at hG (by omega) (by omega) I hS) ?_
  refine am_top (show I 0 1 (576 * 16 + 13) = nI 0 from (hD (576 * 16 + 13)).trans rfl) ?_
  refine am_iload_n dX2_hasWrongMap_25 rfl ?_
  refine am_iconst (v := nI 3) dX2_hasWrongMap_26 (by decide) ?_
  refine am_icmp_ge (tgt := 43) dX2_hasWrongMap_27 (by decide) (fun _ => ?_) (fun h => absurd h (by decide))
  refine am_iconst (v := nI 0) dX2_hasWrongMap_43 (by decide) ?_
  refine am_icmp_eq (tgt := 49) dX2_hasWrongMap_44 (by decide) (fun _ => ?_) (fun h => absurd h (by decide))
  refine am_iinc (v := nI 14) dX2_hasWrongMap_49 rfl (by decide) ?_
  refine am_goto (tgt := 10) dX2_hasWrongMap_52 (by decide) ?_
  refine am_iload_n dX2_hasWrongMap_10 rfl ?_
  refine am_bipush (v := nI 16) dX2_hasWrongMap_11 (by decide) ?_
  refine am_icmp_ge (tgt := 55) dX2_hasWrongMap_13 (by decide) (fun h => absurd h (by decide)) (fun _ => ?_)
  refine am_aload_n dX2_hasWrongMap_16 rfl ?_
  refine am_iload_n dX2_hasWrongMap_17 rfl ?_
  refine am_callSNx (as := [.inl (nI 7)]) (rest := [.inr (0, 21)]) dX2_hasWrongMap_18 lkX10_mapBlock nl_X2_123 isX10_mapBlock rfl (Nat.le_of_ble_eq_true rfl) rfl (c_mapBlock hG.nd (g := 7) (by omega) I) ?_
  refine am_iload_n dX2_hasWrongMap_21 rfl ?_
  refine am_callVx (i := 0) (j := 21) (as := [.inl (nI 576), .inl (nI 14)]) (rest := []) dX2_hasWrongMap_22 lkX2_at ml_X2_84 imX2_at seX2_at rfl rfl (hG.m0 (by decide)) rfl (Nat.le_of_ble_eq_true rfl) rfl (c_at hG (by omega) (by omega) I hS) ?_
  refine am_top (show I 0 1 (576 * 16 + 14) = nI 0 from (hD (576 * 16 + 14)).trans rfl) ?_
  refine am_iload_n dX2_hasWrongMap_25 rfl ?_
  refine am_iconst (v := nI 3) dX2_hasWrongMap_26 (by decide) ?_
  refine am_icmp_ge (tgt := 43) dX2_hasWrongMap_27 (by decide) (fun _ => ?_) (fun h => absurd h (by decide))
  refine am_iconst (v := nI 0) dX2_hasWrongMap_43 (by decide) ?_
  refine am_icmp_eq (tgt := 49) dX2_hasWrongMap_44 (by decide) (fun _ => ?_) (fun h => absurd h (by decide))
  refine am_iinc (v := nI 15) dX2_hasWrongMap_49 rfl (by decide) ?_
  refine am_goto (tgt := 10) dX2_hasWrongMap_52 (by decide) ?_
  refine am_iload_n dX2_hasWrongMap_10 rfl ?_
  refine am_bipush (v := nI 16) dX2_hasWrongMap_11 (by decide) ?_
  refine am_icmp_ge (tgt := 55) dX2_hasWrongMap_13 (by decide) (fun h => absurd h (by decide)) (fun _ => ?_)
  refine am_aload_n dX2_hasWrongMap_16 rfl ?_
  refine am_iload_n dX2_hasWrongMap_17 rfl ?_
  refine am_callSNx (as := [.inl (nI 7)]) (rest := [.inr (0, 21)]) dX2_hasWrongMap_18 lkX10_mapBlock nl_X2_123 isX10_mapBlock rfl (Nat.le_of_ble_eq_true rfl) rfl (c_mapBlock hG.nd (g := 7) (by omega) I) ?_
  refine am_iload_n dX2_hasWrongMap_21 rfl ?_
  refine am_callVx (i := 0) (j := 21) (as := [.inl (nI 576), .inl (nI 15)]) (rest := []) dX2_hasWrongMap_22 lkX2_at ml_X2_84 imX2_at seX2_at rfl rfl (hG.m0 (by decide)) rfl (Nat.le_of_ble_eq_true rfl) rfl (c_at hG (by omega) (by omega) I hS) ?_
  refine am_top (show I 0 1 (576 * 16 + 15) = nI 0 from (hD (576 * 16 + 15)).trans rfl) ?_
  refine am_iload_n dX2_hasWrongMap_25 rfl ?_
  refine am_iconst (v := nI 3) dX2_hasWrongMap_26 (by decide) ?_
  refine am_icmp_ge (tgt := 43) dX2_hasWrongMap_27 (by decide) (fun _ => ?_) (fun h => absurd h (by decide))
  refine am_iconst (v := nI 0) dX2_hasWrongMap_43 (by decide) ?_
  refine am_icmp_eq (tgt := 49) dX2_hasWrongMap_44 (by decide) (fun _ => ?_) (fun h => absurd h (by decide))
  refine am_iinc (v := nI 16) dX2_hasWrongMap_49 rfl (by decide) ?_
  refine am_goto (tgt := 10) dX2_hasWrongMap_52 (by decide) ?_
  refine am_iload_n dX2_hasWrongMap_10 rfl ?_
  refine am_bipush (v := nI 16) dX2_hasWrongMap_11 (by decide) ?_
  refine am_icmp_ge (tgt := 55) dX2_hasWrongMap_13 (by decide) (fun _ => ?_) (fun h => absurd h (by decide))
  refine am_iinc (v := nI 8) dX2_hasWrongMap_55 rfl (by decide) ?_
  refine am_goto (tgt := 2) dX2_hasWrongMap_58 (by decide) ?_
  refine am_iload_n dX2_hasWrongMap_2 rfl ?_
  refine am_bipush (v := nI 8) dX2_hasWrongMap_3 (by decide) ?_
  refine am_icmp_ge (tgt := 61) dX2_hasWrongMap_5 (by decide) (fun _ => ?_) (fun h => absurd h (by decide))
  refine am_iconst (v := nI 0) dX2_hasWrongMap_61 (by decide) ?_
  refine am_iret dX2_hasWrongMap_62 rfl (am_nz (by decide)).1 ?_
  exact ⟨rfl, rfl⟩
