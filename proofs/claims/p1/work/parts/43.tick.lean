/-- nothing is under way: what a tick needs -/
def am_q (n : Nat) (J : am_I) : Prop := J 0 9 3 = nI 0 ∧ J 0 13 1 = nI 0 ∧ (∀ k, k < n → J k 40 5 = nI 1) ∧ (∀ k, k < n → J k 44 5 = nI 0)
theorem c_gather0 {G : am_G} (hG : am_ok G) {d : Nat} (x : Int32) (I : am_I)  (hc : I 0 9 3 = nI 0) : am_C G d mX5_gather [.inr (0, 9), .inl x] I (am_E (some (nI 0)) (am_up I 0 9 3 (nI 0))) := by
  refine am_of (by decide +kernel) hG.nd (Nat.le_of_ble_eq_true rfl) ?_
  refine am_iconst (v := nI 0) dX5_gather_0 (by decide) ?_
  refine am_istore_n dX5_gather_1 (by decide) ?_
  refine am_iconst (v := nI 0) dX5_gather_2 (by decide) ?_
  refine am_istore_n dX5_gather_3 (by decide) ?_
  refine am_iconst (v := nI 0) dX5_gather_4 (by decide) ?_
  refine am_istore dX5_gather_5 (by decide) ?_
  refine am_iload dX5_gather_7 rfl ?_
  refine am_aload_n dX5_gather_9 rfl ?_
  refine am_get (v := .inl (I 0 9 3)) dX5_gather_10 fl_5_27 (hG.m0 (by decide)) rfl ?_
  refine am_top (show I 0 9 3 = nI 0 from (by simp [am_up, am_upf, upd, hc])) ?_
  refine am_icmp_ge (tgt := 91) dX5_gather_13 (by decide) (fun _ => ?_) (fun h => absurd h (by decide))
  refine am_aload_n dX5_gather_91 rfl ?_
  refine am_iload_n dX5_gather_92 rfl ?_
  refine am_put (x := nI 0) dX5_gather_93 fp_5_27 (hG.m0 (by decide)) (Nat.le_of_ble_eq_true rfl) rfl ?_
  refine am_iload_n dX5_gather_96 rfl ?_
  refine am_iret dX5_gather_97 rfl rfl ?_
  exact ⟨rfl, rfl⟩
theorem c_Jflushing0 {G : am_G} (hG : am_ok G) {d : Nat} {i : Nat} (hi : i < G.2.2.2.1) (I : am_I)  (hct : I i 44 5 = nI 0) : am_C G d mX3_isFlushing [.inr (i, 44)] I (am_E (some (nI 0)) (I)) := by
  refine am_of (by decide +kernel) hG.nd (Nat.le_of_ble_eq_true rfl) ?_
  refine am_aload_n dX3_isFlushing_0 rfl ?_
  refine am_get (v := .inl (I i 44 5)) dX3_isFlushing_1 fl_3_25 (hG.mn hi (by decide) (by decide)) rfl ?_
  refine am_top (show I i 44 5 = nI 0 from (by simp [am_up, am_upf, upd, hct])) ?_
  refine am_if_le (tgt := 11) dX3_isFlushing_4 (by decide) (fun _ => ?_) (fun h => absurd h (by decide))
  refine am_iconst (v := nI 0) dX3_isFlushing_11 (by decide) ?_
  refine am_iret dX3_isFlushing_12 rfl (am_nz (by decide)).1 ?_
  exact ⟨rfl, rfl⟩
theorem c_writeNext0 {G : am_G} (hG : am_ok G) {d : Nat} {i : Nat} (hi : i < G.2.2.2.1) (I : am_I)  (hup : I i 40 5 = nI 1) (hct : I i 44 5 = nI 0) : am_C G (d + 1) mX10_writeNext [.inr (0, 0), .inr (i, 40)] I (am_E (some (nI 0)) (I)) := by
  refine am_of (by decide +kernel) hG.nd (Nat.le_of_ble_eq_true rfl) ?_
  refine am_aload_n dX10_writeNext_0 rfl ?_
  refine am_get (v := .inr (i, 44)) dX10_writeNext_1 fl_10_284 (hG.mn hi (by decide) (by decide)) rfl ?_
  refine am_astore_n dX10_writeNext_4 (by decide) ?_
  refine am_aload_n dX10_writeNext_5 rfl ?_
  refine am_get (v := .inl (I i 40 5)) dX10_writeNext_6 fl_10_80 (hG.mn hi (by decide) (by decide)) rfl ?_
  refine am_top (show I i 40 5 = nI 1 from (by simp [am_up, am_upf, upd, hup, hct])) ?_
  refine am_if_eq (tgt := 19) dX10_writeNext_9 (by decide) (fun h => absurd h (by decide)) (fun _ => ?_)
  refine am_aload_n dX10_writeNext_12 rfl ?_
  refine am_callVx (i := i) (j := 44) (as := []) (rest := []) dX10_writeNext_13 lkX3_isFlushing ml_X10_371 imX3_isFlushing seX3_isFlushing rfl rfl (hG.mn hi (by decide) (by decide)) rfl (Nat.le_of_ble_eq_true rfl) rfl (c_Jflushing0 hG hi I (by simp [am_up, am_upf, upd, hup, hct])) ?_
  refine am_if_ne (tgt := 21) dX10_writeNext_16 (by decide) (fun h => absurd h (by decide)) (fun _ => ?_)
  refine am_iconst (v := nI 0) dX10_writeNext_19 (by decide) ?_
  refine am_iret dX10_writeNext_20 rfl (am_nz (by decide)).1 ?_
  exact ⟨rfl, rfl⟩
theorem j_tick {G : am_G} (hG : am_ok G) {d : Nat} {TH : Nat → List (Option am_V) → List am_V → am_I → Prop} {Q : Option Int32 → am_I → Prop} {I : am_I} {t : Nat} (ht : t ≤ 100) (hI : I = am_fr G.2.2.2.1) (hQ : ∀ J, Q (some (nI 0)) J) : am_J G (d + 2) mX10_tick TH Q 0 [some (.inr (0, 0)), some (.inl (nI t)), none, none, none, none, none] [] I := by
  have hn4 := hG.hi
  have hn2 := hG.lo
  have K : ∀ (m a : Nat) (J : am_I) (s4 s5 : Option am_V), a + m = t → am_q G.2.2.2.1 J → am_J G (d + 2) mX10_tick TH Q 30 [some (.inr (0, 0)), some (.inl (nI t)), some (.inl (nI 0)), some (.inl (nI a)), s4, s5, none] [] J := by
    intro m
    induction m with
    | zero =>
      intro a J s4 s5 ha hq
      obtain rfl : a = t := by omega
      refine am_iload_n dX10_tick_30 rfl ?_
      refine am_iload_n dX10_tick_31 rfl ?_
      refine am_icmp_ge (tgt := 152) dX10_tick_32 (by decide) (fun _ => ?_) (fun h => absurd ((nI_leI (a := a) (b := a) (by omega) (by omega)).mpr (by omega)) h)
      refine am_aload_n dX10_tick_152 rfl ?_
      refine am_get (v := .inr (0, 13)) dX10_tick_153 fl_10_43 (hG.m0 (by decide)) rfl ?_
      refine am_get (v := .inl (J 0 13 1)) dX10_tick_156 fl_10_121 (hG.m0 (by decide)) rfl ?_
      refine am_top (show J 0 13 1 = nI 0 from (by simp [am_up, am_upf, upd, hq.1, hq.2.1])) ?_
      refine am_iload_n dX10_tick_159 rfl ?_
      refine am_isub dX10_tick_160 ?_
      refine am_top (show (nI 0) - (nI 0) = nI 0 by decide) ?_
      refine am_iret dX10_tick_161 rfl rfl ?_
      exact hQ _
    | succ m ih =>
      intro a J s4 s5 ha hq
      have L : ∀ (q k : Nat) (J : am_I), k + q = G.2.2.2.1 → am_q G.2.2.2.1 J → am_J G (d + 2) mX10_tick TH Q 105 [some (.inr (0, 0)), some (.inl (nI t)), some (.inl (nI 0)), some (.inl (nI a)), some (.inl (nI 0)), some (.inl (nI k)), none] [] J := by
        intro q
        induction q with
        | zero =>
          intro k J hk hq
          obtain rfl : k = G.2.2.2.1 := by omega
          refine am_iload dX10_tick_105 rfl ?_
          refine am_aload_n dX10_tick_107 rfl ?_
          refine am_get (v := .inr (0, 2)) dX10_tick_108 fl_10_19 (hG.m0 (by decide)) rfl ?_
          refine am_alen3 dX10_tick_111 (hG.m0 (by decide)) rfl ?_
          refine am_icmp_ge (tgt := 146) dX10_tick_112 (by decide) (fun _ => ?_) (fun h => absurd ((nI_leI (a := G.2.2.2.1) (b := G.2.2.2.1) (by omega) (by omega)).mpr (by omega)) h)
          refine am_iinc (v := nI (a + 1)) dX10_tick_146 rfl (nI_add _ _) ?_
          refine am_goto (tgt := 30) dX10_tick_149 (by decide) ?_
          exact ih (a + 1) J _ _ (by omega) hq
        | succ q il =>
          intro k J hk hq
          refine am_iload dX10_tick_105 rfl ?_
          refine am_aload_n dX10_tick_107 rfl ?_
          refine am_get (v := .inr (0, 2)) dX10_tick_108 fl_10_19 (hG.m0 (by decide)) rfl ?_
          refine am_alen3 dX10_tick_111 (hG.m0 (by decide)) rfl ?_
          refine am_icmp_ge (tgt := 146) dX10_tick_112 (by decide) (fun h => absurd ((nI_leI (a := G.2.2.2.1) (b := k) (by omega) (by omega)).mp h) (by omega)) (fun _ => ?_)
          refine am_aload_n dX10_tick_115 rfl ?_
          refine am_aload_n dX10_tick_116 rfl ?_
          refine am_get (v := .inr (0, 2)) dX10_tick_117 fl_10_19 (hG.m0 (by decide)) rfl ?_
          refine am_iload dX10_tick_120 rfl ?_
          refine am_aald (a := k) dX10_tick_122 (hG.m0 (by decide)) rfl rfl (by omega) hG.n31 ?_
          refine am_callVx (i := 0) (j := 0) (as := [.inr (k, 40)]) (rest := []) dX10_tick_123 lkX10_writeNext ml_X10_130 imX10_writeNext seX10_writeNext rfl rfl (hG.m0 (by decide)) rfl (Nat.le_of_ble_eq_true rfl) rfl (c_writeNext0 hG (by omega) J (hq.2.2.1 _ (by omega)) (hq.2.2.2 _ (by omega))) ?_
          refine am_if_eq (tgt := 140) dX10_tick_126 (by decide) (fun _ => ?_) (fun h => absurd h (by decide))
          refine am_iinc (v := nI (k + 1)) dX10_tick_140 rfl (nI_add _ _) ?_
          refine am_goto (tgt := 105) dX10_tick_143 (by decide) ?_
          exact il (k + 1) J (by omega) hq
      refine am_iload_n dX10_tick_30 rfl ?_
      refine am_iload_n dX10_tick_31 rfl ?_
      refine am_icmp_ge (tgt := 152) dX10_tick_32 (by decide) (fun h => absurd ((nI_leI (a := t) (b := a) (by omega) (by omega)).mp h) (by omega)) (fun _ => ?_)
      refine am_aload_n dX10_tick_35 rfl ?_
      refine am_dup dX10_tick_36 ?_
      refine am_get (v := .inl (J 0 0 7)) dX10_tick_37 fl_10_99 (hG.m0 (by decide)) rfl ?_
      refine am_iconst (v := nI 1) dX10_tick_40 (by decide) ?_
      refine am_iadd dX10_tick_41 ?_
      refine am_put (x := (J 0 0 7) + (nI 1)) dX10_tick_42 fp_10_99 (hG.m0 (by decide)) (Nat.le_of_ble_eq_true rfl) rfl ?_
      refine am_aload_n dX10_tick_45 rfl ?_
      refine am_get (v := .inr (0, 9)) dX10_tick_46 fl_10_36 (hG.m0 (by decide)) rfl ?_
      refine am_aload_n dX10_tick_49 rfl ?_
      refine am_get (v := .inl ((am_up J 0 0 7 ((J 0 0 7) + (nI 1))) 0 0 7)) dX10_tick_50 fl_10_99 (hG.m0 (by decide)) rfl ?_
      refine am_top (show (am_up J 0 0 7 ((J 0 0 7) + (nI 1))) 0 0 7 = (J 0 0 7) + (nI 1) from (by simp [am_up, am_upf, upd, hq.1, hq.2.1])) ?_
      refine am_callVx (i := 0) (j := 9) (as := [.inl ((J 0 0 7) + (nI 1))]) (rest := []) dX10_tick_53 lkX5_gather ml_X10_124 imX5_gather seX5_gather rfl rfl (hG.m0 (by decide)) rfl (Nat.le_of_ble_eq_true rfl) rfl (c_gather0 hG ((J 0 0 7) + (nI 1)) (am_up J 0 0 7 ((J 0 0 7) + (nI 1))) (by simp [am_up, am_upf, upd, hq.1, hq.2.1])) ?_
      refine am_istore dX10_tick_56 (by decide) ?_
      refine am_iconst (v := nI 0) dX10_tick_58 (by decide) ?_
      refine am_istore dX10_tick_59 (by decide) ?_
      refine am_iload dX10_tick_61 rfl ?_
      refine am_iload dX10_tick_63 rfl ?_
      refine am_icmp_ge (tgt := 102) dX10_tick_65 (by decide) (fun _ => ?_) (fun h => absurd h (by decide))
      refine am_iconst (v := nI 0) dX10_tick_102 (by decide) ?_
      refine am_istore dX10_tick_103 (by decide) ?_
      refine L G.2.2.2.1 0 _ (by omega) ⟨by simp [am_up, am_upf, upd], by simp [am_up, am_upf, upd, hq.2.1], fun k hk => by simp [am_up, am_upf, upd, hq.2.2.1 k hk], fun k hk => by simp [am_up, am_upf, upd, hq.2.2.2 k hk]⟩
  refine am_iload_n dX10_tick_0 rfl ?_
  refine am_if_lt (tgt := 10) dX10_tick_1 (by decide) (fun h => absurd ((nI_ltI (a := t) (b := 0) (by omega) (by omega)).mp h) (by omega)) (fun _ => ?_)
  refine am_iload_n dX10_tick_4 rfl ?_
  refine am_bipush (v := nI 100) dX10_tick_5 (by decide) ?_
  refine am_icmp_le (tgt := 20) dX10_tick_7 (by decide) (fun _ => ?_) (fun h => absurd ((nI_leI (a := t) (b := 100) (by omega) (by omega)).mpr (by omega)) h)
  refine am_aload_n dX10_tick_20 rfl ?_
  refine am_get (v := .inr (0, 13)) dX10_tick_21 fl_10_43 (hG.m0 (by decide)) rfl ?_
  refine am_get (v := .inl (I 0 13 1)) dX10_tick_24 fl_10_121 (hG.m0 (by decide)) rfl ?_
  refine am_top (show I 0 13 1 = nI 0 from (by simp [am_up, am_upf, upd, hI, am_fr, am_dk])) ?_
  refine am_istore_n dX10_tick_27 (by decide) ?_
  refine am_iconst (v := nI 0) dX10_tick_28 (by decide) ?_
  refine am_istore_n dX10_tick_29 (by decide) ?_
  exact K t 0 I _ _ (by omega) ⟨by rw [hI]; rfl, by rw [hI]; rfl, fun k hk => by rw [hI]; simp [am_fr], fun k hk => by rw [hI]; simp [am_fr]⟩
theorem j_tickA {G : am_G} (hG : am_ok G) {d : Nat} {TH : Nat → List (Option am_V) → List am_V → am_I → Prop} {Q : Option Int32 → am_I → Prop} {I : am_I} (w : Int32) (hw : w.toInt < 0 ∨ 100 < w.toInt) (hI : I = am_fr G.2.2.2.1) (hT : ∀ lo, TH 10 lo [] I) : am_J G d mX10_tick TH Q 0 [some (.inr (0, 0)), some (.inl w), none, none, none, none, none] [] I := by
  refine am_iload_n dX10_tick_0 rfl ?_
  refine am_if_lt (tgt := 10) dX10_tick_1 (by decide) (fun c_1 => ?_) (fun c_1 => ?_)
  · skip
    have c_1 := Int32.lt_iff_toInt_lt.mp c_1
    rw [am_i0] at c_1
    exact am_exit (hT _)
  · skip
    have c_1 := mt Int32.lt_iff_toInt_lt.mpr c_1
    rw [am_i0] at c_1
    refine am_iload_n dX10_tick_4 rfl ?_
    refine am_bipush (v := nI 100) dX10_tick_5 (by decide) ?_
    refine am_icmp_le (tgt := 20) dX10_tick_7 (by decide) (fun c_7 => ?_) (fun c_7 => ?_)
    · skip
      have c_7 := Int32.le_iff_toInt_le.mp c_7
      rw [nI_toInt (n := 100) (by omega)] at c_7
      exact absurd hw (by omega)
    · skip
      have c_7 := mt Int32.le_iff_toInt_le.mpr c_7
      rw [nI_toInt (n := 100) (by omega)] at c_7
      exact am_exit (hT _)
theorem c_turn0 {G : am_G} (hG : am_ok G) {d : Nat} (x z : Int32) (I : am_I) : am_C G d mX0_turn [.inr (0, 13), .inl x, .inl (nI 0), .inl z] I (am_E none I) := by
  refine am_of (by decide +kernel) hG.nd (Nat.le_of_ble_eq_true rfl) ?_
  refine am_iconst (v := nI 0) dX0_turn_0 (by decide) ?_
  refine am_istore dX0_turn_1 (by decide) ?_
  refine am_iload dX0_turn_3 rfl ?_
  refine am_iload_n dX0_turn_5 rfl ?_
  refine am_icmp_ge (tgt := 66) dX0_turn_6 (by decide) (fun _ => ?_) (fun h => absurd h (by decide))
  refine am_vret dX0_turn_66 rfl ?_
  exact ⟨rfl, rfl⟩
theorem c_lose0 {G : am_G} (hG : am_ok G) {d : Nat} (x : Int32) (I : am_I)  (hen : I 0 13 1 = nI 0) : am_C G (d + 1) mX0_lose [.inr (0, 13), .inl x] I (am_E none (I)) := by
  refine am_of (by decide +kernel) hG.nd (Nat.le_of_ble_eq_true rfl) ?_
  refine am_aload_n dX0_lose_0 rfl ?_
  refine am_iload_n dX0_lose_1 rfl ?_
  refine am_aload_n dX0_lose_2 rfl ?_
  refine am_get (v := .inl (I 0 13 1)) dX0_lose_3 fl_0_15 (hG.m0 (by decide)) rfl ?_
  refine am_top (show I 0 13 1 = nI 0 from (by simp [am_up, am_upf, upd, hen])) ?_
  refine am_iconst (v := nI 3) dX0_lose_6 (by decide) ?_
  refine am_callVe (i := 0) (j := 13) (as := [.inl x, .inl (nI 0), .inl (nI 3)]) (rest := []) dX0_lose_7 lkX0_turn ml_X0_57 imX0_turn seX0_turn rfl rfl (hG.m0 (by decide)) rfl (Nat.le_of_ble_eq_true rfl) rfl (c_turn0 hG x (nI 3) I) ?_
  refine am_vret dX0_lose_10 rfl ?_
  exact ⟨rfl, rfl⟩
theorem c_tear0 {G : am_G} (hG : am_ok G) {d : Nat} (x : Int32) {i : Nat} (hi : i < G.2.2.2.1) (I : am_I)  (hct : I i 44 5 = nI 0) : am_C G (d + 1) mX10_tear [.inr (0, 0), .inr (i, 40), .inl x] I (am_E none (I)) := by
  refine am_of (by decide +kernel) hG.nd (Nat.le_of_ble_eq_true rfl) ?_
  refine am_aload_n dX10_tear_0 rfl ?_
  refine am_get (v := .inr (i, 44)) dX10_tear_1 fl_10_284 (hG.mn hi (by decide) (by decide)) rfl ?_
  refine am_astore_n dX10_tear_4 (by decide) ?_
  refine am_aload_n dX10_tear_5 rfl ?_
  refine am_callVx (i := i) (j := 44) (as := []) (rest := []) dX10_tear_6 lkX3_isFlushing ml_X10_371 imX3_isFlushing seX3_isFlushing rfl rfl (hG.mn hi (by decide) (by decide)) rfl (Nat.le_of_ble_eq_true rfl) rfl (c_Jflushing0 hG hi I (by simp [am_up, am_upf, upd, hct])) ?_
  refine am_if_ne (tgt := 13) dX10_tear_9 (by decide) (fun h => absurd h (by decide)) (fun _ => ?_)
  refine am_vret dX10_tear_12 rfl ?_
  exact ⟨rfl, rfl⟩
theorem c_forgetM0 {G : am_G} (hG : am_ok G) {d : Nat} (x : Int32) (I : am_I)  (hc : I 0 9 3 = nI 0) : am_C G d mX5_forget [.inr (0, 9), .inl x] I (am_E none (am_up I 0 9 3 (nI 0))) := by
  refine am_of (by decide +kernel) hG.nd (Nat.le_of_ble_eq_true rfl) ?_
  refine am_iconst (v := nI 0) dX5_forget_0 (by decide) ?_
  refine am_istore_n dX5_forget_1 (by decide) ?_
  refine am_iconst (v := nI 0) dX5_forget_2 (by decide) ?_
  refine am_istore_n dX5_forget_3 (by decide) ?_
  refine am_iload_n dX5_forget_4 rfl ?_
  refine am_aload_n dX5_forget_5 rfl ?_
  refine am_get (v := .inl (I 0 9 3)) dX5_forget_6 fl_5_27 (hG.m0 (by decide)) rfl ?_
  refine am_top (show I 0 9 3 = nI 0 from (by simp [am_up, am_upf, upd, hc])) ?_
  refine am_icmp_ge (tgt := 70) dX5_forget_9 (by decide) (fun _ => ?_) (fun h => absurd h (by decide))
  refine am_aload_n dX5_forget_70 rfl ?_
  refine am_iload_n dX5_forget_71 rfl ?_
  refine am_put (x := nI 0) dX5_forget_72 fp_5_27 (hG.m0 (by decide)) (Nat.le_of_ble_eq_true rfl) rfl ?_
  refine am_vret dX5_forget_75 rfl ?_
  exact ⟨rfl, rfl⟩
theorem c_Lwipe {G : am_G} (hG : am_ok G) {d : Nat} {i : Nat} (hi : i < G.2.2.2.1) (I : am_I) : am_C G (d + 2) mX4_wipe [.inr (i, 48)] I (am_E none (am_up (am_upf (am_upf (am_upf (am_upf (am_upf (I) i 49 (am_fil ((I) i 49) 136 (nI 0))) i 50 (am_fil ((am_upf (I) i 49 (am_fil ((I) i 49) 136 (nI 0))) i 50) 136 (nI 0))) i 51 (am_fil ((am_upf (am_upf (I) i 49 (am_fil ((I) i 49) 136 (nI 0))) i 50 (am_fil ((am_upf (I) i 49 (am_fil ((I) i 49) 136 (nI 0))) i 50) 136 (nI 0))) i 51) 136 (-1 : Int32))) i 52 (am_fil ((am_upf (am_upf (am_upf (I) i 49 (am_fil ((I) i 49) 136 (nI 0))) i 50 (am_fil ((am_upf (I) i 49 (am_fil ((I) i 49) 136 (nI 0))) i 50) 136 (nI 0))) i 51 (am_fil ((am_upf (am_upf (I) i 49 (am_fil ((I) i 49) 136 (nI 0))) i 50 (am_fil ((am_upf (I) i 49 (am_fil ((I) i 49) 136 (nI 0))) i 50) 136 (nI 0))) i 51) 136 (-1 : Int32))) i 52) 136 (nI 0))) i 54 (am_fil ((am_upf (am_upf (am_upf (am_upf (I) i 49 (am_fil ((I) i 49) 136 (nI 0))) i 50 (am_fil ((am_upf (I) i 49 (am_fil ((I) i 49) 136 (nI 0))) i 50) 136 (nI 0))) i 51 (am_fil ((am_upf (am_upf (I) i 49 (am_fil ((I) i 49) 136 (nI 0))) i 50 (am_fil ((am_upf (I) i 49 (am_fil ((I) i 49) 136 (nI 0))) i 50) 136 (nI 0))) i 51) 136 (-1 : Int32))) i 52 (am_fil ((am_upf (am_upf (am_upf (I) i 49 (am_fil ((I) i 49) 136 (nI 0))) i 50 (am_fil ((am_upf (I) i 49 (am_fil ((I) i 49) 136 (nI 0))) i 50) 136 (nI 0))) i 51 (am_fil ((am_upf (am_upf (I) i 49 (am_fil ((I) i 49) 136 (nI 0))) i 50 (am_fil ((am_upf (I) i 49 (am_fil ((I) i 49) 136 (nI 0))) i 50) 136 (nI 0))) i 51) 136 (-1 : Int32))) i 52) 136 (nI 0))) i 54) 136 (nI 0))) i 48 6 (nI 0))) := by
  have L : ∀ (F : am_I) (m b : Nat), b + m = 136 → am_J G (d + 2) mX4_wipe am_no (am_E none (am_up (am_upf (am_upf F i 52 (am_fil (F i 52) 136 (nI 0))) i 54 (am_fil ((am_upf F i 52 (am_fil (F i 52) 136 (nI 0))) i 54) 136 (nI 0))) i 48 6 (nI 0))) 26 [some (.inr (i, 48)), some (.inl (nI b))] [] (am_upf F i 52 (am_fil (F i 52) b (nI 0))) := by
    intro F m
    induction m with
    | zero =>
      intro b ha
      obtain rfl : b = 136 := by omega
      refine am_iload_n dX4_wipe_26 rfl ?_
      refine am_sipush (v := nI 136) dX4_wipe_27 (by decide) ?_
      refine am_icmp_ge (tgt := 46) dX4_wipe_30 (by decide) (fun _ => ?_) (fun h => absurd ((nI_leI (a := 136) (b := 136) (by omega) (by omega)).mpr (by omega)) h)
      refine am_aload_n dX4_wipe_46 rfl ?_
      refine am_callVe (i := i) (j := 48) (as := []) (rest := []) dX4_wipe_47 lkX4_clearList ml_X4_47 imX4_clearList seX4_clearList rfl rfl (hG.mn hi (by decide) (by decide)) rfl (Nat.le_of_ble_eq_true rfl) rfl (c_LclearList hG hi (am_upf F i 52 (am_fil (F i 52) 136 (nI 0)))) ?_
      refine am_vret dX4_wipe_50 rfl ?_
      exact ⟨rfl, rfl⟩
    | succ m ih =>
      intro b ha
      refine am_iload_n dX4_wipe_26 rfl ?_
      refine am_sipush (v := nI 136) dX4_wipe_27 (by decide) ?_
      refine am_icmp_ge (tgt := 46) dX4_wipe_30 (by decide) (fun h => absurd ((nI_leI (a := 136) (b := b) (by omega) (by omega)).mp h) (by omega)) (fun _ => ?_)
      refine am_aload_n dX4_wipe_33 rfl ?_
      refine am_get (v := .inr (i, 52)) dX4_wipe_34 fl_4_21 (hG.mn hi (by decide) (by decide)) rfl ?_
      refine am_iload_n dX4_wipe_37 rfl ?_
      refine am_iconst (v := nI 0) dX4_wipe_38 (by decide) ?_
      refine am_zast (a := b) dX4_wipe_39 (hG.mn hi (by decide) (by decide)) rfl (by decide) rfl (show b < 136 from (by omega)) (show 136 < 2 ^ 31 by decide) ?_
      refine am_iinc (v := nI (b + 1)) dX4_wipe_40 rfl (nI_add _ _) ?_
      refine am_goto (tgt := 26) dX4_wipe_43 (by decide) ?_
      rw [am_up_upf, am_fils]
      exact ih (b + 1) (by omega)
  refine am_of (by decide +kernel) hG.nd (Nat.le_of_ble_eq_true rfl) ?_
  refine am_aload_n dX4_wipe_0 rfl ?_
  refine am_get (v := .inr (i, 49)) dX4_wipe_1 fl_4_9 (hG.mn hi (by decide) (by decide)) rfl ?_
  refine am_iconst (v := nI 0) dX4_wipe_4 (by decide) ?_
  refine am_callSe (as := [.inr (i, 49), .inl (nI 0)]) (rest := []) dX4_wipe_5 lkJ7_fill_53178 ml_X4_31 isJ7_fill_53178 rfl (Nat.le_of_ble_eq_true rfl) rfl (c_fill (i := i) (j := 49) hG.nd (hG.mn hi (by decide) (by decide)) rfl (show 136 < 2 ^ 31 by decide) (nI 0) I) ?_
  refine am_aload_n dX4_wipe_8 rfl ?_
  refine am_get (v := .inr (i, 50)) dX4_wipe_9 fl_4_15 (hG.mn hi (by decide) (by decide)) rfl ?_
  refine am_iconst (v := nI 0) dX4_wipe_12 (by decide) ?_
  refine am_callSe (as := [.inr (i, 50), .inl (nI 0)]) (rest := []) dX4_wipe_13 lkJ7_fill_53178 ml_X4_31 isJ7_fill_53178 rfl (Nat.le_of_ble_eq_true rfl) rfl (c_fill (i := i) (j := 50) hG.nd (hG.mn hi (by decide) (by decide)) rfl (show 136 < 2 ^ 31 by decide) (nI 0) (am_upf I i 49 (am_fil (I i 49) 136 (nI 0)))) ?_
  refine am_aload_n dX4_wipe_16 rfl ?_
  refine am_get (v := .inr (i, 51)) dX4_wipe_17 fl_4_18 (hG.mn hi (by decide) (by decide)) rfl ?_
  refine am_iconst (v := (-1 : Int32)) dX4_wipe_20 (by decide) ?_
  refine am_callSe (as := [.inr (i, 51), .inl (-1 : Int32)]) (rest := []) dX4_wipe_21 lkJ7_fill_53178 ml_X4_31 isJ7_fill_53178 rfl (Nat.le_of_ble_eq_true rfl) rfl (c_fill (i := i) (j := 51) hG.nd (hG.mn hi (by decide) (by decide)) rfl (show 136 < 2 ^ 31 by decide) (-1 : Int32) (am_upf (am_upf I i 49 (am_fil (I i 49) 136 (nI 0))) i 50 (am_fil ((am_upf I i 49 (am_fil (I i 49) 136 (nI 0))) i 50) 136 (nI 0)))) ?_
  refine am_iconst (v := nI 0) dX4_wipe_24 (by decide) ?_
  refine am_istore_n dX4_wipe_25 (by decide) ?_
  refine am_nm (fun F hF => ?_)
  have := L F 136 0 (by omega)
  rw [am_fil0, am_upf_self] at this
  subst hF
  exact this
