def bX9_takeInode_2 (n : Nat) : Nat → Int32 → Int32 → am_I → Option (Int32 × am_I)
  | 0, _, _, _ => none
  | fu + 1, l1, l2, I => (fun k2 => if (nI 8) ≤ l2 then ((gX9_fail n (-7 : Int32) I).bind (fun q1 => some ((-1 : Int32), q1.2))) else ((gX10_mapResource n ((l1 + l2) - (l1 + l2) / (nI 8) * (nI 8)) I).bind (fun q2 => (gX9_meet n q2.1 (nI 2) q2.2).bind (fun q3 => if q3.1 = 0 then (some ((-1 : Int32), q3.2)) else ((gX10_mapBlock n ((l1 + l2) - (l1 + l2) / (nI 8) * (nI 8)) q3.2).bind (fun q4 => (gX9_read n q4.1 (nI 0) q4.2).bind (fun q5 => if ((q5.1 ^^^ (-1 : Int32)) &&& (nI 65535)) = 0 then (k2 l1 (l2 + nI 1) q5.2) else ((gJ6_numberOfTrailingZeros_0f7a4 n ((q5.1 ^^^ (-1 : Int32)) &&& (nI 65535)) q5.2).bind (fun q6 => (gX10_mapBlock n ((l1 + l2) - (l1 + l2) / (nI 8) * (nI 8)) q6.2).bind (fun q7 => (gX9_set n q7.1 (nI 0) (q5.1 ||| ((nI 1) <<< (q6.1 &&& 31))) q7.2).bind (fun q8 => some (((nI 16) * ((l1 + l2) - (l1 + l2) / (nI 8) * (nI 8))) + q6.1, q8)))))))))))) (bX9_takeInode_2 n fu)
theorem tX9_takeInode_2 {G : am_G} (hG : am_ok G) {d : Nat} : ∀ {fu : Nat} {l1 : Int32} {l2 : Int32} {I : am_I} {r : Int32 × am_I}, bX9_takeInode_2 G.2.2.2.1 fu l1 l2 I = some r → am_J G (d + 2) mX9_takeInode am_no (am_E (some r.1) r.2) 2 [some (.inr (0, 15)), some (.inl l1), some (.inl l2), none, none, none, none] [] I := by
  intro fu
  induction fu with
  | zero => intro l1 l2 I r h; cases h
  | succ fu ih =>
    intro l1 l2 I r h
    have hk2 : ∀ (l1 : Int32) (l2 : Int32) (I : am_I) (r : Int32 × am_I), bX9_takeInode_2 G.2.2.2.1 fu l1 l2 I = some r → am_J G (d + 2) mX9_takeInode am_no (am_E (some r.1) r.2) 2 [some (.inr (0, 15)), some (.inl l1), some (.inl l2), none, none, none, none] [] I := fun l1 l2 I r h => ih h
    unfold bX9_takeInode_2 at h
    generalize bX9_takeInode_2 G.2.2.2.1 fu = k2 at hk2 h
    dsimp only at h
    refine am_iload_n dX9_takeInode_2 rfl ?_
    refine am_bipush (v := nI 8) dX9_takeInode_3 (by decide) ?_
    refine am_icmp_ge (tgt := 91) dX9_takeInode_5 rfl (fun c => ?_) (fun c => ?_)
    · rw [if_pos c] at h
      refine am_aload_n dX9_takeInode_91 rfl ?_
      refine am_bipush (v := (-7 : Int32)) dX9_takeInode_92 (by decide) ?_
      obtain ⟨q1, hq1, h⟩ := am_bd h
      refine am_callVx (i := 0) (j := 15) (as := [.inl (-7 : Int32)]) (rest := []) dX9_takeInode_94 lkX9_fail ml_X9_225 imX9_fail seX9_fail rfl rfl (hG.m0 (by decide)) rfl (Nat.le_of_ble_eq_true rfl) rfl (sX9_fail hG hq1) ?_
      refine am_pop dX9_takeInode_97 ?_
      refine am_iconst (v := (-1 : Int32)) dX9_takeInode_98 (by decide) ?_
      cases h
      exact am_iret dX9_takeInode_99 rfl rfl ⟨rfl, rfl⟩
    · rw [if_neg c] at h
      refine am_iload_n dX9_takeInode_8 rfl ?_
      refine am_iload_n dX9_takeInode_9 rfl ?_
      refine am_iadd dX9_takeInode_10 ?_
      refine am_bipush (v := nI 8) dX9_takeInode_11 (by decide) ?_
      refine am_irem dX9_takeInode_13 (by decide) ?_
      refine am_istore_n dX9_takeInode_14 (by decide) ?_
      refine am_aload_n dX9_takeInode_15 rfl ?_
      refine am_iload_n dX9_takeInode_16 rfl ?_
      obtain ⟨q2, hq2, h⟩ := am_bd h
      refine am_callSNx (as := [.inl ((l1 + l2) - (l1 + l2) / (nI 8) * (nI 8))]) (rest := [.inr (0, 15)]) dX9_takeInode_17 lkX10_mapResource nl_X9_208 isX10_mapResource rfl (Nat.le_of_ble_eq_true rfl) rfl (sX10_mapResource hG hq2) ?_
      refine am_iconst (v := nI 2) dX9_takeInode_20 (by decide) ?_
      obtain ⟨q3, hq3, h⟩ := am_bd h
      refine am_callVx (i := 0) (j := 15) (as := [.inl q2.1, .inl (nI 2)]) (rest := []) dX9_takeInode_21 lkX9_meet ml_X9_211 imX9_meet seX9_meet rfl rfl (hG.m0 (by decide)) rfl (Nat.le_of_ble_eq_true rfl) rfl (sX9_meet hG hq3) ?_
      refine am_if_ne (tgt := 29) dX9_takeInode_24 rfl (fun c => ?_) (fun c => ?_)
      · rw [if_neg c] at h
        refine am_aload_n dX9_takeInode_29 rfl ?_
        refine am_iload_n dX9_takeInode_30 rfl ?_
        obtain ⟨q4, hq4, h⟩ := am_bd h
        refine am_callSNx (as := [.inl ((l1 + l2) - (l1 + l2) / (nI 8) * (nI 8))]) (rest := [.inr (0, 15)]) dX9_takeInode_31 lkX10_mapBlock nl_X9_214 isX10_mapBlock rfl (Nat.le_of_ble_eq_true rfl) rfl (sX10_mapBlock hG hq4) ?_
        refine am_iconst (v := nI 0) dX9_takeInode_34 (by decide) ?_
        obtain ⟨q5, hq5, h⟩ := am_bd h
        refine am_callVx (i := 0) (j := 15) (as := [.inl q4.1, .inl (nI 0)]) (rest := []) dX9_takeInode_35 lkX9_read ml_X9_197 imX9_read seX9_read rfl rfl (hG.m0 (by decide)) rfl (Nat.le_of_ble_eq_true rfl) rfl (sX9_read hG hq5) ?_
        refine am_istore dX9_takeInode_38 (by decide) ?_
        refine am_iload dX9_takeInode_40 rfl ?_
        refine am_iconst (v := (-1 : Int32)) dX9_takeInode_42 (by decide) ?_
        refine am_ixor dX9_takeInode_43 ?_
        refine am_ldc (v := (65535 : Int32)) dX9_takeInode_44 kc_X9_228 ?_
        refine am_top (show (65535 : Int32) = nI 65535 by decide) ?_
        refine am_iand dX9_takeInode_46 ?_
        refine am_istore dX9_takeInode_47 (by decide) ?_
        refine am_iload dX9_takeInode_49 rfl ?_
        refine am_if_eq (tgt := 85) dX9_takeInode_51 rfl (fun c => ?_) (fun c => ?_)
        · rw [if_pos c] at h
          refine am_iinc (v := l2 + nI 1) dX9_takeInode_85 rfl rfl ?_
          refine am_goto (tgt := 2) dX9_takeInode_88 rfl ?_
          exact am_lwJ (lo' := [some (.inr (0, 15)), some (.inl l1), some (.inl (l2 + nI 1)), none, none, none, none]) ⟨rfl, rfl, rfl, trivial⟩ (hk2 l1 (l2 + nI 1) _ _ h)
        · rw [if_neg c] at h
          refine am_iload dX9_takeInode_54 rfl ?_
          obtain ⟨q6, hq6, h⟩ := am_bd h
          refine am_callSx (as := [.inl ((q5.1 ^^^ (-1 : Int32)) &&& (nI 65535))]) (rest := []) dX9_takeInode_56 lkJ6_numberOfTrailingZeros_0f7a4 ml_X9_217 isJ6_numberOfTrailingZeros_0f7a4 rfl (Nat.le_of_ble_eq_true rfl) rfl (sJ6_numberOfTrailingZeros_0f7a4 hG hq6) ?_
          refine am_istore dX9_takeInode_59 (by decide) ?_
          refine am_aload_n dX9_takeInode_61 rfl ?_
          refine am_iload_n dX9_takeInode_62 rfl ?_
          obtain ⟨q7, hq7, h⟩ := am_bd h
          refine am_callSNx (as := [.inl ((l1 + l2) - (l1 + l2) / (nI 8) * (nI 8))]) (rest := [.inr (0, 15)]) dX9_takeInode_63 lkX10_mapBlock nl_X9_214 isX10_mapBlock rfl (Nat.le_of_ble_eq_true rfl) rfl (sX10_mapBlock hG hq7) ?_
          refine am_iconst (v := nI 0) dX9_takeInode_66 (by decide) ?_
          refine am_iload dX9_takeInode_67 rfl ?_
          refine am_iconst (v := nI 1) dX9_takeInode_69 (by decide) ?_
          refine am_iload dX9_takeInode_70 rfl ?_
          refine am_ishl dX9_takeInode_72 ?_
          refine am_ior dX9_takeInode_73 ?_
          obtain ⟨q8, hq8, h⟩ := am_bd h
          refine am_callVe (i := 0) (j := 15) (as := [.inl q7.1, .inl (nI 0), .inl (q5.1 ||| ((nI 1) <<< (q6.1 &&& 31)))]) (rest := []) dX9_takeInode_74 lkX9_set ml_X9_204 imX9_set seX9_set rfl rfl (hG.m0 (by decide)) rfl (Nat.le_of_ble_eq_true rfl) rfl (sX9_set hG hq8) ?_
          refine am_bipush (v := nI 16) dX9_takeInode_77 (by decide) ?_
          refine am_iload_n dX9_takeInode_79 rfl ?_
          refine am_imul dX9_takeInode_80 ?_
          refine am_iload dX9_takeInode_81 rfl ?_
          refine am_iadd dX9_takeInode_83 ?_
          cases h
          exact am_iret dX9_takeInode_84 rfl rfl ⟨rfl, rfl⟩
      · rw [if_pos c] at h
        refine am_iconst (v := (-1 : Int32)) dX9_takeInode_27 (by decide) ?_
        cases h
        exact am_iret dX9_takeInode_28 rfl rfl ⟨rfl, rfl⟩
def bX9_takeInode_0 (n : Nat) (l1 : Int32) (I : am_I) : Option (Int32 × am_I) := bX9_takeInode_2 n am_fu l1 (nI 0) I
theorem tX9_takeInode_0 {G : am_G} (hG : am_ok G) {d : Nat} {l1 : Int32} {I : am_I} {r : Int32 × am_I} (h : bX9_takeInode_0 G.2.2.2.1 l1  I = some r) : am_J G (d + 2) mX9_takeInode am_no (am_E (some r.1) r.2) 0 [some (.inr (0, 15)), some (.inl l1), none, none, none, none, none] [] I := by
  unfold bX9_takeInode_0 at h
  refine am_iconst (v := nI 0) dX9_takeInode_0 (by decide) ?_
  refine am_istore_n dX9_takeInode_1 (by decide) ?_
  exact am_lwJ (lo' := [some (.inr (0, 15)), some (.inl l1), some (.inl (nI 0)), none, none, none, none]) ⟨rfl, rfl, rfl, trivial⟩ (tX9_takeInode_2 hG h)
def gX9_takeInode (n : Nat) (l1 : Int32) (I : am_I) : Option (Int32 × am_I) := bX9_takeInode_0 n l1 I
theorem sX9_takeInode {G : am_G} (hG : am_ok G) {d : Nat} {l1 : Int32} {I : am_I} {r : Int32 × am_I} (h : gX9_takeInode G.2.2.2.1 l1 I = some r) : am_C G (d + 2) mX9_takeInode [.inr (0, 15), .inl l1] I (am_E (some r.1) r.2) :=
  am_of (by decide +kernel) hG.nd (Nat.le_of_ble_eq_true rfl) (am_lwJ (lo' := [some (.inr (0, 15)), some (.inl l1), none, none, none, none, none]) ⟨rfl, rfl, trivial⟩ (tX9_takeInode_0 hG h))
def bX1_admit_26 (n : Nat) (I : am_I) : Option (am_I) := some I
theorem tX1_admit_26 {G : am_G} (hG : am_ok G) {d : Nat} {I : am_I} {r : am_I} (h : bX1_admit_26 G.2.2.2.1  I = some r) : am_J G d mX1_admit am_no (am_E none r) 26 [none, none] [] I := by
  unfold bX1_admit_26 at h
  cases h
  exact am_vret dX1_admit_26 rfl ⟨rfl, rfl⟩
def bX1_admit_0 (n : Nat) (l0 : Nat) (l1 : Int32) (I : am_I) : Option (am_I) := am_gd (am_inb l1 640) (if (I l0 43 l1.toNatClampNeg) = 0 then (am_gd (am_inb l1 640) (am_lt (am_up I l0 43 l1.toNatClampNeg (nI 1)) (fun I3 => am_lt (am_up I3 l0 41 2 ((I3 l0 41 2) + (nI 1))) (fun I4 => bX1_admit_26 n I4)))) else (bX1_admit_26 n I))
theorem tX1_admit_0 {G : am_G} (hG : am_ok G) {d : Nat} {l0 : Nat} {l1 : Int32} (hl0 : l0 < G.2.2.2.1) {I : am_I} {r : am_I} (h : bX1_admit_0 G.2.2.2.1 l0 l1  I = some r) : am_J G d mX1_admit am_no (am_E none r) 0 [some (.inr (l0, 41)), some (.inl l1)] [] I := by
  unfold bX1_admit_0 at h
  refine am_aload_n dX1_admit_0 rfl ?_
  refine am_get (v := .inr (l0, 43)) dX1_admit_1 fl_1_15 (hG.mn hl0 (by decide) (by decide)) rfl ?_
  refine am_iload_n dX1_admit_4 rfl ?_
  obtain ⟨g1, h⟩ := am_gd_some h
  refine am_zaldG dX1_admit_5 (hG.mn hl0 (by decide) (by decide)) rfl g1 (show 640 < 2 ^ 31 by decide) ?_
  refine am_if_ne (tgt := 26) dX1_admit_6 rfl (fun c => ?_) (fun c => ?_)
  · rw [if_neg c] at h
    exact am_lwJ (lo' := [none, none]) trivial (tX1_admit_26 hG h)
  · rw [if_pos c] at h
    refine am_aload_n dX1_admit_9 rfl ?_
    refine am_get (v := .inr (l0, 43)) dX1_admit_10 fl_1_15 (hG.mn hl0 (by decide) (by decide)) rfl ?_
    refine am_iload_n dX1_admit_13 rfl ?_
    refine am_iconst (v := nI 1) dX1_admit_14 (by decide) ?_
    obtain ⟨g2, h⟩ := am_gd_some h
    refine am_zastG dX1_admit_15 (hG.mn hl0 (by decide) (by decide)) rfl (by decide) g2 (show 640 < 2 ^ 31 by decide) ?_
    obtain ⟨I3, hI3, h⟩ := am_lt_some h
    refine am_st10 hI3 ?_
    refine am_aload_n dX1_admit_16 rfl ?_
    refine am_dup dX1_admit_17 ?_
    refine am_get (v := .inl (I3 l0 41 2)) dX1_admit_18 fl_1_19 (hG.mn hl0 (by decide) (by decide)) rfl ?_
    refine am_iconst (v := nI 1) dX1_admit_21 (by decide) ?_
    refine am_iadd dX1_admit_22 ?_
    refine am_put (x := (I3 l0 41 2) + (nI 1)) dX1_admit_23 fp_1_19 (hG.mn hl0 (by decide) (by decide)) (Nat.le_of_ble_eq_true rfl) rfl ?_
    obtain ⟨I4, hI4, h⟩ := am_lt_some h
    refine am_st10 hI4 ?_
    exact am_lwJ (lo' := [none, none]) trivial (tX1_admit_26 hG h)
def gX1_admit (n : Nat) (l0 : Nat) (l1 : Int32) (I : am_I) : Option (am_I) := bX1_admit_0 n l0 l1 I
theorem sX1_admit {G : am_G} (hG : am_ok G) {d : Nat} {l0 : Nat} {l1 : Int32} (hl0 : l0 < G.2.2.2.1) {I : am_I} {r : am_I} (h : gX1_admit G.2.2.2.1 l0 l1 I = some r) : am_C G d mX1_admit [.inr (l0, 41), .inl l1] I (am_E none r) :=
  am_of (by decide +kernel) hG.nd (Nat.le_of_ble_eq_true rfl) (am_lwJ (lo' := [some (.inr (l0, 41)), some (.inl l1)]) ⟨rfl, rfl, trivial⟩ (tX1_admit_0 hG hl0 h))
def bX9_clear_7 (n : Nat) : Nat → Int32 → Int32 → am_I → Option (am_I)
  | 0, _, _, _ => none
  | fu + 1, l1, l2, I => (fun k7 => if (nI 16) ≤ l2 then (am_gd (decide ((I 0 15 8).toNatClampNeg < n)) ((gX1_admit n ((I 0 15 8).toNatClampNeg) l1 I).bind (fun q2 => some q2))) else (am_gd (decide ((I 0 15 8).toNatClampNeg < n)) (am_gd (am_inb ((l1 * (nI 16)) + l2) 10240) (am_lt (am_up I ((I 0 15 8).toNatClampNeg) 42 ((l1 * (nI 16)) + l2).toNatClampNeg (nI 0)) (fun I5 => k7 l1 (l2 + nI 1) I5))))) (bX9_clear_7 n fu)
theorem tX9_clear_7 {G : am_G} (hG : am_ok G) {d : Nat} : ∀ {fu : Nat} {l1 : Int32} {l2 : Int32} {I : am_I} {r : am_I}, bX9_clear_7 G.2.2.2.1 fu l1 l2 I = some r → am_J G (d + 1) mX9_clear am_no (am_E none r) 7 [some (.inr (0, 15)), some (.inl l1), some (.inl l2)] [] I := by
  intro fu
  induction fu with
  | zero => intro l1 l2 I r h; cases h
  | succ fu ih =>
    intro l1 l2 I r h
    have hk7 : ∀ (l1 : Int32) (l2 : Int32) (I : am_I) (r : am_I), bX9_clear_7 G.2.2.2.1 fu l1 l2 I = some r → am_J G (d + 1) mX9_clear am_no (am_E none r) 7 [some (.inr (0, 15)), some (.inl l1), some (.inl l2)] [] I := fun l1 l2 I r h => ih h
    unfold bX9_clear_7 at h
    generalize bX9_clear_7 G.2.2.2.1 fu = k7 at hk7 h
    dsimp only at h
    refine am_iload_n dX9_clear_7 rfl ?_
    refine am_bipush (v := nI 16) dX9_clear_8 (by decide) ?_
    refine am_icmp_ge (tgt := 37) dX9_clear_10 rfl (fun c => ?_) (fun c => ?_)
    · rw [if_pos c] at h
      refine am_aload_n dX9_clear_37 rfl ?_
      obtain ⟨g1, h⟩ := am_gd_some h
      have g1 := of_decide_eq_true g1
      refine am_get (v := .inr ((I 0 15 8).toNatClampNeg, 40)) dX9_clear_38 fl_9_31 (hG.m0 (by decide)) rfl ?_
      refine am_get (v := .inr ((I 0 15 8).toNatClampNeg, 41)) dX9_clear_41 fl_9_107 (hG.mn g1 (by decide) (by decide)) rfl ?_
      refine am_iload_n dX9_clear_44 rfl ?_
      obtain ⟨q2, hq2, h⟩ := am_bd h
      refine am_callVe (i := (I 0 15 8).toNatClampNeg) (j := 41) (as := [.inl l1]) (rest := []) dX9_clear_45 lkX1_admit ml_X9_190 imX1_admit seX1_admit rfl rfl (hG.mn g1 (by decide) (by decide)) rfl (Nat.le_of_ble_eq_true rfl) rfl (sX1_admit hG g1 hq2) ?_
      cases h
      exact am_vret dX9_clear_48 rfl ⟨rfl, rfl⟩
    · rw [if_neg c] at h
      refine am_aload_n dX9_clear_13 rfl ?_
      obtain ⟨g3, h⟩ := am_gd_some h
      have g3 := of_decide_eq_true g3
      refine am_get (v := .inr ((I 0 15 8).toNatClampNeg, 40)) dX9_clear_14 fl_9_31 (hG.m0 (by decide)) rfl ?_
      refine am_get (v := .inr ((I 0 15 8).toNatClampNeg, 41)) dX9_clear_17 fl_9_107 (hG.mn g3 (by decide) (by decide)) rfl ?_
      refine am_get (v := .inr ((I 0 15 8).toNatClampNeg, 42)) dX9_clear_20 fl_9_114 (hG.mn g3 (by decide) (by decide)) rfl ?_
      refine am_iload_n dX9_clear_23 rfl ?_
      refine am_bipush (v := nI 16) dX9_clear_24 (by decide) ?_
      refine am_imul dX9_clear_26 ?_
      refine am_iload_n dX9_clear_27 rfl ?_
      refine am_iadd dX9_clear_28 ?_
      refine am_iconst (v := nI 0) dX9_clear_29 (by decide) ?_
      obtain ⟨g4, h⟩ := am_gd_some h
      refine am_iastG dX9_clear_30 (hG.mn g3 (by decide) (by decide)) rfl g4 (show 10240 < 2 ^ 31 by decide) ?_
      obtain ⟨I5, hI5, h⟩ := am_lt_some h
      refine am_st10 hI5 ?_
      refine am_iinc (v := l2 + nI 1) dX9_clear_31 rfl rfl ?_
      refine am_goto (tgt := 7) dX9_clear_34 rfl ?_
      exact am_lwJ (lo' := [some (.inr (0, 15)), some (.inl l1), some (.inl (l2 + nI 1))]) ⟨rfl, rfl, rfl, trivial⟩ (hk7 l1 (l2 + nI 1) _ _ h)
def bX9_clear_0 (n : Nat) (l1 : Int32) (I : am_I) : Option (am_I) := (gX9_keep n l1 I).bind (fun q1 => bX9_clear_7 n am_fu l1 (nI 0) q1)
theorem tX9_clear_0 {G : am_G} (hG : am_ok G) {d : Nat} {l1 : Int32} {I : am_I} {r : am_I} (h : bX9_clear_0 G.2.2.2.1 l1  I = some r) : am_J G (d + 1) mX9_clear am_no (am_E none r) 0 [some (.inr (0, 15)), some (.inl l1), none] [] I := by
  unfold bX9_clear_0 at h
  refine am_aload_n dX9_clear_0 rfl ?_
  refine am_iload_n dX9_clear_1 rfl ?_
  obtain ⟨q1, hq1, h⟩ := am_bd h
  refine am_callVe (i := 0) (j := 15) (as := [.inl l1]) (rest := []) dX9_clear_2 lkX9_keep ml_X9_187 imX9_keep seX9_keep rfl rfl (hG.m0 (by decide)) rfl (Nat.le_of_ble_eq_true rfl) rfl (sX9_keep hG hq1) ?_
  refine am_iconst (v := nI 0) dX9_clear_5 (by decide) ?_
  refine am_istore_n dX9_clear_6 (by decide) ?_
  exact am_lwJ (lo' := [some (.inr (0, 15)), some (.inl l1), some (.inl (nI 0))]) ⟨rfl, rfl, rfl, trivial⟩ (tX9_clear_7 hG h)
def gX9_clear (n : Nat) (l1 : Int32) (I : am_I) : Option (am_I) := bX9_clear_0 n l1 I
theorem sX9_clear {G : am_G} (hG : am_ok G) {d : Nat} {l1 : Int32} {I : am_I} {r : am_I} (h : gX9_clear G.2.2.2.1 l1 I = some r) : am_C G (d + 1) mX9_clear [.inr (0, 15), .inl l1] I (am_E none r) :=
  am_of (by decide +kernel) hG.nd (Nat.le_of_ble_eq_true rfl) (am_lwJ (lo' := [some (.inr (0, 15)), some (.inl l1), none]) ⟨rfl, rfl, trivial⟩ (tX9_clear_0 hG h))
def bX9_putNext_0 (n : Nat) (l1 : Int32) (l2 : Int32) (l3 : Int32) (l4 : Int32) (I : am_I) : Option (am_I) := am_lt (am_up I 0 15 13 l1) (fun I1 => am_lt (am_up I1 0 15 14 l2) (fun I2 => am_lt (am_up I2 0 15 15 l3) (fun I3 => am_lt (am_up I3 0 15 10 l4) (fun I4 => some I4))))
theorem tX9_putNext_0 {G : am_G} (hG : am_ok G) {d : Nat} {l1 : Int32} {l2 : Int32} {l3 : Int32} {l4 : Int32} {I : am_I} {r : am_I} (h : bX9_putNext_0 G.2.2.2.1 l1 l2 l3 l4  I = some r) : am_J G d mX9_putNext am_no (am_E none r) 0 [some (.inr (0, 15)), some (.inl l1), some (.inl l2), some (.inl l3), some (.inl l4)] [] I := by
  unfold bX9_putNext_0 at h
  refine am_aload_n dX9_putNext_0 rfl ?_
  refine am_iload_n dX9_putNext_1 rfl ?_
  refine am_put (x := l1) dX9_putNext_2 fp_9_48 (hG.m0 (by decide)) (Nat.le_of_ble_eq_true rfl) rfl ?_
  obtain ⟨I1, hI1, h⟩ := am_lt_some h
  refine am_st10 hI1 ?_
  refine am_aload_n dX9_putNext_5 rfl ?_
  refine am_iload_n dX9_putNext_6 rfl ?_
  refine am_put (x := l2) dX9_putNext_7 fp_9_259 (hG.m0 (by decide)) (Nat.le_of_ble_eq_true rfl) rfl ?_
  obtain ⟨I2, hI2, h⟩ := am_lt_some h
  refine am_st10 hI2 ?_
  refine am_aload_n dX9_putNext_10 rfl ?_
  refine am_iload_n dX9_putNext_11 rfl ?_
  refine am_put (x := l3) dX9_putNext_12 fp_9_262 (hG.m0 (by decide)) (Nat.le_of_ble_eq_true rfl) rfl ?_
  obtain ⟨I3, hI3, h⟩ := am_lt_some h
  refine am_st10 hI3 ?_
  refine am_aload_n dX9_putNext_15 rfl ?_
  refine am_iload dX9_putNext_16 rfl ?_
  refine am_put (x := l4) dX9_putNext_18 fp_9_45 (hG.m0 (by decide)) (Nat.le_of_ble_eq_true rfl) rfl ?_
  obtain ⟨I4, hI4, h⟩ := am_lt_some h
  refine am_st10 hI4 ?_
  cases h
  exact am_vret dX9_putNext_21 rfl ⟨rfl, rfl⟩
def gX9_putNext (n : Nat) (l1 : Int32) (l2 : Int32) (l3 : Int32) (l4 : Int32) (I : am_I) : Option (am_I) := bX9_putNext_0 n l1 l2 l3 l4 I
theorem sX9_putNext {G : am_G} (hG : am_ok G) {d : Nat} {l1 : Int32} {l2 : Int32} {l3 : Int32} {l4 : Int32} {I : am_I} {r : am_I} (h : gX9_putNext G.2.2.2.1 l1 l2 l3 l4 I = some r) : am_C G d mX9_putNext [.inr (0, 15), .inl l1, .inl l2, .inl l3, .inl l4] I (am_E none r) :=
  am_of (by decide +kernel) hG.nd (Nat.le_of_ble_eq_true rfl) (am_lwJ (lo' := [some (.inr (0, 15)), some (.inl l1), some (.inl l2), some (.inl l3), some (.inl l4)]) ⟨rfl, rfl, rfl, rfl, rfl, trivial⟩ (tX9_putNext_0 hG h))
def bX9_make_65 (n : Nat) (I : am_I) : Option (am_I) := some I
theorem tX9_make_65 {G : am_G} (hG : am_ok G) {d : Nat} {I : am_I} {r : am_I} (h : bX9_make_65 G.2.2.2.1  I = some r) : am_J G (d + 4) mX9_make am_no (am_E none r) 65 [none, none, none] [] I := by
  unfold bX9_make_65 at h
  cases h
  exact am_vret dX9_make_65 rfl ⟨rfl, rfl⟩
def bX9_make_0 (n : Nat) (l1 : Nat) (I : am_I) : Option (am_I) := (gX9_meetDirectory n (I l1 55 1) (nI 2) I).bind (fun q1 => if q1.1 = 0 then (some q1.2) else ((gX9_find n (q1.2 l1 55 1) (q1.2 l1 55 2) q1.2).bind (fun q2 => if q2.1 = (-1 : Int32) then ((gX9_takeInode n ((q2.2 l1 55 1) / (nI 16)) q2.2).bind (fun q3 => (gX10_isInode n q3.1 q3.2).bind (fun q4 => if q4.1 = 0 then (bX9_make_65 n q4.2) else ((gX9_meet n q3.1 (nI 2) q4.2).bind (fun q5 => if q5.1 = 0 then (bX9_make_65 n q5.2) else ((gX10_inodeBlock n q3.1 q5.2).bind (fun q6 => (gX9_clear n q6.1 q6.2).bind (fun q7 => (gX10_inodeBlock n q3.1 q7).bind (fun q8 => (gX9_set n q8.1 (nI 0) (q8.2 l1 55 3) q8.2).bind (fun q9 => (gX10_inodeBlock n q3.1 q9).bind (fun q10 => (gX9_set n q10.1 (nI 1) (nI 1) q10.2).bind (fun q11 => (gX9_putNext n (q11 l1 55 1) (q11 l1 55 2) q3.1 q3.1 q11).bind (fun q12 => some q12))))))))))))) else ((gX9_fail n (-6 : Int32) q2.2).bind (fun q13 => some q13.2)))))
theorem tX9_make_0 {G : am_G} (hG : am_ok G) {d : Nat} {l1 : Nat} (hl1 : l1 < G.2.2.2.1) {I : am_I} {r : am_I} (h : bX9_make_0 G.2.2.2.1 l1  I = some r) : am_J G (d + 4) mX9_make am_no (am_E none r) 0 [some (.inr (0, 15)), some (.inr (l1, 55)), none] [] I := by
  unfold bX9_make_0 at h
  refine am_aload_n dX9_make_0 rfl ?_
  refine am_aload_n dX9_make_1 rfl ?_
  refine am_get (v := .inl (I l1 55 1)) dX9_make_2 fl_9_271 (hG.mn hl1 (by decide) (by decide)) rfl ?_
  refine am_iconst (v := nI 2) dX9_make_5 (by decide) ?_
  obtain ⟨q1, hq1, h⟩ := am_bd h
  refine am_callVx (i := 0) (j := 15) (as := [.inl (I l1 55 1), .inl (nI 2)]) (rest := []) dX9_make_6 lkX9_meetDirectory ml_X9_274 imX9_meetDirectory seX9_meetDirectory rfl rfl (hG.m0 (by decide)) rfl (Nat.le_of_ble_eq_true rfl) rfl (sX9_meetDirectory hG hq1) ?_
  refine am_if_ne (tgt := 13) dX9_make_9 rfl (fun c => ?_) (fun c => ?_)
  · rw [if_neg c] at h
    refine am_aload_n dX9_make_13 rfl ?_
    refine am_aload_n dX9_make_14 rfl ?_
    refine am_get (v := .inl (q1.2 l1 55 1)) dX9_make_15 fl_9_271 (hG.mn hl1 (by decide) (by decide)) rfl ?_
    refine am_aload_n dX9_make_18 rfl ?_
    refine am_get (v := .inl (q1.2 l1 55 2)) dX9_make_19 fl_9_277 (hG.mn hl1 (by decide) (by decide)) rfl ?_
    obtain ⟨q2, hq2, h⟩ := am_bd h
    refine am_callVx (i := 0) (j := 15) (as := [.inl (q1.2 l1 55 1), .inl (q1.2 l1 55 2)]) (rest := []) dX9_make_22 lkX9_find ml_X9_265 imX9_find seX9_find rfl rfl (hG.m0 (by decide)) rfl (Nat.le_of_ble_eq_true rfl) rfl (sX9_find hG hq2) ?_
    refine am_iconst (v := (-1 : Int32)) dX9_make_25 (by decide) ?_
    refine am_icmp_eq (tgt := 37) dX9_make_26 rfl (fun c => ?_) (fun c => ?_)
    · rw [if_pos c] at h
      refine am_aload_n dX9_make_37 rfl ?_
      refine am_aload_n dX9_make_38 rfl ?_
      refine am_get (v := .inl (q2.2 l1 55 1)) dX9_make_39 fl_9_271 (hG.mn hl1 (by decide) (by decide)) rfl ?_
      refine am_bipush (v := nI 16) dX9_make_42 (by decide) ?_
      refine am_idiv dX9_make_44 (by decide) ?_
      obtain ⟨q3, hq3, h⟩ := am_bd h
      refine am_callVx (i := 0) (j := 15) (as := [.inl ((q2.2 l1 55 1) / (nI 16))]) (rest := []) dX9_make_45 lkX9_takeInode ml_X9_286 imX9_takeInode seX9_takeInode rfl rfl (hG.m0 (by decide)) rfl (Nat.le_of_ble_eq_true rfl) rfl (sX9_takeInode hG hq3) ?_
      refine am_istore_n dX9_make_48 (by decide) ?_
      refine am_iload_n dX9_make_49 rfl ?_
      obtain ⟨q4, hq4, h⟩ := am_bd h
      refine am_callSNx (as := [.inl q3.1]) (rest := []) dX9_make_50 lkX10_isInode nl_X9_96 isX10_isInode rfl (Nat.le_of_ble_eq_true rfl) rfl (sX10_isInode hG hq4) ?_
      refine am_if_eq (tgt := 65) dX9_make_53 rfl (fun c => ?_) (fun c => ?_)
      · rw [if_pos c] at h
        exact am_lwJ (lo' := [none, none, none]) trivial (tX9_make_65 hG h)
      · rw [if_neg c] at h
        refine am_aload_n dX9_make_56 rfl ?_
        refine am_iload_n dX9_make_57 rfl ?_
        refine am_iconst (v := nI 2) dX9_make_58 (by decide) ?_
        obtain ⟨q5, hq5, h⟩ := am_bd h
        refine am_callVx (i := 0) (j := 15) (as := [.inl q3.1, .inl (nI 2)]) (rest := []) dX9_make_59 lkX9_meet ml_X9_211 imX9_meet seX9_meet rfl rfl (hG.m0 (by decide)) rfl (Nat.le_of_ble_eq_true rfl) rfl (sX9_meet hG hq5) ?_
        refine am_if_ne (tgt := 66) dX9_make_62 rfl (fun c => ?_) (fun c => ?_)
        · rw [if_neg c] at h
          refine am_aload_n dX9_make_66 rfl ?_
          refine am_iload_n dX9_make_67 rfl ?_
          obtain ⟨q6, hq6, h⟩ := am_bd h
          refine am_callSNx (as := [.inl q3.1]) (rest := [.inr (0, 15)]) dX9_make_68 lkX10_inodeBlock nl_X9_193 isX10_inodeBlock rfl (Nat.le_of_ble_eq_true rfl) rfl (sX10_inodeBlock hG hq6) ?_
          obtain ⟨q7, hq7, h⟩ := am_bd h
          refine am_callVe (i := 0) (j := 15) (as := [.inl q6.1]) (rest := []) dX9_make_71 lkX9_clear ml_X9_222 imX9_clear seX9_clear rfl rfl (hG.m0 (by decide)) rfl (Nat.le_of_ble_eq_true rfl) rfl (sX9_clear hG hq7) ?_
          refine am_aload_n dX9_make_74 rfl ?_
          refine am_iload_n dX9_make_75 rfl ?_
          obtain ⟨q8, hq8, h⟩ := am_bd h
          refine am_callSNx (as := [.inl q3.1]) (rest := [.inr (0, 15)]) dX9_make_76 lkX10_inodeBlock nl_X9_193 isX10_inodeBlock rfl (Nat.le_of_ble_eq_true rfl) rfl (sX10_inodeBlock hG hq8) ?_
          refine am_iconst (v := nI 0) dX9_make_79 (by decide) ?_
          refine am_aload_n dX9_make_80 rfl ?_
          refine am_get (v := .inl (q8.2 l1 55 3)) dX9_make_81 fl_9_289 (hG.mn hl1 (by decide) (by decide)) rfl ?_
          obtain ⟨q9, hq9, h⟩ := am_bd h
          refine am_callVe (i := 0) (j := 15) (as := [.inl q8.1, .inl (nI 0), .inl (q8.2 l1 55 3)]) (rest := []) dX9_make_84 lkX9_set ml_X9_204 imX9_set seX9_set rfl rfl (hG.m0 (by decide)) rfl (Nat.le_of_ble_eq_true rfl) rfl (sX9_set hG hq9) ?_
          refine am_aload_n dX9_make_87 rfl ?_
          refine am_iload_n dX9_make_88 rfl ?_
          obtain ⟨q10, hq10, h⟩ := am_bd h
          refine am_callSNx (as := [.inl q3.1]) (rest := [.inr (0, 15)]) dX9_make_89 lkX10_inodeBlock nl_X9_193 isX10_inodeBlock rfl (Nat.le_of_ble_eq_true rfl) rfl (sX10_inodeBlock hG hq10) ?_
          refine am_iconst (v := nI 1) dX9_make_92 (by decide) ?_
          refine am_iconst (v := nI 1) dX9_make_93 (by decide) ?_
          obtain ⟨q11, hq11, h⟩ := am_bd h
          refine am_callVe (i := 0) (j := 15) (as := [.inl q10.1, .inl (nI 1), .inl (nI 1)]) (rest := []) dX9_make_94 lkX9_set ml_X9_204 imX9_set seX9_set rfl rfl (hG.m0 (by decide)) rfl (Nat.le_of_ble_eq_true rfl) rfl (sX9_set hG hq11) ?_
          refine am_aload_n dX9_make_97 rfl ?_
          refine am_aload_n dX9_make_98 rfl ?_
          refine am_get (v := .inl (q11 l1 55 1)) dX9_make_99 fl_9_271 (hG.mn hl1 (by decide) (by decide)) rfl ?_
          refine am_aload_n dX9_make_102 rfl ?_
          refine am_get (v := .inl (q11 l1 55 2)) dX9_make_103 fl_9_277 (hG.mn hl1 (by decide) (by decide)) rfl ?_
          refine am_iload_n dX9_make_106 rfl ?_
          refine am_iload_n dX9_make_107 rfl ?_
          obtain ⟨q12, hq12, h⟩ := am_bd h
          refine am_callVe (i := 0) (j := 15) (as := [.inl (q11 l1 55 1), .inl (q11 l1 55 2), .inl q3.1, .inl q3.1]) (rest := []) dX9_make_108 lkX9_putNext ml_X9_292 imX9_putNext seX9_putNext rfl rfl (hG.m0 (by decide)) rfl (Nat.le_of_ble_eq_true rfl) rfl (sX9_putNext hG hq12) ?_
          cases h
          exact am_vret dX9_make_111 rfl ⟨rfl, rfl⟩
        · rw [if_pos c] at h
          exact am_lwJ (lo' := [none, none, none]) trivial (tX9_make_65 hG h)
    · rw [if_neg c] at h
      refine am_aload_n dX9_make_29 rfl ?_
      refine am_bipush (v := (-6 : Int32)) dX9_make_30 (by decide) ?_
      obtain ⟨q13, hq13, h⟩ := am_bd h
      refine am_callVx (i := 0) (j := 15) (as := [.inl (-6 : Int32)]) (rest := []) dX9_make_32 lkX9_fail ml_X9_225 imX9_fail seX9_fail rfl rfl (hG.m0 (by decide)) rfl (Nat.le_of_ble_eq_true rfl) rfl (sX9_fail hG hq13) ?_
      refine am_pop dX9_make_35 ?_
      cases h
      exact am_vret dX9_make_36 rfl ⟨rfl, rfl⟩
  · rw [if_pos c] at h
    cases h
    exact am_vret dX9_make_12 rfl ⟨rfl, rfl⟩
def gX9_make (n : Nat) (l1 : Nat) (I : am_I) : Option (am_I) := bX9_make_0 n l1 I
theorem sX9_make {G : am_G} (hG : am_ok G) {d : Nat} {l1 : Nat} (hl1 : l1 < G.2.2.2.1) {I : am_I} {r : am_I} (h : gX9_make G.2.2.2.1 l1 I = some r) : am_C G (d + 4) mX9_make [.inr (0, 15), .inr (l1, 55)] I (am_E none r) :=
  am_of (by decide +kernel) hG.nd (Nat.le_of_ble_eq_true rfl) (am_lwJ (lo' := [some (.inr (0, 15)), some (.inr (l1, 55)), none]) ⟨rfl, rfl, trivial⟩ (tX9_make_0 hG hl1 h))
def bX9_nameOf_100 (n : Nat) (k14 : Int32 → Int32 → Int32 → Int32 → am_I → Option (Int32 × am_I)) (k52 : Int32 → Int32 → Int32 → Int32 → Int32 → Int32 → Int32 → am_I → Option (Int32 × am_I)) (l1 : Int32) (l2 : Int32) (l3 : Int32) (l4 : Int32) (l5 : Int32) (l6 : Int32) (l7 : Int32) (s0 : Int32) (s1 : Int32) (I : am_I) : Option (Int32 × am_I) := am_lt (am_up I 0 15 10 (s1 + s0)) (fun I1 => k52 l1 l2 l3 l4 l5 l6 (l7 + nI 2) I1)
theorem tX9_nameOf_100 {G : am_G} (hG : am_ok G) {d : Nat} {k14 : Int32 → Int32 → Int32 → Int32 → am_I → Option (Int32 × am_I)} {k52 : Int32 → Int32 → Int32 → Int32 → Int32 → Int32 → Int32 → am_I → Option (Int32 × am_I)} (hk14 : ∀ (l1 : Int32) (l2 : Int32) (l3 : Int32) (l4 : Int32) (I : am_I) (r : Int32 × am_I), k14 l1 l2 l3 l4 I = some r → am_J G (d + 3) mX9_nameOf am_no (am_E (some r.1) r.2) 14 [some (.inr (0, 15)), some (.inl l1), some (.inl l2), some (.inl l3), some (.inl l4), none, none, none, none] [] I) (hk52 : ∀ (l1 : Int32) (l2 : Int32) (l3 : Int32) (l4 : Int32) (l5 : Int32) (l6 : Int32) (l7 : Int32) (I : am_I) (r : Int32 × am_I), k52 l1 l2 l3 l4 l5 l6 l7 I = some r → am_J G (d + 3) mX9_nameOf am_no (am_E (some r.1) r.2) 52 [some (.inr (0, 15)), some (.inl l1), some (.inl l2), some (.inl l3), some (.inl l4), some (.inl l5), some (.inl l6), some (.inl l7), none] [] I) {l1 : Int32} {l2 : Int32} {l3 : Int32} {l4 : Int32} {l5 : Int32} {l6 : Int32} {l7 : Int32} {s0 : Int32} {s1 : Int32} {I : am_I} {r : Int32 × am_I} (h : bX9_nameOf_100 G.2.2.2.1 k14 k52 l1 l2 l3 l4 l5 l6 l7 s0 s1  I = some r) : am_J G (d + 3) mX9_nameOf am_no (am_E (some r.1) r.2) 100 [some (.inr (0, 15)), some (.inl l1), some (.inl l2), some (.inl l3), some (.inl l4), some (.inl l5), some (.inl l6), some (.inl l7), none] [.inl s0, .inl s1, .inr (0, 15)] I := by
  unfold bX9_nameOf_100 at h
  refine am_iadd dX9_nameOf_100 ?_
  refine am_put (x := s1 + s0) dX9_nameOf_101 fp_9_45 (hG.m0 (by decide)) (Nat.le_of_ble_eq_true rfl) rfl ?_
  obtain ⟨I1, hI1, h⟩ := am_lt_some h
  refine am_st10 hI1 ?_
  refine am_iinc (v := l7 + nI 2) dX9_nameOf_104 rfl rfl ?_
  refine am_goto (tgt := 52) dX9_nameOf_107 rfl ?_
  exact am_lwJ (lo' := [some (.inr (0, 15)), some (.inl l1), some (.inl l2), some (.inl l3), some (.inl l4), some (.inl l5), some (.inl l6), some (.inl (l7 + nI 2)), none]) ⟨rfl, rfl, rfl, rfl, rfl, rfl, rfl, rfl, trivial⟩ (hk52 l1 l2 l3 l4 l5 l6 (l7 + nI 2) _ _ h)
def bX9_nameOf_85 (n : Nat) (k14 : Int32 → Int32 → Int32 → Int32 → am_I → Option (Int32 × am_I)) (k52 : Int32 → Int32 → Int32 → Int32 → Int32 → Int32 → Int32 → am_I → Option (Int32 × am_I)) (l1 : Int32) (l2 : Int32) (l3 : Int32) (l4 : Int32) (l5 : Int32) (l6 : Int32) (l7 : Int32) (l8 : Int32) (I : am_I) : Option (Int32 × am_I) := if l8 = 0 then (bX9_nameOf_100 n k14 k52 l1 l2 l3 l4 l5 l6 l7 (nI 0) (I 0 15 10) I) else (bX9_nameOf_100 n k14 k52 l1 l2 l3 l4 l5 l6 l7 (nI 1) (I 0 15 10) I)
theorem tX9_nameOf_85 {G : am_G} (hG : am_ok G) {d : Nat} {k14 : Int32 → Int32 → Int32 → Int32 → am_I → Option (Int32 × am_I)} {k52 : Int32 → Int32 → Int32 → Int32 → Int32 → Int32 → Int32 → am_I → Option (Int32 × am_I)} (hk14 : ∀ (l1 : Int32) (l2 : Int32) (l3 : Int32) (l4 : Int32) (I : am_I) (r : Int32 × am_I), k14 l1 l2 l3 l4 I = some r → am_J G (d + 3) mX9_nameOf am_no (am_E (some r.1) r.2) 14 [some (.inr (0, 15)), some (.inl l1), some (.inl l2), some (.inl l3), some (.inl l4), none, none, none, none] [] I) (hk52 : ∀ (l1 : Int32) (l2 : Int32) (l3 : Int32) (l4 : Int32) (l5 : Int32) (l6 : Int32) (l7 : Int32) (I : am_I) (r : Int32 × am_I), k52 l1 l2 l3 l4 l5 l6 l7 I = some r → am_J G (d + 3) mX9_nameOf am_no (am_E (some r.1) r.2) 52 [some (.inr (0, 15)), some (.inl l1), some (.inl l2), some (.inl l3), some (.inl l4), some (.inl l5), some (.inl l6), some (.inl l7), none] [] I) {l1 : Int32} {l2 : Int32} {l3 : Int32} {l4 : Int32} {l5 : Int32} {l6 : Int32} {l7 : Int32} {l8 : Int32} {I : am_I} {r : Int32 × am_I} (h : bX9_nameOf_85 G.2.2.2.1 k14 k52 l1 l2 l3 l4 l5 l6 l7 l8  I = some r) : am_J G (d + 3) mX9_nameOf am_no (am_E (some r.1) r.2) 85 [some (.inr (0, 15)), some (.inl l1), some (.inl l2), some (.inl l3), some (.inl l4), some (.inl l5), some (.inl l6), some (.inl l7), some (.inl l8)] [] I := by
  unfold bX9_nameOf_85 at h
  refine am_aload_n dX9_nameOf_85 rfl ?_
  refine am_dup dX9_nameOf_86 ?_
  refine am_get (v := .inl (I 0 15 10)) dX9_nameOf_87 fl_9_45 (hG.m0 (by decide)) rfl ?_
  refine am_iload dX9_nameOf_90 rfl ?_
  refine am_if_eq (tgt := 99) dX9_nameOf_92 rfl (fun c => ?_) (fun c => ?_)
  · rw [if_pos c] at h
    refine am_iconst (v := nI 0) dX9_nameOf_99 (by decide) ?_
    exact am_lwJ (lo' := [some (.inr (0, 15)), some (.inl l1), some (.inl l2), some (.inl l3), some (.inl l4), some (.inl l5), some (.inl l6), some (.inl l7), none]) ⟨rfl, rfl, rfl, rfl, rfl, rfl, rfl, rfl, trivial⟩ (tX9_nameOf_100 hG hk14 hk52 h)
  · rw [if_neg c] at h
    refine am_iconst (v := nI 1) dX9_nameOf_95 (by decide) ?_
    refine am_goto (tgt := 100) dX9_nameOf_96 rfl ?_
    exact am_lwJ (lo' := [some (.inr (0, 15)), some (.inl l1), some (.inl l2), some (.inl l3), some (.inl l4), some (.inl l5), some (.inl l6), some (.inl l7), none]) ⟨rfl, rfl, rfl, rfl, rfl, rfl, rfl, rfl, trivial⟩ (tX9_nameOf_100 hG hk14 hk52 h)
def bX9_nameOf_52 (n : Nat) (k14 : Int32 → Int32 → Int32 → Int32 → am_I → Option (Int32 × am_I)) : Nat → Int32 → Int32 → Int32 → Int32 → Int32 → Int32 → Int32 → am_I → Option (Int32 × am_I)
  | 0, _, _, _, _, _, _, _, _ => none
  | fu + 1, l1, l2, l3, l4, l5, l6, l7, I => (fun k52 => if l6 ≤ l7 then (k14 l1 l2 l3 (l4 + nI 16) I) else ((gX9_read n l5 l7 I).bind (fun q1 => if q1.1 = 0 then (bX9_nameOf_85 n k14 k52 l1 l2 l3 l4 l5 l6 l7 q1.1 q1.2) else (if (q1.2 0 15 10) = l2 then (some (q1.1, q1.2)) else (bX9_nameOf_85 n k14 k52 l1 l2 l3 l4 l5 l6 l7 q1.1 q1.2))))) (bX9_nameOf_52 n k14 fu)
theorem tX9_nameOf_52 {G : am_G} (hG : am_ok G) {d : Nat} {k14 : Int32 → Int32 → Int32 → Int32 → am_I → Option (Int32 × am_I)} (hk14 : ∀ (l1 : Int32) (l2 : Int32) (l3 : Int32) (l4 : Int32) (I : am_I) (r : Int32 × am_I), k14 l1 l2 l3 l4 I = some r → am_J G (d + 3) mX9_nameOf am_no (am_E (some r.1) r.2) 14 [some (.inr (0, 15)), some (.inl l1), some (.inl l2), some (.inl l3), some (.inl l4), none, none, none, none] [] I) : ∀ {fu : Nat} {l1 : Int32} {l2 : Int32} {l3 : Int32} {l4 : Int32} {l5 : Int32} {l6 : Int32} {l7 : Int32} {I : am_I} {r : Int32 × am_I}, bX9_nameOf_52 G.2.2.2.1 k14 fu l1 l2 l3 l4 l5 l6 l7 I = some r → am_J G (d + 3) mX9_nameOf am_no (am_E (some r.1) r.2) 52 [some (.inr (0, 15)), some (.inl l1), some (.inl l2), some (.inl l3), some (.inl l4), some (.inl l5), some (.inl l6), some (.inl l7), none] [] I := by
  intro fu
  induction fu with
  | zero => intro l1 l2 l3 l4 l5 l6 l7 I r h; cases h
  | succ fu ih =>
    intro l1 l2 l3 l4 l5 l6 l7 I r h
    have hk52 : ∀ (l1 : Int32) (l2 : Int32) (l3 : Int32) (l4 : Int32) (l5 : Int32) (l6 : Int32) (l7 : Int32) (I : am_I) (r : Int32 × am_I), bX9_nameOf_52 G.2.2.2.1 k14 fu l1 l2 l3 l4 l5 l6 l7 I = some r → am_J G (d + 3) mX9_nameOf am_no (am_E (some r.1) r.2) 52 [some (.inr (0, 15)), some (.inl l1), some (.inl l2), some (.inl l3), some (.inl l4), some (.inl l5), some (.inl l6), some (.inl l7), none] [] I := fun l1 l2 l3 l4 l5 l6 l7 I r h => ih h
    unfold bX9_nameOf_52 at h
    generalize bX9_nameOf_52 G.2.2.2.1 k14 fu = k52 at hk52 h
    dsimp only at h
    refine am_iload dX9_nameOf_52 rfl ?_
    refine am_iload dX9_nameOf_54 rfl ?_
    refine am_icmp_ge (tgt := 110) dX9_nameOf_56 rfl (fun c => ?_) (fun c => ?_)
    · rw [if_pos c] at h
      refine am_iinc (v := l4 + nI 16) dX9_nameOf_110 rfl rfl ?_
      refine am_goto (tgt := 14) dX9_nameOf_113 rfl ?_
      exact am_lwJ (lo' := [some (.inr (0, 15)), some (.inl l1), some (.inl l2), some (.inl l3), some (.inl (l4 + nI 16)), none, none, none, none]) ⟨rfl, rfl, rfl, rfl, rfl, trivial⟩ (hk14 l1 l2 l3 (l4 + nI 16) _ _ h)
    · rw [if_neg c] at h
      refine am_aload_n dX9_nameOf_59 rfl ?_
      refine am_iload dX9_nameOf_60 rfl ?_
      refine am_iload dX9_nameOf_62 rfl ?_
      obtain ⟨q1, hq1, h⟩ := am_bd h
      refine am_callVx (i := 0) (j := 15) (as := [.inl l5, .inl l7]) (rest := []) dX9_nameOf_64 lkX9_read ml_X9_197 imX9_read seX9_read rfl rfl (hG.m0 (by decide)) rfl (Nat.le_of_ble_eq_true rfl) rfl (sX9_read hG hq1) ?_
      refine am_istore dX9_nameOf_67 (by decide) ?_
      refine am_iload dX9_nameOf_69 rfl ?_
      refine am_if_eq (tgt := 85) dX9_nameOf_71 rfl (fun c => ?_) (fun c => ?_)
      · rw [if_pos c] at h
        exact am_lwJ (lo' := [some (.inr (0, 15)), some (.inl l1), some (.inl l2), some (.inl l3), some (.inl l4), some (.inl l5), some (.inl l6), some (.inl l7), some (.inl q1.1)]) ⟨rfl, rfl, rfl, rfl, rfl, rfl, rfl, rfl, rfl, trivial⟩ (tX9_nameOf_85 hG hk14 hk52 h)
      · rw [if_neg c] at h
        refine am_aload_n dX9_nameOf_74 rfl ?_
        refine am_get (v := .inl (q1.2 0 15 10)) dX9_nameOf_75 fl_9_45 (hG.m0 (by decide)) rfl ?_
        refine am_iload_n dX9_nameOf_78 rfl ?_
        refine am_icmp_ne (tgt := 85) dX9_nameOf_79 rfl (fun c => ?_) (fun c => ?_)
        · rw [if_neg c] at h
          exact am_lwJ (lo' := [some (.inr (0, 15)), some (.inl l1), some (.inl l2), some (.inl l3), some (.inl l4), some (.inl l5), some (.inl l6), some (.inl l7), some (.inl q1.1)]) ⟨rfl, rfl, rfl, rfl, rfl, rfl, rfl, rfl, rfl, trivial⟩ (tX9_nameOf_85 hG hk14 hk52 h)
        · rw [if_pos c] at h
          refine am_iload dX9_nameOf_82 rfl ?_
          cases h
          exact am_iret dX9_nameOf_84 rfl rfl ⟨rfl, rfl⟩
def bX9_nameOf_47 (n : Nat) (k14 : Int32 → Int32 → Int32 → Int32 → am_I → Option (Int32 × am_I)) (l1 : Int32) (l2 : Int32) (l3 : Int32) (l4 : Int32) (l5 : Int32) (s0 : Int32) (I : am_I) : Option (Int32 × am_I) := bX9_nameOf_52 n k14 am_fu l1 l2 l3 l4 l5 s0 (nI 0) I
theorem tX9_nameOf_47 {G : am_G} (hG : am_ok G) {d : Nat} {k14 : Int32 → Int32 → Int32 → Int32 → am_I → Option (Int32 × am_I)} (hk14 : ∀ (l1 : Int32) (l2 : Int32) (l3 : Int32) (l4 : Int32) (I : am_I) (r : Int32 × am_I), k14 l1 l2 l3 l4 I = some r → am_J G (d + 3) mX9_nameOf am_no (am_E (some r.1) r.2) 14 [some (.inr (0, 15)), some (.inl l1), some (.inl l2), some (.inl l3), some (.inl l4), none, none, none, none] [] I) {l1 : Int32} {l2 : Int32} {l3 : Int32} {l4 : Int32} {l5 : Int32} {s0 : Int32} {I : am_I} {r : Int32 × am_I} (h : bX9_nameOf_47 G.2.2.2.1 k14 l1 l2 l3 l4 l5 s0  I = some r) : am_J G (d + 3) mX9_nameOf am_no (am_E (some r.1) r.2) 47 [some (.inr (0, 15)), some (.inl l1), some (.inl l2), some (.inl l3), some (.inl l4), some (.inl l5), none, none, none] [.inl s0] I := by
  unfold bX9_nameOf_47 at h
  refine am_istore dX9_nameOf_47 (by decide) ?_
  refine am_iconst (v := nI 0) dX9_nameOf_49 (by decide) ?_
  refine am_istore dX9_nameOf_50 (by decide) ?_
  exact am_lwJ (lo' := [some (.inr (0, 15)), some (.inl l1), some (.inl l2), some (.inl l3), some (.inl l4), some (.inl l5), some (.inl s0), some (.inl (nI 0)), none]) ⟨rfl, rfl, rfl, rfl, rfl, rfl, rfl, rfl, trivial⟩ (tX9_nameOf_52 hG hk14 h)
def bX9_nameOf_14 (n : Nat) : Nat → Int32 → Int32 → Int32 → Int32 → am_I → Option (Int32 × am_I)
  | 0, _, _, _, _, _ => none
  | fu + 1, l1, l2, l3, l4, I => (fun k14 => if l3 ≤ l4 then (some (nI 0, I)) else ((gX9_blockOf n l1 l4 I).bind (fun q1 => if q1.1 = 0 then (bX9_nameOf_47 n k14 l1 l2 l3 l4 q1.1 (nI 0) q1.2) else (bX9_nameOf_47 n k14 l1 l2 l3 l4 q1.1 ((if (nI 16) ≤ (l3 - l4) then (nI 16) else (l3 - l4))) q1.2)))) (bX9_nameOf_14 n fu)
theorem tX9_nameOf_14 {G : am_G} (hG : am_ok G) {d : Nat} : ∀ {fu : Nat} {l1 : Int32} {l2 : Int32} {l3 : Int32} {l4 : Int32} {I : am_I} {r : Int32 × am_I}, bX9_nameOf_14 G.2.2.2.1 fu l1 l2 l3 l4 I = some r → am_J G (d + 3) mX9_nameOf am_no (am_E (some r.1) r.2) 14 [some (.inr (0, 15)), some (.inl l1), some (.inl l2), some (.inl l3), some (.inl l4), none, none, none, none] [] I := by
  intro fu
  induction fu with
  | zero => intro l1 l2 l3 l4 I r h; cases h
  | succ fu ih =>
    intro l1 l2 l3 l4 I r h
    have hk14 : ∀ (l1 : Int32) (l2 : Int32) (l3 : Int32) (l4 : Int32) (I : am_I) (r : Int32 × am_I), bX9_nameOf_14 G.2.2.2.1 fu l1 l2 l3 l4 I = some r → am_J G (d + 3) mX9_nameOf am_no (am_E (some r.1) r.2) 14 [some (.inr (0, 15)), some (.inl l1), some (.inl l2), some (.inl l3), some (.inl l4), none, none, none, none] [] I := fun l1 l2 l3 l4 I r h => ih h
    unfold bX9_nameOf_14 at h
    generalize bX9_nameOf_14 G.2.2.2.1 fu = k14 at hk14 h
    dsimp only at h
    refine am_iload dX9_nameOf_14 rfl ?_
    refine am_iload_n dX9_nameOf_16 rfl ?_
    refine am_icmp_ge (tgt := 116) dX9_nameOf_17 rfl (fun c => ?_) (fun c => ?_)
    · rw [if_pos c] at h
      refine am_iconst (v := nI 0) dX9_nameOf_116 (by decide) ?_
      cases h
      exact am_iret dX9_nameOf_117 rfl rfl ⟨rfl, rfl⟩
    · rw [if_neg c] at h
      refine am_aload_n dX9_nameOf_20 rfl ?_
      refine am_iload_n dX9_nameOf_21 rfl ?_
      refine am_iload dX9_nameOf_22 rfl ?_
      obtain ⟨q1, hq1, h⟩ := am_bd h
      refine am_callVx (i := 0) (j := 15) (as := [.inl l1, .inl l4]) (rest := []) dX9_nameOf_24 lkX9_blockOf ml_X9_256 imX9_blockOf seX9_blockOf rfl rfl (hG.m0 (by decide)) rfl (Nat.le_of_ble_eq_true rfl) rfl (sX9_blockOf hG hq1) ?_
      refine am_istore dX9_nameOf_27 (by decide) ?_
      refine am_iload dX9_nameOf_29 rfl ?_
      refine am_if_ne (tgt := 38) dX9_nameOf_31 rfl (fun c => ?_) (fun c => ?_)
      · rw [if_neg c] at h
        refine am_bipush (v := nI 16) dX9_nameOf_38 (by decide) ?_
        refine am_iload_n dX9_nameOf_40 rfl ?_
        refine am_iload dX9_nameOf_41 rfl ?_
        refine am_isub dX9_nameOf_43 ?_
        refine am_callSx (as := [.inl (nI 16), .inl (l3 - l4)]) (rest := []) dX9_nameOf_44 lkJ9_min_7cf53 ml_X9_245 isJ9_min_7cf53 rfl (Nat.le_of_ble_eq_true rfl) rfl (c_min hG.nd (nI 16) (l3 - l4) q1.2) ?_
        exact am_lwJ (lo' := [some (.inr (0, 15)), some (.inl l1), some (.inl l2), some (.inl l3), some (.inl l4), some (.inl q1.1), none, none, none]) ⟨rfl, rfl, rfl, rfl, rfl, rfl, trivial⟩ (tX9_nameOf_47 hG hk14 h)
      · rw [if_pos c] at h
        refine am_iconst (v := nI 0) dX9_nameOf_34 (by decide) ?_
        refine am_goto (tgt := 47) dX9_nameOf_35 rfl ?_
        exact am_lwJ (lo' := [some (.inr (0, 15)), some (.inl l1), some (.inl l2), some (.inl l3), some (.inl l4), some (.inl q1.1), none, none, none]) ⟨rfl, rfl, rfl, rfl, rfl, rfl, trivial⟩ (tX9_nameOf_47 hG hk14 h)
def bX9_nameOf_0 (n : Nat) (l1 : Int32) (l2 : Int32) (I : am_I) : Option (Int32 × am_I) := (gX9_sizeOf n l1 I).bind (fun q1 => am_lt (am_up q1.2 0 15 10 (nI 0)) (fun I2 => bX9_nameOf_14 n am_fu l1 l2 q1.1 (nI 0) I2))
theorem tX9_nameOf_0 {G : am_G} (hG : am_ok G) {d : Nat} {l1 : Int32} {l2 : Int32} {I : am_I} {r : Int32 × am_I} (h : bX9_nameOf_0 G.2.2.2.1 l1 l2  I = some r) : am_J G (d + 3) mX9_nameOf am_no (am_E (some r.1) r.2) 0 [some (.inr (0, 15)), some (.inl l1), some (.inl l2), none, none, none, none, none, none] [] I := by
  unfold bX9_nameOf_0 at h
  refine am_aload_n dX9_nameOf_0 rfl ?_
  refine am_iload_n dX9_nameOf_1 rfl ?_
  obtain ⟨q1, hq1, h⟩ := am_bd h
  refine am_callVx (i := 0) (j := 15) (as := [.inl l1]) (rest := []) dX9_nameOf_2 lkX9_sizeOf ml_X9_253 imX9_sizeOf seX9_sizeOf rfl rfl (hG.m0 (by decide)) rfl (Nat.le_of_ble_eq_true rfl) rfl (sX9_sizeOf hG hq1) ?_
  refine am_istore_n dX9_nameOf_5 (by decide) ?_
  refine am_aload_n dX9_nameOf_6 rfl ?_
  refine am_iconst (v := nI 0) dX9_nameOf_7 (by decide) ?_
  refine am_put (x := nI 0) dX9_nameOf_8 fp_9_45 (hG.m0 (by decide)) (Nat.le_of_ble_eq_true rfl) rfl ?_
  obtain ⟨I2, hI2, h⟩ := am_lt_some h
  refine am_st10 hI2 ?_
  refine am_iconst (v := nI 0) dX9_nameOf_11 (by decide) ?_
  refine am_istore dX9_nameOf_12 (by decide) ?_
  exact am_lwJ (lo' := [some (.inr (0, 15)), some (.inl l1), some (.inl l2), some (.inl q1.1), some (.inl (nI 0)), none, none, none, none]) ⟨rfl, rfl, rfl, rfl, rfl, trivial⟩ (tX9_nameOf_14 hG h)
def gX9_nameOf (n : Nat) (l1 : Int32) (l2 : Int32) (I : am_I) : Option (Int32 × am_I) := bX9_nameOf_0 n l1 l2 I
theorem sX9_nameOf {G : am_G} (hG : am_ok G) {d : Nat} {l1 : Int32} {l2 : Int32} {I : am_I} {r : Int32 × am_I} (h : gX9_nameOf G.2.2.2.1 l1 l2 I = some r) : am_C G (d + 3) mX9_nameOf [.inr (0, 15), .inl l1, .inl l2] I (am_E (some r.1) r.2) :=
  am_of (by decide +kernel) hG.nd (Nat.le_of_ble_eq_true rfl) (am_lwJ (lo' := [some (.inr (0, 15)), some (.inl l1), some (.inl l2), none, none, none, none, none, none]) ⟨rfl, rfl, rfl, trivial⟩ (tX9_nameOf_0 hG h))
def bX9_eraseEntry_0 (n : Nat) (l1 : Int32) (l2 : Int32) (I : am_I) : Option (am_I) := (gX9_blockOf n l1 l2 I).bind (fun q1 => (gX9_set n q1.1 (l2 - l2 / (nI 16) * (nI 16)) (nI 0) q1.2).bind (fun q2 => (gX9_set n q1.1 ((l2 - l2 / (nI 16) * (nI 16)) + (nI 1)) (nI 0) q2).bind (fun q3 => some q3)))
theorem tX9_eraseEntry_0 {G : am_G} (hG : am_ok G) {d : Nat} {l1 : Int32} {l2 : Int32} {I : am_I} {r : am_I} (h : bX9_eraseEntry_0 G.2.2.2.1 l1 l2  I = some r) : am_J G (d + 3) mX9_eraseEntry am_no (am_E none r) 0 [some (.inr (0, 15)), some (.inl l1), some (.inl l2), none] [] I := by
  unfold bX9_eraseEntry_0 at h
  refine am_aload_n dX9_eraseEntry_0 rfl ?_
  refine am_iload_n dX9_eraseEntry_1 rfl ?_
  refine am_iload_n dX9_eraseEntry_2 rfl ?_
  obtain ⟨q1, hq1, h⟩ := am_bd h
  refine am_callVx (i := 0) (j := 15) (as := [.inl l1, .inl l2]) (rest := []) dX9_eraseEntry_3 lkX9_blockOf ml_X9_256 imX9_blockOf seX9_blockOf rfl rfl (hG.m0 (by decide)) rfl (Nat.le_of_ble_eq_true rfl) rfl (sX9_blockOf hG hq1) ?_
  refine am_istore_n dX9_eraseEntry_6 (by decide) ?_
  refine am_aload_n dX9_eraseEntry_7 rfl ?_
  refine am_iload_n dX9_eraseEntry_8 rfl ?_
  refine am_iload_n dX9_eraseEntry_9 rfl ?_
  refine am_bipush (v := nI 16) dX9_eraseEntry_10 (by decide) ?_
  refine am_irem dX9_eraseEntry_12 (by decide) ?_
  refine am_iconst (v := nI 0) dX9_eraseEntry_13 (by decide) ?_
  obtain ⟨q2, hq2, h⟩ := am_bd h
  refine am_callVe (i := 0) (j := 15) (as := [.inl q1.1, .inl (l2 - l2 / (nI 16) * (nI 16)), .inl (nI 0)]) (rest := []) dX9_eraseEntry_14 lkX9_set ml_X9_204 imX9_set seX9_set rfl rfl (hG.m0 (by decide)) rfl (Nat.le_of_ble_eq_true rfl) rfl (sX9_set hG hq2) ?_
  refine am_aload_n dX9_eraseEntry_17 rfl ?_
  refine am_iload_n dX9_eraseEntry_18 rfl ?_
  refine am_iload_n dX9_eraseEntry_19 rfl ?_
  refine am_bipush (v := nI 16) dX9_eraseEntry_20 (by decide) ?_
  refine am_irem dX9_eraseEntry_22 (by decide) ?_
  refine am_iconst (v := nI 1) dX9_eraseEntry_23 (by decide) ?_
  refine am_iadd dX9_eraseEntry_24 ?_
  refine am_iconst (v := nI 0) dX9_eraseEntry_25 (by decide) ?_
  obtain ⟨q3, hq3, h⟩ := am_bd h
  refine am_callVe (i := 0) (j := 15) (as := [.inl q1.1, .inl ((l2 - l2 / (nI 16) * (nI 16)) + (nI 1)), .inl (nI 0)]) (rest := []) dX9_eraseEntry_26 lkX9_set ml_X9_204 imX9_set seX9_set rfl rfl (hG.m0 (by decide)) rfl (Nat.le_of_ble_eq_true rfl) rfl (sX9_set hG hq3) ?_
  cases h
  exact am_vret dX9_eraseEntry_29 rfl ⟨rfl, rfl⟩
def gX9_eraseEntry (n : Nat) (l1 : Int32) (l2 : Int32) (I : am_I) : Option (am_I) := bX9_eraseEntry_0 n l1 l2 I
theorem sX9_eraseEntry {G : am_G} (hG : am_ok G) {d : Nat} {l1 : Int32} {l2 : Int32} {I : am_I} {r : am_I} (h : gX9_eraseEntry G.2.2.2.1 l1 l2 I = some r) : am_C G (d + 3) mX9_eraseEntry [.inr (0, 15), .inl l1, .inl l2] I (am_E none r) :=
  am_of (by decide +kernel) hG.nd (Nat.le_of_ble_eq_true rfl) (am_lwJ (lo' := [some (.inr (0, 15)), some (.inl l1), some (.inl l2), none]) ⟨rfl, rfl, rfl, trivial⟩ (tX9_eraseEntry_0 hG h))
def bX9_remove_149 (n : Nat) (s0 : Int32) (I : am_I) : Option (am_I) := am_lt (am_up I 0 15 16 s0) (fun I1 => some I1)
theorem tX9_remove_149 {G : am_G} (hG : am_ok G) {d : Nat} {s0 : Int32} {I : am_I} {r : am_I} (h : bX9_remove_149 G.2.2.2.1 s0  I = some r) : am_J G (d + 4) mX9_remove am_no (am_E none r) 149 [none, none, none, none, none, none] [.inl s0, .inr (0, 15)] I := by
  unfold bX9_remove_149 at h
  refine am_put (x := s0) dX9_remove_149 fp_9_51 (hG.m0 (by decide)) (Nat.le_of_ble_eq_true rfl) rfl ?_
  obtain ⟨I1, hI1, h⟩ := am_lt_some h
  refine am_st10 hI1 ?_
  cases h
  exact am_vret dX9_remove_152 rfl ⟨rfl, rfl⟩
def bX9_remove_104 (n : Nat) (l1 : Nat) (l2 : Int32) (l3 : Int32) (l4 : Int32) (I : am_I) : Option (am_I) := (gX9_eraseEntry n (I l1 55 1) l2 I).bind (fun q1 => (gX9_read n l4 (nI 1) q1).bind (fun q2 => (gX9_set n l4 (nI 1) (q2.1 - (nI 1)) q2.2).bind (fun q3 => am_lt (am_up q3 0 15 10 (nI 0)) (fun I4 => if (q2.1 - (nI 1)) = 0 then (bX9_remove_149 n l3 I4) else (bX9_remove_149 n (-1 : Int32) I4)))))
theorem tX9_remove_104 {G : am_G} (hG : am_ok G) {d : Nat} {l1 : Nat} {l2 : Int32} {l3 : Int32} {l4 : Int32} (hl1 : l1 < G.2.2.2.1) {I : am_I} {r : am_I} (h : bX9_remove_104 G.2.2.2.1 l1 l2 l3 l4  I = some r) : am_J G (d + 4) mX9_remove am_no (am_E none r) 104 [some (.inr (0, 15)), some (.inr (l1, 55)), some (.inl l2), some (.inl l3), some (.inl l4), none] [] I := by
  unfold bX9_remove_104 at h
  refine am_aload_n dX9_remove_104 rfl ?_
  refine am_aload_n dX9_remove_105 rfl ?_
  refine am_get (v := .inl (I l1 55 1)) dX9_remove_106 fl_9_271 (hG.mn hl1 (by decide) (by decide)) rfl ?_
  refine am_iload_n dX9_remove_109 rfl ?_
  obtain ⟨q1, hq1, h⟩ := am_bd h
  refine am_callVe (i := 0) (j := 15) (as := [.inl (I l1 55 1), .inl l2]) (rest := []) dX9_remove_110 lkX9_eraseEntry ml_X9_299 imX9_eraseEntry seX9_eraseEntry rfl rfl (hG.m0 (by decide)) rfl (Nat.le_of_ble_eq_true rfl) rfl (sX9_eraseEntry hG hq1) ?_
  refine am_aload_n dX9_remove_113 rfl ?_
  refine am_iload dX9_remove_114 rfl ?_
  refine am_iconst (v := nI 1) dX9_remove_116 (by decide) ?_
  obtain ⟨q2, hq2, h⟩ := am_bd h
  refine am_callVx (i := 0) (j := 15) (as := [.inl l4, .inl (nI 1)]) (rest := []) dX9_remove_117 lkX9_read ml_X9_197 imX9_read seX9_read rfl rfl (hG.m0 (by decide)) rfl (Nat.le_of_ble_eq_true rfl) rfl (sX9_read hG hq2) ?_
  refine am_iconst (v := nI 1) dX9_remove_120 (by decide) ?_
  refine am_isub dX9_remove_121 ?_
  refine am_istore dX9_remove_122 (by decide) ?_
  refine am_aload_n dX9_remove_124 rfl ?_
  refine am_iload dX9_remove_125 rfl ?_
  refine am_iconst (v := nI 1) dX9_remove_127 (by decide) ?_
  refine am_iload dX9_remove_128 rfl ?_
  obtain ⟨q3, hq3, h⟩ := am_bd h
  refine am_callVe (i := 0) (j := 15) (as := [.inl l4, .inl (nI 1), .inl (q2.1 - (nI 1))]) (rest := []) dX9_remove_130 lkX9_set ml_X9_204 imX9_set seX9_set rfl rfl (hG.m0 (by decide)) rfl (Nat.le_of_ble_eq_true rfl) rfl (sX9_set hG hq3) ?_
  refine am_aload_n dX9_remove_133 rfl ?_
  refine am_iconst (v := nI 0) dX9_remove_134 (by decide) ?_
  refine am_put (x := nI 0) dX9_remove_135 fp_9_45 (hG.m0 (by decide)) (Nat.le_of_ble_eq_true rfl) rfl ?_
  obtain ⟨I4, hI4, h⟩ := am_lt_some h
  refine am_st10 hI4 ?_
  refine am_aload_n dX9_remove_138 rfl ?_
  refine am_iload dX9_remove_139 rfl ?_
  refine am_if_ne (tgt := 148) dX9_remove_141 rfl (fun c => ?_) (fun c => ?_)
  · rw [if_neg c] at h
    refine am_iconst (v := (-1 : Int32)) dX9_remove_148 (by decide) ?_
    exact am_lwJ (lo' := [none, none, none, none, none, none]) trivial (tX9_remove_149 hG h)
  · rw [if_pos c] at h
    refine am_iload_n dX9_remove_144 rfl ?_
    refine am_goto (tgt := 149) dX9_remove_145 rfl ?_
    exact am_lwJ (lo' := [none, none, none, none, none, none]) trivial (tX9_remove_149 hG h)
def bX9_remove_44 (n : Nat) (l1 : Nat) (l2 : Int32) (s0 : Int32) (I : am_I) : Option (am_I) := (gX10_isInode n s0 I).bind (fun q1 => if q1.1 = 0 then ((gX9_fail n (-3 : Int32) q1.2).bind (fun q7 => some q7.2)) else ((gX9_meet n s0 (nI 2) q1.2).bind (fun q2 => if q2.1 = 0 then (some q2.2) else ((gX10_inodeBlock n s0 q2.2).bind (fun q3 => (gX9_read n q3.1 (nI 0) q3.2).bind (fun q4 => if q4.1 = (nI 2) then ((gX9_nameOf n s0 (nI 0) q4.2).bind (fun q5 => if q5.1 = 0 then (bX9_remove_104 n l1 l2 s0 q3.1 q5.2) else ((gX9_fail n (-8 : Int32) q5.2).bind (fun q6 => some q6.2)))) else (bX9_remove_104 n l1 l2 s0 q3.1 q4.2)))))))
theorem tX9_remove_44 {G : am_G} (hG : am_ok G) {d : Nat} {l1 : Nat} {l2 : Int32} {s0 : Int32} (hl1 : l1 < G.2.2.2.1) {I : am_I} {r : am_I} (h : bX9_remove_44 G.2.2.2.1 l1 l2 s0  I = some r) : am_J G (d + 4) mX9_remove am_no (am_E none r) 44 [some (.inr (0, 15)), some (.inr (l1, 55)), some (.inl l2), none, none, none] [.inl s0] I := by
  unfold bX9_remove_44 at h
  refine am_istore_n dX9_remove_44 (by decide) ?_
  refine am_iload_n dX9_remove_45 rfl ?_
  obtain ⟨q1, hq1, h⟩ := am_bd h
  refine am_callSNx (as := [.inl s0]) (rest := []) dX9_remove_46 lkX10_isInode nl_X9_96 isX10_isInode rfl (Nat.le_of_ble_eq_true rfl) rfl (sX10_isInode hG hq1) ?_
  refine am_if_ne (tgt := 60) dX9_remove_49 rfl (fun c => ?_) (fun c => ?_)
  · rw [if_neg c] at h
    refine am_aload_n dX9_remove_60 rfl ?_
    refine am_iload_n dX9_remove_61 rfl ?_
    refine am_iconst (v := nI 2) dX9_remove_62 (by decide) ?_
    obtain ⟨q2, hq2, h⟩ := am_bd h
    refine am_callVx (i := 0) (j := 15) (as := [.inl s0, .inl (nI 2)]) (rest := []) dX9_remove_63 lkX9_meet ml_X9_211 imX9_meet seX9_meet rfl rfl (hG.m0 (by decide)) rfl (Nat.le_of_ble_eq_true rfl) rfl (sX9_meet hG hq2) ?_
    refine am_if_ne (tgt := 70) dX9_remove_66 rfl (fun c => ?_) (fun c => ?_)
    · rw [if_neg c] at h
      refine am_iload_n dX9_remove_70 rfl ?_
      obtain ⟨q3, hq3, h⟩ := am_bd h
      refine am_callSNx (as := [.inl s0]) (rest := []) dX9_remove_71 lkX10_inodeBlock nl_X9_193 isX10_inodeBlock rfl (Nat.le_of_ble_eq_true rfl) rfl (sX10_inodeBlock hG hq3) ?_
      refine am_istore dX9_remove_74 (by decide) ?_
      refine am_aload_n dX9_remove_76 rfl ?_
      refine am_iload dX9_remove_77 rfl ?_
      refine am_iconst (v := nI 0) dX9_remove_79 (by decide) ?_
      obtain ⟨q4, hq4, h⟩ := am_bd h
      refine am_callVx (i := 0) (j := 15) (as := [.inl q3.1, .inl (nI 0)]) (rest := []) dX9_remove_80 lkX9_read ml_X9_197 imX9_read seX9_read rfl rfl (hG.m0 (by decide)) rfl (Nat.le_of_ble_eq_true rfl) rfl (sX9_read hG hq4) ?_
      refine am_iconst (v := nI 2) dX9_remove_83 (by decide) ?_
      refine am_icmp_ne (tgt := 104) dX9_remove_84 rfl (fun c => ?_) (fun c => ?_)
      · rw [if_neg c] at h
        exact am_lwJ (lo' := [some (.inr (0, 15)), some (.inr (l1, 55)), some (.inl l2), some (.inl s0), some (.inl q3.1), none]) ⟨rfl, rfl, rfl, rfl, rfl, trivial⟩ (tX9_remove_104 hG hl1 h)
      · rw [if_pos c] at h
        refine am_aload_n dX9_remove_87 rfl ?_
        refine am_iload_n dX9_remove_88 rfl ?_
        refine am_iconst (v := nI 0) dX9_remove_89 (by decide) ?_
        obtain ⟨q5, hq5, h⟩ := am_bd h
        refine am_callVx (i := 0) (j := 15) (as := [.inl s0, .inl (nI 0)]) (rest := []) dX9_remove_90 lkX9_nameOf ml_X9_296 imX9_nameOf seX9_nameOf rfl rfl (hG.m0 (by decide)) rfl (Nat.le_of_ble_eq_true rfl) rfl (sX9_nameOf hG hq5) ?_
        refine am_if_eq (tgt := 104) dX9_remove_93 rfl (fun c => ?_) (fun c => ?_)
        · rw [if_pos c] at h
          exact am_lwJ (lo' := [some (.inr (0, 15)), some (.inr (l1, 55)), some (.inl l2), some (.inl s0), some (.inl q3.1), none]) ⟨rfl, rfl, rfl, rfl, rfl, trivial⟩ (tX9_remove_104 hG hl1 h)
        · rw [if_neg c] at h
          refine am_aload_n dX9_remove_96 rfl ?_
          refine am_bipush (v := (-8 : Int32)) dX9_remove_97 (by decide) ?_
          obtain ⟨q6, hq6, h⟩ := am_bd h
          refine am_callVx (i := 0) (j := 15) (as := [.inl (-8 : Int32)]) (rest := []) dX9_remove_99 lkX9_fail ml_X9_225 imX9_fail seX9_fail rfl rfl (hG.m0 (by decide)) rfl (Nat.le_of_ble_eq_true rfl) rfl (sX9_fail hG hq6) ?_
          refine am_pop dX9_remove_102 ?_
          cases h
          exact am_vret dX9_remove_103 rfl ⟨rfl, rfl⟩
    · rw [if_pos c] at h
      cases h
      exact am_vret dX9_remove_69 rfl ⟨rfl, rfl⟩
  · rw [if_pos c] at h
    refine am_aload_n dX9_remove_52 rfl ?_
    refine am_bipush (v := (-3 : Int32)) dX9_remove_53 (by decide) ?_
    obtain ⟨q7, hq7, h⟩ := am_bd h
    refine am_callVx (i := 0) (j := 15) (as := [.inl (-3 : Int32)]) (rest := []) dX9_remove_55 lkX9_fail ml_X9_225 imX9_fail seX9_fail rfl rfl (hG.m0 (by decide)) rfl (Nat.le_of_ble_eq_true rfl) rfl (sX9_fail hG hq7) ?_
    refine am_pop dX9_remove_58 ?_
    cases h
    exact am_vret dX9_remove_59 rfl ⟨rfl, rfl⟩
def bX9_remove_0 (n : Nat) (l1 : Nat) (I : am_I) : Option (am_I) := (gX9_meetDirectory n (I l1 55 1) (nI 2) I).bind (fun q1 => if q1.1 = 0 then (some q1.2) else ((gX9_find n (q1.2 l1 55 1) (q1.2 l1 55 2) q1.2).bind (fun q2 => if q2.1 = (-1 : Int32) then (bX9_remove_44 n l1 q2.1 (-1 : Int32) q2.2) else ((gX9_inodeAt n (q2.2 l1 55 1) q2.1 q2.2).bind (fun q3 => bX9_remove_44 n l1 q2.1 q3.1 q3.2)))))
theorem tX9_remove_0 {G : am_G} (hG : am_ok G) {d : Nat} {l1 : Nat} (hl1 : l1 < G.2.2.2.1) {I : am_I} {r : am_I} (h : bX9_remove_0 G.2.2.2.1 l1  I = some r) : am_J G (d + 4) mX9_remove am_no (am_E none r) 0 [some (.inr (0, 15)), some (.inr (l1, 55)), none, none, none, none] [] I := by
  unfold bX9_remove_0 at h
  refine am_aload_n dX9_remove_0 rfl ?_
  refine am_aload_n dX9_remove_1 rfl ?_
  refine am_get (v := .inl (I l1 55 1)) dX9_remove_2 fl_9_271 (hG.mn hl1 (by decide) (by decide)) rfl ?_
  refine am_iconst (v := nI 2) dX9_remove_5 (by decide) ?_
  obtain ⟨q1, hq1, h⟩ := am_bd h
  refine am_callVx (i := 0) (j := 15) (as := [.inl (I l1 55 1), .inl (nI 2)]) (rest := []) dX9_remove_6 lkX9_meetDirectory ml_X9_274 imX9_meetDirectory seX9_meetDirectory rfl rfl (hG.m0 (by decide)) rfl (Nat.le_of_ble_eq_true rfl) rfl (sX9_meetDirectory hG hq1) ?_
  refine am_if_ne (tgt := 13) dX9_remove_9 rfl (fun c => ?_) (fun c => ?_)
  · rw [if_neg c] at h
    refine am_aload_n dX9_remove_13 rfl ?_
    refine am_aload_n dX9_remove_14 rfl ?_
    refine am_get (v := .inl (q1.2 l1 55 1)) dX9_remove_15 fl_9_271 (hG.mn hl1 (by decide) (by decide)) rfl ?_
    refine am_aload_n dX9_remove_18 rfl ?_
    refine am_get (v := .inl (q1.2 l1 55 2)) dX9_remove_19 fl_9_277 (hG.mn hl1 (by decide) (by decide)) rfl ?_
    obtain ⟨q2, hq2, h⟩ := am_bd h
    refine am_callVx (i := 0) (j := 15) (as := [.inl (q1.2 l1 55 1), .inl (q1.2 l1 55 2)]) (rest := []) dX9_remove_22 lkX9_find ml_X9_265 imX9_find seX9_find rfl rfl (hG.m0 (by decide)) rfl (Nat.le_of_ble_eq_true rfl) rfl (sX9_find hG hq2) ?_
    refine am_istore_n dX9_remove_25 (by decide) ?_
    refine am_iload_n dX9_remove_26 rfl ?_
    refine am_iconst (v := (-1 : Int32)) dX9_remove_27 (by decide) ?_
    refine am_icmp_ne (tgt := 35) dX9_remove_28 rfl (fun c => ?_) (fun c => ?_)
    · rw [if_neg c] at h
      refine am_aload_n dX9_remove_35 rfl ?_
      refine am_aload_n dX9_remove_36 rfl ?_
      refine am_get (v := .inl (q2.2 l1 55 1)) dX9_remove_37 fl_9_271 (hG.mn hl1 (by decide) (by decide)) rfl ?_
      refine am_iload_n dX9_remove_40 rfl ?_
      obtain ⟨q3, hq3, h⟩ := am_bd h
      refine am_callVx (i := 0) (j := 15) (as := [.inl (q2.2 l1 55 1), .inl q2.1]) (rest := []) dX9_remove_41 lkX9_inodeAt ml_X9_280 imX9_inodeAt seX9_inodeAt rfl rfl (hG.m0 (by decide)) rfl (Nat.le_of_ble_eq_true rfl) rfl (sX9_inodeAt hG hq3) ?_
      exact am_lwJ (lo' := [some (.inr (0, 15)), some (.inr (l1, 55)), some (.inl q2.1), none, none, none]) ⟨rfl, rfl, rfl, trivial⟩ (tX9_remove_44 hG hl1 h)
    · rw [if_pos c] at h
      refine am_iconst (v := (-1 : Int32)) dX9_remove_31 (by decide) ?_
      refine am_goto (tgt := 44) dX9_remove_32 rfl ?_
      exact am_lwJ (lo' := [some (.inr (0, 15)), some (.inr (l1, 55)), some (.inl q2.1), none, none, none]) ⟨rfl, rfl, rfl, trivial⟩ (tX9_remove_44 hG hl1 h)
  · rw [if_pos c] at h
    cases h
    exact am_vret dX9_remove_12 rfl ⟨rfl, rfl⟩
def gX9_remove (n : Nat) (l1 : Nat) (I : am_I) : Option (am_I) := bX9_remove_0 n l1 I
theorem sX9_remove {G : am_G} (hG : am_ok G) {d : Nat} {l1 : Nat} (hl1 : l1 < G.2.2.2.1) {I : am_I} {r : am_I} (h : gX9_remove G.2.2.2.1 l1 I = some r) : am_C G (d + 4) mX9_remove [.inr (0, 15), .inr (l1, 55)] I (am_E none r) :=
  am_of (by decide +kernel) hG.nd (Nat.le_of_ble_eq_true rfl) (am_lwJ (lo' := [some (.inr (0, 15)), some (.inr (l1, 55)), none, none, none, none]) ⟨rfl, rfl, trivial⟩ (tX9_remove_0 hG hl1 h))
def bX9_meetFile_36 (n : Nat) (s0 : Int32) (I : am_I) : Option (Int32 × am_I) := am_gd (am_01 s0) (some (s0, I))
theorem tX9_meetFile_36 {G : am_G} (hG : am_ok G) {d : Nat} {s0 : Int32} {I : am_I} {r : Int32 × am_I} (h : bX9_meetFile_36 G.2.2.2.1 s0  I = some r) : am_J G (d + 2) mX9_meetFile am_no (am_E (some r.1) r.2) 36 [none, none, none] [.inl s0] I := by
  unfold bX9_meetFile_36 at h
  obtain ⟨g1, h⟩ := am_gd_some h
  cases h
  exact am_iret dX9_meetFile_36 rfl (am_nz (am_01_of g1)).1 ⟨rfl, rfl⟩
def bX9_meetFile_35 (n : Nat) (I : am_I) : Option (Int32 × am_I) := bX9_meetFile_36 n (nI 0) I
theorem tX9_meetFile_35 {G : am_G} (hG : am_ok G) {d : Nat} {I : am_I} {r : Int32 × am_I} (h : bX9_meetFile_35 G.2.2.2.1  I = some r) : am_J G (d + 2) mX9_meetFile am_no (am_E (some r.1) r.2) 35 [none, none, none] [] I := by
  unfold bX9_meetFile_35 at h
  refine am_iconst (v := nI 0) dX9_meetFile_35 (by decide) ?_
  exact am_lwJ (lo' := [none, none, none]) trivial (tX9_meetFile_36 hG h)
def bX9_meetFile_31 (n : Nat) (I : am_I) : Option (Int32 × am_I) := bX9_meetFile_36 n (nI 1) I
theorem tX9_meetFile_31 {G : am_G} (hG : am_ok G) {d : Nat} {I : am_I} {r : Int32 × am_I} (h : bX9_meetFile_31 G.2.2.2.1  I = some r) : am_J G (d + 2) mX9_meetFile am_no (am_E (some r.1) r.2) 31 [none, none, none] [] I := by
  unfold bX9_meetFile_31 at h
  refine am_iconst (v := nI 1) dX9_meetFile_31 (by decide) ?_
  refine am_goto (tgt := 36) dX9_meetFile_32 rfl ?_
  exact am_lwJ (lo' := [none, none, none]) trivial (tX9_meetFile_36 hG h)
def bX9_meetFile_0 (n : Nat) (l1 : Int32) (l2 : Int32) (I : am_I) : Option (Int32 × am_I) := (gX9_meet n l1 l2 I).bind (fun q1 => if q1.1 = 0 then (bX9_meetFile_35 n q1.2) else ((gX10_inodeBlock n l1 q1.2).bind (fun q2 => (gX9_read n q2.1 (nI 0) q2.2).bind (fun q3 => if q3.1 = (nI 1) then (bX9_meetFile_31 n q3.2) else ((gX9_fail n (-4 : Int32) q3.2).bind (fun q4 => if q4.1 = 0 then (bX9_meetFile_35 n q4.2) else (bX9_meetFile_31 n q4.2)))))))
theorem tX9_meetFile_0 {G : am_G} (hG : am_ok G) {d : Nat} {l1 : Int32} {l2 : Int32} {I : am_I} {r : Int32 × am_I} (h : bX9_meetFile_0 G.2.2.2.1 l1 l2  I = some r) : am_J G (d + 2) mX9_meetFile am_no (am_E (some r.1) r.2) 0 [some (.inr (0, 15)), some (.inl l1), some (.inl l2)] [] I := by
  unfold bX9_meetFile_0 at h
  refine am_aload_n dX9_meetFile_0 rfl ?_
  refine am_iload_n dX9_meetFile_1 rfl ?_
  refine am_iload_n dX9_meetFile_2 rfl ?_
  obtain ⟨q1, hq1, h⟩ := am_bd h
  refine am_callVx (i := 0) (j := 15) (as := [.inl l1, .inl l2]) (rest := []) dX9_meetFile_3 lkX9_meet ml_X9_211 imX9_meet seX9_meet rfl rfl (hG.m0 (by decide)) rfl (Nat.le_of_ble_eq_true rfl) rfl (sX9_meet hG hq1) ?_
  refine am_if_eq (tgt := 35) dX9_meetFile_6 rfl (fun c => ?_) (fun c => ?_)
  · rw [if_pos c] at h
    exact am_lwJ (lo' := [none, none, none]) trivial (tX9_meetFile_35 hG h)
  · rw [if_neg c] at h
    refine am_aload_n dX9_meetFile_9 rfl ?_
    refine am_iload_n dX9_meetFile_10 rfl ?_
    obtain ⟨q2, hq2, h⟩ := am_bd h
    refine am_callSNx (as := [.inl l1]) (rest := [.inr (0, 15)]) dX9_meetFile_11 lkX10_inodeBlock nl_X9_193 isX10_inodeBlock rfl (Nat.le_of_ble_eq_true rfl) rfl (sX10_inodeBlock hG hq2) ?_
    refine am_iconst (v := nI 0) dX9_meetFile_14 (by decide) ?_
    obtain ⟨q3, hq3, h⟩ := am_bd h
    refine am_callVx (i := 0) (j := 15) (as := [.inl q2.1, .inl (nI 0)]) (rest := []) dX9_meetFile_15 lkX9_read ml_X9_197 imX9_read seX9_read rfl rfl (hG.m0 (by decide)) rfl (Nat.le_of_ble_eq_true rfl) rfl (sX9_read hG hq3) ?_
    refine am_iconst (v := nI 1) dX9_meetFile_18 (by decide) ?_
    refine am_icmp_eq (tgt := 31) dX9_meetFile_19 rfl (fun c => ?_) (fun c => ?_)
    · rw [if_pos c] at h
      exact am_lwJ (lo' := [none, none, none]) trivial (tX9_meetFile_31 hG h)
    · rw [if_neg c] at h
      refine am_aload_n dX9_meetFile_22 rfl ?_
      refine am_bipush (v := (-4 : Int32)) dX9_meetFile_23 (by decide) ?_
      obtain ⟨q4, hq4, h⟩ := am_bd h
      refine am_callVx (i := 0) (j := 15) (as := [.inl (-4 : Int32)]) (rest := []) dX9_meetFile_25 lkX9_fail ml_X9_225 imX9_fail seX9_fail rfl rfl (hG.m0 (by decide)) rfl (Nat.le_of_ble_eq_true rfl) rfl (sX9_fail hG hq4) ?_
      refine am_if_eq (tgt := 35) dX9_meetFile_28 rfl (fun c => ?_) (fun c => ?_)
      · rw [if_pos c] at h
        exact am_lwJ (lo' := [none, none, none]) trivial (tX9_meetFile_35 hG h)
      · rw [if_neg c] at h
        exact am_lwJ (lo' := [none, none, none]) trivial (tX9_meetFile_31 hG h)
def gX9_meetFile (n : Nat) (l1 : Int32) (l2 : Int32) (I : am_I) : Option (Int32 × am_I) := bX9_meetFile_0 n l1 l2 I
theorem sX9_meetFile {G : am_G} (hG : am_ok G) {d : Nat} {l1 : Int32} {l2 : Int32} {I : am_I} {r : Int32 × am_I} (h : gX9_meetFile G.2.2.2.1 l1 l2 I = some r) : am_C G (d + 2) mX9_meetFile [.inr (0, 15), .inl l1, .inl l2] I (am_E (some r.1) r.2) :=
  am_of (by decide +kernel) hG.nd (Nat.le_of_ble_eq_true rfl) (am_lwJ (lo' := [some (.inr (0, 15)), some (.inl l1), some (.inl l2)]) ⟨rfl, rfl, rfl, trivial⟩ (tX9_meetFile_0 hG h))
def bX9_link_0 (n : Nat) (l1 : Nat) (I : am_I) : Option (am_I) := (gX9_meetDirectory n (I l1 55 1) (nI 2) I).bind (fun q1 => if q1.1 = 0 then (some q1.2) else ((gX9_find n (q1.2 l1 55 1) (q1.2 l1 55 2) q1.2).bind (fun q2 => if q2.1 = (-1 : Int32) then ((gX9_meetFile n (q2.2 l1 55 3) (nI 2) q2.2).bind (fun q3 => if q3.1 = 0 then (some q3.2) else ((gX10_inodeBlock n (q3.2 l1 55 3) q3.2).bind (fun q4 => (gX9_read n q4.1 (nI 1) q4.2).bind (fun q5 => (gX10_inodeBlock n (q5.2 l1 55 3) q5.2).bind (fun q6 => (gX9_set n q6.1 (nI 1) (q5.1 + (nI 1)) q6.2).bind (fun q7 => (gX9_putNext n (q7 l1 55 1) (q7 l1 55 2) (q7 l1 55 3) (q5.1 + (nI 1)) q7).bind (fun q8 => some q8)))))))) else ((gX9_fail n (-6 : Int32) q2.2).bind (fun q9 => some q9.2)))))
theorem tX9_link_0 {G : am_G} (hG : am_ok G) {d : Nat} {l1 : Nat} (hl1 : l1 < G.2.2.2.1) {I : am_I} {r : am_I} (h : bX9_link_0 G.2.2.2.1 l1  I = some r) : am_J G (d + 4) mX9_link am_no (am_E none r) 0 [some (.inr (0, 15)), some (.inr (l1, 55)), none] [] I := by
  unfold bX9_link_0 at h
  refine am_aload_n dX9_link_0 rfl ?_
  refine am_aload_n dX9_link_1 rfl ?_
  refine am_get (v := .inl (I l1 55 1)) dX9_link_2 fl_9_271 (hG.mn hl1 (by decide) (by decide)) rfl ?_
  refine am_iconst (v := nI 2) dX9_link_5 (by decide) ?_
  obtain ⟨q1, hq1, h⟩ := am_bd h
  refine am_callVx (i := 0) (j := 15) (as := [.inl (I l1 55 1), .inl (nI 2)]) (rest := []) dX9_link_6 lkX9_meetDirectory ml_X9_274 imX9_meetDirectory seX9_meetDirectory rfl rfl (hG.m0 (by decide)) rfl (Nat.le_of_ble_eq_true rfl) rfl (sX9_meetDirectory hG hq1) ?_
  refine am_if_ne (tgt := 13) dX9_link_9 rfl (fun c => ?_) (fun c => ?_)
  · rw [if_neg c] at h
    refine am_aload_n dX9_link_13 rfl ?_
    refine am_aload_n dX9_link_14 rfl ?_
    refine am_get (v := .inl (q1.2 l1 55 1)) dX9_link_15 fl_9_271 (hG.mn hl1 (by decide) (by decide)) rfl ?_
    refine am_aload_n dX9_link_18 rfl ?_
    refine am_get (v := .inl (q1.2 l1 55 2)) dX9_link_19 fl_9_277 (hG.mn hl1 (by decide) (by decide)) rfl ?_
    obtain ⟨q2, hq2, h⟩ := am_bd h
    refine am_callVx (i := 0) (j := 15) (as := [.inl (q1.2 l1 55 1), .inl (q1.2 l1 55 2)]) (rest := []) dX9_link_22 lkX9_find ml_X9_265 imX9_find seX9_find rfl rfl (hG.m0 (by decide)) rfl (Nat.le_of_ble_eq_true rfl) rfl (sX9_find hG hq2) ?_
    refine am_iconst (v := (-1 : Int32)) dX9_link_25 (by decide) ?_
    refine am_icmp_eq (tgt := 37) dX9_link_26 rfl (fun c => ?_) (fun c => ?_)
    · rw [if_pos c] at h
      refine am_aload_n dX9_link_37 rfl ?_
      refine am_aload_n dX9_link_38 rfl ?_
      refine am_get (v := .inl (q2.2 l1 55 3)) dX9_link_39 fl_9_289 (hG.mn hl1 (by decide) (by decide)) rfl ?_
      refine am_iconst (v := nI 2) dX9_link_42 (by decide) ?_
      obtain ⟨q3, hq3, h⟩ := am_bd h
      refine am_callVx (i := 0) (j := 15) (as := [.inl (q2.2 l1 55 3), .inl (nI 2)]) (rest := []) dX9_link_43 lkX9_meetFile ml_X9_303 imX9_meetFile seX9_meetFile rfl rfl (hG.m0 (by decide)) rfl (Nat.le_of_ble_eq_true rfl) rfl (sX9_meetFile hG hq3) ?_
      refine am_if_ne (tgt := 50) dX9_link_46 rfl (fun c => ?_) (fun c => ?_)
      · rw [if_neg c] at h
        refine am_aload_n dX9_link_50 rfl ?_
        refine am_aload_n dX9_link_51 rfl ?_
        refine am_get (v := .inl (q3.2 l1 55 3)) dX9_link_52 fl_9_289 (hG.mn hl1 (by decide) (by decide)) rfl ?_
        obtain ⟨q4, hq4, h⟩ := am_bd h
        refine am_callSNx (as := [.inl (q3.2 l1 55 3)]) (rest := [.inr (0, 15)]) dX9_link_55 lkX10_inodeBlock nl_X9_193 isX10_inodeBlock rfl (Nat.le_of_ble_eq_true rfl) rfl (sX10_inodeBlock hG hq4) ?_
        refine am_iconst (v := nI 1) dX9_link_58 (by decide) ?_
        obtain ⟨q5, hq5, h⟩ := am_bd h
        refine am_callVx (i := 0) (j := 15) (as := [.inl q4.1, .inl (nI 1)]) (rest := []) dX9_link_59 lkX9_read ml_X9_197 imX9_read seX9_read rfl rfl (hG.m0 (by decide)) rfl (Nat.le_of_ble_eq_true rfl) rfl (sX9_read hG hq5) ?_
        refine am_iconst (v := nI 1) dX9_link_62 (by decide) ?_
        refine am_iadd dX9_link_63 ?_
        refine am_istore_n dX9_link_64 (by decide) ?_
        refine am_aload_n dX9_link_65 rfl ?_
        refine am_aload_n dX9_link_66 rfl ?_
        refine am_get (v := .inl (q5.2 l1 55 3)) dX9_link_67 fl_9_289 (hG.mn hl1 (by decide) (by decide)) rfl ?_
        obtain ⟨q6, hq6, h⟩ := am_bd h
        refine am_callSNx (as := [.inl (q5.2 l1 55 3)]) (rest := [.inr (0, 15)]) dX9_link_70 lkX10_inodeBlock nl_X9_193 isX10_inodeBlock rfl (Nat.le_of_ble_eq_true rfl) rfl (sX10_inodeBlock hG hq6) ?_
        refine am_iconst (v := nI 1) dX9_link_73 (by decide) ?_
        refine am_iload_n dX9_link_74 rfl ?_
        obtain ⟨q7, hq7, h⟩ := am_bd h
        refine am_callVe (i := 0) (j := 15) (as := [.inl q6.1, .inl (nI 1), .inl (q5.1 + (nI 1))]) (rest := []) dX9_link_75 lkX9_set ml_X9_204 imX9_set seX9_set rfl rfl (hG.m0 (by decide)) rfl (Nat.le_of_ble_eq_true rfl) rfl (sX9_set hG hq7) ?_
        refine am_aload_n dX9_link_78 rfl ?_
        refine am_aload_n dX9_link_79 rfl ?_
        refine am_get (v := .inl (q7 l1 55 1)) dX9_link_80 fl_9_271 (hG.mn hl1 (by decide) (by decide)) rfl ?_
        refine am_aload_n dX9_link_83 rfl ?_
        refine am_get (v := .inl (q7 l1 55 2)) dX9_link_84 fl_9_277 (hG.mn hl1 (by decide) (by decide)) rfl ?_
        refine am_aload_n dX9_link_87 rfl ?_
        refine am_get (v := .inl (q7 l1 55 3)) dX9_link_88 fl_9_289 (hG.mn hl1 (by decide) (by decide)) rfl ?_
        refine am_iload_n dX9_link_91 rfl ?_
        obtain ⟨q8, hq8, h⟩ := am_bd h
        refine am_callVe (i := 0) (j := 15) (as := [.inl (q7 l1 55 1), .inl (q7 l1 55 2), .inl (q7 l1 55 3), .inl (q5.1 + (nI 1))]) (rest := []) dX9_link_92 lkX9_putNext ml_X9_292 imX9_putNext seX9_putNext rfl rfl (hG.m0 (by decide)) rfl (Nat.le_of_ble_eq_true rfl) rfl (sX9_putNext hG hq8) ?_
        cases h
        exact am_vret dX9_link_95 rfl ⟨rfl, rfl⟩
      · rw [if_pos c] at h
        cases h
        exact am_vret dX9_link_49 rfl ⟨rfl, rfl⟩
    · rw [if_neg c] at h
      refine am_aload_n dX9_link_29 rfl ?_
      refine am_bipush (v := (-6 : Int32)) dX9_link_30 (by decide) ?_
      obtain ⟨q9, hq9, h⟩ := am_bd h
      refine am_callVx (i := 0) (j := 15) (as := [.inl (-6 : Int32)]) (rest := []) dX9_link_32 lkX9_fail ml_X9_225 imX9_fail seX9_fail rfl rfl (hG.m0 (by decide)) rfl (Nat.le_of_ble_eq_true rfl) rfl (sX9_fail hG hq9) ?_
      refine am_pop dX9_link_35 ?_
      cases h
      exact am_vret dX9_link_36 rfl ⟨rfl, rfl⟩
  · rw [if_pos c] at h
    cases h
    exact am_vret dX9_link_12 rfl ⟨rfl, rfl⟩
def gX9_link (n : Nat) (l1 : Nat) (I : am_I) : Option (am_I) := bX9_link_0 n l1 I
theorem sX9_link {G : am_G} (hG : am_ok G) {d : Nat} {l1 : Nat} (hl1 : l1 < G.2.2.2.1) {I : am_I} {r : am_I} (h : gX9_link G.2.2.2.1 l1 I = some r) : am_C G (d + 4) mX9_link [.inr (0, 15), .inr (l1, 55)] I (am_E none r) :=
  am_of (by decide +kernel) hG.nd (Nat.le_of_ble_eq_true rfl) (am_lwJ (lo' := [some (.inr (0, 15)), some (.inr (l1, 55)), none]) ⟨rfl, rfl, trivial⟩ (tX9_link_0 hG hl1 h))
def bX9_rename_24 (n : Nat) (I : am_I) : Option (am_I) := some I
theorem tX9_rename_24 {G : am_G} (hG : am_ok G) {d : Nat} {I : am_I} {r : am_I} (h : bX9_rename_24 G.2.2.2.1  I = some r) : am_J G (d + 4) mX9_rename am_no (am_E none r) 24 [none, none, none, none] [] I := by
  unfold bX9_rename_24 at h
  cases h
  exact am_vret dX9_rename_24 rfl ⟨rfl, rfl⟩
def bX9_rename_131 (n : Nat) (l1 : Nat) (l2 : Int32) (l3 : Int32) (I : am_I) : Option (am_I) := (gX9_find n (I l1 55 3) (I l1 55 4) I).bind (fun q1 => if q1.1 = (-1 : Int32) then ((gX9_eraseEntry n (q1.2 l1 55 1) l2 q1.2).bind (fun q2 => (gX9_putNext n (q2 l1 55 3) (q2 l1 55 4) l3 (nI 0) q2).bind (fun q3 => some q3))) else ((gX9_fail n (-6 : Int32) q1.2).bind (fun q4 => some q4.2)))
theorem tX9_rename_131 {G : am_G} (hG : am_ok G) {d : Nat} {l1 : Nat} {l2 : Int32} {l3 : Int32} (hl1 : l1 < G.2.2.2.1) {I : am_I} {r : am_I} (h : bX9_rename_131 G.2.2.2.1 l1 l2 l3  I = some r) : am_J G (d + 4) mX9_rename am_no (am_E none r) 131 [some (.inr (0, 15)), some (.inr (l1, 55)), some (.inl l2), some (.inl l3)] [] I := by
  unfold bX9_rename_131 at h
  refine am_aload_n dX9_rename_131 rfl ?_
  refine am_aload_n dX9_rename_132 rfl ?_
  refine am_get (v := .inl (I l1 55 3)) dX9_rename_133 fl_9_289 (hG.mn hl1 (by decide) (by decide)) rfl ?_
  refine am_aload_n dX9_rename_136 rfl ?_
  refine am_get (v := .inl (I l1 55 4)) dX9_rename_137 fl_9_306 (hG.mn hl1 (by decide) (by decide)) rfl ?_
  obtain ⟨q1, hq1, h⟩ := am_bd h
  refine am_callVx (i := 0) (j := 15) (as := [.inl (I l1 55 3), .inl (I l1 55 4)]) (rest := []) dX9_rename_140 lkX9_find ml_X9_265 imX9_find seX9_find rfl rfl (hG.m0 (by decide)) rfl (Nat.le_of_ble_eq_true rfl) rfl (sX9_find hG hq1) ?_
  refine am_iconst (v := (-1 : Int32)) dX9_rename_143 (by decide) ?_
  refine am_icmp_eq (tgt := 155) dX9_rename_144 rfl (fun c => ?_) (fun c => ?_)
  · rw [if_pos c] at h
    refine am_aload_n dX9_rename_155 rfl ?_
    refine am_aload_n dX9_rename_156 rfl ?_
    refine am_get (v := .inl (q1.2 l1 55 1)) dX9_rename_157 fl_9_271 (hG.mn hl1 (by decide) (by decide)) rfl ?_
    refine am_iload_n dX9_rename_160 rfl ?_
    obtain ⟨q2, hq2, h⟩ := am_bd h
    refine am_callVe (i := 0) (j := 15) (as := [.inl (q1.2 l1 55 1), .inl l2]) (rest := []) dX9_rename_161 lkX9_eraseEntry ml_X9_299 imX9_eraseEntry seX9_eraseEntry rfl rfl (hG.m0 (by decide)) rfl (Nat.le_of_ble_eq_true rfl) rfl (sX9_eraseEntry hG hq2) ?_
    refine am_aload_n dX9_rename_164 rfl ?_
    refine am_aload_n dX9_rename_165 rfl ?_
    refine am_get (v := .inl (q2 l1 55 3)) dX9_rename_166 fl_9_289 (hG.mn hl1 (by decide) (by decide)) rfl ?_
    refine am_aload_n dX9_rename_169 rfl ?_
    refine am_get (v := .inl (q2 l1 55 4)) dX9_rename_170 fl_9_306 (hG.mn hl1 (by decide) (by decide)) rfl ?_
    refine am_iload_n dX9_rename_173 rfl ?_
    refine am_iconst (v := nI 0) dX9_rename_174 (by decide) ?_
    obtain ⟨q3, hq3, h⟩ := am_bd h
    refine am_callVe (i := 0) (j := 15) (as := [.inl (q2 l1 55 3), .inl (q2 l1 55 4), .inl l3, .inl (nI 0)]) (rest := []) dX9_rename_175 lkX9_putNext ml_X9_292 imX9_putNext seX9_putNext rfl rfl (hG.m0 (by decide)) rfl (Nat.le_of_ble_eq_true rfl) rfl (sX9_putNext hG hq3) ?_
    cases h
    exact am_vret dX9_rename_178 rfl ⟨rfl, rfl⟩
  · rw [if_neg c] at h
    refine am_aload_n dX9_rename_147 rfl ?_
    refine am_bipush (v := (-6 : Int32)) dX9_rename_148 (by decide) ?_
    obtain ⟨q4, hq4, h⟩ := am_bd h
    refine am_callVx (i := 0) (j := 15) (as := [.inl (-6 : Int32)]) (rest := []) dX9_rename_150 lkX9_fail ml_X9_225 imX9_fail seX9_fail rfl rfl (hG.m0 (by decide)) rfl (Nat.le_of_ble_eq_true rfl) rfl (sX9_fail hG hq4) ?_
    refine am_pop dX9_rename_153 ?_
    cases h
    exact am_vret dX9_rename_154 rfl ⟨rfl, rfl⟩
def bX9_rename_56 (n : Nat) (l1 : Nat) (l2 : Int32) (s0 : Int32) (I : am_I) : Option (am_I) := (gX10_isInode n s0 I).bind (fun q1 => if q1.1 = 0 then ((gX9_fail n (-3 : Int32) q1.2).bind (fun q7 => some q7.2)) else (if (q1.2 l1 55 1) = (q1.2 l1 55 3) then (if (q1.2 l1 55 2) = (q1.2 l1 55 4) then ((gX9_finish n (nI 0) q1.2).bind (fun q2 => some q2)) else (bX9_rename_131 n l1 l2 s0 q1.2)) else ((gX9_meet n s0 (nI 1) q1.2).bind (fun q3 => if q3.1 = 0 then (some q3.2) else ((gX10_inodeBlock n s0 q3.2).bind (fun q4 => (gX9_read n q4.1 (nI 0) q4.2).bind (fun q5 => if q5.1 = (nI 2) then ((gX9_fail n (-9 : Int32) q5.2).bind (fun q6 => some q6.2)) else (bX9_rename_131 n l1 l2 s0 q5.2))))))))
theorem tX9_rename_56 {G : am_G} (hG : am_ok G) {d : Nat} {l1 : Nat} {l2 : Int32} {s0 : Int32} (hl1 : l1 < G.2.2.2.1) {I : am_I} {r : am_I} (h : bX9_rename_56 G.2.2.2.1 l1 l2 s0  I = some r) : am_J G (d + 4) mX9_rename am_no (am_E none r) 56 [some (.inr (0, 15)), some (.inr (l1, 55)), some (.inl l2), none] [.inl s0] I := by
  unfold bX9_rename_56 at h
  refine am_istore_n dX9_rename_56 (by decide) ?_
  refine am_iload_n dX9_rename_57 rfl ?_
  obtain ⟨q1, hq1, h⟩ := am_bd h
  refine am_callSNx (as := [.inl s0]) (rest := []) dX9_rename_58 lkX10_isInode nl_X9_96 isX10_isInode rfl (Nat.le_of_ble_eq_true rfl) rfl (sX10_isInode hG hq1) ?_
  refine am_if_ne (tgt := 72) dX9_rename_61 rfl (fun c => ?_) (fun c => ?_)
  · rw [if_neg c] at h
    refine am_aload_n dX9_rename_72 rfl ?_
    refine am_get (v := .inl (q1.2 l1 55 1)) dX9_rename_73 fl_9_271 (hG.mn hl1 (by decide) (by decide)) rfl ?_
    refine am_aload_n dX9_rename_76 rfl ?_
    refine am_get (v := .inl (q1.2 l1 55 3)) dX9_rename_77 fl_9_289 (hG.mn hl1 (by decide) (by decide)) rfl ?_
    refine am_icmp_eq (tgt := 114) dX9_rename_80 rfl (fun c => ?_) (fun c => ?_)
    · rw [if_pos c] at h
      refine am_aload_n dX9_rename_114 rfl ?_
      refine am_get (v := .inl (q1.2 l1 55 2)) dX9_rename_115 fl_9_277 (hG.mn hl1 (by decide) (by decide)) rfl ?_
      refine am_aload_n dX9_rename_118 rfl ?_
      refine am_get (v := .inl (q1.2 l1 55 4)) dX9_rename_119 fl_9_306 (hG.mn hl1 (by decide) (by decide)) rfl ?_
      refine am_icmp_ne (tgt := 131) dX9_rename_122 rfl (fun c => ?_) (fun c => ?_)
      · rw [if_neg c] at h
        exact am_lwJ (lo' := [some (.inr (0, 15)), some (.inr (l1, 55)), some (.inl l2), some (.inl s0)]) ⟨rfl, rfl, rfl, rfl, trivial⟩ (tX9_rename_131 hG hl1 h)
      · rw [if_pos c] at h
        refine am_aload_n dX9_rename_125 rfl ?_
        refine am_iconst (v := nI 0) dX9_rename_126 (by decide) ?_
        obtain ⟨q2, hq2, h⟩ := am_bd h
        refine am_callVe (i := 0) (j := 15) (as := [.inl (nI 0)]) (rest := []) dX9_rename_127 lkX9_finish ml_X9_283 imX9_finish seX9_finish rfl rfl (hG.m0 (by decide)) rfl (Nat.le_of_ble_eq_true rfl) rfl (sX9_finish hG hq2) ?_
        cases h
        exact am_vret dX9_rename_130 rfl ⟨rfl, rfl⟩
    · rw [if_neg c] at h
      refine am_aload_n dX9_rename_83 rfl ?_
      refine am_iload_n dX9_rename_84 rfl ?_
      refine am_iconst (v := nI 1) dX9_rename_85 (by decide) ?_
      obtain ⟨q3, hq3, h⟩ := am_bd h
      refine am_callVx (i := 0) (j := 15) (as := [.inl s0, .inl (nI 1)]) (rest := []) dX9_rename_86 lkX9_meet ml_X9_211 imX9_meet seX9_meet rfl rfl (hG.m0 (by decide)) rfl (Nat.le_of_ble_eq_true rfl) rfl (sX9_meet hG hq3) ?_
      refine am_if_ne (tgt := 93) dX9_rename_89 rfl (fun c => ?_) (fun c => ?_)
      · rw [if_neg c] at h
        refine am_aload_n dX9_rename_93 rfl ?_
        refine am_iload_n dX9_rename_94 rfl ?_
        obtain ⟨q4, hq4, h⟩ := am_bd h
        refine am_callSNx (as := [.inl s0]) (rest := [.inr (0, 15)]) dX9_rename_95 lkX10_inodeBlock nl_X9_193 isX10_inodeBlock rfl (Nat.le_of_ble_eq_true rfl) rfl (sX10_inodeBlock hG hq4) ?_
        refine am_iconst (v := nI 0) dX9_rename_98 (by decide) ?_
        obtain ⟨q5, hq5, h⟩ := am_bd h
        refine am_callVx (i := 0) (j := 15) (as := [.inl q4.1, .inl (nI 0)]) (rest := []) dX9_rename_99 lkX9_read ml_X9_197 imX9_read seX9_read rfl rfl (hG.m0 (by decide)) rfl (Nat.le_of_ble_eq_true rfl) rfl (sX9_read hG hq5) ?_
        refine am_iconst (v := nI 2) dX9_rename_102 (by decide) ?_
        refine am_icmp_ne (tgt := 131) dX9_rename_103 rfl (fun c => ?_) (fun c => ?_)
        · rw [if_neg c] at h
          exact am_lwJ (lo' := [some (.inr (0, 15)), some (.inr (l1, 55)), some (.inl l2), some (.inl s0)]) ⟨rfl, rfl, rfl, rfl, trivial⟩ (tX9_rename_131 hG hl1 h)
        · rw [if_pos c] at h
          refine am_aload_n dX9_rename_106 rfl ?_
          refine am_bipush (v := (-9 : Int32)) dX9_rename_107 (by decide) ?_
          obtain ⟨q6, hq6, h⟩ := am_bd h
          refine am_callVx (i := 0) (j := 15) (as := [.inl (-9 : Int32)]) (rest := []) dX9_rename_109 lkX9_fail ml_X9_225 imX9_fail seX9_fail rfl rfl (hG.m0 (by decide)) rfl (Nat.le_of_ble_eq_true rfl) rfl (sX9_fail hG hq6) ?_
          refine am_pop dX9_rename_112 ?_
          cases h
          exact am_vret dX9_rename_113 rfl ⟨rfl, rfl⟩
      · rw [if_pos c] at h
        cases h
        exact am_vret dX9_rename_92 rfl ⟨rfl, rfl⟩
  · rw [if_pos c] at h
    refine am_aload_n dX9_rename_64 rfl ?_
    refine am_bipush (v := (-3 : Int32)) dX9_rename_65 (by decide) ?_
    obtain ⟨q7, hq7, h⟩ := am_bd h
    refine am_callVx (i := 0) (j := 15) (as := [.inl (-3 : Int32)]) (rest := []) dX9_rename_67 lkX9_fail ml_X9_225 imX9_fail seX9_fail rfl rfl (hG.m0 (by decide)) rfl (Nat.le_of_ble_eq_true rfl) rfl (sX9_fail hG hq7) ?_
    refine am_pop dX9_rename_70 ?_
    cases h
    exact am_vret dX9_rename_71 rfl ⟨rfl, rfl⟩
def bX9_rename_0 (n : Nat) (l1 : Nat) (I : am_I) : Option (am_I) := (gX9_meetDirectory n (I l1 55 1) (nI 2) I).bind (fun q1 => if q1.1 = 0 then (bX9_rename_24 n q1.2) else ((gX9_meetDirectory n (q1.2 l1 55 3) (nI 2) q1.2).bind (fun q2 => if q2.1 = 0 then (bX9_rename_24 n q2.2) else ((gX9_find n (q2.2 l1 55 1) (q2.2 l1 55 2) q2.2).bind (fun q3 => if q3.1 = (-1 : Int32) then (bX9_rename_56 n l1 q3.1 (-1 : Int32) q3.2) else ((gX9_inodeAt n (q3.2 l1 55 1) q3.1 q3.2).bind (fun q4 => bX9_rename_56 n l1 q3.1 q4.1 q4.2)))))))
theorem tX9_rename_0 {G : am_G} (hG : am_ok G) {d : Nat} {l1 : Nat} (hl1 : l1 < G.2.2.2.1) {I : am_I} {r : am_I} (h : bX9_rename_0 G.2.2.2.1 l1  I = some r) : am_J G (d + 4) mX9_rename am_no (am_E none r) 0 [some (.inr (0, 15)), some (.inr (l1, 55)), none, none] [] I := by
  unfold bX9_rename_0 at h
  refine am_aload_n dX9_rename_0 rfl ?_
  refine am_aload_n dX9_rename_1 rfl ?_
  refine am_get (v := .inl (I l1 55 1)) dX9_rename_2 fl_9_271 (hG.mn hl1 (by decide) (by decide)) rfl ?_
  refine am_iconst (v := nI 2) dX9_rename_5 (by decide) ?_
  obtain ⟨q1, hq1, h⟩ := am_bd h
  refine am_callVx (i := 0) (j := 15) (as := [.inl (I l1 55 1), .inl (nI 2)]) (rest := []) dX9_rename_6 lkX9_meetDirectory ml_X9_274 imX9_meetDirectory seX9_meetDirectory rfl rfl (hG.m0 (by decide)) rfl (Nat.le_of_ble_eq_true rfl) rfl (sX9_meetDirectory hG hq1) ?_
  refine am_if_eq (tgt := 24) dX9_rename_9 rfl (fun c => ?_) (fun c => ?_)
  · rw [if_pos c] at h
    exact am_lwJ (lo' := [none, none, none, none]) trivial (tX9_rename_24 hG h)
  · rw [if_neg c] at h
    refine am_aload_n dX9_rename_12 rfl ?_
    refine am_aload_n dX9_rename_13 rfl ?_
    refine am_get (v := .inl (q1.2 l1 55 3)) dX9_rename_14 fl_9_289 (hG.mn hl1 (by decide) (by decide)) rfl ?_
    refine am_iconst (v := nI 2) dX9_rename_17 (by decide) ?_
    obtain ⟨q2, hq2, h⟩ := am_bd h
    refine am_callVx (i := 0) (j := 15) (as := [.inl (q1.2 l1 55 3), .inl (nI 2)]) (rest := []) dX9_rename_18 lkX9_meetDirectory ml_X9_274 imX9_meetDirectory seX9_meetDirectory rfl rfl (hG.m0 (by decide)) rfl (Nat.le_of_ble_eq_true rfl) rfl (sX9_meetDirectory hG hq2) ?_
    refine am_if_ne (tgt := 25) dX9_rename_21 rfl (fun c => ?_) (fun c => ?_)
    · rw [if_neg c] at h
      refine am_aload_n dX9_rename_25 rfl ?_
      refine am_aload_n dX9_rename_26 rfl ?_
      refine am_get (v := .inl (q2.2 l1 55 1)) dX9_rename_27 fl_9_271 (hG.mn hl1 (by decide) (by decide)) rfl ?_
      refine am_aload_n dX9_rename_30 rfl ?_
      refine am_get (v := .inl (q2.2 l1 55 2)) dX9_rename_31 fl_9_277 (hG.mn hl1 (by decide) (by decide)) rfl ?_
      obtain ⟨q3, hq3, h⟩ := am_bd h
      refine am_callVx (i := 0) (j := 15) (as := [.inl (q2.2 l1 55 1), .inl (q2.2 l1 55 2)]) (rest := []) dX9_rename_34 lkX9_find ml_X9_265 imX9_find seX9_find rfl rfl (hG.m0 (by decide)) rfl (Nat.le_of_ble_eq_true rfl) rfl (sX9_find hG hq3) ?_
      refine am_istore_n dX9_rename_37 (by decide) ?_
      refine am_iload_n dX9_rename_38 rfl ?_
      refine am_iconst (v := (-1 : Int32)) dX9_rename_39 (by decide) ?_
      refine am_icmp_ne (tgt := 47) dX9_rename_40 rfl (fun c => ?_) (fun c => ?_)
      · rw [if_neg c] at h
        refine am_aload_n dX9_rename_47 rfl ?_
        refine am_aload_n dX9_rename_48 rfl ?_
        refine am_get (v := .inl (q3.2 l1 55 1)) dX9_rename_49 fl_9_271 (hG.mn hl1 (by decide) (by decide)) rfl ?_
        refine am_iload_n dX9_rename_52 rfl ?_
        obtain ⟨q4, hq4, h⟩ := am_bd h
        refine am_callVx (i := 0) (j := 15) (as := [.inl (q3.2 l1 55 1), .inl q3.1]) (rest := []) dX9_rename_53 lkX9_inodeAt ml_X9_280 imX9_inodeAt seX9_inodeAt rfl rfl (hG.m0 (by decide)) rfl (Nat.le_of_ble_eq_true rfl) rfl (sX9_inodeAt hG hq4) ?_
        exact am_lwJ (lo' := [some (.inr (0, 15)), some (.inr (l1, 55)), some (.inl q3.1), none]) ⟨rfl, rfl, rfl, trivial⟩ (tX9_rename_56 hG hl1 h)
      · rw [if_pos c] at h
        refine am_iconst (v := (-1 : Int32)) dX9_rename_43 (by decide) ?_
        refine am_goto (tgt := 56) dX9_rename_44 rfl ?_
        exact am_lwJ (lo' := [some (.inr (0, 15)), some (.inr (l1, 55)), some (.inl q3.1), none]) ⟨rfl, rfl, rfl, trivial⟩ (tX9_rename_56 hG hl1 h)
    · rw [if_pos c] at h
      exact am_lwJ (lo' := [none, none, none, none]) trivial (tX9_rename_24 hG h)
def gX9_rename (n : Nat) (l1 : Nat) (I : am_I) : Option (am_I) := bX9_rename_0 n l1 I
theorem sX9_rename {G : am_G} (hG : am_ok G) {d : Nat} {l1 : Nat} (hl1 : l1 < G.2.2.2.1) {I : am_I} {r : am_I} (h : gX9_rename G.2.2.2.1 l1 I = some r) : am_C G (d + 4) mX9_rename [.inr (0, 15), .inr (l1, 55)] I (am_E none r) :=
  am_of (by decide +kernel) hG.nd (Nat.le_of_ble_eq_true rfl) (am_lwJ (lo' := [some (.inr (0, 15)), some (.inr (l1, 55)), none, none]) ⟨rfl, rfl, trivial⟩ (tX9_rename_0 hG hl1 h))
def bX9_readWord_70 (n : Nat) (s0 : Int32) (I : am_I) : Option (am_I) := (gX9_finish n s0 I).bind (fun q1 => some q1)
theorem tX9_readWord_70 {G : am_G} (hG : am_ok G) {d : Nat} {s0 : Int32} {I : am_I} {r : am_I} (h : bX9_readWord_70 G.2.2.2.1 s0  I = some r) : am_J G (d + 3) mX9_readWord am_no (am_E none r) 70 [none, none, none] [.inl s0, .inr (0, 15)] I := by
  unfold bX9_readWord_70 at h
  obtain ⟨q1, hq1, h⟩ := am_bd h
  refine am_callVe (i := 0) (j := 15) (as := [.inl s0]) (rest := []) dX9_readWord_70 lkX9_finish ml_X9_283 imX9_finish seX9_finish rfl rfl (hG.m0 (by decide)) rfl (Nat.le_of_ble_eq_true rfl) rfl (sX9_finish hG hq1) ?_
  cases h
  exact am_vret dX9_readWord_73 rfl ⟨rfl, rfl⟩
def bX9_readWord_0 (n : Nat) (l1 : Nat) (I : am_I) : Option (am_I) := (gX9_meetFile n (I l1 55 1) (nI 1) I).bind (fun q1 => if q1.1 = 0 then (some q1.2) else ((gX9_sizeOf n (q1.2 l1 55 1) q1.2).bind (fun q2 => if (q1.2 l1 55 2) < q2.1 then ((gX9_blockOf n (q2.2 l1 55 1) (q2.2 l1 55 2) q2.2).bind (fun q3 => if q3.1 = 0 then (bX9_readWord_70 n (nI 0) q3.2) else ((gX9_read n q3.1 ((q3.2 l1 55 2) - (q3.2 l1 55 2) / (nI 16) * (nI 16)) q3.2).bind (fun q4 => bX9_readWord_70 n q4.1 q4.2)))) else ((gX9_fail n (-10 : Int32) q2.2).bind (fun q5 => some q5.2)))))
theorem tX9_readWord_0 {G : am_G} (hG : am_ok G) {d : Nat} {l1 : Nat} (hl1 : l1 < G.2.2.2.1) {I : am_I} {r : am_I} (h : bX9_readWord_0 G.2.2.2.1 l1  I = some r) : am_J G (d + 3) mX9_readWord am_no (am_E none r) 0 [some (.inr (0, 15)), some (.inr (l1, 55)), none] [] I := by
  unfold bX9_readWord_0 at h
  refine am_aload_n dX9_readWord_0 rfl ?_
  refine am_aload_n dX9_readWord_1 rfl ?_
  refine am_get (v := .inl (I l1 55 1)) dX9_readWord_2 fl_9_271 (hG.mn hl1 (by decide) (by decide)) rfl ?_
  refine am_iconst (v := nI 1) dX9_readWord_5 (by decide) ?_
  obtain ⟨q1, hq1, h⟩ := am_bd h
  refine am_callVx (i := 0) (j := 15) (as := [.inl (I l1 55 1), .inl (nI 1)]) (rest := []) dX9_readWord_6 lkX9_meetFile ml_X9_303 imX9_meetFile seX9_meetFile rfl rfl (hG.m0 (by decide)) rfl (Nat.le_of_ble_eq_true rfl) rfl (sX9_meetFile hG hq1) ?_
  refine am_if_ne (tgt := 13) dX9_readWord_9 rfl (fun c => ?_) (fun c => ?_)
  · rw [if_neg c] at h
    refine am_aload_n dX9_readWord_13 rfl ?_
    refine am_get (v := .inl (q1.2 l1 55 2)) dX9_readWord_14 fl_9_277 (hG.mn hl1 (by decide) (by decide)) rfl ?_
    refine am_aload_n dX9_readWord_17 rfl ?_
    refine am_aload_n dX9_readWord_18 rfl ?_
    refine am_get (v := .inl (q1.2 l1 55 1)) dX9_readWord_19 fl_9_271 (hG.mn hl1 (by decide) (by decide)) rfl ?_
    obtain ⟨q2, hq2, h⟩ := am_bd h
    refine am_callVx (i := 0) (j := 15) (as := [.inl (q1.2 l1 55 1)]) (rest := [.inl (q1.2 l1 55 2)]) dX9_readWord_22 lkX9_sizeOf ml_X9_253 imX9_sizeOf seX9_sizeOf rfl rfl (hG.m0 (by decide)) rfl (Nat.le_of_ble_eq_true rfl) rfl (sX9_sizeOf hG hq2) ?_
    refine am_icmp_lt (tgt := 36) dX9_readWord_25 rfl (fun c => ?_) (fun c => ?_)
    · rw [if_pos c] at h
      refine am_aload_n dX9_readWord_36 rfl ?_
      refine am_aload_n dX9_readWord_37 rfl ?_
      refine am_get (v := .inl (q2.2 l1 55 1)) dX9_readWord_38 fl_9_271 (hG.mn hl1 (by decide) (by decide)) rfl ?_
      refine am_aload_n dX9_readWord_41 rfl ?_
      refine am_get (v := .inl (q2.2 l1 55 2)) dX9_readWord_42 fl_9_277 (hG.mn hl1 (by decide) (by decide)) rfl ?_
      obtain ⟨q3, hq3, h⟩ := am_bd h
      refine am_callVx (i := 0) (j := 15) (as := [.inl (q2.2 l1 55 1), .inl (q2.2 l1 55 2)]) (rest := []) dX9_readWord_45 lkX9_blockOf ml_X9_256 imX9_blockOf seX9_blockOf rfl rfl (hG.m0 (by decide)) rfl (Nat.le_of_ble_eq_true rfl) rfl (sX9_blockOf hG hq3) ?_
      refine am_istore_n dX9_readWord_48 (by decide) ?_
      refine am_aload_n dX9_readWord_49 rfl ?_
      refine am_iload_n dX9_readWord_50 rfl ?_
      refine am_if_ne (tgt := 58) dX9_readWord_51 rfl (fun c => ?_) (fun c => ?_)
      · rw [if_neg c] at h
        refine am_aload_n dX9_readWord_58 rfl ?_
        refine am_iload_n dX9_readWord_59 rfl ?_
        refine am_aload_n dX9_readWord_60 rfl ?_
        refine am_get (v := .inl (q3.2 l1 55 2)) dX9_readWord_61 fl_9_277 (hG.mn hl1 (by decide) (by decide)) rfl ?_
        refine am_bipush (v := nI 16) dX9_readWord_64 (by decide) ?_
        refine am_irem dX9_readWord_66 (by decide) ?_
        obtain ⟨q4, hq4, h⟩ := am_bd h
        refine am_callVx (i := 0) (j := 15) (as := [.inl q3.1, .inl ((q3.2 l1 55 2) - (q3.2 l1 55 2) / (nI 16) * (nI 16))]) (rest := [.inr (0, 15)]) dX9_readWord_67 lkX9_read ml_X9_197 imX9_read seX9_read rfl rfl (hG.m0 (by decide)) rfl (Nat.le_of_ble_eq_true rfl) rfl (sX9_read hG hq4) ?_
        exact am_lwJ (lo' := [none, none, none]) trivial (tX9_readWord_70 hG h)
      · rw [if_pos c] at h
        refine am_iconst (v := nI 0) dX9_readWord_54 (by decide) ?_
        refine am_goto (tgt := 70) dX9_readWord_55 rfl ?_
        exact am_lwJ (lo' := [none, none, none]) trivial (tX9_readWord_70 hG h)
    · rw [if_neg c] at h
      refine am_aload_n dX9_readWord_28 rfl ?_
      refine am_bipush (v := (-10 : Int32)) dX9_readWord_29 (by decide) ?_
      obtain ⟨q5, hq5, h⟩ := am_bd h
      refine am_callVx (i := 0) (j := 15) (as := [.inl (-10 : Int32)]) (rest := []) dX9_readWord_31 lkX9_fail ml_X9_225 imX9_fail seX9_fail rfl rfl (hG.m0 (by decide)) rfl (Nat.le_of_ble_eq_true rfl) rfl (sX9_fail hG hq5) ?_
      refine am_pop dX9_readWord_34 ?_
      cases h
      exact am_vret dX9_readWord_35 rfl ⟨rfl, rfl⟩
  · rw [if_pos c] at h
    cases h
    exact am_vret dX9_readWord_12 rfl ⟨rfl, rfl⟩
def gX9_readWord (n : Nat) (l1 : Nat) (I : am_I) : Option (am_I) := bX9_readWord_0 n l1 I
theorem sX9_readWord {G : am_G} (hG : am_ok G) {d : Nat} {l1 : Nat} (hl1 : l1 < G.2.2.2.1) {I : am_I} {r : am_I} (h : gX9_readWord G.2.2.2.1 l1 I = some r) : am_C G (d + 3) mX9_readWord [.inr (0, 15), .inr (l1, 55)] I (am_E none r) :=
  am_of (by decide +kernel) hG.nd (Nat.le_of_ble_eq_true rfl) (am_lwJ (lo' := [some (.inr (0, 15)), some (.inr (l1, 55)), none]) ⟨rfl, rfl, trivial⟩ (tX9_readWord_0 hG hl1 h))
def bX9_takeBlock_75 (n : Nat) (k2 : Int32 → Int32 → am_I → Option (Int32 × am_I)) (k38 : Int32 → Int32 → Int32 → Int32 → am_I → Option (Int32 × am_I)) (l1 : Int32) (l2 : Int32) (l4 : Int32) (l5 : Int32) (l6 : Int32) (s0 : Int32) (I : am_I) : Option (Int32 × am_I) := if s0 = 0 then (k38 l1 l2 l4 (l5 + nI 1) I) else ((gJ6_numberOfTrailingZeros_0f7a4 n s0 I).bind (fun q1 => (gX9_set n l4 l5 (l6 ||| ((nI 1) <<< (q1.1 &&& 31))) q1.2).bind (fun q2 => (gX9_clear n (((l4 + (nI 17)) + ((nI 32) * (l5 - (nI 1)))) + q1.1) q2).bind (fun q3 => some (((l4 + (nI 17)) + ((nI 32) * (l5 - (nI 1)))) + q1.1, q3)))))
theorem tX9_takeBlock_75 {G : am_G} (hG : am_ok G) {d : Nat} {k2 : Int32 → Int32 → am_I → Option (Int32 × am_I)} {k38 : Int32 → Int32 → Int32 → Int32 → am_I → Option (Int32 × am_I)} (hk2 : ∀ (l1 : Int32) (l2 : Int32) (I : am_I) (r : Int32 × am_I), k2 l1 l2 I = some r → am_J G (d + 2) mX9_takeBlock am_no (am_E (some r.1) r.2) 2 [some (.inr (0, 15)), some (.inl l1), some (.inl l2), none, none, none, none, none, none, none] [] I) (hk38 : ∀ (l1 : Int32) (l2 : Int32) (l4 : Int32) (l5 : Int32) (I : am_I) (r : Int32 × am_I), k38 l1 l2 l4 l5 I = some r → am_J G (d + 2) mX9_takeBlock am_no (am_E (some r.1) r.2) 38 [some (.inr (0, 15)), some (.inl l1), some (.inl l2), none, some (.inl l4), some (.inl l5), none, none, none, none] [] I) {l1 : Int32} {l2 : Int32} {l4 : Int32} {l5 : Int32} {l6 : Int32} {s0 : Int32} {I : am_I} {r : Int32 × am_I} (h : bX9_takeBlock_75 G.2.2.2.1 k2 k38 l1 l2 l4 l5 l6 s0  I = some r) : am_J G (d + 2) mX9_takeBlock am_no (am_E (some r.1) r.2) 75 [some (.inr (0, 15)), some (.inl l1), some (.inl l2), none, some (.inl l4), some (.inl l5), some (.inl l6), none, none, none] [.inl s0] I := by
  unfold bX9_takeBlock_75 at h
  refine am_istore dX9_takeBlock_75 (by decide) ?_
  refine am_iload dX9_takeBlock_77 rfl ?_
  refine am_if_eq (tgt := 131) dX9_takeBlock_79 rfl (fun c => ?_) (fun c => ?_)
  · rw [if_pos c] at h
    refine am_iinc (v := l5 + nI 1) dX9_takeBlock_131 rfl rfl ?_
    refine am_goto (tgt := 38) dX9_takeBlock_134 rfl ?_
    exact am_lwJ (lo' := [some (.inr (0, 15)), some (.inl l1), some (.inl l2), none, some (.inl l4), some (.inl (l5 + nI 1)), none, none, none, none]) ⟨rfl, rfl, rfl, rfl, rfl, trivial⟩ (hk38 l1 l2 l4 (l5 + nI 1) _ _ h)
  · rw [if_neg c] at h
    refine am_iload dX9_takeBlock_82 rfl ?_
    obtain ⟨q1, hq1, h⟩ := am_bd h
    refine am_callSx (as := [.inl s0]) (rest := []) dX9_takeBlock_84 lkJ6_numberOfTrailingZeros_0f7a4 ml_X9_217 isJ6_numberOfTrailingZeros_0f7a4 rfl (Nat.le_of_ble_eq_true rfl) rfl (sJ6_numberOfTrailingZeros_0f7a4 hG hq1) ?_
    refine am_istore dX9_takeBlock_87 (by decide) ?_
    refine am_iload dX9_takeBlock_89 rfl ?_
    refine am_bipush (v := nI 17) dX9_takeBlock_91 (by decide) ?_
    refine am_iadd dX9_takeBlock_93 ?_
    refine am_bipush (v := nI 32) dX9_takeBlock_94 (by decide) ?_
    refine am_iload dX9_takeBlock_96 rfl ?_
    refine am_iconst (v := nI 1) dX9_takeBlock_98 (by decide) ?_
    refine am_isub dX9_takeBlock_99 ?_
    refine am_imul dX9_takeBlock_100 ?_
    refine am_iadd dX9_takeBlock_101 ?_
    refine am_iload dX9_takeBlock_102 rfl ?_
    refine am_iadd dX9_takeBlock_104 ?_
    refine am_istore dX9_takeBlock_105 (by decide) ?_
    refine am_aload_n dX9_takeBlock_107 rfl ?_
    refine am_iload dX9_takeBlock_108 rfl ?_
    refine am_iload dX9_takeBlock_110 rfl ?_
    refine am_iload dX9_takeBlock_112 rfl ?_
    refine am_iconst (v := nI 1) dX9_takeBlock_114 (by decide) ?_
    refine am_iload dX9_takeBlock_115 rfl ?_
    refine am_ishl dX9_takeBlock_117 ?_
    refine am_ior dX9_takeBlock_118 ?_
    obtain ⟨q2, hq2, h⟩ := am_bd h
    refine am_callVe (i := 0) (j := 15) (as := [.inl l4, .inl l5, .inl (l6 ||| ((nI 1) <<< (q1.1 &&& 31)))]) (rest := []) dX9_takeBlock_119 lkX9_set ml_X9_204 imX9_set seX9_set rfl rfl (hG.m0 (by decide)) rfl (Nat.le_of_ble_eq_true rfl) rfl (sX9_set hG hq2) ?_
    refine am_aload_n dX9_takeBlock_122 rfl ?_
    refine am_iload dX9_takeBlock_123 rfl ?_
    obtain ⟨q3, hq3, h⟩ := am_bd h
    refine am_callVe (i := 0) (j := 15) (as := [.inl (((l4 + (nI 17)) + ((nI 32) * (l5 - (nI 1)))) + q1.1)]) (rest := []) dX9_takeBlock_125 lkX9_clear ml_X9_222 imX9_clear seX9_clear rfl rfl (hG.m0 (by decide)) rfl (Nat.le_of_ble_eq_true rfl) rfl (sX9_clear hG hq3) ?_
    refine am_iload dX9_takeBlock_128 rfl ?_
    cases h
    exact am_iret dX9_takeBlock_130 rfl rfl ⟨rfl, rfl⟩
def bX9_takeBlock_38 (n : Nat) (k2 : Int32 → Int32 → am_I → Option (Int32 × am_I)) : Nat → Int32 → Int32 → Int32 → Int32 → am_I → Option (Int32 × am_I)
  | 0, _, _, _, _, _ => none
  | fu + 1, l1, l2, l4, l5, I => (fun k38 => if (nI 2) < l5 then (k2 l1 (l2 + nI 1) I) else ((gX9_read n l4 l5 I).bind (fun q1 => if l5 = (nI 1) then (bX9_takeBlock_75 n k2 k38 l1 l2 l4 l5 q1.1 (q1.1 ^^^ (-1 : Int32)) q1.2) else (bX9_takeBlock_75 n k2 k38 l1 l2 l4 l5 q1.1 ((q1.1 ^^^ (-1 : Int32)) &&& (nI 32767)) q1.2)))) (bX9_takeBlock_38 n k2 fu)
theorem tX9_takeBlock_38 {G : am_G} (hG : am_ok G) {d : Nat} {k2 : Int32 → Int32 → am_I → Option (Int32 × am_I)} (hk2 : ∀ (l1 : Int32) (l2 : Int32) (I : am_I) (r : Int32 × am_I), k2 l1 l2 I = some r → am_J G (d + 2) mX9_takeBlock am_no (am_E (some r.1) r.2) 2 [some (.inr (0, 15)), some (.inl l1), some (.inl l2), none, none, none, none, none, none, none] [] I) : ∀ {fu : Nat} {l1 : Int32} {l2 : Int32} {l4 : Int32} {l5 : Int32} {I : am_I} {r : Int32 × am_I}, bX9_takeBlock_38 G.2.2.2.1 k2 fu l1 l2 l4 l5 I = some r → am_J G (d + 2) mX9_takeBlock am_no (am_E (some r.1) r.2) 38 [some (.inr (0, 15)), some (.inl l1), some (.inl l2), none, some (.inl l4), some (.inl l5), none, none, none, none] [] I := by
  intro fu
  induction fu with
  | zero => intro l1 l2 l4 l5 I r h; cases h
  | succ fu ih =>
    intro l1 l2 l4 l5 I r h
    have hk38 : ∀ (l1 : Int32) (l2 : Int32) (l4 : Int32) (l5 : Int32) (I : am_I) (r : Int32 × am_I), bX9_takeBlock_38 G.2.2.2.1 k2 fu l1 l2 l4 l5 I = some r → am_J G (d + 2) mX9_takeBlock am_no (am_E (some r.1) r.2) 38 [some (.inr (0, 15)), some (.inl l1), some (.inl l2), none, some (.inl l4), some (.inl l5), none, none, none, none] [] I := fun l1 l2 l4 l5 I r h => ih h
    unfold bX9_takeBlock_38 at h
    generalize bX9_takeBlock_38 G.2.2.2.1 k2 fu = k38 at hk38 h
    dsimp only at h
    refine am_iload dX9_takeBlock_38 rfl ?_
    refine am_iconst (v := nI 2) dX9_takeBlock_40 (by decide) ?_
    refine am_icmp_gt (tgt := 137) dX9_takeBlock_41 rfl (fun c => ?_) (fun c => ?_)
    · rw [if_pos c] at h
      refine am_iinc (v := l2 + nI 1) dX9_takeBlock_137 rfl rfl ?_
      refine am_goto (tgt := 2) dX9_takeBlock_140 rfl ?_
      exact am_lwJ (lo' := [some (.inr (0, 15)), some (.inl l1), some (.inl (l2 + nI 1)), none, none, none, none, none, none, none]) ⟨rfl, rfl, rfl, trivial⟩ (hk2 l1 (l2 + nI 1) _ _ h)
    · rw [if_neg c] at h
      refine am_aload_n dX9_takeBlock_44 rfl ?_
      refine am_iload dX9_takeBlock_45 rfl ?_
      refine am_iload dX9_takeBlock_47 rfl ?_
      obtain ⟨q1, hq1, h⟩ := am_bd h
      refine am_callVx (i := 0) (j := 15) (as := [.inl l4, .inl l5]) (rest := []) dX9_takeBlock_49 lkX9_read ml_X9_197 imX9_read seX9_read rfl rfl (hG.m0 (by decide)) rfl (Nat.le_of_ble_eq_true rfl) rfl (sX9_read hG hq1) ?_
      refine am_istore dX9_takeBlock_52 (by decide) ?_
      refine am_iload dX9_takeBlock_54 rfl ?_
      refine am_iconst (v := nI 1) dX9_takeBlock_56 (by decide) ?_
      refine am_icmp_ne (tgt := 67) dX9_takeBlock_57 rfl (fun c => ?_) (fun c => ?_)
      · rw [if_neg c] at h
        refine am_iload dX9_takeBlock_67 rfl ?_
        refine am_iconst (v := (-1 : Int32)) dX9_takeBlock_69 (by decide) ?_
        refine am_ixor dX9_takeBlock_70 ?_
        refine am_sipush (v := nI 32767) dX9_takeBlock_71 (by decide) ?_
        refine am_iand dX9_takeBlock_74 ?_
        exact am_lwJ (lo' := [some (.inr (0, 15)), some (.inl l1), some (.inl l2), none, some (.inl l4), some (.inl l5), some (.inl q1.1), none, none, none]) ⟨rfl, rfl, rfl, rfl, rfl, rfl, trivial⟩ (tX9_takeBlock_75 hG hk2 hk38 h)
      · rw [if_pos c] at h
        refine am_iload dX9_takeBlock_60 rfl ?_
        refine am_iconst (v := (-1 : Int32)) dX9_takeBlock_62 (by decide) ?_
        refine am_ixor dX9_takeBlock_63 ?_
        refine am_goto (tgt := 75) dX9_takeBlock_64 rfl ?_
        exact am_lwJ (lo' := [some (.inr (0, 15)), some (.inl l1), some (.inl l2), none, some (.inl l4), some (.inl l5), some (.inl q1.1), none, none, none]) ⟨rfl, rfl, rfl, rfl, rfl, rfl, trivial⟩ (tX9_takeBlock_75 hG hk2 hk38 h)
def bX9_takeBlock_2 (n : Nat) : Nat → Int32 → Int32 → am_I → Option (Int32 × am_I)
  | 0, _, _, _ => none
  | fu + 1, l1, l2, I => (fun k2 => if (nI 8) ≤ l2 then ((gX9_fail n (-7 : Int32) I).bind (fun q1 => some (nI 0, q1.2))) else ((gX10_mapResource n ((l1 + l2) - (l1 + l2) / (nI 8) * (nI 8)) I).bind (fun q2 => (gX9_meet n q2.1 (nI 2) q2.2).bind (fun q3 => if q3.1 = 0 then (some (nI 0, q3.2)) else ((gX10_mapBlock n ((l1 + l2) - (l1 + l2) / (nI 8) * (nI 8)) q3.2).bind (fun q4 => bX9_takeBlock_38 n k2 am_fu l1 l2 q4.1 (nI 1) q4.2)))))) (bX9_takeBlock_2 n fu)
theorem tX9_takeBlock_2 {G : am_G} (hG : am_ok G) {d : Nat} : ∀ {fu : Nat} {l1 : Int32} {l2 : Int32} {I : am_I} {r : Int32 × am_I}, bX9_takeBlock_2 G.2.2.2.1 fu l1 l2 I = some r → am_J G (d + 2) mX9_takeBlock am_no (am_E (some r.1) r.2) 2 [some (.inr (0, 15)), some (.inl l1), some (.inl l2), none, none, none, none, none, none, none] [] I := by
  intro fu
  induction fu with
  | zero => intro l1 l2 I r h; cases h
  | succ fu ih =>
    intro l1 l2 I r h
    have hk2 : ∀ (l1 : Int32) (l2 : Int32) (I : am_I) (r : Int32 × am_I), bX9_takeBlock_2 G.2.2.2.1 fu l1 l2 I = some r → am_J G (d + 2) mX9_takeBlock am_no (am_E (some r.1) r.2) 2 [some (.inr (0, 15)), some (.inl l1), some (.inl l2), none, none, none, none, none, none, none] [] I := fun l1 l2 I r h => ih h
    unfold bX9_takeBlock_2 at h
    generalize bX9_takeBlock_2 G.2.2.2.1 fu = k2 at hk2 h
    dsimp only at h
    refine am_iload_n dX9_takeBlock_2 rfl ?_
    refine am_bipush (v := nI 8) dX9_takeBlock_3 (by decide) ?_
    refine am_icmp_ge (tgt := 143) dX9_takeBlock_5 rfl (fun c => ?_) (fun c => ?_)
    · rw [if_pos c] at h
      refine am_aload_n dX9_takeBlock_143 rfl ?_
      refine am_bipush (v := (-7 : Int32)) dX9_takeBlock_144 (by decide) ?_
      obtain ⟨q1, hq1, h⟩ := am_bd h
      refine am_callVx (i := 0) (j := 15) (as := [.inl (-7 : Int32)]) (rest := []) dX9_takeBlock_146 lkX9_fail ml_X9_225 imX9_fail seX9_fail rfl rfl (hG.m0 (by decide)) rfl (Nat.le_of_ble_eq_true rfl) rfl (sX9_fail hG hq1) ?_
      refine am_pop dX9_takeBlock_149 ?_
      refine am_iconst (v := nI 0) dX9_takeBlock_150 (by decide) ?_
      cases h
      exact am_iret dX9_takeBlock_151 rfl rfl ⟨rfl, rfl⟩
    · rw [if_neg c] at h
      refine am_iload_n dX9_takeBlock_8 rfl ?_
      refine am_iload_n dX9_takeBlock_9 rfl ?_
      refine am_iadd dX9_takeBlock_10 ?_
      refine am_bipush (v := nI 8) dX9_takeBlock_11 (by decide) ?_
      refine am_irem dX9_takeBlock_13 (by decide) ?_
      refine am_istore_n dX9_takeBlock_14 (by decide) ?_
      refine am_aload_n dX9_takeBlock_15 rfl ?_
      refine am_iload_n dX9_takeBlock_16 rfl ?_
      obtain ⟨q2, hq2, h⟩ := am_bd h
      refine am_callSNx (as := [.inl ((l1 + l2) - (l1 + l2) / (nI 8) * (nI 8))]) (rest := [.inr (0, 15)]) dX9_takeBlock_17 lkX10_mapResource nl_X9_208 isX10_mapResource rfl (Nat.le_of_ble_eq_true rfl) rfl (sX10_mapResource hG hq2) ?_
      refine am_iconst (v := nI 2) dX9_takeBlock_20 (by decide) ?_
      obtain ⟨q3, hq3, h⟩ := am_bd h
      refine am_callVx (i := 0) (j := 15) (as := [.inl q2.1, .inl (nI 2)]) (rest := []) dX9_takeBlock_21 lkX9_meet ml_X9_211 imX9_meet seX9_meet rfl rfl (hG.m0 (by decide)) rfl (Nat.le_of_ble_eq_true rfl) rfl (sX9_meet hG hq3) ?_
      refine am_if_ne (tgt := 29) dX9_takeBlock_24 rfl (fun c => ?_) (fun c => ?_)
      · rw [if_neg c] at h
        refine am_iload_n dX9_takeBlock_29 rfl ?_
        obtain ⟨q4, hq4, h⟩ := am_bd h
        refine am_callSNx (as := [.inl ((l1 + l2) - (l1 + l2) / (nI 8) * (nI 8))]) (rest := []) dX9_takeBlock_30 lkX10_mapBlock nl_X9_214 isX10_mapBlock rfl (Nat.le_of_ble_eq_true rfl) rfl (sX10_mapBlock hG hq4) ?_
        refine am_istore dX9_takeBlock_33 (by decide) ?_
        refine am_iconst (v := nI 1) dX9_takeBlock_35 (by decide) ?_
        refine am_istore dX9_takeBlock_36 (by decide) ?_
        exact am_lwJ (lo' := [some (.inr (0, 15)), some (.inl l1), some (.inl l2), none, some (.inl q4.1), some (.inl (nI 1)), none, none, none, none]) ⟨rfl, rfl, rfl, rfl, rfl, trivial⟩ (tX9_takeBlock_38 hG hk2 h)
      · rw [if_pos c] at h
        refine am_iconst (v := nI 0) dX9_takeBlock_27 (by decide) ?_
        cases h
        exact am_iret dX9_takeBlock_28 rfl rfl ⟨rfl, rfl⟩
def bX9_takeBlock_0 (n : Nat) (l1 : Int32) (I : am_I) : Option (Int32 × am_I) := bX9_takeBlock_2 n am_fu l1 (nI 0) I
theorem tX9_takeBlock_0 {G : am_G} (hG : am_ok G) {d : Nat} {l1 : Int32} {I : am_I} {r : Int32 × am_I} (h : bX9_takeBlock_0 G.2.2.2.1 l1  I = some r) : am_J G (d + 2) mX9_takeBlock am_no (am_E (some r.1) r.2) 0 [some (.inr (0, 15)), some (.inl l1), none, none, none, none, none, none, none, none] [] I := by
  unfold bX9_takeBlock_0 at h
  refine am_iconst (v := nI 0) dX9_takeBlock_0 (by decide) ?_
  refine am_istore_n dX9_takeBlock_1 (by decide) ?_
  exact am_lwJ (lo' := [some (.inr (0, 15)), some (.inl l1), some (.inl (nI 0)), none, none, none, none, none, none, none]) ⟨rfl, rfl, rfl, trivial⟩ (tX9_takeBlock_2 hG h)
def gX9_takeBlock (n : Nat) (l1 : Int32) (I : am_I) : Option (Int32 × am_I) := bX9_takeBlock_0 n l1 I
theorem sX9_takeBlock {G : am_G} (hG : am_ok G) {d : Nat} {l1 : Int32} {I : am_I} {r : Int32 × am_I} (h : gX9_takeBlock G.2.2.2.1 l1 I = some r) : am_C G (d + 2) mX9_takeBlock [.inr (0, 15), .inl l1] I (am_E (some r.1) r.2) :=
  am_of (by decide +kernel) hG.nd (Nat.le_of_ble_eq_true rfl) (am_lwJ (lo' := [some (.inr (0, 15)), some (.inl l1), none, none, none, none, none, none, none, none]) ⟨rfl, rfl, trivial⟩ (tX9_takeBlock_0 hG h))
def bX9_reach_110 (n : Nat) (l5 : Int32) (I : am_I) : Option (Int32 × am_I) := some (l5, I)
theorem tX9_reach_110 {G : am_G} (hG : am_ok G) {d : Nat} {l5 : Int32} {I : am_I} {r : Int32 × am_I} (h : bX9_reach_110 G.2.2.2.1 l5  I = some r) : am_J G (d + 3) mX9_reach am_no (am_E (some r.1) r.2) 110 [none, none, none, none, none, some (.inl l5)] [] I := by
  unfold bX9_reach_110 at h
  refine am_iload dX9_reach_110 rfl ?_
  cases h
  exact am_iret dX9_reach_112 rfl rfl ⟨rfl, rfl⟩
def bX9_reach_72 (n : Nat) (l1 : Int32) (l3 : Int32) (l4 : Int32) (I : am_I) : Option (Int32 × am_I) := (gX9_read n l3 l4 I).bind (fun q1 => if q1.1 = 0 then ((gX9_takeBlock n (l1 / (nI 16)) q1.2).bind (fun q2 => if q2.1 = 0 then (bX9_reach_110 n q2.1 q2.2) else ((gX9_set n l3 l4 q2.1 q2.2).bind (fun q3 => bX9_reach_110 n q2.1 q3)))) else (bX9_reach_110 n q1.1 q1.2))
theorem tX9_reach_72 {G : am_G} (hG : am_ok G) {d : Nat} {l1 : Int32} {l3 : Int32} {l4 : Int32} {I : am_I} {r : Int32 × am_I} (h : bX9_reach_72 G.2.2.2.1 l1 l3 l4  I = some r) : am_J G (d + 3) mX9_reach am_no (am_E (some r.1) r.2) 72 [some (.inr (0, 15)), some (.inl l1), none, some (.inl l3), some (.inl l4), none] [] I := by
  unfold bX9_reach_72 at h
  refine am_aload_n dX9_reach_72 rfl ?_
  refine am_iload_n dX9_reach_73 rfl ?_
  refine am_iload dX9_reach_74 rfl ?_
  obtain ⟨q1, hq1, h⟩ := am_bd h
  refine am_callVx (i := 0) (j := 15) (as := [.inl l3, .inl l4]) (rest := []) dX9_reach_76 lkX9_read ml_X9_197 imX9_read seX9_read rfl rfl (hG.m0 (by decide)) rfl (Nat.le_of_ble_eq_true rfl) rfl (sX9_read hG hq1) ?_
  refine am_istore dX9_reach_79 (by decide) ?_
  refine am_iload dX9_reach_81 rfl ?_
  refine am_if_ne (tgt := 110) dX9_reach_83 rfl (fun c => ?_) (fun c => ?_)
  · rw [if_neg c] at h
    exact am_lwJ (lo' := [none, none, none, none, none, some (.inl q1.1)]) ⟨rfl, trivial⟩ (tX9_reach_110 hG h)
  · rw [if_pos c] at h
    refine am_aload_n dX9_reach_86 rfl ?_
    refine am_iload_n dX9_reach_87 rfl ?_
    refine am_bipush (v := nI 16) dX9_reach_88 (by decide) ?_
    refine am_idiv dX9_reach_90 (by decide) ?_
    obtain ⟨q2, hq2, h⟩ := am_bd h
    refine am_callVx (i := 0) (j := 15) (as := [.inl (l1 / (nI 16))]) (rest := []) dX9_reach_91 lkX9_takeBlock ml_X9_201 imX9_takeBlock seX9_takeBlock rfl rfl (hG.m0 (by decide)) rfl (Nat.le_of_ble_eq_true rfl) rfl (sX9_takeBlock hG hq2) ?_
    refine am_istore dX9_reach_94 (by decide) ?_
    refine am_iload dX9_reach_96 rfl ?_
    refine am_if_eq (tgt := 110) dX9_reach_98 rfl (fun c => ?_) (fun c => ?_)
    · rw [if_pos c] at h
      exact am_lwJ (lo' := [none, none, none, none, none, some (.inl q2.1)]) ⟨rfl, trivial⟩ (tX9_reach_110 hG h)
    · rw [if_neg c] at h
      refine am_aload_n dX9_reach_101 rfl ?_
      refine am_iload_n dX9_reach_102 rfl ?_
      refine am_iload dX9_reach_103 rfl ?_
      refine am_iload dX9_reach_105 rfl ?_
      obtain ⟨q3, hq3, h⟩ := am_bd h
      refine am_callVe (i := 0) (j := 15) (as := [.inl l3, .inl l4, .inl q2.1]) (rest := []) dX9_reach_107 lkX9_set ml_X9_204 imX9_set seX9_set rfl rfl (hG.m0 (by decide)) rfl (Nat.le_of_ble_eq_true rfl) rfl (sX9_set hG hq3) ?_
      exact am_lwJ (lo' := [none, none, none, none, none, some (.inl q2.1)]) ⟨rfl, trivial⟩ (tX9_reach_110 hG h)
def bX9_reach_60 (n : Nat) (l1 : Int32) (l2 : Int32) (l5 : Int32) (I : am_I) : Option (Int32 × am_I) := bX9_reach_72 n l1 l5 ((l2 / (nI 16)) - (nI 8)) I
theorem tX9_reach_60 {G : am_G} (hG : am_ok G) {d : Nat} {l1 : Int32} {l2 : Int32} {l5 : Int32} {I : am_I} {r : Int32 × am_I} (h : bX9_reach_60 G.2.2.2.1 l1 l2 l5  I = some r) : am_J G (d + 3) mX9_reach am_no (am_E (some r.1) r.2) 60 [some (.inr (0, 15)), some (.inl l1), some (.inl l2), none, none, some (.inl l5)] [] I := by
  unfold bX9_reach_60 at h
  refine am_iload dX9_reach_60 rfl ?_
  refine am_istore_n dX9_reach_62 (by decide) ?_
  refine am_iload_n dX9_reach_63 rfl ?_
  refine am_bipush (v := nI 16) dX9_reach_64 (by decide) ?_
  refine am_idiv dX9_reach_66 (by decide) ?_
  refine am_bipush (v := nI 8) dX9_reach_67 (by decide) ?_
  refine am_isub dX9_reach_69 ?_
  refine am_istore dX9_reach_70 (by decide) ?_
  exact am_lwJ (lo' := [some (.inr (0, 15)), some (.inl l1), none, some (.inl l5), some (.inl ((l2 / (nI 16)) - (nI 8))), none]) ⟨rfl, rfl, rfl, rfl, trivial⟩ (tX9_reach_72 hG h)
def bX9_reach_0 (n : Nat) (l1 : Int32) (l2 : Int32) (I : am_I) : Option (Int32 × am_I) := (gX10_inodeBlock n l1 I).bind (fun q1 => if l2 < (nI 128) then (bX9_reach_72 n l1 q1.1 ((nI 3) + (l2 / (nI 16))) q1.2) else ((gX9_read n q1.1 (nI 11) q1.2).bind (fun q2 => if q2.1 = 0 then ((gX9_takeBlock n (l1 / (nI 16)) q2.2).bind (fun q3 => if q3.1 = 0 then (some (nI 0, q3.2)) else ((gX9_set n q1.1 (nI 11) q3.1 q3.2).bind (fun q4 => bX9_reach_60 n l1 l2 q3.1 q4)))) else (bX9_reach_60 n l1 l2 q2.1 q2.2))))
theorem tX9_reach_0 {G : am_G} (hG : am_ok G) {d : Nat} {l1 : Int32} {l2 : Int32} {I : am_I} {r : Int32 × am_I} (h : bX9_reach_0 G.2.2.2.1 l1 l2  I = some r) : am_J G (d + 3) mX9_reach am_no (am_E (some r.1) r.2) 0 [some (.inr (0, 15)), some (.inl l1), some (.inl l2), none, none, none] [] I := by
  unfold bX9_reach_0 at h
  refine am_iload_n dX9_reach_0 rfl ?_
  obtain ⟨q1, hq1, h⟩ := am_bd h
  refine am_callSNx (as := [.inl l1]) (rest := []) dX9_reach_1 lkX10_inodeBlock nl_X9_193 isX10_inodeBlock rfl (Nat.le_of_ble_eq_true rfl) rfl (sX10_inodeBlock hG hq1) ?_
  refine am_istore_n dX9_reach_4 (by decide) ?_
  refine am_iconst (v := nI 3) dX9_reach_5 (by decide) ?_
  refine am_iload_n dX9_reach_6 rfl ?_
  refine am_bipush (v := nI 16) dX9_reach_7 (by decide) ?_
  refine am_idiv dX9_reach_9 (by decide) ?_
  refine am_iadd dX9_reach_10 ?_
  refine am_istore dX9_reach_11 (by decide) ?_
  refine am_iload_n dX9_reach_13 rfl ?_
  refine am_sipush (v := nI 128) dX9_reach_14 (by decide) ?_
  refine am_icmp_lt (tgt := 72) dX9_reach_17 rfl (fun c => ?_) (fun c => ?_)
  · rw [if_pos c] at h
    exact am_lwJ (lo' := [some (.inr (0, 15)), some (.inl l1), none, some (.inl q1.1), some (.inl ((nI 3) + (l2 / (nI 16)))), none]) ⟨rfl, rfl, rfl, rfl, trivial⟩ (tX9_reach_72 hG h)
  · rw [if_neg c] at h
    refine am_aload_n dX9_reach_20 rfl ?_
    refine am_iload_n dX9_reach_21 rfl ?_
    refine am_bipush (v := nI 11) dX9_reach_22 (by decide) ?_
    obtain ⟨q2, hq2, h⟩ := am_bd h
    refine am_callVx (i := 0) (j := 15) (as := [.inl q1.1, .inl (nI 11)]) (rest := []) dX9_reach_24 lkX9_read ml_X9_197 imX9_read seX9_read rfl rfl (hG.m0 (by decide)) rfl (Nat.le_of_ble_eq_true rfl) rfl (sX9_read hG hq2) ?_
    refine am_istore dX9_reach_27 (by decide) ?_
    refine am_iload dX9_reach_29 rfl ?_
    refine am_if_ne (tgt := 60) dX9_reach_31 rfl (fun c => ?_) (fun c => ?_)
    · rw [if_neg c] at h
      exact am_lwJ (lo' := [some (.inr (0, 15)), some (.inl l1), some (.inl l2), none, none, some (.inl q2.1)]) ⟨rfl, rfl, rfl, rfl, trivial⟩ (tX9_reach_60 hG h)
    · rw [if_pos c] at h
      refine am_aload_n dX9_reach_34 rfl ?_
      refine am_iload_n dX9_reach_35 rfl ?_
      refine am_bipush (v := nI 16) dX9_reach_36 (by decide) ?_
      refine am_idiv dX9_reach_38 (by decide) ?_
      obtain ⟨q3, hq3, h⟩ := am_bd h
      refine am_callVx (i := 0) (j := 15) (as := [.inl (l1 / (nI 16))]) (rest := []) dX9_reach_39 lkX9_takeBlock ml_X9_201 imX9_takeBlock seX9_takeBlock rfl rfl (hG.m0 (by decide)) rfl (Nat.le_of_ble_eq_true rfl) rfl (sX9_takeBlock hG hq3) ?_
      refine am_istore dX9_reach_42 (by decide) ?_
      refine am_iload dX9_reach_44 rfl ?_
      refine am_if_ne (tgt := 51) dX9_reach_46 rfl (fun c => ?_) (fun c => ?_)
      · rw [if_neg c] at h
        refine am_aload_n dX9_reach_51 rfl ?_
        refine am_iload_n dX9_reach_52 rfl ?_
        refine am_bipush (v := nI 11) dX9_reach_53 (by decide) ?_
        refine am_iload dX9_reach_55 rfl ?_
        obtain ⟨q4, hq4, h⟩ := am_bd h
        refine am_callVe (i := 0) (j := 15) (as := [.inl q1.1, .inl (nI 11), .inl q3.1]) (rest := []) dX9_reach_57 lkX9_set ml_X9_204 imX9_set seX9_set rfl rfl (hG.m0 (by decide)) rfl (Nat.le_of_ble_eq_true rfl) rfl (sX9_set hG hq4) ?_
        exact am_lwJ (lo' := [some (.inr (0, 15)), some (.inl l1), some (.inl l2), none, none, some (.inl q3.1)]) ⟨rfl, rfl, rfl, rfl, trivial⟩ (tX9_reach_60 hG h)
      · rw [if_pos c] at h
        refine am_iconst (v := nI 0) dX9_reach_49 (by decide) ?_
        cases h
        exact am_iret dX9_reach_50 rfl rfl ⟨rfl, rfl⟩
def gX9_reach (n : Nat) (l1 : Int32) (l2 : Int32) (I : am_I) : Option (Int32 × am_I) := bX9_reach_0 n l1 l2 I
theorem sX9_reach {G : am_G} (hG : am_ok G) {d : Nat} {l1 : Int32} {l2 : Int32} {I : am_I} {r : Int32 × am_I} (h : gX9_reach G.2.2.2.1 l1 l2 I = some r) : am_C G (d + 3) mX9_reach [.inr (0, 15), .inl l1, .inl l2] I (am_E (some r.1) r.2) :=
  am_of (by decide +kernel) hG.nd (Nat.le_of_ble_eq_true rfl) (am_lwJ (lo' := [some (.inr (0, 15)), some (.inl l1), some (.inl l2), none, none, none]) ⟨rfl, rfl, rfl, trivial⟩ (tX9_reach_0 hG h))
def bX9_writeWord_187 (n : Nat) (s0 : Int32) (I : am_I) : Option (am_I) := (gX9_finish n s0 I).bind (fun q1 => some q1)
theorem tX9_writeWord_187 {G : am_G} (hG : am_ok G) {d : Nat} {s0 : Int32} {I : am_I} {r : am_I} (h : bX9_writeWord_187 G.2.2.2.1 s0  I = some r) : am_J G (d + 4) mX9_writeWord am_no (am_E none r) 187 [none, none, none, none, none, none, none] [.inl s0, .inr (0, 15)] I := by
  unfold bX9_writeWord_187 at h
  obtain ⟨q1, hq1, h⟩ := am_bd h
  refine am_callVe (i := 0) (j := 15) (as := [.inl s0]) (rest := []) dX9_writeWord_187 lkX9_finish ml_X9_283 imX9_finish seX9_finish rfl rfl (hG.m0 (by decide)) rfl (Nat.le_of_ble_eq_true rfl) rfl (sX9_finish hG hq1) ?_
  cases h
  exact am_vret dX9_writeWord_190 rfl ⟨rfl, rfl⟩
def bX9_writeWord_175 (n : Nat) (l2 : Int32) (l4 : Int32) (l6 : Int32) (I : am_I) : Option (am_I) := if l2 = 0 then (bX9_writeWord_187 n l6 I) else (bX9_writeWord_187 n l4 I)
theorem tX9_writeWord_175 {G : am_G} (hG : am_ok G) {d : Nat} {l2 : Int32} {l4 : Int32} {l6 : Int32} {I : am_I} {r : am_I} (h : bX9_writeWord_175 G.2.2.2.1 l2 l4 l6  I = some r) : am_J G (d + 4) mX9_writeWord am_no (am_E none r) 175 [some (.inr (0, 15)), none, some (.inl l2), none, some (.inl l4), none, some (.inl l6)] [] I := by
  unfold bX9_writeWord_175 at h
  refine am_aload_n dX9_writeWord_175 rfl ?_
  refine am_iload_n dX9_writeWord_176 rfl ?_
  refine am_if_eq (tgt := 185) dX9_writeWord_177 rfl (fun c => ?_) (fun c => ?_)
  · rw [if_pos c] at h
    refine am_iload dX9_writeWord_185 rfl ?_
    exact am_lwJ (lo' := [none, none, none, none, none, none, none]) trivial (tX9_writeWord_187 hG h)
  · rw [if_neg c] at h
    refine am_iload dX9_writeWord_180 rfl ?_
    refine am_goto (tgt := 187) dX9_writeWord_182 rfl ?_
    exact am_lwJ (lo' := [none, none, none, none, none, none, none]) trivial (tX9_writeWord_187 hG h)
def bX9_writeWord_140 (n : Nat) (l1 : Nat) (l2 : Int32) (l3 : Int32) (l4 : Int32) (l5 : Int32) (l6 : Int32) (I : am_I) : Option (am_I) := (gX9_set n l5 (l4 - l4 / (nI 16) * (nI 16)) l6 I).bind (fun q1 => if l4 < l3 then (bX9_writeWord_175 n l2 l4 l6 q1) else ((gX10_inodeBlock n (q1 l1 55 1) q1).bind (fun q2 => (gX9_set n q2.1 (nI 2) (l4 + (nI 1)) q2.2).bind (fun q3 => bX9_writeWord_175 n l2 l4 l6 q3))))
theorem tX9_writeWord_140 {G : am_G} (hG : am_ok G) {d : Nat} {l1 : Nat} {l2 : Int32} {l3 : Int32} {l4 : Int32} {l5 : Int32} {l6 : Int32} (hl1 : l1 < G.2.2.2.1) {I : am_I} {r : am_I} (h : bX9_writeWord_140 G.2.2.2.1 l1 l2 l3 l4 l5 l6  I = some r) : am_J G (d + 4) mX9_writeWord am_no (am_E none r) 140 [some (.inr (0, 15)), some (.inr (l1, 55)), some (.inl l2), some (.inl l3), some (.inl l4), some (.inl l5), some (.inl l6)] [] I := by
  unfold bX9_writeWord_140 at h
  refine am_aload_n dX9_writeWord_140 rfl ?_
  refine am_iload dX9_writeWord_141 rfl ?_
  refine am_iload dX9_writeWord_143 rfl ?_
  refine am_bipush (v := nI 16) dX9_writeWord_145 (by decide) ?_
  refine am_irem dX9_writeWord_147 (by decide) ?_
  refine am_iload dX9_writeWord_148 rfl ?_
  obtain ⟨q1, hq1, h⟩ := am_bd h
  refine am_callVe (i := 0) (j := 15) (as := [.inl l5, .inl (l4 - l4 / (nI 16) * (nI 16)), .inl l6]) (rest := []) dX9_writeWord_150 lkX9_set ml_X9_204 imX9_set seX9_set rfl rfl (hG.m0 (by decide)) rfl (Nat.le_of_ble_eq_true rfl) rfl (sX9_set hG hq1) ?_
  refine am_iload dX9_writeWord_153 rfl ?_
  refine am_iload_n dX9_writeWord_155 rfl ?_
  refine am_icmp_lt (tgt := 175) dX9_writeWord_156 rfl (fun c => ?_) (fun c => ?_)
  · rw [if_pos c] at h
    exact am_lwJ (lo' := [some (.inr (0, 15)), none, some (.inl l2), none, some (.inl l4), none, some (.inl l6)]) ⟨rfl, rfl, rfl, rfl, trivial⟩ (tX9_writeWord_175 hG h)
  · rw [if_neg c] at h
    refine am_aload_n dX9_writeWord_159 rfl ?_
    refine am_aload_n dX9_writeWord_160 rfl ?_
    refine am_get (v := .inl (q1 l1 55 1)) dX9_writeWord_161 fl_9_271 (hG.mn hl1 (by decide) (by decide)) rfl ?_
    obtain ⟨q2, hq2, h⟩ := am_bd h
    refine am_callSNx (as := [.inl (q1 l1 55 1)]) (rest := [.inr (0, 15)]) dX9_writeWord_164 lkX10_inodeBlock nl_X9_193 isX10_inodeBlock rfl (Nat.le_of_ble_eq_true rfl) rfl (sX10_inodeBlock hG hq2) ?_
    refine am_iconst (v := nI 2) dX9_writeWord_167 (by decide) ?_
    refine am_iload dX9_writeWord_168 rfl ?_
    refine am_iconst (v := nI 1) dX9_writeWord_170 (by decide) ?_
    refine am_iadd dX9_writeWord_171 ?_
    obtain ⟨q3, hq3, h⟩ := am_bd h
    refine am_callVe (i := 0) (j := 15) (as := [.inl q2.1, .inl (nI 2), .inl (l4 + (nI 1))]) (rest := []) dX9_writeWord_172 lkX9_set ml_X9_204 imX9_set seX9_set rfl rfl (hG.m0 (by decide)) rfl (Nat.le_of_ble_eq_true rfl) rfl (sX9_set hG hq3) ?_
    exact am_lwJ (lo' := [some (.inr (0, 15)), none, some (.inl l2), none, some (.inl l4), none, some (.inl l6)]) ⟨rfl, rfl, rfl, rfl, trivial⟩ (tX9_writeWord_175 hG h)
def bX9_writeWord_113 (n : Nat) (l1 : Nat) (l2 : Int32) (l3 : Int32) (l4 : Int32) (l5 : Int32) (s0 : Int32) (I : am_I) : Option (am_I) := if (I l1 55 0) = (nI 11) then ((gX9_read n l5 (l4 - l4 / (nI 16) * (nI 16)) I).bind (fun q1 => bX9_writeWord_140 n l1 l2 l3 l4 l5 (s0 + q1.1) q1.2)) else (bX9_writeWord_140 n l1 l2 l3 l4 l5 s0 I)
theorem tX9_writeWord_113 {G : am_G} (hG : am_ok G) {d : Nat} {l1 : Nat} {l2 : Int32} {l3 : Int32} {l4 : Int32} {l5 : Int32} {s0 : Int32} (hl1 : l1 < G.2.2.2.1) {I : am_I} {r : am_I} (h : bX9_writeWord_113 G.2.2.2.1 l1 l2 l3 l4 l5 s0  I = some r) : am_J G (d + 4) mX9_writeWord am_no (am_E none r) 113 [some (.inr (0, 15)), some (.inr (l1, 55)), some (.inl l2), some (.inl l3), some (.inl l4), some (.inl l5), none] [.inl s0] I := by
  unfold bX9_writeWord_113 at h
  refine am_istore dX9_writeWord_113 (by decide) ?_
  refine am_aload_n dX9_writeWord_115 rfl ?_
  refine am_get (v := .inl (I l1 55 0)) dX9_writeWord_116 fl_9_54 (hG.mn hl1 (by decide) (by decide)) rfl ?_
  refine am_bipush (v := nI 11) dX9_writeWord_119 (by decide) ?_
  refine am_icmp_ne (tgt := 140) dX9_writeWord_121 rfl (fun c => ?_) (fun c => ?_)
  · rw [if_neg c] at h
    exact am_lwJ (lo' := [some (.inr (0, 15)), some (.inr (l1, 55)), some (.inl l2), some (.inl l3), some (.inl l4), some (.inl l5), some (.inl s0)]) ⟨rfl, rfl, rfl, rfl, rfl, rfl, rfl, trivial⟩ (tX9_writeWord_140 hG hl1 h)
  · rw [if_pos c] at h
    refine am_iload dX9_writeWord_124 rfl ?_
    refine am_aload_n dX9_writeWord_126 rfl ?_
    refine am_iload dX9_writeWord_127 rfl ?_
    refine am_iload dX9_writeWord_129 rfl ?_
    refine am_bipush (v := nI 16) dX9_writeWord_131 (by decide) ?_
    refine am_irem dX9_writeWord_133 (by decide) ?_
    obtain ⟨q1, hq1, h⟩ := am_bd h
    refine am_callVx (i := 0) (j := 15) (as := [.inl l5, .inl (l4 - l4 / (nI 16) * (nI 16))]) (rest := [.inl s0]) dX9_writeWord_134 lkX9_read ml_X9_197 imX9_read seX9_read rfl rfl (hG.m0 (by decide)) rfl (Nat.le_of_ble_eq_true rfl) rfl (sX9_read hG hq1) ?_
    refine am_iadd dX9_writeWord_137 ?_
    refine am_istore dX9_writeWord_138 (by decide) ?_
    exact am_lwJ (lo' := [some (.inr (0, 15)), some (.inr (l1, 55)), some (.inl l2), some (.inl l3), some (.inl l4), some (.inl l5), some (.inl (s0 + q1.1))]) ⟨rfl, rfl, rfl, rfl, rfl, rfl, rfl, trivial⟩ (tX9_writeWord_140 hG hl1 h)
def bX9_writeWord_49 (n : Nat) (l1 : Nat) (l2 : Int32) (l3 : Int32) (s0 : Int32) (I : am_I) : Option (am_I) := if s0 < (nI 384) then ((gX9_meetFile n (I l1 55 1) (nI 2) I).bind (fun q1 => if q1.1 = 0 then (some q1.2) else ((gX9_reach n (q1.2 l1 55 1) s0 q1.2).bind (fun q2 => if q2.1 = 0 then (some q2.2) else (if l2 = 0 then (bX9_writeWord_113 n l1 l2 l3 s0 q2.1 (q2.2 l1 55 3) q2.2) else (bX9_writeWord_113 n l1 l2 l3 s0 q2.1 (q2.2 l1 55 2) q2.2)))))) else ((gX9_fail n (-7 : Int32) I).bind (fun q3 => some q3.2))
theorem tX9_writeWord_49 {G : am_G} (hG : am_ok G) {d : Nat} {l1 : Nat} {l2 : Int32} {l3 : Int32} {s0 : Int32} (hl1 : l1 < G.2.2.2.1) {I : am_I} {r : am_I} (h : bX9_writeWord_49 G.2.2.2.1 l1 l2 l3 s0  I = some r) : am_J G (d + 4) mX9_writeWord am_no (am_E none r) 49 [some (.inr (0, 15)), some (.inr (l1, 55)), some (.inl l2), some (.inl l3), none, none, none] [.inl s0] I := by
  unfold bX9_writeWord_49 at h
  refine am_istore dX9_writeWord_49 (by decide) ?_
  refine am_iload dX9_writeWord_51 rfl ?_
  refine am_sipush (v := nI 384) dX9_writeWord_53 (by decide) ?_
  refine am_icmp_lt (tgt := 67) dX9_writeWord_56 rfl (fun c => ?_) (fun c => ?_)
  · rw [if_pos c] at h
    refine am_aload_n dX9_writeWord_67 rfl ?_
    refine am_aload_n dX9_writeWord_68 rfl ?_
    refine am_get (v := .inl (I l1 55 1)) dX9_writeWord_69 fl_9_271 (hG.mn hl1 (by decide) (by decide)) rfl ?_
    refine am_iconst (v := nI 2) dX9_writeWord_72 (by decide) ?_
    obtain ⟨q1, hq1, h⟩ := am_bd h
    refine am_callVx (i := 0) (j := 15) (as := [.inl (I l1 55 1), .inl (nI 2)]) (rest := []) dX9_writeWord_73 lkX9_meetFile ml_X9_303 imX9_meetFile seX9_meetFile rfl rfl (hG.m0 (by decide)) rfl (Nat.le_of_ble_eq_true rfl) rfl (sX9_meetFile hG hq1) ?_
    refine am_if_ne (tgt := 80) dX9_writeWord_76 rfl (fun c => ?_) (fun c => ?_)
    · rw [if_neg c] at h
      refine am_aload_n dX9_writeWord_80 rfl ?_
      refine am_aload_n dX9_writeWord_81 rfl ?_
      refine am_get (v := .inl (q1.2 l1 55 1)) dX9_writeWord_82 fl_9_271 (hG.mn hl1 (by decide) (by decide)) rfl ?_
      refine am_iload dX9_writeWord_85 rfl ?_
      obtain ⟨q2, hq2, h⟩ := am_bd h
      refine am_callVx (i := 0) (j := 15) (as := [.inl (q1.2 l1 55 1), .inl s0]) (rest := []) dX9_writeWord_87 lkX9_reach ml_X9_268 imX9_reach seX9_reach rfl rfl (hG.m0 (by decide)) rfl (Nat.le_of_ble_eq_true rfl) rfl (sX9_reach hG hq2) ?_
      refine am_istore dX9_writeWord_90 (by decide) ?_
      refine am_iload dX9_writeWord_92 rfl ?_
      refine am_if_ne (tgt := 98) dX9_writeWord_94 rfl (fun c => ?_) (fun c => ?_)
      · rw [if_neg c] at h
        refine am_iload_n dX9_writeWord_98 rfl ?_
        refine am_if_eq (tgt := 109) dX9_writeWord_99 rfl (fun c => ?_) (fun c => ?_)
        · rw [if_pos c] at h
          refine am_aload_n dX9_writeWord_109 rfl ?_
          refine am_get (v := .inl (q2.2 l1 55 3)) dX9_writeWord_110 fl_9_289 (hG.mn hl1 (by decide) (by decide)) rfl ?_
          exact am_lwJ (lo' := [some (.inr (0, 15)), some (.inr (l1, 55)), some (.inl l2), some (.inl l3), some (.inl s0), some (.inl q2.1), none]) ⟨rfl, rfl, rfl, rfl, rfl, rfl, trivial⟩ (tX9_writeWord_113 hG hl1 h)
        · rw [if_neg c] at h
          refine am_aload_n dX9_writeWord_102 rfl ?_
          refine am_get (v := .inl (q2.2 l1 55 2)) dX9_writeWord_103 fl_9_277 (hG.mn hl1 (by decide) (by decide)) rfl ?_
          refine am_goto (tgt := 113) dX9_writeWord_106 rfl ?_
          exact am_lwJ (lo' := [some (.inr (0, 15)), some (.inr (l1, 55)), some (.inl l2), some (.inl l3), some (.inl s0), some (.inl q2.1), none]) ⟨rfl, rfl, rfl, rfl, rfl, rfl, trivial⟩ (tX9_writeWord_113 hG hl1 h)
      · rw [if_pos c] at h
        cases h
        exact am_vret dX9_writeWord_97 rfl ⟨rfl, rfl⟩
    · rw [if_pos c] at h
      cases h
      exact am_vret dX9_writeWord_79 rfl ⟨rfl, rfl⟩
  · rw [if_neg c] at h
    refine am_aload_n dX9_writeWord_59 rfl ?_
    refine am_bipush (v := (-7 : Int32)) dX9_writeWord_60 (by decide) ?_
    obtain ⟨q3, hq3, h⟩ := am_bd h
    refine am_callVx (i := 0) (j := 15) (as := [.inl (-7 : Int32)]) (rest := []) dX9_writeWord_62 lkX9_fail ml_X9_225 imX9_fail seX9_fail rfl rfl (hG.m0 (by decide)) rfl (Nat.le_of_ble_eq_true rfl) rfl (sX9_fail hG hq3) ?_
    refine am_pop dX9_writeWord_65 ?_
    cases h
    exact am_vret dX9_writeWord_66 rfl ⟨rfl, rfl⟩
def bX9_writeWord_27 (n : Nat) (l1 : Nat) (s0 : Int32) (I : am_I) : Option (am_I) := (gX9_sizeOf n (I l1 55 1) I).bind (fun q1 => if s0 = 0 then (bX9_writeWord_49 n l1 s0 q1.1 (q1.2 l1 55 2) q1.2) else (bX9_writeWord_49 n l1 s0 q1.1 q1.1 q1.2))
theorem tX9_writeWord_27 {G : am_G} (hG : am_ok G) {d : Nat} {l1 : Nat} {s0 : Int32} (hl1 : l1 < G.2.2.2.1) {I : am_I} {r : am_I} (h : bX9_writeWord_27 G.2.2.2.1 l1 s0  I = some r) : am_J G (d + 4) mX9_writeWord am_no (am_E none r) 27 [some (.inr (0, 15)), some (.inr (l1, 55)), none, none, none, none, none] [.inl s0] I := by
  unfold bX9_writeWord_27 at h
  refine am_istore_n dX9_writeWord_27 (by decide) ?_
  refine am_aload_n dX9_writeWord_28 rfl ?_
  refine am_aload_n dX9_writeWord_29 rfl ?_
  refine am_get (v := .inl (I l1 55 1)) dX9_writeWord_30 fl_9_271 (hG.mn hl1 (by decide) (by decide)) rfl ?_
  obtain ⟨q1, hq1, h⟩ := am_bd h
  refine am_callVx (i := 0) (j := 15) (as := [.inl (I l1 55 1)]) (rest := []) dX9_writeWord_33 lkX9_sizeOf ml_X9_253 imX9_sizeOf seX9_sizeOf rfl rfl (hG.m0 (by decide)) rfl (Nat.le_of_ble_eq_true rfl) rfl (sX9_sizeOf hG hq1) ?_
  refine am_istore_n dX9_writeWord_36 (by decide) ?_
  refine am_iload_n dX9_writeWord_37 rfl ?_
  refine am_if_eq (tgt := 45) dX9_writeWord_38 rfl (fun c => ?_) (fun c => ?_)
  · rw [if_pos c] at h
    refine am_aload_n dX9_writeWord_45 rfl ?_
    refine am_get (v := .inl (q1.2 l1 55 2)) dX9_writeWord_46 fl_9_277 (hG.mn hl1 (by decide) (by decide)) rfl ?_
    exact am_lwJ (lo' := [some (.inr (0, 15)), some (.inr (l1, 55)), some (.inl s0), some (.inl q1.1), none, none, none]) ⟨rfl, rfl, rfl, rfl, trivial⟩ (tX9_writeWord_49 hG hl1 h)
  · rw [if_neg c] at h
    refine am_iload_n dX9_writeWord_41 rfl ?_
    refine am_goto (tgt := 49) dX9_writeWord_42 rfl ?_
    exact am_lwJ (lo' := [some (.inr (0, 15)), some (.inr (l1, 55)), some (.inl s0), some (.inl q1.1), none, none, none]) ⟨rfl, rfl, rfl, rfl, trivial⟩ (tX9_writeWord_49 hG hl1 h)
def bX9_writeWord_0 (n : Nat) (l1 : Nat) (I : am_I) : Option (am_I) := (gX9_meet n (I l1 55 1) (nI 2) I).bind (fun q1 => if q1.1 = 0 then (some q1.2) else (if (q1.2 l1 55 0) = (nI 12) then (bX9_writeWord_27 n l1 (nI 1) q1.2) else (bX9_writeWord_27 n l1 (nI 0) q1.2)))
theorem tX9_writeWord_0 {G : am_G} (hG : am_ok G) {d : Nat} {l1 : Nat} (hl1 : l1 < G.2.2.2.1) {I : am_I} {r : am_I} (h : bX9_writeWord_0 G.2.2.2.1 l1  I = some r) : am_J G (d + 4) mX9_writeWord am_no (am_E none r) 0 [some (.inr (0, 15)), some (.inr (l1, 55)), none, none, none, none, none] [] I := by
  unfold bX9_writeWord_0 at h
  refine am_aload_n dX9_writeWord_0 rfl ?_
  refine am_aload_n dX9_writeWord_1 rfl ?_
  refine am_get (v := .inl (I l1 55 1)) dX9_writeWord_2 fl_9_271 (hG.mn hl1 (by decide) (by decide)) rfl ?_
  refine am_iconst (v := nI 2) dX9_writeWord_5 (by decide) ?_
  obtain ⟨q1, hq1, h⟩ := am_bd h
  refine am_callVx (i := 0) (j := 15) (as := [.inl (I l1 55 1), .inl (nI 2)]) (rest := []) dX9_writeWord_6 lkX9_meet ml_X9_211 imX9_meet seX9_meet rfl rfl (hG.m0 (by decide)) rfl (Nat.le_of_ble_eq_true rfl) rfl (sX9_meet hG hq1) ?_
  refine am_if_ne (tgt := 13) dX9_writeWord_9 rfl (fun c => ?_) (fun c => ?_)
  · rw [if_neg c] at h
    refine am_aload_n dX9_writeWord_13 rfl ?_
    refine am_get (v := .inl (q1.2 l1 55 0)) dX9_writeWord_14 fl_9_54 (hG.mn hl1 (by decide) (by decide)) rfl ?_
    refine am_bipush (v := nI 12) dX9_writeWord_17 (by decide) ?_
    refine am_icmp_ne (tgt := 26) dX9_writeWord_19 rfl (fun c => ?_) (fun c => ?_)
    · rw [if_neg c] at h
      refine am_iconst (v := nI 0) dX9_writeWord_26 (by decide) ?_
      exact am_lwJ (lo' := [some (.inr (0, 15)), some (.inr (l1, 55)), none, none, none, none, none]) ⟨rfl, rfl, trivial⟩ (tX9_writeWord_27 hG hl1 h)
    · rw [if_pos c] at h
      refine am_iconst (v := nI 1) dX9_writeWord_22 (by decide) ?_
      refine am_goto (tgt := 27) dX9_writeWord_23 rfl ?_
      exact am_lwJ (lo' := [some (.inr (0, 15)), some (.inr (l1, 55)), none, none, none, none, none]) ⟨rfl, rfl, trivial⟩ (tX9_writeWord_27 hG hl1 h)
  · rw [if_pos c] at h
    cases h
    exact am_vret dX9_writeWord_12 rfl ⟨rfl, rfl⟩
def gX9_writeWord (n : Nat) (l1 : Nat) (I : am_I) : Option (am_I) := bX9_writeWord_0 n l1 I
theorem sX9_writeWord {G : am_G} (hG : am_ok G) {d : Nat} {l1 : Nat} (hl1 : l1 < G.2.2.2.1) {I : am_I} {r : am_I} (h : gX9_writeWord G.2.2.2.1 l1 I = some r) : am_C G (d + 4) mX9_writeWord [.inr (0, 15), .inr (l1, 55)] I (am_E none r) :=
  am_of (by decide +kernel) hG.nd (Nat.le_of_ble_eq_true rfl) (am_lwJ (lo' := [some (.inr (0, 15)), some (.inr (l1, 55)), none, none, none, none, none]) ⟨rfl, rfl, trivial⟩ (tX9_writeWord_0 hG hl1 h))
def bX10_isData_32 (n : Nat) (s0 : Int32) (I : am_I) : Option (Int32 × am_I) := am_gd (am_01 s0) (some (s0, I))
theorem tX10_isData_32 {G : am_G} (hG : am_ok G) {d : Nat} {s0 : Int32} {I : am_I} {r : Int32 × am_I} (h : bX10_isData_32 G.2.2.2.1 s0  I = some r) : am_J G d mX10_isData am_no (am_E (some r.1) r.2) 32 [none] [.inl s0] I := by
  unfold bX10_isData_32 at h
  obtain ⟨g1, h⟩ := am_gd_some h
  cases h
  exact am_iret dX10_isData_32 rfl (am_nz (am_01_of g1)).1 ⟨rfl, rfl⟩
def bX10_isData_31 (n : Nat) (I : am_I) : Option (Int32 × am_I) := bX10_isData_32 n (nI 0) I
theorem tX10_isData_31 {G : am_G} (hG : am_ok G) {d : Nat} {I : am_I} {r : Int32 × am_I} (h : bX10_isData_31 G.2.2.2.1  I = some r) : am_J G d mX10_isData am_no (am_E (some r.1) r.2) 31 [none] [] I := by
  unfold bX10_isData_31 at h
  refine am_iconst (v := nI 0) dX10_isData_31 (by decide) ?_
  exact am_lwJ (lo' := [none]) trivial (tX10_isData_32 hG h)
def bX10_isData_0 (n : Nat) (l0 : Int32) (I : am_I) : Option (Int32 × am_I) := if l0 < (nI 128) then (bX10_isData_31 n I) else (if (nI 640) ≤ l0 then (bX10_isData_31 n I) else (if ((l0 - (nI 128)) - (l0 - (nI 128)) / (nI 64) * (nI 64)) < (nI 17) then (bX10_isData_31 n I) else (bX10_isData_32 n (nI 1) I)))
theorem tX10_isData_0 {G : am_G} (hG : am_ok G) {d : Nat} {l0 : Int32} {I : am_I} {r : Int32 × am_I} (h : bX10_isData_0 G.2.2.2.1 l0  I = some r) : am_J G d mX10_isData am_no (am_E (some r.1) r.2) 0 [some (.inl l0)] [] I := by
  unfold bX10_isData_0 at h
  refine am_iload_n dX10_isData_0 rfl ?_
  refine am_sipush (v := nI 128) dX10_isData_1 (by decide) ?_
  refine am_icmp_lt (tgt := 31) dX10_isData_4 rfl (fun c => ?_) (fun c => ?_)
  · rw [if_pos c] at h
    exact am_lwJ (lo' := [none]) trivial (tX10_isData_31 hG h)
  · rw [if_neg c] at h
    refine am_iload_n dX10_isData_7 rfl ?_
    refine am_sipush (v := nI 640) dX10_isData_8 (by decide) ?_
    refine am_icmp_ge (tgt := 31) dX10_isData_11 rfl (fun c => ?_) (fun c => ?_)
    · rw [if_pos c] at h
      exact am_lwJ (lo' := [none]) trivial (tX10_isData_31 hG h)
    · rw [if_neg c] at h
      refine am_iload_n dX10_isData_14 rfl ?_
      refine am_sipush (v := nI 128) dX10_isData_15 (by decide) ?_
      refine am_isub dX10_isData_18 ?_
      refine am_bipush (v := nI 64) dX10_isData_19 (by decide) ?_
      refine am_irem dX10_isData_21 (by decide) ?_
      refine am_bipush (v := nI 17) dX10_isData_22 (by decide) ?_
      refine am_icmp_lt (tgt := 31) dX10_isData_24 rfl (fun c => ?_) (fun c => ?_)
      · rw [if_pos c] at h
        exact am_lwJ (lo' := [none]) trivial (tX10_isData_31 hG h)
      · rw [if_neg c] at h
        refine am_iconst (v := nI 1) dX10_isData_27 (by decide) ?_
        refine am_goto (tgt := 32) dX10_isData_28 rfl ?_
        exact am_lwJ (lo' := [none]) trivial (tX10_isData_32 hG h)
def gX10_isData (n : Nat) (l0 : Int32) (I : am_I) : Option (Int32 × am_I) := bX10_isData_0 n l0 I
theorem sX10_isData {G : am_G} (hG : am_ok G) {d : Nat} {l0 : Int32} {I : am_I} {r : Int32 × am_I} (h : gX10_isData G.2.2.2.1 l0 I = some r) : am_C G d mX10_isData [.inl l0] I (am_E (some r.1) r.2) :=
  am_of (by decide +kernel) hG.nd (Nat.le_of_ble_eq_true rfl) (am_lwJ (lo' := [some (.inl l0)]) ⟨rfl, trivial⟩ (tX10_isData_0 hG h))
def bX10_groupOf_0 (n : Nat) (l0 : Int32) (I : am_I) : Option (Int32 × am_I) := some ((l0 - (nI 128)) / (nI 64), I)
theorem tX10_groupOf_0 {G : am_G} (hG : am_ok G) {d : Nat} {l0 : Int32} {I : am_I} {r : Int32 × am_I} (h : bX10_groupOf_0 G.2.2.2.1 l0  I = some r) : am_J G d mX10_groupOf am_no (am_E (some r.1) r.2) 0 [some (.inl l0)] [] I := by
  unfold bX10_groupOf_0 at h
  refine am_iload_n dX10_groupOf_0 rfl ?_
  refine am_sipush (v := nI 128) dX10_groupOf_1 (by decide) ?_
  refine am_isub dX10_groupOf_4 ?_
  refine am_bipush (v := nI 64) dX10_groupOf_5 (by decide) ?_
  refine am_idiv dX10_groupOf_7 (by decide) ?_
  cases h
  exact am_iret dX10_groupOf_8 rfl rfl ⟨rfl, rfl⟩
def gX10_groupOf (n : Nat) (l0 : Int32) (I : am_I) : Option (Int32 × am_I) := bX10_groupOf_0 n l0 I
theorem sX10_groupOf {G : am_G} (hG : am_ok G) {d : Nat} {l0 : Int32} {I : am_I} {r : Int32 × am_I} (h : gX10_groupOf G.2.2.2.1 l0 I = some r) : am_C G d mX10_groupOf [.inl l0] I (am_E (some r.1) r.2) :=
  am_of (by decide +kernel) hG.nd (Nat.le_of_ble_eq_true rfl) (am_lwJ (lo' := [some (.inl l0)]) ⟨rfl, trivial⟩ (tX10_groupOf_0 hG h))
def bX10_dataNumber_0 (n : Nat) (l0 : Int32) (I : am_I) : Option (Int32 × am_I) := some (((l0 - (nI 128)) - (l0 - (nI 128)) / (nI 64) * (nI 64)) - (nI 17), I)
theorem tX10_dataNumber_0 {G : am_G} (hG : am_ok G) {d : Nat} {l0 : Int32} {I : am_I} {r : Int32 × am_I} (h : bX10_dataNumber_0 G.2.2.2.1 l0  I = some r) : am_J G d mX10_dataNumber am_no (am_E (some r.1) r.2) 0 [some (.inl l0)] [] I := by
  unfold bX10_dataNumber_0 at h
  refine am_iload_n dX10_dataNumber_0 rfl ?_
  refine am_sipush (v := nI 128) dX10_dataNumber_1 (by decide) ?_
  refine am_isub dX10_dataNumber_4 ?_
  refine am_bipush (v := nI 64) dX10_dataNumber_5 (by decide) ?_
  refine am_irem dX10_dataNumber_7 (by decide) ?_
  refine am_bipush (v := nI 17) dX10_dataNumber_8 (by decide) ?_
  refine am_isub dX10_dataNumber_10 ?_
  cases h
  exact am_iret dX10_dataNumber_11 rfl rfl ⟨rfl, rfl⟩
def gX10_dataNumber (n : Nat) (l0 : Int32) (I : am_I) : Option (Int32 × am_I) := bX10_dataNumber_0 n l0 I
theorem sX10_dataNumber {G : am_G} (hG : am_ok G) {d : Nat} {l0 : Int32} {I : am_I} {r : Int32 × am_I} (h : gX10_dataNumber G.2.2.2.1 l0 I = some r) : am_C G d mX10_dataNumber [.inl l0] I (am_E (some r.1) r.2) :=
  am_of (by decide +kernel) hG.nd (Nat.le_of_ble_eq_true rfl) (am_lwJ (lo' := [some (.inl l0)]) ⟨rfl, trivial⟩ (tX10_dataNumber_0 hG h))
def bX9_giveBack_99 (n : Nat) (I : am_I) : Option (Int32 × am_I) := some (nI 1, I)
theorem tX9_giveBack_99 {G : am_G} (hG : am_ok G) {d : Nat} {I : am_I} {r : Int32 × am_I} (h : bX9_giveBack_99 G.2.2.2.1  I = some r) : am_J G (d + 2) mX9_giveBack am_no (am_E (some r.1) r.2) 99 [none, none, none, none, none] [] I := by
  unfold bX9_giveBack_99 at h
  refine am_iconst (v := nI 1) dX9_giveBack_99 (by decide) ?_
  cases h
  exact am_iret dX9_giveBack_100 rfl (am_nz (by decide)).1 ⟨rfl, rfl⟩
def bX9_giveBack_0 (n : Nat) (l1 : Int32) (I : am_I) : Option (Int32 × am_I) := (gX10_isData n l1 I).bind (fun q1 => if q1.1 = 0 then (some (nI 1, q1.2)) else ((gX10_groupOf n l1 q1.2).bind (fun q2 => (gX10_mapResource n q2.1 q2.2).bind (fun q3 => (gX9_meet n q3.1 (nI 2) q3.2).bind (fun q4 => if q4.1 = 0 then (some (nI 0, q4.2)) else ((gX10_dataNumber n l1 q4.2).bind (fun q5 => (gX10_mapBlock n q2.1 q5.2).bind (fun q6 => (gX10_mapBlock n q2.1 q6.2).bind (fun q7 => (gX9_read n q7.1 ((nI 1) + (q5.1 / (nI 32))) q7.2).bind (fun q8 => (gX9_set n q6.1 ((nI 1) + (q5.1 / (nI 32))) (q8.1 &&& (((nI 1) <<< ((q5.1 - q5.1 / (nI 32) * (nI 32)) &&& 31)) ^^^ (-1 : Int32))) q8.2).bind (fun q9 => if (nI 32) ≤ (q9 0 15 7) then (bX9_giveBack_99 n q9) else (am_gd (am_inb (q9 0 15 7) 32) (am_lt (am_up q9 0 20 (q9 0 15 7).toNatClampNeg l1) (fun I11 => am_lt (am_up I11 0 15 7 ((I11 0 15 7) + (nI 1))) (fun I12 => bX9_giveBack_99 n I12)))))))))))))))
theorem tX9_giveBack_0 {G : am_G} (hG : am_ok G) {d : Nat} {l1 : Int32} {I : am_I} {r : Int32 × am_I} (h : bX9_giveBack_0 G.2.2.2.1 l1  I = some r) : am_J G (d + 2) mX9_giveBack am_no (am_E (some r.1) r.2) 0 [some (.inr (0, 15)), some (.inl l1), none, none, none] [] I := by
  unfold bX9_giveBack_0 at h
  refine am_iload_n dX9_giveBack_0 rfl ?_
  obtain ⟨q1, hq1, h⟩ := am_bd h
  refine am_callSNx (as := [.inl l1]) (rest := []) dX9_giveBack_1 lkX10_isData nl_X9_229 isX10_isData rfl (Nat.le_of_ble_eq_true rfl) rfl (sX10_isData hG hq1) ?_
  refine am_if_ne (tgt := 9) dX9_giveBack_4 rfl (fun c => ?_) (fun c => ?_)
  · rw [if_neg c] at h
    refine am_iload_n dX9_giveBack_9 rfl ?_
    obtain ⟨q2, hq2, h⟩ := am_bd h
    refine am_callSNx (as := [.inl l1]) (rest := []) dX9_giveBack_10 lkX10_groupOf nl_X9_232 isX10_groupOf rfl (Nat.le_of_ble_eq_true rfl) rfl (sX10_groupOf hG hq2) ?_
    refine am_istore_n dX9_giveBack_13 (by decide) ?_
    refine am_aload_n dX9_giveBack_14 rfl ?_
    refine am_iload_n dX9_giveBack_15 rfl ?_
    obtain ⟨q3, hq3, h⟩ := am_bd h
    refine am_callSNx (as := [.inl q2.1]) (rest := [.inr (0, 15)]) dX9_giveBack_16 lkX10_mapResource nl_X9_208 isX10_mapResource rfl (Nat.le_of_ble_eq_true rfl) rfl (sX10_mapResource hG hq3) ?_
    refine am_iconst (v := nI 2) dX9_giveBack_19 (by decide) ?_
    obtain ⟨q4, hq4, h⟩ := am_bd h
    refine am_callVx (i := 0) (j := 15) (as := [.inl q3.1, .inl (nI 2)]) (rest := []) dX9_giveBack_20 lkX9_meet ml_X9_211 imX9_meet seX9_meet rfl rfl (hG.m0 (by decide)) rfl (Nat.le_of_ble_eq_true rfl) rfl (sX9_meet hG hq4) ?_
    refine am_if_ne (tgt := 28) dX9_giveBack_23 rfl (fun c => ?_) (fun c => ?_)
    · rw [if_neg c] at h
      refine am_iload_n dX9_giveBack_28 rfl ?_
      obtain ⟨q5, hq5, h⟩ := am_bd h
      refine am_callSNx (as := [.inl l1]) (rest := []) dX9_giveBack_29 lkX10_dataNumber nl_X9_235 isX10_dataNumber rfl (Nat.le_of_ble_eq_true rfl) rfl (sX10_dataNumber hG hq5) ?_
      refine am_istore_n dX9_giveBack_32 (by decide) ?_
      refine am_iconst (v := nI 1) dX9_giveBack_33 (by decide) ?_
      refine am_iload_n dX9_giveBack_34 rfl ?_
      refine am_bipush (v := nI 32) dX9_giveBack_35 (by decide) ?_
      refine am_idiv dX9_giveBack_37 (by decide) ?_
      refine am_iadd dX9_giveBack_38 ?_
      refine am_istore dX9_giveBack_39 (by decide) ?_
      refine am_aload_n dX9_giveBack_41 rfl ?_
      refine am_iload_n dX9_giveBack_42 rfl ?_
      obtain ⟨q6, hq6, h⟩ := am_bd h
      refine am_callSNx (as := [.inl q2.1]) (rest := [.inr (0, 15)]) dX9_giveBack_43 lkX10_mapBlock nl_X9_214 isX10_mapBlock rfl (Nat.le_of_ble_eq_true rfl) rfl (sX10_mapBlock hG hq6) ?_
      refine am_iload dX9_giveBack_46 rfl ?_
      refine am_aload_n dX9_giveBack_48 rfl ?_
      refine am_iload_n dX9_giveBack_49 rfl ?_
      obtain ⟨q7, hq7, h⟩ := am_bd h
      refine am_callSNx (as := [.inl q2.1]) (rest := [.inr (0, 15), .inl ((nI 1) + (q5.1 / (nI 32))), .inl q6.1, .inr (0, 15)]) dX9_giveBack_50 lkX10_mapBlock nl_X9_214 isX10_mapBlock rfl (Nat.le_of_ble_eq_true rfl) rfl (sX10_mapBlock hG hq7) ?_
      refine am_iload dX9_giveBack_53 rfl ?_
      obtain ⟨q8, hq8, h⟩ := am_bd h
      refine am_callVx (i := 0) (j := 15) (as := [.inl q7.1, .inl ((nI 1) + (q5.1 / (nI 32)))]) (rest := [.inl ((nI 1) + (q5.1 / (nI 32))), .inl q6.1, .inr (0, 15)]) dX9_giveBack_55 lkX9_read ml_X9_197 imX9_read seX9_read rfl rfl (hG.m0 (by decide)) rfl (Nat.le_of_ble_eq_true rfl) rfl (sX9_read hG hq8) ?_
      refine am_iconst (v := nI 1) dX9_giveBack_58 (by decide) ?_
      refine am_iload_n dX9_giveBack_59 rfl ?_
      refine am_bipush (v := nI 32) dX9_giveBack_60 (by decide) ?_
      refine am_irem dX9_giveBack_62 (by decide) ?_
      refine am_ishl dX9_giveBack_63 ?_
      refine am_iconst (v := (-1 : Int32)) dX9_giveBack_64 (by decide) ?_
      refine am_ixor dX9_giveBack_65 ?_
      refine am_iand dX9_giveBack_66 ?_
      obtain ⟨q9, hq9, h⟩ := am_bd h
      refine am_callVe (i := 0) (j := 15) (as := [.inl q6.1, .inl ((nI 1) + (q5.1 / (nI 32))), .inl (q8.1 &&& (((nI 1) <<< ((q5.1 - q5.1 / (nI 32) * (nI 32)) &&& 31)) ^^^ (-1 : Int32)))]) (rest := []) dX9_giveBack_67 lkX9_set ml_X9_204 imX9_set seX9_set rfl rfl (hG.m0 (by decide)) rfl (Nat.le_of_ble_eq_true rfl) rfl (sX9_set hG hq9) ?_
      refine am_aload_n dX9_giveBack_70 rfl ?_
      refine am_get (v := .inl (q9 0 15 7)) dX9_giveBack_71 fl_9_131 (hG.m0 (by decide)) rfl ?_
      refine am_bipush (v := nI 32) dX9_giveBack_74 (by decide) ?_
      refine am_icmp_ge (tgt := 99) dX9_giveBack_76 rfl (fun c => ?_) (fun c => ?_)
      · rw [if_pos c] at h
        exact am_lwJ (lo' := [none, none, none, none, none]) trivial (tX9_giveBack_99 hG h)
      · rw [if_neg c] at h
        refine am_aload_n dX9_giveBack_79 rfl ?_
        refine am_get (v := .inr (0, 20)) dX9_giveBack_80 fl_9_25 (hG.m0 (by decide)) rfl ?_
        refine am_aload_n dX9_giveBack_83 rfl ?_
        refine am_get (v := .inl (q9 0 15 7)) dX9_giveBack_84 fl_9_131 (hG.m0 (by decide)) rfl ?_
        refine am_iload_n dX9_giveBack_87 rfl ?_
        obtain ⟨g10, h⟩ := am_gd_some h
        refine am_iastG dX9_giveBack_88 (hG.m0 (by decide)) rfl g10 (show 32 < 2 ^ 31 by decide) ?_
        obtain ⟨I11, hI11, h⟩ := am_lt_some h
        refine am_st10 hI11 ?_
        refine am_aload_n dX9_giveBack_89 rfl ?_
        refine am_dup dX9_giveBack_90 ?_
        refine am_get (v := .inl (I11 0 15 7)) dX9_giveBack_91 fl_9_131 (hG.m0 (by decide)) rfl ?_
        refine am_iconst (v := nI 1) dX9_giveBack_94 (by decide) ?_
        refine am_iadd dX9_giveBack_95 ?_
        refine am_put (x := (I11 0 15 7) + (nI 1)) dX9_giveBack_96 fp_9_131 (hG.m0 (by decide)) (Nat.le_of_ble_eq_true rfl) rfl ?_
        obtain ⟨I12, hI12, h⟩ := am_lt_some h
        refine am_st10 hI12 ?_
        exact am_lwJ (lo' := [none, none, none, none, none]) trivial (tX9_giveBack_99 hG h)
    · rw [if_pos c] at h
      refine am_iconst (v := nI 0) dX9_giveBack_26 (by decide) ?_
      cases h
      exact am_iret dX9_giveBack_27 rfl (am_nz (by decide)).1 ⟨rfl, rfl⟩
  · rw [if_pos c] at h
    refine am_iconst (v := nI 1) dX9_giveBack_7 (by decide) ?_
    cases h
    exact am_iret dX9_giveBack_8 rfl (am_nz (by decide)).1 ⟨rfl, rfl⟩
def gX9_giveBack (n : Nat) (l1 : Int32) (I : am_I) : Option (Int32 × am_I) := bX9_giveBack_0 n l1 I
theorem sX9_giveBack {G : am_G} (hG : am_ok G) {d : Nat} {l1 : Int32} {I : am_I} {r : Int32 × am_I} (h : gX9_giveBack G.2.2.2.1 l1 I = some r) : am_C G (d + 2) mX9_giveBack [.inr (0, 15), .inl l1] I (am_E (some r.1) r.2) :=
  am_of (by decide +kernel) hG.nd (Nat.le_of_ble_eq_true rfl) (am_lwJ (lo' := [some (.inr (0, 15)), some (.inl l1), none, none, none]) ⟨rfl, rfl, trivial⟩ (tX9_giveBack_0 hG h))
def bX9_givePlacesBack_42 (n : Nat) (k3 : Int32 → Int32 → Int32 → am_I → Option (Int32 × am_I)) (l1 : Int32) (l3 : Int32) (l4 : Int32) (I : am_I) : Option (Int32 × am_I) := k3 l1 l3 (l4 + nI 1) I
theorem tX9_givePlacesBack_42 {G : am_G} (hG : am_ok G) {d : Nat} {k3 : Int32 → Int32 → Int32 → am_I → Option (Int32 × am_I)} (hk3 : ∀ (l1 : Int32) (l3 : Int32) (l4 : Int32) (I : am_I) (r : Int32 × am_I), k3 l1 l3 l4 I = some r → am_J G (d + 3) mX9_givePlacesBack am_no (am_E (some r.1) r.2) 3 [some (.inr (0, 15)), some (.inl l1), none, some (.inl l3), some (.inl l4), none] [] I) {l1 : Int32} {l3 : Int32} {l4 : Int32} {I : am_I} {r : Int32 × am_I} (h : bX9_givePlacesBack_42 G.2.2.2.1 k3 l1 l3 l4  I = some r) : am_J G (d + 3) mX9_givePlacesBack am_no (am_E (some r.1) r.2) 42 [some (.inr (0, 15)), some (.inl l1), none, some (.inl l3), some (.inl l4), none] [] I := by
  unfold bX9_givePlacesBack_42 at h
  refine am_iinc (v := l4 + nI 1) dX9_givePlacesBack_42 rfl rfl ?_
  refine am_goto (tgt := 3) dX9_givePlacesBack_45 rfl ?_
  exact am_lwJ (lo' := [some (.inr (0, 15)), some (.inl l1), none, some (.inl l3), some (.inl (l4 + nI 1)), none]) ⟨rfl, rfl, rfl, rfl, trivial⟩ (hk3 l1 l3 (l4 + nI 1) _ _ h)
def bX9_givePlacesBack_3 (n : Nat) : Nat → Int32 → Int32 → Int32 → am_I → Option (Int32 × am_I)
  | 0, _, _, _, _ => none
  | fu + 1, l1, l3, l4, I => (fun k3 => if l3 ≤ l4 then (some (nI 1, I)) else ((gX9_read n l1 l4 I).bind (fun q1 => if q1.1 = 0 then (bX9_givePlacesBack_42 n k3 l1 l3 l4 q1.2) else ((gX9_giveBack n q1.1 q1.2).bind (fun q2 => if q2.1 = 0 then (some (nI 0, q2.2)) else ((gX9_set n l1 l4 (nI 0) q2.2).bind (fun q3 => bX9_givePlacesBack_42 n k3 l1 l3 l4 q3))))))) (bX9_givePlacesBack_3 n fu)
theorem tX9_givePlacesBack_3 {G : am_G} (hG : am_ok G) {d : Nat} : ∀ {fu : Nat} {l1 : Int32} {l3 : Int32} {l4 : Int32} {I : am_I} {r : Int32 × am_I}, bX9_givePlacesBack_3 G.2.2.2.1 fu l1 l3 l4 I = some r → am_J G (d + 3) mX9_givePlacesBack am_no (am_E (some r.1) r.2) 3 [some (.inr (0, 15)), some (.inl l1), none, some (.inl l3), some (.inl l4), none] [] I := by
  intro fu
  induction fu with
  | zero => intro l1 l3 l4 I r h; cases h
  | succ fu ih =>
    intro l1 l3 l4 I r h
    have hk3 : ∀ (l1 : Int32) (l3 : Int32) (l4 : Int32) (I : am_I) (r : Int32 × am_I), bX9_givePlacesBack_3 G.2.2.2.1 fu l1 l3 l4 I = some r → am_J G (d + 3) mX9_givePlacesBack am_no (am_E (some r.1) r.2) 3 [some (.inr (0, 15)), some (.inl l1), none, some (.inl l3), some (.inl l4), none] [] I := fun l1 l3 l4 I r h => ih h
    unfold bX9_givePlacesBack_3 at h
    generalize bX9_givePlacesBack_3 G.2.2.2.1 fu = k3 at hk3 h
    dsimp only at h
    refine am_iload dX9_givePlacesBack_3 rfl ?_
    refine am_iload_n dX9_givePlacesBack_5 rfl ?_
    refine am_icmp_ge (tgt := 48) dX9_givePlacesBack_6 rfl (fun c => ?_) (fun c => ?_)
    · rw [if_pos c] at h
      refine am_iconst (v := nI 1) dX9_givePlacesBack_48 (by decide) ?_
      cases h
      exact am_iret dX9_givePlacesBack_49 rfl (am_nz (by decide)).1 ⟨rfl, rfl⟩
    · rw [if_neg c] at h
      refine am_aload_n dX9_givePlacesBack_9 rfl ?_
      refine am_iload_n dX9_givePlacesBack_10 rfl ?_
      refine am_iload dX9_givePlacesBack_11 rfl ?_
      obtain ⟨q1, hq1, h⟩ := am_bd h
      refine am_callVx (i := 0) (j := 15) (as := [.inl l1, .inl l4]) (rest := []) dX9_givePlacesBack_13 lkX9_read ml_X9_197 imX9_read seX9_read rfl rfl (hG.m0 (by decide)) rfl (Nat.le_of_ble_eq_true rfl) rfl (sX9_read hG hq1) ?_
      refine am_istore dX9_givePlacesBack_16 (by decide) ?_
      refine am_iload dX9_givePlacesBack_18 rfl ?_
      refine am_if_eq (tgt := 42) dX9_givePlacesBack_20 rfl (fun c => ?_) (fun c => ?_)
      · rw [if_pos c] at h
        exact am_lwJ (lo' := [some (.inr (0, 15)), some (.inl l1), none, some (.inl l3), some (.inl l4), none]) ⟨rfl, rfl, rfl, rfl, trivial⟩ (tX9_givePlacesBack_42 hG hk3 h)
      · rw [if_neg c] at h
        refine am_aload_n dX9_givePlacesBack_23 rfl ?_
        refine am_iload dX9_givePlacesBack_24 rfl ?_
        obtain ⟨q2, hq2, h⟩ := am_bd h
        refine am_callVx (i := 0) (j := 15) (as := [.inl q1.1]) (rest := []) dX9_givePlacesBack_26 lkX9_giveBack ml_X9_238 imX9_giveBack seX9_giveBack rfl rfl (hG.m0 (by decide)) rfl (Nat.le_of_ble_eq_true rfl) rfl (sX9_giveBack hG hq2) ?_
        refine am_if_ne (tgt := 34) dX9_givePlacesBack_29 rfl (fun c => ?_) (fun c => ?_)
        · rw [if_neg c] at h
          refine am_aload_n dX9_givePlacesBack_34 rfl ?_
          refine am_iload_n dX9_givePlacesBack_35 rfl ?_
          refine am_iload dX9_givePlacesBack_36 rfl ?_
          refine am_iconst (v := nI 0) dX9_givePlacesBack_38 (by decide) ?_
          obtain ⟨q3, hq3, h⟩ := am_bd h
          refine am_callVe (i := 0) (j := 15) (as := [.inl l1, .inl l4, .inl (nI 0)]) (rest := []) dX9_givePlacesBack_39 lkX9_set ml_X9_204 imX9_set seX9_set rfl rfl (hG.m0 (by decide)) rfl (Nat.le_of_ble_eq_true rfl) rfl (sX9_set hG hq3) ?_
          exact am_lwJ (lo' := [some (.inr (0, 15)), some (.inl l1), none, some (.inl l3), some (.inl l4), none]) ⟨rfl, rfl, rfl, rfl, trivial⟩ (tX9_givePlacesBack_42 hG hk3 h)
        · rw [if_pos c] at h
          refine am_iconst (v := nI 0) dX9_givePlacesBack_32 (by decide) ?_
          cases h
          exact am_iret dX9_givePlacesBack_33 rfl (am_nz (by decide)).1 ⟨rfl, rfl⟩
def bX9_givePlacesBack_0 (n : Nat) (l1 : Int32) (l2 : Int32) (l3 : Int32) (I : am_I) : Option (Int32 × am_I) := bX9_givePlacesBack_3 n am_fu l1 l3 l2 I
theorem tX9_givePlacesBack_0 {G : am_G} (hG : am_ok G) {d : Nat} {l1 : Int32} {l2 : Int32} {l3 : Int32} {I : am_I} {r : Int32 × am_I} (h : bX9_givePlacesBack_0 G.2.2.2.1 l1 l2 l3  I = some r) : am_J G (d + 3) mX9_givePlacesBack am_no (am_E (some r.1) r.2) 0 [some (.inr (0, 15)), some (.inl l1), some (.inl l2), some (.inl l3), none, none] [] I := by
  unfold bX9_givePlacesBack_0 at h
  refine am_iload_n dX9_givePlacesBack_0 rfl ?_
  refine am_istore dX9_givePlacesBack_1 (by decide) ?_
  exact am_lwJ (lo' := [some (.inr (0, 15)), some (.inl l1), none, some (.inl l3), some (.inl l2), none]) ⟨rfl, rfl, rfl, rfl, trivial⟩ (tX9_givePlacesBack_3 hG h)
def gX9_givePlacesBack (n : Nat) (l1 : Int32) (l2 : Int32) (l3 : Int32) (I : am_I) : Option (Int32 × am_I) := bX9_givePlacesBack_0 n l1 l2 l3 I
theorem sX9_givePlacesBack {G : am_G} (hG : am_ok G) {d : Nat} {l1 : Int32} {l2 : Int32} {l3 : Int32} {I : am_I} {r : Int32 × am_I} (h : gX9_givePlacesBack G.2.2.2.1 l1 l2 l3 I = some r) : am_C G (d + 3) mX9_givePlacesBack [.inr (0, 15), .inl l1, .inl l2, .inl l3] I (am_E (some r.1) r.2) :=
  am_of (by decide +kernel) hG.nd (Nat.le_of_ble_eq_true rfl) (am_lwJ (lo' := [some (.inr (0, 15)), some (.inl l1), some (.inl l2), some (.inl l3), none, none]) ⟨rfl, rfl, rfl, rfl, trivial⟩ (tX9_givePlacesBack_0 hG h))
def bX9_cut_182 (n : Nat) (l4 : Int32) (I : am_I) : Option (am_I) := (gX9_finish n l4 I).bind (fun q1 => some q1)
theorem tX9_cut_182 {G : am_G} (hG : am_ok G) {d : Nat} {l4 : Int32} {I : am_I} {r : am_I} (h : bX9_cut_182 G.2.2.2.1 l4  I = some r) : am_J G (d + 4) mX9_cut am_no (am_E none r) 182 [some (.inr (0, 15)), none, none, none, some (.inl l4), none, none, none, none] [] I := by
  unfold bX9_cut_182 at h
  refine am_aload_n dX9_cut_182 rfl ?_
  refine am_iload dX9_cut_183 rfl ?_
  obtain ⟨q1, hq1, h⟩ := am_bd h
  refine am_callVe (i := 0) (j := 15) (as := [.inl l4]) (rest := []) dX9_cut_185 lkX9_finish ml_X9_283 imX9_finish seX9_finish rfl rfl (hG.m0 (by decide)) rfl (Nat.le_of_ble_eq_true rfl) rfl (sX9_finish hG hq1) ?_
  cases h
  exact am_vret dX9_cut_188 rfl ⟨rfl, rfl⟩
def bX9_cut_155 (n : Nat) : Nat → Int32 → Int32 → Int32 → am_I → Option (am_I)
  | 0, _, _, _, _ => none
  | fu + 1, l4, l7, l8, I => (fun k155 => if l7 = 0 then (bX9_cut_182 n l4 I) else (if (nI 16) ≤ l8 then (bX9_cut_182 n l4 I) else ((gX9_set n l7 l8 (nI 0) I).bind (fun q1 => k155 l4 l7 (l8 + nI 1) q1)))) (bX9_cut_155 n fu)
theorem tX9_cut_155 {G : am_G} (hG : am_ok G) {d : Nat} : ∀ {fu : Nat} {l4 : Int32} {l7 : Int32} {l8 : Int32} {I : am_I} {r : am_I}, bX9_cut_155 G.2.2.2.1 fu l4 l7 l8 I = some r → am_J G (d + 4) mX9_cut am_no (am_E none r) 155 [some (.inr (0, 15)), none, none, none, some (.inl l4), none, none, some (.inl l7), some (.inl l8)] [] I := by
  intro fu
  induction fu with
  | zero => intro l4 l7 l8 I r h; cases h
  | succ fu ih =>
    intro l4 l7 l8 I r h
    have hk155 : ∀ (l4 : Int32) (l7 : Int32) (l8 : Int32) (I : am_I) (r : am_I), bX9_cut_155 G.2.2.2.1 fu l4 l7 l8 I = some r → am_J G (d + 4) mX9_cut am_no (am_E none r) 155 [some (.inr (0, 15)), none, none, none, some (.inl l4), none, none, some (.inl l7), some (.inl l8)] [] I := fun l4 l7 l8 I r h => ih h
    unfold bX9_cut_155 at h
    generalize bX9_cut_155 G.2.2.2.1 fu = k155 at hk155 h
    dsimp only at h
    refine am_iload dX9_cut_155 rfl ?_
    refine am_if_eq (tgt := 182) dX9_cut_157 rfl (fun c => ?_) (fun c => ?_)
    · rw [if_pos c] at h
      exact am_lwJ (lo' := [some (.inr (0, 15)), none, none, none, some (.inl l4), none, none, none, none]) ⟨rfl, rfl, trivial⟩ (tX9_cut_182 hG h)
    · rw [if_neg c] at h
      refine am_iload dX9_cut_160 rfl ?_
      refine am_bipush (v := nI 16) dX9_cut_162 (by decide) ?_
      refine am_icmp_ge (tgt := 182) dX9_cut_164 rfl (fun c => ?_) (fun c => ?_)
      · rw [if_pos c] at h
        exact am_lwJ (lo' := [some (.inr (0, 15)), none, none, none, some (.inl l4), none, none, none, none]) ⟨rfl, rfl, trivial⟩ (tX9_cut_182 hG h)
      · rw [if_neg c] at h
        refine am_aload_n dX9_cut_167 rfl ?_
        refine am_iload dX9_cut_168 rfl ?_
        refine am_iload dX9_cut_170 rfl ?_
        refine am_iconst (v := nI 0) dX9_cut_172 (by decide) ?_
        obtain ⟨q1, hq1, h⟩ := am_bd h
        refine am_callVe (i := 0) (j := 15) (as := [.inl l7, .inl l8, .inl (nI 0)]) (rest := []) dX9_cut_173 lkX9_set ml_X9_204 imX9_set seX9_set rfl rfl (hG.m0 (by decide)) rfl (Nat.le_of_ble_eq_true rfl) rfl (sX9_set hG hq1) ?_
        refine am_iinc (v := l8 + nI 1) dX9_cut_176 rfl rfl ?_
        refine am_goto (tgt := 155) dX9_cut_179 rfl ?_
        exact am_lwJ (lo' := [some (.inr (0, 15)), none, none, none, some (.inl l4), none, none, some (.inl l7), some (.inl (l8 + nI 1))]) ⟨rfl, rfl, rfl, rfl, trivial⟩ (hk155 l4 l7 (l8 + nI 1) _ _ h)
def bX9_cut_147 (n : Nat) (l3 : Int32) (l4 : Int32) (s0 : Int32) (I : am_I) : Option (am_I) := bX9_cut_155 n am_fu l4 s0 (l3 - l3 / (nI 16) * (nI 16)) I
theorem tX9_cut_147 {G : am_G} (hG : am_ok G) {d : Nat} {l3 : Int32} {l4 : Int32} {s0 : Int32} {I : am_I} {r : am_I} (h : bX9_cut_147 G.2.2.2.1 l3 l4 s0  I = some r) : am_J G (d + 4) mX9_cut am_no (am_E none r) 147 [some (.inr (0, 15)), none, none, some (.inl l3), some (.inl l4), none, none, none, none] [.inl s0] I := by
  unfold bX9_cut_147 at h
  refine am_istore dX9_cut_147 (by decide) ?_
  refine am_iload_n dX9_cut_149 rfl ?_
  refine am_bipush (v := nI 16) dX9_cut_150 (by decide) ?_
  refine am_irem dX9_cut_152 (by decide) ?_
  refine am_istore dX9_cut_153 (by decide) ?_
  exact am_lwJ (lo' := [some (.inr (0, 15)), none, none, none, some (.inl l4), none, none, some (.inl s0), some (.inl (l3 - l3 / (nI 16) * (nI 16)))]) ⟨rfl, rfl, rfl, rfl, trivial⟩ (tX9_cut_155 hG h)
def bX9_cut_120 (n : Nat) (l1 : Nat) (l2 : Int32) (l3 : Int32) (l4 : Int32) (I : am_I) : Option (am_I) := (gX9_set n l2 (nI 2) l3 I).bind (fun q1 => if (l3 - l3 / (nI 16) * (nI 16)) = 0 then (bX9_cut_147 n l3 l4 (nI 0) q1) else ((gX9_blockOf n (q1 l1 55 1) l3 q1).bind (fun q2 => bX9_cut_147 n l3 l4 q2.1 q2.2)))
theorem tX9_cut_120 {G : am_G} (hG : am_ok G) {d : Nat} {l1 : Nat} {l2 : Int32} {l3 : Int32} {l4 : Int32} (hl1 : l1 < G.2.2.2.1) {I : am_I} {r : am_I} (h : bX9_cut_120 G.2.2.2.1 l1 l2 l3 l4  I = some r) : am_J G (d + 4) mX9_cut am_no (am_E none r) 120 [some (.inr (0, 15)), some (.inr (l1, 55)), some (.inl l2), some (.inl l3), some (.inl l4), none, none, none, none] [] I := by
  unfold bX9_cut_120 at h
  refine am_aload_n dX9_cut_120 rfl ?_
  refine am_iload_n dX9_cut_121 rfl ?_
  refine am_iconst (v := nI 2) dX9_cut_122 (by decide) ?_
  refine am_iload_n dX9_cut_123 rfl ?_
  obtain ⟨q1, hq1, h⟩ := am_bd h
  refine am_callVe (i := 0) (j := 15) (as := [.inl l2, .inl (nI 2), .inl l3]) (rest := []) dX9_cut_124 lkX9_set ml_X9_204 imX9_set seX9_set rfl rfl (hG.m0 (by decide)) rfl (Nat.le_of_ble_eq_true rfl) rfl (sX9_set hG hq1) ?_
  refine am_iload_n dX9_cut_127 rfl ?_
  refine am_bipush (v := nI 16) dX9_cut_128 (by decide) ?_
  refine am_irem dX9_cut_130 (by decide) ?_
  refine am_if_ne (tgt := 138) dX9_cut_131 rfl (fun c => ?_) (fun c => ?_)
  · rw [if_neg c] at h
    refine am_aload_n dX9_cut_138 rfl ?_
    refine am_aload_n dX9_cut_139 rfl ?_
    refine am_get (v := .inl (q1 l1 55 1)) dX9_cut_140 fl_9_271 (hG.mn hl1 (by decide) (by decide)) rfl ?_
    refine am_iload_n dX9_cut_143 rfl ?_
    obtain ⟨q2, hq2, h⟩ := am_bd h
    refine am_callVx (i := 0) (j := 15) (as := [.inl (q1 l1 55 1), .inl l3]) (rest := []) dX9_cut_144 lkX9_blockOf ml_X9_256 imX9_blockOf seX9_blockOf rfl rfl (hG.m0 (by decide)) rfl (Nat.le_of_ble_eq_true rfl) rfl (sX9_blockOf hG hq2) ?_
    exact am_lwJ (lo' := [some (.inr (0, 15)), none, none, some (.inl l3), some (.inl l4), none, none, none, none]) ⟨rfl, rfl, rfl, trivial⟩ (tX9_cut_147 hG h)
  · rw [if_pos c] at h
    refine am_iconst (v := nI 0) dX9_cut_134 (by decide) ?_
    refine am_goto (tgt := 147) dX9_cut_135 rfl ?_
    exact am_lwJ (lo' := [some (.inr (0, 15)), none, none, some (.inl l3), some (.inl l4), none, none, none, none]) ⟨rfl, rfl, rfl, trivial⟩ (tX9_cut_147 hG h)
def bX9_cut_0 (n : Nat) (l1 : Nat) (I : am_I) : Option (am_I) := (gX9_meetFile n (I l1 55 1) (nI 2) I).bind (fun q1 => if q1.1 = 0 then (some q1.2) else ((gX10_inodeBlock n (q1.2 l1 55 1) q1.2).bind (fun q2 => (gX9_read n q2.1 (nI 2) q2.2).bind (fun q3 => (gX9_givePlacesBack n q2.1 ((nI 3) + ((((q2.2 l1 55 2) + (nI 16)) - (nI 1)) / (nI 16))) (nI 11) q3.2).bind (fun q4 => if q4.1 = 0 then (some q4.2) else ((gX9_read n q2.1 (nI 11) q4.2).bind (fun q5 => if q5.1 = 0 then (bX9_cut_120 n l1 q2.1 (q2.2 l1 55 2) q3.1 q5.2) else ((gX9_givePlacesBack n q5.1 ((if (nI 0) ≤ (((((q2.2 l1 55 2) + (nI 16)) - (nI 1)) / (nI 16)) - (nI 8)) then (((((q2.2 l1 55 2) + (nI 16)) - (nI 1)) / (nI 16)) - (nI 8)) else (nI 0))) (nI 16) q5.2).bind (fun q6 => if q6.1 = 0 then (some q6.2) else (if (nI 128) < (q2.2 l1 55 2) then (bX9_cut_120 n l1 q2.1 (q2.2 l1 55 2) q3.1 q6.2) else ((gX9_giveBack n q5.1 q6.2).bind (fun q7 => if q7.1 = 0 then (some q7.2) else ((gX9_set n q2.1 (nI 11) (nI 0) q7.2).bind (fun q8 => bX9_cut_120 n l1 q2.1 (q2.2 l1 55 2) q3.1 q8))))))))))))))
theorem tX9_cut_0 {G : am_G} (hG : am_ok G) {d : Nat} {l1 : Nat} (hl1 : l1 < G.2.2.2.1) {I : am_I} {r : am_I} (h : bX9_cut_0 G.2.2.2.1 l1  I = some r) : am_J G (d + 4) mX9_cut am_no (am_E none r) 0 [some (.inr (0, 15)), some (.inr (l1, 55)), none, none, none, none, none, none, none] [] I := by
  unfold bX9_cut_0 at h
  refine am_aload_n dX9_cut_0 rfl ?_
  refine am_aload_n dX9_cut_1 rfl ?_
  refine am_get (v := .inl (I l1 55 1)) dX9_cut_2 fl_9_271 (hG.mn hl1 (by decide) (by decide)) rfl ?_
  refine am_iconst (v := nI 2) dX9_cut_5 (by decide) ?_
  obtain ⟨q1, hq1, h⟩ := am_bd h
  refine am_callVx (i := 0) (j := 15) (as := [.inl (I l1 55 1), .inl (nI 2)]) (rest := []) dX9_cut_6 lkX9_meetFile ml_X9_303 imX9_meetFile seX9_meetFile rfl rfl (hG.m0 (by decide)) rfl (Nat.le_of_ble_eq_true rfl) rfl (sX9_meetFile hG hq1) ?_
  refine am_if_ne (tgt := 13) dX9_cut_9 rfl (fun c => ?_) (fun c => ?_)
  · rw [if_neg c] at h
    refine am_aload_n dX9_cut_13 rfl ?_
    refine am_get (v := .inl (q1.2 l1 55 1)) dX9_cut_14 fl_9_271 (hG.mn hl1 (by decide) (by decide)) rfl ?_
    obtain ⟨q2, hq2, h⟩ := am_bd h
    refine am_callSNx (as := [.inl (q1.2 l1 55 1)]) (rest := []) dX9_cut_17 lkX10_inodeBlock nl_X9_193 isX10_inodeBlock rfl (Nat.le_of_ble_eq_true rfl) rfl (sX10_inodeBlock hG hq2) ?_
    refine am_istore_n dX9_cut_20 (by decide) ?_
    refine am_aload_n dX9_cut_21 rfl ?_
    refine am_get (v := .inl (q2.2 l1 55 2)) dX9_cut_22 fl_9_277 (hG.mn hl1 (by decide) (by decide)) rfl ?_
    refine am_istore_n dX9_cut_25 (by decide) ?_
    refine am_aload_n dX9_cut_26 rfl ?_
    refine am_iload_n dX9_cut_27 rfl ?_
    refine am_iconst (v := nI 2) dX9_cut_28 (by decide) ?_
    obtain ⟨q3, hq3, h⟩ := am_bd h
    refine am_callVx (i := 0) (j := 15) (as := [.inl q2.1, .inl (nI 2)]) (rest := []) dX9_cut_29 lkX9_read ml_X9_197 imX9_read seX9_read rfl rfl (hG.m0 (by decide)) rfl (Nat.le_of_ble_eq_true rfl) rfl (sX9_read hG hq3) ?_
    refine am_istore dX9_cut_32 (by decide) ?_
    refine am_iload_n dX9_cut_34 rfl ?_
    refine am_bipush (v := nI 16) dX9_cut_35 (by decide) ?_
    refine am_iadd dX9_cut_37 ?_
    refine am_iconst (v := nI 1) dX9_cut_38 (by decide) ?_
    refine am_isub dX9_cut_39 ?_
    refine am_bipush (v := nI 16) dX9_cut_40 (by decide) ?_
    refine am_idiv dX9_cut_42 (by decide) ?_
    refine am_istore dX9_cut_43 (by decide) ?_
    refine am_aload_n dX9_cut_45 rfl ?_
    refine am_iload_n dX9_cut_46 rfl ?_
    refine am_iconst (v := nI 3) dX9_cut_47 (by decide) ?_
    refine am_iload dX9_cut_48 rfl ?_
    refine am_iadd dX9_cut_50 ?_
    refine am_bipush (v := nI 11) dX9_cut_51 (by decide) ?_
    obtain ⟨q4, hq4, h⟩ := am_bd h
    refine am_callVx (i := 0) (j := 15) (as := [.inl q2.1, .inl ((nI 3) + ((((q2.2 l1 55 2) + (nI 16)) - (nI 1)) / (nI 16))), .inl (nI 11)]) (rest := []) dX9_cut_53 lkX9_givePlacesBack ml_X9_241 imX9_givePlacesBack seX9_givePlacesBack rfl rfl (hG.m0 (by decide)) rfl (Nat.le_of_ble_eq_true rfl) rfl (sX9_givePlacesBack hG hq4) ?_
    refine am_if_ne (tgt := 60) dX9_cut_56 rfl (fun c => ?_) (fun c => ?_)
    · rw [if_neg c] at h
      refine am_aload_n dX9_cut_60 rfl ?_
      refine am_iload_n dX9_cut_61 rfl ?_
      refine am_bipush (v := nI 11) dX9_cut_62 (by decide) ?_
      obtain ⟨q5, hq5, h⟩ := am_bd h
      refine am_callVx (i := 0) (j := 15) (as := [.inl q2.1, .inl (nI 11)]) (rest := []) dX9_cut_64 lkX9_read ml_X9_197 imX9_read seX9_read rfl rfl (hG.m0 (by decide)) rfl (Nat.le_of_ble_eq_true rfl) rfl (sX9_read hG hq5) ?_
      refine am_istore dX9_cut_67 (by decide) ?_
      refine am_iload dX9_cut_69 rfl ?_
      refine am_if_eq (tgt := 120) dX9_cut_71 rfl (fun c => ?_) (fun c => ?_)
      · rw [if_pos c] at h
        exact am_lwJ (lo' := [some (.inr (0, 15)), some (.inr (l1, 55)), some (.inl q2.1), some (.inl (q2.2 l1 55 2)), some (.inl q3.1), none, none, none, none]) ⟨rfl, rfl, rfl, rfl, rfl, trivial⟩ (tX9_cut_120 hG hl1 h)
      · rw [if_neg c] at h
        refine am_aload_n dX9_cut_74 rfl ?_
        refine am_iload dX9_cut_75 rfl ?_
        refine am_iload dX9_cut_77 rfl ?_
        refine am_bipush (v := nI 8) dX9_cut_79 (by decide) ?_
        refine am_isub dX9_cut_81 ?_
        refine am_iconst (v := nI 0) dX9_cut_82 (by decide) ?_
        refine am_callSx (as := [.inl (((((q2.2 l1 55 2) + (nI 16)) - (nI 1)) / (nI 16)) - (nI 8)), .inl (nI 0)]) (rest := [.inl q5.1, .inr (0, 15)]) dX9_cut_83 lkJ9_max_7cf53 ml_X9_250 isJ9_max_7cf53 rfl (Nat.le_of_ble_eq_true rfl) rfl (c_max hG.nd (((((q2.2 l1 55 2) + (nI 16)) - (nI 1)) / (nI 16)) - (nI 8)) (nI 0) q5.2) ?_
        refine am_bipush (v := nI 16) dX9_cut_86 (by decide) ?_
        obtain ⟨q6, hq6, h⟩ := am_bd h
        refine am_callVx (i := 0) (j := 15) (as := [.inl q5.1, .inl ((if (nI 0) ≤ (((((q2.2 l1 55 2) + (nI 16)) - (nI 1)) / (nI 16)) - (nI 8)) then (((((q2.2 l1 55 2) + (nI 16)) - (nI 1)) / (nI 16)) - (nI 8)) else (nI 0))), .inl (nI 16)]) (rest := []) dX9_cut_88 lkX9_givePlacesBack ml_X9_241 imX9_givePlacesBack seX9_givePlacesBack rfl rfl (hG.m0 (by decide)) rfl (Nat.le_of_ble_eq_true rfl) rfl (sX9_givePlacesBack hG hq6) ?_
        refine am_if_ne (tgt := 95) dX9_cut_91 rfl (fun c => ?_) (fun c => ?_)
        · rw [if_neg c] at h
          refine am_iload_n dX9_cut_95 rfl ?_
          refine am_sipush (v := nI 128) dX9_cut_96 (by decide) ?_
          refine am_icmp_gt (tgt := 120) dX9_cut_99 rfl (fun c => ?_) (fun c => ?_)
          · rw [if_pos c] at h
            exact am_lwJ (lo' := [some (.inr (0, 15)), some (.inr (l1, 55)), some (.inl q2.1), some (.inl (q2.2 l1 55 2)), some (.inl q3.1), none, none, none, none]) ⟨rfl, rfl, rfl, rfl, rfl, trivial⟩ (tX9_cut_120 hG hl1 h)
          · rw [if_neg c] at h
            refine am_aload_n dX9_cut_102 rfl ?_
            refine am_iload dX9_cut_103 rfl ?_
            obtain ⟨q7, hq7, h⟩ := am_bd h
            refine am_callVx (i := 0) (j := 15) (as := [.inl q5.1]) (rest := []) dX9_cut_105 lkX9_giveBack ml_X9_238 imX9_giveBack seX9_giveBack rfl rfl (hG.m0 (by decide)) rfl (Nat.le_of_ble_eq_true rfl) rfl (sX9_giveBack hG hq7) ?_
            refine am_if_ne (tgt := 112) dX9_cut_108 rfl (fun c => ?_) (fun c => ?_)
            · rw [if_neg c] at h
              refine am_aload_n dX9_cut_112 rfl ?_
              refine am_iload_n dX9_cut_113 rfl ?_
              refine am_bipush (v := nI 11) dX9_cut_114 (by decide) ?_
              refine am_iconst (v := nI 0) dX9_cut_116 (by decide) ?_
              obtain ⟨q8, hq8, h⟩ := am_bd h
              refine am_callVe (i := 0) (j := 15) (as := [.inl q2.1, .inl (nI 11), .inl (nI 0)]) (rest := []) dX9_cut_117 lkX9_set ml_X9_204 imX9_set seX9_set rfl rfl (hG.m0 (by decide)) rfl (Nat.le_of_ble_eq_true rfl) rfl (sX9_set hG hq8) ?_
              exact am_lwJ (lo' := [some (.inr (0, 15)), some (.inr (l1, 55)), some (.inl q2.1), some (.inl (q2.2 l1 55 2)), some (.inl q3.1), none, none, none, none]) ⟨rfl, rfl, rfl, rfl, rfl, trivial⟩ (tX9_cut_120 hG hl1 h)
            · rw [if_pos c] at h
              cases h
              exact am_vret dX9_cut_111 rfl ⟨rfl, rfl⟩
        · rw [if_pos c] at h
          cases h
          exact am_vret dX9_cut_94 rfl ⟨rfl, rfl⟩
    · rw [if_pos c] at h
      cases h
      exact am_vret dX9_cut_59 rfl ⟨rfl, rfl⟩
  · rw [if_pos c] at h
    cases h
    exact am_vret dX9_cut_12 rfl ⟨rfl, rfl⟩
def gX9_cut (n : Nat) (l1 : Nat) (I : am_I) : Option (am_I) := bX9_cut_0 n l1 I
theorem sX9_cut {G : am_G} (hG : am_ok G) {d : Nat} {l1 : Nat} (hl1 : l1 < G.2.2.2.1) {I : am_I} {r : am_I} (h : gX9_cut G.2.2.2.1 l1 I = some r) : am_C G (d + 4) mX9_cut [.inr (0, 15), .inr (l1, 55)] I (am_E none r) :=
  am_of (by decide +kernel) hG.nd (Nat.le_of_ble_eq_true rfl) (am_lwJ (lo' := [some (.inr (0, 15)), some (.inr (l1, 55)), none, none, none, none, none, none, none]) ⟨rfl, rfl, trivial⟩ (tX9_cut_0 hG hl1 h))
def bX9_entry_0 (n : Nat) (l1 : Nat) (I : am_I) : Option (am_I) := (gX9_meetDirectory n (I l1 55 1) (nI 1) I).bind (fun q1 => if q1.1 = 0 then (some q1.2) else ((gX9_nameOf n (q1.2 l1 55 1) (q1.2 l1 55 2) q1.2).bind (fun q2 => if q2.1 = 0 then ((gX9_fail n (-3 : Int32) q2.2).bind (fun q4 => some q4.2)) else ((gX9_finish n q2.1 q2.2).bind (fun q3 => some q3)))))
theorem tX9_entry_0 {G : am_G} (hG : am_ok G) {d : Nat} {l1 : Nat} (hl1 : l1 < G.2.2.2.1) {I : am_I} {r : am_I} (h : bX9_entry_0 G.2.2.2.1 l1  I = some r) : am_J G (d + 4) mX9_entry am_no (am_E none r) 0 [some (.inr (0, 15)), some (.inr (l1, 55)), none] [] I := by
  unfold bX9_entry_0 at h
  refine am_aload_n dX9_entry_0 rfl ?_
  refine am_aload_n dX9_entry_1 rfl ?_
  refine am_get (v := .inl (I l1 55 1)) dX9_entry_2 fl_9_271 (hG.mn hl1 (by decide) (by decide)) rfl ?_
  refine am_iconst (v := nI 1) dX9_entry_5 (by decide) ?_
  obtain ⟨q1, hq1, h⟩ := am_bd h
  refine am_callVx (i := 0) (j := 15) (as := [.inl (I l1 55 1), .inl (nI 1)]) (rest := []) dX9_entry_6 lkX9_meetDirectory ml_X9_274 imX9_meetDirectory seX9_meetDirectory rfl rfl (hG.m0 (by decide)) rfl (Nat.le_of_ble_eq_true rfl) rfl (sX9_meetDirectory hG hq1) ?_
  refine am_if_ne (tgt := 13) dX9_entry_9 rfl (fun c => ?_) (fun c => ?_)
  · rw [if_neg c] at h
    refine am_aload_n dX9_entry_13 rfl ?_
    refine am_aload_n dX9_entry_14 rfl ?_
    refine am_get (v := .inl (q1.2 l1 55 1)) dX9_entry_15 fl_9_271 (hG.mn hl1 (by decide) (by decide)) rfl ?_
    refine am_aload_n dX9_entry_18 rfl ?_
    refine am_get (v := .inl (q1.2 l1 55 2)) dX9_entry_19 fl_9_277 (hG.mn hl1 (by decide) (by decide)) rfl ?_
    obtain ⟨q2, hq2, h⟩ := am_bd h
    refine am_callVx (i := 0) (j := 15) (as := [.inl (q1.2 l1 55 1), .inl (q1.2 l1 55 2)]) (rest := []) dX9_entry_22 lkX9_nameOf ml_X9_296 imX9_nameOf seX9_nameOf rfl rfl (hG.m0 (by decide)) rfl (Nat.le_of_ble_eq_true rfl) rfl (sX9_nameOf hG hq2) ?_
    refine am_istore_n dX9_entry_25 (by decide) ?_
    refine am_iload_n dX9_entry_26 rfl ?_
    refine am_if_ne (tgt := 38) dX9_entry_27 rfl (fun c => ?_) (fun c => ?_)
    · rw [if_neg c] at h
      refine am_aload_n dX9_entry_38 rfl ?_
      refine am_iload_n dX9_entry_39 rfl ?_
      obtain ⟨q3, hq3, h⟩ := am_bd h
      refine am_callVe (i := 0) (j := 15) (as := [.inl q2.1]) (rest := []) dX9_entry_40 lkX9_finish ml_X9_283 imX9_finish seX9_finish rfl rfl (hG.m0 (by decide)) rfl (Nat.le_of_ble_eq_true rfl) rfl (sX9_finish hG hq3) ?_
      cases h
      exact am_vret dX9_entry_43 rfl ⟨rfl, rfl⟩
    · rw [if_pos c] at h
      refine am_aload_n dX9_entry_30 rfl ?_
      refine am_bipush (v := (-3 : Int32)) dX9_entry_31 (by decide) ?_
      obtain ⟨q4, hq4, h⟩ := am_bd h
      refine am_callVx (i := 0) (j := 15) (as := [.inl (-3 : Int32)]) (rest := []) dX9_entry_33 lkX9_fail ml_X9_225 imX9_fail seX9_fail rfl rfl (hG.m0 (by decide)) rfl (Nat.le_of_ble_eq_true rfl) rfl (sX9_fail hG hq4) ?_
      refine am_pop dX9_entry_36 ?_
      cases h
      exact am_vret dX9_entry_37 rfl ⟨rfl, rfl⟩
  · rw [if_pos c] at h
    cases h
    exact am_vret dX9_entry_12 rfl ⟨rfl, rfl⟩
def gX9_entry (n : Nat) (l1 : Nat) (I : am_I) : Option (am_I) := bX9_entry_0 n l1 I
theorem sX9_entry {G : am_G} (hG : am_ok G) {d : Nat} {l1 : Nat} (hl1 : l1 < G.2.2.2.1) {I : am_I} {r : am_I} (h : gX9_entry G.2.2.2.1 l1 I = some r) : am_C G (d + 4) mX9_entry [.inr (0, 15), .inr (l1, 55)] I (am_E none r) :=
  am_of (by decide +kernel) hG.nd (Nat.le_of_ble_eq_true rfl) (am_lwJ (lo' := [some (.inr (0, 15)), some (.inr (l1, 55)), none]) ⟨rfl, rfl, trivial⟩ (tX9_entry_0 hG hl1 h))
def bX9_countPlaces_29 (n : Nat) (k6 : Int32 → Int32 → Int32 → Int32 → am_I → Option (Int32 × am_I)) (l1 : Int32) (l3 : Int32) (l5 : Int32) (s0 : Int32) (s1 : Int32) (I : am_I) : Option (Int32 × am_I) := k6 l1 l3 (s1 + s0) (l5 + nI 1) I
theorem tX9_countPlaces_29 {G : am_G} (hG : am_ok G) {d : Nat} {k6 : Int32 → Int32 → Int32 → Int32 → am_I → Option (Int32 × am_I)} (hk6 : ∀ (l1 : Int32) (l3 : Int32) (l4 : Int32) (l5 : Int32) (I : am_I) (r : Int32 × am_I), k6 l1 l3 l4 l5 I = some r → am_J G (d + 2) mX9_countPlaces am_no (am_E (some r.1) r.2) 6 [some (.inr (0, 15)), some (.inl l1), none, some (.inl l3), some (.inl l4), some (.inl l5)] [] I) {l1 : Int32} {l3 : Int32} {l5 : Int32} {s0 : Int32} {s1 : Int32} {I : am_I} {r : Int32 × am_I} (h : bX9_countPlaces_29 G.2.2.2.1 k6 l1 l3 l5 s0 s1  I = some r) : am_J G (d + 2) mX9_countPlaces am_no (am_E (some r.1) r.2) 29 [some (.inr (0, 15)), some (.inl l1), none, some (.inl l3), none, some (.inl l5)] [.inl s0, .inl s1] I := by
  unfold bX9_countPlaces_29 at h
  refine am_iadd dX9_countPlaces_29 ?_
  refine am_istore dX9_countPlaces_30 (by decide) ?_
  refine am_iinc (v := l5 + nI 1) dX9_countPlaces_32 rfl rfl ?_
  refine am_goto (tgt := 6) dX9_countPlaces_35 rfl ?_
  exact am_lwJ (lo' := [some (.inr (0, 15)), some (.inl l1), none, some (.inl l3), some (.inl (s1 + s0)), some (.inl (l5 + nI 1))]) ⟨rfl, rfl, rfl, rfl, rfl, trivial⟩ (hk6 l1 l3 (s1 + s0) (l5 + nI 1) _ _ h)
def bX9_countPlaces_6 (n : Nat) : Nat → Int32 → Int32 → Int32 → Int32 → am_I → Option (Int32 × am_I)
  | 0, _, _, _, _, _ => none
  | fu + 1, l1, l3, l4, l5, I => (fun k6 => if l3 ≤ l5 then (some (l4, I)) else ((gX9_read n l1 l5 I).bind (fun q1 => if q1.1 = 0 then (bX9_countPlaces_29 n k6 l1 l3 l5 (nI 0) l4 q1.2) else (bX9_countPlaces_29 n k6 l1 l3 l5 (nI 1) l4 q1.2)))) (bX9_countPlaces_6 n fu)
theorem tX9_countPlaces_6 {G : am_G} (hG : am_ok G) {d : Nat} : ∀ {fu : Nat} {l1 : Int32} {l3 : Int32} {l4 : Int32} {l5 : Int32} {I : am_I} {r : Int32 × am_I}, bX9_countPlaces_6 G.2.2.2.1 fu l1 l3 l4 l5 I = some r → am_J G (d + 2) mX9_countPlaces am_no (am_E (some r.1) r.2) 6 [some (.inr (0, 15)), some (.inl l1), none, some (.inl l3), some (.inl l4), some (.inl l5)] [] I := by
  intro fu
  induction fu with
  | zero => intro l1 l3 l4 l5 I r h; cases h
  | succ fu ih =>
    intro l1 l3 l4 l5 I r h
    have hk6 : ∀ (l1 : Int32) (l3 : Int32) (l4 : Int32) (l5 : Int32) (I : am_I) (r : Int32 × am_I), bX9_countPlaces_6 G.2.2.2.1 fu l1 l3 l4 l5 I = some r → am_J G (d + 2) mX9_countPlaces am_no (am_E (some r.1) r.2) 6 [some (.inr (0, 15)), some (.inl l1), none, some (.inl l3), some (.inl l4), some (.inl l5)] [] I := fun l1 l3 l4 l5 I r h => ih h
    unfold bX9_countPlaces_6 at h
    generalize bX9_countPlaces_6 G.2.2.2.1 fu = k6 at hk6 h
    dsimp only at h
    refine am_iload dX9_countPlaces_6 rfl ?_
    refine am_iload_n dX9_countPlaces_8 rfl ?_
    refine am_icmp_ge (tgt := 38) dX9_countPlaces_9 rfl (fun c => ?_) (fun c => ?_)
    · rw [if_pos c] at h
      refine am_iload dX9_countPlaces_38 rfl ?_
      cases h
      exact am_iret dX9_countPlaces_40 rfl rfl ⟨rfl, rfl⟩
    · rw [if_neg c] at h
      refine am_iload dX9_countPlaces_12 rfl ?_
      refine am_aload_n dX9_countPlaces_14 rfl ?_
      refine am_iload_n dX9_countPlaces_15 rfl ?_
      refine am_iload dX9_countPlaces_16 rfl ?_
      obtain ⟨q1, hq1, h⟩ := am_bd h
      refine am_callVx (i := 0) (j := 15) (as := [.inl l1, .inl l5]) (rest := [.inl l4]) dX9_countPlaces_18 lkX9_read ml_X9_197 imX9_read seX9_read rfl rfl (hG.m0 (by decide)) rfl (Nat.le_of_ble_eq_true rfl) rfl (sX9_read hG hq1) ?_
      refine am_if_eq (tgt := 28) dX9_countPlaces_21 rfl (fun c => ?_) (fun c => ?_)
      · rw [if_pos c] at h
        refine am_iconst (v := nI 0) dX9_countPlaces_28 (by decide) ?_
        exact am_lwJ (lo' := [some (.inr (0, 15)), some (.inl l1), none, some (.inl l3), none, some (.inl l5)]) ⟨rfl, rfl, rfl, rfl, trivial⟩ (tX9_countPlaces_29 hG hk6 h)
      · rw [if_neg c] at h
        refine am_iconst (v := nI 1) dX9_countPlaces_24 (by decide) ?_
        refine am_goto (tgt := 29) dX9_countPlaces_25 rfl ?_
        exact am_lwJ (lo' := [some (.inr (0, 15)), some (.inl l1), none, some (.inl l3), none, some (.inl l5)]) ⟨rfl, rfl, rfl, rfl, trivial⟩ (tX9_countPlaces_29 hG hk6 h)
def bX9_countPlaces_0 (n : Nat) (l1 : Int32) (l2 : Int32) (l3 : Int32) (I : am_I) : Option (Int32 × am_I) := bX9_countPlaces_6 n am_fu l1 l3 (nI 0) l2 I
theorem tX9_countPlaces_0 {G : am_G} (hG : am_ok G) {d : Nat} {l1 : Int32} {l2 : Int32} {l3 : Int32} {I : am_I} {r : Int32 × am_I} (h : bX9_countPlaces_0 G.2.2.2.1 l1 l2 l3  I = some r) : am_J G (d + 2) mX9_countPlaces am_no (am_E (some r.1) r.2) 0 [some (.inr (0, 15)), some (.inl l1), some (.inl l2), some (.inl l3), none, none] [] I := by
  unfold bX9_countPlaces_0 at h
  refine am_iconst (v := nI 0) dX9_countPlaces_0 (by decide) ?_
  refine am_istore dX9_countPlaces_1 (by decide) ?_
  refine am_iload_n dX9_countPlaces_3 rfl ?_
  refine am_istore dX9_countPlaces_4 (by decide) ?_
  exact am_lwJ (lo' := [some (.inr (0, 15)), some (.inl l1), none, some (.inl l3), some (.inl (nI 0)), some (.inl l2)]) ⟨rfl, rfl, rfl, rfl, rfl, trivial⟩ (tX9_countPlaces_6 hG h)
def gX9_countPlaces (n : Nat) (l1 : Int32) (l2 : Int32) (l3 : Int32) (I : am_I) : Option (Int32 × am_I) := bX9_countPlaces_0 n l1 l2 l3 I
theorem sX9_countPlaces {G : am_G} (hG : am_ok G) {d : Nat} {l1 : Int32} {l2 : Int32} {l3 : Int32} {I : am_I} {r : Int32 × am_I} (h : gX9_countPlaces G.2.2.2.1 l1 l2 l3 I = some r) : am_C G (d + 2) mX9_countPlaces [.inr (0, 15), .inl l1, .inl l2, .inl l3] I (am_E (some r.1) r.2) :=
  am_of (by decide +kernel) hG.nd (Nat.le_of_ble_eq_true rfl) (am_lwJ (lo' := [some (.inr (0, 15)), some (.inl l1), some (.inl l2), some (.inl l3), none, none]) ⟨rfl, rfl, rfl, rfl, trivial⟩ (tX9_countPlaces_0 hG h))
def bX9_stat_101 (n : Nat) (s0 : Int32) (I : am_I) : Option (am_I) := (gX9_finish n s0 I).bind (fun q1 => some q1)
theorem tX9_stat_101 {G : am_G} (hG : am_ok G) {d : Nat} {s0 : Int32} {I : am_I} {r : am_I} (h : bX9_stat_101 G.2.2.2.1 s0  I = some r) : am_J G (d + 3) mX9_stat am_no (am_E none r) 101 [none, none, none, none, none] [.inl s0, .inr (0, 15)] I := by
  unfold bX9_stat_101 at h
  obtain ⟨q1, hq1, h⟩ := am_bd h
  refine am_callVe (i := 0) (j := 15) (as := [.inl s0]) (rest := []) dX9_stat_101 lkX9_finish ml_X9_283 imX9_finish seX9_finish rfl rfl (hG.m0 (by decide)) rfl (Nat.le_of_ble_eq_true rfl) rfl (sX9_finish hG hq1) ?_
  cases h
  exact am_vret dX9_stat_104 rfl ⟨rfl, rfl⟩
def bX9_stat_0 (n : Nat) (l1 : Nat) (I : am_I) : Option (am_I) := (gX9_meet n (I l1 55 1) (nI 1) I).bind (fun q1 => if q1.1 = 0 then (some q1.2) else ((gX10_inodeBlock n (q1.2 l1 55 1) q1.2).bind (fun q2 => (gX9_read n q2.1 (nI 0) q2.2).bind (fun q3 => if q3.1 = 0 then ((gX9_fail n (-5 : Int32) q3.2).bind (fun q9 => some q9.2)) else (if (nI 2) < (q3.2 l1 55 2) then ((gX9_countPlaces n q2.1 (nI 3) (nI 11) q3.2).bind (fun q4 => (gX9_read n q2.1 (nI 11) q4.2).bind (fun q5 => if q5.1 = 0 then (bX9_stat_101 n q4.1 q5.2) else ((gX9_countPlaces n q5.1 (nI 0) (nI 16) q5.2).bind (fun q6 => bX9_stat_101 n ((q4.1 + (nI 1)) + q6.1) q6.2))))) else ((gX9_read n q2.1 (q3.2 l1 55 2) q3.2).bind (fun q7 => (gX9_finish n q7.1 q7.2).bind (fun q8 => some q8))))))))
theorem tX9_stat_0 {G : am_G} (hG : am_ok G) {d : Nat} {l1 : Nat} (hl1 : l1 < G.2.2.2.1) {I : am_I} {r : am_I} (h : bX9_stat_0 G.2.2.2.1 l1  I = some r) : am_J G (d + 3) mX9_stat am_no (am_E none r) 0 [some (.inr (0, 15)), some (.inr (l1, 55)), none, none, none] [] I := by
  unfold bX9_stat_0 at h
  refine am_aload_n dX9_stat_0 rfl ?_
  refine am_aload_n dX9_stat_1 rfl ?_
  refine am_get (v := .inl (I l1 55 1)) dX9_stat_2 fl_9_271 (hG.mn hl1 (by decide) (by decide)) rfl ?_
  refine am_iconst (v := nI 1) dX9_stat_5 (by decide) ?_
  obtain ⟨q1, hq1, h⟩ := am_bd h
  refine am_callVx (i := 0) (j := 15) (as := [.inl (I l1 55 1), .inl (nI 1)]) (rest := []) dX9_stat_6 lkX9_meet ml_X9_211 imX9_meet seX9_meet rfl rfl (hG.m0 (by decide)) rfl (Nat.le_of_ble_eq_true rfl) rfl (sX9_meet hG hq1) ?_
  refine am_if_ne (tgt := 13) dX9_stat_9 rfl (fun c => ?_) (fun c => ?_)
  · rw [if_neg c] at h
    refine am_aload_n dX9_stat_13 rfl ?_
    refine am_get (v := .inl (q1.2 l1 55 1)) dX9_stat_14 fl_9_271 (hG.mn hl1 (by decide) (by decide)) rfl ?_
    obtain ⟨q2, hq2, h⟩ := am_bd h
    refine am_callSNx (as := [.inl (q1.2 l1 55 1)]) (rest := []) dX9_stat_17 lkX10_inodeBlock nl_X9_193 isX10_inodeBlock rfl (Nat.le_of_ble_eq_true rfl) rfl (sX10_inodeBlock hG hq2) ?_
    refine am_istore_n dX9_stat_20 (by decide) ?_
    refine am_aload_n dX9_stat_21 rfl ?_
    refine am_iload_n dX9_stat_22 rfl ?_
    refine am_iconst (v := nI 0) dX9_stat_23 (by decide) ?_
    obtain ⟨q3, hq3, h⟩ := am_bd h
    refine am_callVx (i := 0) (j := 15) (as := [.inl q2.1, .inl (nI 0)]) (rest := []) dX9_stat_24 lkX9_read ml_X9_197 imX9_read seX9_read rfl rfl (hG.m0 (by decide)) rfl (Nat.le_of_ble_eq_true rfl) rfl (sX9_read hG hq3) ?_
    refine am_if_ne (tgt := 38) dX9_stat_27 rfl (fun c => ?_) (fun c => ?_)
    · rw [if_neg c] at h
      refine am_aload_n dX9_stat_38 rfl ?_
      refine am_get (v := .inl (q3.2 l1 55 2)) dX9_stat_39 fl_9_277 (hG.mn hl1 (by decide) (by decide)) rfl ?_
      refine am_iconst (v := nI 2) dX9_stat_42 (by decide) ?_
      refine am_icmp_gt (tgt := 60) dX9_stat_43 rfl (fun c => ?_) (fun c => ?_)
      · rw [if_pos c] at h
        refine am_aload_n dX9_stat_60 rfl ?_
        refine am_iload_n dX9_stat_61 rfl ?_
        refine am_iconst (v := nI 3) dX9_stat_62 (by decide) ?_
        refine am_bipush (v := nI 11) dX9_stat_63 (by decide) ?_
        obtain ⟨q4, hq4, h⟩ := am_bd h
        refine am_callVx (i := 0) (j := 15) (as := [.inl q2.1, .inl (nI 3), .inl (nI 11)]) (rest := []) dX9_stat_65 lkX9_countPlaces ml_X9_309 imX9_countPlaces seX9_countPlaces rfl rfl (hG.m0 (by decide)) rfl (Nat.le_of_ble_eq_true rfl) rfl (sX9_countPlaces hG hq4) ?_
        refine am_istore_n dX9_stat_68 (by decide) ?_
        refine am_aload_n dX9_stat_69 rfl ?_
        refine am_iload_n dX9_stat_70 rfl ?_
        refine am_bipush (v := nI 11) dX9_stat_71 (by decide) ?_
        obtain ⟨q5, hq5, h⟩ := am_bd h
        refine am_callVx (i := 0) (j := 15) (as := [.inl q2.1, .inl (nI 11)]) (rest := []) dX9_stat_73 lkX9_read ml_X9_197 imX9_read seX9_read rfl rfl (hG.m0 (by decide)) rfl (Nat.le_of_ble_eq_true rfl) rfl (sX9_read hG hq5) ?_
        refine am_istore dX9_stat_76 (by decide) ?_
        refine am_aload_n dX9_stat_78 rfl ?_
        refine am_iload dX9_stat_79 rfl ?_
        refine am_if_ne (tgt := 88) dX9_stat_81 rfl (fun c => ?_) (fun c => ?_)
        · rw [if_neg c] at h
          refine am_iload_n dX9_stat_88 rfl ?_
          refine am_iconst (v := nI 1) dX9_stat_89 (by decide) ?_
          refine am_iadd dX9_stat_90 ?_
          refine am_aload_n dX9_stat_91 rfl ?_
          refine am_iload dX9_stat_92 rfl ?_
          refine am_iconst (v := nI 0) dX9_stat_94 (by decide) ?_
          refine am_bipush (v := nI 16) dX9_stat_95 (by decide) ?_
          obtain ⟨q6, hq6, h⟩ := am_bd h
          refine am_callVx (i := 0) (j := 15) (as := [.inl q5.1, .inl (nI 0), .inl (nI 16)]) (rest := [.inl (q4.1 + (nI 1)), .inr (0, 15)]) dX9_stat_97 lkX9_countPlaces ml_X9_309 imX9_countPlaces seX9_countPlaces rfl rfl (hG.m0 (by decide)) rfl (Nat.le_of_ble_eq_true rfl) rfl (sX9_countPlaces hG hq6) ?_
          refine am_iadd dX9_stat_100 ?_
          exact am_lwJ (lo' := [none, none, none, none, none]) trivial (tX9_stat_101 hG h)
        · rw [if_pos c] at h
          refine am_iload_n dX9_stat_84 rfl ?_
          refine am_goto (tgt := 101) dX9_stat_85 rfl ?_
          exact am_lwJ (lo' := [none, none, none, none, none]) trivial (tX9_stat_101 hG h)
      · rw [if_neg c] at h
        refine am_aload_n dX9_stat_46 rfl ?_
        refine am_aload_n dX9_stat_47 rfl ?_
        refine am_iload_n dX9_stat_48 rfl ?_
        refine am_aload_n dX9_stat_49 rfl ?_
        refine am_get (v := .inl (q3.2 l1 55 2)) dX9_stat_50 fl_9_277 (hG.mn hl1 (by decide) (by decide)) rfl ?_
        obtain ⟨q7, hq7, h⟩ := am_bd h
        refine am_callVx (i := 0) (j := 15) (as := [.inl q2.1, .inl (q3.2 l1 55 2)]) (rest := [.inr (0, 15)]) dX9_stat_53 lkX9_read ml_X9_197 imX9_read seX9_read rfl rfl (hG.m0 (by decide)) rfl (Nat.le_of_ble_eq_true rfl) rfl (sX9_read hG hq7) ?_
        obtain ⟨q8, hq8, h⟩ := am_bd h
        refine am_callVe (i := 0) (j := 15) (as := [.inl q7.1]) (rest := []) dX9_stat_56 lkX9_finish ml_X9_283 imX9_finish seX9_finish rfl rfl (hG.m0 (by decide)) rfl (Nat.le_of_ble_eq_true rfl) rfl (sX9_finish hG hq8) ?_
        cases h
        exact am_vret dX9_stat_59 rfl ⟨rfl, rfl⟩
    · rw [if_pos c] at h
      refine am_aload_n dX9_stat_30 rfl ?_
      refine am_bipush (v := (-5 : Int32)) dX9_stat_31 (by decide) ?_
      obtain ⟨q9, hq9, h⟩ := am_bd h
      refine am_callVx (i := 0) (j := 15) (as := [.inl (-5 : Int32)]) (rest := []) dX9_stat_33 lkX9_fail ml_X9_225 imX9_fail seX9_fail rfl rfl (hG.m0 (by decide)) rfl (Nat.le_of_ble_eq_true rfl) rfl (sX9_fail hG hq9) ?_
      refine am_pop dX9_stat_36 ?_
      cases h
      exact am_vret dX9_stat_37 rfl ⟨rfl, rfl⟩
  · rw [if_pos c] at h
    cases h
    exact am_vret dX9_stat_12 rfl ⟨rfl, rfl⟩
def gX9_stat (n : Nat) (l1 : Nat) (I : am_I) : Option (am_I) := bX9_stat_0 n l1 I
theorem sX9_stat {G : am_G} (hG : am_ok G) {d : Nat} {l1 : Nat} (hl1 : l1 < G.2.2.2.1) {I : am_I} {r : am_I} (h : gX9_stat G.2.2.2.1 l1 I = some r) : am_C G (d + 3) mX9_stat [.inr (0, 15), .inr (l1, 55)] I (am_E none r) :=
  am_of (by decide +kernel) hG.nd (Nat.le_of_ble_eq_true rfl) (am_lwJ (lo' := [some (.inr (0, 15)), some (.inr (l1, 55)), none, none, none]) ⟨rfl, rfl, trivial⟩ (tX9_stat_0 hG hl1 h))
def bX9_count_32 (n : Nat) (I : am_I) : Option (am_I) := some I
theorem tX9_count_32 {G : am_G} (hG : am_ok G) {d : Nat} {I : am_I} {r : am_I} (h : bX9_count_32 G.2.2.2.1  I = some r) : am_J G (d + 4) mX9_count am_no (am_E none r) 32 [none, none] [] I := by
  unfold bX9_count_32 at h
  cases h
  exact am_vret dX9_count_32 rfl ⟨rfl, rfl⟩
def bX9_count_0 (n : Nat) (l1 : Nat) (I : am_I) : Option (am_I) := (gX9_meetDirectory n (I l1 55 1) (nI 1) I).bind (fun q1 => if q1.1 = 0 then (bX9_count_32 n q1.2) else ((gX9_nameOf n (q1.2 l1 55 1) (nI 192) q1.2).bind (fun q2 => (gX9_finish n (q2.2 0 15 10) q2.2).bind (fun q3 => bX9_count_32 n q3))))
theorem tX9_count_0 {G : am_G} (hG : am_ok G) {d : Nat} {l1 : Nat} (hl1 : l1 < G.2.2.2.1) {I : am_I} {r : am_I} (h : bX9_count_0 G.2.2.2.1 l1  I = some r) : am_J G (d + 4) mX9_count am_no (am_E none r) 0 [some (.inr (0, 15)), some (.inr (l1, 55))] [] I := by
  unfold bX9_count_0 at h
  refine am_aload_n dX9_count_0 rfl ?_
  refine am_aload_n dX9_count_1 rfl ?_
  refine am_get (v := .inl (I l1 55 1)) dX9_count_2 fl_9_271 (hG.mn hl1 (by decide) (by decide)) rfl ?_
  refine am_iconst (v := nI 1) dX9_count_5 (by decide) ?_
  obtain ⟨q1, hq1, h⟩ := am_bd h
  refine am_callVx (i := 0) (j := 15) (as := [.inl (I l1 55 1), .inl (nI 1)]) (rest := []) dX9_count_6 lkX9_meetDirectory ml_X9_274 imX9_meetDirectory seX9_meetDirectory rfl rfl (hG.m0 (by decide)) rfl (Nat.le_of_ble_eq_true rfl) rfl (sX9_meetDirectory hG hq1) ?_
  refine am_if_eq (tgt := 32) dX9_count_9 rfl (fun c => ?_) (fun c => ?_)
  · rw [if_pos c] at h
    exact am_lwJ (lo' := [none, none]) trivial (tX9_count_32 hG h)
  · rw [if_neg c] at h
    refine am_aload_n dX9_count_12 rfl ?_
    refine am_aload_n dX9_count_13 rfl ?_
    refine am_get (v := .inl (q1.2 l1 55 1)) dX9_count_14 fl_9_271 (hG.mn hl1 (by decide) (by decide)) rfl ?_
    refine am_sipush (v := nI 192) dX9_count_17 (by decide) ?_
    obtain ⟨q2, hq2, h⟩ := am_bd h
    refine am_callVx (i := 0) (j := 15) (as := [.inl (q1.2 l1 55 1), .inl (nI 192)]) (rest := []) dX9_count_20 lkX9_nameOf ml_X9_296 imX9_nameOf seX9_nameOf rfl rfl (hG.m0 (by decide)) rfl (Nat.le_of_ble_eq_true rfl) rfl (sX9_nameOf hG hq2) ?_
    refine am_pop dX9_count_23 ?_
    refine am_aload_n dX9_count_24 rfl ?_
    refine am_aload_n dX9_count_25 rfl ?_
    refine am_get (v := .inl (q2.2 0 15 10)) dX9_count_26 fl_9_45 (hG.m0 (by decide)) rfl ?_
    obtain ⟨q3, hq3, h⟩ := am_bd h
    refine am_callVe (i := 0) (j := 15) (as := [.inl (q2.2 0 15 10)]) (rest := []) dX9_count_29 lkX9_finish ml_X9_283 imX9_finish seX9_finish rfl rfl (hG.m0 (by decide)) rfl (Nat.le_of_ble_eq_true rfl) rfl (sX9_finish hG hq3) ?_
    exact am_lwJ (lo' := [none, none]) trivial (tX9_count_32 hG h)
def gX9_count (n : Nat) (l1 : Nat) (I : am_I) : Option (am_I) := bX9_count_0 n l1 I
theorem sX9_count {G : am_G} (hG : am_ok G) {d : Nat} {l1 : Nat} (hl1 : l1 < G.2.2.2.1) {I : am_I} {r : am_I} (h : gX9_count G.2.2.2.1 l1 I = some r) : am_C G (d + 4) mX9_count [.inr (0, 15), .inr (l1, 55)] I (am_E none r) :=
  am_of (by decide +kernel) hG.nd (Nat.le_of_ble_eq_true rfl) (am_lwJ (lo' := [some (.inr (0, 15)), some (.inr (l1, 55))]) ⟨rfl, rfl, trivial⟩ (tX9_count_0 hG hl1 h))
def bJ6_bitCount_0f7a4_0 (n : Nat) (l0 : Int32) (I : am_I) : Option (Int32 × am_I) := some ((((((((l0 - (((l0.toUInt32 >>> ((nI 1).toUInt32 &&& Int32.toUInt32 31)).toInt32) &&& (nI 1431655765))) &&& (nI 858993459)) + ((((l0 - (((l0.toUInt32 >>> ((nI 1).toUInt32 &&& Int32.toUInt32 31)).toInt32) &&& (nI 1431655765))).toUInt32 >>> ((nI 2).toUInt32 &&& Int32.toUInt32 31)).toInt32) &&& (nI 858993459))) + (((((l0 - (((l0.toUInt32 >>> ((nI 1).toUInt32 &&& Int32.toUInt32 31)).toInt32) &&& (nI 1431655765))) &&& (nI 858993459)) + ((((l0 - (((l0.toUInt32 >>> ((nI 1).toUInt32 &&& Int32.toUInt32 31)).toInt32) &&& (nI 1431655765))).toUInt32 >>> ((nI 2).toUInt32 &&& Int32.toUInt32 31)).toInt32) &&& (nI 858993459))).toUInt32 >>> ((nI 4).toUInt32 &&& Int32.toUInt32 31)).toInt32)) &&& (nI 252645135)) + (((((((l0 - (((l0.toUInt32 >>> ((nI 1).toUInt32 &&& Int32.toUInt32 31)).toInt32) &&& (nI 1431655765))) &&& (nI 858993459)) + ((((l0 - (((l0.toUInt32 >>> ((nI 1).toUInt32 &&& Int32.toUInt32 31)).toInt32) &&& (nI 1431655765))).toUInt32 >>> ((nI 2).toUInt32 &&& Int32.toUInt32 31)).toInt32) &&& (nI 858993459))) + (((((l0 - (((l0.toUInt32 >>> ((nI 1).toUInt32 &&& Int32.toUInt32 31)).toInt32) &&& (nI 1431655765))) &&& (nI 858993459)) + ((((l0 - (((l0.toUInt32 >>> ((nI 1).toUInt32 &&& Int32.toUInt32 31)).toInt32) &&& (nI 1431655765))).toUInt32 >>> ((nI 2).toUInt32 &&& Int32.toUInt32 31)).toInt32) &&& (nI 858993459))).toUInt32 >>> ((nI 4).toUInt32 &&& Int32.toUInt32 31)).toInt32)) &&& (nI 252645135)).toUInt32 >>> ((nI 8).toUInt32 &&& Int32.toUInt32 31)).toInt32)) + ((((((((l0 - (((l0.toUInt32 >>> ((nI 1).toUInt32 &&& Int32.toUInt32 31)).toInt32) &&& (nI 1431655765))) &&& (nI 858993459)) + ((((l0 - (((l0.toUInt32 >>> ((nI 1).toUInt32 &&& Int32.toUInt32 31)).toInt32) &&& (nI 1431655765))).toUInt32 >>> ((nI 2).toUInt32 &&& Int32.toUInt32 31)).toInt32) &&& (nI 858993459))) + (((((l0 - (((l0.toUInt32 >>> ((nI 1).toUInt32 &&& Int32.toUInt32 31)).toInt32) &&& (nI 1431655765))) &&& (nI 858993459)) + ((((l0 - (((l0.toUInt32 >>> ((nI 1).toUInt32 &&& Int32.toUInt32 31)).toInt32) &&& (nI 1431655765))).toUInt32 >>> ((nI 2).toUInt32 &&& Int32.toUInt32 31)).toInt32) &&& (nI 858993459))).toUInt32 >>> ((nI 4).toUInt32 &&& Int32.toUInt32 31)).toInt32)) &&& (nI 252645135)) + (((((((l0 - (((l0.toUInt32 >>> ((nI 1).toUInt32 &&& Int32.toUInt32 31)).toInt32) &&& (nI 1431655765))) &&& (nI 858993459)) + ((((l0 - (((l0.toUInt32 >>> ((nI 1).toUInt32 &&& Int32.toUInt32 31)).toInt32) &&& (nI 1431655765))).toUInt32 >>> ((nI 2).toUInt32 &&& Int32.toUInt32 31)).toInt32) &&& (nI 858993459))) + (((((l0 - (((l0.toUInt32 >>> ((nI 1).toUInt32 &&& Int32.toUInt32 31)).toInt32) &&& (nI 1431655765))) &&& (nI 858993459)) + ((((l0 - (((l0.toUInt32 >>> ((nI 1).toUInt32 &&& Int32.toUInt32 31)).toInt32) &&& (nI 1431655765))).toUInt32 >>> ((nI 2).toUInt32 &&& Int32.toUInt32 31)).toInt32) &&& (nI 858993459))).toUInt32 >>> ((nI 4).toUInt32 &&& Int32.toUInt32 31)).toInt32)) &&& (nI 252645135)).toUInt32 >>> ((nI 8).toUInt32 &&& Int32.toUInt32 31)).toInt32)).toUInt32 >>> ((nI 16).toUInt32 &&& Int32.toUInt32 31)).toInt32)) &&& (nI 63), I)
theorem tJ6_bitCount_0f7a4_0 {G : am_G} (hG : am_ok G) {d : Nat} {l0 : Int32} {I : am_I} {r : Int32 × am_I} (h : bJ6_bitCount_0f7a4_0 G.2.2.2.1 l0  I = some r) : am_J G d mJ6_bitCount_0f7a4 am_no (am_E (some r.1) r.2) 0 [some (.inl l0)] [] I := by
  unfold bJ6_bitCount_0f7a4_0 at h
  refine am_iload_n dJ6_bitCount_0f7a4_0 rfl ?_
  refine am_iload_n dJ6_bitCount_0f7a4_1 rfl ?_
  refine am_iconst (v := nI 1) dJ6_bitCount_0f7a4_2 (by decide) ?_
  refine am_iushr dJ6_bitCount_0f7a4_3 ?_
  refine am_ldcw (v := (1431655765 : Int32)) dJ6_bitCount_0f7a4_4 kc_J6_265 ?_
  refine am_top (show (1431655765 : Int32) = nI 1431655765 by decide) ?_
  refine am_iand dJ6_bitCount_0f7a4_7 ?_
  refine am_isub dJ6_bitCount_0f7a4_8 ?_
  refine am_istore_n dJ6_bitCount_0f7a4_9 (by decide) ?_
  refine am_iload_n dJ6_bitCount_0f7a4_10 rfl ?_
  refine am_ldcw (v := (858993459 : Int32)) dJ6_bitCount_0f7a4_11 kc_J6_266 ?_
  refine am_top (show (858993459 : Int32) = nI 858993459 by decide) ?_
  refine am_iand dJ6_bitCount_0f7a4_14 ?_
  refine am_iload_n dJ6_bitCount_0f7a4_15 rfl ?_
  refine am_iconst (v := nI 2) dJ6_bitCount_0f7a4_16 (by decide) ?_
  refine am_iushr dJ6_bitCount_0f7a4_17 ?_
  refine am_ldcw (v := (858993459 : Int32)) dJ6_bitCount_0f7a4_18 kc_J6_266 ?_
  refine am_top (show (858993459 : Int32) = nI 858993459 by decide) ?_
  refine am_iand dJ6_bitCount_0f7a4_21 ?_
  refine am_iadd dJ6_bitCount_0f7a4_22 ?_
  refine am_istore_n dJ6_bitCount_0f7a4_23 (by decide) ?_
  refine am_iload_n dJ6_bitCount_0f7a4_24 rfl ?_
  refine am_iload_n dJ6_bitCount_0f7a4_25 rfl ?_
  refine am_iconst (v := nI 4) dJ6_bitCount_0f7a4_26 (by decide) ?_
  refine am_iushr dJ6_bitCount_0f7a4_27 ?_
  refine am_iadd dJ6_bitCount_0f7a4_28 ?_
  refine am_ldcw (v := (252645135 : Int32)) dJ6_bitCount_0f7a4_29 kc_J6_267 ?_
  refine am_top (show (252645135 : Int32) = nI 252645135 by decide) ?_
  refine am_iand dJ6_bitCount_0f7a4_32 ?_
  refine am_istore_n dJ6_bitCount_0f7a4_33 (by decide) ?_
  refine am_iload_n dJ6_bitCount_0f7a4_34 rfl ?_
  refine am_iload_n dJ6_bitCount_0f7a4_35 rfl ?_
  refine am_bipush (v := nI 8) dJ6_bitCount_0f7a4_36 (by decide) ?_
  refine am_iushr dJ6_bitCount_0f7a4_38 ?_
  refine am_iadd dJ6_bitCount_0f7a4_39 ?_
  refine am_istore_n dJ6_bitCount_0f7a4_40 (by decide) ?_
  refine am_iload_n dJ6_bitCount_0f7a4_41 rfl ?_
  refine am_iload_n dJ6_bitCount_0f7a4_42 rfl ?_
  refine am_bipush (v := nI 16) dJ6_bitCount_0f7a4_43 (by decide) ?_
  refine am_iushr dJ6_bitCount_0f7a4_45 ?_
  refine am_iadd dJ6_bitCount_0f7a4_46 ?_
  refine am_istore_n dJ6_bitCount_0f7a4_47 (by decide) ?_
  refine am_iload_n dJ6_bitCount_0f7a4_48 rfl ?_
  refine am_bipush (v := nI 63) dJ6_bitCount_0f7a4_49 (by decide) ?_
  refine am_iand dJ6_bitCount_0f7a4_51 ?_
  cases h
  exact am_iret dJ6_bitCount_0f7a4_52 rfl rfl ⟨rfl, rfl⟩
def gJ6_bitCount_0f7a4 (n : Nat) (l0 : Int32) (I : am_I) : Option (Int32 × am_I) := bJ6_bitCount_0f7a4_0 n l0 I
theorem sJ6_bitCount_0f7a4 {G : am_G} (hG : am_ok G) {d : Nat} {l0 : Int32} {I : am_I} {r : Int32 × am_I} (h : gJ6_bitCount_0f7a4 G.2.2.2.1 l0 I = some r) : am_C G d mJ6_bitCount_0f7a4 [.inl l0] I (am_E (some r.1) r.2) :=
  am_of (by decide +kernel) hG.nd (Nat.le_of_ble_eq_true rfl) (am_lwJ (lo' := [some (.inl l0)]) ⟨rfl, trivial⟩ (tJ6_bitCount_0f7a4_0 hG h))
def bX9_room_4 (n : Nat) : Nat → Int32 → Int32 → am_I → Option (am_I)
  | 0, _, _, _ => none
  | fu + 1, l1, l2, I => (fun k4 => if (nI 8) ≤ l2 then ((gX9_finish n l1 I).bind (fun q1 => some q1)) else ((gX10_mapResource n l2 I).bind (fun q2 => (gX9_meet n q2.1 (nI 1) q2.2).bind (fun q3 => if q3.1 = 0 then (some q3.2) else ((gX10_mapBlock n l2 q3.2).bind (fun q4 => (gX9_read n q4.1 (nI 1) q4.2).bind (fun q5 => (gJ6_bitCount_0f7a4 n q5.1 q5.2).bind (fun q6 => (gX10_mapBlock n l2 q6.2).bind (fun q7 => (gX9_read n q7.1 (nI 2) q7.2).bind (fun q8 => (gJ6_bitCount_0f7a4 n (q8.1 &&& (nI 32767)) q8.2).bind (fun q9 => k4 (l1 + (((nI 47) - q6.1) - q9.1)) (l2 + nI 1) q9.2))))))))))) (bX9_room_4 n fu)
theorem tX9_room_4 {G : am_G} (hG : am_ok G) {d : Nat} : ∀ {fu : Nat} {l1 : Int32} {l2 : Int32} {I : am_I} {r : am_I}, bX9_room_4 G.2.2.2.1 fu l1 l2 I = some r → am_J G (d + 2) mX9_room am_no (am_E none r) 4 [some (.inr (0, 15)), some (.inl l1), some (.inl l2)] [] I := by
  intro fu
  induction fu with
  | zero => intro l1 l2 I r h; cases h
  | succ fu ih =>
    intro l1 l2 I r h
    have hk4 : ∀ (l1 : Int32) (l2 : Int32) (I : am_I) (r : am_I), bX9_room_4 G.2.2.2.1 fu l1 l2 I = some r → am_J G (d + 2) mX9_room am_no (am_E none r) 4 [some (.inr (0, 15)), some (.inl l1), some (.inl l2)] [] I := fun l1 l2 I r h => ih h
    unfold bX9_room_4 at h
    generalize bX9_room_4 G.2.2.2.1 fu = k4 at hk4 h
    dsimp only at h
    refine am_iload_n dX9_room_4 rfl ?_
    refine am_bipush (v := nI 8) dX9_room_5 (by decide) ?_
    refine am_icmp_ge (tgt := 64) dX9_room_7 rfl (fun c => ?_) (fun c => ?_)
    · rw [if_pos c] at h
      refine am_aload_n dX9_room_64 rfl ?_
      refine am_iload_n dX9_room_65 rfl ?_
      obtain ⟨q1, hq1, h⟩ := am_bd h
      refine am_callVe (i := 0) (j := 15) (as := [.inl l1]) (rest := []) dX9_room_66 lkX9_finish ml_X9_283 imX9_finish seX9_finish rfl rfl (hG.m0 (by decide)) rfl (Nat.le_of_ble_eq_true rfl) rfl (sX9_finish hG hq1) ?_
      cases h
      exact am_vret dX9_room_69 rfl ⟨rfl, rfl⟩
    · rw [if_neg c] at h
      refine am_aload_n dX9_room_10 rfl ?_
      refine am_iload_n dX9_room_11 rfl ?_
      obtain ⟨q2, hq2, h⟩ := am_bd h
      refine am_callSNx (as := [.inl l2]) (rest := [.inr (0, 15)]) dX9_room_12 lkX10_mapResource nl_X9_208 isX10_mapResource rfl (Nat.le_of_ble_eq_true rfl) rfl (sX10_mapResource hG hq2) ?_
      refine am_iconst (v := nI 1) dX9_room_15 (by decide) ?_
      obtain ⟨q3, hq3, h⟩ := am_bd h
      refine am_callVx (i := 0) (j := 15) (as := [.inl q2.1, .inl (nI 1)]) (rest := []) dX9_room_16 lkX9_meet ml_X9_211 imX9_meet seX9_meet rfl rfl (hG.m0 (by decide)) rfl (Nat.le_of_ble_eq_true rfl) rfl (sX9_meet hG hq3) ?_
      refine am_if_ne (tgt := 23) dX9_room_19 rfl (fun c => ?_) (fun c => ?_)
      · rw [if_neg c] at h
        refine am_iload_n dX9_room_23 rfl ?_
        refine am_bipush (v := nI 47) dX9_room_24 (by decide) ?_
        refine am_aload_n dX9_room_26 rfl ?_
        refine am_iload_n dX9_room_27 rfl ?_
        obtain ⟨q4, hq4, h⟩ := am_bd h
        refine am_callSNx (as := [.inl l2]) (rest := [.inr (0, 15), .inl (nI 47), .inl l1]) dX9_room_28 lkX10_mapBlock nl_X9_214 isX10_mapBlock rfl (Nat.le_of_ble_eq_true rfl) rfl (sX10_mapBlock hG hq4) ?_
        refine am_iconst (v := nI 1) dX9_room_31 (by decide) ?_
        obtain ⟨q5, hq5, h⟩ := am_bd h
        refine am_callVx (i := 0) (j := 15) (as := [.inl q4.1, .inl (nI 1)]) (rest := [.inl (nI 47), .inl l1]) dX9_room_32 lkX9_read ml_X9_197 imX9_read seX9_read rfl rfl (hG.m0 (by decide)) rfl (Nat.le_of_ble_eq_true rfl) rfl (sX9_read hG hq5) ?_
        obtain ⟨q6, hq6, h⟩ := am_bd h
        refine am_callSx (as := [.inl q5.1]) (rest := [.inl (nI 47), .inl l1]) dX9_room_35 lkJ6_bitCount_0f7a4 ml_X9_313 isJ6_bitCount_0f7a4 rfl (Nat.le_of_ble_eq_true rfl) rfl (sJ6_bitCount_0f7a4 hG hq6) ?_
        refine am_isub dX9_room_38 ?_
        refine am_aload_n dX9_room_39 rfl ?_
        refine am_iload_n dX9_room_40 rfl ?_
        obtain ⟨q7, hq7, h⟩ := am_bd h
        refine am_callSNx (as := [.inl l2]) (rest := [.inr (0, 15), .inl ((nI 47) - q6.1), .inl l1]) dX9_room_41 lkX10_mapBlock nl_X9_214 isX10_mapBlock rfl (Nat.le_of_ble_eq_true rfl) rfl (sX10_mapBlock hG hq7) ?_
        refine am_iconst (v := nI 2) dX9_room_44 (by decide) ?_
        obtain ⟨q8, hq8, h⟩ := am_bd h
        refine am_callVx (i := 0) (j := 15) (as := [.inl q7.1, .inl (nI 2)]) (rest := [.inl ((nI 47) - q6.1), .inl l1]) dX9_room_45 lkX9_read ml_X9_197 imX9_read seX9_read rfl rfl (hG.m0 (by decide)) rfl (Nat.le_of_ble_eq_true rfl) rfl (sX9_read hG hq8) ?_
        refine am_sipush (v := nI 32767) dX9_room_48 (by decide) ?_
        refine am_iand dX9_room_51 ?_
        obtain ⟨q9, hq9, h⟩ := am_bd h
        refine am_callSx (as := [.inl (q8.1 &&& (nI 32767))]) (rest := [.inl ((nI 47) - q6.1), .inl l1]) dX9_room_52 lkJ6_bitCount_0f7a4 ml_X9_313 isJ6_bitCount_0f7a4 rfl (Nat.le_of_ble_eq_true rfl) rfl (sJ6_bitCount_0f7a4 hG hq9) ?_
        refine am_isub dX9_room_55 ?_
        refine am_iadd dX9_room_56 ?_
        refine am_istore_n dX9_room_57 (by decide) ?_
        refine am_iinc (v := l2 + nI 1) dX9_room_58 rfl rfl ?_
        refine am_goto (tgt := 4) dX9_room_61 rfl ?_
        exact am_lwJ (lo' := [some (.inr (0, 15)), some (.inl (l1 + (((nI 47) - q6.1) - q9.1))), some (.inl (l2 + nI 1))]) ⟨rfl, rfl, rfl, trivial⟩ (hk4 (l1 + (((nI 47) - q6.1) - q9.1)) (l2 + nI 1) _ _ h)
      · rw [if_pos c] at h
        cases h
        exact am_vret dX9_room_22 rfl ⟨rfl, rfl⟩
def bX9_room_0 (n : Nat) (I : am_I) : Option (am_I) := bX9_room_4 n am_fu (nI 0) (nI 0) I
theorem tX9_room_0 {G : am_G} (hG : am_ok G) {d : Nat} {I : am_I} {r : am_I} (h : bX9_room_0 G.2.2.2.1  I = some r) : am_J G (d + 2) mX9_room am_no (am_E none r) 0 [some (.inr (0, 15)), none, none] [] I := by
  unfold bX9_room_0 at h
  refine am_iconst (v := nI 0) dX9_room_0 (by decide) ?_
  refine am_istore_n dX9_room_1 (by decide) ?_
  refine am_iconst (v := nI 0) dX9_room_2 (by decide) ?_
  refine am_istore_n dX9_room_3 (by decide) ?_
  exact am_lwJ (lo' := [some (.inr (0, 15)), some (.inl (nI 0)), some (.inl (nI 0))]) ⟨rfl, rfl, rfl, trivial⟩ (tX9_room_4 hG h)
def gX9_room (n : Nat) (I : am_I) : Option (am_I) := bX9_room_0 n I
theorem sX9_room {G : am_G} (hG : am_ok G) {d : Nat} {I : am_I} {r : am_I} (h : gX9_room G.2.2.2.1 I = some r) : am_C G (d + 2) mX9_room [.inr (0, 15)] I (am_E none r) :=
  am_of (by decide +kernel) hG.nd (Nat.le_of_ble_eq_true rfl) (am_lwJ (lo' := [some (.inr (0, 15)), none, none]) ⟨rfl, trivial⟩ (tX9_room_0 hG h))
