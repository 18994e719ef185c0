def bX2_ownPlaces_96 (n : Nat) (k3 : Int32 → Int32 → Int32 → am_I → Option (Int32 × am_I)) (l1 : Int32) (l3 : Int32) (l4 : Int32) (I : am_I) : Option (Int32 × am_I) := k3 l1 l3 (l4 + nI 1) I
theorem tX2_ownPlaces_96 {G : am_G} (hG : am_ok G) {d : Nat} {k3 : Int32 → Int32 → Int32 → am_I → Option (Int32 × am_I)} (hk3 : ∀ (l1 : Int32) (l3 : Int32) (l4 : Int32) (I : am_I) (r : Int32 × am_I), k3 l1 l3 l4 I = some r → am_J G (d + 2) mX2_ownPlaces am_no (am_E (some r.1) r.2) 3 [some (.inr (0, 21)), some (.inl l1), none, some (.inl l3), some (.inl l4), none, none, none, none] [] I) {l1 : Int32} {l3 : Int32} {l4 : Int32} {I : am_I} {r : Int32 × am_I} (h : bX2_ownPlaces_96 G.2.2.2.1 k3 l1 l3 l4  I = some r) : am_J G (d + 2) mX2_ownPlaces am_no (am_E (some r.1) r.2) 96 [some (.inr (0, 21)), some (.inl l1), none, some (.inl l3), some (.inl l4), none, none, none, none] [] I := by
  unfold bX2_ownPlaces_96 at h
  refine am_iinc (v := l4 + nI 1) dX2_ownPlaces_96 rfl rfl ?_
  refine am_goto (tgt := 3) dX2_ownPlaces_99 rfl ?_
  exact am_lwJ (lo' := [some (.inr (0, 21)), some (.inl l1), none, some (.inl l3), some (.inl (l4 + nI 1)), none, none, none, none]) ⟨rfl, rfl, rfl, rfl, trivial⟩ (hk3 l1 l3 (l4 + nI 1) _ _ h)
def bX2_ownPlaces_3 (n : Nat) : Nat → Int32 → Int32 → Int32 → am_I → Option (Int32 × am_I)
  | 0, _, _, _, _ => none
  | fu + 1, l1, l3, l4, I => (fun k3 => if l3 ≤ l4 then (some (nI 1, I)) else ((gX2_at n l1 l4 I).bind (fun q1 => if q1.1 = 0 then (bX2_ownPlaces_96 n k3 l1 l3 l4 q1.2) else ((gX10_isData n q1.1 q1.2).bind (fun q2 => if q2.1 = 0 then (some (nI 0, q2.2)) else ((gX10_dataNumber n q1.1 q2.2).bind (fun q3 => (gX10_groupOf n q1.1 q3.2).bind (fun q4 => am_gd (am_inb (((q4.1 * (nI 3)) + (nI 1)) + (q3.1 / (nI 32))) 24) (if ((q4.2 0 26 ((((q4.1 * (nI 3)) + (nI 1)) + (q3.1 / (nI 32))).toNatClampNeg)) &&& ((nI 1) <<< ((q3.1 - q3.1 / (nI 32) * (nI 32)) &&& 31))) = 0 then (am_gd (am_inb (((q4.1 * (nI 3)) + (nI 1)) + (q3.1 / (nI 32))) 24) (am_gd (am_inb (((q4.1 * (nI 3)) + (nI 1)) + (q3.1 / (nI 32))) 24) (am_lt (am_up q4.2 0 26 (((q4.1 * (nI 3)) + (nI 1)) + (q3.1 / (nI 32))).toNatClampNeg ((q4.2 0 26 ((((q4.1 * (nI 3)) + (nI 1)) + (q3.1 / (nI 32))).toNatClampNeg)) ||| ((nI 1) <<< ((q3.1 - q3.1 / (nI 32) * (nI 32)) &&& 31)))) (fun I8 => bX2_ownPlaces_96 n k3 l1 l3 l4 I8)))) else (some (nI 0, q4.2))))))))))) (bX2_ownPlaces_3 n fu)
theorem tX2_ownPlaces_3 {G : am_G} (hG : am_ok G) {d : Nat} : ∀ {fu : Nat} {l1 : Int32} {l3 : Int32} {l4 : Int32} {I : am_I} {r : Int32 × am_I}, bX2_ownPlaces_3 G.2.2.2.1 fu l1 l3 l4 I = some r → am_J G (d + 2) mX2_ownPlaces am_no (am_E (some r.1) r.2) 3 [some (.inr (0, 21)), some (.inl l1), none, some (.inl l3), some (.inl l4), none, none, none, none] [] I := by
  intro fu
  induction fu with
  | zero => intro l1 l3 l4 I r h; cases h
  | succ fu ih =>
    intro l1 l3 l4 I r h
    have hk3 : ∀ (l1 : Int32) (l3 : Int32) (l4 : Int32) (I : am_I) (r : Int32 × am_I), bX2_ownPlaces_3 G.2.2.2.1 fu l1 l3 l4 I = some r → am_J G (d + 2) mX2_ownPlaces am_no (am_E (some r.1) r.2) 3 [some (.inr (0, 21)), some (.inl l1), none, some (.inl l3), some (.inl l4), none, none, none, none] [] I := fun l1 l3 l4 I r h => ih h
    unfold bX2_ownPlaces_3 at h
    generalize bX2_ownPlaces_3 G.2.2.2.1 fu = k3 at hk3 h
    dsimp only at h
    refine am_iload dX2_ownPlaces_3 rfl ?_
    refine am_iload_n dX2_ownPlaces_5 rfl ?_
    refine am_icmp_ge (tgt := 102) dX2_ownPlaces_6 rfl (fun c => ?_) (fun c => ?_)
    · rw [if_pos c] at h
      refine am_iconst (v := nI 1) dX2_ownPlaces_102 (by decide) ?_
      cases h
      exact am_iret dX2_ownPlaces_103 rfl (am_nz (by decide)).1 ⟨rfl, rfl⟩
    · rw [if_neg c] at h
      refine am_aload_n dX2_ownPlaces_9 rfl ?_
      refine am_iload_n dX2_ownPlaces_10 rfl ?_
      refine am_iload dX2_ownPlaces_11 rfl ?_
      obtain ⟨q1, hq1, h⟩ := am_bd h
      refine am_callVx (i := 0) (j := 21) (as := [.inl l1, .inl l4]) (rest := []) dX2_ownPlaces_13 lkX2_at ml_X2_84 imX2_at seX2_at rfl rfl (hG.m0 (by decide)) rfl (Nat.le_of_ble_eq_true rfl) rfl (sX2_at hG hq1) ?_
      refine am_istore dX2_ownPlaces_16 (by decide) ?_
      refine am_iload dX2_ownPlaces_18 rfl ?_
      refine am_if_ne (tgt := 26) dX2_ownPlaces_20 rfl (fun c => ?_) (fun c => ?_)
      · rw [if_neg c] at h
        refine am_iload dX2_ownPlaces_26 rfl ?_
        obtain ⟨q2, hq2, h⟩ := am_bd h
        refine am_callSNx (as := [.inl q1.1]) (rest := []) dX2_ownPlaces_28 lkX10_isData nl_X2_114 isX10_isData rfl (Nat.le_of_ble_eq_true rfl) rfl (sX10_isData hG hq2) ?_
        refine am_if_ne (tgt := 36) dX2_ownPlaces_31 rfl (fun c => ?_) (fun c => ?_)
        · rw [if_neg c] at h
          refine am_iload dX2_ownPlaces_36 rfl ?_
          obtain ⟨q3, hq3, h⟩ := am_bd h
          refine am_callSNx (as := [.inl q1.1]) (rest := []) dX2_ownPlaces_38 lkX10_dataNumber nl_X2_117 isX10_dataNumber rfl (Nat.le_of_ble_eq_true rfl) rfl (sX10_dataNumber hG hq3) ?_
          refine am_istore dX2_ownPlaces_41 (by decide) ?_
          refine am_iload dX2_ownPlaces_43 rfl ?_
          obtain ⟨q4, hq4, h⟩ := am_bd h
          refine am_callSNx (as := [.inl q1.1]) (rest := []) dX2_ownPlaces_45 lkX10_groupOf nl_X2_120 isX10_groupOf rfl (Nat.le_of_ble_eq_true rfl) rfl (sX10_groupOf hG hq4) ?_
          refine am_iconst (v := nI 3) dX2_ownPlaces_48 (by decide) ?_
          refine am_imul dX2_ownPlaces_49 ?_
          refine am_iconst (v := nI 1) dX2_ownPlaces_50 (by decide) ?_
          refine am_iadd dX2_ownPlaces_51 ?_
          refine am_iload dX2_ownPlaces_52 rfl ?_
          refine am_bipush (v := nI 32) dX2_ownPlaces_54 (by decide) ?_
          refine am_idiv dX2_ownPlaces_56 (by decide) ?_
          refine am_iadd dX2_ownPlaces_57 ?_
          refine am_istore dX2_ownPlaces_58 (by decide) ?_
          refine am_iconst (v := nI 1) dX2_ownPlaces_60 (by decide) ?_
          refine am_iload dX2_ownPlaces_61 rfl ?_
          refine am_bipush (v := nI 32) dX2_ownPlaces_63 (by decide) ?_
          refine am_irem dX2_ownPlaces_65 (by decide) ?_
          refine am_ishl dX2_ownPlaces_66 ?_
          refine am_istore dX2_ownPlaces_67 (by decide) ?_
          refine am_aload_n dX2_ownPlaces_69 rfl ?_
          refine am_get (v := .inr (0, 26)) dX2_ownPlaces_70 fl_2_25 (hG.m0 (by decide)) rfl ?_
          refine am_iload dX2_ownPlaces_73 rfl ?_
          obtain ⟨g5, h⟩ := am_gd_some h
          refine am_ialdG dX2_ownPlaces_75 (hG.m0 (by decide)) rfl g5 (show 24 < 2 ^ 31 by decide) ?_
          refine am_iload dX2_ownPlaces_76 rfl ?_
          refine am_iand dX2_ownPlaces_78 ?_
          refine am_if_eq (tgt := 84) dX2_ownPlaces_79 rfl (fun c => ?_) (fun c => ?_)
          · rw [if_pos c] at h
            refine am_aload_n dX2_ownPlaces_84 rfl ?_
            refine am_get (v := .inr (0, 26)) dX2_ownPlaces_85 fl_2_25 (hG.m0 (by decide)) rfl ?_
            refine am_iload dX2_ownPlaces_88 rfl ?_
            refine am_dup2 dX2_ownPlaces_90 ?_
            obtain ⟨g6, h⟩ := am_gd_some h
            refine am_ialdG dX2_ownPlaces_91 (hG.m0 (by decide)) rfl g6 (show 24 < 2 ^ 31 by decide) ?_
            refine am_iload dX2_ownPlaces_92 rfl ?_
            refine am_ior dX2_ownPlaces_94 ?_
            obtain ⟨g7, h⟩ := am_gd_some h
            refine am_iastG dX2_ownPlaces_95 (hG.m0 (by decide)) rfl g7 (show 24 < 2 ^ 31 by decide) ?_
            obtain ⟨I8, hI8, h⟩ := am_lt_some h
            refine am_st10 hI8 ?_
            exact am_lwJ (lo' := [some (.inr (0, 21)), some (.inl l1), none, some (.inl l3), some (.inl l4), none, none, none, none]) ⟨rfl, rfl, rfl, rfl, trivial⟩ (tX2_ownPlaces_96 hG hk3 h)
          · rw [if_neg c] at h
            refine am_iconst (v := nI 0) dX2_ownPlaces_82 (by decide) ?_
            cases h
            exact am_iret dX2_ownPlaces_83 rfl (am_nz (by decide)).1 ⟨rfl, rfl⟩
        · rw [if_pos c] at h
          refine am_iconst (v := nI 0) dX2_ownPlaces_34 (by decide) ?_
          cases h
          exact am_iret dX2_ownPlaces_35 rfl (am_nz (by decide)).1 ⟨rfl, rfl⟩
      · rw [if_pos c] at h
        refine am_goto (tgt := 96) dX2_ownPlaces_23 rfl ?_
        exact am_lwJ (lo' := [some (.inr (0, 21)), some (.inl l1), none, some (.inl l3), some (.inl l4), none, none, none, none]) ⟨rfl, rfl, rfl, rfl, trivial⟩ (tX2_ownPlaces_96 hG hk3 h)
def bX2_ownPlaces_0 (n : Nat) (l1 : Int32) (l2 : Int32) (l3 : Int32) (I : am_I) : Option (Int32 × am_I) := bX2_ownPlaces_3 n am_fu l1 l3 l2 I
theorem tX2_ownPlaces_0 {G : am_G} (hG : am_ok G) {d : Nat} {l1 : Int32} {l2 : Int32} {l3 : Int32} {I : am_I} {r : Int32 × am_I} (h : bX2_ownPlaces_0 G.2.2.2.1 l1 l2 l3  I = some r) : am_J G (d + 2) mX2_ownPlaces am_no (am_E (some r.1) r.2) 0 [some (.inr (0, 21)), some (.inl l1), some (.inl l2), some (.inl l3), none, none, none, none, none] [] I := by
  unfold bX2_ownPlaces_0 at h
  refine am_iload_n dX2_ownPlaces_0 rfl ?_
  refine am_istore dX2_ownPlaces_1 (by decide) ?_
  exact am_lwJ (lo' := [some (.inr (0, 21)), some (.inl l1), none, some (.inl l3), some (.inl l2), none, none, none, none]) ⟨rfl, rfl, rfl, rfl, trivial⟩ (tX2_ownPlaces_3 hG h)
def gX2_ownPlaces (n : Nat) (l1 : Int32) (l2 : Int32) (l3 : Int32) (I : am_I) : Option (Int32 × am_I) := bX2_ownPlaces_0 n l1 l2 l3 I
theorem sX2_ownPlaces {G : am_G} (hG : am_ok G) {d : Nat} {l1 : Int32} {l2 : Int32} {l3 : Int32} {I : am_I} {r : Int32 × am_I} (h : gX2_ownPlaces G.2.2.2.1 l1 l2 l3 I = some r) : am_C G (d + 2) mX2_ownPlaces [.inr (0, 21), .inl l1, .inl l2, .inl l3] I (am_E (some r.1) r.2) :=
  am_of (by decide +kernel) hG.nd (Nat.le_of_ble_eq_true rfl) (am_lwJ (lo' := [some (.inr (0, 21)), some (.inl l1), some (.inl l2), some (.inl l3), none, none, none, none, none]) ⟨rfl, rfl, rfl, rfl, trivial⟩ (tX2_ownPlaces_0 hG h))
def bX2_ownBlocks_87 (n : Nat) (I : am_I) : Option (Int32 × am_I) := some (nI 0, I)
theorem tX2_ownBlocks_87 {G : am_G} (hG : am_ok G) {d : Nat} {I : am_I} {r : Int32 × am_I} (h : bX2_ownBlocks_87 G.2.2.2.1  I = some r) : am_J G (d + 3) mX2_ownBlocks am_no (am_E (some r.1) r.2) 87 [none, none, none, none] [] I := by
  unfold bX2_ownBlocks_87 at h
  refine am_iconst (v := nI 0) dX2_ownBlocks_87 (by decide) ?_
  cases h
  exact am_iret dX2_ownBlocks_88 rfl (am_nz (by decide)).1 ⟨rfl, rfl⟩
def bX2_ownBlocks_89 (n : Nat) (k10 : Int32 → am_I → Option (Int32 × am_I)) (l1 : Int32) (I : am_I) : Option (Int32 × am_I) := k10 (l1 + nI 1) I
theorem tX2_ownBlocks_89 {G : am_G} (hG : am_ok G) {d : Nat} {k10 : Int32 → am_I → Option (Int32 × am_I)} (hk10 : ∀ (l1 : Int32) (I : am_I) (r : Int32 × am_I), k10 l1 I = some r → am_J G (d + 3) mX2_ownBlocks am_no (am_E (some r.1) r.2) 10 [some (.inr (0, 21)), some (.inl l1), none, none] [] I) {l1 : Int32} {I : am_I} {r : Int32 × am_I} (h : bX2_ownBlocks_89 G.2.2.2.1 k10 l1  I = some r) : am_J G (d + 3) mX2_ownBlocks am_no (am_E (some r.1) r.2) 89 [some (.inr (0, 21)), some (.inl l1), none, none] [] I := by
  unfold bX2_ownBlocks_89 at h
  refine am_iinc (v := l1 + nI 1) dX2_ownBlocks_89 rfl rfl ?_
  refine am_goto (tgt := 10) dX2_ownBlocks_92 rfl ?_
  exact am_lwJ (lo' := [some (.inr (0, 21)), some (.inl (l1 + nI 1)), none, none]) ⟨rfl, rfl, trivial⟩ (hk10 (l1 + nI 1) _ _ h)
def bX2_ownBlocks_10 (n : Nat) : Nat → Int32 → am_I → Option (Int32 × am_I)
  | 0, _, _ => none
  | fu + 1, l1, I => (fun k10 => if (nI 128) ≤ l1 then (some (nI 1, I)) else ((gX2_kindOf n l1 I).bind (fun q1 => if q1.1 = 0 then (bX2_ownBlocks_89 n k10 l1 q1.2) else (am_gd (am_inb ((l1 / (nI 16)) * (nI 3)) 24) (am_gd (am_inb ((l1 / (nI 16)) * (nI 3)) 24) (am_lt (am_up q1.2 0 26 ((l1 / (nI 16)) * (nI 3)).toNatClampNeg ((q1.2 0 26 (((l1 / (nI 16)) * (nI 3)).toNatClampNeg)) ||| ((nI 1) <<< ((l1 - l1 / (nI 16) * (nI 16)) &&& 31)))) (fun I4 => (gX10_inodeBlock n l1 I4).bind (fun q5 => (gX2_at n q5.1 (nI 11) q5.2).bind (fun q6 => (gX2_ownPlaces n q5.1 (nI 3) (nI 12) q6.2).bind (fun q7 => if q7.1 = 0 then (bX2_ownBlocks_87 n q7.2) else (if q6.1 = 0 then (bX2_ownBlocks_89 n k10 l1 q7.2) else ((gX2_ownPlaces n q6.1 (nI 0) (nI 16) q7.2).bind (fun q8 => if q8.1 = 0 then (bX2_ownBlocks_87 n q8.2) else (bX2_ownBlocks_89 n k10 l1 q8.2)))))))))))))) (bX2_ownBlocks_10 n fu)
theorem tX2_ownBlocks_10 {G : am_G} (hG : am_ok G) {d : Nat} : ∀ {fu : Nat} {l1 : Int32} {I : am_I} {r : Int32 × am_I}, bX2_ownBlocks_10 G.2.2.2.1 fu l1 I = some r → am_J G (d + 3) mX2_ownBlocks am_no (am_E (some r.1) r.2) 10 [some (.inr (0, 21)), some (.inl l1), none, none] [] I := by
  intro fu
  induction fu with
  | zero => intro l1 I r h; cases h
  | succ fu ih =>
    intro l1 I r h
    have hk10 : ∀ (l1 : Int32) (I : am_I) (r : Int32 × am_I), bX2_ownBlocks_10 G.2.2.2.1 fu l1 I = some r → am_J G (d + 3) mX2_ownBlocks am_no (am_E (some r.1) r.2) 10 [some (.inr (0, 21)), some (.inl l1), none, none] [] I := fun l1 I r h => ih h
    unfold bX2_ownBlocks_10 at h
    generalize bX2_ownBlocks_10 G.2.2.2.1 fu = k10 at hk10 h
    dsimp only at h
    refine am_iload_n dX2_ownBlocks_10 rfl ?_
    refine am_sipush (v := nI 128) dX2_ownBlocks_11 (by decide) ?_
    refine am_icmp_ge (tgt := 95) dX2_ownBlocks_14 rfl (fun c => ?_) (fun c => ?_)
    · rw [if_pos c] at h
      refine am_iconst (v := nI 1) dX2_ownBlocks_95 (by decide) ?_
      cases h
      exact am_iret dX2_ownBlocks_96 rfl (am_nz (by decide)).1 ⟨rfl, rfl⟩
    · rw [if_neg c] at h
      refine am_aload_n dX2_ownBlocks_17 rfl ?_
      refine am_iload_n dX2_ownBlocks_18 rfl ?_
      obtain ⟨q1, hq1, h⟩ := am_bd h
      refine am_callVx (i := 0) (j := 21) (as := [.inl l1]) (rest := []) dX2_ownBlocks_19 lkX2_kindOf ml_X2_104 imX2_kindOf seX2_kindOf rfl rfl (hG.m0 (by decide)) rfl (Nat.le_of_ble_eq_true rfl) rfl (sX2_kindOf hG hq1) ?_
      refine am_if_ne (tgt := 28) dX2_ownBlocks_22 rfl (fun c => ?_) (fun c => ?_)
      · rw [if_neg c] at h
        refine am_aload_n dX2_ownBlocks_28 rfl ?_
        refine am_get (v := .inr (0, 26)) dX2_ownBlocks_29 fl_2_25 (hG.m0 (by decide)) rfl ?_
        refine am_iload_n dX2_ownBlocks_32 rfl ?_
        refine am_bipush (v := nI 16) dX2_ownBlocks_33 (by decide) ?_
        refine am_idiv dX2_ownBlocks_35 (by decide) ?_
        refine am_iconst (v := nI 3) dX2_ownBlocks_36 (by decide) ?_
        refine am_imul dX2_ownBlocks_37 ?_
        refine am_dup2 dX2_ownBlocks_38 ?_
        obtain ⟨g2, h⟩ := am_gd_some h
        refine am_ialdG dX2_ownBlocks_39 (hG.m0 (by decide)) rfl g2 (show 24 < 2 ^ 31 by decide) ?_
        refine am_iconst (v := nI 1) dX2_ownBlocks_40 (by decide) ?_
        refine am_iload_n dX2_ownBlocks_41 rfl ?_
        refine am_bipush (v := nI 16) dX2_ownBlocks_42 (by decide) ?_
        refine am_irem dX2_ownBlocks_44 (by decide) ?_
        refine am_ishl dX2_ownBlocks_45 ?_
        refine am_ior dX2_ownBlocks_46 ?_
        obtain ⟨g3, h⟩ := am_gd_some h
        refine am_iastG dX2_ownBlocks_47 (hG.m0 (by decide)) rfl g3 (show 24 < 2 ^ 31 by decide) ?_
        obtain ⟨I4, hI4, h⟩ := am_lt_some h
        refine am_st10 hI4 ?_
        refine am_iload_n dX2_ownBlocks_48 rfl ?_
        obtain ⟨q5, hq5, h⟩ := am_bd h
        refine am_callSNx (as := [.inl l1]) (rest := []) dX2_ownBlocks_49 lkX10_inodeBlock nl_X2_81 isX10_inodeBlock rfl (Nat.le_of_ble_eq_true rfl) rfl (sX10_inodeBlock hG hq5) ?_
        refine am_istore_n dX2_ownBlocks_52 (by decide) ?_
        refine am_aload_n dX2_ownBlocks_53 rfl ?_
        refine am_iload_n dX2_ownBlocks_54 rfl ?_
        refine am_bipush (v := nI 11) dX2_ownBlocks_55 (by decide) ?_
        obtain ⟨q6, hq6, h⟩ := am_bd h
        refine am_callVx (i := 0) (j := 21) (as := [.inl q5.1, .inl (nI 11)]) (rest := []) dX2_ownBlocks_57 lkX2_at ml_X2_84 imX2_at seX2_at rfl rfl (hG.m0 (by decide)) rfl (Nat.le_of_ble_eq_true rfl) rfl (sX2_at hG hq6) ?_
        refine am_istore_n dX2_ownBlocks_60 (by decide) ?_
        refine am_aload_n dX2_ownBlocks_61 rfl ?_
        refine am_iload_n dX2_ownBlocks_62 rfl ?_
        refine am_iconst (v := nI 3) dX2_ownBlocks_63 (by decide) ?_
        refine am_bipush (v := nI 12) dX2_ownBlocks_64 (by decide) ?_
        obtain ⟨q7, hq7, h⟩ := am_bd h
        refine am_callVx (i := 0) (j := 21) (as := [.inl q5.1, .inl (nI 3), .inl (nI 12)]) (rest := []) dX2_ownBlocks_66 lkX2_ownPlaces ml_X2_110 imX2_ownPlaces seX2_ownPlaces rfl rfl (hG.m0 (by decide)) rfl (Nat.le_of_ble_eq_true rfl) rfl (sX2_ownPlaces hG hq7) ?_
        refine am_if_eq (tgt := 87) dX2_ownBlocks_69 rfl (fun c => ?_) (fun c => ?_)
        · rw [if_pos c] at h
          exact am_lwJ (lo' := [none, none, none, none]) trivial (tX2_ownBlocks_87 hG h)
        · rw [if_neg c] at h
          refine am_iload_n dX2_ownBlocks_72 rfl ?_
          refine am_if_eq (tgt := 89) dX2_ownBlocks_73 rfl (fun c => ?_) (fun c => ?_)
          · rw [if_pos c] at h
            exact am_lwJ (lo' := [some (.inr (0, 21)), some (.inl l1), none, none]) ⟨rfl, rfl, trivial⟩ (tX2_ownBlocks_89 hG hk10 h)
          · rw [if_neg c] at h
            refine am_aload_n dX2_ownBlocks_76 rfl ?_
            refine am_iload_n dX2_ownBlocks_77 rfl ?_
            refine am_iconst (v := nI 0) dX2_ownBlocks_78 (by decide) ?_
            refine am_bipush (v := nI 16) dX2_ownBlocks_79 (by decide) ?_
            obtain ⟨q8, hq8, h⟩ := am_bd h
            refine am_callVx (i := 0) (j := 21) (as := [.inl q6.1, .inl (nI 0), .inl (nI 16)]) (rest := []) dX2_ownBlocks_81 lkX2_ownPlaces ml_X2_110 imX2_ownPlaces seX2_ownPlaces rfl rfl (hG.m0 (by decide)) rfl (Nat.le_of_ble_eq_true rfl) rfl (sX2_ownPlaces hG hq8) ?_
            refine am_if_ne (tgt := 89) dX2_ownBlocks_84 rfl (fun c => ?_) (fun c => ?_)
            · rw [if_neg c] at h
              exact am_lwJ (lo' := [some (.inr (0, 21)), some (.inl l1), none, none]) ⟨rfl, rfl, trivial⟩ (tX2_ownBlocks_89 hG hk10 h)
            · rw [if_pos c] at h
              exact am_lwJ (lo' := [none, none, none, none]) trivial (tX2_ownBlocks_87 hG h)
      · rw [if_pos c] at h
        refine am_goto (tgt := 89) dX2_ownBlocks_25 rfl ?_
        exact am_lwJ (lo' := [some (.inr (0, 21)), some (.inl l1), none, none]) ⟨rfl, rfl, trivial⟩ (tX2_ownBlocks_89 hG hk10 h)
def bX2_ownBlocks_0 (n : Nat) (I : am_I) : Option (Int32 × am_I) := am_lt (am_upf I 0 26 (am_fil (I 0 26) 24 (nI 0))) (fun I1 => bX2_ownBlocks_10 n am_fu (nI 0) I1)
theorem tX2_ownBlocks_0 {G : am_G} (hG : am_ok G) {d : Nat} {I : am_I} {r : Int32 × am_I} (h : bX2_ownBlocks_0 G.2.2.2.1  I = some r) : am_J G (d + 3) mX2_ownBlocks am_no (am_E (some r.1) r.2) 0 [some (.inr (0, 21)), none, none, none] [] I := by
  unfold bX2_ownBlocks_0 at h
  refine am_aload_n dX2_ownBlocks_0 rfl ?_
  refine am_get (v := .inr (0, 26)) dX2_ownBlocks_1 fl_2_25 (hG.m0 (by decide)) rfl ?_
  refine am_iconst (v := nI 0) dX2_ownBlocks_4 (by decide) ?_
  refine am_callSe (as := [.inr (0, 26), .inl (nI 0)]) (rest := []) dX2_ownBlocks_5 lkJ7_fill_53178 ml_X2_87 isJ7_fill_53178 rfl (Nat.le_of_ble_eq_true rfl) rfl (c_fill (i := 0) (j := 26) hG.nd (hG.m0 (by decide)) rfl (show 24 < 2 ^ 31 by decide) (nI 0) I) ?_
  obtain ⟨I1, hI1, h⟩ := am_lt_some h
  refine am_st10 hI1 ?_
  refine am_iconst (v := nI 0) dX2_ownBlocks_8 (by decide) ?_
  refine am_istore_n dX2_ownBlocks_9 (by decide) ?_
  exact am_lwJ (lo' := [some (.inr (0, 21)), some (.inl (nI 0)), none, none]) ⟨rfl, rfl, trivial⟩ (tX2_ownBlocks_10 hG h)
def gX2_ownBlocks (n : Nat) (I : am_I) : Option (Int32 × am_I) := bX2_ownBlocks_0 n I
theorem sX2_ownBlocks {G : am_G} (hG : am_ok G) {d : Nat} {I : am_I} {r : Int32 × am_I} (h : gX2_ownBlocks G.2.2.2.1 I = some r) : am_C G (d + 3) mX2_ownBlocks [.inr (0, 21)] I (am_E (some r.1) r.2) :=
  am_of (by decide +kernel) hG.nd (Nat.le_of_ble_eq_true rfl) (am_lwJ (lo' := [some (.inr (0, 21)), none, none, none]) ⟨rfl, trivial⟩ (tX2_ownBlocks_0 hG h))
def bX2_hasWrongMap_44 (n : Nat) (k2 : Int32 → am_I → Option (Int32 × am_I)) (k10 : Int32 → Int32 → am_I → Option (Int32 × am_I)) (l1 : Int32) (l2 : Int32) (s0 : Int32) (s1 : Int32) (I : am_I) : Option (Int32 × am_I) := if s1 = s0 then (k10 l1 (l2 + nI 1) I) else (some (nI 1, I))
theorem tX2_hasWrongMap_44 {G : am_G} (hG : am_ok G) {d : Nat} {k2 : Int32 → am_I → Option (Int32 × am_I)} {k10 : Int32 → Int32 → am_I → Option (Int32 × am_I)} (hk2 : ∀ (l1 : Int32) (I : am_I) (r : Int32 × am_I), k2 l1 I = some r → am_J G (d + 2) mX2_hasWrongMap am_no (am_E (some r.1) r.2) 2 [some (.inr (0, 21)), some (.inl l1), none] [] I) (hk10 : ∀ (l1 : Int32) (l2 : Int32) (I : am_I) (r : Int32 × am_I), k10 l1 l2 I = some r → am_J G (d + 2) mX2_hasWrongMap am_no (am_E (some r.1) r.2) 10 [some (.inr (0, 21)), some (.inl l1), some (.inl l2)] [] I) {l1 : Int32} {l2 : Int32} {s0 : Int32} {s1 : Int32} {I : am_I} {r : Int32 × am_I} (h : bX2_hasWrongMap_44 G.2.2.2.1 k2 k10 l1 l2 s0 s1  I = some r) : am_J G (d + 2) mX2_hasWrongMap am_no (am_E (some r.1) r.2) 44 [some (.inr (0, 21)), some (.inl l1), some (.inl l2)] [.inl s0, .inl s1] I := by
  unfold bX2_hasWrongMap_44 at h
  refine am_icmp_eq (tgt := 49) dX2_hasWrongMap_44 rfl (fun c => ?_) (fun c => ?_)
  · rw [if_pos c] at h
    refine am_iinc (v := l2 + nI 1) dX2_hasWrongMap_49 rfl rfl ?_
    refine am_goto (tgt := 10) dX2_hasWrongMap_52 rfl ?_
    exact am_lwJ (lo' := [some (.inr (0, 21)), some (.inl l1), some (.inl (l2 + nI 1))]) ⟨rfl, rfl, rfl, trivial⟩ (hk10 l1 (l2 + nI 1) _ _ h)
  · rw [if_neg c] at h
    refine am_iconst (v := nI 1) dX2_hasWrongMap_47 (by decide) ?_
    cases h
    exact am_iret dX2_hasWrongMap_48 rfl (am_nz (by decide)).1 ⟨rfl, rfl⟩
def bX2_hasWrongMap_10 (n : Nat) (k2 : Int32 → am_I → Option (Int32 × am_I)) : Nat → Int32 → Int32 → am_I → Option (Int32 × am_I)
  | 0, _, _, _ => none
  | fu + 1, l1, l2, I => (fun k10 => if (nI 16) ≤ l2 then (k2 (l1 + nI 1) I) else ((gX10_mapBlock n l1 I).bind (fun q1 => (gX2_at n q1.1 l2 q1.2).bind (fun q2 => if (nI 3) ≤ l2 then (bX2_hasWrongMap_44 n k2 k10 l1 l2 (nI 0) q2.1 q2.2) else (am_gd (am_inb ((l1 * (nI 3)) + l2) 24) (bX2_hasWrongMap_44 n k2 k10 l1 l2 (q2.2 0 26 (((l1 * (nI 3)) + l2).toNatClampNeg)) q2.1 q2.2)))))) (bX2_hasWrongMap_10 n k2 fu)
theorem tX2_hasWrongMap_10 {G : am_G} (hG : am_ok G) {d : Nat} {k2 : Int32 → am_I → Option (Int32 × am_I)} (hk2 : ∀ (l1 : Int32) (I : am_I) (r : Int32 × am_I), k2 l1 I = some r → am_J G (d + 2) mX2_hasWrongMap am_no (am_E (some r.1) r.2) 2 [some (.inr (0, 21)), some (.inl l1), none] [] I) : ∀ {fu : Nat} {l1 : Int32} {l2 : Int32} {I : am_I} {r : Int32 × am_I}, bX2_hasWrongMap_10 G.2.2.2.1 k2 fu l1 l2 I = some r → am_J G (d + 2) mX2_hasWrongMap am_no (am_E (some r.1) r.2) 10 [some (.inr (0, 21)), some (.inl l1), some (.inl l2)] [] I := by
  intro fu
  induction fu with
  | zero => intro l1 l2 I r h; cases h
  | succ fu ih =>
    intro l1 l2 I r h
    have hk10 : ∀ (l1 : Int32) (l2 : Int32) (I : am_I) (r : Int32 × am_I), bX2_hasWrongMap_10 G.2.2.2.1 k2 fu l1 l2 I = some r → am_J G (d + 2) mX2_hasWrongMap am_no (am_E (some r.1) r.2) 10 [some (.inr (0, 21)), some (.inl l1), some (.inl l2)] [] I := fun l1 l2 I r h => ih h
    unfold bX2_hasWrongMap_10 at h
    generalize bX2_hasWrongMap_10 G.2.2.2.1 k2 fu = k10 at hk10 h
    dsimp only at h
    refine am_iload_n dX2_hasWrongMap_10 rfl ?_
    refine am_bipush (v := nI 16) dX2_hasWrongMap_11 (by decide) ?_
    refine am_icmp_ge (tgt := 55) dX2_hasWrongMap_13 rfl (fun c => ?_) (fun c => ?_)
    · rw [if_pos c] at h
      refine am_iinc (v := l1 + nI 1) dX2_hasWrongMap_55 rfl rfl ?_
      refine am_goto (tgt := 2) dX2_hasWrongMap_58 rfl ?_
      exact am_lwJ (lo' := [some (.inr (0, 21)), some (.inl (l1 + nI 1)), none]) ⟨rfl, rfl, trivial⟩ (hk2 (l1 + nI 1) _ _ h)
    · rw [if_neg c] at h
      refine am_aload_n dX2_hasWrongMap_16 rfl ?_
      refine am_iload_n dX2_hasWrongMap_17 rfl ?_
      obtain ⟨q1, hq1, h⟩ := am_bd h
      refine am_callSNx (as := [.inl l1]) (rest := [.inr (0, 21)]) dX2_hasWrongMap_18 lkX10_mapBlock nl_X2_123 isX10_mapBlock rfl (Nat.le_of_ble_eq_true rfl) rfl (sX10_mapBlock hG hq1) ?_
      refine am_iload_n dX2_hasWrongMap_21 rfl ?_
      obtain ⟨q2, hq2, h⟩ := am_bd h
      refine am_callVx (i := 0) (j := 21) (as := [.inl q1.1, .inl l2]) (rest := []) dX2_hasWrongMap_22 lkX2_at ml_X2_84 imX2_at seX2_at rfl rfl (hG.m0 (by decide)) rfl (Nat.le_of_ble_eq_true rfl) rfl (sX2_at hG hq2) ?_
      refine am_iload_n dX2_hasWrongMap_25 rfl ?_
      refine am_iconst (v := nI 3) dX2_hasWrongMap_26 (by decide) ?_
      refine am_icmp_ge (tgt := 43) dX2_hasWrongMap_27 rfl (fun c => ?_) (fun c => ?_)
      · rw [if_pos c] at h
        refine am_iconst (v := nI 0) dX2_hasWrongMap_43 (by decide) ?_
        exact am_lwJ (lo' := [some (.inr (0, 21)), some (.inl l1), some (.inl l2)]) ⟨rfl, rfl, rfl, trivial⟩ (tX2_hasWrongMap_44 hG hk2 hk10 h)
      · rw [if_neg c] at h
        refine am_aload_n dX2_hasWrongMap_30 rfl ?_
        refine am_get (v := .inr (0, 26)) dX2_hasWrongMap_31 fl_2_25 (hG.m0 (by decide)) rfl ?_
        refine am_iload_n dX2_hasWrongMap_34 rfl ?_
        refine am_iconst (v := nI 3) dX2_hasWrongMap_35 (by decide) ?_
        refine am_imul dX2_hasWrongMap_36 ?_
        refine am_iload_n dX2_hasWrongMap_37 rfl ?_
        refine am_iadd dX2_hasWrongMap_38 ?_
        obtain ⟨g3, h⟩ := am_gd_some h
        refine am_ialdG dX2_hasWrongMap_39 (hG.m0 (by decide)) rfl g3 (show 24 < 2 ^ 31 by decide) ?_
        refine am_goto (tgt := 44) dX2_hasWrongMap_40 rfl ?_
        exact am_lwJ (lo' := [some (.inr (0, 21)), some (.inl l1), some (.inl l2)]) ⟨rfl, rfl, rfl, trivial⟩ (tX2_hasWrongMap_44 hG hk2 hk10 h)
def bX2_hasWrongMap_2 (n : Nat) : Nat → Int32 → am_I → Option (Int32 × am_I)
  | 0, _, _ => none
  | fu + 1, l1, I => (fun k2 => if (nI 8) ≤ l1 then (some (nI 0, I)) else (bX2_hasWrongMap_10 n k2 am_fu l1 (nI 0) I)) (bX2_hasWrongMap_2 n fu)
theorem tX2_hasWrongMap_2 {G : am_G} (hG : am_ok G) {d : Nat} : ∀ {fu : Nat} {l1 : Int32} {I : am_I} {r : Int32 × am_I}, bX2_hasWrongMap_2 G.2.2.2.1 fu l1 I = some r → am_J G (d + 2) mX2_hasWrongMap am_no (am_E (some r.1) r.2) 2 [some (.inr (0, 21)), some (.inl l1), none] [] I := by
  intro fu
  induction fu with
  | zero => intro l1 I r h; cases h
  | succ fu ih =>
    intro l1 I r h
    have hk2 : ∀ (l1 : Int32) (I : am_I) (r : Int32 × am_I), bX2_hasWrongMap_2 G.2.2.2.1 fu l1 I = some r → am_J G (d + 2) mX2_hasWrongMap am_no (am_E (some r.1) r.2) 2 [some (.inr (0, 21)), some (.inl l1), none] [] I := fun l1 I r h => ih h
    unfold bX2_hasWrongMap_2 at h
    generalize bX2_hasWrongMap_2 G.2.2.2.1 fu = k2 at hk2 h
    dsimp only at h
    refine am_iload_n dX2_hasWrongMap_2 rfl ?_
    refine am_bipush (v := nI 8) dX2_hasWrongMap_3 (by decide) ?_
    refine am_icmp_ge (tgt := 61) dX2_hasWrongMap_5 rfl (fun c => ?_) (fun c => ?_)
    · rw [if_pos c] at h
      refine am_iconst (v := nI 0) dX2_hasWrongMap_61 (by decide) ?_
      cases h
      exact am_iret dX2_hasWrongMap_62 rfl (am_nz (by decide)).1 ⟨rfl, rfl⟩
    · rw [if_neg c] at h
      refine am_iconst (v := nI 0) dX2_hasWrongMap_8 (by decide) ?_
      refine am_istore_n dX2_hasWrongMap_9 (by decide) ?_
      exact am_lwJ (lo' := [some (.inr (0, 21)), some (.inl l1), some (.inl (nI 0))]) ⟨rfl, rfl, rfl, trivial⟩ (tX2_hasWrongMap_10 hG hk2 h)
def bX2_hasWrongMap_0 (n : Nat) (I : am_I) : Option (Int32 × am_I) := bX2_hasWrongMap_2 n am_fu (nI 0) I
theorem tX2_hasWrongMap_0 {G : am_G} (hG : am_ok G) {d : Nat} {I : am_I} {r : Int32 × am_I} (h : bX2_hasWrongMap_0 G.2.2.2.1  I = some r) : am_J G (d + 2) mX2_hasWrongMap am_no (am_E (some r.1) r.2) 0 [some (.inr (0, 21)), none, none] [] I := by
  unfold bX2_hasWrongMap_0 at h
  refine am_iconst (v := nI 0) dX2_hasWrongMap_0 (by decide) ?_
  refine am_istore_n dX2_hasWrongMap_1 (by decide) ?_
  exact am_lwJ (lo' := [some (.inr (0, 21)), some (.inl (nI 0)), none]) ⟨rfl, rfl, trivial⟩ (tX2_hasWrongMap_2 hG h)
def gX2_hasWrongMap (n : Nat) (I : am_I) : Option (Int32 × am_I) := bX2_hasWrongMap_0 n I
theorem sX2_hasWrongMap {G : am_G} (hG : am_ok G) {d : Nat} {I : am_I} {r : Int32 × am_I} (h : gX2_hasWrongMap G.2.2.2.1 I = some r) : am_C G (d + 2) mX2_hasWrongMap [.inr (0, 21)] I (am_E (some r.1) r.2) :=
  am_of (by decide +kernel) hG.nd (Nat.le_of_ble_eq_true rfl) (am_lwJ (lo' := [some (.inr (0, 21)), none, none]) ⟨rfl, trivial⟩ (tX2_hasWrongMap_0 hG h))
def bX2_look_67 (n : Nat) (s0 : Int32) (I : am_I) : Option (Int32 × am_I) := some (s0, I)
theorem tX2_look_67 {G : am_G} (hG : am_ok G) {d : Nat} {s0 : Int32} {I : am_I} {r : Int32 × am_I} (h : bX2_look_67 G.2.2.2.1 s0  I = some r) : am_J G (d + 6) mX2_look am_no (am_E (some r.1) r.2) 67 [none, none] [.inl s0] I := by
  unfold bX2_look_67 at h
  cases h
  exact am_iret dX2_look_67 rfl rfl ⟨rfl, rfl⟩
def bX2_look_0 (n : Nat) (I : am_I) : Option (Int32 × am_I) := (gX2_recoverAll n I).bind (fun q1 => (gX2_walk n q1).bind (fun q2 => if (q2 0 21 7) = 0 then ((gX2_isNamedTwice n q2).bind (fun q3 => if q3.1 = 0 then ((gX2_isLeftAlone n q3.2).bind (fun q4 => if q4.1 = 0 then ((gX2_hasWrongLinks n q4.2).bind (fun q5 => if q5.1 = 0 then ((gX2_ownBlocks n q5.2).bind (fun q6 => if q6.1 = 0 then (some (nI 5, q6.2)) else ((gX2_hasWrongMap n q6.2).bind (fun q7 => if q7.1 = 0 then (bX2_look_67 n (nI 0) q7.2) else (bX2_look_67 n (nI 6) q7.2))))) else (some (nI 4, q5.2)))) else (some (nI 3, q4.2)))) else (some (nI 2, q3.2)))) else (some (nI 1, q2))))
theorem tX2_look_0 {G : am_G} (hG : am_ok G) {d : Nat} {I : am_I} {r : Int32 × am_I} (h : bX2_look_0 G.2.2.2.1  I = some r) : am_J G (d + 6) mX2_look am_no (am_E (some r.1) r.2) 0 [some (.inr (0, 21)), some (.inr (0, 2))] [] I := by
  unfold bX2_look_0 at h
  refine am_aload_n dX2_look_0 rfl ?_
  refine am_aload_n dX2_look_1 rfl ?_
  obtain ⟨q1, hq1, h⟩ := am_bd h
  refine am_callVe (i := 0) (j := 21) (as := [.inr (0, 2)]) (rest := []) dX2_look_2 lkX2_recoverAll ml_X2_31 imX2_recoverAll seX2_recoverAll rfl rfl (hG.m0 (by decide)) rfl (Nat.le_of_ble_eq_true rfl) rfl (sX2_recoverAll hG hq1) ?_
  refine am_aload_n dX2_look_5 rfl ?_
  obtain ⟨q2, hq2, h⟩ := am_bd h
  refine am_callVe (i := 0) (j := 21) (as := []) (rest := []) dX2_look_6 lkX2_walk ml_X2_35 imX2_walk seX2_walk rfl rfl (hG.m0 (by decide)) rfl (Nat.le_of_ble_eq_true rfl) rfl (sX2_walk hG hq2) ?_
  refine am_aload_n dX2_look_9 rfl ?_
  refine am_get (v := .inl (q2 0 21 7)) dX2_look_10 fl_2_38 (hG.m0 (by decide)) rfl ?_
  refine am_if_eq (tgt := 18) dX2_look_13 rfl (fun c => ?_) (fun c => ?_)
  · rw [if_pos c] at h
    refine am_aload_n dX2_look_18 rfl ?_
    obtain ⟨q3, hq3, h⟩ := am_bd h
    refine am_callVx (i := 0) (j := 21) (as := []) (rest := []) dX2_look_19 lkX2_isNamedTwice ml_X2_42 imX2_isNamedTwice seX2_isNamedTwice rfl rfl (hG.m0 (by decide)) rfl (Nat.le_of_ble_eq_true rfl) rfl (sX2_isNamedTwice hG hq3) ?_
    refine am_if_eq (tgt := 27) dX2_look_22 rfl (fun c => ?_) (fun c => ?_)
    · rw [if_pos c] at h
      refine am_aload_n dX2_look_27 rfl ?_
      obtain ⟨q4, hq4, h⟩ := am_bd h
      refine am_callVx (i := 0) (j := 21) (as := []) (rest := []) dX2_look_28 lkX2_isLeftAlone ml_X2_46 imX2_isLeftAlone seX2_isLeftAlone rfl rfl (hG.m0 (by decide)) rfl (Nat.le_of_ble_eq_true rfl) rfl (sX2_isLeftAlone hG hq4) ?_
      refine am_if_eq (tgt := 36) dX2_look_31 rfl (fun c => ?_) (fun c => ?_)
      · rw [if_pos c] at h
        refine am_aload_n dX2_look_36 rfl ?_
        obtain ⟨q5, hq5, h⟩ := am_bd h
        refine am_callVx (i := 0) (j := 21) (as := []) (rest := []) dX2_look_37 lkX2_hasWrongLinks ml_X2_49 imX2_hasWrongLinks seX2_hasWrongLinks rfl rfl (hG.m0 (by decide)) rfl (Nat.le_of_ble_eq_true rfl) rfl (sX2_hasWrongLinks hG hq5) ?_
        refine am_if_eq (tgt := 45) dX2_look_40 rfl (fun c => ?_) (fun c => ?_)
        · rw [if_pos c] at h
          refine am_aload_n dX2_look_45 rfl ?_
          obtain ⟨q6, hq6, h⟩ := am_bd h
          refine am_callVx (i := 0) (j := 21) (as := []) (rest := []) dX2_look_46 lkX2_ownBlocks ml_X2_52 imX2_ownBlocks seX2_ownBlocks rfl rfl (hG.m0 (by decide)) rfl (Nat.le_of_ble_eq_true rfl) rfl (sX2_ownBlocks hG hq6) ?_
          refine am_if_ne (tgt := 54) dX2_look_49 rfl (fun c => ?_) (fun c => ?_)
          · rw [if_neg c] at h
            refine am_aload_n dX2_look_54 rfl ?_
            obtain ⟨q7, hq7, h⟩ := am_bd h
            refine am_callVx (i := 0) (j := 21) (as := []) (rest := []) dX2_look_55 lkX2_hasWrongMap ml_X2_55 imX2_hasWrongMap seX2_hasWrongMap rfl rfl (hG.m0 (by decide)) rfl (Nat.le_of_ble_eq_true rfl) rfl (sX2_hasWrongMap hG hq7) ?_
            refine am_if_eq (tgt := 66) dX2_look_58 rfl (fun c => ?_) (fun c => ?_)
            · rw [if_pos c] at h
              refine am_iconst (v := nI 0) dX2_look_66 (by decide) ?_
              exact am_lwJ (lo' := [none, none]) trivial (tX2_look_67 hG h)
            · rw [if_neg c] at h
              refine am_bipush (v := nI 6) dX2_look_61 (by decide) ?_
              refine am_goto (tgt := 67) dX2_look_63 rfl ?_
              exact am_lwJ (lo' := [none, none]) trivial (tX2_look_67 hG h)
          · rw [if_pos c] at h
            refine am_iconst (v := nI 5) dX2_look_52 (by decide) ?_
            cases h
            exact am_iret dX2_look_53 rfl rfl ⟨rfl, rfl⟩
        · rw [if_neg c] at h
          refine am_iconst (v := nI 4) dX2_look_43 (by decide) ?_
          cases h
          exact am_iret dX2_look_44 rfl rfl ⟨rfl, rfl⟩
      · rw [if_neg c] at h
        refine am_iconst (v := nI 3) dX2_look_34 (by decide) ?_
        cases h
        exact am_iret dX2_look_35 rfl rfl ⟨rfl, rfl⟩
    · rw [if_neg c] at h
      refine am_iconst (v := nI 2) dX2_look_25 (by decide) ?_
      cases h
      exact am_iret dX2_look_26 rfl rfl ⟨rfl, rfl⟩
  · rw [if_neg c] at h
    refine am_iconst (v := nI 1) dX2_look_16 (by decide) ?_
    cases h
    exact am_iret dX2_look_17 rfl rfl ⟨rfl, rfl⟩
def gX2_look (n : Nat) (I : am_I) : Option (Int32 × am_I) := bX2_look_0 n I
theorem sX2_look {G : am_G} (hG : am_ok G) {d : Nat} {I : am_I} {r : Int32 × am_I} (h : gX2_look G.2.2.2.1 I = some r) : am_C G (d + 6) mX2_look [.inr (0, 21), .inr (0, 2)] I (am_E (some r.1) r.2) :=
  am_of (by decide +kernel) hG.nd (Nat.le_of_ble_eq_true rfl) (am_lwJ (lo' := [some (.inr (0, 21)), some (.inr (0, 2))]) ⟨rfl, rfl, trivial⟩ (tX2_look_0 hG h))
def bX10_about_0 (n : Nat) (l1 : Int32) (I : am_I) : Option ((Option Int32 ⊕ Nat) × am_I) := if l1 = nI 0 then (some (.inl (some (I 0 0 7)), I)) else (if l1 = nI 1 then (some (.inl (some (I 0 9 3)), I)) else (if l1 = nI 2 then (some (.inl (some (I 0 9 4)), I)) else (if l1 = nI 3 then (some (.inl (some (I 0 0 8)), I)) else (if l1 = nI 4 then (some (.inl (some (I 0 13 1)), I)) else (if l1 = nI 5 then (some (.inl (some (I 0 0 9)), I)) else (if l1 = nI 6 then (some (.inl (some (nI n)), I)) else (if l1 = nI 7 then ((gX10_usedByMaps n (nI 1) I).bind (fun q1 => some (.inl (some q1.1), q1.2))) else (if l1 = nI 8 then ((gX10_usedByMaps n (nI 0) I).bind (fun q2 => some (.inl (some q2.1), q2.2))) else (if l1 = nI 9 then ((gX2_look n I).bind (fun q3 => some (.inl (some q3.1), q3.2))) else (some (.inr 125, I)))))))))))
theorem tX10_about_0 {G : am_G} (hG : am_ok G) {d : Nat} {l1 : Int32} {I : am_I} {r : (Option Int32 ⊕ Nat) × am_I} (h : bX10_about_0 G.2.2.2.1 l1  I = some r) : am_J G (d + 7) mX10_about (fun pc _ st J => st = [] ∧ r = (.inr pc, J)) (fun q J => r = (.inl q, J)) 0 [some (.inr (0, 0)), some (.inl l1)] [] I := by
  unfold bX10_about_0 at h
  refine am_iload_n dX10_about_0 rfl ?_
  rcases am_sw 9 l1 with ⟨m, hm, hx⟩ | hx
  · match m, hm, hx with
    | 0, _, hx =>
      rw [if_pos hx] at h
      refine am_tabIn (off := 55) (tgt := 56) dX10_about_1 (by rw [hx]; decide) (by rw [hx]; decide) (by rw [hx]; rfl) rfl ?_
      refine am_aload_n dX10_about_56 rfl ?_
      refine am_get (v := .inl (I 0 0 7)) dX10_about_57 fl_10_99 (hG.m0 (by decide)) rfl ?_
      cases h
      exact am_iret dX10_about_60 rfl rfl rfl
    | 1, _, hx =>
      rw [if_neg (show ¬ l1 = nI 0 by rw [hx]; decide)] at h
      rw [if_pos hx] at h
      refine am_tabIn (off := 60) (tgt := 61) dX10_about_1 (by rw [hx]; decide) (by rw [hx]; decide) (by rw [hx]; rfl) rfl ?_
      refine am_aload_n dX10_about_61 rfl ?_
      refine am_get (v := .inr (0, 9)) dX10_about_62 fl_10_36 (hG.m0 (by decide)) rfl ?_
      refine am_get (v := .inl (I 0 9 3)) dX10_about_65 fl_10_276 (hG.m0 (by decide)) rfl ?_
      cases h
      exact am_iret dX10_about_68 rfl rfl rfl
    | 2, _, hx =>
      rw [if_neg (show ¬ l1 = nI 0 by rw [hx]; decide), if_neg (show ¬ l1 = nI 1 by rw [hx]; decide)] at h
      rw [if_pos hx] at h
      refine am_tabIn (off := 68) (tgt := 69) dX10_about_1 (by rw [hx]; decide) (by rw [hx]; decide) (by rw [hx]; rfl) rfl ?_
      refine am_aload_n dX10_about_69 rfl ?_
      refine am_get (v := .inr (0, 9)) dX10_about_70 fl_10_36 (hG.m0 (by decide)) rfl ?_
      refine am_get (v := .inl (I 0 9 4)) dX10_about_73 fl_10_303 (hG.m0 (by decide)) rfl ?_
      cases h
      exact am_iret dX10_about_76 rfl rfl rfl
    | 3, _, hx =>
      rw [if_neg (show ¬ l1 = nI 0 by rw [hx]; decide), if_neg (show ¬ l1 = nI 1 by rw [hx]; decide), if_neg (show ¬ l1 = nI 2 by rw [hx]; decide)] at h
      rw [if_pos hx] at h
      refine am_tabIn (off := 76) (tgt := 77) dX10_about_1 (by rw [hx]; decide) (by rw [hx]; decide) (by rw [hx]; rfl) rfl ?_
      refine am_aload_n dX10_about_77 rfl ?_
      refine am_get (v := .inl (I 0 0 8)) dX10_about_78 fl_10_306 (hG.m0 (by decide)) rfl ?_
      cases h
      exact am_iret dX10_about_81 rfl rfl rfl
    | 4, _, hx =>
      rw [if_neg (show ¬ l1 = nI 0 by rw [hx]; decide), if_neg (show ¬ l1 = nI 1 by rw [hx]; decide), if_neg (show ¬ l1 = nI 2 by rw [hx]; decide), if_neg (show ¬ l1 = nI 3 by rw [hx]; decide)] at h
      rw [if_pos hx] at h
      refine am_tabIn (off := 81) (tgt := 82) dX10_about_1 (by rw [hx]; decide) (by rw [hx]; decide) (by rw [hx]; rfl) rfl ?_
      refine am_aload_n dX10_about_82 rfl ?_
      refine am_get (v := .inr (0, 13)) dX10_about_83 fl_10_43 (hG.m0 (by decide)) rfl ?_
      refine am_get (v := .inl (I 0 13 1)) dX10_about_86 fl_10_121 (hG.m0 (by decide)) rfl ?_
      cases h
      exact am_iret dX10_about_89 rfl rfl rfl
    | 5, _, hx =>
      rw [if_neg (show ¬ l1 = nI 0 by rw [hx]; decide), if_neg (show ¬ l1 = nI 1 by rw [hx]; decide), if_neg (show ¬ l1 = nI 2 by rw [hx]; decide), if_neg (show ¬ l1 = nI 3 by rw [hx]; decide), if_neg (show ¬ l1 = nI 4 by rw [hx]; decide)] at h
      rw [if_pos hx] at h
      refine am_tabIn (off := 89) (tgt := 90) dX10_about_1 (by rw [hx]; decide) (by rw [hx]; decide) (by rw [hx]; rfl) rfl ?_
      refine am_aload_n dX10_about_90 rfl ?_
      refine am_get (v := .inl (I 0 0 9)) dX10_about_91 fl_10_149 (hG.m0 (by decide)) rfl ?_
      cases h
      exact am_iret dX10_about_94 rfl rfl rfl
    | 6, _, hx =>
      rw [if_neg (show ¬ l1 = nI 0 by rw [hx]; decide), if_neg (show ¬ l1 = nI 1 by rw [hx]; decide), if_neg (show ¬ l1 = nI 2 by rw [hx]; decide), if_neg (show ¬ l1 = nI 3 by rw [hx]; decide), if_neg (show ¬ l1 = nI 4 by rw [hx]; decide), if_neg (show ¬ l1 = nI 5 by rw [hx]; decide)] at h
      rw [if_pos hx] at h
      refine am_tabIn (off := 94) (tgt := 95) dX10_about_1 (by rw [hx]; decide) (by rw [hx]; decide) (by rw [hx]; rfl) rfl ?_
      refine am_aload_n dX10_about_95 rfl ?_
      refine am_get (v := .inr (0, 2)) dX10_about_96 fl_10_19 (hG.m0 (by decide)) rfl ?_
      refine am_alen3 dX10_about_99 (hG.m0 (by decide)) rfl ?_
      cases h
      exact am_iret dX10_about_100 rfl rfl rfl
    | 7, _, hx =>
      rw [if_neg (show ¬ l1 = nI 0 by rw [hx]; decide), if_neg (show ¬ l1 = nI 1 by rw [hx]; decide), if_neg (show ¬ l1 = nI 2 by rw [hx]; decide), if_neg (show ¬ l1 = nI 3 by rw [hx]; decide), if_neg (show ¬ l1 = nI 4 by rw [hx]; decide), if_neg (show ¬ l1 = nI 5 by rw [hx]; decide), if_neg (show ¬ l1 = nI 6 by rw [hx]; decide)] at h
      rw [if_pos hx] at h
      refine am_tabIn (off := 100) (tgt := 101) dX10_about_1 (by rw [hx]; decide) (by rw [hx]; decide) (by rw [hx]; rfl) rfl ?_
      refine am_aload_n dX10_about_101 rfl ?_
      refine am_iconst (v := nI 1) dX10_about_102 (by decide) ?_
      obtain ⟨q1, hq1, h⟩ := am_bd h
      refine am_callVx (i := 0) (j := 0) (as := [.inl (nI 1)]) (rest := []) dX10_about_103 lkX10_usedByMaps ml_X10_309 imX10_usedByMaps seX10_usedByMaps rfl rfl (hG.m0 (by decide)) rfl (Nat.le_of_ble_eq_true rfl) rfl (sX10_usedByMaps hG hq1) ?_
      cases h
      exact am_iret dX10_about_106 rfl rfl rfl
    | 8, _, hx =>
      rw [if_neg (show ¬ l1 = nI 0 by rw [hx]; decide), if_neg (show ¬ l1 = nI 1 by rw [hx]; decide), if_neg (show ¬ l1 = nI 2 by rw [hx]; decide), if_neg (show ¬ l1 = nI 3 by rw [hx]; decide), if_neg (show ¬ l1 = nI 4 by rw [hx]; decide), if_neg (show ¬ l1 = nI 5 by rw [hx]; decide), if_neg (show ¬ l1 = nI 6 by rw [hx]; decide), if_neg (show ¬ l1 = nI 7 by rw [hx]; decide)] at h
      rw [if_pos hx] at h
      refine am_tabIn (off := 106) (tgt := 107) dX10_about_1 (by rw [hx]; decide) (by rw [hx]; decide) (by rw [hx]; rfl) rfl ?_
      refine am_aload_n dX10_about_107 rfl ?_
      refine am_iconst (v := nI 0) dX10_about_108 (by decide) ?_
      obtain ⟨q2, hq2, h⟩ := am_bd h
      refine am_callVx (i := 0) (j := 0) (as := [.inl (nI 0)]) (rest := []) dX10_about_109 lkX10_usedByMaps ml_X10_309 imX10_usedByMaps seX10_usedByMaps rfl rfl (hG.m0 (by decide)) rfl (Nat.le_of_ble_eq_true rfl) rfl (sX10_usedByMaps hG hq2) ?_
      cases h
      exact am_iret dX10_about_112 rfl rfl rfl
    | 9, _, hx =>
      rw [if_neg (show ¬ l1 = nI 0 by rw [hx]; decide), if_neg (show ¬ l1 = nI 1 by rw [hx]; decide), if_neg (show ¬ l1 = nI 2 by rw [hx]; decide), if_neg (show ¬ l1 = nI 3 by rw [hx]; decide), if_neg (show ¬ l1 = nI 4 by rw [hx]; decide), if_neg (show ¬ l1 = nI 5 by rw [hx]; decide), if_neg (show ¬ l1 = nI 6 by rw [hx]; decide), if_neg (show ¬ l1 = nI 7 by rw [hx]; decide), if_neg (show ¬ l1 = nI 8 by rw [hx]; decide)] at h
      rw [if_pos hx] at h
      refine am_tabIn (off := 112) (tgt := 113) dX10_about_1 (by rw [hx]; decide) (by rw [hx]; decide) (by rw [hx]; rfl) rfl ?_
      refine am_aload_n dX10_about_113 rfl ?_
      refine am_get (v := .inr (0, 21)) dX10_about_114 fl_10_61 (hG.m0 (by decide)) rfl ?_
      refine am_aload_n dX10_about_117 rfl ?_
      refine am_get (v := .inr (0, 2)) dX10_about_118 fl_10_19 (hG.m0 (by decide)) rfl ?_
      obtain ⟨q3, hq3, h⟩ := am_bd h
      refine am_callVx (i := 0) (j := 21) (as := [.inr (0, 2)]) (rest := []) dX10_about_121 lkX2_look ml_X10_313 imX2_look seX2_look rfl rfl (hG.m0 (by decide)) rfl (Nat.le_of_ble_eq_true rfl) rfl (sX2_look hG hq3) ?_
      cases h
      exact am_iret dX10_about_124 rfl rfl rfl
    | m + 10, hm, _ => exact absurd hm (by omega)
  · rw [if_neg (am_swd (k := 0) hx (by decide) (by decide)), if_neg (am_swd (k := 1) hx (by decide) (by decide)), if_neg (am_swd (k := 2) hx (by decide) (by decide)), if_neg (am_swd (k := 3) hx (by decide) (by decide)), if_neg (am_swd (k := 4) hx (by decide) (by decide)), if_neg (am_swd (k := 5) hx (by decide) (by decide)), if_neg (am_swd (k := 6) hx (by decide) (by decide)), if_neg (am_swd (k := 7) hx (by decide) (by decide)), if_neg (am_swd (k := 8) hx (by decide) (by decide)), if_neg (am_swd (k := 9) hx (by decide) (by decide))] at h
    refine am_tabOut (tgt := 125) dX10_about_1 (by omega) rfl ?_
    cases h
    exact am_exit ⟨rfl, rfl⟩
def gX10_about (n : Nat) (l1 : Int32) (I : am_I) : Option ((Option Int32 ⊕ Nat) × am_I) := bX10_about_0 n l1 I
theorem sX10_about {G : am_G} (hG : am_ok G) {d : Nat} {l1 : Int32} {I : am_I} {r : (Option Int32 ⊕ Nat) × am_I} (h : gX10_about G.2.2.2.1 l1 I = some r) : am_J G (d + 7) mX10_about (fun pc _ st J => st = [] ∧ r = (.inr pc, J)) (fun q J => r = (.inl q, J)) 0 (([.inr (0, 0), .inl l1] : List am_V).map some ++ List.replicate (2 - 2) none) [] I :=
  am_lwJ (lo' := [some (.inr (0, 0)), some (.inl l1)]) ⟨rfl, rfl, trivial⟩ (tX10_about_0 hG h)
