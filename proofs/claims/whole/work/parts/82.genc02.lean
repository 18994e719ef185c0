def bX9_giveInodeBack_102 (n : Nat) (I : am_I) : Option (am_I) := some I
theorem tX9_giveInodeBack_102 {G : am_G} (hG : am_ok G) {d : Nat} {I : am_I} {r : am_I} (h : bX9_giveInodeBack_102 G.2.2.2.1  I = some r) : am_J G (d + 4) mX9_giveInodeBack am_no (am_E none r) 102 [none, none, none, none, none] [] I := by
  unfold bX9_giveInodeBack_102 at h
  cases h
  exact am_vret dX9_giveInodeBack_102 rfl ⟨rfl, rfl⟩
def bX9_giveInodeBack_49 (n : Nat) (l1 : Int32) (l2 : Int32) (I : am_I) : Option (am_I) := (gX10_mapResource n (l1 / (nI 16)) I).bind (fun q1 => (gX9_meet n q1.1 (nI 2) q1.2).bind (fun q2 => if q2.1 = 0 then (bX9_giveInodeBack_102 n q2.2) else ((gX10_mapBlock n (l1 / (nI 16)) q2.2).bind (fun q3 => (gX10_mapBlock n (l1 / (nI 16)) q3.2).bind (fun q4 => (gX9_read n q4.1 (nI 0) q4.2).bind (fun q5 => (gX9_set n q3.1 (nI 0) (q5.1 &&& (((nI 1) <<< ((l1 - l1 / (nI 16) * (nI 16)) &&& 31)) ^^^ (-1 : Int32))) q5.2).bind (fun q6 => (gX9_clear n l2 q6).bind (fun q7 => bX9_giveInodeBack_102 n q7))))))))
theorem tX9_giveInodeBack_49 {G : am_G} (hG : am_ok G) {d : Nat} {l1 : Int32} {l2 : Int32} {I : am_I} {r : am_I} (h : bX9_giveInodeBack_49 G.2.2.2.1 l1 l2  I = some r) : am_J G (d + 4) mX9_giveInodeBack am_no (am_E none r) 49 [some (.inr (0, 15)), some (.inl l1), some (.inl l2), none, none] [] I := by
  unfold bX9_giveInodeBack_49 at h
  refine am_iload_n dX9_giveInodeBack_49 rfl ?_
  refine am_bipush (v := nI 16) dX9_giveInodeBack_50 (by decide) ?_
  refine am_idiv dX9_giveInodeBack_52 (by decide) ?_
  refine am_istore dX9_giveInodeBack_53 (by decide) ?_
  refine am_aload_n dX9_giveInodeBack_55 rfl ?_
  refine am_iload dX9_giveInodeBack_56 rfl ?_
  obtain ⟨q1, hq1, h⟩ := am_bd h
  refine am_callSNx (as := [.inl (l1 / (nI 16))]) (rest := [.inr (0, 15)]) dX9_giveInodeBack_58 lkX10_mapResource nl_X9_208 isX10_mapResource rfl (Nat.le_of_ble_eq_true rfl) rfl (sX10_mapResource hG hq1) ?_
  refine am_iconst (v := nI 2) dX9_giveInodeBack_61 (by decide) ?_
  obtain ⟨q2, hq2, h⟩ := am_bd h
  refine am_callVx (i := 0) (j := 15) (as := [.inl q1.1, .inl (nI 2)]) (rest := []) dX9_giveInodeBack_62 lkX9_meet ml_X9_211 imX9_meet seX9_meet rfl rfl (hG.m0 (by decide)) rfl (Nat.le_of_ble_eq_true rfl) rfl (sX9_meet hG hq2) ?_
  refine am_if_eq (tgt := 102) dX9_giveInodeBack_65 rfl (fun c => ?_) (fun c => ?_)
  · rw [if_pos c] at h
    exact am_lwJ (lo' := [none, none, none, none, none]) trivial (tX9_giveInodeBack_102 hG h)
  · rw [if_neg c] at h
    refine am_aload_n dX9_giveInodeBack_68 rfl ?_
    refine am_iload dX9_giveInodeBack_69 rfl ?_
    obtain ⟨q3, hq3, h⟩ := am_bd h
    refine am_callSNx (as := [.inl (l1 / (nI 16))]) (rest := [.inr (0, 15)]) dX9_giveInodeBack_71 lkX10_mapBlock nl_X9_214 isX10_mapBlock rfl (Nat.le_of_ble_eq_true rfl) rfl (sX10_mapBlock hG hq3) ?_
    refine am_iconst (v := nI 0) dX9_giveInodeBack_74 (by decide) ?_
    refine am_aload_n dX9_giveInodeBack_75 rfl ?_
    refine am_iload dX9_giveInodeBack_76 rfl ?_
    obtain ⟨q4, hq4, h⟩ := am_bd h
    refine am_callSNx (as := [.inl (l1 / (nI 16))]) (rest := [.inr (0, 15), .inl (nI 0), .inl q3.1, .inr (0, 15)]) dX9_giveInodeBack_78 lkX10_mapBlock nl_X9_214 isX10_mapBlock rfl (Nat.le_of_ble_eq_true rfl) rfl (sX10_mapBlock hG hq4) ?_
    refine am_iconst (v := nI 0) dX9_giveInodeBack_81 (by decide) ?_
    obtain ⟨q5, hq5, h⟩ := am_bd h
    refine am_callVx (i := 0) (j := 15) (as := [.inl q4.1, .inl (nI 0)]) (rest := [.inl (nI 0), .inl q3.1, .inr (0, 15)]) dX9_giveInodeBack_82 lkX9_read ml_X9_197 imX9_read seX9_read rfl rfl (hG.m0 (by decide)) rfl (Nat.le_of_ble_eq_true rfl) rfl (sX9_read hG hq5) ?_
    refine am_iconst (v := nI 1) dX9_giveInodeBack_85 (by decide) ?_
    refine am_iload_n dX9_giveInodeBack_86 rfl ?_
    refine am_bipush (v := nI 16) dX9_giveInodeBack_87 (by decide) ?_
    refine am_irem dX9_giveInodeBack_89 (by decide) ?_
    refine am_ishl dX9_giveInodeBack_90 ?_
    refine am_iconst (v := (-1 : Int32)) dX9_giveInodeBack_91 (by decide) ?_
    refine am_ixor dX9_giveInodeBack_92 ?_
    refine am_iand dX9_giveInodeBack_93 ?_
    obtain ⟨q6, hq6, h⟩ := am_bd h
    refine am_callVe (i := 0) (j := 15) (as := [.inl q3.1, .inl (nI 0), .inl (q5.1 &&& (((nI 1) <<< ((l1 - l1 / (nI 16) * (nI 16)) &&& 31)) ^^^ (-1 : Int32)))]) (rest := []) dX9_giveInodeBack_94 lkX9_set ml_X9_204 imX9_set seX9_set rfl rfl (hG.m0 (by decide)) rfl (Nat.le_of_ble_eq_true rfl) rfl (sX9_set hG hq6) ?_
    refine am_aload_n dX9_giveInodeBack_97 rfl ?_
    refine am_iload_n dX9_giveInodeBack_98 rfl ?_
    obtain ⟨q7, hq7, h⟩ := am_bd h
    refine am_callVe (i := 0) (j := 15) (as := [.inl l2]) (rest := []) dX9_giveInodeBack_99 lkX9_clear ml_X9_222 imX9_clear seX9_clear rfl rfl (hG.m0 (by decide)) rfl (Nat.le_of_ble_eq_true rfl) rfl (sX9_clear hG hq7) ?_
    exact am_lwJ (lo' := [none, none, none, none, none]) trivial (tX9_giveInodeBack_102 hG h)
def bX9_giveInodeBack_48 (n : Nat) (I : am_I) : Option (am_I) := some I
theorem tX9_giveInodeBack_48 {G : am_G} (hG : am_ok G) {d : Nat} {I : am_I} {r : am_I} (h : bX9_giveInodeBack_48 G.2.2.2.1  I = some r) : am_J G (d + 4) mX9_giveInodeBack am_no (am_E none r) 48 [none, none, none, none, none] [] I := by
  unfold bX9_giveInodeBack_48 at h
  cases h
  exact am_vret dX9_giveInodeBack_48 rfl ⟨rfl, rfl⟩
def bX9_giveInodeBack_0 (n : Nat) (l1 : Int32) (I : am_I) : Option (am_I) := (gX10_inodeBlock n l1 I).bind (fun q1 => (gX9_givePlacesBack n q1.1 (nI 3) (nI 11) q1.2).bind (fun q2 => if q2.1 = 0 then (some q2.2) else ((gX9_read n q1.1 (nI 11) q2.2).bind (fun q3 => if q3.1 = 0 then (bX9_giveInodeBack_49 n l1 q1.1 q3.2) else ((gX9_givePlacesBack n q3.1 (nI 0) (nI 16) q3.2).bind (fun q4 => if q4.1 = 0 then (bX9_giveInodeBack_48 n q4.2) else ((gX9_giveBack n q3.1 q4.2).bind (fun q5 => if q5.1 = 0 then (bX9_giveInodeBack_48 n q5.2) else (bX9_giveInodeBack_49 n l1 q1.1 q5.2)))))))))
theorem tX9_giveInodeBack_0 {G : am_G} (hG : am_ok G) {d : Nat} {l1 : Int32} {I : am_I} {r : am_I} (h : bX9_giveInodeBack_0 G.2.2.2.1 l1  I = some r) : am_J G (d + 4) mX9_giveInodeBack am_no (am_E none r) 0 [some (.inr (0, 15)), some (.inl l1), none, none, none] [] I := by
  unfold bX9_giveInodeBack_0 at h
  refine am_iload_n dX9_giveInodeBack_0 rfl ?_
  obtain ⟨q1, hq1, h⟩ := am_bd h
  refine am_callSNx (as := [.inl l1]) (rest := []) dX9_giveInodeBack_1 lkX10_inodeBlock nl_X9_193 isX10_inodeBlock rfl (Nat.le_of_ble_eq_true rfl) rfl (sX10_inodeBlock hG hq1) ?_
  refine am_istore_n dX9_giveInodeBack_4 (by decide) ?_
  refine am_aload_n dX9_giveInodeBack_5 rfl ?_
  refine am_iload_n dX9_giveInodeBack_6 rfl ?_
  refine am_iconst (v := nI 3) dX9_giveInodeBack_7 (by decide) ?_
  refine am_bipush (v := nI 11) dX9_giveInodeBack_8 (by decide) ?_
  obtain ⟨q2, hq2, h⟩ := am_bd h
  refine am_callVx (i := 0) (j := 15) (as := [.inl q1.1, .inl (nI 3), .inl (nI 11)]) (rest := []) dX9_giveInodeBack_10 lkX9_givePlacesBack ml_X9_241 imX9_givePlacesBack seX9_givePlacesBack rfl rfl (hG.m0 (by decide)) rfl (Nat.le_of_ble_eq_true rfl) rfl (sX9_givePlacesBack hG hq2) ?_
  refine am_if_ne (tgt := 17) dX9_giveInodeBack_13 rfl (fun c => ?_) (fun c => ?_)
  · rw [if_neg c] at h
    refine am_aload_n dX9_giveInodeBack_17 rfl ?_
    refine am_iload_n dX9_giveInodeBack_18 rfl ?_
    refine am_bipush (v := nI 11) dX9_giveInodeBack_19 (by decide) ?_
    obtain ⟨q3, hq3, h⟩ := am_bd h
    refine am_callVx (i := 0) (j := 15) (as := [.inl q1.1, .inl (nI 11)]) (rest := []) dX9_giveInodeBack_21 lkX9_read ml_X9_197 imX9_read seX9_read rfl rfl (hG.m0 (by decide)) rfl (Nat.le_of_ble_eq_true rfl) rfl (sX9_read hG hq3) ?_
    refine am_istore_n dX9_giveInodeBack_24 (by decide) ?_
    refine am_iload_n dX9_giveInodeBack_25 rfl ?_
    refine am_if_eq (tgt := 49) dX9_giveInodeBack_26 rfl (fun c => ?_) (fun c => ?_)
    · rw [if_pos c] at h
      exact am_lwJ (lo' := [some (.inr (0, 15)), some (.inl l1), some (.inl q1.1), none, none]) ⟨rfl, rfl, rfl, trivial⟩ (tX9_giveInodeBack_49 hG h)
    · rw [if_neg c] at h
      refine am_aload_n dX9_giveInodeBack_29 rfl ?_
      refine am_iload_n dX9_giveInodeBack_30 rfl ?_
      refine am_iconst (v := nI 0) dX9_giveInodeBack_31 (by decide) ?_
      refine am_bipush (v := nI 16) dX9_giveInodeBack_32 (by decide) ?_
      obtain ⟨q4, hq4, h⟩ := am_bd h
      refine am_callVx (i := 0) (j := 15) (as := [.inl q3.1, .inl (nI 0), .inl (nI 16)]) (rest := []) dX9_giveInodeBack_34 lkX9_givePlacesBack ml_X9_241 imX9_givePlacesBack seX9_givePlacesBack rfl rfl (hG.m0 (by decide)) rfl (Nat.le_of_ble_eq_true rfl) rfl (sX9_givePlacesBack hG hq4) ?_
      refine am_if_eq (tgt := 48) dX9_giveInodeBack_37 rfl (fun c => ?_) (fun c => ?_)
      · rw [if_pos c] at h
        exact am_lwJ (lo' := [none, none, none, none, none]) trivial (tX9_giveInodeBack_48 hG h)
      · rw [if_neg c] at h
        refine am_aload_n dX9_giveInodeBack_40 rfl ?_
        refine am_iload_n dX9_giveInodeBack_41 rfl ?_
        obtain ⟨q5, hq5, h⟩ := am_bd h
        refine am_callVx (i := 0) (j := 15) (as := [.inl q3.1]) (rest := []) dX9_giveInodeBack_42 lkX9_giveBack ml_X9_238 imX9_giveBack seX9_giveBack rfl rfl (hG.m0 (by decide)) rfl (Nat.le_of_ble_eq_true rfl) rfl (sX9_giveBack hG hq5) ?_
        refine am_if_ne (tgt := 49) dX9_giveInodeBack_45 rfl (fun c => ?_) (fun c => ?_)
        · rw [if_neg c] at h
          exact am_lwJ (lo' := [some (.inr (0, 15)), some (.inl l1), some (.inl q1.1), none, none]) ⟨rfl, rfl, rfl, trivial⟩ (tX9_giveInodeBack_49 hG h)
        · rw [if_pos c] at h
          exact am_lwJ (lo' := [none, none, none, none, none]) trivial (tX9_giveInodeBack_48 hG h)
  · rw [if_pos c] at h
    cases h
    exact am_vret dX9_giveInodeBack_16 rfl ⟨rfl, rfl⟩
def gX9_giveInodeBack (n : Nat) (l1 : Int32) (I : am_I) : Option (am_I) := bX9_giveInodeBack_0 n l1 I
theorem sX9_giveInodeBack {G : am_G} (hG : am_ok G) {d : Nat} {l1 : Int32} {I : am_I} {r : am_I} (h : gX9_giveInodeBack G.2.2.2.1 l1 I = some r) : am_C G (d + 4) mX9_giveInodeBack [.inr (0, 15), .inl l1] I (am_E none r) :=
  am_of (by decide +kernel) hG.nd (Nat.le_of_ble_eq_true rfl) (am_lwJ (lo' := [some (.inr (0, 15)), some (.inl l1), none, none, none]) ⟨rfl, rfl, trivial⟩ (tX9_giveInodeBack_0 hG h))
def bX9_putEntry_111 (n : Nat) (I : am_I) : Option (am_I) := some I
theorem tX9_putEntry_111 {G : am_G} (hG : am_ok G) {d : Nat} {I : am_I} {r : am_I} (h : bX9_putEntry_111 G.2.2.2.1  I = some r) : am_J G (d + 4) mX9_putEntry am_no (am_E none r) 111 [none, none, none, none] [] I := by
  unfold bX9_putEntry_111 at h
  cases h
  exact am_vret dX9_putEntry_111 rfl ⟨rfl, rfl⟩
def bX9_putEntry_34 (n : Nat) (l1 : Int32) (l2 : Int32) (I : am_I) : Option (am_I) := if l1 < (nI 384) then ((gX9_reach n (I 0 15 13) l1 I).bind (fun q1 => if q1.1 = 0 then (some q1.2) else ((gX9_set n q1.1 (l1 - l1 / (nI 16) * (nI 16)) (q1.2 0 15 14) q1.2).bind (fun q2 => (gX9_set n q1.1 ((l1 - l1 / (nI 16) * (nI 16)) + (nI 1)) (q2 0 15 15) q2).bind (fun q3 => if l2 = 0 then (bX9_putEntry_111 n q3) else ((gX10_inodeBlock n (q3 0 15 13) q3).bind (fun q4 => (gX9_set n q4.1 (nI 2) (l1 + (nI 2)) q4.2).bind (fun q5 => bX9_putEntry_111 n q5)))))))) else ((gX9_fail n (-7 : Int32) I).bind (fun q6 => some q6.2))
theorem tX9_putEntry_34 {G : am_G} (hG : am_ok G) {d : Nat} {l1 : Int32} {l2 : Int32} {I : am_I} {r : am_I} (h : bX9_putEntry_34 G.2.2.2.1 l1 l2  I = some r) : am_J G (d + 4) mX9_putEntry am_no (am_E none r) 34 [some (.inr (0, 15)), some (.inl l1), some (.inl l2), none] [] I := by
  unfold bX9_putEntry_34 at h
  refine am_iload_n dX9_putEntry_34 rfl ?_
  refine am_sipush (v := nI 384) dX9_putEntry_35 (by decide) ?_
  refine am_icmp_lt (tgt := 49) dX9_putEntry_38 rfl (fun c => ?_) (fun c => ?_)
  · rw [if_pos c] at h
    refine am_aload_n dX9_putEntry_49 rfl ?_
    refine am_aload_n dX9_putEntry_50 rfl ?_
    refine am_get (v := .inl (I 0 15 13)) dX9_putEntry_51 fl_9_48 (hG.m0 (by decide)) rfl ?_
    refine am_iload_n dX9_putEntry_54 rfl ?_
    obtain ⟨q1, hq1, h⟩ := am_bd h
    refine am_callVx (i := 0) (j := 15) (as := [.inl (I 0 15 13), .inl l1]) (rest := []) dX9_putEntry_55 lkX9_reach ml_X9_268 imX9_reach seX9_reach rfl rfl (hG.m0 (by decide)) rfl (Nat.le_of_ble_eq_true rfl) rfl (sX9_reach hG hq1) ?_
    refine am_istore_n dX9_putEntry_58 (by decide) ?_
    refine am_iload_n dX9_putEntry_59 rfl ?_
    refine am_if_ne (tgt := 64) dX9_putEntry_60 rfl (fun c => ?_) (fun c => ?_)
    · rw [if_neg c] at h
      refine am_aload_n dX9_putEntry_64 rfl ?_
      refine am_iload_n dX9_putEntry_65 rfl ?_
      refine am_iload_n dX9_putEntry_66 rfl ?_
      refine am_bipush (v := nI 16) dX9_putEntry_67 (by decide) ?_
      refine am_irem dX9_putEntry_69 (by decide) ?_
      refine am_aload_n dX9_putEntry_70 rfl ?_
      refine am_get (v := .inl (q1.2 0 15 14)) dX9_putEntry_71 fl_9_259 (hG.m0 (by decide)) rfl ?_
      obtain ⟨q2, hq2, h⟩ := am_bd h
      refine am_callVe (i := 0) (j := 15) (as := [.inl q1.1, .inl (l1 - l1 / (nI 16) * (nI 16)), .inl (q1.2 0 15 14)]) (rest := []) dX9_putEntry_74 lkX9_set ml_X9_204 imX9_set seX9_set rfl rfl (hG.m0 (by decide)) rfl (Nat.le_of_ble_eq_true rfl) rfl (sX9_set hG hq2) ?_
      refine am_aload_n dX9_putEntry_77 rfl ?_
      refine am_iload_n dX9_putEntry_78 rfl ?_
      refine am_iload_n dX9_putEntry_79 rfl ?_
      refine am_bipush (v := nI 16) dX9_putEntry_80 (by decide) ?_
      refine am_irem dX9_putEntry_82 (by decide) ?_
      refine am_iconst (v := nI 1) dX9_putEntry_83 (by decide) ?_
      refine am_iadd dX9_putEntry_84 ?_
      refine am_aload_n dX9_putEntry_85 rfl ?_
      refine am_get (v := .inl (q2 0 15 15)) dX9_putEntry_86 fl_9_262 (hG.m0 (by decide)) rfl ?_
      obtain ⟨q3, hq3, h⟩ := am_bd h
      refine am_callVe (i := 0) (j := 15) (as := [.inl q1.1, .inl ((l1 - l1 / (nI 16) * (nI 16)) + (nI 1)), .inl (q2 0 15 15)]) (rest := []) dX9_putEntry_89 lkX9_set ml_X9_204 imX9_set seX9_set rfl rfl (hG.m0 (by decide)) rfl (Nat.le_of_ble_eq_true rfl) rfl (sX9_set hG hq3) ?_
      refine am_iload_n dX9_putEntry_92 rfl ?_
      refine am_if_eq (tgt := 111) dX9_putEntry_93 rfl (fun c => ?_) (fun c => ?_)
      · rw [if_pos c] at h
        exact am_lwJ (lo' := [none, none, none, none]) trivial (tX9_putEntry_111 hG h)
      · rw [if_neg c] at h
        refine am_aload_n dX9_putEntry_96 rfl ?_
        refine am_aload_n dX9_putEntry_97 rfl ?_
        refine am_get (v := .inl (q3 0 15 13)) dX9_putEntry_98 fl_9_48 (hG.m0 (by decide)) rfl ?_
        obtain ⟨q4, hq4, h⟩ := am_bd h
        refine am_callSNx (as := [.inl (q3 0 15 13)]) (rest := [.inr (0, 15)]) dX9_putEntry_101 lkX10_inodeBlock nl_X9_193 isX10_inodeBlock rfl (Nat.le_of_ble_eq_true rfl) rfl (sX10_inodeBlock hG hq4) ?_
        refine am_iconst (v := nI 2) dX9_putEntry_104 (by decide) ?_
        refine am_iload_n dX9_putEntry_105 rfl ?_
        refine am_iconst (v := nI 2) dX9_putEntry_106 (by decide) ?_
        refine am_iadd dX9_putEntry_107 ?_
        obtain ⟨q5, hq5, h⟩ := am_bd h
        refine am_callVe (i := 0) (j := 15) (as := [.inl q4.1, .inl (nI 2), .inl (l1 + (nI 2))]) (rest := []) dX9_putEntry_108 lkX9_set ml_X9_204 imX9_set seX9_set rfl rfl (hG.m0 (by decide)) rfl (Nat.le_of_ble_eq_true rfl) rfl (sX9_set hG hq5) ?_
        exact am_lwJ (lo' := [none, none, none, none]) trivial (tX9_putEntry_111 hG h)
    · rw [if_pos c] at h
      cases h
      exact am_vret dX9_putEntry_63 rfl ⟨rfl, rfl⟩
  · rw [if_neg c] at h
    refine am_aload_n dX9_putEntry_41 rfl ?_
    refine am_bipush (v := (-7 : Int32)) dX9_putEntry_42 (by decide) ?_
    obtain ⟨q6, hq6, h⟩ := am_bd h
    refine am_callVx (i := 0) (j := 15) (as := [.inl (-7 : Int32)]) (rest := []) dX9_putEntry_44 lkX9_fail ml_X9_225 imX9_fail seX9_fail rfl rfl (hG.m0 (by decide)) rfl (Nat.le_of_ble_eq_true rfl) rfl (sX9_fail hG hq6) ?_
    refine am_pop dX9_putEntry_47 ?_
    cases h
    exact am_vret dX9_putEntry_48 rfl ⟨rfl, rfl⟩
def bX9_putEntry_20 (n : Nat) (l1 : Int32) (s0 : Int32) (I : am_I) : Option (am_I) := if s0 = 0 then (bX9_putEntry_34 n l1 s0 I) else ((gX9_sizeOf n (I 0 15 13) I).bind (fun q1 => bX9_putEntry_34 n q1.1 s0 q1.2))
theorem tX9_putEntry_20 {G : am_G} (hG : am_ok G) {d : Nat} {l1 : Int32} {s0 : Int32} {I : am_I} {r : am_I} (h : bX9_putEntry_20 G.2.2.2.1 l1 s0  I = some r) : am_J G (d + 4) mX9_putEntry am_no (am_E none r) 20 [some (.inr (0, 15)), some (.inl l1), none, none] [.inl s0] I := by
  unfold bX9_putEntry_20 at h
  refine am_istore_n dX9_putEntry_20 (by decide) ?_
  refine am_iload_n dX9_putEntry_21 rfl ?_
  refine am_if_eq (tgt := 34) dX9_putEntry_22 rfl (fun c => ?_) (fun c => ?_)
  · rw [if_pos c] at h
    exact am_lwJ (lo' := [some (.inr (0, 15)), some (.inl l1), some (.inl s0), none]) ⟨rfl, rfl, rfl, trivial⟩ (tX9_putEntry_34 hG h)
  · rw [if_neg c] at h
    refine am_aload_n dX9_putEntry_25 rfl ?_
    refine am_aload_n dX9_putEntry_26 rfl ?_
    refine am_get (v := .inl (I 0 15 13)) dX9_putEntry_27 fl_9_48 (hG.m0 (by decide)) rfl ?_
    obtain ⟨q1, hq1, h⟩ := am_bd h
    refine am_callVx (i := 0) (j := 15) (as := [.inl (I 0 15 13)]) (rest := []) dX9_putEntry_30 lkX9_sizeOf ml_X9_253 imX9_sizeOf seX9_sizeOf rfl rfl (hG.m0 (by decide)) rfl (Nat.le_of_ble_eq_true rfl) rfl (sX9_sizeOf hG hq1) ?_
    refine am_istore_n dX9_putEntry_33 (by decide) ?_
    exact am_lwJ (lo' := [some (.inr (0, 15)), some (.inl q1.1), some (.inl s0), none]) ⟨rfl, rfl, rfl, trivial⟩ (tX9_putEntry_34 hG h)
def bX9_putEntry_0 (n : Nat) (I : am_I) : Option (am_I) := (gX9_find n (I 0 15 13) (nI 0) I).bind (fun q1 => if q1.1 = (-1 : Int32) then (bX9_putEntry_20 n q1.1 (nI 1) q1.2) else (bX9_putEntry_20 n q1.1 (nI 0) q1.2))
theorem tX9_putEntry_0 {G : am_G} (hG : am_ok G) {d : Nat} {I : am_I} {r : am_I} (h : bX9_putEntry_0 G.2.2.2.1  I = some r) : am_J G (d + 4) mX9_putEntry am_no (am_E none r) 0 [some (.inr (0, 15)), none, none, none] [] I := by
  unfold bX9_putEntry_0 at h
  refine am_aload_n dX9_putEntry_0 rfl ?_
  refine am_aload_n dX9_putEntry_1 rfl ?_
  refine am_get (v := .inl (I 0 15 13)) dX9_putEntry_2 fl_9_48 (hG.m0 (by decide)) rfl ?_
  refine am_iconst (v := nI 0) dX9_putEntry_5 (by decide) ?_
  obtain ⟨q1, hq1, h⟩ := am_bd h
  refine am_callVx (i := 0) (j := 15) (as := [.inl (I 0 15 13), .inl (nI 0)]) (rest := []) dX9_putEntry_6 lkX9_find ml_X9_265 imX9_find seX9_find rfl rfl (hG.m0 (by decide)) rfl (Nat.le_of_ble_eq_true rfl) rfl (sX9_find hG hq1) ?_
  refine am_istore_n dX9_putEntry_9 (by decide) ?_
  refine am_iload_n dX9_putEntry_10 rfl ?_
  refine am_iconst (v := (-1 : Int32)) dX9_putEntry_11 (by decide) ?_
  refine am_icmp_ne (tgt := 19) dX9_putEntry_12 rfl (fun c => ?_) (fun c => ?_)
  · rw [if_neg c] at h
    refine am_iconst (v := nI 0) dX9_putEntry_19 (by decide) ?_
    exact am_lwJ (lo' := [some (.inr (0, 15)), some (.inl q1.1), none, none]) ⟨rfl, rfl, trivial⟩ (tX9_putEntry_20 hG h)
  · rw [if_pos c] at h
    refine am_iconst (v := nI 1) dX9_putEntry_15 (by decide) ?_
    refine am_goto (tgt := 20) dX9_putEntry_16 rfl ?_
    exact am_lwJ (lo' := [some (.inr (0, 15)), some (.inl q1.1), none, none]) ⟨rfl, rfl, trivial⟩ (tX9_putEntry_20 hG h)
def gX9_putEntry (n : Nat) (I : am_I) : Option (am_I) := bX9_putEntry_0 n I
theorem sX9_putEntry {G : am_G} (hG : am_ok G) {d : Nat} {I : am_I} {r : am_I} (h : gX9_putEntry G.2.2.2.1 I = some r) : am_C G (d + 4) mX9_putEntry [.inr (0, 15)] I (am_E none r) :=
  am_of (by decide +kernel) hG.nd (Nat.le_of_ble_eq_true rfl) (am_lwJ (lo' := [some (.inr (0, 15)), none, none, none]) ⟨rfl, trivial⟩ (tX9_putEntry_0 hG h))
def bX9_run_261 (n : Nat) (I : am_I) : Option (am_I) := some I
theorem tX9_run_261 {G : am_G} (hG : am_ok G) {d : Nat} {I : am_I} {r : am_I} (h : bX9_run_261 G.2.2.2.1  I = some r) : am_J G (d + 5) mX9_run am_no (am_E none r) 261 [none, none, none] [] I := by
  unfold bX9_run_261 at h
  cases h
  exact am_vret dX9_run_261 rfl ⟨rfl, rfl⟩
def bX9_run_249 (n : Nat) (I : am_I) : Option (am_I) := if (I 0 15 9) = 0 then (am_lt (am_up I 0 15 9 (nI 1)) (fun I1 => bX9_run_261 n I1)) else (bX9_run_261 n I)
theorem tX9_run_249 {G : am_G} (hG : am_ok G) {d : Nat} {I : am_I} {r : am_I} (h : bX9_run_249 G.2.2.2.1  I = some r) : am_J G (d + 5) mX9_run am_no (am_E none r) 249 [some (.inr (0, 15)), none, none] [] I := by
  unfold bX9_run_249 at h
  refine am_aload_n dX9_run_249 rfl ?_
  refine am_get (v := .inl (I 0 15 9)) dX9_run_250 fl_9_41 (hG.m0 (by decide)) rfl ?_
  refine am_if_ne (tgt := 261) dX9_run_253 rfl (fun c => ?_) (fun c => ?_)
  · rw [if_neg c] at h
    exact am_lwJ (lo' := [none, none, none]) trivial (tX9_run_261 hG h)
  · rw [if_pos c] at h
    refine am_aload_n dX9_run_256 rfl ?_
    refine am_iconst (v := nI 1) dX9_run_257 (by decide) ?_
    refine am_put (x := nI 1) dX9_run_258 fp_9_41 (hG.m0 (by decide)) (Nat.le_of_ble_eq_true rfl) rfl ?_
    obtain ⟨I1, hI1, h⟩ := am_lt_some h
    refine am_st10 hI1 ?_
    exact am_lwJ (lo' := [none, none, none]) trivial (tX9_run_261 hG h)
def bX9_run_228 (n : Nat) (I : am_I) : Option (am_I) := if (I 0 15 9) = 0 then ((gX10_isInode n (I 0 15 13) I).bind (fun q1 => if q1.1 = 0 then (bX9_run_249 n q1.2) else ((gX9_putEntry n q1.2).bind (fun q2 => bX9_run_249 n q2)))) else (bX9_run_249 n I)
theorem tX9_run_228 {G : am_G} (hG : am_ok G) {d : Nat} {I : am_I} {r : am_I} (h : bX9_run_228 G.2.2.2.1  I = some r) : am_J G (d + 5) mX9_run am_no (am_E none r) 228 [some (.inr (0, 15)), none, none] [] I := by
  unfold bX9_run_228 at h
  refine am_aload_n dX9_run_228 rfl ?_
  refine am_get (v := .inl (I 0 15 9)) dX9_run_229 fl_9_41 (hG.m0 (by decide)) rfl ?_
  refine am_if_ne (tgt := 249) dX9_run_232 rfl (fun c => ?_) (fun c => ?_)
  · rw [if_neg c] at h
    exact am_lwJ (lo' := [some (.inr (0, 15)), none, none]) ⟨rfl, trivial⟩ (tX9_run_249 hG h)
  · rw [if_pos c] at h
    refine am_aload_n dX9_run_235 rfl ?_
    refine am_get (v := .inl (I 0 15 13)) dX9_run_236 fl_9_48 (hG.m0 (by decide)) rfl ?_
    obtain ⟨q1, hq1, h⟩ := am_bd h
    refine am_callSNx (as := [.inl (I 0 15 13)]) (rest := []) dX9_run_239 lkX10_isInode nl_X9_96 isX10_isInode rfl (Nat.le_of_ble_eq_true rfl) rfl (sX10_isInode hG hq1) ?_
    refine am_if_eq (tgt := 249) dX9_run_242 rfl (fun c => ?_) (fun c => ?_)
    · rw [if_pos c] at h
      exact am_lwJ (lo' := [some (.inr (0, 15)), none, none]) ⟨rfl, trivial⟩ (tX9_run_249 hG h)
    · rw [if_neg c] at h
      refine am_aload_n dX9_run_245 rfl ?_
      obtain ⟨q2, hq2, h⟩ := am_bd h
      refine am_callVe (i := 0) (j := 15) (as := []) (rest := []) dX9_run_246 lkX9_putEntry ml_X9_104 imX9_putEntry seX9_putEntry rfl rfl (hG.m0 (by decide)) rfl (Nat.le_of_ble_eq_true rfl) rfl (sX9_putEntry hG hq2) ?_
      exact am_lwJ (lo' := [some (.inr (0, 15)), none, none]) ⟨rfl, trivial⟩ (tX9_run_249 hG h)
def bX9_run_203 (n : Nat) (I : am_I) : Option (am_I) := if (I 0 15 9) = 0 then ((gX10_isInode n (I 0 15 16) I).bind (fun q1 => if q1.1 = 0 then (bX9_run_228 n q1.2) else ((gX9_giveInodeBack n (q1.2 0 15 16) q1.2).bind (fun q2 => bX9_run_228 n q2)))) else (bX9_run_228 n I)
theorem tX9_run_203 {G : am_G} (hG : am_ok G) {d : Nat} {I : am_I} {r : am_I} (h : bX9_run_203 G.2.2.2.1  I = some r) : am_J G (d + 5) mX9_run am_no (am_E none r) 203 [some (.inr (0, 15)), none, none] [] I := by
  unfold bX9_run_203 at h
  refine am_aload_n dX9_run_203 rfl ?_
  refine am_get (v := .inl (I 0 15 9)) dX9_run_204 fl_9_41 (hG.m0 (by decide)) rfl ?_
  refine am_if_ne (tgt := 228) dX9_run_207 rfl (fun c => ?_) (fun c => ?_)
  · rw [if_neg c] at h
    exact am_lwJ (lo' := [some (.inr (0, 15)), none, none]) ⟨rfl, trivial⟩ (tX9_run_228 hG h)
  · rw [if_pos c] at h
    refine am_aload_n dX9_run_210 rfl ?_
    refine am_get (v := .inl (I 0 15 16)) dX9_run_211 fl_9_51 (hG.m0 (by decide)) rfl ?_
    obtain ⟨q1, hq1, h⟩ := am_bd h
    refine am_callSNx (as := [.inl (I 0 15 16)]) (rest := []) dX9_run_214 lkX10_isInode nl_X9_96 isX10_isInode rfl (Nat.le_of_ble_eq_true rfl) rfl (sX10_isInode hG hq1) ?_
    refine am_if_eq (tgt := 228) dX9_run_217 rfl (fun c => ?_) (fun c => ?_)
    · rw [if_pos c] at h
      exact am_lwJ (lo' := [some (.inr (0, 15)), none, none]) ⟨rfl, trivial⟩ (tX9_run_228 hG h)
    · rw [if_neg c] at h
      refine am_aload_n dX9_run_220 rfl ?_
      refine am_aload_n dX9_run_221 rfl ?_
      refine am_get (v := .inl (q1.2 0 15 16)) dX9_run_222 fl_9_51 (hG.m0 (by decide)) rfl ?_
      obtain ⟨q2, hq2, h⟩ := am_bd h
      refine am_callVe (i := 0) (j := 15) (as := [.inl (q1.2 0 15 16)]) (rest := []) dX9_run_225 lkX9_giveInodeBack ml_X9_100 imX9_giveInodeBack seX9_giveInodeBack rfl rfl (hG.m0 (by decide)) rfl (Nat.le_of_ble_eq_true rfl) rfl (sX9_giveInodeBack hG hq2) ?_
      exact am_lwJ (lo' := [some (.inr (0, 15)), none, none]) ⟨rfl, trivial⟩ (tX9_run_228 hG h)
def bX9_run_0 (n : Nat) (l1 : Nat) (I : am_I) : Option (am_I) := am_lt (am_up I 0 15 8 (nI l1)) (fun I1 => am_lt (am_up I1 0 15 9 (nI 0)) (fun I2 => am_lt (am_up I2 0 15 10 (nI 0)) (fun I3 => am_lt (am_up I3 0 15 13 (-1 : Int32)) (fun I4 => am_lt (am_up I4 0 15 16 (-1 : Int32)) (fun I5 => if (I5 l1 55 0) = nI 0 then ((gX9_seek n l1 I5).bind (fun q6 => bX9_run_203 n q6)) else (if (I5 l1 55 0) = nI 1 then ((gX9_make n l1 I5).bind (fun q7 => bX9_run_203 n q7)) else (if (I5 l1 55 0) = nI 2 then ((gX9_remove n l1 I5).bind (fun q8 => bX9_run_203 n q8)) else (if (I5 l1 55 0) = nI 3 then ((gX9_link n l1 I5).bind (fun q9 => bX9_run_203 n q9)) else (if (I5 l1 55 0) = nI 4 then ((gX9_rename n l1 I5).bind (fun q10 => bX9_run_203 n q10)) else (if (I5 l1 55 0) = nI 5 then ((gX9_readWord n l1 I5).bind (fun q11 => bX9_run_203 n q11)) else (if (I5 l1 55 0) = nI 6 then ((gX9_writeWord n l1 I5).bind (fun q12 => bX9_run_203 n q12)) else (if (I5 l1 55 0) = nI 7 then ((gX9_cut n l1 I5).bind (fun q13 => bX9_run_203 n q13)) else (if (I5 l1 55 0) = nI 8 then ((gX9_entry n l1 I5).bind (fun q14 => bX9_run_203 n q14)) else (if (I5 l1 55 0) = nI 9 then ((gX9_stat n l1 I5).bind (fun q15 => bX9_run_203 n q15)) else (if (I5 l1 55 0) = nI 10 then (bX9_run_203 n I5) else (if (I5 l1 55 0) = nI 11 then ((gX9_writeWord n l1 I5).bind (fun q16 => bX9_run_203 n q16)) else (if (I5 l1 55 0) = nI 12 then ((gX9_writeWord n l1 I5).bind (fun q17 => bX9_run_203 n q17)) else (if (I5 l1 55 0) = nI 13 then ((gX9_count n l1 I5).bind (fun q18 => bX9_run_203 n q18)) else (if (I5 l1 55 0) = nI 14 then ((gX9_room n I5).bind (fun q19 => bX9_run_203 n q19)) else (bX9_run_203 n I5))))))))))))))))))))
theorem tX9_run_0 {G : am_G} (hG : am_ok G) {d : Nat} {l1 : Nat} (hl1 : l1 < G.2.2.2.1) {I : am_I} {r : am_I} (h : bX9_run_0 G.2.2.2.1 l1  I = some r) : am_J G (d + 5) mX9_run am_no (am_E none r) 0 [some (.inr (0, 15)), some (.inr (l1, 40)), none] [] I := by
  unfold bX9_run_0 at h
  refine am_aload_n dX9_run_0 rfl ?_
  refine am_get (v := .inr (l1, 55)) dX9_run_1 fl_9_35 (hG.mn hl1 (by decide) (by decide)) rfl ?_
  refine am_astore_n dX9_run_4 (by decide) ?_
  refine am_aload_n dX9_run_5 rfl ?_
  refine am_aload_n dX9_run_6 rfl ?_
  refine am_putN dX9_run_7 fp_9_31 (hG.m0 (by decide)) (Nat.lt_trans hl1 hG.n31) ?_
  obtain ⟨I1, hI1, h⟩ := am_lt_some h
  refine am_st10 hI1 ?_
  refine am_aload_n dX9_run_10 rfl ?_
  refine am_iconst (v := nI 0) dX9_run_11 (by decide) ?_
  refine am_put (x := nI 0) dX9_run_12 fp_9_41 (hG.m0 (by decide)) (Nat.le_of_ble_eq_true rfl) rfl ?_
  obtain ⟨I2, hI2, h⟩ := am_lt_some h
  refine am_st10 hI2 ?_
  refine am_aload_n dX9_run_15 rfl ?_
  refine am_iconst (v := nI 0) dX9_run_16 (by decide) ?_
  refine am_put (x := nI 0) dX9_run_17 fp_9_45 (hG.m0 (by decide)) (Nat.le_of_ble_eq_true rfl) rfl ?_
  obtain ⟨I3, hI3, h⟩ := am_lt_some h
  refine am_st10 hI3 ?_
  refine am_aload_n dX9_run_20 rfl ?_
  refine am_iconst (v := (-1 : Int32)) dX9_run_21 (by decide) ?_
  refine am_put (x := (-1 : Int32)) dX9_run_22 fp_9_48 (hG.m0 (by decide)) (Nat.le_of_ble_eq_true rfl) rfl ?_
  obtain ⟨I4, hI4, h⟩ := am_lt_some h
  refine am_st10 hI4 ?_
  refine am_aload_n dX9_run_25 rfl ?_
  refine am_iconst (v := (-1 : Int32)) dX9_run_26 (by decide) ?_
  refine am_put (x := (-1 : Int32)) dX9_run_27 fp_9_51 (hG.m0 (by decide)) (Nat.le_of_ble_eq_true rfl) rfl ?_
  obtain ⟨I5, hI5, h⟩ := am_lt_some h
  refine am_st10 hI5 ?_
  refine am_aload_n dX9_run_30 rfl ?_
  refine am_get (v := .inl (I5 l1 55 0)) dX9_run_31 fl_9_54 (hG.mn hl1 (by decide) (by decide)) rfl ?_
  rcases am_sw 14 (I5 l1 55 0) with ⟨m, hm, hx⟩ | hx
  · match m, hm, hx with
    | 0, _, hx =>
      rw [if_pos hx] at h
      refine am_tabIn (off := 74) (tgt := 108) dX9_run_34 (by rw [hx]; decide) (by rw [hx]; decide) (by rw [hx]; rfl) rfl ?_
      refine am_aload_n dX9_run_108 rfl ?_
      refine am_aload_n dX9_run_109 rfl ?_
      obtain ⟨q6, hq6, h⟩ := am_bd h
      refine am_callVe (i := 0) (j := 15) (as := [.inr (l1, 55)]) (rest := []) dX9_run_110 lkX9_seek ml_X9_59 imX9_seek seX9_seek rfl rfl (hG.m0 (by decide)) rfl (Nat.le_of_ble_eq_true rfl) rfl (sX9_seek hG hl1 hq6) ?_
      refine am_goto (tgt := 203) dX9_run_113 rfl ?_
      exact am_lwJ (lo' := [some (.inr (0, 15)), none, none]) ⟨rfl, trivial⟩ (tX9_run_203 hG h)
    | 1, _, hx =>
      rw [if_neg (show ¬ (I5 l1 55 0) = nI 0 by rw [hx]; decide)] at h
      rw [if_pos hx] at h
      refine am_tabIn (off := 82) (tgt := 116) dX9_run_34 (by rw [hx]; decide) (by rw [hx]; decide) (by rw [hx]; rfl) rfl ?_
      refine am_aload_n dX9_run_116 rfl ?_
      refine am_aload_n dX9_run_117 rfl ?_
      obtain ⟨q7, hq7, h⟩ := am_bd h
      refine am_callVe (i := 0) (j := 15) (as := [.inr (l1, 55)]) (rest := []) dX9_run_118 lkX9_make ml_X9_63 imX9_make seX9_make rfl rfl (hG.m0 (by decide)) rfl (Nat.le_of_ble_eq_true rfl) rfl (sX9_make hG hl1 hq7) ?_
      refine am_goto (tgt := 203) dX9_run_121 rfl ?_
      exact am_lwJ (lo' := [some (.inr (0, 15)), none, none]) ⟨rfl, trivial⟩ (tX9_run_203 hG h)
    | 2, _, hx =>
      rw [if_neg (show ¬ (I5 l1 55 0) = nI 0 by rw [hx]; decide), if_neg (show ¬ (I5 l1 55 0) = nI 1 by rw [hx]; decide)] at h
      rw [if_pos hx] at h
      refine am_tabIn (off := 90) (tgt := 124) dX9_run_34 (by rw [hx]; decide) (by rw [hx]; decide) (by rw [hx]; rfl) rfl ?_
      refine am_aload_n dX9_run_124 rfl ?_
      refine am_aload_n dX9_run_125 rfl ?_
      obtain ⟨q8, hq8, h⟩ := am_bd h
      refine am_callVe (i := 0) (j := 15) (as := [.inr (l1, 55)]) (rest := []) dX9_run_126 lkX9_remove ml_X9_66 imX9_remove seX9_remove rfl rfl (hG.m0 (by decide)) rfl (Nat.le_of_ble_eq_true rfl) rfl (sX9_remove hG hl1 hq8) ?_
      refine am_goto (tgt := 203) dX9_run_129 rfl ?_
      exact am_lwJ (lo' := [some (.inr (0, 15)), none, none]) ⟨rfl, trivial⟩ (tX9_run_203 hG h)
    | 3, _, hx =>
      rw [if_neg (show ¬ (I5 l1 55 0) = nI 0 by rw [hx]; decide), if_neg (show ¬ (I5 l1 55 0) = nI 1 by rw [hx]; decide), if_neg (show ¬ (I5 l1 55 0) = nI 2 by rw [hx]; decide)] at h
      rw [if_pos hx] at h
      refine am_tabIn (off := 98) (tgt := 132) dX9_run_34 (by rw [hx]; decide) (by rw [hx]; decide) (by rw [hx]; rfl) rfl ?_
      refine am_aload_n dX9_run_132 rfl ?_
      refine am_aload_n dX9_run_133 rfl ?_
      obtain ⟨q9, hq9, h⟩ := am_bd h
      refine am_callVe (i := 0) (j := 15) (as := [.inr (l1, 55)]) (rest := []) dX9_run_134 lkX9_link ml_X9_69 imX9_link seX9_link rfl rfl (hG.m0 (by decide)) rfl (Nat.le_of_ble_eq_true rfl) rfl (sX9_link hG hl1 hq9) ?_
      refine am_goto (tgt := 203) dX9_run_137 rfl ?_
      exact am_lwJ (lo' := [some (.inr (0, 15)), none, none]) ⟨rfl, trivial⟩ (tX9_run_203 hG h)
    | 4, _, hx =>
      rw [if_neg (show ¬ (I5 l1 55 0) = nI 0 by rw [hx]; decide), if_neg (show ¬ (I5 l1 55 0) = nI 1 by rw [hx]; decide), if_neg (show ¬ (I5 l1 55 0) = nI 2 by rw [hx]; decide), if_neg (show ¬ (I5 l1 55 0) = nI 3 by rw [hx]; decide)] at h
      rw [if_pos hx] at h
      refine am_tabIn (off := 106) (tgt := 140) dX9_run_34 (by rw [hx]; decide) (by rw [hx]; decide) (by rw [hx]; rfl) rfl ?_
      refine am_aload_n dX9_run_140 rfl ?_
      refine am_aload_n dX9_run_141 rfl ?_
      obtain ⟨q10, hq10, h⟩ := am_bd h
      refine am_callVe (i := 0) (j := 15) (as := [.inr (l1, 55)]) (rest := []) dX9_run_142 lkX9_rename ml_X9_72 imX9_rename seX9_rename rfl rfl (hG.m0 (by decide)) rfl (Nat.le_of_ble_eq_true rfl) rfl (sX9_rename hG hl1 hq10) ?_
      refine am_goto (tgt := 203) dX9_run_145 rfl ?_
      exact am_lwJ (lo' := [some (.inr (0, 15)), none, none]) ⟨rfl, trivial⟩ (tX9_run_203 hG h)
    | 5, _, hx =>
      rw [if_neg (show ¬ (I5 l1 55 0) = nI 0 by rw [hx]; decide), if_neg (show ¬ (I5 l1 55 0) = nI 1 by rw [hx]; decide), if_neg (show ¬ (I5 l1 55 0) = nI 2 by rw [hx]; decide), if_neg (show ¬ (I5 l1 55 0) = nI 3 by rw [hx]; decide), if_neg (show ¬ (I5 l1 55 0) = nI 4 by rw [hx]; decide)] at h
      rw [if_pos hx] at h
      refine am_tabIn (off := 114) (tgt := 148) dX9_run_34 (by rw [hx]; decide) (by rw [hx]; decide) (by rw [hx]; rfl) rfl ?_
      refine am_aload_n dX9_run_148 rfl ?_
      refine am_aload_n dX9_run_149 rfl ?_
      obtain ⟨q11, hq11, h⟩ := am_bd h
      refine am_callVe (i := 0) (j := 15) (as := [.inr (l1, 55)]) (rest := []) dX9_run_150 lkX9_readWord ml_X9_75 imX9_readWord seX9_readWord rfl rfl (hG.m0 (by decide)) rfl (Nat.le_of_ble_eq_true rfl) rfl (sX9_readWord hG hl1 hq11) ?_
      refine am_goto (tgt := 203) dX9_run_153 rfl ?_
      exact am_lwJ (lo' := [some (.inr (0, 15)), none, none]) ⟨rfl, trivial⟩ (tX9_run_203 hG h)
    | 6, _, hx =>
      rw [if_neg (show ¬ (I5 l1 55 0) = nI 0 by rw [hx]; decide), if_neg (show ¬ (I5 l1 55 0) = nI 1 by rw [hx]; decide), if_neg (show ¬ (I5 l1 55 0) = nI 2 by rw [hx]; decide), if_neg (show ¬ (I5 l1 55 0) = nI 3 by rw [hx]; decide), if_neg (show ¬ (I5 l1 55 0) = nI 4 by rw [hx]; decide), if_neg (show ¬ (I5 l1 55 0) = nI 5 by rw [hx]; decide)] at h
      rw [if_pos hx] at h
      refine am_tabIn (off := 122) (tgt := 156) dX9_run_34 (by rw [hx]; decide) (by rw [hx]; decide) (by rw [hx]; rfl) rfl ?_
      refine am_aload_n dX9_run_156 rfl ?_
      refine am_aload_n dX9_run_157 rfl ?_
      obtain ⟨q12, hq12, h⟩ := am_bd h
      refine am_callVe (i := 0) (j := 15) (as := [.inr (l1, 55)]) (rest := []) dX9_run_158 lkX9_writeWord ml_X9_78 imX9_writeWord seX9_writeWord rfl rfl (hG.m0 (by decide)) rfl (Nat.le_of_ble_eq_true rfl) rfl (sX9_writeWord hG hl1 hq12) ?_
      refine am_goto (tgt := 203) dX9_run_161 rfl ?_
      exact am_lwJ (lo' := [some (.inr (0, 15)), none, none]) ⟨rfl, trivial⟩ (tX9_run_203 hG h)
    | 7, _, hx =>
      rw [if_neg (show ¬ (I5 l1 55 0) = nI 0 by rw [hx]; decide), if_neg (show ¬ (I5 l1 55 0) = nI 1 by rw [hx]; decide), if_neg (show ¬ (I5 l1 55 0) = nI 2 by rw [hx]; decide), if_neg (show ¬ (I5 l1 55 0) = nI 3 by rw [hx]; decide), if_neg (show ¬ (I5 l1 55 0) = nI 4 by rw [hx]; decide), if_neg (show ¬ (I5 l1 55 0) = nI 5 by rw [hx]; decide), if_neg (show ¬ (I5 l1 55 0) = nI 6 by rw [hx]; decide)] at h
      rw [if_pos hx] at h
      refine am_tabIn (off := 130) (tgt := 164) dX9_run_34 (by rw [hx]; decide) (by rw [hx]; decide) (by rw [hx]; rfl) rfl ?_
      refine am_aload_n dX9_run_164 rfl ?_
      refine am_aload_n dX9_run_165 rfl ?_
      obtain ⟨q13, hq13, h⟩ := am_bd h
      refine am_callVe (i := 0) (j := 15) (as := [.inr (l1, 55)]) (rest := []) dX9_run_166 lkX9_cut ml_X9_81 imX9_cut seX9_cut rfl rfl (hG.m0 (by decide)) rfl (Nat.le_of_ble_eq_true rfl) rfl (sX9_cut hG hl1 hq13) ?_
      refine am_goto (tgt := 203) dX9_run_169 rfl ?_
      exact am_lwJ (lo' := [some (.inr (0, 15)), none, none]) ⟨rfl, trivial⟩ (tX9_run_203 hG h)
    | 8, _, hx =>
      rw [if_neg (show ¬ (I5 l1 55 0) = nI 0 by rw [hx]; decide), if_neg (show ¬ (I5 l1 55 0) = nI 1 by rw [hx]; decide), if_neg (show ¬ (I5 l1 55 0) = nI 2 by rw [hx]; decide), if_neg (show ¬ (I5 l1 55 0) = nI 3 by rw [hx]; decide), if_neg (show ¬ (I5 l1 55 0) = nI 4 by rw [hx]; decide), if_neg (show ¬ (I5 l1 55 0) = nI 5 by rw [hx]; decide), if_neg (show ¬ (I5 l1 55 0) = nI 6 by rw [hx]; decide), if_neg (show ¬ (I5 l1 55 0) = nI 7 by rw [hx]; decide)] at h
      rw [if_pos hx] at h
      refine am_tabIn (off := 138) (tgt := 172) dX9_run_34 (by rw [hx]; decide) (by rw [hx]; decide) (by rw [hx]; rfl) rfl ?_
      refine am_aload_n dX9_run_172 rfl ?_
      refine am_aload_n dX9_run_173 rfl ?_
      obtain ⟨q14, hq14, h⟩ := am_bd h
      refine am_callVe (i := 0) (j := 15) (as := [.inr (l1, 55)]) (rest := []) dX9_run_174 lkX9_entry ml_X9_84 imX9_entry seX9_entry rfl rfl (hG.m0 (by decide)) rfl (Nat.le_of_ble_eq_true rfl) rfl (sX9_entry hG hl1 hq14) ?_
      refine am_goto (tgt := 203) dX9_run_177 rfl ?_
      exact am_lwJ (lo' := [some (.inr (0, 15)), none, none]) ⟨rfl, trivial⟩ (tX9_run_203 hG h)
    | 9, _, hx =>
      rw [if_neg (show ¬ (I5 l1 55 0) = nI 0 by rw [hx]; decide), if_neg (show ¬ (I5 l1 55 0) = nI 1 by rw [hx]; decide), if_neg (show ¬ (I5 l1 55 0) = nI 2 by rw [hx]; decide), if_neg (show ¬ (I5 l1 55 0) = nI 3 by rw [hx]; decide), if_neg (show ¬ (I5 l1 55 0) = nI 4 by rw [hx]; decide), if_neg (show ¬ (I5 l1 55 0) = nI 5 by rw [hx]; decide), if_neg (show ¬ (I5 l1 55 0) = nI 6 by rw [hx]; decide), if_neg (show ¬ (I5 l1 55 0) = nI 7 by rw [hx]; decide), if_neg (show ¬ (I5 l1 55 0) = nI 8 by rw [hx]; decide)] at h
      rw [if_pos hx] at h
      refine am_tabIn (off := 146) (tgt := 180) dX9_run_34 (by rw [hx]; decide) (by rw [hx]; decide) (by rw [hx]; rfl) rfl ?_
      refine am_aload_n dX9_run_180 rfl ?_
      refine am_aload_n dX9_run_181 rfl ?_
      obtain ⟨q15, hq15, h⟩ := am_bd h
      refine am_callVe (i := 0) (j := 15) (as := [.inr (l1, 55)]) (rest := []) dX9_run_182 lkX9_stat ml_X9_87 imX9_stat seX9_stat rfl rfl (hG.m0 (by decide)) rfl (Nat.le_of_ble_eq_true rfl) rfl (sX9_stat hG hl1 hq15) ?_
      refine am_goto (tgt := 203) dX9_run_185 rfl ?_
      exact am_lwJ (lo' := [some (.inr (0, 15)), none, none]) ⟨rfl, trivial⟩ (tX9_run_203 hG h)
    | 10, _, hx =>
      rw [if_neg (show ¬ (I5 l1 55 0) = nI 0 by rw [hx]; decide), if_neg (show ¬ (I5 l1 55 0) = nI 1 by rw [hx]; decide), if_neg (show ¬ (I5 l1 55 0) = nI 2 by rw [hx]; decide), if_neg (show ¬ (I5 l1 55 0) = nI 3 by rw [hx]; decide), if_neg (show ¬ (I5 l1 55 0) = nI 4 by rw [hx]; decide), if_neg (show ¬ (I5 l1 55 0) = nI 5 by rw [hx]; decide), if_neg (show ¬ (I5 l1 55 0) = nI 6 by rw [hx]; decide), if_neg (show ¬ (I5 l1 55 0) = nI 7 by rw [hx]; decide), if_neg (show ¬ (I5 l1 55 0) = nI 8 by rw [hx]; decide), if_neg (show ¬ (I5 l1 55 0) = nI 9 by rw [hx]; decide)] at h
      rw [if_pos hx] at h
      refine am_tabIn (off := 169) (tgt := 203) dX9_run_34 (by rw [hx]; decide) (by rw [hx]; decide) (by rw [hx]; rfl) rfl ?_
      exact am_lwJ (lo' := [some (.inr (0, 15)), none, none]) ⟨rfl, trivial⟩ (tX9_run_203 hG h)
    | 11, _, hx =>
      rw [if_neg (show ¬ (I5 l1 55 0) = nI 0 by rw [hx]; decide), if_neg (show ¬ (I5 l1 55 0) = nI 1 by rw [hx]; decide), if_neg (show ¬ (I5 l1 55 0) = nI 2 by rw [hx]; decide), if_neg (show ¬ (I5 l1 55 0) = nI 3 by rw [hx]; decide), if_neg (show ¬ (I5 l1 55 0) = nI 4 by rw [hx]; decide), if_neg (show ¬ (I5 l1 55 0) = nI 5 by rw [hx]; decide), if_neg (show ¬ (I5 l1 55 0) = nI 6 by rw [hx]; decide), if_neg (show ¬ (I5 l1 55 0) = nI 7 by rw [hx]; decide), if_neg (show ¬ (I5 l1 55 0) = nI 8 by rw [hx]; decide), if_neg (show ¬ (I5 l1 55 0) = nI 9 by rw [hx]; decide), if_neg (show ¬ (I5 l1 55 0) = nI 10 by rw [hx]; decide)] at h
      rw [if_pos hx] at h
      refine am_tabIn (off := 122) (tgt := 156) dX9_run_34 (by rw [hx]; decide) (by rw [hx]; decide) (by rw [hx]; rfl) rfl ?_
      refine am_aload_n dX9_run_156 rfl ?_
      refine am_aload_n dX9_run_157 rfl ?_
      obtain ⟨q16, hq16, h⟩ := am_bd h
      refine am_callVe (i := 0) (j := 15) (as := [.inr (l1, 55)]) (rest := []) dX9_run_158 lkX9_writeWord ml_X9_78 imX9_writeWord seX9_writeWord rfl rfl (hG.m0 (by decide)) rfl (Nat.le_of_ble_eq_true rfl) rfl (sX9_writeWord hG hl1 hq16) ?_
      refine am_goto (tgt := 203) dX9_run_161 rfl ?_
      exact am_lwJ (lo' := [some (.inr (0, 15)), none, none]) ⟨rfl, trivial⟩ (tX9_run_203 hG h)
    | 12, _, hx =>
      rw [if_neg (show ¬ (I5 l1 55 0) = nI 0 by rw [hx]; decide), if_neg (show ¬ (I5 l1 55 0) = nI 1 by rw [hx]; decide), if_neg (show ¬ (I5 l1 55 0) = nI 2 by rw [hx]; decide), if_neg (show ¬ (I5 l1 55 0) = nI 3 by rw [hx]; decide), if_neg (show ¬ (I5 l1 55 0) = nI 4 by rw [hx]; decide), if_neg (show ¬ (I5 l1 55 0) = nI 5 by rw [hx]; decide), if_neg (show ¬ (I5 l1 55 0) = nI 6 by rw [hx]; decide), if_neg (show ¬ (I5 l1 55 0) = nI 7 by rw [hx]; decide), if_neg (show ¬ (I5 l1 55 0) = nI 8 by rw [hx]; decide), if_neg (show ¬ (I5 l1 55 0) = nI 9 by rw [hx]; decide), if_neg (show ¬ (I5 l1 55 0) = nI 10 by rw [hx]; decide), if_neg (show ¬ (I5 l1 55 0) = nI 11 by rw [hx]; decide)] at h
      rw [if_pos hx] at h
      refine am_tabIn (off := 122) (tgt := 156) dX9_run_34 (by rw [hx]; decide) (by rw [hx]; decide) (by rw [hx]; rfl) rfl ?_
      refine am_aload_n dX9_run_156 rfl ?_
      refine am_aload_n dX9_run_157 rfl ?_
      obtain ⟨q17, hq17, h⟩ := am_bd h
      refine am_callVe (i := 0) (j := 15) (as := [.inr (l1, 55)]) (rest := []) dX9_run_158 lkX9_writeWord ml_X9_78 imX9_writeWord seX9_writeWord rfl rfl (hG.m0 (by decide)) rfl (Nat.le_of_ble_eq_true rfl) rfl (sX9_writeWord hG hl1 hq17) ?_
      refine am_goto (tgt := 203) dX9_run_161 rfl ?_
      exact am_lwJ (lo' := [some (.inr (0, 15)), none, none]) ⟨rfl, trivial⟩ (tX9_run_203 hG h)
    | 13, _, hx =>
      rw [if_neg (show ¬ (I5 l1 55 0) = nI 0 by rw [hx]; decide), if_neg (show ¬ (I5 l1 55 0) = nI 1 by rw [hx]; decide), if_neg (show ¬ (I5 l1 55 0) = nI 2 by rw [hx]; decide), if_neg (show ¬ (I5 l1 55 0) = nI 3 by rw [hx]; decide), if_neg (show ¬ (I5 l1 55 0) = nI 4 by rw [hx]; decide), if_neg (show ¬ (I5 l1 55 0) = nI 5 by rw [hx]; decide), if_neg (show ¬ (I5 l1 55 0) = nI 6 by rw [hx]; decide), if_neg (show ¬ (I5 l1 55 0) = nI 7 by rw [hx]; decide), if_neg (show ¬ (I5 l1 55 0) = nI 8 by rw [hx]; decide), if_neg (show ¬ (I5 l1 55 0) = nI 9 by rw [hx]; decide), if_neg (show ¬ (I5 l1 55 0) = nI 10 by rw [hx]; decide), if_neg (show ¬ (I5 l1 55 0) = nI 11 by rw [hx]; decide), if_neg (show ¬ (I5 l1 55 0) = nI 12 by rw [hx]; decide)] at h
      rw [if_pos hx] at h
      refine am_tabIn (off := 154) (tgt := 188) dX9_run_34 (by rw [hx]; decide) (by rw [hx]; decide) (by rw [hx]; rfl) rfl ?_
      refine am_aload_n dX9_run_188 rfl ?_
      refine am_aload_n dX9_run_189 rfl ?_
      obtain ⟨q18, hq18, h⟩ := am_bd h
      refine am_callVe (i := 0) (j := 15) (as := [.inr (l1, 55)]) (rest := []) dX9_run_190 lkX9_count ml_X9_90 imX9_count seX9_count rfl rfl (hG.m0 (by decide)) rfl (Nat.le_of_ble_eq_true rfl) rfl (sX9_count hG hl1 hq18) ?_
      refine am_goto (tgt := 203) dX9_run_193 rfl ?_
      exact am_lwJ (lo' := [some (.inr (0, 15)), none, none]) ⟨rfl, trivial⟩ (tX9_run_203 hG h)
    | 14, _, hx =>
      rw [if_neg (show ¬ (I5 l1 55 0) = nI 0 by rw [hx]; decide), if_neg (show ¬ (I5 l1 55 0) = nI 1 by rw [hx]; decide), if_neg (show ¬ (I5 l1 55 0) = nI 2 by rw [hx]; decide), if_neg (show ¬ (I5 l1 55 0) = nI 3 by rw [hx]; decide), if_neg (show ¬ (I5 l1 55 0) = nI 4 by rw [hx]; decide), if_neg (show ¬ (I5 l1 55 0) = nI 5 by rw [hx]; decide), if_neg (show ¬ (I5 l1 55 0) = nI 6 by rw [hx]; decide), if_neg (show ¬ (I5 l1 55 0) = nI 7 by rw [hx]; decide), if_neg (show ¬ (I5 l1 55 0) = nI 8 by rw [hx]; decide), if_neg (show ¬ (I5 l1 55 0) = nI 9 by rw [hx]; decide), if_neg (show ¬ (I5 l1 55 0) = nI 10 by rw [hx]; decide), if_neg (show ¬ (I5 l1 55 0) = nI 11 by rw [hx]; decide), if_neg (show ¬ (I5 l1 55 0) = nI 12 by rw [hx]; decide), if_neg (show ¬ (I5 l1 55 0) = nI 13 by rw [hx]; decide)] at h
      rw [if_pos hx] at h
      refine am_tabIn (off := 162) (tgt := 196) dX9_run_34 (by rw [hx]; decide) (by rw [hx]; decide) (by rw [hx]; rfl) rfl ?_
      refine am_aload_n dX9_run_196 rfl ?_
      obtain ⟨q19, hq19, h⟩ := am_bd h
      refine am_callVe (i := 0) (j := 15) (as := []) (rest := []) dX9_run_197 lkX9_room ml_X9_93 imX9_room seX9_room rfl rfl (hG.m0 (by decide)) rfl (Nat.le_of_ble_eq_true rfl) rfl (sX9_room hG hq19) ?_
      refine am_goto (tgt := 203) dX9_run_200 rfl ?_
      exact am_lwJ (lo' := [some (.inr (0, 15)), none, none]) ⟨rfl, trivial⟩ (tX9_run_203 hG h)
    | m + 15, hm, _ => exact absurd hm (by omega)
  · rw [if_neg (am_swd (k := 0) hx (by decide) (by decide)), if_neg (am_swd (k := 1) hx (by decide) (by decide)), if_neg (am_swd (k := 2) hx (by decide) (by decide)), if_neg (am_swd (k := 3) hx (by decide) (by decide)), if_neg (am_swd (k := 4) hx (by decide) (by decide)), if_neg (am_swd (k := 5) hx (by decide) (by decide)), if_neg (am_swd (k := 6) hx (by decide) (by decide)), if_neg (am_swd (k := 7) hx (by decide) (by decide)), if_neg (am_swd (k := 8) hx (by decide) (by decide)), if_neg (am_swd (k := 9) hx (by decide) (by decide)), if_neg (am_swd (k := 10) hx (by decide) (by decide)), if_neg (am_swd (k := 11) hx (by decide) (by decide)), if_neg (am_swd (k := 12) hx (by decide) (by decide)), if_neg (am_swd (k := 13) hx (by decide) (by decide)), if_neg (am_swd (k := 14) hx (by decide) (by decide))] at h
    refine am_tabOut (tgt := 203) dX9_run_34 (by omega) rfl ?_
    exact am_lwJ (lo' := [some (.inr (0, 15)), none, none]) ⟨rfl, trivial⟩ (tX9_run_203 hG h)
def gX9_run (n : Nat) (l1 : Nat) (I : am_I) : Option (am_I) := bX9_run_0 n l1 I
theorem sX9_run {G : am_G} (hG : am_ok G) {d : Nat} {l1 : Nat} (hl1 : l1 < G.2.2.2.1) {I : am_I} {r : am_I} (h : gX9_run G.2.2.2.1 l1 I = some r) : am_C G (d + 5) mX9_run [.inr (0, 15), .inr (l1, 40)] I (am_E none r) :=
  am_of (by decide +kernel) hG.nd (Nat.le_of_ble_eq_true rfl) (am_lwJ (lo' := [some (.inr (0, 15)), some (.inr (l1, 40)), none]) ⟨rfl, rfl, trivial⟩ (tX9_run_0 hG hl1 h))
def bX1_drop_37 (n : Nat) (I : am_I) : Option (am_I) := some I
theorem tX1_drop_37 {G : am_G} (hG : am_ok G) {d : Nat} {I : am_I} {r : am_I} (h : bX1_drop_37 G.2.2.2.1  I = some r) : am_J G d mX1_drop am_no (am_E none r) 37 [none, none] [] I := by
  unfold bX1_drop_37 at h
  cases h
  exact am_vret dX1_drop_37 rfl ⟨rfl, rfl⟩
def bX1_drop_0 (n : Nat) (l0 : Nat) (l1 : Int32) (I : am_I) : Option (am_I) := if l1 < 0 then (bX1_drop_37 n I) else (if (nI 640) ≤ l1 then (bX1_drop_37 n I) else (am_gd (am_inb l1 640) (if (I l0 43 l1.toNatClampNeg) = 0 then (bX1_drop_37 n I) else (am_gd (am_inb l1 640) (am_lt (am_up I l0 43 l1.toNatClampNeg (nI 0)) (fun I3 => am_lt (am_up I3 l0 41 2 ((I3 l0 41 2) - (nI 1))) (fun I4 => bX1_drop_37 n I4)))))))
theorem tX1_drop_0 {G : am_G} (hG : am_ok G) {d : Nat} {l0 : Nat} {l1 : Int32} (hl0 : l0 < G.2.2.2.1) {I : am_I} {r : am_I} (h : bX1_drop_0 G.2.2.2.1 l0 l1  I = some r) : am_J G d mX1_drop am_no (am_E none r) 0 [some (.inr (l0, 41)), some (.inl l1)] [] I := by
  unfold bX1_drop_0 at h
  refine am_iload_n dX1_drop_0 rfl ?_
  refine am_if_lt (tgt := 37) dX1_drop_1 rfl (fun c => ?_) (fun c => ?_)
  · rw [if_pos c] at h
    exact am_lwJ (lo' := [none, none]) trivial (tX1_drop_37 hG h)
  · rw [if_neg c] at h
    refine am_iload_n dX1_drop_4 rfl ?_
    refine am_sipush (v := nI 640) dX1_drop_5 (by decide) ?_
    refine am_icmp_ge (tgt := 37) dX1_drop_8 rfl (fun c => ?_) (fun c => ?_)
    · rw [if_pos c] at h
      exact am_lwJ (lo' := [none, none]) trivial (tX1_drop_37 hG h)
    · rw [if_neg c] at h
      refine am_aload_n dX1_drop_11 rfl ?_
      refine am_get (v := .inr (l0, 43)) dX1_drop_12 fl_1_15 (hG.mn hl0 (by decide) (by decide)) rfl ?_
      refine am_iload_n dX1_drop_15 rfl ?_
      obtain ⟨g1, h⟩ := am_gd_some h
      refine am_zaldG dX1_drop_16 (hG.mn hl0 (by decide) (by decide)) rfl g1 (show 640 < 2 ^ 31 by decide) ?_
      refine am_if_eq (tgt := 37) dX1_drop_17 rfl (fun c => ?_) (fun c => ?_)
      · rw [if_pos c] at h
        exact am_lwJ (lo' := [none, none]) trivial (tX1_drop_37 hG h)
      · rw [if_neg c] at h
        refine am_aload_n dX1_drop_20 rfl ?_
        refine am_get (v := .inr (l0, 43)) dX1_drop_21 fl_1_15 (hG.mn hl0 (by decide) (by decide)) rfl ?_
        refine am_iload_n dX1_drop_24 rfl ?_
        refine am_iconst (v := nI 0) dX1_drop_25 (by decide) ?_
        obtain ⟨g2, h⟩ := am_gd_some h
        refine am_zastG dX1_drop_26 (hG.mn hl0 (by decide) (by decide)) rfl (by decide) g2 (show 640 < 2 ^ 31 by decide) ?_
        obtain ⟨I3, hI3, h⟩ := am_lt_some h
        refine am_st10 hI3 ?_
        refine am_aload_n dX1_drop_27 rfl ?_
        refine am_dup dX1_drop_28 ?_
        refine am_get (v := .inl (I3 l0 41 2)) dX1_drop_29 fl_1_19 (hG.mn hl0 (by decide) (by decide)) rfl ?_
        refine am_iconst (v := nI 1) dX1_drop_32 (by decide) ?_
        refine am_isub dX1_drop_33 ?_
        refine am_put (x := (I3 l0 41 2) - (nI 1)) dX1_drop_34 fp_1_19 (hG.mn hl0 (by decide) (by decide)) (Nat.le_of_ble_eq_true rfl) rfl ?_
        obtain ⟨I4, hI4, h⟩ := am_lt_some h
        refine am_st10 hI4 ?_
        exact am_lwJ (lo' := [none, none]) trivial (tX1_drop_37 hG h)
def gX1_drop (n : Nat) (l0 : Nat) (l1 : Int32) (I : am_I) : Option (am_I) := bX1_drop_0 n l0 l1 I
theorem sX1_drop {G : am_G} (hG : am_ok G) {d : Nat} {l0 : Nat} {l1 : Int32} (hl0 : l0 < G.2.2.2.1) {I : am_I} {r : am_I} (h : gX1_drop G.2.2.2.1 l0 l1 I = some r) : am_C G d mX1_drop [.inr (l0, 41), .inl l1] I (am_E none r) :=
  am_of (by decide +kernel) hG.nd (Nat.le_of_ble_eq_true rfl) (am_lwJ (lo' := [some (.inr (l0, 41)), some (.inl l1)]) ⟨rfl, rfl, trivial⟩ (tX1_drop_0 hG hl0 h))
def bX9_forget_2 (n : Nat) : Nat → Int32 → am_I → Option (am_I)
  | 0, _, _ => none
  | fu + 1, l1, I => (fun k2 => if (I 0 15 5) ≤ l1 then (am_lt (am_up I 0 15 5 (nI 0)) (fun I1 => am_lt (am_up I1 0 15 7 (nI 0)) (fun I2 => some I2))) else (am_gd (am_inb l1 32) (am_gd (am_inb (I 0 16 l1.toNatClampNeg) 640) (am_lt (am_up I 0 19 (I 0 16 l1.toNatClampNeg).toNatClampNeg (nI 0)) (fun I5 => k2 (l1 + nI 1) I5))))) (bX9_forget_2 n fu)
theorem tX9_forget_2 {G : am_G} (hG : am_ok G) {d : Nat} : ∀ {fu : Nat} {l1 : Int32} {I : am_I} {r : am_I}, bX9_forget_2 G.2.2.2.1 fu l1 I = some r → am_J G d mX9_forget am_no (am_E none r) 2 [some (.inr (0, 15)), some (.inl l1)] [] I := by
  intro fu
  induction fu with
  | zero => intro l1 I r h; cases h
  | succ fu ih =>
    intro l1 I r h
    have hk2 : ∀ (l1 : Int32) (I : am_I) (r : am_I), bX9_forget_2 G.2.2.2.1 fu l1 I = some r → am_J G d mX9_forget am_no (am_E none r) 2 [some (.inr (0, 15)), some (.inl l1)] [] I := fun l1 I r h => ih h
    unfold bX9_forget_2 at h
    generalize bX9_forget_2 G.2.2.2.1 fu = k2 at hk2 h
    dsimp only at h
    refine am_iload_n dX9_forget_2 rfl ?_
    refine am_aload_n dX9_forget_3 rfl ?_
    refine am_get (v := .inl (I 0 15 5)) dX9_forget_4 fl_9_111 (hG.m0 (by decide)) rfl ?_
    refine am_icmp_ge (tgt := 28) dX9_forget_7 rfl (fun c => ?_) (fun c => ?_)
    · rw [if_pos c] at h
      refine am_aload_n dX9_forget_28 rfl ?_
      refine am_iconst (v := nI 0) dX9_forget_29 (by decide) ?_
      refine am_put (x := nI 0) dX9_forget_30 fp_9_111 (hG.m0 (by decide)) (Nat.le_of_ble_eq_true rfl) rfl ?_
      obtain ⟨I1, hI1, h⟩ := am_lt_some h
      refine am_st10 hI1 ?_
      refine am_aload_n dX9_forget_33 rfl ?_
      refine am_iconst (v := nI 0) dX9_forget_34 (by decide) ?_
      refine am_put (x := nI 0) dX9_forget_35 fp_9_131 (hG.m0 (by decide)) (Nat.le_of_ble_eq_true rfl) rfl ?_
      obtain ⟨I2, hI2, h⟩ := am_lt_some h
      refine am_st10 hI2 ?_
      cases h
      exact am_vret dX9_forget_38 rfl ⟨rfl, rfl⟩
    · rw [if_neg c] at h
      refine am_aload_n dX9_forget_10 rfl ?_
      refine am_get (v := .inr (0, 19)) dX9_forget_11 fl_9_22 (hG.m0 (by decide)) rfl ?_
      refine am_aload_n dX9_forget_14 rfl ?_
      refine am_get (v := .inr (0, 16)) dX9_forget_15 fl_9_11 (hG.m0 (by decide)) rfl ?_
      refine am_iload_n dX9_forget_18 rfl ?_
      obtain ⟨g3, h⟩ := am_gd_some h
      refine am_ialdG dX9_forget_19 (hG.m0 (by decide)) rfl g3 (show 32 < 2 ^ 31 by decide) ?_
      refine am_iconst (v := nI 0) dX9_forget_20 (by decide) ?_
      obtain ⟨g4, h⟩ := am_gd_some h
      refine am_zastG dX9_forget_21 (hG.m0 (by decide)) rfl (by decide) g4 (show 640 < 2 ^ 31 by decide) ?_
      obtain ⟨I5, hI5, h⟩ := am_lt_some h
      refine am_st10 hI5 ?_
      refine am_iinc (v := l1 + nI 1) dX9_forget_22 rfl rfl ?_
      refine am_goto (tgt := 2) dX9_forget_25 rfl ?_
      exact am_lwJ (lo' := [some (.inr (0, 15)), some (.inl (l1 + nI 1))]) ⟨rfl, rfl, trivial⟩ (hk2 (l1 + nI 1) _ _ h)
def bX9_forget_0 (n : Nat) (I : am_I) : Option (am_I) := bX9_forget_2 n am_fu (nI 0) I
theorem tX9_forget_0 {G : am_G} (hG : am_ok G) {d : Nat} {I : am_I} {r : am_I} (h : bX9_forget_0 G.2.2.2.1  I = some r) : am_J G d mX9_forget am_no (am_E none r) 0 [some (.inr (0, 15)), none] [] I := by
  unfold bX9_forget_0 at h
  refine am_iconst (v := nI 0) dX9_forget_0 (by decide) ?_
  refine am_istore_n dX9_forget_1 (by decide) ?_
  exact am_lwJ (lo' := [some (.inr (0, 15)), some (.inl (nI 0))]) ⟨rfl, rfl, trivial⟩ (tX9_forget_2 hG h)
def gX9_forget (n : Nat) (I : am_I) : Option (am_I) := bX9_forget_0 n I
theorem sX9_forget {G : am_G} (hG : am_ok G) {d : Nat} {I : am_I} {r : am_I} (h : gX9_forget G.2.2.2.1 I = some r) : am_C G d mX9_forget [.inr (0, 15)] I (am_E none r) :=
  am_of (by decide +kernel) hG.nd (Nat.le_of_ble_eq_true rfl) (am_lwJ (lo' := [some (.inr (0, 15)), none]) ⟨rfl, trivial⟩ (tX9_forget_0 hG h))
def bX9_undo_61 (n : Nat) (k15 : Nat → Int32 → am_I → Option (am_I)) (l1 : Nat) (l2 : Int32) (I : am_I) : Option (am_I) := k15 l1 (l2 + (-1 : Int32)) I
theorem tX9_undo_61 {G : am_G} (hG : am_ok G) {d : Nat} {k15 : Nat → Int32 → am_I → Option (am_I)} (hk15 : ∀ (l1 : Nat) (l2 : Int32) (hl1 : l1 < G.2.2.2.1) (I : am_I) (r : am_I), k15 l1 l2 I = some r → am_J G (d + 1) mX9_undo am_no (am_E none r) 15 [some (.inr (0, 15)), some (.inr (l1, 41)), some (.inl l2), none] [] I) {l1 : Nat} {l2 : Int32} (hl1 : l1 < G.2.2.2.1) {I : am_I} {r : am_I} (h : bX9_undo_61 G.2.2.2.1 k15 l1 l2  I = some r) : am_J G (d + 1) mX9_undo am_no (am_E none r) 61 [some (.inr (0, 15)), some (.inr (l1, 41)), some (.inl l2), none] [] I := by
  unfold bX9_undo_61 at h
  refine am_iinc (v := l2 + (-1 : Int32)) dX9_undo_61 rfl rfl ?_
  refine am_goto (tgt := 15) dX9_undo_64 rfl ?_
  exact am_lwJ (lo' := [some (.inr (0, 15)), some (.inr (l1, 41)), some (.inl (l2 + (-1 : Int32))), none]) ⟨rfl, rfl, rfl, trivial⟩ (hk15 l1 (l2 + (-1 : Int32)) hl1 _ _ h)
def bX9_undo_15 (n : Nat) : Nat → Nat → Int32 → am_I → Option (am_I)
  | 0, _, _, _ => none
  | fu + 1, l1, l2, I => (fun k15 => if l2 < 0 then ((gX9_forget n I).bind (fun q1 => some q1)) else (am_gd (am_inb l2 32) (am_gd (am_cpb (l2 * (nI 16)) ((I 0 16 l2.toNatClampNeg) * (nI 16)) (nI 16) 512 10240) (am_lt (am_upf I l1 42 (va_cpy (I 0 18) (I l1 42) (l2 * (nI 16)).toNatClampNeg ((I 0 16 l2.toNatClampNeg) * (nI 16)).toNatClampNeg (nI 16).toNatClampNeg)) (fun I4 => am_gd (am_inb l2 32) (if (I4 0 17 l2.toNatClampNeg) = 0 then ((gX1_drop n l1 (I 0 16 l2.toNatClampNeg) I4).bind (fun q6 => bX9_undo_61 n k15 l1 l2 q6)) else (bX9_undo_61 n k15 l1 l2 I4))))))) (bX9_undo_15 n fu)
theorem tX9_undo_15 {G : am_G} (hG : am_ok G) {d : Nat} : ∀ {fu : Nat} {l1 : Nat} {l2 : Int32} (hl1 : l1 < G.2.2.2.1) {I : am_I} {r : am_I}, bX9_undo_15 G.2.2.2.1 fu l1 l2 I = some r → am_J G (d + 1) mX9_undo am_no (am_E none r) 15 [some (.inr (0, 15)), some (.inr (l1, 41)), some (.inl l2), none] [] I := by
  intro fu
  induction fu with
  | zero => intro l1 l2 hl1 I r h; cases h
  | succ fu ih =>
    intro l1 l2 hl1 I r h
    have hk15 : ∀ (l1 : Nat) (l2 : Int32) (hl1 : l1 < G.2.2.2.1) (I : am_I) (r : am_I), bX9_undo_15 G.2.2.2.1 fu l1 l2 I = some r → am_J G (d + 1) mX9_undo am_no (am_E none r) 15 [some (.inr (0, 15)), some (.inr (l1, 41)), some (.inl l2), none] [] I := fun l1 l2 hl1 I r h => ih hl1 h
    unfold bX9_undo_15 at h
    generalize bX9_undo_15 G.2.2.2.1 fu = k15 at hk15 h
    dsimp only at h
    refine am_iload_n dX9_undo_15 rfl ?_
    refine am_if_lt (tgt := 67) dX9_undo_16 rfl (fun c => ?_) (fun c => ?_)
    · rw [if_pos c] at h
      refine am_aload_n dX9_undo_67 rfl ?_
      obtain ⟨q1, hq1, h⟩ := am_bd h
      refine am_callVe (i := 0) (j := 15) (as := []) (rest := []) dX9_undo_68 lkX9_forget ml_X9_128 imX9_forget seX9_forget rfl rfl (hG.m0 (by decide)) rfl (Nat.le_of_ble_eq_true rfl) rfl (sX9_forget hG hq1) ?_
      cases h
      exact am_vret dX9_undo_71 rfl ⟨rfl, rfl⟩
    · rw [if_neg c] at h
      refine am_aload_n dX9_undo_19 rfl ?_
      refine am_get (v := .inr (0, 16)) dX9_undo_20 fl_9_11 (hG.m0 (by decide)) rfl ?_
      refine am_iload_n dX9_undo_23 rfl ?_
      obtain ⟨g2, h⟩ := am_gd_some h
      refine am_ialdG dX9_undo_24 (hG.m0 (by decide)) rfl g2 (show 32 < 2 ^ 31 by decide) ?_
      refine am_istore_n dX9_undo_25 (by decide) ?_
      refine am_aload_n dX9_undo_26 rfl ?_
      refine am_get (v := .inr (0, 18)) dX9_undo_27 fl_9_19 (hG.m0 (by decide)) rfl ?_
      refine am_iload_n dX9_undo_30 rfl ?_
      refine am_bipush (v := nI 16) dX9_undo_31 (by decide) ?_
      refine am_imul dX9_undo_33 ?_
      refine am_aload_n dX9_undo_34 rfl ?_
      refine am_get (v := .inr (l1, 42)) dX9_undo_35 fl_9_114 (hG.mn hl1 (by decide) (by decide)) rfl ?_
      refine am_iload_n dX9_undo_38 rfl ?_
      refine am_bipush (v := nI 16) dX9_undo_39 (by decide) ?_
      refine am_imul dX9_undo_41 ?_
      refine am_bipush (v := nI 16) dX9_undo_42 (by decide) ?_
      obtain ⟨g3, h⟩ := am_gd_some h
      refine am_copy (rest := []) dX9_undo_44 ml_X9_119 (hG.m0 (by decide)) (hG.mn hl1 (by decide) (by decide)) rfl rfl g3 (Nat.le_of_ble_eq_true rfl) ?_
      obtain ⟨I4, hI4, h⟩ := am_lt_some h
      refine am_st10 hI4 ?_
      refine am_aload_n dX9_undo_47 rfl ?_
      refine am_get (v := .inr (0, 17)) dX9_undo_48 fl_9_15 (hG.m0 (by decide)) rfl ?_
      refine am_iload_n dX9_undo_51 rfl ?_
      obtain ⟨g5, h⟩ := am_gd_some h
      refine am_zaldG dX9_undo_52 (hG.m0 (by decide)) rfl g5 (show 32 < 2 ^ 31 by decide) ?_
      refine am_if_ne (tgt := 61) dX9_undo_53 rfl (fun c => ?_) (fun c => ?_)
      · rw [if_neg c] at h
        exact am_lwJ (lo' := [some (.inr (0, 15)), some (.inr (l1, 41)), some (.inl l2), none]) ⟨rfl, rfl, rfl, trivial⟩ (tX9_undo_61 hG hk15 hl1 h)
      · rw [if_pos c] at h
        refine am_aload_n dX9_undo_56 rfl ?_
        refine am_iload_n dX9_undo_57 rfl ?_
        obtain ⟨q6, hq6, h⟩ := am_bd h
        refine am_callVe (i := l1) (j := 41) (as := [.inl (I 0 16 l2.toNatClampNeg)]) (rest := []) dX9_undo_58 lkX1_drop ml_X9_125 imX1_drop seX1_drop rfl rfl (hG.mn hl1 (by decide) (by decide)) rfl (Nat.le_of_ble_eq_true rfl) rfl (sX1_drop hG hl1 hq6) ?_
        exact am_lwJ (lo' := [some (.inr (0, 15)), some (.inr (l1, 41)), some (.inl l2), none]) ⟨rfl, rfl, rfl, trivial⟩ (tX9_undo_61 hG hk15 hl1 h)
def bX9_undo_0 (n : Nat) (I : am_I) : Option (am_I) := am_gd (decide ((I 0 15 8).toNatClampNeg < n)) (bX9_undo_15 n am_fu ((I 0 15 8).toNatClampNeg) ((I 0 15 5) - (nI 1)) I)
theorem tX9_undo_0 {G : am_G} (hG : am_ok G) {d : Nat} {I : am_I} {r : am_I} (h : bX9_undo_0 G.2.2.2.1  I = some r) : am_J G (d + 1) mX9_undo am_no (am_E none r) 0 [some (.inr (0, 15)), none, none, none] [] I := by
  unfold bX9_undo_0 at h
  refine am_aload_n dX9_undo_0 rfl ?_
  obtain ⟨g1, h⟩ := am_gd_some h
  have g1 := of_decide_eq_true g1
  refine am_get (v := .inr ((I 0 15 8).toNatClampNeg, 40)) dX9_undo_1 fl_9_31 (hG.m0 (by decide)) rfl ?_
  refine am_get (v := .inr ((I 0 15 8).toNatClampNeg, 41)) dX9_undo_4 fl_9_107 (hG.mn g1 (by decide) (by decide)) rfl ?_
  refine am_astore_n dX9_undo_7 (by decide) ?_
  refine am_aload_n dX9_undo_8 rfl ?_
  refine am_get (v := .inl (I 0 15 5)) dX9_undo_9 fl_9_111 (hG.m0 (by decide)) rfl ?_
  refine am_iconst (v := nI 1) dX9_undo_12 (by decide) ?_
  refine am_isub dX9_undo_13 ?_
  refine am_istore_n dX9_undo_14 (by decide) ?_
  exact am_lwJ (lo' := [some (.inr (0, 15)), some (.inr ((I 0 15 8).toNatClampNeg, 41)), some (.inl ((I 0 15 5) - (nI 1))), none]) ⟨rfl, rfl, rfl, trivial⟩ (tX9_undo_15 hG g1 h)
def gX9_undo (n : Nat) (I : am_I) : Option (am_I) := bX9_undo_0 n I
theorem sX9_undo {G : am_G} (hG : am_ok G) {d : Nat} {I : am_I} {r : am_I} (h : gX9_undo G.2.2.2.1 I = some r) : am_C G (d + 1) mX9_undo [.inr (0, 15)] I (am_E none r) :=
  am_of (by decide +kernel) hG.nd (Nat.le_of_ble_eq_true rfl) (am_lwJ (lo' := [some (.inr (0, 15)), none, none, none]) ⟨rfl, trivial⟩ (tX9_undo_0 hG h))
def bX4_list_77 (n : Nat) (l0 : Nat) (l1 : Int32) (l2 : Int32) (I : am_I) : Option (am_I) := am_gd (am_inb l1 136) (am_lt (am_up I l0 54 l1.toNatClampNeg l2) (fun I2 => some I2))
theorem tX4_list_77 {G : am_G} (hG : am_ok G) {d : Nat} {l0 : Nat} {l1 : Int32} {l2 : Int32} (hl0 : l0 < G.2.2.2.1) {I : am_I} {r : am_I} (h : bX4_list_77 G.2.2.2.1 l0 l1 l2  I = some r) : am_J G d mX4_list am_no (am_E none r) 77 [some (.inr (l0, 48)), some (.inl l1), some (.inl l2), none] [] I := by
  unfold bX4_list_77 at h
  refine am_aload_n dX4_list_77 rfl ?_
  refine am_get (v := .inr (l0, 54)) dX4_list_78 fl_4_28 (hG.mn hl0 (by decide) (by decide)) rfl ?_
  refine am_iload_n dX4_list_81 rfl ?_
  refine am_iload_n dX4_list_82 rfl ?_
  obtain ⟨g1, h⟩ := am_gd_some h
  refine am_iastG dX4_list_83 (hG.mn hl0 (by decide) (by decide)) rfl g1 (show 136 < 2 ^ 31 by decide) ?_
  obtain ⟨I2, hI2, h⟩ := am_lt_some h
  refine am_st10 hI2 ?_
  cases h
  exact am_vret dX4_list_84 rfl ⟨rfl, rfl⟩
def bX4_list_60 (n : Nat) (l0 : Nat) (l1 : Int32) (l2 : Int32) (l3 : Int32) (I : am_I) : Option (am_I) := am_gd (am_inb l3 136) (am_lt (am_up I l0 53 l3.toNatClampNeg l1) (fun I2 => am_lt (am_up I2 l0 48 6 ((I2 l0 48 6) + (nI 1))) (fun I3 => bX4_list_77 n l0 l1 l2 I3)))
theorem tX4_list_60 {G : am_G} (hG : am_ok G) {d : Nat} {l0 : Nat} {l1 : Int32} {l2 : Int32} {l3 : Int32} (hl0 : l0 < G.2.2.2.1) {I : am_I} {r : am_I} (h : bX4_list_60 G.2.2.2.1 l0 l1 l2 l3  I = some r) : am_J G d mX4_list am_no (am_E none r) 60 [some (.inr (l0, 48)), some (.inl l1), some (.inl l2), some (.inl l3)] [] I := by
  unfold bX4_list_60 at h
  refine am_aload_n dX4_list_60 rfl ?_
  refine am_get (v := .inr (l0, 53)) dX4_list_61 fl_4_25 (hG.mn hl0 (by decide) (by decide)) rfl ?_
  refine am_iload_n dX4_list_64 rfl ?_
  refine am_iload_n dX4_list_65 rfl ?_
  obtain ⟨g1, h⟩ := am_gd_some h
  refine am_iastG dX4_list_66 (hG.mn hl0 (by decide) (by decide)) rfl g1 (show 136 < 2 ^ 31 by decide) ?_
  obtain ⟨I2, hI2, h⟩ := am_lt_some h
  refine am_st10 hI2 ?_
  refine am_aload_n dX4_list_67 rfl ?_
  refine am_dup dX4_list_68 ?_
  refine am_get (v := .inl (I2 l0 48 6)) dX4_list_69 fl_4_43 (hG.mn hl0 (by decide) (by decide)) rfl ?_
  refine am_iconst (v := nI 1) dX4_list_72 (by decide) ?_
  refine am_iadd dX4_list_73 ?_
  refine am_put (x := (I2 l0 48 6) + (nI 1)) dX4_list_74 fp_4_43 (hG.mn hl0 (by decide) (by decide)) (Nat.le_of_ble_eq_true rfl) rfl ?_
  obtain ⟨I3, hI3, h⟩ := am_lt_some h
  refine am_st10 hI3 ?_
  exact am_lwJ (lo' := [some (.inr (l0, 48)), some (.inl l1), some (.inl l2), none]) ⟨rfl, rfl, rfl, trivial⟩ (tX4_list_77 hG hl0 h)
def bX4_list_24 (n : Nat) : Nat → Nat → Int32 → Int32 → Int32 → am_I → Option (am_I)
  | 0, _, _, _, _, _ => none
  | fu + 1, l0, l1, l2, l3, I => (fun k24 => if l3 ≤ 0 then (bX4_list_60 n l0 l1 l2 l3 I) else (am_gd (am_inb (l3 - (nI 1)) 136) (if (I l0 53 ((l3 - (nI 1)).toNatClampNeg)) ≤ l1 then (bX4_list_60 n l0 l1 l2 l3 I) else (am_gd (am_inb (l3 - (nI 1)) 136) (am_gd (am_inb l3 136) (am_lt (am_up I l0 53 l3.toNatClampNeg (I l0 53 ((l3 - (nI 1)).toNatClampNeg))) (fun I4 => k24 l0 l1 l2 (l3 + (-1 : Int32)) I4))))))) (bX4_list_24 n fu)
theorem tX4_list_24 {G : am_G} (hG : am_ok G) {d : Nat} : ∀ {fu : Nat} {l0 : Nat} {l1 : Int32} {l2 : Int32} {l3 : Int32} (hl0 : l0 < G.2.2.2.1) {I : am_I} {r : am_I}, bX4_list_24 G.2.2.2.1 fu l0 l1 l2 l3 I = some r → am_J G d mX4_list am_no (am_E none r) 24 [some (.inr (l0, 48)), some (.inl l1), some (.inl l2), some (.inl l3)] [] I := by
  intro fu
  induction fu with
  | zero => intro l0 l1 l2 l3 hl0 I r h; cases h
  | succ fu ih =>
    intro l0 l1 l2 l3 hl0 I r h
    have hk24 : ∀ (l0 : Nat) (l1 : Int32) (l2 : Int32) (l3 : Int32) (hl0 : l0 < G.2.2.2.1) (I : am_I) (r : am_I), bX4_list_24 G.2.2.2.1 fu l0 l1 l2 l3 I = some r → am_J G d mX4_list am_no (am_E none r) 24 [some (.inr (l0, 48)), some (.inl l1), some (.inl l2), some (.inl l3)] [] I := fun l0 l1 l2 l3 hl0 I r h => ih hl0 h
    unfold bX4_list_24 at h
    generalize bX4_list_24 G.2.2.2.1 fu = k24 at hk24 h
    dsimp only at h
    refine am_iload_n dX4_list_24 rfl ?_
    refine am_if_le (tgt := 60) dX4_list_25 rfl (fun c => ?_) (fun c => ?_)
    · rw [if_pos c] at h
      exact am_lwJ (lo' := [some (.inr (l0, 48)), some (.inl l1), some (.inl l2), some (.inl l3)]) ⟨rfl, rfl, rfl, rfl, trivial⟩ (tX4_list_60 hG hl0 h)
    · rw [if_neg c] at h
      refine am_aload_n dX4_list_28 rfl ?_
      refine am_get (v := .inr (l0, 53)) dX4_list_29 fl_4_25 (hG.mn hl0 (by decide) (by decide)) rfl ?_
      refine am_iload_n dX4_list_32 rfl ?_
      refine am_iconst (v := nI 1) dX4_list_33 (by decide) ?_
      refine am_isub dX4_list_34 ?_
      obtain ⟨g1, h⟩ := am_gd_some h
      refine am_ialdG dX4_list_35 (hG.mn hl0 (by decide) (by decide)) rfl g1 (show 136 < 2 ^ 31 by decide) ?_
      refine am_iload_n dX4_list_36 rfl ?_
      refine am_icmp_le (tgt := 60) dX4_list_37 rfl (fun c => ?_) (fun c => ?_)
      · rw [if_pos c] at h
        exact am_lwJ (lo' := [some (.inr (l0, 48)), some (.inl l1), some (.inl l2), some (.inl l3)]) ⟨rfl, rfl, rfl, rfl, trivial⟩ (tX4_list_60 hG hl0 h)
      · rw [if_neg c] at h
        refine am_aload_n dX4_list_40 rfl ?_
        refine am_get (v := .inr (l0, 53)) dX4_list_41 fl_4_25 (hG.mn hl0 (by decide) (by decide)) rfl ?_
        refine am_iload_n dX4_list_44 rfl ?_
        refine am_aload_n dX4_list_45 rfl ?_
        refine am_get (v := .inr (l0, 53)) dX4_list_46 fl_4_25 (hG.mn hl0 (by decide) (by decide)) rfl ?_
        refine am_iload_n dX4_list_49 rfl ?_
        refine am_iconst (v := nI 1) dX4_list_50 (by decide) ?_
        refine am_isub dX4_list_51 ?_
        obtain ⟨g2, h⟩ := am_gd_some h
        refine am_ialdG dX4_list_52 (hG.mn hl0 (by decide) (by decide)) rfl g2 (show 136 < 2 ^ 31 by decide) ?_
        obtain ⟨g3, h⟩ := am_gd_some h
        refine am_iastG dX4_list_53 (hG.mn hl0 (by decide) (by decide)) rfl g3 (show 136 < 2 ^ 31 by decide) ?_
        obtain ⟨I4, hI4, h⟩ := am_lt_some h
        refine am_st10 hI4 ?_
        refine am_iinc (v := l3 + (-1 : Int32)) dX4_list_54 rfl rfl ?_
        refine am_goto (tgt := 24) dX4_list_57 rfl ?_
        exact am_lwJ (lo' := [some (.inr (l0, 48)), some (.inl l1), some (.inl l2), some (.inl (l3 + (-1 : Int32)))]) ⟨rfl, rfl, rfl, rfl, trivial⟩ (hk24 l0 l1 l2 (l3 + (-1 : Int32)) hl0 _ _ h)
def bX4_list_0 (n : Nat) (l0 : Nat) (l1 : Int32) (l2 : Int32) (I : am_I) : Option (am_I) := am_gd (am_inb l1 136) (if (I l0 54 l1.toNatClampNeg) = 0 then (if (nI 136) ≤ (I l0 48 6) then (bX4_list_77 n l0 l1 l2 I) else (bX4_list_24 n am_fu l0 l1 l2 (I l0 48 6) I)) else (bX4_list_77 n l0 l1 l2 I))
theorem tX4_list_0 {G : am_G} (hG : am_ok G) {d : Nat} {l0 : Nat} {l1 : Int32} {l2 : Int32} (hl0 : l0 < G.2.2.2.1) {I : am_I} {r : am_I} (h : bX4_list_0 G.2.2.2.1 l0 l1 l2  I = some r) : am_J G d mX4_list am_no (am_E none r) 0 [some (.inr (l0, 48)), some (.inl l1), some (.inl l2), none] [] I := by
  unfold bX4_list_0 at h
  refine am_aload_n dX4_list_0 rfl ?_
  refine am_get (v := .inr (l0, 54)) dX4_list_1 fl_4_28 (hG.mn hl0 (by decide) (by decide)) rfl ?_
  refine am_iload_n dX4_list_4 rfl ?_
  obtain ⟨g1, h⟩ := am_gd_some h
  refine am_ialdG dX4_list_5 (hG.mn hl0 (by decide) (by decide)) rfl g1 (show 136 < 2 ^ 31 by decide) ?_
  refine am_if_ne (tgt := 77) dX4_list_6 rfl (fun c => ?_) (fun c => ?_)
  · rw [if_neg c] at h
    exact am_lwJ (lo' := [some (.inr (l0, 48)), some (.inl l1), some (.inl l2), none]) ⟨rfl, rfl, rfl, trivial⟩ (tX4_list_77 hG hl0 h)
  · rw [if_pos c] at h
    refine am_aload_n dX4_list_9 rfl ?_
    refine am_get (v := .inl (I l0 48 6)) dX4_list_10 fl_4_43 (hG.mn hl0 (by decide) (by decide)) rfl ?_
    refine am_sipush (v := nI 136) dX4_list_13 (by decide) ?_
    refine am_icmp_ge (tgt := 77) dX4_list_16 rfl (fun c => ?_) (fun c => ?_)
    · rw [if_pos c] at h
      exact am_lwJ (lo' := [some (.inr (l0, 48)), some (.inl l1), some (.inl l2), none]) ⟨rfl, rfl, rfl, trivial⟩ (tX4_list_77 hG hl0 h)
    · rw [if_neg c] at h
      refine am_aload_n dX4_list_19 rfl ?_
      refine am_get (v := .inl (I l0 48 6)) dX4_list_20 fl_4_43 (hG.mn hl0 (by decide) (by decide)) rfl ?_
      refine am_istore_n dX4_list_23 (by decide) ?_
      exact am_lwJ (lo' := [some (.inr (l0, 48)), some (.inl l1), some (.inl l2), some (.inl (I l0 48 6))]) ⟨rfl, rfl, rfl, rfl, trivial⟩ (tX4_list_24 hG hl0 h)
def gX4_list (n : Nat) (l0 : Nat) (l1 : Int32) (l2 : Int32) (I : am_I) : Option (am_I) := bX4_list_0 n l0 l1 l2 I
theorem sX4_list {G : am_G} (hG : am_ok G) {d : Nat} {l0 : Nat} {l1 : Int32} {l2 : Int32} (hl0 : l0 < G.2.2.2.1) {I : am_I} {r : am_I} (h : gX4_list G.2.2.2.1 l0 l1 l2 I = some r) : am_C G d mX4_list [.inr (l0, 48), .inl l1, .inl l2] I (am_E none r) :=
  am_of (by decide +kernel) hG.nd (Nat.le_of_ble_eq_true rfl) (am_lwJ (lo' := [some (.inr (l0, 48)), some (.inl l1), some (.inl l2), none]) ⟨rfl, rfl, rfl, trivial⟩ (tX4_list_0 hG hl0 h))
def bX4_waitsToGoDown_24 (n : Nat) (s0 : Int32) (I : am_I) : Option (Int32 × am_I) := am_gd (am_01 s0) (some (s0, I))
theorem tX4_waitsToGoDown_24 {G : am_G} (hG : am_ok G) {d : Nat} {s0 : Int32} {I : am_I} {r : Int32 × am_I} (h : bX4_waitsToGoDown_24 G.2.2.2.1 s0  I = some r) : am_J G d mX4_waitsToGoDown am_no (am_E (some r.1) r.2) 24 [none, none] [.inl s0] I := by
  unfold bX4_waitsToGoDown_24 at h
  obtain ⟨g1, h⟩ := am_gd_some h
  cases h
  exact am_iret dX4_waitsToGoDown_24 rfl (am_nz (am_01_of g1)).1 ⟨rfl, rfl⟩
def bX4_waitsToGoDown_23 (n : Nat) (I : am_I) : Option (Int32 × am_I) := bX4_waitsToGoDown_24 n (nI 0) I
theorem tX4_waitsToGoDown_23 {G : am_G} (hG : am_ok G) {d : Nat} {I : am_I} {r : Int32 × am_I} (h : bX4_waitsToGoDown_23 G.2.2.2.1  I = some r) : am_J G d mX4_waitsToGoDown am_no (am_E (some r.1) r.2) 23 [none, none] [] I := by
  unfold bX4_waitsToGoDown_23 at h
  refine am_iconst (v := nI 0) dX4_waitsToGoDown_23 (by decide) ?_
  exact am_lwJ (lo' := [none, none]) trivial (tX4_waitsToGoDown_24 hG h)
def bX4_waitsToGoDown_0 (n : Nat) (l0 : Nat) (l1 : Int32) (I : am_I) : Option (Int32 × am_I) := am_gd (am_inb l1 136) (if (I l0 51 l1.toNatClampNeg) = (-1 : Int32) then (bX4_waitsToGoDown_23 n I) else (am_gd (am_inb l1 136) (if (I l0 52 l1.toNatClampNeg) = 0 then (bX4_waitsToGoDown_24 n (nI 1) I) else (bX4_waitsToGoDown_23 n I))))
theorem tX4_waitsToGoDown_0 {G : am_G} (hG : am_ok G) {d : Nat} {l0 : Nat} {l1 : Int32} (hl0 : l0 < G.2.2.2.1) {I : am_I} {r : Int32 × am_I} (h : bX4_waitsToGoDown_0 G.2.2.2.1 l0 l1  I = some r) : am_J G d mX4_waitsToGoDown am_no (am_E (some r.1) r.2) 0 [some (.inr (l0, 48)), some (.inl l1)] [] I := by
  unfold bX4_waitsToGoDown_0 at h
  refine am_aload_n dX4_waitsToGoDown_0 rfl ?_
  refine am_get (v := .inr (l0, 51)) dX4_waitsToGoDown_1 fl_4_18 (hG.mn hl0 (by decide) (by decide)) rfl ?_
  refine am_iload_n dX4_waitsToGoDown_4 rfl ?_
  obtain ⟨g1, h⟩ := am_gd_some h
  refine am_ialdG dX4_waitsToGoDown_5 (hG.mn hl0 (by decide) (by decide)) rfl g1 (show 136 < 2 ^ 31 by decide) ?_
  refine am_iconst (v := (-1 : Int32)) dX4_waitsToGoDown_6 (by decide) ?_
  refine am_icmp_eq (tgt := 23) dX4_waitsToGoDown_7 rfl (fun c => ?_) (fun c => ?_)
  · rw [if_pos c] at h
    exact am_lwJ (lo' := [none, none]) trivial (tX4_waitsToGoDown_23 hG h)
  · rw [if_neg c] at h
    refine am_aload_n dX4_waitsToGoDown_10 rfl ?_
    refine am_get (v := .inr (l0, 52)) dX4_waitsToGoDown_11 fl_4_21 (hG.mn hl0 (by decide) (by decide)) rfl ?_
    refine am_iload_n dX4_waitsToGoDown_14 rfl ?_
    obtain ⟨g2, h⟩ := am_gd_some h
    refine am_zaldG dX4_waitsToGoDown_15 (hG.mn hl0 (by decide) (by decide)) rfl g2 (show 136 < 2 ^ 31 by decide) ?_
    refine am_if_ne (tgt := 23) dX4_waitsToGoDown_16 rfl (fun c => ?_) (fun c => ?_)
    · rw [if_neg c] at h
      exact am_lwJ (lo' := [none, none]) trivial (tX4_waitsToGoDown_23 hG h)
    · rw [if_pos c] at h
      refine am_iconst (v := nI 1) dX4_waitsToGoDown_19 (by decide) ?_
      refine am_goto (tgt := 24) dX4_waitsToGoDown_20 rfl ?_
      exact am_lwJ (lo' := [none, none]) trivial (tX4_waitsToGoDown_24 hG h)
def gX4_waitsToGoDown (n : Nat) (l0 : Nat) (l1 : Int32) (I : am_I) : Option (Int32 × am_I) := bX4_waitsToGoDown_0 n l0 l1 I
theorem sX4_waitsToGoDown {G : am_G} (hG : am_ok G) {d : Nat} {l0 : Nat} {l1 : Int32} (hl0 : l0 < G.2.2.2.1) {I : am_I} {r : Int32 × am_I} (h : gX4_waitsToGoDown G.2.2.2.1 l0 l1 I = some r) : am_C G d mX4_waitsToGoDown [.inr (l0, 48), .inl l1] I (am_E (some r.1) r.2) :=
  am_of (by decide +kernel) hG.nd (Nat.le_of_ble_eq_true rfl) (am_lwJ (lo' := [some (.inr (l0, 48)), some (.inl l1)]) ⟨rfl, rfl, trivial⟩ (tX4_waitsToGoDown_0 hG hl0 h))
def bX1_dropAll_2 (n : Nat) : Nat → Nat → Int32 → Int32 → Int32 → am_I → Option (am_I)
  | 0, _, _, _, _, _ => none
  | fu + 1, l0, l1, l2, l3, I => (fun k2 => if l2 ≤ l3 then (some I) else (am_gd (am_inb (l1 + l3) 10240) ((gX1_drop n l0 (I l0 42 ((l1 + l3).toNatClampNeg)) I).bind (fun q2 => k2 l0 l1 l2 (l3 + nI 1) q2)))) (bX1_dropAll_2 n fu)
theorem tX1_dropAll_2 {G : am_G} (hG : am_ok G) {d : Nat} : ∀ {fu : Nat} {l0 : Nat} {l1 : Int32} {l2 : Int32} {l3 : Int32} (hl0 : l0 < G.2.2.2.1) {I : am_I} {r : am_I}, bX1_dropAll_2 G.2.2.2.1 fu l0 l1 l2 l3 I = some r → am_J G (d + 1) mX1_dropAll am_no (am_E none r) 2 [some (.inr (l0, 41)), some (.inl l1), some (.inl l2), some (.inl l3)] [] I := by
  intro fu
  induction fu with
  | zero => intro l0 l1 l2 l3 hl0 I r h; cases h
  | succ fu ih =>
    intro l0 l1 l2 l3 hl0 I r h
    have hk2 : ∀ (l0 : Nat) (l1 : Int32) (l2 : Int32) (l3 : Int32) (hl0 : l0 < G.2.2.2.1) (I : am_I) (r : am_I), bX1_dropAll_2 G.2.2.2.1 fu l0 l1 l2 l3 I = some r → am_J G (d + 1) mX1_dropAll am_no (am_E none r) 2 [some (.inr (l0, 41)), some (.inl l1), some (.inl l2), some (.inl l3)] [] I := fun l0 l1 l2 l3 hl0 I r h => ih hl0 h
    unfold bX1_dropAll_2 at h
    generalize bX1_dropAll_2 G.2.2.2.1 fu = k2 at hk2 h
    dsimp only at h
    refine am_iload_n dX1_dropAll_2 rfl ?_
    refine am_iload_n dX1_dropAll_3 rfl ?_
    refine am_icmp_ge (tgt := 25) dX1_dropAll_4 rfl (fun c => ?_) (fun c => ?_)
    · rw [if_pos c] at h
      cases h
      exact am_vret dX1_dropAll_25 rfl ⟨rfl, rfl⟩
    · rw [if_neg c] at h
      refine am_aload_n dX1_dropAll_7 rfl ?_
      refine am_aload_n dX1_dropAll_8 rfl ?_
      refine am_get (v := .inr (l0, 42)) dX1_dropAll_9 fl_1_9 (hG.mn hl0 (by decide) (by decide)) rfl ?_
      refine am_iload_n dX1_dropAll_12 rfl ?_
      refine am_iload_n dX1_dropAll_13 rfl ?_
      refine am_iadd dX1_dropAll_14 ?_
      obtain ⟨g1, h⟩ := am_gd_some h
      refine am_ialdG dX1_dropAll_15 (hG.mn hl0 (by decide) (by decide)) rfl g1 (show 10240 < 2 ^ 31 by decide) ?_
      obtain ⟨q2, hq2, h⟩ := am_bd h
      refine am_callVe (i := l0) (j := 41) (as := [.inl (I l0 42 ((l1 + l3).toNatClampNeg))]) (rest := []) dX1_dropAll_16 lkX1_drop ml_X1_27 imX1_drop seX1_drop rfl rfl (hG.mn hl0 (by decide) (by decide)) rfl (Nat.le_of_ble_eq_true rfl) rfl (sX1_drop hG hl0 hq2) ?_
      refine am_iinc (v := l3 + nI 1) dX1_dropAll_19 rfl rfl ?_
      refine am_goto (tgt := 2) dX1_dropAll_22 rfl ?_
      exact am_lwJ (lo' := [some (.inr (l0, 41)), some (.inl l1), some (.inl l2), some (.inl (l3 + nI 1))]) ⟨rfl, rfl, rfl, rfl, trivial⟩ (hk2 l0 l1 l2 (l3 + nI 1) hl0 _ _ h)
def bX1_dropAll_0 (n : Nat) (l0 : Nat) (l1 : Int32) (l2 : Int32) (I : am_I) : Option (am_I) := bX1_dropAll_2 n am_fu l0 l1 l2 (nI 0) I
theorem tX1_dropAll_0 {G : am_G} (hG : am_ok G) {d : Nat} {l0 : Nat} {l1 : Int32} {l2 : Int32} (hl0 : l0 < G.2.2.2.1) {I : am_I} {r : am_I} (h : bX1_dropAll_0 G.2.2.2.1 l0 l1 l2  I = some r) : am_J G (d + 1) mX1_dropAll am_no (am_E none r) 0 [some (.inr (l0, 41)), some (.inl l1), some (.inl l2), none] [] I := by
  unfold bX1_dropAll_0 at h
  refine am_iconst (v := nI 0) dX1_dropAll_0 (by decide) ?_
  refine am_istore_n dX1_dropAll_1 (by decide) ?_
  exact am_lwJ (lo' := [some (.inr (l0, 41)), some (.inl l1), some (.inl l2), some (.inl (nI 0))]) ⟨rfl, rfl, rfl, rfl, trivial⟩ (tX1_dropAll_2 hG hl0 h)
def gX1_dropAll (n : Nat) (l0 : Nat) (l1 : Int32) (l2 : Int32) (I : am_I) : Option (am_I) := bX1_dropAll_0 n l0 l1 l2 I
theorem sX1_dropAll {G : am_G} (hG : am_ok G) {d : Nat} {l0 : Nat} {l1 : Int32} {l2 : Int32} (hl0 : l0 < G.2.2.2.1) {I : am_I} {r : am_I} (h : gX1_dropAll G.2.2.2.1 l0 l1 l2 I = some r) : am_C G (d + 1) mX1_dropAll [.inr (l0, 41), .inl l1, .inl l2] I (am_E none r) :=
  am_of (by decide +kernel) hG.nd (Nat.le_of_ble_eq_true rfl) (am_lwJ (lo' := [some (.inr (l0, 41)), some (.inl l1), some (.inl l2), none]) ⟨rfl, rfl, rfl, trivial⟩ (tX1_dropAll_0 hG hl0 h))
def bX1_dropResource_91 (n : Nat) (l0 : Nat) (l2 : Int32) (I : am_I) : Option (am_I) := (gX1_drop n l0 l2 I).bind (fun q1 => some q1)
theorem tX1_dropResource_91 {G : am_G} (hG : am_ok G) {d : Nat} {l0 : Nat} {l2 : Int32} (hl0 : l0 < G.2.2.2.1) {I : am_I} {r : am_I} (h : bX1_dropResource_91 G.2.2.2.1 l0 l2  I = some r) : am_J G (d + 2) mX1_dropResource am_no (am_E none r) 91 [some (.inr (l0, 41)), none, some (.inl l2), none] [] I := by
  unfold bX1_dropResource_91 at h
  refine am_aload_n dX1_dropResource_91 rfl ?_
  refine am_iload_n dX1_dropResource_92 rfl ?_
  obtain ⟨q1, hq1, h⟩ := am_bd h
  refine am_callVe (i := l0) (j := 41) (as := [.inl l2]) (rest := []) dX1_dropResource_93 lkX1_drop ml_X1_27 imX1_drop seX1_drop rfl rfl (hG.mn hl0 (by decide) (by decide)) rfl (Nat.le_of_ble_eq_true rfl) rfl (sX1_drop hG hl0 hq1) ?_
  cases h
  exact am_vret dX1_dropResource_96 rfl ⟨rfl, rfl⟩
def bX1_dropResource_0 (n : Nat) (l0 : Nat) (l1 : Int32) (I : am_I) : Option (am_I) := if l1 < (nI 128) then ((gX10_inodeBlock n l1 I).bind (fun q1 => am_gd (am_inb q1.1 640) (if (q1.2 l0 43 q1.1.toNatClampNeg) = 0 then (some q1.2) else ((gX1_dropAll n l0 ((q1.1 * (nI 16)) + (nI 3)) (nI 8) q1.2).bind (fun q3 => am_gd (am_inb ((q1.1 * (nI 16)) + (nI 11)) 10240) ((gX10_isData n (q3 l0 42 (((q1.1 * (nI 16)) + (nI 11)).toNatClampNeg)) q3).bind (fun q5 => if q5.1 = 0 then (bX1_dropResource_91 n l0 q1.1 q5.2) else (am_gd (am_inb (q3 l0 42 (((q1.1 * (nI 16)) + (nI 11)).toNatClampNeg)) 640) (if (q5.2 l0 43 ((q3 l0 42 (((q1.1 * (nI 16)) + (nI 11)).toNatClampNeg)).toNatClampNeg)) = 0 then (bX1_dropResource_91 n l0 q1.1 q5.2) else ((gX1_dropAll n l0 ((q3 l0 42 (((q1.1 * (nI 16)) + (nI 11)).toNatClampNeg)) * (nI 16)) (nI 16) q5.2).bind (fun q7 => (gX1_drop n l0 (q3 l0 42 (((q1.1 * (nI 16)) + (nI 11)).toNatClampNeg)) q7).bind (fun q8 => bX1_dropResource_91 n l0 q1.1 q8)))))))))))) else ((gX10_mapBlock n (l1 - (nI 128)) I).bind (fun q9 => (gX1_drop n l0 q9.1 q9.2).bind (fun q10 => some q10)))
theorem tX1_dropResource_0 {G : am_G} (hG : am_ok G) {d : Nat} {l0 : Nat} {l1 : Int32} (hl0 : l0 < G.2.2.2.1) {I : am_I} {r : am_I} (h : bX1_dropResource_0 G.2.2.2.1 l0 l1  I = some r) : am_J G (d + 2) mX1_dropResource am_no (am_E none r) 0 [some (.inr (l0, 41)), some (.inl l1), none, none] [] I := by
  unfold bX1_dropResource_0 at h
  refine am_iload_n dX1_dropResource_0 rfl ?_
  refine am_sipush (v := nI 128) dX1_dropResource_1 (by decide) ?_
  refine am_icmp_lt (tgt := 20) dX1_dropResource_4 rfl (fun c => ?_) (fun c => ?_)
  · rw [if_pos c] at h
    refine am_iload_n dX1_dropResource_20 rfl ?_
    obtain ⟨q1, hq1, h⟩ := am_bd h
    refine am_callSNx (as := [.inl l1]) (rest := []) dX1_dropResource_21 lkX10_inodeBlock nl_X1_31 isX10_inodeBlock rfl (Nat.le_of_ble_eq_true rfl) rfl (sX10_inodeBlock hG hq1) ?_
    refine am_istore_n dX1_dropResource_24 (by decide) ?_
    refine am_aload_n dX1_dropResource_25 rfl ?_
    refine am_get (v := .inr (l0, 43)) dX1_dropResource_26 fl_1_15 (hG.mn hl0 (by decide) (by decide)) rfl ?_
    refine am_iload_n dX1_dropResource_29 rfl ?_
    obtain ⟨g2, h⟩ := am_gd_some h
    refine am_zaldG dX1_dropResource_30 (hG.mn hl0 (by decide) (by decide)) rfl g2 (show 640 < 2 ^ 31 by decide) ?_
    refine am_if_ne (tgt := 35) dX1_dropResource_31 rfl (fun c => ?_) (fun c => ?_)
    · rw [if_neg c] at h
      refine am_aload_n dX1_dropResource_35 rfl ?_
      refine am_iload_n dX1_dropResource_36 rfl ?_
      refine am_bipush (v := nI 16) dX1_dropResource_37 (by decide) ?_
      refine am_imul dX1_dropResource_39 ?_
      refine am_iconst (v := nI 3) dX1_dropResource_40 (by decide) ?_
      refine am_iadd dX1_dropResource_41 ?_
      refine am_bipush (v := nI 8) dX1_dropResource_42 (by decide) ?_
      obtain ⟨q3, hq3, h⟩ := am_bd h
      refine am_callVe (i := l0) (j := 41) (as := [.inl ((q1.1 * (nI 16)) + (nI 3)), .inl (nI 8)]) (rest := []) dX1_dropResource_44 lkX1_dropAll ml_X1_34 imX1_dropAll seX1_dropAll rfl rfl (hG.mn hl0 (by decide) (by decide)) rfl (Nat.le_of_ble_eq_true rfl) rfl (sX1_dropAll hG hl0 hq3) ?_
      refine am_aload_n dX1_dropResource_47 rfl ?_
      refine am_get (v := .inr (l0, 42)) dX1_dropResource_48 fl_1_9 (hG.mn hl0 (by decide) (by decide)) rfl ?_
      refine am_iload_n dX1_dropResource_51 rfl ?_
      refine am_bipush (v := nI 16) dX1_dropResource_52 (by decide) ?_
      refine am_imul dX1_dropResource_54 ?_
      refine am_bipush (v := nI 11) dX1_dropResource_55 (by decide) ?_
      refine am_iadd dX1_dropResource_57 ?_
      obtain ⟨g4, h⟩ := am_gd_some h
      refine am_ialdG dX1_dropResource_58 (hG.mn hl0 (by decide) (by decide)) rfl g4 (show 10240 < 2 ^ 31 by decide) ?_
      refine am_istore_n dX1_dropResource_59 (by decide) ?_
      refine am_iload_n dX1_dropResource_60 rfl ?_
      obtain ⟨q5, hq5, h⟩ := am_bd h
      refine am_callSNx (as := [.inl (q3 l0 42 (((q1.1 * (nI 16)) + (nI 11)).toNatClampNeg))]) (rest := []) dX1_dropResource_61 lkX10_isData nl_X1_38 isX10_isData rfl (Nat.le_of_ble_eq_true rfl) rfl (sX10_isData hG hq5) ?_
      refine am_if_eq (tgt := 91) dX1_dropResource_64 rfl (fun c => ?_) (fun c => ?_)
      · rw [if_pos c] at h
        exact am_lwJ (lo' := [some (.inr (l0, 41)), none, some (.inl q1.1), none]) ⟨rfl, rfl, trivial⟩ (tX1_dropResource_91 hG hl0 h)
      · rw [if_neg c] at h
        refine am_aload_n dX1_dropResource_67 rfl ?_
        refine am_get (v := .inr (l0, 43)) dX1_dropResource_68 fl_1_15 (hG.mn hl0 (by decide) (by decide)) rfl ?_
        refine am_iload_n dX1_dropResource_71 rfl ?_
        obtain ⟨g6, h⟩ := am_gd_some h
        refine am_zaldG dX1_dropResource_72 (hG.mn hl0 (by decide) (by decide)) rfl g6 (show 640 < 2 ^ 31 by decide) ?_
        refine am_if_eq (tgt := 91) dX1_dropResource_73 rfl (fun c => ?_) (fun c => ?_)
        · rw [if_pos c] at h
          exact am_lwJ (lo' := [some (.inr (l0, 41)), none, some (.inl q1.1), none]) ⟨rfl, rfl, trivial⟩ (tX1_dropResource_91 hG hl0 h)
        · rw [if_neg c] at h
          refine am_aload_n dX1_dropResource_76 rfl ?_
          refine am_iload_n dX1_dropResource_77 rfl ?_
          refine am_bipush (v := nI 16) dX1_dropResource_78 (by decide) ?_
          refine am_imul dX1_dropResource_80 ?_
          refine am_bipush (v := nI 16) dX1_dropResource_81 (by decide) ?_
          obtain ⟨q7, hq7, h⟩ := am_bd h
          refine am_callVe (i := l0) (j := 41) (as := [.inl ((q3 l0 42 (((q1.1 * (nI 16)) + (nI 11)).toNatClampNeg)) * (nI 16)), .inl (nI 16)]) (rest := []) dX1_dropResource_83 lkX1_dropAll ml_X1_34 imX1_dropAll seX1_dropAll rfl rfl (hG.mn hl0 (by decide) (by decide)) rfl (Nat.le_of_ble_eq_true rfl) rfl (sX1_dropAll hG hl0 hq7) ?_
          refine am_aload_n dX1_dropResource_86 rfl ?_
          refine am_iload_n dX1_dropResource_87 rfl ?_
          obtain ⟨q8, hq8, h⟩ := am_bd h
          refine am_callVe (i := l0) (j := 41) (as := [.inl (q3 l0 42 (((q1.1 * (nI 16)) + (nI 11)).toNatClampNeg))]) (rest := []) dX1_dropResource_88 lkX1_drop ml_X1_27 imX1_drop seX1_drop rfl rfl (hG.mn hl0 (by decide) (by decide)) rfl (Nat.le_of_ble_eq_true rfl) rfl (sX1_drop hG hl0 hq8) ?_
          exact am_lwJ (lo' := [some (.inr (l0, 41)), none, some (.inl q1.1), none]) ⟨rfl, rfl, trivial⟩ (tX1_dropResource_91 hG hl0 h)
    · rw [if_pos c] at h
      cases h
      exact am_vret dX1_dropResource_34 rfl ⟨rfl, rfl⟩
  · rw [if_neg c] at h
    refine am_aload_n dX1_dropResource_7 rfl ?_
    refine am_iload_n dX1_dropResource_8 rfl ?_
    refine am_sipush (v := nI 128) dX1_dropResource_9 (by decide) ?_
    refine am_isub dX1_dropResource_12 ?_
    obtain ⟨q9, hq9, h⟩ := am_bd h
    refine am_callSNx (as := [.inl (l1 - (nI 128))]) (rest := [.inr (l0, 41)]) dX1_dropResource_13 lkX10_mapBlock nl_X1_23 isX10_mapBlock rfl (Nat.le_of_ble_eq_true rfl) rfl (sX10_mapBlock hG hq9) ?_
    obtain ⟨q10, hq10, h⟩ := am_bd h
    refine am_callVe (i := l0) (j := 41) (as := [.inl q9.1]) (rest := []) dX1_dropResource_16 lkX1_drop ml_X1_27 imX1_drop seX1_drop rfl rfl (hG.mn hl0 (by decide) (by decide)) rfl (Nat.le_of_ble_eq_true rfl) rfl (sX1_drop hG hl0 hq10) ?_
    cases h
    exact am_vret dX1_dropResource_19 rfl ⟨rfl, rfl⟩
def gX1_dropResource (n : Nat) (l0 : Nat) (l1 : Int32) (I : am_I) : Option (am_I) := bX1_dropResource_0 n l0 l1 I
theorem sX1_dropResource {G : am_G} (hG : am_ok G) {d : Nat} {l0 : Nat} {l1 : Int32} (hl0 : l0 < G.2.2.2.1) {I : am_I} {r : am_I} (h : gX1_dropResource G.2.2.2.1 l0 l1 I = some r) : am_C G (d + 2) mX1_dropResource [.inr (l0, 41), .inl l1] I (am_E none r) :=
  am_of (by decide +kernel) hG.nd (Nat.le_of_ble_eq_true rfl) (am_lwJ (lo' := [some (.inr (l0, 41)), some (.inl l1), none, none]) ⟨rfl, rfl, trivial⟩ (tX1_dropResource_0 hG hl0 h))
def bX10_goDown_76 (n : Nat) (l1 : Nat) (l2 : Int32) (l4 : Int32) (I : am_I) : Option (am_I) := (gX10_masterOf n l2 I).bind (fun q1 => (gX10_post n (I l1 40 0) q1.1 (nI 3) l2 l4 q1.2).bind (fun q2 => some q2))
theorem tX10_goDown_76 {G : am_G} (hG : am_ok G) {d : Nat} {l1 : Nat} {l2 : Int32} {l4 : Int32} (hl1 : l1 < G.2.2.2.1) {I : am_I} {r : am_I} (h : bX10_goDown_76 G.2.2.2.1 l1 l2 l4  I = some r) : am_J G (d + 3) mX10_goDown am_no (am_E none r) 76 [some (.inr (0, 0)), some (.inr (l1, 40)), some (.inl l2), none, some (.inl l4)] [] I := by
  unfold bX10_goDown_76 at h
  refine am_aload_n dX10_goDown_76 rfl ?_
  refine am_aload_n dX10_goDown_77 rfl ?_
  refine am_get (v := .inl (I l1 40 0)) dX10_goDown_78 fl_10_388 (hG.mn hl1 (by decide) (by decide)) rfl ?_
  refine am_aload_n dX10_goDown_81 rfl ?_
  refine am_iload_n dX10_goDown_82 rfl ?_
  obtain ⟨q1, hq1, h⟩ := am_bd h
  refine am_callVx (i := 0) (j := 0) (as := [.inl l2]) (rest := [.inl (I l1 40 0), .inr (0, 0)]) dX10_goDown_83 lkX10_masterOf ml_X10_158 imX10_masterOf seX10_masterOf rfl rfl (hG.m0 (by decide)) rfl (Nat.le_of_ble_eq_true rfl) rfl (sX10_masterOf hG hq1) ?_
  refine am_iconst (v := nI 3) dX10_goDown_86 (by decide) ?_
  refine am_iload_n dX10_goDown_87 rfl ?_
  refine am_iload dX10_goDown_88 rfl ?_
  obtain ⟨q2, hq2, h⟩ := am_bd h
  refine am_callVe (i := 0) (j := 0) (as := [.inl (I l1 40 0), .inl q1.1, .inl (nI 3), .inl l2, .inl l4]) (rest := []) dX10_goDown_90 lkX10_post ml_X10_391 imX10_post seX10_post rfl rfl (hG.m0 (by decide)) rfl (Nat.le_of_ble_eq_true rfl) rfl (sX10_post hG hq2) ?_
  cases h
  exact am_vret dX10_goDown_93 rfl ⟨rfl, rfl⟩
def bX10_goDown_40 (n : Nat) (l1 : Nat) (l2 : Int32) (l3 : Nat) (I : am_I) : Option (am_I) := am_gd (am_inb l2 136) (am_gd (am_inb l2 136) (am_lt (am_up I l3 49 l2.toNatClampNeg (I l3 51 l2.toNatClampNeg)) (fun I3 => am_gd (am_inb l2 136) (am_lt (am_up I3 l3 51 l2.toNatClampNeg (-1 : Int32)) (fun I5 => if (I l3 51 l2.toNatClampNeg) = 0 then ((gX1_dropResource n l1 l2 I5).bind (fun q6 => bX10_goDown_76 n l1 l2 (I l3 51 l2.toNatClampNeg) q6)) else (bX10_goDown_76 n l1 l2 (I l3 51 l2.toNatClampNeg) I5))))))
theorem tX10_goDown_40 {G : am_G} (hG : am_ok G) {d : Nat} {l1 : Nat} {l2 : Int32} {l3 : Nat} (hl1 : l1 < G.2.2.2.1) (hl3 : l3 < G.2.2.2.1) {I : am_I} {r : am_I} (h : bX10_goDown_40 G.2.2.2.1 l1 l2 l3  I = some r) : am_J G (d + 3) mX10_goDown am_no (am_E none r) 40 [some (.inr (0, 0)), some (.inr (l1, 40)), some (.inl l2), some (.inr (l3, 48)), none] [] I := by
  unfold bX10_goDown_40 at h
  refine am_aload_n dX10_goDown_40 rfl ?_
  refine am_get (v := .inr (l3, 51)) dX10_goDown_41 fl_10_256 (hG.mn hl3 (by decide) (by decide)) rfl ?_
  refine am_iload_n dX10_goDown_44 rfl ?_
  obtain ⟨g1, h⟩ := am_gd_some h
  refine am_ialdG dX10_goDown_45 (hG.mn hl3 (by decide) (by decide)) rfl g1 (show 136 < 2 ^ 31 by decide) ?_
  refine am_istore dX10_goDown_46 (by decide) ?_
  refine am_aload_n dX10_goDown_48 rfl ?_
  refine am_get (v := .inr (l3, 49)) dX10_goDown_49 fl_10_248 (hG.mn hl3 (by decide) (by decide)) rfl ?_
  refine am_iload_n dX10_goDown_52 rfl ?_
  refine am_iload dX10_goDown_53 rfl ?_
  obtain ⟨g2, h⟩ := am_gd_some h
  refine am_iastG dX10_goDown_55 (hG.mn hl3 (by decide) (by decide)) rfl g2 (show 136 < 2 ^ 31 by decide) ?_
  obtain ⟨I3, hI3, h⟩ := am_lt_some h
  refine am_st10 hI3 ?_
  refine am_aload_n dX10_goDown_56 rfl ?_
  refine am_get (v := .inr (l3, 51)) dX10_goDown_57 fl_10_256 (hG.mn hl3 (by decide) (by decide)) rfl ?_
  refine am_iload_n dX10_goDown_60 rfl ?_
  refine am_iconst (v := (-1 : Int32)) dX10_goDown_61 (by decide) ?_
  obtain ⟨g4, h⟩ := am_gd_some h
  refine am_iastG dX10_goDown_62 (hG.mn hl3 (by decide) (by decide)) rfl g4 (show 136 < 2 ^ 31 by decide) ?_
  obtain ⟨I5, hI5, h⟩ := am_lt_some h
  refine am_st10 hI5 ?_
  refine am_iload dX10_goDown_63 rfl ?_
  refine am_if_ne (tgt := 76) dX10_goDown_65 rfl (fun c => ?_) (fun c => ?_)
  · rw [if_neg c] at h
    exact am_lwJ (lo' := [some (.inr (0, 0)), some (.inr (l1, 40)), some (.inl l2), none, some (.inl (I l3 51 l2.toNatClampNeg))]) ⟨rfl, rfl, rfl, rfl, trivial⟩ (tX10_goDown_76 hG hl1 h)
  · rw [if_pos c] at h
    refine am_aload_n dX10_goDown_68 rfl ?_
    refine am_get (v := .inr (l1, 41)) dX10_goDown_69 fl_10_221 (hG.mn hl1 (by decide) (by decide)) rfl ?_
    refine am_iload_n dX10_goDown_72 rfl ?_
    obtain ⟨q6, hq6, h⟩ := am_bd h
    refine am_callVe (i := l1) (j := 41) (as := [.inl l2]) (rest := []) dX10_goDown_73 lkX1_dropResource ml_X10_457 imX1_dropResource seX1_dropResource rfl rfl (hG.mn hl1 (by decide) (by decide)) rfl (Nat.le_of_ble_eq_true rfl) rfl (sX1_dropResource hG hl1 hq6) ?_
    exact am_lwJ (lo' := [some (.inr (0, 0)), some (.inr (l1, 40)), some (.inl l2), none, some (.inl (I l3 51 l2.toNatClampNeg))]) ⟨rfl, rfl, rfl, rfl, trivial⟩ (tX10_goDown_76 hG hl1 h)
def bX10_goDown_0 (n : Nat) (l1 : Nat) (l2 : Int32) (I : am_I) : Option (am_I) := (gX4_waitsToGoDown n l1 l2 I).bind (fun q1 => if q1.1 = 0 then (some q1.2) else (am_gd (am_inb l2 136) (if (q1.2 l1 49 l2.toNatClampNeg) = (nI 2) then ((gX3_isIdle n l1 q1.2).bind (fun q3 => if q3.1 = 0 then ((gX10_beginFlush n l1 q3.2).bind (fun q4 => some q4)) else (bX10_goDown_40 n l1 l2 l1 q3.2))) else (bX10_goDown_40 n l1 l2 l1 q1.2))))
theorem tX10_goDown_0 {G : am_G} (hG : am_ok G) {d : Nat} {l1 : Nat} {l2 : Int32} (hl1 : l1 < G.2.2.2.1) {I : am_I} {r : am_I} (h : bX10_goDown_0 G.2.2.2.1 l1 l2  I = some r) : am_J G (d + 3) mX10_goDown am_no (am_E none r) 0 [some (.inr (0, 0)), some (.inr (l1, 40)), some (.inl l2), none, none] [] I := by
  unfold bX10_goDown_0 at h
  refine am_aload_n dX10_goDown_0 rfl ?_
  refine am_get (v := .inr (l1, 48)) dX10_goDown_1 fl_10_244 (hG.mn hl1 (by decide) (by decide)) rfl ?_
  refine am_astore_n dX10_goDown_4 (by decide) ?_
  refine am_aload_n dX10_goDown_5 rfl ?_
  refine am_iload_n dX10_goDown_6 rfl ?_
  obtain ⟨q1, hq1, h⟩ := am_bd h
  refine am_callVx (i := l1) (j := 48) (as := [.inl l2]) (rest := []) dX10_goDown_7 lkX4_waitsToGoDown ml_X10_454 imX4_waitsToGoDown seX4_waitsToGoDown rfl rfl (hG.mn hl1 (by decide) (by decide)) rfl (Nat.le_of_ble_eq_true rfl) rfl (sX4_waitsToGoDown hG hl1 hq1) ?_
  refine am_if_ne (tgt := 14) dX10_goDown_10 rfl (fun c => ?_) (fun c => ?_)
  · rw [if_neg c] at h
    refine am_aload_n dX10_goDown_14 rfl ?_
    refine am_get (v := .inr (l1, 49)) dX10_goDown_15 fl_10_248 (hG.mn hl1 (by decide) (by decide)) rfl ?_
    refine am_iload_n dX10_goDown_18 rfl ?_
    obtain ⟨g2, h⟩ := am_gd_some h
    refine am_ialdG dX10_goDown_19 (hG.mn hl1 (by decide) (by decide)) rfl g2 (show 136 < 2 ^ 31 by decide) ?_
    refine am_iconst (v := nI 2) dX10_goDown_20 (by decide) ?_
    refine am_icmp_ne (tgt := 40) dX10_goDown_21 rfl (fun c => ?_) (fun c => ?_)
    · rw [if_neg c] at h
      exact am_lwJ (lo' := [some (.inr (0, 0)), some (.inr (l1, 40)), some (.inl l2), some (.inr (l1, 48)), none]) ⟨rfl, rfl, rfl, rfl, trivial⟩ (tX10_goDown_40 hG hl1 hl1 h)
    · rw [if_pos c] at h
      refine am_aload_n dX10_goDown_24 rfl ?_
      refine am_get (v := .inr (l1, 44)) dX10_goDown_25 fl_10_284 (hG.mn hl1 (by decide) (by decide)) rfl ?_
      obtain ⟨q3, hq3, h⟩ := am_bd h
      refine am_callVx (i := l1) (j := 44) (as := []) (rest := []) dX10_goDown_28 lkX3_isIdle ml_X10_377 imX3_isIdle seX3_isIdle rfl rfl (hG.mn hl1 (by decide) (by decide)) rfl (Nat.le_of_ble_eq_true rfl) rfl (sX3_isIdle hG hl1 hq3) ?_
      refine am_if_ne (tgt := 40) dX10_goDown_31 rfl (fun c => ?_) (fun c => ?_)
      · rw [if_neg c] at h
        exact am_lwJ (lo' := [some (.inr (0, 0)), some (.inr (l1, 40)), some (.inl l2), some (.inr (l1, 48)), none]) ⟨rfl, rfl, rfl, rfl, trivial⟩ (tX10_goDown_40 hG hl1 hl1 h)
      · rw [if_pos c] at h
        refine am_aload_n dX10_goDown_34 rfl ?_
        refine am_aload_n dX10_goDown_35 rfl ?_
        obtain ⟨q4, hq4, h⟩ := am_bd h
        refine am_callVe (i := 0) (j := 0) (as := [.inr (l1, 40)]) (rest := []) dX10_goDown_36 lkX10_beginFlush ml_X10_380 imX10_beginFlush seX10_beginFlush rfl rfl (hG.m0 (by decide)) rfl (Nat.le_of_ble_eq_true rfl) rfl (sX10_beginFlush hG hl1 hq4) ?_
        cases h
        exact am_vret dX10_goDown_39 rfl ⟨rfl, rfl⟩
  · rw [if_pos c] at h
    cases h
    exact am_vret dX10_goDown_13 rfl ⟨rfl, rfl⟩
def gX10_goDown (n : Nat) (l1 : Nat) (l2 : Int32) (I : am_I) : Option (am_I) := bX10_goDown_0 n l1 l2 I
theorem sX10_goDown {G : am_G} (hG : am_ok G) {d : Nat} {l1 : Nat} {l2 : Int32} (hl1 : l1 < G.2.2.2.1) {I : am_I} {r : am_I} (h : gX10_goDown G.2.2.2.1 l1 l2 I = some r) : am_C G (d + 3) mX10_goDown [.inr (0, 0), .inr (l1, 40), .inl l2] I (am_E none r) :=
  am_of (by decide +kernel) hG.nd (Nat.le_of_ble_eq_true rfl) (am_lwJ (lo' := [some (.inr (0, 0)), some (.inr (l1, 40)), some (.inl l2), none, none]) ⟨rfl, rfl, rfl, trivial⟩ (tX10_goDown_0 hG hl1 h))
def bX10_unpinAll_35 (n : Nat) : Nat → Nat → Nat → Int32 → am_I → Option (am_I)
  | 0, _, _, _, _ => none
  | fu + 1, l1, l2, l3, I => (fun k35 => if (I l2 48 6) ≤ l3 then (some I) else (am_gd (am_inb l3 136) ((gX10_goDown n l1 (I l2 53 l3.toNatClampNeg) I).bind (fun q2 => k35 l1 l2 (l3 + nI 1) q2)))) (bX10_unpinAll_35 n fu)
theorem tX10_unpinAll_35 {G : am_G} (hG : am_ok G) {d : Nat} : ∀ {fu : Nat} {l1 : Nat} {l2 : Nat} {l3 : Int32} (hl1 : l1 < G.2.2.2.1) (hl2 : l2 < G.2.2.2.1) {I : am_I} {r : am_I}, bX10_unpinAll_35 G.2.2.2.1 fu l1 l2 l3 I = some r → am_J G (d + 4) mX10_unpinAll am_no (am_E none r) 35 [some (.inr (0, 0)), some (.inr (l1, 40)), some (.inr (l2, 48)), some (.inl l3)] [] I := by
  intro fu
  induction fu with
  | zero => intro l1 l2 l3 hl1 hl2 I r h; cases h
  | succ fu ih =>
    intro l1 l2 l3 hl1 hl2 I r h
    have hk35 : ∀ (l1 : Nat) (l2 : Nat) (l3 : Int32) (hl1 : l1 < G.2.2.2.1) (hl2 : l2 < G.2.2.2.1) (I : am_I) (r : am_I), bX10_unpinAll_35 G.2.2.2.1 fu l1 l2 l3 I = some r → am_J G (d + 4) mX10_unpinAll am_no (am_E none r) 35 [some (.inr (0, 0)), some (.inr (l1, 40)), some (.inr (l2, 48)), some (.inl l3)] [] I := fun l1 l2 l3 hl1 hl2 I r h => ih hl1 hl2 h
    unfold bX10_unpinAll_35 at h
    generalize bX10_unpinAll_35 G.2.2.2.1 fu = k35 at hk35 h
    dsimp only at h
    refine am_iload_n dX10_unpinAll_35 rfl ?_
    refine am_aload_n dX10_unpinAll_36 rfl ?_
    refine am_get (v := .inl (I l2 48 6)) dX10_unpinAll_37 fl_10_353 (hG.mn hl2 (by decide) (by decide)) rfl ?_
    refine am_icmp_ge (tgt := 60) dX10_unpinAll_40 rfl (fun c => ?_) (fun c => ?_)
    · rw [if_pos c] at h
      cases h
      exact am_vret dX10_unpinAll_60 rfl ⟨rfl, rfl⟩
    · rw [if_neg c] at h
      refine am_aload_n dX10_unpinAll_43 rfl ?_
      refine am_aload_n dX10_unpinAll_44 rfl ?_
      refine am_aload_n dX10_unpinAll_45 rfl ?_
      refine am_get (v := .inr (l2, 53)) dX10_unpinAll_46 fl_10_383 (hG.mn hl2 (by decide) (by decide)) rfl ?_
      refine am_iload_n dX10_unpinAll_49 rfl ?_
      obtain ⟨g1, h⟩ := am_gd_some h
      refine am_ialdG dX10_unpinAll_50 (hG.mn hl2 (by decide) (by decide)) rfl g1 (show 136 < 2 ^ 31 by decide) ?_
      obtain ⟨q2, hq2, h⟩ := am_bd h
      refine am_callVe (i := 0) (j := 0) (as := [.inr (l1, 40), .inl (I l2 53 l3.toNatClampNeg)]) (rest := []) dX10_unpinAll_51 lkX10_goDown ml_X10_395 imX10_goDown seX10_goDown rfl rfl (hG.m0 (by decide)) rfl (Nat.le_of_ble_eq_true rfl) rfl (sX10_goDown hG hl1 hq2) ?_
      refine am_iinc (v := l3 + nI 1) dX10_unpinAll_54 rfl rfl ?_
      refine am_goto (tgt := 35) dX10_unpinAll_57 rfl ?_
      exact am_lwJ (lo' := [some (.inr (0, 0)), some (.inr (l1, 40)), some (.inr (l2, 48)), some (.inl (l3 + nI 1))]) ⟨rfl, rfl, rfl, rfl, trivial⟩ (hk35 l1 l2 (l3 + nI 1) hl1 hl2 _ _ h)
def bX10_unpinAll_7 (n : Nat) : Nat → Nat → Nat → Int32 → am_I → Option (am_I)
  | 0, _, _, _, _ => none
  | fu + 1, l1, l2, l3, I => (fun k7 => if (I l2 48 6) ≤ l3 then (bX10_unpinAll_35 n am_fu l1 l2 (nI 0) I) else (am_gd (am_inb l3 136) (am_gd (am_inb (I l2 53 l3.toNatClampNeg) 136) (am_lt (am_up I l2 52 (I l2 53 l3.toNatClampNeg).toNatClampNeg (nI 0)) (fun I3 => k7 l1 l2 (l3 + nI 1) I3))))) (bX10_unpinAll_7 n fu)
theorem tX10_unpinAll_7 {G : am_G} (hG : am_ok G) {d : Nat} : ∀ {fu : Nat} {l1 : Nat} {l2 : Nat} {l3 : Int32} (hl1 : l1 < G.2.2.2.1) (hl2 : l2 < G.2.2.2.1) {I : am_I} {r : am_I}, bX10_unpinAll_7 G.2.2.2.1 fu l1 l2 l3 I = some r → am_J G (d + 4) mX10_unpinAll am_no (am_E none r) 7 [some (.inr (0, 0)), some (.inr (l1, 40)), some (.inr (l2, 48)), some (.inl l3)] [] I := by
  intro fu
  induction fu with
  | zero => intro l1 l2 l3 hl1 hl2 I r h; cases h
  | succ fu ih =>
    intro l1 l2 l3 hl1 hl2 I r h
    have hk7 : ∀ (l1 : Nat) (l2 : Nat) (l3 : Int32) (hl1 : l1 < G.2.2.2.1) (hl2 : l2 < G.2.2.2.1) (I : am_I) (r : am_I), bX10_unpinAll_7 G.2.2.2.1 fu l1 l2 l3 I = some r → am_J G (d + 4) mX10_unpinAll am_no (am_E none r) 7 [some (.inr (0, 0)), some (.inr (l1, 40)), some (.inr (l2, 48)), some (.inl l3)] [] I := fun l1 l2 l3 hl1 hl2 I r h => ih hl1 hl2 h
    unfold bX10_unpinAll_7 at h
    generalize bX10_unpinAll_7 G.2.2.2.1 fu = k7 at hk7 h
    dsimp only at h
    refine am_iload_n dX10_unpinAll_7 rfl ?_
    refine am_aload_n dX10_unpinAll_8 rfl ?_
    refine am_get (v := .inl (I l2 48 6)) dX10_unpinAll_9 fl_10_353 (hG.mn hl2 (by decide) (by decide)) rfl ?_
    refine am_icmp_ge (tgt := 33) dX10_unpinAll_12 rfl (fun c => ?_) (fun c => ?_)
    · rw [if_pos c] at h
      refine am_iconst (v := nI 0) dX10_unpinAll_33 (by decide) ?_
      refine am_istore_n dX10_unpinAll_34 (by decide) ?_
      exact am_lwJ (lo' := [some (.inr (0, 0)), some (.inr (l1, 40)), some (.inr (l2, 48)), some (.inl (nI 0))]) ⟨rfl, rfl, rfl, rfl, trivial⟩ (tX10_unpinAll_35 hG hl1 hl2 h)
    · rw [if_neg c] at h
      refine am_aload_n dX10_unpinAll_15 rfl ?_
      refine am_get (v := .inr (l2, 52)) dX10_unpinAll_16 fl_10_385 (hG.mn hl2 (by decide) (by decide)) rfl ?_
      refine am_aload_n dX10_unpinAll_19 rfl ?_
      refine am_get (v := .inr (l2, 53)) dX10_unpinAll_20 fl_10_383 (hG.mn hl2 (by decide) (by decide)) rfl ?_
      refine am_iload_n dX10_unpinAll_23 rfl ?_
      obtain ⟨g1, h⟩ := am_gd_some h
      refine am_ialdG dX10_unpinAll_24 (hG.mn hl2 (by decide) (by decide)) rfl g1 (show 136 < 2 ^ 31 by decide) ?_
      refine am_iconst (v := nI 0) dX10_unpinAll_25 (by decide) ?_
      obtain ⟨g2, h⟩ := am_gd_some h
      refine am_zastG dX10_unpinAll_26 (hG.mn hl2 (by decide) (by decide)) rfl (by decide) g2 (show 136 < 2 ^ 31 by decide) ?_
      obtain ⟨I3, hI3, h⟩ := am_lt_some h
      refine am_st10 hI3 ?_
      refine am_iinc (v := l3 + nI 1) dX10_unpinAll_27 rfl rfl ?_
      refine am_goto (tgt := 7) dX10_unpinAll_30 rfl ?_
      exact am_lwJ (lo' := [some (.inr (0, 0)), some (.inr (l1, 40)), some (.inr (l2, 48)), some (.inl (l3 + nI 1))]) ⟨rfl, rfl, rfl, rfl, trivial⟩ (hk7 l1 l2 (l3 + nI 1) hl1 hl2 _ _ h)
def bX10_unpinAll_0 (n : Nat) (l1 : Nat) (I : am_I) : Option (am_I) := bX10_unpinAll_7 n am_fu l1 l1 (nI 0) I
theorem tX10_unpinAll_0 {G : am_G} (hG : am_ok G) {d : Nat} {l1 : Nat} (hl1 : l1 < G.2.2.2.1) {I : am_I} {r : am_I} (h : bX10_unpinAll_0 G.2.2.2.1 l1  I = some r) : am_J G (d + 4) mX10_unpinAll am_no (am_E none r) 0 [some (.inr (0, 0)), some (.inr (l1, 40)), none, none] [] I := by
  unfold bX10_unpinAll_0 at h
  refine am_aload_n dX10_unpinAll_0 rfl ?_
  refine am_get (v := .inr (l1, 48)) dX10_unpinAll_1 fl_10_244 (hG.mn hl1 (by decide) (by decide)) rfl ?_
  refine am_astore_n dX10_unpinAll_4 (by decide) ?_
  refine am_iconst (v := nI 0) dX10_unpinAll_5 (by decide) ?_
  refine am_istore_n dX10_unpinAll_6 (by decide) ?_
  exact am_lwJ (lo' := [some (.inr (0, 0)), some (.inr (l1, 40)), some (.inr (l1, 48)), some (.inl (nI 0))]) ⟨rfl, rfl, rfl, rfl, trivial⟩ (tX10_unpinAll_7 hG hl1 hl1 h)
def gX10_unpinAll (n : Nat) (l1 : Nat) (I : am_I) : Option (am_I) := bX10_unpinAll_0 n l1 I
theorem sX10_unpinAll {G : am_G} (hG : am_ok G) {d : Nat} {l1 : Nat} (hl1 : l1 < G.2.2.2.1) {I : am_I} {r : am_I} (h : gX10_unpinAll G.2.2.2.1 l1 I = some r) : am_C G (d + 4) mX10_unpinAll [.inr (0, 0), .inr (l1, 40)] I (am_E none r) :=
  am_of (by decide +kernel) hG.nd (Nat.le_of_ble_eq_true rfl) (am_lwJ (lo' := [some (.inr (0, 0)), some (.inr (l1, 40)), none, none]) ⟨rfl, rfl, trivial⟩ (tX10_unpinAll_0 hG hl1 h))
def bX9_isGiven_2 (n : Nat) : Nat → Int32 → Int32 → am_I → Option (Int32 × am_I)
  | 0, _, _, _ => none
  | fu + 1, l1, l2, I => (fun k2 => if (I 0 15 7) ≤ l2 then (some (nI 0, I)) else (am_gd (am_inb l2 32) (if (I 0 20 l2.toNatClampNeg) = l1 then (some (nI 1, I)) else (k2 l1 (l2 + nI 1) I)))) (bX9_isGiven_2 n fu)
theorem tX9_isGiven_2 {G : am_G} (hG : am_ok G) {d : Nat} : ∀ {fu : Nat} {l1 : Int32} {l2 : Int32} {I : am_I} {r : Int32 × am_I}, bX9_isGiven_2 G.2.2.2.1 fu l1 l2 I = some r → am_J G d mX9_isGiven am_no (am_E (some r.1) r.2) 2 [some (.inr (0, 15)), some (.inl l1), some (.inl l2)] [] I := by
  intro fu
  induction fu with
  | zero => intro l1 l2 I r h; cases h
  | succ fu ih =>
    intro l1 l2 I r h
    have hk2 : ∀ (l1 : Int32) (l2 : Int32) (I : am_I) (r : Int32 × am_I), bX9_isGiven_2 G.2.2.2.1 fu l1 l2 I = some r → am_J G d mX9_isGiven am_no (am_E (some r.1) r.2) 2 [some (.inr (0, 15)), some (.inl l1), some (.inl l2)] [] I := fun l1 l2 I r h => ih h
    unfold bX9_isGiven_2 at h
    generalize bX9_isGiven_2 G.2.2.2.1 fu = k2 at hk2 h
    dsimp only at h
    refine am_iload_n dX9_isGiven_2 rfl ?_
    refine am_aload_n dX9_isGiven_3 rfl ?_
    refine am_get (v := .inl (I 0 15 7)) dX9_isGiven_4 fl_9_131 (hG.m0 (by decide)) rfl ?_
    refine am_icmp_ge (tgt := 28) dX9_isGiven_7 rfl (fun c => ?_) (fun c => ?_)
    · rw [if_pos c] at h
      refine am_iconst (v := nI 0) dX9_isGiven_28 (by decide) ?_
      cases h
      exact am_iret dX9_isGiven_29 rfl (am_nz (by decide)).1 ⟨rfl, rfl⟩
    · rw [if_neg c] at h
      refine am_aload_n dX9_isGiven_10 rfl ?_
      refine am_get (v := .inr (0, 20)) dX9_isGiven_11 fl_9_25 (hG.m0 (by decide)) rfl ?_
      refine am_iload_n dX9_isGiven_14 rfl ?_
      obtain ⟨g1, h⟩ := am_gd_some h
      refine am_ialdG dX9_isGiven_15 (hG.m0 (by decide)) rfl g1 (show 32 < 2 ^ 31 by decide) ?_
      refine am_iload_n dX9_isGiven_16 rfl ?_
      refine am_icmp_ne (tgt := 22) dX9_isGiven_17 rfl (fun c => ?_) (fun c => ?_)
      · rw [if_neg c] at h
        refine am_iinc (v := l2 + nI 1) dX9_isGiven_22 rfl rfl ?_
        refine am_goto (tgt := 2) dX9_isGiven_25 rfl ?_
        exact am_lwJ (lo' := [some (.inr (0, 15)), some (.inl l1), some (.inl (l2 + nI 1))]) ⟨rfl, rfl, rfl, trivial⟩ (hk2 l1 (l2 + nI 1) _ _ h)
      · rw [if_pos c] at h
        refine am_iconst (v := nI 1) dX9_isGiven_20 (by decide) ?_
        cases h
        exact am_iret dX9_isGiven_21 rfl (am_nz (by decide)).1 ⟨rfl, rfl⟩
def bX9_isGiven_0 (n : Nat) (l1 : Int32) (I : am_I) : Option (Int32 × am_I) := bX9_isGiven_2 n am_fu l1 (nI 0) I
theorem tX9_isGiven_0 {G : am_G} (hG : am_ok G) {d : Nat} {l1 : Int32} {I : am_I} {r : Int32 × am_I} (h : bX9_isGiven_0 G.2.2.2.1 l1  I = some r) : am_J G d mX9_isGiven am_no (am_E (some r.1) r.2) 0 [some (.inr (0, 15)), some (.inl l1), none] [] I := by
  unfold bX9_isGiven_0 at h
  refine am_iconst (v := nI 0) dX9_isGiven_0 (by decide) ?_
  refine am_istore_n dX9_isGiven_1 (by decide) ?_
  exact am_lwJ (lo' := [some (.inr (0, 15)), some (.inl l1), some (.inl (nI 0))]) ⟨rfl, rfl, rfl, trivial⟩ (tX9_isGiven_2 hG h)
def gX9_isGiven (n : Nat) (l1 : Int32) (I : am_I) : Option (Int32 × am_I) := bX9_isGiven_0 n l1 I
theorem sX9_isGiven {G : am_G} (hG : am_ok G) {d : Nat} {l1 : Int32} {I : am_I} {r : Int32 × am_I} (h : gX9_isGiven G.2.2.2.1 l1 I = some r) : am_C G d mX9_isGiven [.inr (0, 15), .inl l1] I (am_E (some r.1) r.2) :=
  am_of (by decide +kernel) hG.nd (Nat.le_of_ble_eq_true rfl) (am_lwJ (lo' := [some (.inr (0, 15)), some (.inl l1), none]) ⟨rfl, rfl, trivial⟩ (tX9_isGiven_0 hG h))
def bX3_hasLogged_2 (n : Nat) : Nat → Nat → Int32 → Int32 → am_I → Option (Int32 × am_I)
  | 0, _, _, _, _ => none
  | fu + 1, l0, l1, l2, I => (fun k2 => if (I l0 44 2) ≤ l2 then (some (nI 0, I)) else (am_gd (am_inb l2 16) (if (I l0 45 l2.toNatClampNeg) = l1 then (some (nI 1, I)) else (k2 l0 l1 (l2 + nI 1) I)))) (bX3_hasLogged_2 n fu)
theorem tX3_hasLogged_2 {G : am_G} (hG : am_ok G) {d : Nat} : ∀ {fu : Nat} {l0 : Nat} {l1 : Int32} {l2 : Int32} (hl0 : l0 < G.2.2.2.1) {I : am_I} {r : Int32 × am_I}, bX3_hasLogged_2 G.2.2.2.1 fu l0 l1 l2 I = some r → am_J G d mX3_hasLogged am_no (am_E (some r.1) r.2) 2 [some (.inr (l0, 44)), some (.inl l1), some (.inl l2)] [] I := by
  intro fu
  induction fu with
  | zero => intro l0 l1 l2 hl0 I r h; cases h
  | succ fu ih =>
    intro l0 l1 l2 hl0 I r h
    have hk2 : ∀ (l0 : Nat) (l1 : Int32) (l2 : Int32) (hl0 : l0 < G.2.2.2.1) (I : am_I) (r : Int32 × am_I), bX3_hasLogged_2 G.2.2.2.1 fu l0 l1 l2 I = some r → am_J G d mX3_hasLogged am_no (am_E (some r.1) r.2) 2 [some (.inr (l0, 44)), some (.inl l1), some (.inl l2)] [] I := fun l0 l1 l2 hl0 I r h => ih hl0 h
    unfold bX3_hasLogged_2 at h
    generalize bX3_hasLogged_2 G.2.2.2.1 fu = k2 at hk2 h
    dsimp only at h
    refine am_iload_n dX3_hasLogged_2 rfl ?_
    refine am_aload_n dX3_hasLogged_3 rfl ?_
    refine am_get (v := .inl (I l0 44 2)) dX3_hasLogged_4 fl_3_28 (hG.mn hl0 (by decide) (by decide)) rfl ?_
    refine am_icmp_ge (tgt := 28) dX3_hasLogged_7 rfl (fun c => ?_) (fun c => ?_)
    · rw [if_pos c] at h
      refine am_iconst (v := nI 0) dX3_hasLogged_28 (by decide) ?_
      cases h
      exact am_iret dX3_hasLogged_29 rfl (am_nz (by decide)).1 ⟨rfl, rfl⟩
    · rw [if_neg c] at h
      refine am_aload_n dX3_hasLogged_10 rfl ?_
      refine am_get (v := .inr (l0, 45)) dX3_hasLogged_11 fl_3_9 (hG.mn hl0 (by decide) (by decide)) rfl ?_
      refine am_iload_n dX3_hasLogged_14 rfl ?_
      obtain ⟨g1, h⟩ := am_gd_some h
      refine am_ialdG dX3_hasLogged_15 (hG.mn hl0 (by decide) (by decide)) rfl g1 (show 16 < 2 ^ 31 by decide) ?_
      refine am_iload_n dX3_hasLogged_16 rfl ?_
      refine am_icmp_ne (tgt := 22) dX3_hasLogged_17 rfl (fun c => ?_) (fun c => ?_)
      · rw [if_neg c] at h
        refine am_iinc (v := l2 + nI 1) dX3_hasLogged_22 rfl rfl ?_
        refine am_goto (tgt := 2) dX3_hasLogged_25 rfl ?_
        exact am_lwJ (lo' := [some (.inr (l0, 44)), some (.inl l1), some (.inl (l2 + nI 1))]) ⟨rfl, rfl, rfl, trivial⟩ (hk2 l0 l1 (l2 + nI 1) hl0 _ _ h)
      · rw [if_pos c] at h
        refine am_iconst (v := nI 1) dX3_hasLogged_20 (by decide) ?_
        cases h
        exact am_iret dX3_hasLogged_21 rfl (am_nz (by decide)).1 ⟨rfl, rfl⟩
def bX3_hasLogged_0 (n : Nat) (l0 : Nat) (l1 : Int32) (I : am_I) : Option (Int32 × am_I) := bX3_hasLogged_2 n am_fu l0 l1 (nI 0) I
theorem tX3_hasLogged_0 {G : am_G} (hG : am_ok G) {d : Nat} {l0 : Nat} {l1 : Int32} (hl0 : l0 < G.2.2.2.1) {I : am_I} {r : Int32 × am_I} (h : bX3_hasLogged_0 G.2.2.2.1 l0 l1  I = some r) : am_J G d mX3_hasLogged am_no (am_E (some r.1) r.2) 0 [some (.inr (l0, 44)), some (.inl l1), none] [] I := by
  unfold bX3_hasLogged_0 at h
  refine am_iconst (v := nI 0) dX3_hasLogged_0 (by decide) ?_
  refine am_istore_n dX3_hasLogged_1 (by decide) ?_
  exact am_lwJ (lo' := [some (.inr (l0, 44)), some (.inl l1), some (.inl (nI 0))]) ⟨rfl, rfl, rfl, trivial⟩ (tX3_hasLogged_2 hG hl0 h)
def gX3_hasLogged (n : Nat) (l0 : Nat) (l1 : Int32) (I : am_I) : Option (Int32 × am_I) := bX3_hasLogged_0 n l0 l1 I
theorem sX3_hasLogged {G : am_G} (hG : am_ok G) {d : Nat} {l0 : Nat} {l1 : Int32} (hl0 : l0 < G.2.2.2.1) {I : am_I} {r : Int32 × am_I} (h : gX3_hasLogged G.2.2.2.1 l0 l1 I = some r) : am_C G d mX3_hasLogged [.inr (l0, 44), .inl l1] I (am_E (some r.1) r.2) :=
  am_of (by decide +kernel) hG.nd (Nat.le_of_ble_eq_true rfl) (am_lwJ (lo' := [some (.inr (l0, 44)), some (.inl l1), none]) ⟨rfl, rfl, trivial⟩ (tX3_hasLogged_0 hG hl0 h))
def bX9_isTooMuch_108 (n : Nat) (s0 : Int32) (I : am_I) : Option (Int32 × am_I) := am_gd (am_01 s0) (some (s0, I))
theorem tX9_isTooMuch_108 {G : am_G} (hG : am_ok G) {d : Nat} {s0 : Int32} {I : am_I} {r : Int32 × am_I} (h : bX9_isTooMuch_108 G.2.2.2.1 s0  I = some r) : am_J G (d + 1) mX9_isTooMuch am_no (am_E (some r.1) r.2) 108 [none, none, none] [.inl s0] I := by
  unfold bX9_isTooMuch_108 at h
  obtain ⟨g1, h⟩ := am_gd_some h
  cases h
  exact am_iret dX9_isTooMuch_108 rfl (am_nz (am_01_of g1)).1 ⟨rfl, rfl⟩
def bX9_isTooMuch_91 (n : Nat) (k48 : Int32 → Int32 → am_I → Option (Int32 × am_I)) (l1 : Int32) (l2 : Int32) (I : am_I) : Option (Int32 × am_I) := k48 l1 (l2 + nI 1) I
theorem tX9_isTooMuch_91 {G : am_G} (hG : am_ok G) {d : Nat} {k48 : Int32 → Int32 → am_I → Option (Int32 × am_I)} (hk48 : ∀ (l1 : Int32) (l2 : Int32) (I : am_I) (r : Int32 × am_I), k48 l1 l2 I = some r → am_J G (d + 1) mX9_isTooMuch am_no (am_E (some r.1) r.2) 48 [some (.inr (0, 15)), some (.inl l1), some (.inl l2)] [] I) {l1 : Int32} {l2 : Int32} {I : am_I} {r : Int32 × am_I} (h : bX9_isTooMuch_91 G.2.2.2.1 k48 l1 l2  I = some r) : am_J G (d + 1) mX9_isTooMuch am_no (am_E (some r.1) r.2) 91 [some (.inr (0, 15)), some (.inl l1), some (.inl l2)] [] I := by
  unfold bX9_isTooMuch_91 at h
  refine am_iinc (v := l2 + nI 1) dX9_isTooMuch_91 rfl rfl ?_
  refine am_goto (tgt := 48) dX9_isTooMuch_94 rfl ?_
  exact am_lwJ (lo' := [some (.inr (0, 15)), some (.inl l1), some (.inl (l2 + nI 1))]) ⟨rfl, rfl, rfl, trivial⟩ (hk48 l1 (l2 + nI 1) _ _ h)
def bX9_isTooMuch_48 (n : Nat) : Nat → Int32 → Int32 → am_I → Option (Int32 × am_I)
  | 0, _, _, _ => none
  | fu + 1, l1, l2, I => (fun k48 => if (I 0 15 5) ≤ l2 then (if l1 ≤ (nI 16) then (bX9_isTooMuch_108 n (nI 0) I) else (bX9_isTooMuch_108 n (nI 1) I)) else (am_gd (am_inb l2 32) ((gX9_isGiven n (I 0 16 l2.toNatClampNeg) I).bind (fun q2 => if q2.1 = 0 then (am_gd (decide ((q2.2 0 15 8).toNatClampNeg < n)) (am_gd (am_inb l2 32) ((gX3_hasLogged n ((q2.2 0 15 8).toNatClampNeg) (q2.2 0 16 l2.toNatClampNeg) q2.2).bind (fun q5 => if q5.1 = 0 then (bX9_isTooMuch_91 n k48 (l1 + nI 1) l2 q5.2) else (bX9_isTooMuch_91 n k48 l1 l2 q5.2))))) else (bX9_isTooMuch_91 n k48 l1 l2 q2.2))))) (bX9_isTooMuch_48 n fu)
theorem tX9_isTooMuch_48 {G : am_G} (hG : am_ok G) {d : Nat} : ∀ {fu : Nat} {l1 : Int32} {l2 : Int32} {I : am_I} {r : Int32 × am_I}, bX9_isTooMuch_48 G.2.2.2.1 fu l1 l2 I = some r → am_J G (d + 1) mX9_isTooMuch am_no (am_E (some r.1) r.2) 48 [some (.inr (0, 15)), some (.inl l1), some (.inl l2)] [] I := by
  intro fu
  induction fu with
  | zero => intro l1 l2 I r h; cases h
  | succ fu ih =>
    intro l1 l2 I r h
    have hk48 : ∀ (l1 : Int32) (l2 : Int32) (I : am_I) (r : Int32 × am_I), bX9_isTooMuch_48 G.2.2.2.1 fu l1 l2 I = some r → am_J G (d + 1) mX9_isTooMuch am_no (am_E (some r.1) r.2) 48 [some (.inr (0, 15)), some (.inl l1), some (.inl l2)] [] I := fun l1 l2 I r h => ih h
    unfold bX9_isTooMuch_48 at h
    generalize bX9_isTooMuch_48 G.2.2.2.1 fu = k48 at hk48 h
    dsimp only at h
    refine am_iload_n dX9_isTooMuch_48 rfl ?_
    refine am_aload_n dX9_isTooMuch_49 rfl ?_
    refine am_get (v := .inl (I 0 15 5)) dX9_isTooMuch_50 fl_9_111 (hG.m0 (by decide)) rfl ?_
    refine am_icmp_ge (tgt := 97) dX9_isTooMuch_53 rfl (fun c => ?_) (fun c => ?_)
    · rw [if_pos c] at h
      refine am_iload_n dX9_isTooMuch_97 rfl ?_
      refine am_bipush (v := nI 16) dX9_isTooMuch_98 (by decide) ?_
      refine am_icmp_le (tgt := 107) dX9_isTooMuch_100 rfl (fun c => ?_) (fun c => ?_)
      · rw [if_pos c] at h
        refine am_iconst (v := nI 0) dX9_isTooMuch_107 (by decide) ?_
        exact am_lwJ (lo' := [none, none, none]) trivial (tX9_isTooMuch_108 hG h)
      · rw [if_neg c] at h
        refine am_iconst (v := nI 1) dX9_isTooMuch_103 (by decide) ?_
        refine am_goto (tgt := 108) dX9_isTooMuch_104 rfl ?_
        exact am_lwJ (lo' := [none, none, none]) trivial (tX9_isTooMuch_108 hG h)
    · rw [if_neg c] at h
      refine am_aload_n dX9_isTooMuch_56 rfl ?_
      refine am_aload_n dX9_isTooMuch_57 rfl ?_
      refine am_get (v := .inr (0, 16)) dX9_isTooMuch_58 fl_9_11 (hG.m0 (by decide)) rfl ?_
      refine am_iload_n dX9_isTooMuch_61 rfl ?_
      obtain ⟨g1, h⟩ := am_gd_some h
      refine am_ialdG dX9_isTooMuch_62 (hG.m0 (by decide)) rfl g1 (show 32 < 2 ^ 31 by decide) ?_
      obtain ⟨q2, hq2, h⟩ := am_bd h
      refine am_callVx (i := 0) (j := 15) (as := [.inl (I 0 16 l2.toNatClampNeg)]) (rest := []) dX9_isTooMuch_63 lkX9_isGiven ml_X9_142 imX9_isGiven seX9_isGiven rfl rfl (hG.m0 (by decide)) rfl (Nat.le_of_ble_eq_true rfl) rfl (sX9_isGiven hG hq2) ?_
      refine am_if_ne (tgt := 91) dX9_isTooMuch_66 rfl (fun c => ?_) (fun c => ?_)
      · rw [if_neg c] at h
        exact am_lwJ (lo' := [some (.inr (0, 15)), some (.inl l1), some (.inl l2)]) ⟨rfl, rfl, rfl, trivial⟩ (tX9_isTooMuch_91 hG hk48 h)
      · rw [if_pos c] at h
        refine am_aload_n dX9_isTooMuch_69 rfl ?_
        obtain ⟨g3, h⟩ := am_gd_some h
        have g3 := of_decide_eq_true g3
        refine am_get (v := .inr ((q2.2 0 15 8).toNatClampNeg, 40)) dX9_isTooMuch_70 fl_9_31 (hG.m0 (by decide)) rfl ?_
        refine am_get (v := .inr ((q2.2 0 15 8).toNatClampNeg, 44)) dX9_isTooMuch_73 fl_9_134 (hG.mn g3 (by decide) (by decide)) rfl ?_
        refine am_aload_n dX9_isTooMuch_76 rfl ?_
        refine am_get (v := .inr (0, 16)) dX9_isTooMuch_77 fl_9_11 (hG.m0 (by decide)) rfl ?_
        refine am_iload_n dX9_isTooMuch_80 rfl ?_
        obtain ⟨g4, h⟩ := am_gd_some h
        refine am_ialdG dX9_isTooMuch_81 (hG.m0 (by decide)) rfl g4 (show 32 < 2 ^ 31 by decide) ?_
        obtain ⟨q5, hq5, h⟩ := am_bd h
        refine am_callVx (i := (q2.2 0 15 8).toNatClampNeg) (j := 44) (as := [.inl (q2.2 0 16 l2.toNatClampNeg)]) (rest := []) dX9_isTooMuch_82 lkX3_hasLogged ml_X9_154 imX3_hasLogged seX3_hasLogged rfl rfl (hG.mn g3 (by decide) (by decide)) rfl (Nat.le_of_ble_eq_true rfl) rfl (sX3_hasLogged hG g3 hq5) ?_
        refine am_if_ne (tgt := 91) dX9_isTooMuch_85 rfl (fun c => ?_) (fun c => ?_)
        · rw [if_neg c] at h
          exact am_lwJ (lo' := [some (.inr (0, 15)), some (.inl l1), some (.inl l2)]) ⟨rfl, rfl, rfl, trivial⟩ (tX9_isTooMuch_91 hG hk48 h)
        · rw [if_pos c] at h
          refine am_iinc (v := l1 + nI 1) dX9_isTooMuch_88 rfl rfl ?_
          exact am_lwJ (lo' := [some (.inr (0, 15)), some (.inl (l1 + nI 1)), some (.inl l2)]) ⟨rfl, rfl, rfl, trivial⟩ (tX9_isTooMuch_91 hG hk48 h)
def bX9_isTooMuch_40 (n : Nat) (k4 : Int32 → Int32 → am_I → Option (Int32 × am_I)) (l1 : Int32) (l2 : Int32) (I : am_I) : Option (Int32 × am_I) := k4 l1 (l2 + nI 1) I
theorem tX9_isTooMuch_40 {G : am_G} (hG : am_ok G) {d : Nat} {k4 : Int32 → Int32 → am_I → Option (Int32 × am_I)} (hk4 : ∀ (l1 : Int32) (l2 : Int32) (I : am_I) (r : Int32 × am_I), k4 l1 l2 I = some r → am_J G (d + 1) mX9_isTooMuch am_no (am_E (some r.1) r.2) 4 [some (.inr (0, 15)), some (.inl l1), some (.inl l2)] [] I) {l1 : Int32} {l2 : Int32} {I : am_I} {r : Int32 × am_I} (h : bX9_isTooMuch_40 G.2.2.2.1 k4 l1 l2  I = some r) : am_J G (d + 1) mX9_isTooMuch am_no (am_E (some r.1) r.2) 40 [some (.inr (0, 15)), some (.inl l1), some (.inl l2)] [] I := by
  unfold bX9_isTooMuch_40 at h
  refine am_iinc (v := l2 + nI 1) dX9_isTooMuch_40 rfl rfl ?_
  refine am_goto (tgt := 4) dX9_isTooMuch_43 rfl ?_
  exact am_lwJ (lo' := [some (.inr (0, 15)), some (.inl l1), some (.inl (l2 + nI 1))]) ⟨rfl, rfl, rfl, trivial⟩ (hk4 l1 (l2 + nI 1) _ _ h)
def bX9_isTooMuch_4 (n : Nat) : Nat → Int32 → Int32 → am_I → Option (Int32 × am_I)
  | 0, _, _, _ => none
  | fu + 1, l1, l2, I => (fun k4 => am_gd (decide ((I 0 15 8).toNatClampNeg < n)) (if (I ((I 0 15 8).toNatClampNeg) 44 2) ≤ l2 then (bX9_isTooMuch_48 n am_fu l1 (nI 0) I) else (am_gd (decide ((I 0 15 8).toNatClampNeg < n)) (am_gd (am_inb l2 16) ((gX9_isGiven n (I ((I 0 15 8).toNatClampNeg) 45 l2.toNatClampNeg) I).bind (fun q4 => if q4.1 = 0 then (bX9_isTooMuch_40 n k4 (l1 + nI 1) l2 q4.2) else (bX9_isTooMuch_40 n k4 l1 l2 q4.2))))))) (bX9_isTooMuch_4 n fu)
theorem tX9_isTooMuch_4 {G : am_G} (hG : am_ok G) {d : Nat} : ∀ {fu : Nat} {l1 : Int32} {l2 : Int32} {I : am_I} {r : Int32 × am_I}, bX9_isTooMuch_4 G.2.2.2.1 fu l1 l2 I = some r → am_J G (d + 1) mX9_isTooMuch am_no (am_E (some r.1) r.2) 4 [some (.inr (0, 15)), some (.inl l1), some (.inl l2)] [] I := by
  intro fu
  induction fu with
  | zero => intro l1 l2 I r h; cases h
  | succ fu ih =>
    intro l1 l2 I r h
    have hk4 : ∀ (l1 : Int32) (l2 : Int32) (I : am_I) (r : Int32 × am_I), bX9_isTooMuch_4 G.2.2.2.1 fu l1 l2 I = some r → am_J G (d + 1) mX9_isTooMuch am_no (am_E (some r.1) r.2) 4 [some (.inr (0, 15)), some (.inl l1), some (.inl l2)] [] I := fun l1 l2 I r h => ih h
    unfold bX9_isTooMuch_4 at h
    generalize bX9_isTooMuch_4 G.2.2.2.1 fu = k4 at hk4 h
    dsimp only at h
    refine am_iload_n dX9_isTooMuch_4 rfl ?_
    refine am_aload_n dX9_isTooMuch_5 rfl ?_
    obtain ⟨g1, h⟩ := am_gd_some h
    have g1 := of_decide_eq_true g1
    refine am_get (v := .inr ((I 0 15 8).toNatClampNeg, 40)) dX9_isTooMuch_6 fl_9_31 (hG.m0 (by decide)) rfl ?_
    refine am_get (v := .inr ((I 0 15 8).toNatClampNeg, 44)) dX9_isTooMuch_9 fl_9_134 (hG.mn g1 (by decide) (by decide)) rfl ?_
    refine am_get (v := .inl (I ((I 0 15 8).toNatClampNeg) 44 2)) dX9_isTooMuch_12 fl_9_148 (hG.mn g1 (by decide) (by decide)) rfl ?_
    refine am_icmp_ge (tgt := 46) dX9_isTooMuch_15 rfl (fun c => ?_) (fun c => ?_)
    · rw [if_pos c] at h
      refine am_iconst (v := nI 0) dX9_isTooMuch_46 (by decide) ?_
      refine am_istore_n dX9_isTooMuch_47 (by decide) ?_
      exact am_lwJ (lo' := [some (.inr (0, 15)), some (.inl l1), some (.inl (nI 0))]) ⟨rfl, rfl, rfl, trivial⟩ (tX9_isTooMuch_48 hG h)
    · rw [if_neg c] at h
      refine am_aload_n dX9_isTooMuch_18 rfl ?_
      refine am_aload_n dX9_isTooMuch_19 rfl ?_
      obtain ⟨g2, h⟩ := am_gd_some h
      have g2 := of_decide_eq_true g2
      refine am_get (v := .inr ((I 0 15 8).toNatClampNeg, 40)) dX9_isTooMuch_20 fl_9_31 (hG.m0 (by decide)) rfl ?_
      refine am_get (v := .inr ((I 0 15 8).toNatClampNeg, 44)) dX9_isTooMuch_23 fl_9_134 (hG.mn g2 (by decide) (by decide)) rfl ?_
      refine am_get (v := .inr ((I 0 15 8).toNatClampNeg, 45)) dX9_isTooMuch_26 fl_9_151 (hG.mn g2 (by decide) (by decide)) rfl ?_
      refine am_iload_n dX9_isTooMuch_29 rfl ?_
      obtain ⟨g3, h⟩ := am_gd_some h
      refine am_ialdG dX9_isTooMuch_30 (hG.mn g2 (by decide) (by decide)) rfl g3 (show 16 < 2 ^ 31 by decide) ?_
      obtain ⟨q4, hq4, h⟩ := am_bd h
      refine am_callVx (i := 0) (j := 15) (as := [.inl (I ((I 0 15 8).toNatClampNeg) 45 l2.toNatClampNeg)]) (rest := []) dX9_isTooMuch_31 lkX9_isGiven ml_X9_142 imX9_isGiven seX9_isGiven rfl rfl (hG.m0 (by decide)) rfl (Nat.le_of_ble_eq_true rfl) rfl (sX9_isGiven hG hq4) ?_
      refine am_if_ne (tgt := 40) dX9_isTooMuch_34 rfl (fun c => ?_) (fun c => ?_)
      · rw [if_neg c] at h
        exact am_lwJ (lo' := [some (.inr (0, 15)), some (.inl l1), some (.inl l2)]) ⟨rfl, rfl, rfl, trivial⟩ (tX9_isTooMuch_40 hG hk4 h)
      · rw [if_pos c] at h
        refine am_iinc (v := l1 + nI 1) dX9_isTooMuch_37 rfl rfl ?_
        exact am_lwJ (lo' := [some (.inr (0, 15)), some (.inl (l1 + nI 1)), some (.inl l2)]) ⟨rfl, rfl, rfl, trivial⟩ (tX9_isTooMuch_40 hG hk4 h)
def bX9_isTooMuch_0 (n : Nat) (I : am_I) : Option (Int32 × am_I) := bX9_isTooMuch_4 n am_fu (nI 0) (nI 0) I
theorem tX9_isTooMuch_0 {G : am_G} (hG : am_ok G) {d : Nat} {I : am_I} {r : Int32 × am_I} (h : bX9_isTooMuch_0 G.2.2.2.1  I = some r) : am_J G (d + 1) mX9_isTooMuch am_no (am_E (some r.1) r.2) 0 [some (.inr (0, 15)), none, none] [] I := by
  unfold bX9_isTooMuch_0 at h
  refine am_iconst (v := nI 0) dX9_isTooMuch_0 (by decide) ?_
  refine am_istore_n dX9_isTooMuch_1 (by decide) ?_
  refine am_iconst (v := nI 0) dX9_isTooMuch_2 (by decide) ?_
  refine am_istore_n dX9_isTooMuch_3 (by decide) ?_
  exact am_lwJ (lo' := [some (.inr (0, 15)), some (.inl (nI 0)), some (.inl (nI 0))]) ⟨rfl, rfl, rfl, trivial⟩ (tX9_isTooMuch_4 hG h)
def gX9_isTooMuch (n : Nat) (I : am_I) : Option (Int32 × am_I) := bX9_isTooMuch_0 n I
theorem sX9_isTooMuch {G : am_G} (hG : am_ok G) {d : Nat} {I : am_I} {r : Int32 × am_I} (h : gX9_isTooMuch G.2.2.2.1 I = some r) : am_C G (d + 1) mX9_isTooMuch [.inr (0, 15)] I (am_E (some r.1) r.2) :=
  am_of (by decide +kernel) hG.nd (Nat.le_of_ble_eq_true rfl) (am_lwJ (lo' := [some (.inr (0, 15)), none, none]) ⟨rfl, trivial⟩ (tX9_isTooMuch_0 hG h))
def bX3_remove_37 (n : Nat) (k4 : Nat → Int32 → Int32 → Int32 → am_I → Option (am_I)) (l0 : Nat) (l1 : Int32) (l2 : Int32) (l3 : Int32) (I : am_I) : Option (am_I) := k4 l0 l1 l2 (l3 + nI 1) I
theorem tX3_remove_37 {G : am_G} (hG : am_ok G) {d : Nat} {k4 : Nat → Int32 → Int32 → Int32 → am_I → Option (am_I)} (hk4 : ∀ (l0 : Nat) (l1 : Int32) (l2 : Int32) (l3 : Int32) (hl0 : l0 < G.2.2.2.1) (I : am_I) (r : am_I), k4 l0 l1 l2 l3 I = some r → am_J G d mX3_remove am_no (am_E none r) 4 [some (.inr (l0, 44)), some (.inl l1), some (.inl l2), some (.inl l3)] [] I) {l0 : Nat} {l1 : Int32} {l2 : Int32} {l3 : Int32} (hl0 : l0 < G.2.2.2.1) {I : am_I} {r : am_I} (h : bX3_remove_37 G.2.2.2.1 k4 l0 l1 l2 l3  I = some r) : am_J G d mX3_remove am_no (am_E none r) 37 [some (.inr (l0, 44)), some (.inl l1), some (.inl l2), some (.inl l3)] [] I := by
  unfold bX3_remove_37 at h
  refine am_iinc (v := l3 + nI 1) dX3_remove_37 rfl rfl ?_
  refine am_goto (tgt := 4) dX3_remove_40 rfl ?_
  exact am_lwJ (lo' := [some (.inr (l0, 44)), some (.inl l1), some (.inl l2), some (.inl (l3 + nI 1))]) ⟨rfl, rfl, rfl, rfl, trivial⟩ (hk4 l0 l1 l2 (l3 + nI 1) hl0 _ _ h)
def bX3_remove_4 (n : Nat) : Nat → Nat → Int32 → Int32 → Int32 → am_I → Option (am_I)
  | 0, _, _, _, _, _ => none
  | fu + 1, l0, l1, l2, l3, I => (fun k4 => if (I l0 44 2) ≤ l3 then (am_lt (am_up I l0 44 2 l2) (fun I1 => some I1)) else (am_gd (am_inb l3 16) (if (I l0 45 l3.toNatClampNeg) = l1 then (bX3_remove_37 n k4 l0 l1 l2 l3 I) else (am_gd (am_inb l3 16) (am_gd (am_inb l2 16) (am_lt (am_up I l0 45 l2.toNatClampNeg (I l0 45 l3.toNatClampNeg)) (fun I5 => bX3_remove_37 n k4 l0 l1 (l2 + nI 1) l3 I5))))))) (bX3_remove_4 n fu)
theorem tX3_remove_4 {G : am_G} (hG : am_ok G) {d : Nat} : ∀ {fu : Nat} {l0 : Nat} {l1 : Int32} {l2 : Int32} {l3 : Int32} (hl0 : l0 < G.2.2.2.1) {I : am_I} {r : am_I}, bX3_remove_4 G.2.2.2.1 fu l0 l1 l2 l3 I = some r → am_J G d mX3_remove am_no (am_E none r) 4 [some (.inr (l0, 44)), some (.inl l1), some (.inl l2), some (.inl l3)] [] I := by
  intro fu
  induction fu with
  | zero => intro l0 l1 l2 l3 hl0 I r h; cases h
  | succ fu ih =>
    intro l0 l1 l2 l3 hl0 I r h
    have hk4 : ∀ (l0 : Nat) (l1 : Int32) (l2 : Int32) (l3 : Int32) (hl0 : l0 < G.2.2.2.1) (I : am_I) (r : am_I), bX3_remove_4 G.2.2.2.1 fu l0 l1 l2 l3 I = some r → am_J G d mX3_remove am_no (am_E none r) 4 [some (.inr (l0, 44)), some (.inl l1), some (.inl l2), some (.inl l3)] [] I := fun l0 l1 l2 l3 hl0 I r h => ih hl0 h
    unfold bX3_remove_4 at h
    generalize bX3_remove_4 G.2.2.2.1 fu = k4 at hk4 h
    dsimp only at h
    refine am_iload_n dX3_remove_4 rfl ?_
    refine am_aload_n dX3_remove_5 rfl ?_
    refine am_get (v := .inl (I l0 44 2)) dX3_remove_6 fl_3_28 (hG.mn hl0 (by decide) (by decide)) rfl ?_
    refine am_icmp_ge (tgt := 43) dX3_remove_9 rfl (fun c => ?_) (fun c => ?_)
    · rw [if_pos c] at h
      refine am_aload_n dX3_remove_43 rfl ?_
      refine am_iload_n dX3_remove_44 rfl ?_
      refine am_put (x := l2) dX3_remove_45 fp_3_28 (hG.mn hl0 (by decide) (by decide)) (Nat.le_of_ble_eq_true rfl) rfl ?_
      obtain ⟨I1, hI1, h⟩ := am_lt_some h
      refine am_st10 hI1 ?_
      cases h
      exact am_vret dX3_remove_48 rfl ⟨rfl, rfl⟩
    · rw [if_neg c] at h
      refine am_aload_n dX3_remove_12 rfl ?_
      refine am_get (v := .inr (l0, 45)) dX3_remove_13 fl_3_9 (hG.mn hl0 (by decide) (by decide)) rfl ?_
      refine am_iload_n dX3_remove_16 rfl ?_
      obtain ⟨g2, h⟩ := am_gd_some h
      refine am_ialdG dX3_remove_17 (hG.mn hl0 (by decide) (by decide)) rfl g2 (show 16 < 2 ^ 31 by decide) ?_
      refine am_iload_n dX3_remove_18 rfl ?_
      refine am_icmp_eq (tgt := 37) dX3_remove_19 rfl (fun c => ?_) (fun c => ?_)
      · rw [if_pos c] at h
        exact am_lwJ (lo' := [some (.inr (l0, 44)), some (.inl l1), some (.inl l2), some (.inl l3)]) ⟨rfl, rfl, rfl, rfl, trivial⟩ (tX3_remove_37 hG hk4 hl0 h)
      · rw [if_neg c] at h
        refine am_aload_n dX3_remove_22 rfl ?_
        refine am_get (v := .inr (l0, 45)) dX3_remove_23 fl_3_9 (hG.mn hl0 (by decide) (by decide)) rfl ?_
        refine am_iload_n dX3_remove_26 rfl ?_
        refine am_aload_n dX3_remove_27 rfl ?_
        refine am_get (v := .inr (l0, 45)) dX3_remove_28 fl_3_9 (hG.mn hl0 (by decide) (by decide)) rfl ?_
        refine am_iload_n dX3_remove_31 rfl ?_
        obtain ⟨g3, h⟩ := am_gd_some h
        refine am_ialdG dX3_remove_32 (hG.mn hl0 (by decide) (by decide)) rfl g3 (show 16 < 2 ^ 31 by decide) ?_
        obtain ⟨g4, h⟩ := am_gd_some h
        refine am_iastG dX3_remove_33 (hG.mn hl0 (by decide) (by decide)) rfl g4 (show 16 < 2 ^ 31 by decide) ?_
        obtain ⟨I5, hI5, h⟩ := am_lt_some h
        refine am_st10 hI5 ?_
        refine am_iinc (v := l2 + nI 1) dX3_remove_34 rfl rfl ?_
        exact am_lwJ (lo' := [some (.inr (l0, 44)), some (.inl l1), some (.inl (l2 + nI 1)), some (.inl l3)]) ⟨rfl, rfl, rfl, rfl, trivial⟩ (tX3_remove_37 hG hk4 hl0 h)
def bX3_remove_0 (n : Nat) (l0 : Nat) (l1 : Int32) (I : am_I) : Option (am_I) := bX3_remove_4 n am_fu l0 l1 (nI 0) (nI 0) I
theorem tX3_remove_0 {G : am_G} (hG : am_ok G) {d : Nat} {l0 : Nat} {l1 : Int32} (hl0 : l0 < G.2.2.2.1) {I : am_I} {r : am_I} (h : bX3_remove_0 G.2.2.2.1 l0 l1  I = some r) : am_J G d mX3_remove am_no (am_E none r) 0 [some (.inr (l0, 44)), some (.inl l1), none, none] [] I := by
  unfold bX3_remove_0 at h
  refine am_iconst (v := nI 0) dX3_remove_0 (by decide) ?_
  refine am_istore_n dX3_remove_1 (by decide) ?_
  refine am_iconst (v := nI 0) dX3_remove_2 (by decide) ?_
  refine am_istore_n dX3_remove_3 (by decide) ?_
  exact am_lwJ (lo' := [some (.inr (l0, 44)), some (.inl l1), some (.inl (nI 0)), some (.inl (nI 0))]) ⟨rfl, rfl, rfl, rfl, trivial⟩ (tX3_remove_4 hG hl0 h)
def gX3_remove (n : Nat) (l0 : Nat) (l1 : Int32) (I : am_I) : Option (am_I) := bX3_remove_0 n l0 l1 I
theorem sX3_remove {G : am_G} (hG : am_ok G) {d : Nat} {l0 : Nat} {l1 : Int32} (hl0 : l0 < G.2.2.2.1) {I : am_I} {r : am_I} (h : gX3_remove G.2.2.2.1 l0 l1 I = some r) : am_C G d mX3_remove [.inr (l0, 44), .inl l1] I (am_E none r) :=
  am_of (by decide +kernel) hG.nd (Nat.le_of_ble_eq_true rfl) (am_lwJ (lo' := [some (.inr (l0, 44)), some (.inl l1), none, none]) ⟨rfl, rfl, trivial⟩ (tX3_remove_0 hG hl0 h))
def bX3_add_17 (n : Nat) (I : am_I) : Option (am_I) := some I
theorem tX3_add_17 {G : am_G} (hG : am_ok G) {d : Nat} {I : am_I} {r : am_I} (h : bX3_add_17 G.2.2.2.1  I = some r) : am_J G (d + 1) mX3_add am_no (am_E none r) 17 [none, none, none] [] I := by
  unfold bX3_add_17 at h
  cases h
  exact am_vret dX3_add_17 rfl ⟨rfl, rfl⟩
def bX3_add_59 (n : Nat) (l0 : Nat) (l1 : Int32) (l2 : Int32) (I : am_I) : Option (am_I) := am_gd (am_inb l2 16) (am_lt (am_up I l0 45 l2.toNatClampNeg l1) (fun I2 => am_lt (am_up I2 l0 44 2 ((I2 l0 44 2) + (nI 1))) (fun I3 => some I3)))
theorem tX3_add_59 {G : am_G} (hG : am_ok G) {d : Nat} {l0 : Nat} {l1 : Int32} {l2 : Int32} (hl0 : l0 < G.2.2.2.1) {I : am_I} {r : am_I} (h : bX3_add_59 G.2.2.2.1 l0 l1 l2  I = some r) : am_J G (d + 1) mX3_add am_no (am_E none r) 59 [some (.inr (l0, 44)), some (.inl l1), some (.inl l2)] [] I := by
  unfold bX3_add_59 at h
  refine am_aload_n dX3_add_59 rfl ?_
  refine am_get (v := .inr (l0, 45)) dX3_add_60 fl_3_9 (hG.mn hl0 (by decide) (by decide)) rfl ?_
  refine am_iload_n dX3_add_63 rfl ?_
  refine am_iload_n dX3_add_64 rfl ?_
  obtain ⟨g1, h⟩ := am_gd_some h
  refine am_iastG dX3_add_65 (hG.mn hl0 (by decide) (by decide)) rfl g1 (show 16 < 2 ^ 31 by decide) ?_
  obtain ⟨I2, hI2, h⟩ := am_lt_some h
  refine am_st10 hI2 ?_
  refine am_aload_n dX3_add_66 rfl ?_
  refine am_dup dX3_add_67 ?_
  refine am_get (v := .inl (I2 l0 44 2)) dX3_add_68 fl_3_28 (hG.mn hl0 (by decide) (by decide)) rfl ?_
  refine am_iconst (v := nI 1) dX3_add_71 (by decide) ?_
  refine am_iadd dX3_add_72 ?_
  refine am_put (x := (I2 l0 44 2) + (nI 1)) dX3_add_73 fp_3_28 (hG.mn hl0 (by decide) (by decide)) (Nat.le_of_ble_eq_true rfl) rfl ?_
  obtain ⟨I3, hI3, h⟩ := am_lt_some h
  refine am_st10 hI3 ?_
  cases h
  exact am_vret dX3_add_76 rfl ⟨rfl, rfl⟩
def bX3_add_23 (n : Nat) : Nat → Nat → Int32 → Int32 → am_I → Option (am_I)
  | 0, _, _, _, _ => none
  | fu + 1, l0, l1, l2, I => (fun k23 => if l2 ≤ 0 then (bX3_add_59 n l0 l1 l2 I) else (am_gd (am_inb (l2 - (nI 1)) 16) (if (I l0 45 ((l2 - (nI 1)).toNatClampNeg)) ≤ l1 then (bX3_add_59 n l0 l1 l2 I) else (am_gd (am_inb (l2 - (nI 1)) 16) (am_gd (am_inb l2 16) (am_lt (am_up I l0 45 l2.toNatClampNeg (I l0 45 ((l2 - (nI 1)).toNatClampNeg))) (fun I4 => k23 l0 l1 (l2 + (-1 : Int32)) I4))))))) (bX3_add_23 n fu)
theorem tX3_add_23 {G : am_G} (hG : am_ok G) {d : Nat} : ∀ {fu : Nat} {l0 : Nat} {l1 : Int32} {l2 : Int32} (hl0 : l0 < G.2.2.2.1) {I : am_I} {r : am_I}, bX3_add_23 G.2.2.2.1 fu l0 l1 l2 I = some r → am_J G (d + 1) mX3_add am_no (am_E none r) 23 [some (.inr (l0, 44)), some (.inl l1), some (.inl l2)] [] I := by
  intro fu
  induction fu with
  | zero => intro l0 l1 l2 hl0 I r h; cases h
  | succ fu ih =>
    intro l0 l1 l2 hl0 I r h
    have hk23 : ∀ (l0 : Nat) (l1 : Int32) (l2 : Int32) (hl0 : l0 < G.2.2.2.1) (I : am_I) (r : am_I), bX3_add_23 G.2.2.2.1 fu l0 l1 l2 I = some r → am_J G (d + 1) mX3_add am_no (am_E none r) 23 [some (.inr (l0, 44)), some (.inl l1), some (.inl l2)] [] I := fun l0 l1 l2 hl0 I r h => ih hl0 h
    unfold bX3_add_23 at h
    generalize bX3_add_23 G.2.2.2.1 fu = k23 at hk23 h
    dsimp only at h
    refine am_iload_n dX3_add_23 rfl ?_
    refine am_if_le (tgt := 59) dX3_add_24 rfl (fun c => ?_) (fun c => ?_)
    · rw [if_pos c] at h
      exact am_lwJ (lo' := [some (.inr (l0, 44)), some (.inl l1), some (.inl l2)]) ⟨rfl, rfl, rfl, trivial⟩ (tX3_add_59 hG hl0 h)
    · rw [if_neg c] at h
      refine am_aload_n dX3_add_27 rfl ?_
      refine am_get (v := .inr (l0, 45)) dX3_add_28 fl_3_9 (hG.mn hl0 (by decide) (by decide)) rfl ?_
      refine am_iload_n dX3_add_31 rfl ?_
      refine am_iconst (v := nI 1) dX3_add_32 (by decide) ?_
      refine am_isub dX3_add_33 ?_
      obtain ⟨g1, h⟩ := am_gd_some h
      refine am_ialdG dX3_add_34 (hG.mn hl0 (by decide) (by decide)) rfl g1 (show 16 < 2 ^ 31 by decide) ?_
      refine am_iload_n dX3_add_35 rfl ?_
      refine am_icmp_le (tgt := 59) dX3_add_36 rfl (fun c => ?_) (fun c => ?_)
      · rw [if_pos c] at h
        exact am_lwJ (lo' := [some (.inr (l0, 44)), some (.inl l1), some (.inl l2)]) ⟨rfl, rfl, rfl, trivial⟩ (tX3_add_59 hG hl0 h)
      · rw [if_neg c] at h
        refine am_aload_n dX3_add_39 rfl ?_
        refine am_get (v := .inr (l0, 45)) dX3_add_40 fl_3_9 (hG.mn hl0 (by decide) (by decide)) rfl ?_
        refine am_iload_n dX3_add_43 rfl ?_
        refine am_aload_n dX3_add_44 rfl ?_
        refine am_get (v := .inr (l0, 45)) dX3_add_45 fl_3_9 (hG.mn hl0 (by decide) (by decide)) rfl ?_
        refine am_iload_n dX3_add_48 rfl ?_
        refine am_iconst (v := nI 1) dX3_add_49 (by decide) ?_
        refine am_isub dX3_add_50 ?_
        obtain ⟨g2, h⟩ := am_gd_some h
        refine am_ialdG dX3_add_51 (hG.mn hl0 (by decide) (by decide)) rfl g2 (show 16 < 2 ^ 31 by decide) ?_
        obtain ⟨g3, h⟩ := am_gd_some h
        refine am_iastG dX3_add_52 (hG.mn hl0 (by decide) (by decide)) rfl g3 (show 16 < 2 ^ 31 by decide) ?_
        obtain ⟨I4, hI4, h⟩ := am_lt_some h
        refine am_st10 hI4 ?_
        refine am_iinc (v := l2 + (-1 : Int32)) dX3_add_53 rfl rfl ?_
        refine am_goto (tgt := 23) dX3_add_56 rfl ?_
        exact am_lwJ (lo' := [some (.inr (l0, 44)), some (.inl l1), some (.inl (l2 + (-1 : Int32)))]) ⟨rfl, rfl, rfl, trivial⟩ (hk23 l0 l1 (l2 + (-1 : Int32)) hl0 _ _ h)
def bX3_add_0 (n : Nat) (l0 : Nat) (l1 : Int32) (I : am_I) : Option (am_I) := if (nI 16) ≤ (I l0 44 2) then (bX3_add_17 n I) else ((gX3_hasLogged n l0 l1 I).bind (fun q1 => if q1.1 = 0 then (bX3_add_23 n am_fu l0 l1 (q1.2 l0 44 2) q1.2) else (bX3_add_17 n q1.2)))
theorem tX3_add_0 {G : am_G} (hG : am_ok G) {d : Nat} {l0 : Nat} {l1 : Int32} (hl0 : l0 < G.2.2.2.1) {I : am_I} {r : am_I} (h : bX3_add_0 G.2.2.2.1 l0 l1  I = some r) : am_J G (d + 1) mX3_add am_no (am_E none r) 0 [some (.inr (l0, 44)), some (.inl l1), none] [] I := by
  unfold bX3_add_0 at h
  refine am_aload_n dX3_add_0 rfl ?_
  refine am_get (v := .inl (I l0 44 2)) dX3_add_1 fl_3_28 (hG.mn hl0 (by decide) (by decide)) rfl ?_
  refine am_bipush (v := nI 16) dX3_add_4 (by decide) ?_
  refine am_icmp_ge (tgt := 17) dX3_add_6 rfl (fun c => ?_) (fun c => ?_)
  · rw [if_pos c] at h
    exact am_lwJ (lo' := [none, none, none]) trivial (tX3_add_17 hG h)
  · rw [if_neg c] at h
    refine am_aload_n dX3_add_9 rfl ?_
    refine am_iload_n dX3_add_10 rfl ?_
    obtain ⟨q1, hq1, h⟩ := am_bd h
    refine am_callVx (i := l0) (j := 44) (as := [.inl l1]) (rest := []) dX3_add_11 lkX3_hasLogged ml_X3_34 imX3_hasLogged seX3_hasLogged rfl rfl (hG.mn hl0 (by decide) (by decide)) rfl (Nat.le_of_ble_eq_true rfl) rfl (sX3_hasLogged hG hl0 hq1) ?_
    refine am_if_eq (tgt := 18) dX3_add_14 rfl (fun c => ?_) (fun c => ?_)
    · rw [if_pos c] at h
      refine am_aload_n dX3_add_18 rfl ?_
      refine am_get (v := .inl (q1.2 l0 44 2)) dX3_add_19 fl_3_28 (hG.mn hl0 (by decide) (by decide)) rfl ?_
      refine am_istore_n dX3_add_22 (by decide) ?_
      exact am_lwJ (lo' := [some (.inr (l0, 44)), some (.inl l1), some (.inl (q1.2 l0 44 2))]) ⟨rfl, rfl, rfl, trivial⟩ (tX3_add_23 hG hl0 h)
    · rw [if_neg c] at h
      exact am_lwJ (lo' := [none, none, none]) trivial (tX3_add_17 hG h)
def gX3_add (n : Nat) (l0 : Nat) (l1 : Int32) (I : am_I) : Option (am_I) := bX3_add_0 n l0 l1 I
theorem sX3_add {G : am_G} (hG : am_ok G) {d : Nat} {l0 : Nat} {l1 : Int32} (hl0 : l0 < G.2.2.2.1) {I : am_I} {r : am_I} (h : gX3_add G.2.2.2.1 l0 l1 I = some r) : am_C G (d + 1) mX3_add [.inr (l0, 44), .inl l1] I (am_E none r) :=
  am_of (by decide +kernel) hG.nd (Nat.le_of_ble_eq_true rfl) (am_lwJ (lo' := [some (.inr (l0, 44)), some (.inl l1), none]) ⟨rfl, rfl, trivial⟩ (tX3_add_0 hG hl0 h))
def bX9_settle_87 (n : Nat) (k50 : Int32 → am_I → Option (am_I)) (l1 : Int32) (I : am_I) : Option (am_I) := k50 (l1 + nI 1) I
theorem tX9_settle_87 {G : am_G} (hG : am_ok G) {d : Nat} {k50 : Int32 → am_I → Option (am_I)} (hk50 : ∀ (l1 : Int32) (I : am_I) (r : am_I), k50 l1 I = some r → am_J G (d + 2) mX9_settle am_no (am_E none r) 50 [some (.inr (0, 15)), some (.inl l1)] [] I) {l1 : Int32} {I : am_I} {r : am_I} (h : bX9_settle_87 G.2.2.2.1 k50 l1  I = some r) : am_J G (d + 2) mX9_settle am_no (am_E none r) 87 [some (.inr (0, 15)), some (.inl l1)] [] I := by
  unfold bX9_settle_87 at h
  refine am_iinc (v := l1 + nI 1) dX9_settle_87 rfl rfl ?_
  refine am_goto (tgt := 50) dX9_settle_90 rfl ?_
  exact am_lwJ (lo' := [some (.inr (0, 15)), some (.inl (l1 + nI 1))]) ⟨rfl, rfl, trivial⟩ (hk50 (l1 + nI 1) _ _ h)
def bX9_settle_50 (n : Nat) : Nat → Int32 → am_I → Option (am_I)
  | 0, _, _ => none
  | fu + 1, l1, I => (fun k50 => if (I 0 15 5) ≤ l1 then ((gX9_forget n I).bind (fun q1 => some q1)) else (am_gd (am_inb l1 32) ((gX9_isGiven n (I 0 16 l1.toNatClampNeg) I).bind (fun q3 => if q3.1 = 0 then (am_gd (decide ((q3.2 0 15 8).toNatClampNeg < n)) (am_gd (am_inb l1 32) ((gX3_add n ((q3.2 0 15 8).toNatClampNeg) (q3.2 0 16 l1.toNatClampNeg) q3.2).bind (fun q6 => bX9_settle_87 n k50 l1 q6)))) else (bX9_settle_87 n k50 l1 q3.2))))) (bX9_settle_50 n fu)
theorem tX9_settle_50 {G : am_G} (hG : am_ok G) {d : Nat} : ∀ {fu : Nat} {l1 : Int32} {I : am_I} {r : am_I}, bX9_settle_50 G.2.2.2.1 fu l1 I = some r → am_J G (d + 2) mX9_settle am_no (am_E none r) 50 [some (.inr (0, 15)), some (.inl l1)] [] I := by
  intro fu
  induction fu with
  | zero => intro l1 I r h; cases h
  | succ fu ih =>
    intro l1 I r h
    have hk50 : ∀ (l1 : Int32) (I : am_I) (r : am_I), bX9_settle_50 G.2.2.2.1 fu l1 I = some r → am_J G (d + 2) mX9_settle am_no (am_E none r) 50 [some (.inr (0, 15)), some (.inl l1)] [] I := fun l1 I r h => ih h
    unfold bX9_settle_50 at h
    generalize bX9_settle_50 G.2.2.2.1 fu = k50 at hk50 h
    dsimp only at h
    refine am_iload_n dX9_settle_50 rfl ?_
    refine am_aload_n dX9_settle_51 rfl ?_
    refine am_get (v := .inl (I 0 15 5)) dX9_settle_52 fl_9_111 (hG.m0 (by decide)) rfl ?_
    refine am_icmp_ge (tgt := 93) dX9_settle_55 rfl (fun c => ?_) (fun c => ?_)
    · rw [if_pos c] at h
      refine am_aload_n dX9_settle_93 rfl ?_
      obtain ⟨q1, hq1, h⟩ := am_bd h
      refine am_callVe (i := 0) (j := 15) (as := []) (rest := []) dX9_settle_94 lkX9_forget ml_X9_128 imX9_forget seX9_forget rfl rfl (hG.m0 (by decide)) rfl (Nat.le_of_ble_eq_true rfl) rfl (sX9_forget hG hq1) ?_
      cases h
      exact am_vret dX9_settle_97 rfl ⟨rfl, rfl⟩
    · rw [if_neg c] at h
      refine am_aload_n dX9_settle_58 rfl ?_
      refine am_aload_n dX9_settle_59 rfl ?_
      refine am_get (v := .inr (0, 16)) dX9_settle_60 fl_9_11 (hG.m0 (by decide)) rfl ?_
      refine am_iload_n dX9_settle_63 rfl ?_
      obtain ⟨g2, h⟩ := am_gd_some h
      refine am_ialdG dX9_settle_64 (hG.m0 (by decide)) rfl g2 (show 32 < 2 ^ 31 by decide) ?_
      obtain ⟨q3, hq3, h⟩ := am_bd h
      refine am_callVx (i := 0) (j := 15) (as := [.inl (I 0 16 l1.toNatClampNeg)]) (rest := []) dX9_settle_65 lkX9_isGiven ml_X9_142 imX9_isGiven seX9_isGiven rfl rfl (hG.m0 (by decide)) rfl (Nat.le_of_ble_eq_true rfl) rfl (sX9_isGiven hG hq3) ?_
      refine am_if_ne (tgt := 87) dX9_settle_68 rfl (fun c => ?_) (fun c => ?_)
      · rw [if_neg c] at h
        exact am_lwJ (lo' := [some (.inr (0, 15)), some (.inl l1)]) ⟨rfl, rfl, trivial⟩ (tX9_settle_87 hG hk50 h)
      · rw [if_pos c] at h
        refine am_aload_n dX9_settle_71 rfl ?_
        obtain ⟨g4, h⟩ := am_gd_some h
        have g4 := of_decide_eq_true g4
        refine am_get (v := .inr ((q3.2 0 15 8).toNatClampNeg, 40)) dX9_settle_72 fl_9_31 (hG.m0 (by decide)) rfl ?_
        refine am_get (v := .inr ((q3.2 0 15 8).toNatClampNeg, 44)) dX9_settle_75 fl_9_134 (hG.mn g4 (by decide) (by decide)) rfl ?_
        refine am_aload_n dX9_settle_78 rfl ?_
        refine am_get (v := .inr (0, 16)) dX9_settle_79 fl_9_11 (hG.m0 (by decide)) rfl ?_
        refine am_iload_n dX9_settle_82 rfl ?_
        obtain ⟨g5, h⟩ := am_gd_some h
        refine am_ialdG dX9_settle_83 (hG.m0 (by decide)) rfl g5 (show 32 < 2 ^ 31 by decide) ?_
        obtain ⟨q6, hq6, h⟩ := am_bd h
        refine am_callVe (i := (q3.2 0 15 8).toNatClampNeg) (j := 44) (as := [.inl (q3.2 0 16 l1.toNatClampNeg)]) (rest := []) dX9_settle_84 lkX3_add ml_X9_145 imX3_add seX3_add rfl rfl (hG.mn g4 (by decide) (by decide)) rfl (Nat.le_of_ble_eq_true rfl) rfl (sX3_add hG g4 hq6) ?_
        exact am_lwJ (lo' := [some (.inr (0, 15)), some (.inl l1)]) ⟨rfl, rfl, trivial⟩ (tX9_settle_87 hG hk50 h)
def bX9_settle_2 (n : Nat) : Nat → Int32 → am_I → Option (am_I)
  | 0, _, _ => none
  | fu + 1, l1, I => (fun k2 => if (I 0 15 7) ≤ l1 then (bX9_settle_50 n am_fu (nI 0) I) else (am_gd (decide ((I 0 15 8).toNatClampNeg < n)) (am_gd (am_inb l1 32) ((gX3_remove n ((I 0 15 8).toNatClampNeg) (I 0 20 l1.toNatClampNeg) I).bind (fun q3 => am_gd (decide ((q3 0 15 8).toNatClampNeg < n)) (am_gd (am_inb l1 32) ((gX1_drop n ((q3 0 15 8).toNatClampNeg) (q3 0 20 l1.toNatClampNeg) q3).bind (fun q6 => k2 (l1 + nI 1) q6)))))))) (bX9_settle_2 n fu)
theorem tX9_settle_2 {G : am_G} (hG : am_ok G) {d : Nat} : ∀ {fu : Nat} {l1 : Int32} {I : am_I} {r : am_I}, bX9_settle_2 G.2.2.2.1 fu l1 I = some r → am_J G (d + 2) mX9_settle am_no (am_E none r) 2 [some (.inr (0, 15)), some (.inl l1)] [] I := by
  intro fu
  induction fu with
  | zero => intro l1 I r h; cases h
  | succ fu ih =>
    intro l1 I r h
    have hk2 : ∀ (l1 : Int32) (I : am_I) (r : am_I), bX9_settle_2 G.2.2.2.1 fu l1 I = some r → am_J G (d + 2) mX9_settle am_no (am_E none r) 2 [some (.inr (0, 15)), some (.inl l1)] [] I := fun l1 I r h => ih h
    unfold bX9_settle_2 at h
    generalize bX9_settle_2 G.2.2.2.1 fu = k2 at hk2 h
    dsimp only at h
    refine am_iload_n dX9_settle_2 rfl ?_
    refine am_aload_n dX9_settle_3 rfl ?_
    refine am_get (v := .inl (I 0 15 7)) dX9_settle_4 fl_9_131 (hG.m0 (by decide)) rfl ?_
    refine am_icmp_ge (tgt := 48) dX9_settle_7 rfl (fun c => ?_) (fun c => ?_)
    · rw [if_pos c] at h
      refine am_iconst (v := nI 0) dX9_settle_48 (by decide) ?_
      refine am_istore_n dX9_settle_49 (by decide) ?_
      exact am_lwJ (lo' := [some (.inr (0, 15)), some (.inl (nI 0))]) ⟨rfl, rfl, trivial⟩ (tX9_settle_50 hG h)
    · rw [if_neg c] at h
      refine am_aload_n dX9_settle_10 rfl ?_
      obtain ⟨g1, h⟩ := am_gd_some h
      have g1 := of_decide_eq_true g1
      refine am_get (v := .inr ((I 0 15 8).toNatClampNeg, 40)) dX9_settle_11 fl_9_31 (hG.m0 (by decide)) rfl ?_
      refine am_get (v := .inr ((I 0 15 8).toNatClampNeg, 44)) dX9_settle_14 fl_9_134 (hG.mn g1 (by decide) (by decide)) rfl ?_
      refine am_aload_n dX9_settle_17 rfl ?_
      refine am_get (v := .inr (0, 20)) dX9_settle_18 fl_9_25 (hG.m0 (by decide)) rfl ?_
      refine am_iload_n dX9_settle_21 rfl ?_
      obtain ⟨g2, h⟩ := am_gd_some h
      refine am_ialdG dX9_settle_22 (hG.m0 (by decide)) rfl g2 (show 32 < 2 ^ 31 by decide) ?_
      obtain ⟨q3, hq3, h⟩ := am_bd h
      refine am_callVe (i := (I 0 15 8).toNatClampNeg) (j := 44) (as := [.inl (I 0 20 l1.toNatClampNeg)]) (rest := []) dX9_settle_23 lkX3_remove ml_X9_138 imX3_remove seX3_remove rfl rfl (hG.mn g1 (by decide) (by decide)) rfl (Nat.le_of_ble_eq_true rfl) rfl (sX3_remove hG g1 hq3) ?_
      refine am_aload_n dX9_settle_26 rfl ?_
      obtain ⟨g4, h⟩ := am_gd_some h
      have g4 := of_decide_eq_true g4
      refine am_get (v := .inr ((q3 0 15 8).toNatClampNeg, 40)) dX9_settle_27 fl_9_31 (hG.m0 (by decide)) rfl ?_
      refine am_get (v := .inr ((q3 0 15 8).toNatClampNeg, 41)) dX9_settle_30 fl_9_107 (hG.mn g4 (by decide) (by decide)) rfl ?_
      refine am_aload_n dX9_settle_33 rfl ?_
      refine am_get (v := .inr (0, 20)) dX9_settle_34 fl_9_25 (hG.m0 (by decide)) rfl ?_
      refine am_iload_n dX9_settle_37 rfl ?_
      obtain ⟨g5, h⟩ := am_gd_some h
      refine am_ialdG dX9_settle_38 (hG.m0 (by decide)) rfl g5 (show 32 < 2 ^ 31 by decide) ?_
      obtain ⟨q6, hq6, h⟩ := am_bd h
      refine am_callVe (i := (q3 0 15 8).toNatClampNeg) (j := 41) (as := [.inl (q3 0 20 l1.toNatClampNeg)]) (rest := []) dX9_settle_39 lkX1_drop ml_X9_125 imX1_drop seX1_drop rfl rfl (hG.mn g4 (by decide) (by decide)) rfl (Nat.le_of_ble_eq_true rfl) rfl (sX1_drop hG g4 hq6) ?_
      refine am_iinc (v := l1 + nI 1) dX9_settle_42 rfl rfl ?_
      refine am_goto (tgt := 2) dX9_settle_45 rfl ?_
      exact am_lwJ (lo' := [some (.inr (0, 15)), some (.inl (l1 + nI 1))]) ⟨rfl, rfl, trivial⟩ (hk2 (l1 + nI 1) _ _ h)
def bX9_settle_0 (n : Nat) (I : am_I) : Option (am_I) := bX9_settle_2 n am_fu (nI 0) I
theorem tX9_settle_0 {G : am_G} (hG : am_ok G) {d : Nat} {I : am_I} {r : am_I} (h : bX9_settle_0 G.2.2.2.1  I = some r) : am_J G (d + 2) mX9_settle am_no (am_E none r) 0 [some (.inr (0, 15)), none] [] I := by
  unfold bX9_settle_0 at h
  refine am_iconst (v := nI 0) dX9_settle_0 (by decide) ?_
  refine am_istore_n dX9_settle_1 (by decide) ?_
  exact am_lwJ (lo' := [some (.inr (0, 15)), some (.inl (nI 0))]) ⟨rfl, rfl, trivial⟩ (tX9_settle_2 hG h)
def gX9_settle (n : Nat) (I : am_I) : Option (am_I) := bX9_settle_0 n I
theorem sX9_settle {G : am_G} (hG : am_ok G) {d : Nat} {I : am_I} {r : am_I} (h : gX9_settle G.2.2.2.1 I = some r) : am_C G (d + 2) mX9_settle [.inr (0, 15)] I (am_E none r) :=
  am_of (by decide +kernel) hG.nd (Nat.le_of_ble_eq_true rfl) (am_lwJ (lo' := [some (.inr (0, 15)), none]) ⟨rfl, trivial⟩ (tX9_settle_0 hG h))
def bX8_end_0 (n : Nat) (l0 : Nat) (l1 : Int32) (l2 : Int32) (l3 : Int32) (I : am_I) : Option (am_I) := am_lt (am_up I l0 55 5 l1) (fun I1 => am_lt (am_up I1 l0 55 6 l2) (fun I2 => am_lt (am_up I2 l0 55 8 (l3 - (I2 l0 55 7))) (fun I3 => am_lt (am_up I3 l0 55 11 (nI 0)) (fun I4 => some I4))))
theorem tX8_end_0 {G : am_G} (hG : am_ok G) {d : Nat} {l0 : Nat} {l1 : Int32} {l2 : Int32} {l3 : Int32} (hl0 : l0 < G.2.2.2.1) {I : am_I} {r : am_I} (h : bX8_end_0 G.2.2.2.1 l0 l1 l2 l3  I = some r) : am_J G d mX8_end am_no (am_E none r) 0 [some (.inr (l0, 55)), some (.inl l1), some (.inl l2), some (.inl l3)] [] I := by
  unfold bX8_end_0 at h
  refine am_aload_n dX8_end_0 rfl ?_
  refine am_iload_n dX8_end_1 rfl ?_
  refine am_put (x := l1) dX8_end_2 fp_8_15 (hG.mn hl0 (by decide) (by decide)) (Nat.le_of_ble_eq_true rfl) rfl ?_
  obtain ⟨I1, hI1, h⟩ := am_lt_some h
  refine am_st10 hI1 ?_
  refine am_aload_n dX8_end_5 rfl ?_
  refine am_iload_n dX8_end_6 rfl ?_
  refine am_put (x := l2) dX8_end_7 fp_8_18 (hG.mn hl0 (by decide) (by decide)) (Nat.le_of_ble_eq_true rfl) rfl ?_
  obtain ⟨I2, hI2, h⟩ := am_lt_some h
  refine am_st10 hI2 ?_
  refine am_aload_n dX8_end_10 rfl ?_
  refine am_iload_n dX8_end_11 rfl ?_
  refine am_aload_n dX8_end_12 rfl ?_
  refine am_get (v := .inl (I2 l0 55 7)) dX8_end_13 fl_8_21 (hG.mn hl0 (by decide) (by decide)) rfl ?_
  refine am_isub dX8_end_16 ?_
  refine am_put (x := l3 - (I2 l0 55 7)) dX8_end_17 fp_8_24 (hG.mn hl0 (by decide) (by decide)) (Nat.le_of_ble_eq_true rfl) rfl ?_
  obtain ⟨I3, hI3, h⟩ := am_lt_some h
  refine am_st10 hI3 ?_
  refine am_aload_n dX8_end_20 rfl ?_
  refine am_iconst (v := nI 0) dX8_end_21 (by decide) ?_
  refine am_putz (x := nI 0) dX8_end_22 fp_8_33 (hG.mn hl0 (by decide) (by decide)) (by decide) (Nat.le_of_ble_eq_true rfl) rfl ?_
  obtain ⟨I4, hI4, h⟩ := am_lt_some h
  refine am_st10 hI4 ?_
  cases h
  exact am_vret dX8_end_25 rfl ⟨rfl, rfl⟩
def gX8_end (n : Nat) (l0 : Nat) (l1 : Int32) (l2 : Int32) (l3 : Int32) (I : am_I) : Option (am_I) := bX8_end_0 n l0 l1 l2 l3 I
theorem sX8_end {G : am_G} (hG : am_ok G) {d : Nat} {l0 : Nat} {l1 : Int32} {l2 : Int32} {l3 : Int32} (hl0 : l0 < G.2.2.2.1) {I : am_I} {r : am_I} (h : gX8_end G.2.2.2.1 l0 l1 l2 l3 I = some r) : am_C G d mX8_end [.inr (l0, 55), .inl l1, .inl l2, .inl l3] I (am_E none r) :=
  am_of (by decide +kernel) hG.nd (Nat.le_of_ble_eq_true rfl) (am_lwJ (lo' := [some (.inr (l0, 55)), some (.inl l1), some (.inl l2), some (.inl l3)]) ⟨rfl, rfl, rfl, rfl, trivial⟩ (tX8_end_0 hG hl0 h))
def bX0_enter_158 (n : Nat) (I : am_I) : Option (am_I) := am_lt (am_up I 0 13 1 ((I 0 13 1) + (nI 1))) (fun I1 => some I1)
theorem tX0_enter_158 {G : am_G} (hG : am_ok G) {d : Nat} {I : am_I} {r : am_I} (h : bX0_enter_158 G.2.2.2.1  I = some r) : am_J G d mX0_enter am_no (am_E none r) 158 [some (.inr (0, 13)), none, none, none, none, none] [] I := by
  unfold bX0_enter_158 at h
  refine am_aload_n dX0_enter_158 rfl ?_
  refine am_dup dX0_enter_159 ?_
  refine am_get (v := .inl (I 0 13 1)) dX0_enter_160 fl_0_15 (hG.m0 (by decide)) rfl ?_
  refine am_iconst (v := nI 1) dX0_enter_163 (by decide) ?_
  refine am_iadd dX0_enter_164 ?_
  refine am_put (x := (I 0 13 1) + (nI 1)) dX0_enter_165 fp_0_15 (hG.m0 (by decide)) (Nat.le_of_ble_eq_true rfl) rfl ?_
  obtain ⟨I1, hI1, h⟩ := am_lt_some h
  refine am_st10 hI1 ?_
  cases h
  exact am_vret dX0_enter_168 rfl ⟨rfl, rfl⟩
def bX0_enter_0 (n : Nat) (l1 : Nat) (l2 : Int32) (l3 : Int32) (I : am_I) : Option (am_I) := if (nI 400) ≤ (I 0 13 1) then (bX0_enter_158 n I) else (am_gd (am_inb ((I 0 13 1) * (nI 10)) 4000) (am_lt (am_up I 0 14 ((I 0 13 1) * (nI 10)).toNatClampNeg (I l1 40 0)) (fun I2 => am_gd (am_inb (((I 0 13 1) * (nI 10)) + (nI 1)) 4000) (am_lt (am_up I2 0 14 (((I 0 13 1) * (nI 10)) + (nI 1)).toNatClampNeg (I2 l1 55 0)) (fun I4 => am_gd (am_inb (((I 0 13 1) * (nI 10)) + (nI 2)) 4000) (am_lt (am_up I4 0 14 (((I 0 13 1) * (nI 10)) + (nI 2)).toNatClampNeg (I4 l1 55 1)) (fun I6 => am_gd (am_inb (((I 0 13 1) * (nI 10)) + (nI 3)) 4000) (am_lt (am_up I6 0 14 (((I 0 13 1) * (nI 10)) + (nI 3)).toNatClampNeg (I6 l1 55 2)) (fun I8 => am_gd (am_inb (((I 0 13 1) * (nI 10)) + (nI 4)) 4000) (am_lt (am_up I8 0 14 (((I 0 13 1) * (nI 10)) + (nI 4)).toNatClampNeg (I8 l1 55 3)) (fun I10 => am_gd (am_inb (((I 0 13 1) * (nI 10)) + (nI 5)) 4000) (am_lt (am_up I10 0 14 (((I 0 13 1) * (nI 10)) + (nI 5)).toNatClampNeg (I10 l1 55 4)) (fun I12 => am_gd (am_inb (((I 0 13 1) * (nI 10)) + (nI 6)) 4000) (am_lt (am_up I12 0 14 (((I 0 13 1) * (nI 10)) + (nI 6)).toNatClampNeg (I12 l1 55 5)) (fun I14 => am_gd (am_inb (((I 0 13 1) * (nI 10)) + (nI 7)) 4000) (am_lt (am_up I14 0 14 (((I 0 13 1) * (nI 10)) + (nI 7)).toNatClampNeg (I14 l1 55 6)) (fun I16 => am_gd (am_inb (((I 0 13 1) * (nI 10)) + (nI 8)) 4000) (am_lt (am_up I16 0 14 (((I 0 13 1) * (nI 10)) + (nI 8)).toNatClampNeg l2) (fun I18 => am_gd (am_inb (((I 0 13 1) * (nI 10)) + (nI 9)) 4000) (am_lt (am_up I18 0 14 (((I 0 13 1) * (nI 10)) + (nI 9)).toNatClampNeg l3) (fun I20 => bX0_enter_158 n I20)))))))))))))))))))))
theorem tX0_enter_0 {G : am_G} (hG : am_ok G) {d : Nat} {l1 : Nat} {l2 : Int32} {l3 : Int32} (hl1 : l1 < G.2.2.2.1) {I : am_I} {r : am_I} (h : bX0_enter_0 G.2.2.2.1 l1 l2 l3  I = some r) : am_J G d mX0_enter am_no (am_E none r) 0 [some (.inr (0, 13)), some (.inr (l1, 40)), some (.inl l2), some (.inl l3), none, none] [] I := by
  unfold bX0_enter_0 at h
  refine am_aload_n dX0_enter_0 rfl ?_
  refine am_get (v := .inl (I 0 13 1)) dX0_enter_1 fl_0_15 (hG.m0 (by decide)) rfl ?_
  refine am_sipush (v := nI 400) dX0_enter_4 (by decide) ?_
  refine am_icmp_ge (tgt := 158) dX0_enter_7 rfl (fun c => ?_) (fun c => ?_)
  · rw [if_pos c] at h
    exact am_lwJ (lo' := [some (.inr (0, 13)), none, none, none, none, none]) ⟨rfl, trivial⟩ (tX0_enter_158 hG h)
  · rw [if_neg c] at h
    refine am_aload_n dX0_enter_10 rfl ?_
    refine am_get (v := .inr (l1, 55)) dX0_enter_11 fl_0_25 (hG.mn hl1 (by decide) (by decide)) rfl ?_
    refine am_astore dX0_enter_14 (by decide) ?_
    refine am_aload_n dX0_enter_16 rfl ?_
    refine am_get (v := .inl (I 0 13 1)) dX0_enter_17 fl_0_15 (hG.m0 (by decide)) rfl ?_
    refine am_bipush (v := nI 10) dX0_enter_20 (by decide) ?_
    refine am_imul dX0_enter_22 ?_
    refine am_istore dX0_enter_23 (by decide) ?_
    refine am_aload_n dX0_enter_25 rfl ?_
    refine am_get (v := .inr (0, 14)) dX0_enter_26 fl_0_11 (hG.m0 (by decide)) rfl ?_
    refine am_iload dX0_enter_29 rfl ?_
    refine am_aload_n dX0_enter_31 rfl ?_
    refine am_get (v := .inl (I l1 40 0)) dX0_enter_32 fl_0_31 (hG.mn hl1 (by decide) (by decide)) rfl ?_
    obtain ⟨g1, h⟩ := am_gd_some h
    refine am_iastG dX0_enter_35 (hG.m0 (by decide)) rfl g1 (show 4000 < 2 ^ 31 by decide) ?_
    obtain ⟨I2, hI2, h⟩ := am_lt_some h
    refine am_st10 hI2 ?_
    refine am_aload_n dX0_enter_36 rfl ?_
    refine am_get (v := .inr (0, 14)) dX0_enter_37 fl_0_11 (hG.m0 (by decide)) rfl ?_
    refine am_iload dX0_enter_40 rfl ?_
    refine am_iconst (v := nI 1) dX0_enter_42 (by decide) ?_
    refine am_iadd dX0_enter_43 ?_
    refine am_aload dX0_enter_44 rfl ?_
    refine am_get (v := .inl (I2 l1 55 0)) dX0_enter_46 fl_0_34 (hG.mn hl1 (by decide) (by decide)) rfl ?_
    obtain ⟨g3, h⟩ := am_gd_some h
    refine am_iastG dX0_enter_49 (hG.m0 (by decide)) rfl g3 (show 4000 < 2 ^ 31 by decide) ?_
    obtain ⟨I4, hI4, h⟩ := am_lt_some h
    refine am_st10 hI4 ?_
    refine am_aload_n dX0_enter_50 rfl ?_
    refine am_get (v := .inr (0, 14)) dX0_enter_51 fl_0_11 (hG.m0 (by decide)) rfl ?_
    refine am_iload dX0_enter_54 rfl ?_
    refine am_iconst (v := nI 2) dX0_enter_56 (by decide) ?_
    refine am_iadd dX0_enter_57 ?_
    refine am_aload dX0_enter_58 rfl ?_
    refine am_get (v := .inl (I4 l1 55 1)) dX0_enter_60 fl_0_39 (hG.mn hl1 (by decide) (by decide)) rfl ?_
    obtain ⟨g5, h⟩ := am_gd_some h
    refine am_iastG dX0_enter_63 (hG.m0 (by decide)) rfl g5 (show 4000 < 2 ^ 31 by decide) ?_
    obtain ⟨I6, hI6, h⟩ := am_lt_some h
    refine am_st10 hI6 ?_
    refine am_aload_n dX0_enter_64 rfl ?_
    refine am_get (v := .inr (0, 14)) dX0_enter_65 fl_0_11 (hG.m0 (by decide)) rfl ?_
    refine am_iload dX0_enter_68 rfl ?_
    refine am_iconst (v := nI 3) dX0_enter_70 (by decide) ?_
    refine am_iadd dX0_enter_71 ?_
    refine am_aload dX0_enter_72 rfl ?_
    refine am_get (v := .inl (I6 l1 55 2)) dX0_enter_74 fl_0_42 (hG.mn hl1 (by decide) (by decide)) rfl ?_
    obtain ⟨g7, h⟩ := am_gd_some h
    refine am_iastG dX0_enter_77 (hG.m0 (by decide)) rfl g7 (show 4000 < 2 ^ 31 by decide) ?_
    obtain ⟨I8, hI8, h⟩ := am_lt_some h
    refine am_st10 hI8 ?_
    refine am_aload_n dX0_enter_78 rfl ?_
    refine am_get (v := .inr (0, 14)) dX0_enter_79 fl_0_11 (hG.m0 (by decide)) rfl ?_
    refine am_iload dX0_enter_82 rfl ?_
    refine am_iconst (v := nI 4) dX0_enter_84 (by decide) ?_
    refine am_iadd dX0_enter_85 ?_
    refine am_aload dX0_enter_86 rfl ?_
    refine am_get (v := .inl (I8 l1 55 3)) dX0_enter_88 fl_0_45 (hG.mn hl1 (by decide) (by decide)) rfl ?_
    obtain ⟨g9, h⟩ := am_gd_some h
    refine am_iastG dX0_enter_91 (hG.m0 (by decide)) rfl g9 (show 4000 < 2 ^ 31 by decide) ?_
    obtain ⟨I10, hI10, h⟩ := am_lt_some h
    refine am_st10 hI10 ?_
    refine am_aload_n dX0_enter_92 rfl ?_
    refine am_get (v := .inr (0, 14)) dX0_enter_93 fl_0_11 (hG.m0 (by decide)) rfl ?_
    refine am_iload dX0_enter_96 rfl ?_
    refine am_iconst (v := nI 5) dX0_enter_98 (by decide) ?_
    refine am_iadd dX0_enter_99 ?_
    refine am_aload dX0_enter_100 rfl ?_
    refine am_get (v := .inl (I10 l1 55 4)) dX0_enter_102 fl_0_48 (hG.mn hl1 (by decide) (by decide)) rfl ?_
    obtain ⟨g11, h⟩ := am_gd_some h
    refine am_iastG dX0_enter_105 (hG.m0 (by decide)) rfl g11 (show 4000 < 2 ^ 31 by decide) ?_
    obtain ⟨I12, hI12, h⟩ := am_lt_some h
    refine am_st10 hI12 ?_
    refine am_aload_n dX0_enter_106 rfl ?_
    refine am_get (v := .inr (0, 14)) dX0_enter_107 fl_0_11 (hG.m0 (by decide)) rfl ?_
    refine am_iload dX0_enter_110 rfl ?_
    refine am_bipush (v := nI 6) dX0_enter_112 (by decide) ?_
    refine am_iadd dX0_enter_114 ?_
    refine am_aload dX0_enter_115 rfl ?_
    refine am_get (v := .inl (I12 l1 55 5)) dX0_enter_117 fl_0_51 (hG.mn hl1 (by decide) (by decide)) rfl ?_
    obtain ⟨g13, h⟩ := am_gd_some h
    refine am_iastG dX0_enter_120 (hG.m0 (by decide)) rfl g13 (show 4000 < 2 ^ 31 by decide) ?_
    obtain ⟨I14, hI14, h⟩ := am_lt_some h
    refine am_st10 hI14 ?_
    refine am_aload_n dX0_enter_121 rfl ?_
    refine am_get (v := .inr (0, 14)) dX0_enter_122 fl_0_11 (hG.m0 (by decide)) rfl ?_
    refine am_iload dX0_enter_125 rfl ?_
    refine am_bipush (v := nI 7) dX0_enter_127 (by decide) ?_
    refine am_iadd dX0_enter_129 ?_
    refine am_aload dX0_enter_130 rfl ?_
    refine am_get (v := .inl (I14 l1 55 6)) dX0_enter_132 fl_0_54 (hG.mn hl1 (by decide) (by decide)) rfl ?_
    obtain ⟨g15, h⟩ := am_gd_some h
    refine am_iastG dX0_enter_135 (hG.m0 (by decide)) rfl g15 (show 4000 < 2 ^ 31 by decide) ?_
    obtain ⟨I16, hI16, h⟩ := am_lt_some h
    refine am_st10 hI16 ?_
    refine am_aload_n dX0_enter_136 rfl ?_
    refine am_get (v := .inr (0, 14)) dX0_enter_137 fl_0_11 (hG.m0 (by decide)) rfl ?_
    refine am_iload dX0_enter_140 rfl ?_
    refine am_bipush (v := nI 8) dX0_enter_142 (by decide) ?_
    refine am_iadd dX0_enter_144 ?_
    refine am_iload_n dX0_enter_145 rfl ?_
    obtain ⟨g17, h⟩ := am_gd_some h
    refine am_iastG dX0_enter_146 (hG.m0 (by decide)) rfl g17 (show 4000 < 2 ^ 31 by decide) ?_
    obtain ⟨I18, hI18, h⟩ := am_lt_some h
    refine am_st10 hI18 ?_
    refine am_aload_n dX0_enter_147 rfl ?_
    refine am_get (v := .inr (0, 14)) dX0_enter_148 fl_0_11 (hG.m0 (by decide)) rfl ?_
    refine am_iload dX0_enter_151 rfl ?_
    refine am_bipush (v := nI 9) dX0_enter_153 (by decide) ?_
    refine am_iadd dX0_enter_155 ?_
    refine am_iload_n dX0_enter_156 rfl ?_
    obtain ⟨g19, h⟩ := am_gd_some h
    refine am_iastG dX0_enter_157 (hG.m0 (by decide)) rfl g19 (show 4000 < 2 ^ 31 by decide) ?_
    obtain ⟨I20, hI20, h⟩ := am_lt_some h
    refine am_st10 hI20 ?_
    exact am_lwJ (lo' := [some (.inr (0, 13)), none, none, none, none, none]) ⟨rfl, trivial⟩ (tX0_enter_158 hG h)
def gX0_enter (n : Nat) (l1 : Nat) (l2 : Int32) (l3 : Int32) (I : am_I) : Option (am_I) := bX0_enter_0 n l1 l2 l3 I
theorem sX0_enter {G : am_G} (hG : am_ok G) {d : Nat} {l1 : Nat} {l2 : Int32} {l3 : Int32} (hl1 : l1 < G.2.2.2.1) {I : am_I} {r : am_I} (h : gX0_enter G.2.2.2.1 l1 l2 l3 I = some r) : am_C G d mX0_enter [.inr (0, 13), .inr (l1, 40), .inl l2, .inl l3] I (am_E none r) :=
  am_of (by decide +kernel) hG.nd (Nat.le_of_ble_eq_true rfl) (am_lwJ (lo' := [some (.inr (0, 13)), some (.inr (l1, 40)), some (.inl l2), some (.inl l3), none, none]) ⟨rfl, rfl, rfl, rfl, trivial⟩ (tX0_enter_0 hG hl1 h))
def bX4_clearList_0 (n : Nat) (l0 : Nat) (I : am_I) : Option (am_I) := am_lt (am_upf I l0 54 (am_fil (I l0 54) 136 (nI 0))) (fun I1 => am_lt (am_up I1 l0 48 6 (nI 0)) (fun I2 => some I2))
theorem tX4_clearList_0 {G : am_G} (hG : am_ok G) {d : Nat} {l0 : Nat} (hl0 : l0 < G.2.2.2.1) {I : am_I} {r : am_I} (h : bX4_clearList_0 G.2.2.2.1 l0  I = some r) : am_J G (d + 1) mX4_clearList am_no (am_E none r) 0 [some (.inr (l0, 48))] [] I := by
  unfold bX4_clearList_0 at h
  refine am_aload_n dX4_clearList_0 rfl ?_
  refine am_get (v := .inr (l0, 54)) dX4_clearList_1 fl_4_28 (hG.mn hl0 (by decide) (by decide)) rfl ?_
  refine am_iconst (v := nI 0) dX4_clearList_4 (by decide) ?_
  refine am_callSe (as := [.inr (l0, 54), .inl (nI 0)]) (rest := []) dX4_clearList_5 lkJ7_fill_53178 ml_X4_31 isJ7_fill_53178 rfl (Nat.le_of_ble_eq_true rfl) rfl (c_fill (i := l0) (j := 54) hG.nd (hG.mn hl0 (by decide) (by decide)) rfl (show 136 < 2 ^ 31 by decide) (nI 0) I) ?_
  obtain ⟨I1, hI1, h⟩ := am_lt_some h
  refine am_st10 hI1 ?_
  refine am_aload_n dX4_clearList_8 rfl ?_
  refine am_iconst (v := nI 0) dX4_clearList_9 (by decide) ?_
  refine am_put (x := nI 0) dX4_clearList_10 fp_4_43 (hG.mn hl0 (by decide) (by decide)) (Nat.le_of_ble_eq_true rfl) rfl ?_
  obtain ⟨I2, hI2, h⟩ := am_lt_some h
  refine am_st10 hI2 ?_
  cases h
  exact am_vret dX4_clearList_13 rfl ⟨rfl, rfl⟩
def gX4_clearList (n : Nat) (l0 : Nat) (I : am_I) : Option (am_I) := bX4_clearList_0 n l0 I
theorem sX4_clearList {G : am_G} (hG : am_ok G) {d : Nat} {l0 : Nat} (hl0 : l0 < G.2.2.2.1) {I : am_I} {r : am_I} (h : gX4_clearList G.2.2.2.1 l0 I = some r) : am_C G (d + 1) mX4_clearList [.inr (l0, 48)] I (am_E none r) :=
  am_of (by decide +kernel) hG.nd (Nat.le_of_ble_eq_true rfl) (am_lwJ (lo' := [some (.inr (l0, 48))]) ⟨rfl, trivial⟩ (tX4_clearList_0 hG hl0 h))
def bX10_endCall_75 (n : Nat) (l1 : Nat) (s0 : Int32) (s1 : Int32) (s2 : Nat) (I : am_I) : Option (am_I) := (gX0_enter n s2 s1 s0 I).bind (fun q1 => (gX10_unpinAll n l1 q1).bind (fun q2 => (gX4_clearList n l1 q2).bind (fun q3 => some q3)))
theorem tX10_endCall_75 {G : am_G} (hG : am_ok G) {d : Nat} {l1 : Nat} {s0 : Int32} {s1 : Int32} {s2 : Nat} (hl1 : l1 < G.2.2.2.1) (hs2 : s2 < G.2.2.2.1) {I : am_I} {r : am_I} (h : bX10_endCall_75 G.2.2.2.1 l1 s0 s1 s2  I = some r) : am_J G (d + 5) mX10_endCall am_no (am_E none r) 75 [some (.inr (0, 0)), some (.inr (l1, 40)), none] [.inl s0, .inl s1, .inr (s2, 40), .inr (0, 13)] I := by
  unfold bX10_endCall_75 at h
  obtain ⟨q1, hq1, h⟩ := am_bd h
  refine am_callVe (i := 0) (j := 13) (as := [.inr (s2, 40), .inl s1, .inl s0]) (rest := []) dX10_endCall_75 lkX0_enter ml_X10_405 imX0_enter seX0_enter rfl rfl (hG.m0 (by decide)) rfl (Nat.le_of_ble_eq_true rfl) rfl (sX0_enter hG hs2 hq1) ?_
  refine am_aload_n dX10_endCall_78 rfl ?_
  refine am_aload_n dX10_endCall_79 rfl ?_
  obtain ⟨q2, hq2, h⟩ := am_bd h
  refine am_callVe (i := 0) (j := 0) (as := [.inr (l1, 40)]) (rest := []) dX10_endCall_80 lkX10_unpinAll ml_X10_356 imX10_unpinAll seX10_unpinAll rfl rfl (hG.m0 (by decide)) rfl (Nat.le_of_ble_eq_true rfl) rfl (sX10_unpinAll hG hl1 hq2) ?_
  refine am_aload_n dX10_endCall_83 rfl ?_
  refine am_get (v := .inr (l1, 48)) dX10_endCall_84 fl_10_244 (hG.mn hl1 (by decide) (by decide)) rfl ?_
  obtain ⟨q3, hq3, h⟩ := am_bd h
  refine am_callVe (i := l1) (j := 48) (as := []) (rest := []) dX10_endCall_87 lkX4_clearList ml_X10_409 imX4_clearList seX4_clearList rfl rfl (hG.mn hl1 (by decide) (by decide)) rfl (Nat.le_of_ble_eq_true rfl) rfl (sX4_clearList hG hl1 hq3) ?_
  cases h
  exact am_vret dX10_endCall_90 rfl ⟨rfl, rfl⟩
def bX10_endCall_43 (n : Nat) (l1 : Nat) (l2 : Int32) (s0 : Int32) (s1 : Nat) (I : am_I) : Option (am_I) := (gX8_end n s1 s0 (I 0 15 10) (I 0 0 7) I).bind (fun q1 => if l2 = 0 then (bX10_endCall_75 n l1 (nI 0) (q1 0 0 7) l1 q1) else (bX10_endCall_75 n l1 (nI 1) (q1 0 0 7) l1 q1))
theorem tX10_endCall_43 {G : am_G} (hG : am_ok G) {d : Nat} {l1 : Nat} {l2 : Int32} {s0 : Int32} {s1 : Nat} (hl1 : l1 < G.2.2.2.1) (hs1 : s1 < G.2.2.2.1) {I : am_I} {r : am_I} (h : bX10_endCall_43 G.2.2.2.1 l1 l2 s0 s1  I = some r) : am_J G (d + 5) mX10_endCall am_no (am_E none r) 43 [some (.inr (0, 0)), some (.inr (l1, 40)), some (.inl l2)] [.inl s0, .inr (s1, 55)] I := by
  unfold bX10_endCall_43 at h
  refine am_aload_n dX10_endCall_43 rfl ?_
  refine am_get (v := .inr (0, 15)) dX10_endCall_44 fl_10_52 (hG.m0 (by decide)) rfl ?_
  refine am_get (v := .inl (I 0 15 10)) dX10_endCall_47 fl_10_404 (hG.m0 (by decide)) rfl ?_
  refine am_aload_n dX10_endCall_50 rfl ?_
  refine am_get (v := .inl (I 0 0 7)) dX10_endCall_51 fl_10_99 (hG.m0 (by decide)) rfl ?_
  obtain ⟨q1, hq1, h⟩ := am_bd h
  refine am_callVe (i := s1) (j := 55) (as := [.inl s0, .inl (I 0 15 10), .inl (I 0 0 7)]) (rest := []) dX10_endCall_54 lkX8_end ml_X10_145 imX8_end seX8_end rfl rfl (hG.mn hs1 (by decide) (by decide)) rfl (Nat.le_of_ble_eq_true rfl) rfl (sX8_end hG hs1 hq1) ?_
  refine am_aload_n dX10_endCall_57 rfl ?_
  refine am_get (v := .inr (0, 13)) dX10_endCall_58 fl_10_43 (hG.m0 (by decide)) rfl ?_
  refine am_aload_n dX10_endCall_61 rfl ?_
  refine am_aload_n dX10_endCall_62 rfl ?_
  refine am_get (v := .inl (q1 0 0 7)) dX10_endCall_63 fl_10_99 (hG.m0 (by decide)) rfl ?_
  refine am_iload_n dX10_endCall_66 rfl ?_
  refine am_if_eq (tgt := 74) dX10_endCall_67 rfl (fun c => ?_) (fun c => ?_)
  · rw [if_pos c] at h
    refine am_iconst (v := nI 0) dX10_endCall_74 (by decide) ?_
    exact am_lwJ (lo' := [some (.inr (0, 0)), some (.inr (l1, 40)), none]) ⟨rfl, rfl, trivial⟩ (tX10_endCall_75 hG hl1 hl1 h)
  · rw [if_neg c] at h
    refine am_iconst (v := nI 1) dX10_endCall_70 (by decide) ?_
    refine am_goto (tgt := 75) dX10_endCall_71 rfl ?_
    exact am_lwJ (lo' := [some (.inr (0, 0)), some (.inr (l1, 40)), none]) ⟨rfl, rfl, trivial⟩ (tX10_endCall_75 hG hl1 hl1 h)
def bX10_endCall_15 (n : Nat) (l1 : Nat) (s0 : Int32) (I : am_I) : Option (am_I) := (gX9_settle n I).bind (fun q1 => if (q1 0 15 9) = (nI 2) then (bX10_endCall_43 n l1 s0 (nI 3) l1 q1) else (bX10_endCall_43 n l1 s0 (nI 2) l1 q1))
theorem tX10_endCall_15 {G : am_G} (hG : am_ok G) {d : Nat} {l1 : Nat} {s0 : Int32} (hl1 : l1 < G.2.2.2.1) {I : am_I} {r : am_I} (h : bX10_endCall_15 G.2.2.2.1 l1 s0  I = some r) : am_J G (d + 5) mX10_endCall am_no (am_E none r) 15 [some (.inr (0, 0)), some (.inr (l1, 40)), none] [.inl s0] I := by
  unfold bX10_endCall_15 at h
  refine am_istore_n dX10_endCall_15 (by decide) ?_
  refine am_aload_n dX10_endCall_16 rfl ?_
  refine am_get (v := .inr (0, 15)) dX10_endCall_17 fl_10_52 (hG.m0 (by decide)) rfl ?_
  obtain ⟨q1, hq1, h⟩ := am_bd h
  refine am_callVe (i := 0) (j := 15) (as := []) (rest := []) dX10_endCall_20 lkX9_settle ml_X10_401 imX9_settle seX9_settle rfl rfl (hG.m0 (by decide)) rfl (Nat.le_of_ble_eq_true rfl) rfl (sX9_settle hG hq1) ?_
  refine am_aload_n dX10_endCall_23 rfl ?_
  refine am_get (v := .inr (l1, 55)) dX10_endCall_24 fl_10_84 (hG.mn hl1 (by decide) (by decide)) rfl ?_
  refine am_aload_n dX10_endCall_27 rfl ?_
  refine am_get (v := .inr (0, 15)) dX10_endCall_28 fl_10_52 (hG.m0 (by decide)) rfl ?_
  refine am_get (v := .inl (q1 0 15 9)) dX10_endCall_31 fl_10_338 (hG.m0 (by decide)) rfl ?_
  refine am_iconst (v := nI 2) dX10_endCall_34 (by decide) ?_
  refine am_icmp_ne (tgt := 42) dX10_endCall_35 rfl (fun c => ?_) (fun c => ?_)
  · rw [if_neg c] at h
    refine am_iconst (v := nI 2) dX10_endCall_42 (by decide) ?_
    exact am_lwJ (lo' := [some (.inr (0, 0)), some (.inr (l1, 40)), some (.inl s0)]) ⟨rfl, rfl, rfl, trivial⟩ (tX10_endCall_43 hG hl1 hl1 h)
  · rw [if_pos c] at h
    refine am_iconst (v := nI 3) dX10_endCall_38 (by decide) ?_
    refine am_goto (tgt := 43) dX10_endCall_39 rfl ?_
    exact am_lwJ (lo' := [some (.inr (0, 0)), some (.inr (l1, 40)), some (.inl s0)]) ⟨rfl, rfl, rfl, trivial⟩ (tX10_endCall_43 hG hl1 hl1 h)
def bX10_endCall_0 (n : Nat) (l1 : Nat) (I : am_I) : Option (am_I) := if (I 0 15 5) ≤ 0 then (bX10_endCall_15 n l1 (nI 0) I) else (bX10_endCall_15 n l1 (nI 1) I)
theorem tX10_endCall_0 {G : am_G} (hG : am_ok G) {d : Nat} {l1 : Nat} (hl1 : l1 < G.2.2.2.1) {I : am_I} {r : am_I} (h : bX10_endCall_0 G.2.2.2.1 l1  I = some r) : am_J G (d + 5) mX10_endCall am_no (am_E none r) 0 [some (.inr (0, 0)), some (.inr (l1, 40)), none] [] I := by
  unfold bX10_endCall_0 at h
  refine am_aload_n dX10_endCall_0 rfl ?_
  refine am_get (v := .inr (0, 15)) dX10_endCall_1 fl_10_52 (hG.m0 (by decide)) rfl ?_
  refine am_get (v := .inl (I 0 15 5)) dX10_endCall_4 fl_10_398 (hG.m0 (by decide)) rfl ?_
  refine am_if_le (tgt := 14) dX10_endCall_7 rfl (fun c => ?_) (fun c => ?_)
  · rw [if_pos c] at h
    refine am_iconst (v := nI 0) dX10_endCall_14 (by decide) ?_
    exact am_lwJ (lo' := [some (.inr (0, 0)), some (.inr (l1, 40)), none]) ⟨rfl, rfl, trivial⟩ (tX10_endCall_15 hG hl1 h)
  · rw [if_neg c] at h
    refine am_iconst (v := nI 1) dX10_endCall_10 (by decide) ?_
    refine am_goto (tgt := 15) dX10_endCall_11 rfl ?_
    exact am_lwJ (lo' := [some (.inr (0, 0)), some (.inr (l1, 40)), none]) ⟨rfl, rfl, trivial⟩ (tX10_endCall_15 hG hl1 h)
def gX10_endCall (n : Nat) (l1 : Nat) (I : am_I) : Option (am_I) := bX10_endCall_0 n l1 I
theorem sX10_endCall {G : am_G} (hG : am_ok G) {d : Nat} {l1 : Nat} (hl1 : l1 < G.2.2.2.1) {I : am_I} {r : am_I} (h : gX10_endCall G.2.2.2.1 l1 I = some r) : am_C G (d + 5) mX10_endCall [.inr (0, 0), .inr (l1, 40)] I (am_E none r) :=
  am_of (by decide +kernel) hG.nd (Nat.le_of_ble_eq_true rfl) (am_lwJ (lo' := [some (.inr (0, 0)), some (.inr (l1, 40)), none]) ⟨rfl, rfl, trivial⟩ (tX10_endCall_0 hG hl1 h))
def bX10_goOn_159 (n : Nat) (I : am_I) : Option (am_I) := some I
theorem tX10_goOn_159 {G : am_G} (hG : am_ok G) {d : Nat} {I : am_I} {r : am_I} (h : bX10_goOn_159 G.2.2.2.1  I = some r) : am_J G (d + 6) mX10_goOn am_no (am_E none r) 159 [none, none, none] [] I := by
  unfold bX10_goOn_159 at h
  cases h
  exact am_vret dX10_goOn_159 rfl ⟨rfl, rfl⟩
def bX10_goOn_153 (n : Nat) (k2 : Nat → Int32 → am_I → Option (am_I)) (l1 : Nat) (l2 : Int32) (I : am_I) : Option (am_I) := k2 l1 (l2 + nI 1) I
theorem tX10_goOn_153 {G : am_G} (hG : am_ok G) {d : Nat} {k2 : Nat → Int32 → am_I → Option (am_I)} (hk2 : ∀ (l1 : Nat) (l2 : Int32) (hl1 : l1 < G.2.2.2.1) (I : am_I) (r : am_I), k2 l1 l2 I = some r → am_J G (d + 6) mX10_goOn am_no (am_E none r) 2 [some (.inr (0, 0)), some (.inr (l1, 40)), some (.inl l2)] [] I) {l1 : Nat} {l2 : Int32} (hl1 : l1 < G.2.2.2.1) {I : am_I} {r : am_I} (h : bX10_goOn_153 G.2.2.2.1 k2 l1 l2  I = some r) : am_J G (d + 6) mX10_goOn am_no (am_E none r) 153 [some (.inr (0, 0)), some (.inr (l1, 40)), some (.inl l2)] [] I := by
  unfold bX10_goOn_153 at h
  refine am_iinc (v := l2 + nI 1) dX10_goOn_153 rfl rfl ?_
  refine am_goto (tgt := 2) dX10_goOn_156 rfl ?_
  exact am_lwJ (lo' := [some (.inr (0, 0)), some (.inr (l1, 40)), some (.inl (l2 + nI 1))]) ⟨rfl, rfl, rfl, trivial⟩ (hk2 l1 (l2 + nI 1) hl1 _ _ h)
def bX10_goOn_64 (n : Nat) (k2 : Nat → Int32 → am_I → Option (am_I)) (l1 : Nat) (l2 : Int32) (I : am_I) : Option (am_I) := if (I 0 15 9) = (nI 3) then ((gX4_list n l1 (I 0 15 11) (I 0 15 12) I).bind (fun q6 => am_lt (am_up q6 l1 55 10 (q6 l1 48 6)) (fun I7 => (gX10_unpinAll n l1 I7).bind (fun q8 => bX10_goOn_153 n k2 l1 l2 q8)))) else ((gX9_isTooMuch n I).bind (fun q1 => if q1.1 = 0 then ((gX10_endCall n l1 q1.2).bind (fun q2 => bX10_goOn_153 n k2 l1 l2 q2)) else ((gX9_undo n q1.2).bind (fun q3 => (gX10_unpinAll n l1 q3).bind (fun q4 => (gX10_waitForLog n l1 q4).bind (fun q5 => bX10_goOn_153 n k2 l1 l2 q5))))))
theorem tX10_goOn_64 {G : am_G} (hG : am_ok G) {d : Nat} {k2 : Nat → Int32 → am_I → Option (am_I)} (hk2 : ∀ (l1 : Nat) (l2 : Int32) (hl1 : l1 < G.2.2.2.1) (I : am_I) (r : am_I), k2 l1 l2 I = some r → am_J G (d + 6) mX10_goOn am_no (am_E none r) 2 [some (.inr (0, 0)), some (.inr (l1, 40)), some (.inl l2)] [] I) {l1 : Nat} {l2 : Int32} (hl1 : l1 < G.2.2.2.1) {I : am_I} {r : am_I} (h : bX10_goOn_64 G.2.2.2.1 k2 l1 l2  I = some r) : am_J G (d + 6) mX10_goOn am_no (am_E none r) 64 [some (.inr (0, 0)), some (.inr (l1, 40)), some (.inl l2)] [] I := by
  unfold bX10_goOn_64 at h
  refine am_aload_n dX10_goOn_64 rfl ?_
  refine am_get (v := .inr (0, 15)) dX10_goOn_65 fl_10_52 (hG.m0 (by decide)) rfl ?_
  refine am_get (v := .inl (I 0 15 9)) dX10_goOn_68 fl_10_338 (hG.m0 (by decide)) rfl ?_
  refine am_iconst (v := nI 3) dX10_goOn_71 (by decide) ?_
  refine am_icmp_ne (tgt := 118) dX10_goOn_72 rfl (fun c => ?_) (fun c => ?_)
  · rw [if_neg c] at h
    refine am_aload_n dX10_goOn_118 rfl ?_
    refine am_get (v := .inr (0, 15)) dX10_goOn_119 fl_10_52 (hG.m0 (by decide)) rfl ?_
    obtain ⟨q1, hq1, h⟩ := am_bd h
    refine am_callVx (i := 0) (j := 15) (as := []) (rest := []) dX10_goOn_122 lkX9_isTooMuch ml_X10_359 imX9_isTooMuch seX9_isTooMuch rfl rfl (hG.m0 (by decide)) rfl (Nat.le_of_ble_eq_true rfl) rfl (sX9_isTooMuch hG hq1) ?_
    refine am_if_eq (tgt := 148) dX10_goOn_125 rfl (fun c => ?_) (fun c => ?_)
    · rw [if_pos c] at h
      refine am_aload_n dX10_goOn_148 rfl ?_
      refine am_aload_n dX10_goOn_149 rfl ?_
      obtain ⟨q2, hq2, h⟩ := am_bd h
      refine am_callVe (i := 0) (j := 0) (as := [.inr (l1, 40)]) (rest := []) dX10_goOn_150 lkX10_endCall ml_X10_365 imX10_endCall seX10_endCall rfl rfl (hG.m0 (by decide)) rfl (Nat.le_of_ble_eq_true rfl) rfl (sX10_endCall hG hl1 hq2) ?_
      exact am_lwJ (lo' := [some (.inr (0, 0)), some (.inr (l1, 40)), some (.inl l2)]) ⟨rfl, rfl, rfl, trivial⟩ (tX10_goOn_153 hG hk2 hl1 h)
    · rw [if_neg c] at h
      refine am_aload_n dX10_goOn_128 rfl ?_
      refine am_get (v := .inr (0, 15)) dX10_goOn_129 fl_10_52 (hG.m0 (by decide)) rfl ?_
      obtain ⟨q3, hq3, h⟩ := am_bd h
      refine am_callVe (i := 0) (j := 15) (as := []) (rest := []) dX10_goOn_132 lkX9_undo ml_X10_341 imX9_undo seX9_undo rfl rfl (hG.m0 (by decide)) rfl (Nat.le_of_ble_eq_true rfl) rfl (sX9_undo hG hq3) ?_
      refine am_aload_n dX10_goOn_135 rfl ?_
      refine am_aload_n dX10_goOn_136 rfl ?_
      obtain ⟨q4, hq4, h⟩ := am_bd h
      refine am_callVe (i := 0) (j := 0) (as := [.inr (l1, 40)]) (rest := []) dX10_goOn_137 lkX10_unpinAll ml_X10_356 imX10_unpinAll seX10_unpinAll rfl rfl (hG.m0 (by decide)) rfl (Nat.le_of_ble_eq_true rfl) rfl (sX10_unpinAll hG hl1 hq4) ?_
      refine am_aload_n dX10_goOn_140 rfl ?_
      refine am_aload_n dX10_goOn_141 rfl ?_
      obtain ⟨q5, hq5, h⟩ := am_bd h
      refine am_callVe (i := 0) (j := 0) (as := [.inr (l1, 40)]) (rest := []) dX10_goOn_142 lkX10_waitForLog ml_X10_362 imX10_waitForLog seX10_waitForLog rfl rfl (hG.m0 (by decide)) rfl (Nat.le_of_ble_eq_true rfl) rfl (sX10_waitForLog hG hl1 hq5) ?_
      refine am_goto (tgt := 153) dX10_goOn_145 rfl ?_
      exact am_lwJ (lo' := [some (.inr (0, 0)), some (.inr (l1, 40)), some (.inl l2)]) ⟨rfl, rfl, rfl, trivial⟩ (tX10_goOn_153 hG hk2 hl1 h)
  · rw [if_pos c] at h
    refine am_aload_n dX10_goOn_75 rfl ?_
    refine am_get (v := .inr (l1, 48)) dX10_goOn_76 fl_10_244 (hG.mn hl1 (by decide) (by decide)) rfl ?_
    refine am_aload_n dX10_goOn_79 rfl ?_
    refine am_get (v := .inr (0, 15)) dX10_goOn_80 fl_10_52 (hG.m0 (by decide)) rfl ?_
    refine am_get (v := .inl (I 0 15 11)) dX10_goOn_83 fl_10_344 (hG.m0 (by decide)) rfl ?_
    refine am_aload_n dX10_goOn_86 rfl ?_
    refine am_get (v := .inr (0, 15)) dX10_goOn_87 fl_10_52 (hG.m0 (by decide)) rfl ?_
    refine am_get (v := .inl (I 0 15 12)) dX10_goOn_90 fl_10_347 (hG.m0 (by decide)) rfl ?_
    obtain ⟨q6, hq6, h⟩ := am_bd h
    refine am_callVe (i := l1) (j := 48) (as := [.inl (I 0 15 11), .inl (I 0 15 12)]) (rest := []) dX10_goOn_93 lkX4_list ml_X10_350 imX4_list seX4_list rfl rfl (hG.mn hl1 (by decide) (by decide)) rfl (Nat.le_of_ble_eq_true rfl) rfl (sX4_list hG hl1 hq6) ?_
    refine am_aload_n dX10_goOn_96 rfl ?_
    refine am_get (v := .inr (l1, 55)) dX10_goOn_97 fl_10_84 (hG.mn hl1 (by decide) (by decide)) rfl ?_
    refine am_aload_n dX10_goOn_100 rfl ?_
    refine am_get (v := .inr (l1, 48)) dX10_goOn_101 fl_10_244 (hG.mn hl1 (by decide) (by decide)) rfl ?_
    refine am_get (v := .inl (q6 l1 48 6)) dX10_goOn_104 fl_10_353 (hG.mn hl1 (by decide) (by decide)) rfl ?_
    refine am_put (x := q6 l1 48 6) dX10_goOn_107 fp_10_198 (hG.mn hl1 (by decide) (by decide)) (Nat.le_of_ble_eq_true rfl) rfl ?_
    obtain ⟨I7, hI7, h⟩ := am_lt_some h
    refine am_st10 hI7 ?_
    refine am_aload_n dX10_goOn_110 rfl ?_
    refine am_aload_n dX10_goOn_111 rfl ?_
    obtain ⟨q8, hq8, h⟩ := am_bd h
    refine am_callVe (i := 0) (j := 0) (as := [.inr (l1, 40)]) (rest := []) dX10_goOn_112 lkX10_unpinAll ml_X10_356 imX10_unpinAll seX10_unpinAll rfl rfl (hG.m0 (by decide)) rfl (Nat.le_of_ble_eq_true rfl) rfl (sX10_unpinAll hG hl1 hq8) ?_
    refine am_goto (tgt := 153) dX10_goOn_115 rfl ?_
    exact am_lwJ (lo' := [some (.inr (0, 0)), some (.inr (l1, 40)), some (.inl l2)]) ⟨rfl, rfl, rfl, trivial⟩ (tX10_goOn_153 hG hk2 hl1 h)
def bX10_goOn_2 (n : Nat) : Nat → Nat → Int32 → am_I → Option (am_I)
  | 0, _, _, _ => none
  | fu + 1, l1, l2, I => (fun k2 => if (nI 274) ≤ l2 then (bX10_goOn_159 n I) else ((gX10_mayGoOn n l1 I).bind (fun q1 => if q1.1 = 0 then (bX10_goOn_159 n q1.2) else ((gX10_pinAll n l1 q1.2).bind (fun q2 => if q2.1 = 0 then (bX10_goOn_159 n q2.2) else (am_lt (am_up q2.2 l1 55 9 ((q2.2 l1 55 9) + (nI 1))) (fun I3 => (gX9_run n l1 I3).bind (fun q4 => if (q4 0 15 9) = (nI 1) then (bX10_goOn_64 n k2 l1 l2 q4) else ((gX9_undo n q4).bind (fun q5 => bX10_goOn_64 n k2 l1 l2 q5)))))))))) (bX10_goOn_2 n fu)
theorem tX10_goOn_2 {G : am_G} (hG : am_ok G) {d : Nat} : ∀ {fu : Nat} {l1 : Nat} {l2 : Int32} (hl1 : l1 < G.2.2.2.1) {I : am_I} {r : am_I}, bX10_goOn_2 G.2.2.2.1 fu l1 l2 I = some r → am_J G (d + 6) mX10_goOn am_no (am_E none r) 2 [some (.inr (0, 0)), some (.inr (l1, 40)), some (.inl l2)] [] I := by
  intro fu
  induction fu with
  | zero => intro l1 l2 hl1 I r h; cases h
  | succ fu ih =>
    intro l1 l2 hl1 I r h
    have hk2 : ∀ (l1 : Nat) (l2 : Int32) (hl1 : l1 < G.2.2.2.1) (I : am_I) (r : am_I), bX10_goOn_2 G.2.2.2.1 fu l1 l2 I = some r → am_J G (d + 6) mX10_goOn am_no (am_E none r) 2 [some (.inr (0, 0)), some (.inr (l1, 40)), some (.inl l2)] [] I := fun l1 l2 hl1 I r h => ih hl1 h
    unfold bX10_goOn_2 at h
    generalize bX10_goOn_2 G.2.2.2.1 fu = k2 at hk2 h
    dsimp only at h
    refine am_iload_n dX10_goOn_2 rfl ?_
    refine am_sipush (v := nI 274) dX10_goOn_3 (by decide) ?_
    refine am_icmp_ge (tgt := 159) dX10_goOn_6 rfl (fun c => ?_) (fun c => ?_)
    · rw [if_pos c] at h
      exact am_lwJ (lo' := [none, none, none]) trivial (tX10_goOn_159 hG h)
    · rw [if_neg c] at h
      refine am_aload_n dX10_goOn_9 rfl ?_
      refine am_aload_n dX10_goOn_10 rfl ?_
      obtain ⟨q1, hq1, h⟩ := am_bd h
      refine am_callVx (i := 0) (j := 0) (as := [.inr (l1, 40)]) (rest := []) dX10_goOn_11 lkX10_mayGoOn ml_X10_329 imX10_mayGoOn seX10_mayGoOn rfl rfl (hG.m0 (by decide)) rfl (Nat.le_of_ble_eq_true rfl) rfl (sX10_mayGoOn hG hl1 hq1) ?_
      refine am_if_eq (tgt := 159) dX10_goOn_14 rfl (fun c => ?_) (fun c => ?_)
      · rw [if_pos c] at h
        exact am_lwJ (lo' := [none, none, none]) trivial (tX10_goOn_159 hG h)
      · rw [if_neg c] at h
        refine am_aload_n dX10_goOn_17 rfl ?_
        refine am_aload_n dX10_goOn_18 rfl ?_
        obtain ⟨q2, hq2, h⟩ := am_bd h
        refine am_callVx (i := 0) (j := 0) (as := [.inr (l1, 40)]) (rest := []) dX10_goOn_19 lkX10_pinAll ml_X10_332 imX10_pinAll seX10_pinAll rfl rfl (hG.m0 (by decide)) rfl (Nat.le_of_ble_eq_true rfl) rfl (sX10_pinAll hG hl1 hq2) ?_
        refine am_if_eq (tgt := 159) dX10_goOn_22 rfl (fun c => ?_) (fun c => ?_)
        · rw [if_pos c] at h
          exact am_lwJ (lo' := [none, none, none]) trivial (tX10_goOn_159 hG h)
        · rw [if_neg c] at h
          refine am_aload_n dX10_goOn_25 rfl ?_
          refine am_get (v := .inr (l1, 55)) dX10_goOn_26 fl_10_84 (hG.mn hl1 (by decide) (by decide)) rfl ?_
          refine am_dup dX10_goOn_29 ?_
          refine am_get (v := .inl (q2.2 l1 55 9)) dX10_goOn_30 fl_10_195 (hG.mn hl1 (by decide) (by decide)) rfl ?_
          refine am_iconst (v := nI 1) dX10_goOn_33 (by decide) ?_
          refine am_iadd dX10_goOn_34 ?_
          refine am_put (x := (q2.2 l1 55 9) + (nI 1)) dX10_goOn_35 fp_10_195 (hG.mn hl1 (by decide) (by decide)) (Nat.le_of_ble_eq_true rfl) rfl ?_
          obtain ⟨I3, hI3, h⟩ := am_lt_some h
          refine am_st10 hI3 ?_
          refine am_aload_n dX10_goOn_38 rfl ?_
          refine am_get (v := .inr (0, 15)) dX10_goOn_39 fl_10_52 (hG.m0 (by decide)) rfl ?_
          refine am_aload_n dX10_goOn_42 rfl ?_
          obtain ⟨q4, hq4, h⟩ := am_bd h
          refine am_callVe (i := 0) (j := 15) (as := [.inr (l1, 40)]) (rest := []) dX10_goOn_43 lkX9_run ml_X10_335 imX9_run seX9_run rfl rfl (hG.m0 (by decide)) rfl (Nat.le_of_ble_eq_true rfl) rfl (sX9_run hG hl1 hq4) ?_
          refine am_aload_n dX10_goOn_46 rfl ?_
          refine am_get (v := .inr (0, 15)) dX10_goOn_47 fl_10_52 (hG.m0 (by decide)) rfl ?_
          refine am_get (v := .inl (q4 0 15 9)) dX10_goOn_50 fl_10_338 (hG.m0 (by decide)) rfl ?_
          refine am_iconst (v := nI 1) dX10_goOn_53 (by decide) ?_
          refine am_icmp_eq (tgt := 64) dX10_goOn_54 rfl (fun c => ?_) (fun c => ?_)
          · rw [if_pos c] at h
            exact am_lwJ (lo' := [some (.inr (0, 0)), some (.inr (l1, 40)), some (.inl l2)]) ⟨rfl, rfl, rfl, trivial⟩ (tX10_goOn_64 hG hk2 hl1 h)
          · rw [if_neg c] at h
            refine am_aload_n dX10_goOn_57 rfl ?_
            refine am_get (v := .inr (0, 15)) dX10_goOn_58 fl_10_52 (hG.m0 (by decide)) rfl ?_
            obtain ⟨q5, hq5, h⟩ := am_bd h
            refine am_callVe (i := 0) (j := 15) (as := []) (rest := []) dX10_goOn_61 lkX9_undo ml_X10_341 imX9_undo seX9_undo rfl rfl (hG.m0 (by decide)) rfl (Nat.le_of_ble_eq_true rfl) rfl (sX9_undo hG hq5) ?_
            exact am_lwJ (lo' := [some (.inr (0, 0)), some (.inr (l1, 40)), some (.inl l2)]) ⟨rfl, rfl, rfl, trivial⟩ (tX10_goOn_64 hG hk2 hl1 h)
def bX10_goOn_0 (n : Nat) (l1 : Nat) (I : am_I) : Option (am_I) := bX10_goOn_2 n am_fu l1 (nI 0) I
theorem tX10_goOn_0 {G : am_G} (hG : am_ok G) {d : Nat} {l1 : Nat} (hl1 : l1 < G.2.2.2.1) {I : am_I} {r : am_I} (h : bX10_goOn_0 G.2.2.2.1 l1  I = some r) : am_J G (d + 6) mX10_goOn am_no (am_E none r) 0 [some (.inr (0, 0)), some (.inr (l1, 40)), none] [] I := by
  unfold bX10_goOn_0 at h
  refine am_iconst (v := nI 0) dX10_goOn_0 (by decide) ?_
  refine am_istore_n dX10_goOn_1 (by decide) ?_
  exact am_lwJ (lo' := [some (.inr (0, 0)), some (.inr (l1, 40)), some (.inl (nI 0))]) ⟨rfl, rfl, rfl, trivial⟩ (tX10_goOn_2 hG hl1 h)
def gX10_goOn (n : Nat) (l1 : Nat) (I : am_I) : Option (am_I) := bX10_goOn_0 n l1 I
theorem sX10_goOn {G : am_G} (hG : am_ok G) {d : Nat} {l1 : Nat} (hl1 : l1 < G.2.2.2.1) {I : am_I} {r : am_I} (h : gX10_goOn G.2.2.2.1 l1 I = some r) : am_C G (d + 6) mX10_goOn [.inr (0, 0), .inr (l1, 40)] I (am_E none r) :=
  am_of (by decide +kernel) hG.nd (Nat.le_of_ble_eq_true rfl) (am_lwJ (lo' := [some (.inr (0, 0)), some (.inr (l1, 40)), none]) ⟨rfl, rfl, trivial⟩ (tX10_goOn_0 hG hl1 h))
def bX10_call_22 (n : Nat) (I : am_I) : Option ((Option Int32 ⊕ Nat) × am_I) := some (.inr 22, I)
theorem tX10_call_22 {G : am_G} (hG : am_ok G) {d : Nat} {I : am_I} {r : (Option Int32 ⊕ Nat) × am_I} (h : bX10_call_22 G.2.2.2.1  I = some r) : am_J G (d + 7) mX10_call (fun pc _ st J => st = [] ∧ r = (.inr pc, J)) (fun q J => r = (.inl q, J)) 22 [none, none, none, none, none, none, none, none] [] I := by
  unfold bX10_call_22 at h
  cases h
  exact am_exit ⟨rfl, rfl⟩
def bX10_call_60 (n : Nat) (I : am_I) : Option ((Option Int32 ⊕ Nat) × am_I) := some (.inr 60, I)
theorem tX10_call_60 {G : am_G} (hG : am_ok G) {d : Nat} {I : am_I} {r : (Option Int32 ⊕ Nat) × am_I} (h : bX10_call_60 G.2.2.2.1  I = some r) : am_J G (d + 7) mX10_call (fun pc _ st J => st = [] ∧ r = (.inr pc, J)) (fun q J => r = (.inl q, J)) 60 [none, none, none, none, none, none, none, none] [] I := by
  unfold bX10_call_60 at h
  cases h
  exact am_exit ⟨rfl, rfl⟩
def bX10_call_121 (n : Nat) (s0 : Int32) (I : am_I) : Option ((Option Int32 ⊕ Nat) × am_I) := some (.inl (some s0), I)
theorem tX10_call_121 {G : am_G} (hG : am_ok G) {d : Nat} {s0 : Int32} {I : am_I} {r : (Option Int32 ⊕ Nat) × am_I} (h : bX10_call_121 G.2.2.2.1 s0  I = some r) : am_J G (d + 7) mX10_call (fun pc _ st J => st = [] ∧ r = (.inr pc, J)) (fun q J => r = (.inl q, J)) 121 [none, none, none, none, none, none, none, none] [.inl s0] I := by
  unfold bX10_call_121 at h
  cases h
  exact am_iret dX10_call_121 rfl rfl rfl
def bX10_call_0 (n : Nat) (l1 : Int32) (l2 : Int32) (l3 : Int32) (l4 : Int32) (l5 : Int32) (l6 : Int32) (I : am_I) : Option ((Option Int32 ⊕ Nat) × am_I) := (gX10_isNode n l1 I).bind (fun q1 => if q1.1 = 0 then (bX10_call_22 n q1.2) else ((gX10_isCall n l2 l3 l4 l5 l6 q1.2).bind (fun q2 => if q2.1 = 0 then (bX10_call_22 n q2.2) else (am_gd (am_inb l1 n) (if (q2.2 l1.toNatClampNeg 40 5) = 0 then (bX10_call_60 n q2.2) else (if (q2.2 l1.toNatClampNeg 55 5) = (nI 1) then (bX10_call_60 n q2.2) else ((gX8_begin n l1.toNatClampNeg l2 (q2.2 0 0 7) q2.2).bind (fun q4 => (gX8_take n l1.toNatClampNeg l3 l4 l5 l6 q4).bind (fun q5 => (gX10_goOn n l1.toNatClampNeg q5).bind (fun q6 => if (q6 l1.toNatClampNeg 55 5) = (nI 1) then (bX10_call_121 n (nI 0) q6) else (bX10_call_121 n (nI 1) q6)))))))))))
theorem tX10_call_0 {G : am_G} (hG : am_ok G) {d : Nat} {l1 : Int32} {l2 : Int32} {l3 : Int32} {l4 : Int32} {l5 : Int32} {l6 : Int32} {I : am_I} {r : (Option Int32 ⊕ Nat) × am_I} (h : bX10_call_0 G.2.2.2.1 l1 l2 l3 l4 l5 l6  I = some r) : am_J G (d + 7) mX10_call (fun pc _ st J => st = [] ∧ r = (.inr pc, J)) (fun q J => r = (.inl q, J)) 0 [some (.inr (0, 0)), some (.inl l1), some (.inl l2), some (.inl l3), some (.inl l4), some (.inl l5), some (.inl l6), none] [] I := by
  unfold bX10_call_0 at h
  refine am_aload_n dX10_call_0 rfl ?_
  refine am_iload_n dX10_call_1 rfl ?_
  obtain ⟨q1, hq1, h⟩ := am_bd h
  refine am_callVx (i := 0) (j := 0) (as := [.inl l1]) (rest := []) dX10_call_2 lkX10_isNode ml_X10_65 imX10_isNode seX10_isNode rfl rfl (hG.m0 (by decide)) rfl (Nat.le_of_ble_eq_true rfl) rfl (sX10_isNode hG hq1) ?_
  refine am_if_eq (tgt := 22) dX10_call_5 rfl (fun c => ?_) (fun c => ?_)
  · rw [if_pos c] at h
    exact am_lwJ (lo' := [none, none, none, none, none, none, none, none]) trivial (tX10_call_22 hG h)
  · rw [if_neg c] at h
    refine am_iload_n dX10_call_8 rfl ?_
    refine am_iload_n dX10_call_9 rfl ?_
    refine am_iload dX10_call_10 rfl ?_
    refine am_iload dX10_call_12 rfl ?_
    refine am_iload dX10_call_14 rfl ?_
    obtain ⟨q2, hq2, h⟩ := am_bd h
    refine am_callSx (as := [.inl l2, .inl l3, .inl l4, .inl l5, .inl l6]) (rest := []) dX10_call_16 lkX10_isCall ml_X10_69 isX10_isCall rfl (Nat.le_of_ble_eq_true rfl) rfl (sX10_isCall hG hq2) ?_
    refine am_if_ne (tgt := 32) dX10_call_19 rfl (fun c => ?_) (fun c => ?_)
    · rw [if_neg c] at h
      refine am_aload_n dX10_call_32 rfl ?_
      refine am_get (v := .inr (0, 2)) dX10_call_33 fl_10_19 (hG.m0 (by decide)) rfl ?_
      refine am_iload_n dX10_call_36 rfl ?_
      obtain ⟨g3, h⟩ := am_gd_some h
      refine am_aaldG dX10_call_37 (hG.m0 (by decide)) rfl g3 hG.n31 ?_
      refine am_astore dX10_call_38 (by decide) ?_
      refine am_aload dX10_call_40 rfl ?_
      refine am_get (v := .inl (q2.2 l1.toNatClampNeg 40 5)) dX10_call_42 fl_10_80 (hG.mn (am_inb_lt g3) (by decide) (by decide)) rfl ?_
      refine am_if_eq (tgt := 60) dX10_call_45 rfl (fun c => ?_) (fun c => ?_)
      · rw [if_pos c] at h
        exact am_lwJ (lo' := [none, none, none, none, none, none, none, none]) trivial (tX10_call_60 hG h)
      · rw [if_neg c] at h
        refine am_aload dX10_call_48 rfl ?_
        refine am_get (v := .inr (l1.toNatClampNeg, 55)) dX10_call_50 fl_10_84 (hG.mn (am_inb_lt g3) (by decide) (by decide)) rfl ?_
        refine am_get (v := .inl (q2.2 l1.toNatClampNeg 55 5)) dX10_call_53 fl_10_88 (hG.mn (am_inb_lt g3) (by decide) (by decide)) rfl ?_
        refine am_iconst (v := nI 1) dX10_call_56 (by decide) ?_
        refine am_icmp_ne (tgt := 70) dX10_call_57 rfl (fun c => ?_) (fun c => ?_)
        · rw [if_neg c] at h
          refine am_aload dX10_call_70 rfl ?_
          refine am_get (v := .inr (l1.toNatClampNeg, 55)) dX10_call_72 fl_10_84 (hG.mn (am_inb_lt g3) (by decide) (by decide)) rfl ?_
          refine am_iload_n dX10_call_75 rfl ?_
          refine am_aload_n dX10_call_76 rfl ?_
          refine am_get (v := .inl (q2.2 0 0 7)) dX10_call_77 fl_10_99 (hG.m0 (by decide)) rfl ?_
          obtain ⟨q4, hq4, h⟩ := am_bd h
          refine am_callVe (i := l1.toNatClampNeg) (j := 55) (as := [.inl l2, .inl (q2.2 0 0 7)]) (rest := []) dX10_call_80 lkX8_begin ml_X10_102 imX8_begin seX8_begin rfl rfl (hG.mn (am_inb_lt g3) (by decide) (by decide)) rfl (Nat.le_of_ble_eq_true rfl) rfl (sX8_begin hG (am_inb_lt g3) hq4) ?_
          refine am_aload dX10_call_83 rfl ?_
          refine am_get (v := .inr (l1.toNatClampNeg, 55)) dX10_call_85 fl_10_84 (hG.mn (am_inb_lt g3) (by decide) (by decide)) rfl ?_
          refine am_iload_n dX10_call_88 rfl ?_
          refine am_iload dX10_call_89 rfl ?_
          refine am_iload dX10_call_91 rfl ?_
          refine am_iload dX10_call_93 rfl ?_
          obtain ⟨q5, hq5, h⟩ := am_bd h
          refine am_callVe (i := l1.toNatClampNeg) (j := 55) (as := [.inl l3, .inl l4, .inl l5, .inl l6]) (rest := []) dX10_call_95 lkX8_take ml_X10_106 imX8_take seX8_take rfl rfl (hG.mn (am_inb_lt g3) (by decide) (by decide)) rfl (Nat.le_of_ble_eq_true rfl) rfl (sX8_take hG (am_inb_lt g3) hq5) ?_
          refine am_aload_n dX10_call_98 rfl ?_
          refine am_aload dX10_call_99 rfl ?_
          obtain ⟨q6, hq6, h⟩ := am_bd h
          refine am_callVe (i := 0) (j := 0) (as := [.inr (l1.toNatClampNeg, 40)]) (rest := []) dX10_call_101 lkX10_goOn ml_X10_110 imX10_goOn seX10_goOn rfl rfl (hG.m0 (by decide)) rfl (Nat.le_of_ble_eq_true rfl) rfl (sX10_goOn hG (am_inb_lt g3) hq6) ?_
          refine am_aload dX10_call_104 rfl ?_
          refine am_get (v := .inr (l1.toNatClampNeg, 55)) dX10_call_106 fl_10_84 (hG.mn (am_inb_lt g3) (by decide) (by decide)) rfl ?_
          refine am_get (v := .inl (q6 l1.toNatClampNeg 55 5)) dX10_call_109 fl_10_88 (hG.mn (am_inb_lt g3) (by decide) (by decide)) rfl ?_
          refine am_iconst (v := nI 1) dX10_call_112 (by decide) ?_
          refine am_icmp_ne (tgt := 120) dX10_call_113 rfl (fun c => ?_) (fun c => ?_)
          · rw [if_neg c] at h
            refine am_iconst (v := nI 1) dX10_call_120 (by decide) ?_
            exact am_lwJ (lo' := [none, none, none, none, none, none, none, none]) trivial (tX10_call_121 hG h)
          · rw [if_pos c] at h
            refine am_iconst (v := nI 0) dX10_call_116 (by decide) ?_
            refine am_goto (tgt := 121) dX10_call_117 rfl ?_
            exact am_lwJ (lo' := [none, none, none, none, none, none, none, none]) trivial (tX10_call_121 hG h)
        · rw [if_pos c] at h
          exact am_lwJ (lo' := [none, none, none, none, none, none, none, none]) trivial (tX10_call_60 hG h)
    · rw [if_pos c] at h
      exact am_lwJ (lo' := [none, none, none, none, none, none, none, none]) trivial (tX10_call_22 hG h)
def gX10_call (n : Nat) (l1 : Int32) (l2 : Int32) (l3 : Int32) (l4 : Int32) (l5 : Int32) (l6 : Int32) (I : am_I) : Option ((Option Int32 ⊕ Nat) × am_I) := bX10_call_0 n l1 l2 l3 l4 l5 l6 I
theorem sX10_call {G : am_G} (hG : am_ok G) {d : Nat} {l1 : Int32} {l2 : Int32} {l3 : Int32} {l4 : Int32} {l5 : Int32} {l6 : Int32} {I : am_I} {r : (Option Int32 ⊕ Nat) × am_I} (h : gX10_call G.2.2.2.1 l1 l2 l3 l4 l5 l6 I = some r) : am_J G (d + 7) mX10_call (fun pc _ st J => st = [] ∧ r = (.inr pc, J)) (fun q J => r = (.inl q, J)) 0 (([.inr (0, 0), .inl l1, .inl l2, .inl l3, .inl l4, .inl l5, .inl l6] : List am_V).map some ++ List.replicate (8 - 7) none) [] I :=
  am_lwJ (lo' := [some (.inr (0, 0)), some (.inl l1), some (.inl l2), some (.inl l3), some (.inl l4), some (.inl l5), some (.inl l6), none]) ⟨rfl, rfl, rfl, rfl, rfl, rfl, rfl, trivial⟩ (tX10_call_0 hG h)
def bX10_delay_27 (n : Nat) (I : am_I) : Option ((Option Int32 ⊕ Nat) × am_I) := some (.inr 27, I)
theorem tX10_delay_27 {G : am_G} (hG : am_ok G) {d : Nat} {I : am_I} {r : (Option Int32 ⊕ Nat) × am_I} (h : bX10_delay_27 G.2.2.2.1  I = some r) : am_J G (d + 1) mX10_delay (fun pc _ st J => st = [] ∧ r = (.inr pc, J)) (fun q J => r = (.inl q, J)) 27 [none, none, none, none] [] I := by
  unfold bX10_delay_27 at h
  cases h
  exact am_exit ⟨rfl, rfl⟩
def bX10_delay_0 (n : Nat) (l1 : Int32) (l2 : Int32) (l3 : Int32) (I : am_I) : Option ((Option Int32 ⊕ Nat) × am_I) := (gX10_isNode n l1 I).bind (fun q1 => if q1.1 = 0 then (bX10_delay_27 n q1.2) else ((gX10_isNode n l2 q1.2).bind (fun q2 => if q2.1 = 0 then (bX10_delay_27 n q2.2) else (if l3 < (nI 1) then (bX10_delay_27 n q2.2) else (if l3 ≤ (nI 20) then (am_gd (am_inb ((l1 * (nI 4)) + l2) 16) (am_lt (am_up q2.2 0 10 ((l1 * (nI 4)) + l2).toNatClampNeg l3) (fun I4 => some (.inl none, I4)))) else (bX10_delay_27 n q2.2))))))
theorem tX10_delay_0 {G : am_G} (hG : am_ok G) {d : Nat} {l1 : Int32} {l2 : Int32} {l3 : Int32} {I : am_I} {r : (Option Int32 ⊕ Nat) × am_I} (h : bX10_delay_0 G.2.2.2.1 l1 l2 l3  I = some r) : am_J G (d + 1) mX10_delay (fun pc _ st J => st = [] ∧ r = (.inr pc, J)) (fun q J => r = (.inl q, J)) 0 [some (.inr (0, 0)), some (.inl l1), some (.inl l2), some (.inl l3)] [] I := by
  unfold bX10_delay_0 at h
  refine am_aload_n dX10_delay_0 rfl ?_
  refine am_iload_n dX10_delay_1 rfl ?_
  obtain ⟨q1, hq1, h⟩ := am_bd h
  refine am_callVx (i := 0) (j := 0) (as := [.inl l1]) (rest := []) dX10_delay_2 lkX10_isNode ml_X10_65 imX10_isNode seX10_isNode rfl rfl (hG.m0 (by decide)) rfl (Nat.le_of_ble_eq_true rfl) rfl (sX10_isNode hG hq1) ?_
  refine am_if_eq (tgt := 27) dX10_delay_5 rfl (fun c => ?_) (fun c => ?_)
  · rw [if_pos c] at h
    exact am_lwJ (lo' := [none, none, none, none]) trivial (tX10_delay_27 hG h)
  · rw [if_neg c] at h
    refine am_aload_n dX10_delay_8 rfl ?_
    refine am_iload_n dX10_delay_9 rfl ?_
    obtain ⟨q2, hq2, h⟩ := am_bd h
    refine am_callVx (i := 0) (j := 0) (as := [.inl l2]) (rest := []) dX10_delay_10 lkX10_isNode ml_X10_65 imX10_isNode seX10_isNode rfl rfl (hG.m0 (by decide)) rfl (Nat.le_of_ble_eq_true rfl) rfl (sX10_isNode hG hq2) ?_
    refine am_if_eq (tgt := 27) dX10_delay_13 rfl (fun c => ?_) (fun c => ?_)
    · rw [if_pos c] at h
      exact am_lwJ (lo' := [none, none, none, none]) trivial (tX10_delay_27 hG h)
    · rw [if_neg c] at h
      refine am_iload_n dX10_delay_16 rfl ?_
      refine am_iconst (v := nI 1) dX10_delay_17 (by decide) ?_
      refine am_icmp_lt (tgt := 27) dX10_delay_18 rfl (fun c => ?_) (fun c => ?_)
      · rw [if_pos c] at h
        exact am_lwJ (lo' := [none, none, none, none]) trivial (tX10_delay_27 hG h)
      · rw [if_neg c] at h
        refine am_iload_n dX10_delay_21 rfl ?_
        refine am_bipush (v := nI 20) dX10_delay_22 (by decide) ?_
        refine am_icmp_le (tgt := 37) dX10_delay_24 rfl (fun c => ?_) (fun c => ?_)
        · rw [if_pos c] at h
          refine am_aload_n dX10_delay_37 rfl ?_
          refine am_get (v := .inr (0, 9)) dX10_delay_38 fl_10_36 (hG.m0 (by decide)) rfl ?_
          refine am_get (v := .inr (0, 10)) dX10_delay_41 fl_10_116 (hG.m0 (by decide)) rfl ?_
          refine am_iload_n dX10_delay_44 rfl ?_
          refine am_iconst (v := nI 4) dX10_delay_45 (by decide) ?_
          refine am_imul dX10_delay_46 ?_
          refine am_iload_n dX10_delay_47 rfl ?_
          refine am_iadd dX10_delay_48 ?_
          refine am_iload_n dX10_delay_49 rfl ?_
          obtain ⟨g3, h⟩ := am_gd_some h
          refine am_iastG dX10_delay_50 (hG.m0 (by decide)) rfl g3 (show 16 < 2 ^ 31 by decide) ?_
          obtain ⟨I4, hI4, h⟩ := am_lt_some h
          refine am_st10 hI4 ?_
          cases h
          exact am_vret dX10_delay_51 rfl rfl
        · rw [if_neg c] at h
          exact am_lwJ (lo' := [none, none, none, none]) trivial (tX10_delay_27 hG h)
def gX10_delay (n : Nat) (l1 : Int32) (l2 : Int32) (l3 : Int32) (I : am_I) : Option ((Option Int32 ⊕ Nat) × am_I) := bX10_delay_0 n l1 l2 l3 I
theorem sX10_delay {G : am_G} (hG : am_ok G) {d : Nat} {l1 : Int32} {l2 : Int32} {l3 : Int32} {I : am_I} {r : (Option Int32 ⊕ Nat) × am_I} (h : gX10_delay G.2.2.2.1 l1 l2 l3 I = some r) : am_J G (d + 1) mX10_delay (fun pc _ st J => st = [] ∧ r = (.inr pc, J)) (fun q J => r = (.inl q, J)) 0 (([.inr (0, 0), .inl l1, .inl l2, .inl l3] : List am_V).map some ++ List.replicate (4 - 4) none) [] I :=
  am_lwJ (lo' := [some (.inr (0, 0)), some (.inl l1), some (.inl l2), some (.inl l3)]) ⟨rfl, rfl, rfl, rfl, trivial⟩ (tX10_delay_0 hG h)
