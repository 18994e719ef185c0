def bX10_crash_18 (n : Nat) (I : am_I) : Option ((Option Int32 ⊕ Nat) × am_I) := some (.inr 18, I)
theorem tX10_crash_18 {G : am_G} (hG : am_ok G) {d : Nat} {I : am_I} {r : (Option Int32 ⊕ Nat) × am_I} (h : bX10_crash_18 G.2.2.2.1  I = some r) : am_J G (d + 4) mX10_crash (fun pc _ st J => st = [] ∧ r = (.inr pc, J)) (fun q J => r = (.inl q, J)) 18 [none, none, none, none, none] [] I := by
  unfold bX10_crash_18 at h
  cases h
  exact am_exit ⟨rfl, rfl⟩
def bX10_crash_142 (n : Nat) (k115 : Int32 → Int32 → am_I → Option ((Option Int32 ⊕ Nat) × am_I)) (l1 : Int32) (l4 : Int32) (I : am_I) : Option ((Option Int32 ⊕ Nat) × am_I) := k115 l1 (l4 + nI 1) I
theorem tX10_crash_142 {G : am_G} (hG : am_ok G) {d : Nat} {k115 : Int32 → Int32 → am_I → Option ((Option Int32 ⊕ Nat) × am_I)} (hk115 : ∀ (l1 : Int32) (l4 : Int32) (I : am_I) (r : (Option Int32 ⊕ Nat) × am_I), k115 l1 l4 I = some r → am_J G (d + 4) mX10_crash (fun pc _ st J => st = [] ∧ r = (.inr pc, J)) (fun q J => r = (.inl q, J)) 115 [some (.inr (0, 0)), some (.inl l1), none, none, some (.inl l4)] [] I) {l1 : Int32} {l4 : Int32} {I : am_I} {r : (Option Int32 ⊕ Nat) × am_I} (h : bX10_crash_142 G.2.2.2.1 k115 l1 l4  I = some r) : am_J G (d + 4) mX10_crash (fun pc _ st J => st = [] ∧ r = (.inr pc, J)) (fun q J => r = (.inl q, J)) 142 [some (.inr (0, 0)), some (.inl l1), none, none, some (.inl l4)] [] I := by
  unfold bX10_crash_142 at h
  refine am_iinc (v := l4 + nI 1) dX10_crash_142 rfl rfl ?_
  refine am_goto (tgt := 115) dX10_crash_145 rfl ?_
  exact am_lwJ (lo' := [some (.inr (0, 0)), some (.inl l1), none, none, some (.inl (l4 + nI 1))]) ⟨rfl, rfl, rfl, trivial⟩ (hk115 l1 (l4 + nI 1) _ _ h)
def bX10_crash_115 (n : Nat) : Nat → Int32 → Int32 → am_I → Option ((Option Int32 ⊕ Nat) × am_I)
  | 0, _, _, _ => none
  | fu + 1, l1, l4, I => (fun k115 => if (nI 136) ≤ l4 then (some (.inl none, I)) else ((gX10_masterOf n l4 I).bind (fun q1 => if q1.1 = l1 then ((gX6_wipe n l4 q1.2).bind (fun q2 => bX10_crash_142 n k115 l1 l4 q2)) else (bX10_crash_142 n k115 l1 l4 q1.2)))) (bX10_crash_115 n fu)
theorem tX10_crash_115 {G : am_G} (hG : am_ok G) {d : Nat} : ∀ {fu : Nat} {l1 : Int32} {l4 : Int32} {I : am_I} {r : (Option Int32 ⊕ Nat) × am_I}, bX10_crash_115 G.2.2.2.1 fu l1 l4 I = some r → am_J G (d + 4) mX10_crash (fun pc _ st J => st = [] ∧ r = (.inr pc, J)) (fun q J => r = (.inl q, J)) 115 [some (.inr (0, 0)), some (.inl l1), none, none, some (.inl l4)] [] I := by
  intro fu
  induction fu with
  | zero => intro l1 l4 I r h; cases h
  | succ fu ih =>
    intro l1 l4 I r h
    have hk115 : ∀ (l1 : Int32) (l4 : Int32) (I : am_I) (r : (Option Int32 ⊕ Nat) × am_I), bX10_crash_115 G.2.2.2.1 fu l1 l4 I = some r → am_J G (d + 4) mX10_crash (fun pc _ st J => st = [] ∧ r = (.inr pc, J)) (fun q J => r = (.inl q, J)) 115 [some (.inr (0, 0)), some (.inl l1), none, none, some (.inl l4)] [] I := fun l1 l4 I r h => ih h
    unfold bX10_crash_115 at h
    generalize bX10_crash_115 G.2.2.2.1 fu = k115 at hk115 h
    dsimp only at h
    refine am_iload dX10_crash_115 rfl ?_
    refine am_sipush (v := nI 136) dX10_crash_117 (by decide) ?_
    refine am_icmp_ge (tgt := 148) dX10_crash_120 rfl (fun c => ?_) (fun c => ?_)
    · rw [if_pos c] at h
      cases h
      exact am_vret dX10_crash_148 rfl rfl
    · rw [if_neg c] at h
      refine am_aload_n dX10_crash_123 rfl ?_
      refine am_iload dX10_crash_124 rfl ?_
      obtain ⟨q1, hq1, h⟩ := am_bd h
      refine am_callVx (i := 0) (j := 0) (as := [.inl l4]) (rest := []) dX10_crash_126 lkX10_masterOf ml_X10_158 imX10_masterOf seX10_masterOf rfl rfl (hG.m0 (by decide)) rfl (Nat.le_of_ble_eq_true rfl) rfl (sX10_masterOf hG hq1) ?_
      refine am_iload_n dX10_crash_129 rfl ?_
      refine am_icmp_ne (tgt := 142) dX10_crash_130 rfl (fun c => ?_) (fun c => ?_)
      · rw [if_neg c] at h
        exact am_lwJ (lo' := [some (.inr (0, 0)), some (.inl l1), none, none, some (.inl l4)]) ⟨rfl, rfl, rfl, trivial⟩ (tX10_crash_142 hG hk115 h)
      · rw [if_pos c] at h
        refine am_aload_n dX10_crash_133 rfl ?_
        refine am_get (v := .inr (0, 3)) dX10_crash_134 fl_10_29 (hG.m0 (by decide)) rfl ?_
        refine am_iload dX10_crash_137 rfl ?_
        obtain ⟨q2, hq2, h⟩ := am_bd h
        refine am_callVe (i := 0) (j := 3) (as := [.inl l4]) (rest := []) dX10_crash_139 lkX6_wipe ml_X10_161 imX6_wipe seX6_wipe rfl rfl (hG.m0 (by decide)) rfl (Nat.le_of_ble_eq_true rfl) rfl (sX6_wipe hG hq2) ?_
        exact am_lwJ (lo' := [some (.inr (0, 0)), some (.inl l1), none, none, some (.inl l4)]) ⟨rfl, rfl, rfl, trivial⟩ (tX10_crash_142 hG hk115 h)
def bX10_crash_100 (n : Nat) (l1 : Int32) (l3 : Nat) (I : am_I) : Option ((Option Int32 ⊕ Nat) × am_I) := (gX7_goDark n l3 I).bind (fun q1 => (gX5_forget n l1 q1).bind (fun q2 => bX10_crash_115 n am_fu l1 (nI 0) q2))
theorem tX10_crash_100 {G : am_G} (hG : am_ok G) {d : Nat} {l1 : Int32} {l3 : Nat} (hl3 : l3 < G.2.2.2.1) {I : am_I} {r : (Option Int32 ⊕ Nat) × am_I} (h : bX10_crash_100 G.2.2.2.1 l1 l3  I = some r) : am_J G (d + 4) mX10_crash (fun pc _ st J => st = [] ∧ r = (.inr pc, J)) (fun q J => r = (.inl q, J)) 100 [some (.inr (0, 0)), some (.inl l1), none, some (.inr (l3, 40)), none] [] I := by
  unfold bX10_crash_100 at h
  refine am_aload_n dX10_crash_100 rfl ?_
  obtain ⟨q1, hq1, h⟩ := am_bd h
  refine am_callVe (i := l3) (j := 40) (as := []) (rest := []) dX10_crash_101 lkX7_goDark ml_X10_152 imX7_goDark seX7_goDark rfl rfl (hG.mn hl3 (by decide) (by decide)) rfl (Nat.le_of_ble_eq_true rfl) rfl (sX7_goDark hG hl3 hq1) ?_
  refine am_aload_n dX10_crash_104 rfl ?_
  refine am_get (v := .inr (0, 9)) dX10_crash_105 fl_10_36 (hG.m0 (by decide)) rfl ?_
  refine am_iload_n dX10_crash_108 rfl ?_
  obtain ⟨q2, hq2, h⟩ := am_bd h
  refine am_callVe (i := 0) (j := 9) (as := [.inl l1]) (rest := []) dX10_crash_109 lkX5_forget ml_X10_155 imX5_forget seX5_forget rfl rfl (hG.m0 (by decide)) rfl (Nat.le_of_ble_eq_true rfl) rfl (sX5_forget hG hq2) ?_
  refine am_iconst (v := nI 0) dX10_crash_112 (by decide) ?_
  refine am_istore dX10_crash_113 (by decide) ?_
  exact am_lwJ (lo' := [some (.inr (0, 0)), some (.inl l1), none, none, some (.inl (nI 0))]) ⟨rfl, rfl, rfl, trivial⟩ (tX10_crash_115 hG h)
def bX10_crash_0 (n : Nat) (l1 : Int32) (l2 : Int32) (I : am_I) : Option ((Option Int32 ⊕ Nat) × am_I) := (gX10_isNode n l1 I).bind (fun q1 => if q1.1 = 0 then (bX10_crash_18 n q1.2) else (if l2 < 0 then (bX10_crash_18 n q1.2) else (if l2 < (nI 16) then (am_gd (am_inb l1 n) (if (q1.2 l1.toNatClampNeg 40 5) = 0 then (some (.inr 42, q1.2)) else ((gX10_tear n l1.toNatClampNeg l2 q1.2).bind (fun q3 => (gX0_lose n l1 q3).bind (fun q4 => if (q4 l1.toNatClampNeg 55 5) = (nI 1) then ((gX8_end n l1.toNatClampNeg (nI 4) (nI 0) (q4 0 0 7) q4).bind (fun q5 => am_lt (am_up q5 0 0 9 ((q5 0 0 9) + (nI 1))) (fun I6 => bX10_crash_100 n l1 l1.toNatClampNeg I6))) else (bX10_crash_100 n l1 l1.toNatClampNeg q4)))))) else (bX10_crash_18 n q1.2))))
theorem tX10_crash_0 {G : am_G} (hG : am_ok G) {d : Nat} {l1 : Int32} {l2 : Int32} {I : am_I} {r : (Option Int32 ⊕ Nat) × am_I} (h : bX10_crash_0 G.2.2.2.1 l1 l2  I = some r) : am_J G (d + 4) mX10_crash (fun pc _ st J => st = [] ∧ r = (.inr pc, J)) (fun q J => r = (.inl q, J)) 0 [some (.inr (0, 0)), some (.inl l1), some (.inl l2), none, none] [] I := by
  unfold bX10_crash_0 at h
  refine am_aload_n dX10_crash_0 rfl ?_
  refine am_iload_n dX10_crash_1 rfl ?_
  obtain ⟨q1, hq1, h⟩ := am_bd h
  refine am_callVx (i := 0) (j := 0) (as := [.inl l1]) (rest := []) dX10_crash_2 lkX10_isNode ml_X10_65 imX10_isNode seX10_isNode rfl rfl (hG.m0 (by decide)) rfl (Nat.le_of_ble_eq_true rfl) rfl (sX10_isNode hG hq1) ?_
  refine am_if_eq (tgt := 18) dX10_crash_5 rfl (fun c => ?_) (fun c => ?_)
  · rw [if_pos c] at h
    exact am_lwJ (lo' := [none, none, none, none, none]) trivial (tX10_crash_18 hG h)
  · rw [if_neg c] at h
    refine am_iload_n dX10_crash_8 rfl ?_
    refine am_if_lt (tgt := 18) dX10_crash_9 rfl (fun c => ?_) (fun c => ?_)
    · rw [if_pos c] at h
      exact am_lwJ (lo' := [none, none, none, none, none]) trivial (tX10_crash_18 hG h)
    · rw [if_neg c] at h
      refine am_iload_n dX10_crash_12 rfl ?_
      refine am_bipush (v := nI 16) dX10_crash_13 (by decide) ?_
      refine am_icmp_lt (tgt := 28) dX10_crash_15 rfl (fun c => ?_) (fun c => ?_)
      · rw [if_pos c] at h
        refine am_aload_n dX10_crash_28 rfl ?_
        refine am_get (v := .inr (0, 2)) dX10_crash_29 fl_10_19 (hG.m0 (by decide)) rfl ?_
        refine am_iload_n dX10_crash_32 rfl ?_
        obtain ⟨g2, h⟩ := am_gd_some h
        refine am_aaldG dX10_crash_33 (hG.m0 (by decide)) rfl g2 hG.n31 ?_
        refine am_astore_n dX10_crash_34 (by decide) ?_
        refine am_aload_n dX10_crash_35 rfl ?_
        refine am_get (v := .inl (q1.2 l1.toNatClampNeg 40 5)) dX10_crash_36 fl_10_80 (hG.mn (am_inb_lt g2) (by decide) (by decide)) rfl ?_
        refine am_if_ne (tgt := 52) dX10_crash_39 rfl (fun c => ?_) (fun c => ?_)
        · rw [if_neg c] at h
          refine am_aload_n dX10_crash_52 rfl ?_
          refine am_aload_n dX10_crash_53 rfl ?_
          refine am_iload_n dX10_crash_54 rfl ?_
          obtain ⟨q3, hq3, h⟩ := am_bd h
          refine am_callVe (i := 0) (j := 0) (as := [.inr (l1.toNatClampNeg, 40), .inl l2]) (rest := []) dX10_crash_55 lkX10_tear ml_X10_138 imX10_tear seX10_tear rfl rfl (hG.m0 (by decide)) rfl (Nat.le_of_ble_eq_true rfl) rfl (sX10_tear hG (am_inb_lt g2) hq3) ?_
          refine am_aload_n dX10_crash_58 rfl ?_
          refine am_get (v := .inr (0, 13)) dX10_crash_59 fl_10_43 (hG.m0 (by decide)) rfl ?_
          refine am_iload_n dX10_crash_62 rfl ?_
          obtain ⟨q4, hq4, h⟩ := am_bd h
          refine am_callVe (i := 0) (j := 13) (as := [.inl l1]) (rest := []) dX10_crash_63 lkX0_lose ml_X10_142 imX0_lose seX0_lose rfl rfl (hG.m0 (by decide)) rfl (Nat.le_of_ble_eq_true rfl) rfl (sX0_lose hG hq4) ?_
          refine am_aload_n dX10_crash_66 rfl ?_
          refine am_get (v := .inr (l1.toNatClampNeg, 55)) dX10_crash_67 fl_10_84 (hG.mn (am_inb_lt g2) (by decide) (by decide)) rfl ?_
          refine am_get (v := .inl (q4 l1.toNatClampNeg 55 5)) dX10_crash_70 fl_10_88 (hG.mn (am_inb_lt g2) (by decide) (by decide)) rfl ?_
          refine am_iconst (v := nI 1) dX10_crash_73 (by decide) ?_
          refine am_icmp_ne (tgt := 100) dX10_crash_74 rfl (fun c => ?_) (fun c => ?_)
          · rw [if_neg c] at h
            exact am_lwJ (lo' := [some (.inr (0, 0)), some (.inl l1), none, some (.inr (l1.toNatClampNeg, 40)), none]) ⟨rfl, rfl, rfl, trivial⟩ (tX10_crash_100 hG (am_inb_lt g2) h)
          · rw [if_pos c] at h
            refine am_aload_n dX10_crash_77 rfl ?_
            refine am_get (v := .inr (l1.toNatClampNeg, 55)) dX10_crash_78 fl_10_84 (hG.mn (am_inb_lt g2) (by decide) (by decide)) rfl ?_
            refine am_iconst (v := nI 4) dX10_crash_81 (by decide) ?_
            refine am_iconst (v := nI 0) dX10_crash_82 (by decide) ?_
            refine am_aload_n dX10_crash_83 rfl ?_
            refine am_get (v := .inl (q4 0 0 7)) dX10_crash_84 fl_10_99 (hG.m0 (by decide)) rfl ?_
            obtain ⟨q5, hq5, h⟩ := am_bd h
            refine am_callVe (i := l1.toNatClampNeg) (j := 55) (as := [.inl (nI 4), .inl (nI 0), .inl (q4 0 0 7)]) (rest := []) dX10_crash_87 lkX8_end ml_X10_145 imX8_end seX8_end rfl rfl (hG.mn (am_inb_lt g2) (by decide) (by decide)) rfl (Nat.le_of_ble_eq_true rfl) rfl (sX8_end hG (am_inb_lt g2) hq5) ?_
            refine am_aload_n dX10_crash_90 rfl ?_
            refine am_dup dX10_crash_91 ?_
            refine am_get (v := .inl (q5 0 0 9)) dX10_crash_92 fl_10_149 (hG.m0 (by decide)) rfl ?_
            refine am_iconst (v := nI 1) dX10_crash_95 (by decide) ?_
            refine am_iadd dX10_crash_96 ?_
            refine am_put (x := (q5 0 0 9) + (nI 1)) dX10_crash_97 fp_10_149 (hG.m0 (by decide)) (Nat.le_of_ble_eq_true rfl) rfl ?_
            obtain ⟨I6, hI6, h⟩ := am_lt_some h
            refine am_st10 hI6 ?_
            exact am_lwJ (lo' := [some (.inr (0, 0)), some (.inl l1), none, some (.inr (l1.toNatClampNeg, 40)), none]) ⟨rfl, rfl, rfl, trivial⟩ (tX10_crash_100 hG (am_inb_lt g2) h)
        · rw [if_pos c] at h
          cases h
          exact am_exit ⟨rfl, rfl⟩
      · rw [if_neg c] at h
        exact am_lwJ (lo' := [none, none, none, none, none]) trivial (tX10_crash_18 hG h)
def gX10_crash (n : Nat) (l1 : Int32) (l2 : Int32) (I : am_I) : Option ((Option Int32 ⊕ Nat) × am_I) := bX10_crash_0 n l1 l2 I
theorem sX10_crash {G : am_G} (hG : am_ok G) {d : Nat} {l1 : Int32} {l2 : Int32} {I : am_I} {r : (Option Int32 ⊕ Nat) × am_I} (h : gX10_crash G.2.2.2.1 l1 l2 I = some r) : am_J G (d + 4) mX10_crash (fun pc _ st J => st = [] ∧ r = (.inr pc, J)) (fun q J => r = (.inl q, J)) 0 (([.inr (0, 0), .inl l1, .inl l2] : List am_V).map some ++ List.replicate (5 - 3) none) [] I :=
  am_lwJ (lo' := [some (.inr (0, 0)), some (.inl l1), some (.inl l2), none, none]) ⟨rfl, rfl, rfl, trivial⟩ (tX10_crash_0 hG h)
def bX10_replay_101 (n : Nat) (k46 : Int32 → Int32 → Int32 → am_I → Option (Int32 × am_I)) (l2 : Int32) (l3 : Int32) (l4 : Int32) (I : am_I) : Option (Int32 × am_I) := k46 l2 l3 (l4 + nI 1) I
theorem tX10_replay_101 {G : am_G} (hG : am_ok G) {d : Nat} {k46 : Int32 → Int32 → Int32 → am_I → Option (Int32 × am_I)} (hk46 : ∀ (l2 : Int32) (l3 : Int32) (l4 : Int32) (I : am_I) (r : Int32 × am_I), k46 l2 l3 l4 I = some r → am_J G (d + 1) mX10_replay am_no (am_E (some r.1) r.2) 46 [some (.inr (0, 0)), none, some (.inl l2), some (.inl l3), some (.inl l4), none] [] I) {l2 : Int32} {l3 : Int32} {l4 : Int32} {I : am_I} {r : Int32 × am_I} (h : bX10_replay_101 G.2.2.2.1 k46 l2 l3 l4  I = some r) : am_J G (d + 1) mX10_replay am_no (am_E (some r.1) r.2) 101 [some (.inr (0, 0)), none, some (.inl l2), some (.inl l3), some (.inl l4), none] [] I := by
  unfold bX10_replay_101 at h
  refine am_iinc (v := l4 + nI 1) dX10_replay_101 rfl rfl ?_
  refine am_goto (tgt := 46) dX10_replay_104 rfl ?_
  exact am_lwJ (lo' := [some (.inr (0, 0)), none, some (.inl l2), some (.inl l3), some (.inl (l4 + nI 1)), none]) ⟨rfl, rfl, rfl, rfl, trivial⟩ (hk46 l2 l3 (l4 + nI 1) _ _ h)
def bX10_replay_46 (n : Nat) : Nat → Int32 → Int32 → Int32 → am_I → Option (Int32 × am_I)
  | 0, _, _, _, _ => none
  | fu + 1, l2, l3, l4, I => (fun k46 => if l3 ≤ l4 then (am_gd (am_inb (l2 + (nI 2)) 10240) (am_lt (am_up I 0 1 (l2 + (nI 2)).toNatClampNeg (nI 0)) (fun I2 => some (l3, I2)))) else (am_gd (am_inb ((l2 + (nI 16)) + l4) 10240) ((gX10_isBlock n (I 0 1 (((l2 + (nI 16)) + l4).toNatClampNeg)) I).bind (fun q4 => if q4.1 = 0 then (bX10_replay_101 n k46 l2 l3 l4 q4.2) else (am_gd (am_cpb (l2 + (((nI 2) + l4) * (nI 16))) ((I 0 1 (((l2 + (nI 16)) + l4).toNatClampNeg)) * (nI 16)) (nI 16) 10240 10240) (am_lt (am_upf q4.2 0 1 (va_cpy (q4.2 0 1) (q4.2 0 1) (l2 + (((nI 2) + l4) * (nI 16))).toNatClampNeg ((I 0 1 (((l2 + (nI 16)) + l4).toNatClampNeg)) * (nI 16)).toNatClampNeg (nI 16).toNatClampNeg)) (fun I6 => bX10_replay_101 n k46 l2 l3 l4 I6))))))) (bX10_replay_46 n fu)
theorem tX10_replay_46 {G : am_G} (hG : am_ok G) {d : Nat} : ∀ {fu : Nat} {l2 : Int32} {l3 : Int32} {l4 : Int32} {I : am_I} {r : Int32 × am_I}, bX10_replay_46 G.2.2.2.1 fu l2 l3 l4 I = some r → am_J G (d + 1) mX10_replay am_no (am_E (some r.1) r.2) 46 [some (.inr (0, 0)), none, some (.inl l2), some (.inl l3), some (.inl l4), none] [] I := by
  intro fu
  induction fu with
  | zero => intro l2 l3 l4 I r h; cases h
  | succ fu ih =>
    intro l2 l3 l4 I r h
    have hk46 : ∀ (l2 : Int32) (l3 : Int32) (l4 : Int32) (I : am_I) (r : Int32 × am_I), bX10_replay_46 G.2.2.2.1 fu l2 l3 l4 I = some r → am_J G (d + 1) mX10_replay am_no (am_E (some r.1) r.2) 46 [some (.inr (0, 0)), none, some (.inl l2), some (.inl l3), some (.inl l4), none] [] I := fun l2 l3 l4 I r h => ih h
    unfold bX10_replay_46 at h
    generalize bX10_replay_46 G.2.2.2.1 fu = k46 at hk46 h
    dsimp only at h
    refine am_iload dX10_replay_46 rfl ?_
    refine am_iload_n dX10_replay_48 rfl ?_
    refine am_icmp_ge (tgt := 107) dX10_replay_49 rfl (fun c => ?_) (fun c => ?_)
    · rw [if_pos c] at h
      refine am_aload_n dX10_replay_107 rfl ?_
      refine am_get (v := .inr (0, 1)) dX10_replay_108 fl_10_9 (hG.m0 (by decide)) rfl ?_
      refine am_iload_n dX10_replay_111 rfl ?_
      refine am_iconst (v := nI 2) dX10_replay_112 (by decide) ?_
      refine am_iadd dX10_replay_113 ?_
      refine am_iconst (v := nI 0) dX10_replay_114 (by decide) ?_
      obtain ⟨g1, h⟩ := am_gd_some h
      refine am_iastG dX10_replay_115 (hG.m0 (by decide)) rfl g1 (show 10240 < 2 ^ 31 by decide) ?_
      obtain ⟨I2, hI2, h⟩ := am_lt_some h
      refine am_st10 hI2 ?_
      refine am_iload_n dX10_replay_116 rfl ?_
      cases h
      exact am_iret dX10_replay_117 rfl rfl ⟨rfl, rfl⟩
    · rw [if_neg c] at h
      refine am_aload_n dX10_replay_52 rfl ?_
      refine am_get (v := .inr (0, 1)) dX10_replay_53 fl_10_9 (hG.m0 (by decide)) rfl ?_
      refine am_iload_n dX10_replay_56 rfl ?_
      refine am_bipush (v := nI 16) dX10_replay_57 (by decide) ?_
      refine am_iadd dX10_replay_59 ?_
      refine am_iload dX10_replay_60 rfl ?_
      refine am_iadd dX10_replay_62 ?_
      obtain ⟨g3, h⟩ := am_gd_some h
      refine am_ialdG dX10_replay_63 (hG.m0 (by decide)) rfl g3 (show 10240 < 2 ^ 31 by decide) ?_
      refine am_istore dX10_replay_64 (by decide) ?_
      refine am_iload dX10_replay_66 rfl ?_
      obtain ⟨q4, hq4, h⟩ := am_bd h
      refine am_callSx (as := [.inl (I 0 1 (((l2 + (nI 16)) + l4).toNatClampNeg))]) (rest := []) dX10_replay_68 lkX10_isBlock ml_X10_492 isX10_isBlock rfl (Nat.le_of_ble_eq_true rfl) rfl (sX10_isBlock hG hq4) ?_
      refine am_if_eq (tgt := 101) dX10_replay_71 rfl (fun c => ?_) (fun c => ?_)
      · rw [if_pos c] at h
        exact am_lwJ (lo' := [some (.inr (0, 0)), none, some (.inl l2), some (.inl l3), some (.inl l4), none]) ⟨rfl, rfl, rfl, rfl, trivial⟩ (tX10_replay_101 hG hk46 h)
      · rw [if_neg c] at h
        refine am_aload_n dX10_replay_74 rfl ?_
        refine am_get (v := .inr (0, 1)) dX10_replay_75 fl_10_9 (hG.m0 (by decide)) rfl ?_
        refine am_iload_n dX10_replay_78 rfl ?_
        refine am_iconst (v := nI 2) dX10_replay_79 (by decide) ?_
        refine am_iload dX10_replay_80 rfl ?_
        refine am_iadd dX10_replay_82 ?_
        refine am_bipush (v := nI 16) dX10_replay_83 (by decide) ?_
        refine am_imul dX10_replay_85 ?_
        refine am_iadd dX10_replay_86 ?_
        refine am_aload_n dX10_replay_87 rfl ?_
        refine am_get (v := .inr (0, 1)) dX10_replay_88 fl_10_9 (hG.m0 (by decide)) rfl ?_
        refine am_iload dX10_replay_91 rfl ?_
        refine am_bipush (v := nI 16) dX10_replay_93 (by decide) ?_
        refine am_imul dX10_replay_95 ?_
        refine am_bipush (v := nI 16) dX10_replay_96 (by decide) ?_
        obtain ⟨g5, h⟩ := am_gd_some h
        refine am_copy (rest := []) dX10_replay_98 ml_X10_495 (hG.m0 (by decide)) (hG.m0 (by decide)) rfl rfl g5 (Nat.le_of_ble_eq_true rfl) ?_
        obtain ⟨I6, hI6, h⟩ := am_lt_some h
        refine am_st10 hI6 ?_
        exact am_lwJ (lo' := [some (.inr (0, 0)), none, some (.inl l2), some (.inl l3), some (.inl l4), none]) ⟨rfl, rfl, rfl, rfl, trivial⟩ (tX10_replay_101 hG hk46 h)
def bX10_replay_0 (n : Nat) (l1 : Nat) (I : am_I) : Option (Int32 × am_I) := (gX10_headBlock n (I l1 40 0) I).bind (fun q1 => am_gd (am_inb ((q1.1 * (nI 16)) + (nI 2)) 10240) (if (q1.2 0 1 (((q1.1 * (nI 16)) + (nI 2)).toNatClampNeg)) = (nI 1) then (am_gd (am_inb ((q1.1 * (nI 16)) + (nI 1)) 10240) (bX10_replay_46 n am_fu (q1.1 * (nI 16)) ((if ((if (nI 16) ≤ (q1.2 0 1 (((q1.1 * (nI 16)) + (nI 1)).toNatClampNeg)) then (nI 16) else (q1.2 0 1 (((q1.1 * (nI 16)) + (nI 1)).toNatClampNeg)))) ≤ (nI 0) then (nI 0) else ((if (nI 16) ≤ (q1.2 0 1 (((q1.1 * (nI 16)) + (nI 1)).toNatClampNeg)) then (nI 16) else (q1.2 0 1 (((q1.1 * (nI 16)) + (nI 1)).toNatClampNeg)))))) (nI 0) q1.2)) else (some (nI 0, q1.2))))
theorem tX10_replay_0 {G : am_G} (hG : am_ok G) {d : Nat} {l1 : Nat} (hl1 : l1 < G.2.2.2.1) {I : am_I} {r : Int32 × am_I} (h : bX10_replay_0 G.2.2.2.1 l1  I = some r) : am_J G (d + 1) mX10_replay am_no (am_E (some r.1) r.2) 0 [some (.inr (0, 0)), some (.inr (l1, 40)), none, none, none, none] [] I := by
  unfold bX10_replay_0 at h
  refine am_aload_n dX10_replay_0 rfl ?_
  refine am_get (v := .inl (I l1 40 0)) dX10_replay_1 fl_10_388 (hG.mn hl1 (by decide) (by decide)) rfl ?_
  obtain ⟨q1, hq1, h⟩ := am_bd h
  refine am_callSx (as := [.inl (I l1 40 0)]) (rest := []) dX10_replay_4 lkX10_headBlock ml_X10_486 isX10_headBlock rfl (Nat.le_of_ble_eq_true rfl) rfl (sX10_headBlock hG hq1) ?_
  refine am_bipush (v := nI 16) dX10_replay_7 (by decide) ?_
  refine am_imul dX10_replay_9 ?_
  refine am_istore_n dX10_replay_10 (by decide) ?_
  refine am_aload_n dX10_replay_11 rfl ?_
  refine am_get (v := .inr (0, 1)) dX10_replay_12 fl_10_9 (hG.m0 (by decide)) rfl ?_
  refine am_iload_n dX10_replay_15 rfl ?_
  refine am_iconst (v := nI 2) dX10_replay_16 (by decide) ?_
  refine am_iadd dX10_replay_17 ?_
  obtain ⟨g2, h⟩ := am_gd_some h
  refine am_ialdG dX10_replay_18 (hG.m0 (by decide)) rfl g2 (show 10240 < 2 ^ 31 by decide) ?_
  refine am_iconst (v := nI 1) dX10_replay_19 (by decide) ?_
  refine am_icmp_eq (tgt := 25) dX10_replay_20 rfl (fun c => ?_) (fun c => ?_)
  · rw [if_pos c] at h
    refine am_iconst (v := nI 0) dX10_replay_25 (by decide) ?_
    refine am_bipush (v := nI 16) dX10_replay_26 (by decide) ?_
    refine am_aload_n dX10_replay_28 rfl ?_
    refine am_get (v := .inr (0, 1)) dX10_replay_29 fl_10_9 (hG.m0 (by decide)) rfl ?_
    refine am_iload_n dX10_replay_32 rfl ?_
    refine am_iconst (v := nI 1) dX10_replay_33 (by decide) ?_
    refine am_iadd dX10_replay_34 ?_
    obtain ⟨g3, h⟩ := am_gd_some h
    refine am_ialdG dX10_replay_35 (hG.m0 (by decide)) rfl g3 (show 10240 < 2 ^ 31 by decide) ?_
    refine am_callSx (as := [.inl (nI 16), .inl (q1.2 0 1 (((q1.1 * (nI 16)) + (nI 1)).toNatClampNeg))]) (rest := [.inl (nI 0)]) dX10_replay_36 lkJ9_min_7cf53 ml_X10_448 isJ9_min_7cf53 rfl (Nat.le_of_ble_eq_true rfl) rfl (c_min hG.nd (nI 16) (q1.2 0 1 (((q1.1 * (nI 16)) + (nI 1)).toNatClampNeg)) q1.2) ?_
    refine am_callSx (as := [.inl (nI 0), .inl ((if (nI 16) ≤ (q1.2 0 1 (((q1.1 * (nI 16)) + (nI 1)).toNatClampNeg)) then (nI 16) else (q1.2 0 1 (((q1.1 * (nI 16)) + (nI 1)).toNatClampNeg))))]) (rest := []) dX10_replay_39 lkJ9_max_7cf53 ml_X10_489 isJ9_max_7cf53 rfl (Nat.le_of_ble_eq_true rfl) rfl (c_max hG.nd (nI 0) ((if (nI 16) ≤ (q1.2 0 1 (((q1.1 * (nI 16)) + (nI 1)).toNatClampNeg)) then (nI 16) else (q1.2 0 1 (((q1.1 * (nI 16)) + (nI 1)).toNatClampNeg)))) q1.2) ?_
    refine am_istore_n dX10_replay_42 (by decide) ?_
    refine am_iconst (v := nI 0) dX10_replay_43 (by decide) ?_
    refine am_istore dX10_replay_44 (by decide) ?_
    exact am_lwJ (lo' := [some (.inr (0, 0)), none, some (.inl (q1.1 * (nI 16))), some (.inl ((if ((if (nI 16) ≤ (q1.2 0 1 (((q1.1 * (nI 16)) + (nI 1)).toNatClampNeg)) then (nI 16) else (q1.2 0 1 (((q1.1 * (nI 16)) + (nI 1)).toNatClampNeg)))) ≤ (nI 0) then (nI 0) else ((if (nI 16) ≤ (q1.2 0 1 (((q1.1 * (nI 16)) + (nI 1)).toNatClampNeg)) then (nI 16) else (q1.2 0 1 (((q1.1 * (nI 16)) + (nI 1)).toNatClampNeg))))))), some (.inl (nI 0)), none]) ⟨rfl, rfl, rfl, rfl, trivial⟩ (tX10_replay_46 hG h)
  · rw [if_neg c] at h
    refine am_iconst (v := nI 0) dX10_replay_23 (by decide) ?_
    cases h
    exact am_iret dX10_replay_24 rfl rfl ⟨rfl, rfl⟩
def gX10_replay (n : Nat) (l1 : Nat) (I : am_I) : Option (Int32 × am_I) := bX10_replay_0 n l1 I
theorem sX10_replay {G : am_G} (hG : am_ok G) {d : Nat} {l1 : Nat} (hl1 : l1 < G.2.2.2.1) {I : am_I} {r : Int32 × am_I} (h : gX10_replay G.2.2.2.1 l1 I = some r) : am_C G (d + 1) mX10_replay [.inr (0, 0), .inr (l1, 40)] I (am_E (some r.1) r.2) :=
  am_of (by decide +kernel) hG.nd (Nat.le_of_ble_eq_true rfl) (am_lwJ (lo' := [some (.inr (0, 0)), some (.inr (l1, 40)), none, none, none, none]) ⟨rfl, rfl, trivial⟩ (tX10_replay_0 hG hl1 h))
def bX10_layLocksAnew_122 (n : Nat) : Nat → Int32 → am_I → Option (am_I)
  | 0, _, _ => none
  | fu + 1, l1, I => (fun k122 => if (nI 136) ≤ l1 then (some I) else ((gX10_serve n l1 I).bind (fun q1 => k122 (l1 + nI 1) q1))) (bX10_layLocksAnew_122 n fu)
theorem tX10_layLocksAnew_122 {G : am_G} (hG : am_ok G) {d : Nat} : ∀ {fu : Nat} {l1 : Int32} {I : am_I} {r : am_I}, bX10_layLocksAnew_122 G.2.2.2.1 fu l1 I = some r → am_J G (d + 5) mX10_layLocksAnew am_no (am_E none r) 122 [some (.inr (0, 0)), some (.inl l1), none, none] [] I := by
  intro fu
  induction fu with
  | zero => intro l1 I r h; cases h
  | succ fu ih =>
    intro l1 I r h
    have hk122 : ∀ (l1 : Int32) (I : am_I) (r : am_I), bX10_layLocksAnew_122 G.2.2.2.1 fu l1 I = some r → am_J G (d + 5) mX10_layLocksAnew am_no (am_E none r) 122 [some (.inr (0, 0)), some (.inl l1), none, none] [] I := fun l1 I r h => ih h
    unfold bX10_layLocksAnew_122 at h
    generalize bX10_layLocksAnew_122 G.2.2.2.1 fu = k122 at hk122 h
    dsimp only at h
    refine am_iload_n dX10_layLocksAnew_122 rfl ?_
    refine am_sipush (v := nI 136) dX10_layLocksAnew_123 (by decide) ?_
    refine am_icmp_ge (tgt := 140) dX10_layLocksAnew_126 rfl (fun c => ?_) (fun c => ?_)
    · rw [if_pos c] at h
      cases h
      exact am_vret dX10_layLocksAnew_140 rfl ⟨rfl, rfl⟩
    · rw [if_neg c] at h
      refine am_aload_n dX10_layLocksAnew_129 rfl ?_
      refine am_iload_n dX10_layLocksAnew_130 rfl ?_
      obtain ⟨q1, hq1, h⟩ := am_bd h
      refine am_callVe (i := 0) (j := 0) (as := [.inl l1]) (rest := []) dX10_layLocksAnew_131 lkX10_serve ml_X10_422 imX10_serve seX10_serve rfl rfl (hG.m0 (by decide)) rfl (Nat.le_of_ble_eq_true rfl) rfl (sX10_serve hG hq1) ?_
      refine am_iinc (v := l1 + nI 1) dX10_layLocksAnew_134 rfl rfl ?_
      refine am_goto (tgt := 122) dX10_layLocksAnew_137 rfl ?_
      exact am_lwJ (lo' := [some (.inr (0, 0)), some (.inl (l1 + nI 1)), none, none]) ⟨rfl, rfl, trivial⟩ (hk122 (l1 + nI 1) _ _ h)
def bX10_layLocksAnew_108 (n : Nat) (k33 : Int32 → am_I → Option (am_I)) (k62 : Int32 → Nat → Int32 → am_I → Option (am_I)) (l1 : Int32) (l2 : Nat) (l3 : Int32) (I : am_I) : Option (am_I) := k62 l1 l2 (l3 + nI 1) I
theorem tX10_layLocksAnew_108 {G : am_G} (hG : am_ok G) {d : Nat} {k33 : Int32 → am_I → Option (am_I)} {k62 : Int32 → Nat → Int32 → am_I → Option (am_I)} (hk33 : ∀ (l1 : Int32) (I : am_I) (r : am_I), k33 l1 I = some r → am_J G (d + 5) mX10_layLocksAnew am_no (am_E none r) 33 [some (.inr (0, 0)), some (.inl l1), none, none] [] I) (hk62 : ∀ (l1 : Int32) (l2 : Nat) (l3 : Int32) (hl2 : l2 < G.2.2.2.1) (I : am_I) (r : am_I), k62 l1 l2 l3 I = some r → am_J G (d + 5) mX10_layLocksAnew am_no (am_E none r) 62 [some (.inr (0, 0)), some (.inl l1), some (.inr (l2, 48)), some (.inl l3)] [] I) {l1 : Int32} {l2 : Nat} {l3 : Int32} (hl2 : l2 < G.2.2.2.1) {I : am_I} {r : am_I} (h : bX10_layLocksAnew_108 G.2.2.2.1 k33 k62 l1 l2 l3  I = some r) : am_J G (d + 5) mX10_layLocksAnew am_no (am_E none r) 108 [some (.inr (0, 0)), some (.inl l1), some (.inr (l2, 48)), some (.inl l3)] [] I := by
  unfold bX10_layLocksAnew_108 at h
  refine am_iinc (v := l3 + nI 1) dX10_layLocksAnew_108 rfl rfl ?_
  refine am_goto (tgt := 62) dX10_layLocksAnew_111 rfl ?_
  exact am_lwJ (lo' := [some (.inr (0, 0)), some (.inl l1), some (.inr (l2, 48)), some (.inl (l3 + nI 1))]) ⟨rfl, rfl, rfl, rfl, trivial⟩ (hk62 l1 l2 (l3 + nI 1) hl2 _ _ h)
def bX10_layLocksAnew_62 (n : Nat) (k33 : Int32 → am_I → Option (am_I)) : Nat → Int32 → Nat → Int32 → am_I → Option (am_I)
  | 0, _, _, _, _ => none
  | fu + 1, l1, l2, l3, I => (fun k62 => if (nI 136) ≤ l3 then (k33 (l1 + nI 1) I) else (am_gd (am_inb l3 136) ((gX6_give n l3 l1 (I l2 49 l3.toNatClampNeg) I).bind (fun q2 => am_gd (am_inb l3 136) (if (q2 l2 50 l3.toNatClampNeg) = 0 then (bX10_layLocksAnew_108 n k33 k62 l1 l2 l3 q2) else (am_gd (am_inb l3 136) ((gX6_ask n l3 l1 (q2 l2 50 l3.toNatClampNeg) q2).bind (fun q5 => bX10_layLocksAnew_108 n k33 k62 l1 l2 l3 q5)))))))) (bX10_layLocksAnew_62 n k33 fu)
theorem tX10_layLocksAnew_62 {G : am_G} (hG : am_ok G) {d : Nat} {k33 : Int32 → am_I → Option (am_I)} (hk33 : ∀ (l1 : Int32) (I : am_I) (r : am_I), k33 l1 I = some r → am_J G (d + 5) mX10_layLocksAnew am_no (am_E none r) 33 [some (.inr (0, 0)), some (.inl l1), none, none] [] I) : ∀ {fu : Nat} {l1 : Int32} {l2 : Nat} {l3 : Int32} (hl2 : l2 < G.2.2.2.1) {I : am_I} {r : am_I}, bX10_layLocksAnew_62 G.2.2.2.1 k33 fu l1 l2 l3 I = some r → am_J G (d + 5) mX10_layLocksAnew am_no (am_E none r) 62 [some (.inr (0, 0)), some (.inl l1), some (.inr (l2, 48)), some (.inl l3)] [] I := by
  intro fu
  induction fu with
  | zero => intro l1 l2 l3 hl2 I r h; cases h
  | succ fu ih =>
    intro l1 l2 l3 hl2 I r h
    have hk62 : ∀ (l1 : Int32) (l2 : Nat) (l3 : Int32) (hl2 : l2 < G.2.2.2.1) (I : am_I) (r : am_I), bX10_layLocksAnew_62 G.2.2.2.1 k33 fu l1 l2 l3 I = some r → am_J G (d + 5) mX10_layLocksAnew am_no (am_E none r) 62 [some (.inr (0, 0)), some (.inl l1), some (.inr (l2, 48)), some (.inl l3)] [] I := fun l1 l2 l3 hl2 I r h => ih hl2 h
    unfold bX10_layLocksAnew_62 at h
    generalize bX10_layLocksAnew_62 G.2.2.2.1 k33 fu = k62 at hk62 h
    dsimp only at h
    refine am_iload_n dX10_layLocksAnew_62 rfl ?_
    refine am_sipush (v := nI 136) dX10_layLocksAnew_63 (by decide) ?_
    refine am_icmp_ge (tgt := 114) dX10_layLocksAnew_66 rfl (fun c => ?_) (fun c => ?_)
    · rw [if_pos c] at h
      refine am_iinc (v := l1 + nI 1) dX10_layLocksAnew_114 rfl rfl ?_
      refine am_goto (tgt := 33) dX10_layLocksAnew_117 rfl ?_
      exact am_lwJ (lo' := [some (.inr (0, 0)), some (.inl (l1 + nI 1)), none, none]) ⟨rfl, rfl, trivial⟩ (hk33 (l1 + nI 1) _ _ h)
    · rw [if_neg c] at h
      refine am_aload_n dX10_layLocksAnew_69 rfl ?_
      refine am_get (v := .inr (0, 3)) dX10_layLocksAnew_70 fl_10_29 (hG.m0 (by decide)) rfl ?_
      refine am_iload_n dX10_layLocksAnew_73 rfl ?_
      refine am_iload_n dX10_layLocksAnew_74 rfl ?_
      refine am_aload_n dX10_layLocksAnew_75 rfl ?_
      refine am_get (v := .inr (l2, 49)) dX10_layLocksAnew_76 fl_10_248 (hG.mn hl2 (by decide) (by decide)) rfl ?_
      refine am_iload_n dX10_layLocksAnew_79 rfl ?_
      obtain ⟨g1, h⟩ := am_gd_some h
      refine am_ialdG dX10_layLocksAnew_80 (hG.mn hl2 (by decide) (by decide)) rfl g1 (show 136 < 2 ^ 31 by decide) ?_
      obtain ⟨q2, hq2, h⟩ := am_bd h
      refine am_callVe (i := 0) (j := 3) (as := [.inl l3, .inl l1, .inl (I l2 49 l3.toNatClampNeg)]) (rest := []) dX10_layLocksAnew_81 lkX6_give ml_X10_439 imX6_give seX6_give rfl rfl (hG.m0 (by decide)) rfl (Nat.le_of_ble_eq_true rfl) rfl (sX6_give hG hq2) ?_
      refine am_aload_n dX10_layLocksAnew_84 rfl ?_
      refine am_get (v := .inr (l2, 50)) dX10_layLocksAnew_85 fl_10_253 (hG.mn hl2 (by decide) (by decide)) rfl ?_
      refine am_iload_n dX10_layLocksAnew_88 rfl ?_
      obtain ⟨g3, h⟩ := am_gd_some h
      refine am_ialdG dX10_layLocksAnew_89 (hG.mn hl2 (by decide) (by decide)) rfl g3 (show 136 < 2 ^ 31 by decide) ?_
      refine am_if_eq (tgt := 108) dX10_layLocksAnew_90 rfl (fun c => ?_) (fun c => ?_)
      · rw [if_pos c] at h
        exact am_lwJ (lo' := [some (.inr (0, 0)), some (.inl l1), some (.inr (l2, 48)), some (.inl l3)]) ⟨rfl, rfl, rfl, rfl, trivial⟩ (tX10_layLocksAnew_108 hG hk33 hk62 hl2 h)
      · rw [if_neg c] at h
        refine am_aload_n dX10_layLocksAnew_93 rfl ?_
        refine am_get (v := .inr (0, 3)) dX10_layLocksAnew_94 fl_10_29 (hG.m0 (by decide)) rfl ?_
        refine am_iload_n dX10_layLocksAnew_97 rfl ?_
        refine am_iload_n dX10_layLocksAnew_98 rfl ?_
        refine am_aload_n dX10_layLocksAnew_99 rfl ?_
        refine am_get (v := .inr (l2, 50)) dX10_layLocksAnew_100 fl_10_253 (hG.mn hl2 (by decide) (by decide)) rfl ?_
        refine am_iload_n dX10_layLocksAnew_103 rfl ?_
        obtain ⟨g4, h⟩ := am_gd_some h
        refine am_ialdG dX10_layLocksAnew_104 (hG.mn hl2 (by decide) (by decide)) rfl g4 (show 136 < 2 ^ 31 by decide) ?_
        obtain ⟨q5, hq5, h⟩ := am_bd h
        refine am_callVe (i := 0) (j := 3) (as := [.inl l3, .inl l1, .inl (q2 l2 50 l3.toNatClampNeg)]) (rest := []) dX10_layLocksAnew_105 lkX6_ask ml_X10_419 imX6_ask seX6_ask rfl rfl (hG.m0 (by decide)) rfl (Nat.le_of_ble_eq_true rfl) rfl (sX6_ask hG hq5) ?_
        exact am_lwJ (lo' := [some (.inr (0, 0)), some (.inl l1), some (.inr (l2, 48)), some (.inl l3)]) ⟨rfl, rfl, rfl, rfl, trivial⟩ (tX10_layLocksAnew_108 hG hk33 hk62 hl2 h)
def bX10_layLocksAnew_33 (n : Nat) : Nat → Int32 → am_I → Option (am_I)
  | 0, _, _ => none
  | fu + 1, l1, I => (fun k33 => if (nI n) ≤ l1 then (bX10_layLocksAnew_122 n am_fu (nI 0) I) else (am_gd (am_inb l1 n) (am_lt (am_upf I l1.toNatClampNeg 51 (am_fil (I l1.toNatClampNeg 51) 136 (-1 : Int32))) (fun I2 => bX10_layLocksAnew_62 n k33 am_fu l1 l1.toNatClampNeg (nI 0) I2)))) (bX10_layLocksAnew_33 n fu)
theorem tX10_layLocksAnew_33 {G : am_G} (hG : am_ok G) {d : Nat} : ∀ {fu : Nat} {l1 : Int32} {I : am_I} {r : am_I}, bX10_layLocksAnew_33 G.2.2.2.1 fu l1 I = some r → am_J G (d + 5) mX10_layLocksAnew am_no (am_E none r) 33 [some (.inr (0, 0)), some (.inl l1), none, none] [] I := by
  intro fu
  induction fu with
  | zero => intro l1 I r h; cases h
  | succ fu ih =>
    intro l1 I r h
    have hk33 : ∀ (l1 : Int32) (I : am_I) (r : am_I), bX10_layLocksAnew_33 G.2.2.2.1 fu l1 I = some r → am_J G (d + 5) mX10_layLocksAnew am_no (am_E none r) 33 [some (.inr (0, 0)), some (.inl l1), none, none] [] I := fun l1 I r h => ih h
    unfold bX10_layLocksAnew_33 at h
    generalize bX10_layLocksAnew_33 G.2.2.2.1 fu = k33 at hk33 h
    dsimp only at h
    refine am_iload_n dX10_layLocksAnew_33 rfl ?_
    refine am_aload_n dX10_layLocksAnew_34 rfl ?_
    refine am_get (v := .inr (0, 2)) dX10_layLocksAnew_35 fl_10_19 (hG.m0 (by decide)) rfl ?_
    refine am_alen3 dX10_layLocksAnew_38 (hG.m0 (by decide)) rfl ?_
    refine am_icmp_ge (tgt := 120) dX10_layLocksAnew_39 rfl (fun c => ?_) (fun c => ?_)
    · rw [if_pos c] at h
      refine am_iconst (v := nI 0) dX10_layLocksAnew_120 (by decide) ?_
      refine am_istore_n dX10_layLocksAnew_121 (by decide) ?_
      exact am_lwJ (lo' := [some (.inr (0, 0)), some (.inl (nI 0)), none, none]) ⟨rfl, rfl, trivial⟩ (tX10_layLocksAnew_122 hG h)
    · rw [if_neg c] at h
      refine am_aload_n dX10_layLocksAnew_42 rfl ?_
      refine am_get (v := .inr (0, 2)) dX10_layLocksAnew_43 fl_10_19 (hG.m0 (by decide)) rfl ?_
      refine am_iload_n dX10_layLocksAnew_46 rfl ?_
      obtain ⟨g1, h⟩ := am_gd_some h
      refine am_aaldG dX10_layLocksAnew_47 (hG.m0 (by decide)) rfl g1 hG.n31 ?_
      refine am_get (v := .inr (l1.toNatClampNeg, 48)) dX10_layLocksAnew_48 fl_10_244 (hG.mn (am_inb_lt g1) (by decide) (by decide)) rfl ?_
      refine am_astore_n dX10_layLocksAnew_51 (by decide) ?_
      refine am_aload_n dX10_layLocksAnew_52 rfl ?_
      refine am_get (v := .inr (l1.toNatClampNeg, 51)) dX10_layLocksAnew_53 fl_10_256 (hG.mn (am_inb_lt g1) (by decide) (by decide)) rfl ?_
      refine am_iconst (v := (-1 : Int32)) dX10_layLocksAnew_56 (by decide) ?_
      refine am_callSe (as := [.inr (l1.toNatClampNeg, 51), .inl (-1 : Int32)]) (rest := []) dX10_layLocksAnew_57 lkJ7_fill_53178 ml_X10_501 isJ7_fill_53178 rfl (Nat.le_of_ble_eq_true rfl) rfl (c_fill (i := l1.toNatClampNeg) (j := 51) hG.nd (hG.mn (am_inb_lt g1) (by decide) (by decide)) rfl (show 136 < 2 ^ 31 by decide) (-1 : Int32) I) ?_
      obtain ⟨I2, hI2, h⟩ := am_lt_some h
      refine am_st10 hI2 ?_
      refine am_iconst (v := nI 0) dX10_layLocksAnew_60 (by decide) ?_
      refine am_istore_n dX10_layLocksAnew_61 (by decide) ?_
      exact am_lwJ (lo' := [some (.inr (0, 0)), some (.inl l1), some (.inr (l1.toNatClampNeg, 48)), some (.inl (nI 0))]) ⟨rfl, rfl, rfl, rfl, trivial⟩ (tX10_layLocksAnew_62 hG hk33 (am_inb_lt g1) h)
def bX10_layLocksAnew_10 (n : Nat) : Nat → Int32 → am_I → Option (am_I)
  | 0, _, _ => none
  | fu + 1, l1, I => (fun k10 => if (nI 136) ≤ l1 then (bX10_layLocksAnew_33 n am_fu (nI 0) I) else ((gX6_wipe n l1 I).bind (fun q1 => k10 (l1 + nI 1) q1))) (bX10_layLocksAnew_10 n fu)
theorem tX10_layLocksAnew_10 {G : am_G} (hG : am_ok G) {d : Nat} : ∀ {fu : Nat} {l1 : Int32} {I : am_I} {r : am_I}, bX10_layLocksAnew_10 G.2.2.2.1 fu l1 I = some r → am_J G (d + 5) mX10_layLocksAnew am_no (am_E none r) 10 [some (.inr (0, 0)), some (.inl l1), none, none] [] I := by
  intro fu
  induction fu with
  | zero => intro l1 I r h; cases h
  | succ fu ih =>
    intro l1 I r h
    have hk10 : ∀ (l1 : Int32) (I : am_I) (r : am_I), bX10_layLocksAnew_10 G.2.2.2.1 fu l1 I = some r → am_J G (d + 5) mX10_layLocksAnew am_no (am_E none r) 10 [some (.inr (0, 0)), some (.inl l1), none, none] [] I := fun l1 I r h => ih h
    unfold bX10_layLocksAnew_10 at h
    generalize bX10_layLocksAnew_10 G.2.2.2.1 fu = k10 at hk10 h
    dsimp only at h
    refine am_iload_n dX10_layLocksAnew_10 rfl ?_
    refine am_sipush (v := nI 136) dX10_layLocksAnew_11 (by decide) ?_
    refine am_icmp_ge (tgt := 31) dX10_layLocksAnew_14 rfl (fun c => ?_) (fun c => ?_)
    · rw [if_pos c] at h
      refine am_iconst (v := nI 0) dX10_layLocksAnew_31 (by decide) ?_
      refine am_istore_n dX10_layLocksAnew_32 (by decide) ?_
      exact am_lwJ (lo' := [some (.inr (0, 0)), some (.inl (nI 0)), none, none]) ⟨rfl, rfl, trivial⟩ (tX10_layLocksAnew_33 hG h)
    · rw [if_neg c] at h
      refine am_aload_n dX10_layLocksAnew_17 rfl ?_
      refine am_get (v := .inr (0, 3)) dX10_layLocksAnew_18 fl_10_29 (hG.m0 (by decide)) rfl ?_
      refine am_iload_n dX10_layLocksAnew_21 rfl ?_
      obtain ⟨q1, hq1, h⟩ := am_bd h
      refine am_callVe (i := 0) (j := 3) (as := [.inl l1]) (rest := []) dX10_layLocksAnew_22 lkX6_wipe ml_X10_161 imX6_wipe seX6_wipe rfl rfl (hG.m0 (by decide)) rfl (Nat.le_of_ble_eq_true rfl) rfl (sX6_wipe hG hq1) ?_
      refine am_iinc (v := l1 + nI 1) dX10_layLocksAnew_25 rfl rfl ?_
      refine am_goto (tgt := 10) dX10_layLocksAnew_28 rfl ?_
      exact am_lwJ (lo' := [some (.inr (0, 0)), some (.inl (l1 + nI 1)), none, none]) ⟨rfl, rfl, trivial⟩ (hk10 (l1 + nI 1) _ _ h)
def bX10_layLocksAnew_0 (n : Nat) (I : am_I) : Option (am_I) := am_lt (am_up I 0 9 3 (nI 0)) (fun I1 => bX10_layLocksAnew_10 n am_fu (nI 0) I1)
theorem tX10_layLocksAnew_0 {G : am_G} (hG : am_ok G) {d : Nat} {I : am_I} {r : am_I} (h : bX10_layLocksAnew_0 G.2.2.2.1  I = some r) : am_J G (d + 5) mX10_layLocksAnew am_no (am_E none r) 0 [some (.inr (0, 0)), none, none, none] [] I := by
  unfold bX10_layLocksAnew_0 at h
  refine am_aload_n dX10_layLocksAnew_0 rfl ?_
  refine am_get (v := .inr (0, 9)) dX10_layLocksAnew_1 fl_10_36 (hG.m0 (by decide)) rfl ?_
  refine am_iconst (v := nI 0) dX10_layLocksAnew_4 (by decide) ?_
  refine am_put (x := nI 0) dX10_layLocksAnew_5 fp_10_276 (hG.m0 (by decide)) (Nat.le_of_ble_eq_true rfl) rfl ?_
  obtain ⟨I1, hI1, h⟩ := am_lt_some h
  refine am_st10 hI1 ?_
  refine am_iconst (v := nI 0) dX10_layLocksAnew_8 (by decide) ?_
  refine am_istore_n dX10_layLocksAnew_9 (by decide) ?_
  exact am_lwJ (lo' := [some (.inr (0, 0)), some (.inl (nI 0)), none, none]) ⟨rfl, rfl, trivial⟩ (tX10_layLocksAnew_10 hG h)
def gX10_layLocksAnew (n : Nat) (I : am_I) : Option (am_I) := bX10_layLocksAnew_0 n I
theorem sX10_layLocksAnew {G : am_G} (hG : am_ok G) {d : Nat} {I : am_I} {r : am_I} (h : gX10_layLocksAnew G.2.2.2.1 I = some r) : am_C G (d + 5) mX10_layLocksAnew [.inr (0, 0)] I (am_E none r) :=
  am_of (by decide +kernel) hG.nd (Nat.le_of_ble_eq_true rfl) (am_lwJ (lo' := [some (.inr (0, 0)), none, none, none]) ⟨rfl, trivial⟩ (tX10_layLocksAnew_0 hG h))
def bX10_recover_42 (n : Nat) (I : am_I) : Option ((Option Int32 ⊕ Nat) × am_I) := some (.inr 42, I)
theorem tX10_recover_42 {G : am_G} (hG : am_ok G) {d : Nat} {I : am_I} {r : (Option Int32 ⊕ Nat) × am_I} (h : bX10_recover_42 G.2.2.2.1  I = some r) : am_J G (d + 7) mX10_recover (fun pc _ st J => st = [] ∧ r = (.inr pc, J)) (fun q J => r = (.inl q, J)) 42 [none, none, none, none, none] [] I := by
  unfold bX10_recover_42 at h
  cases h
  exact am_exit ⟨rfl, rfl⟩
def bX10_recover_116 (n : Nat) : Nat → Int32 → Int32 → am_I → Option ((Option Int32 ⊕ Nat) × am_I)
  | 0, _, _, _ => none
  | fu + 1, l2, l3, I => (fun k116 => if (nI n) ≤ l3 then (some (.inl (some l2), I)) else (am_gd (am_inb l3 n) ((gX10_goOn n l3.toNatClampNeg I).bind (fun q2 => k116 l2 (l3 + nI 1) q2)))) (bX10_recover_116 n fu)
theorem tX10_recover_116 {G : am_G} (hG : am_ok G) {d : Nat} : ∀ {fu : Nat} {l2 : Int32} {l3 : Int32} {I : am_I} {r : (Option Int32 ⊕ Nat) × am_I}, bX10_recover_116 G.2.2.2.1 fu l2 l3 I = some r → am_J G (d + 7) mX10_recover (fun pc _ st J => st = [] ∧ r = (.inr pc, J)) (fun q J => r = (.inl q, J)) 116 [some (.inr (0, 0)), none, some (.inl l2), some (.inl l3), none] [] I := by
  intro fu
  induction fu with
  | zero => intro l2 l3 I r h; cases h
  | succ fu ih =>
    intro l2 l3 I r h
    have hk116 : ∀ (l2 : Int32) (l3 : Int32) (I : am_I) (r : (Option Int32 ⊕ Nat) × am_I), bX10_recover_116 G.2.2.2.1 fu l2 l3 I = some r → am_J G (d + 7) mX10_recover (fun pc _ st J => st = [] ∧ r = (.inr pc, J)) (fun q J => r = (.inl q, J)) 116 [some (.inr (0, 0)), none, some (.inl l2), some (.inl l3), none] [] I := fun l2 l3 I r h => ih h
    unfold bX10_recover_116 at h
    generalize bX10_recover_116 G.2.2.2.1 fu = k116 at hk116 h
    dsimp only at h
    refine am_iload_n dX10_recover_116 rfl ?_
    refine am_aload_n dX10_recover_117 rfl ?_
    refine am_get (v := .inr (0, 2)) dX10_recover_118 fl_10_19 (hG.m0 (by decide)) rfl ?_
    refine am_alen3 dX10_recover_121 (hG.m0 (by decide)) rfl ?_
    refine am_icmp_ge (tgt := 141) dX10_recover_122 rfl (fun c => ?_) (fun c => ?_)
    · rw [if_pos c] at h
      refine am_iload_n dX10_recover_141 rfl ?_
      cases h
      exact am_iret dX10_recover_142 rfl rfl rfl
    · rw [if_neg c] at h
      refine am_aload_n dX10_recover_125 rfl ?_
      refine am_aload_n dX10_recover_126 rfl ?_
      refine am_get (v := .inr (0, 2)) dX10_recover_127 fl_10_19 (hG.m0 (by decide)) rfl ?_
      refine am_iload_n dX10_recover_130 rfl ?_
      obtain ⟨g1, h⟩ := am_gd_some h
      refine am_aaldG dX10_recover_131 (hG.m0 (by decide)) rfl g1 hG.n31 ?_
      obtain ⟨q2, hq2, h⟩ := am_bd h
      refine am_callVe (i := 0) (j := 0) (as := [.inr (l3.toNatClampNeg, 40)]) (rest := []) dX10_recover_132 lkX10_goOn ml_X10_110 imX10_goOn seX10_goOn rfl rfl (hG.m0 (by decide)) rfl (Nat.le_of_ble_eq_true rfl) rfl (sX10_goOn hG (am_inb_lt g1) hq2) ?_
      refine am_iinc (v := l3 + nI 1) dX10_recover_135 rfl rfl ?_
      refine am_goto (tgt := 116) dX10_recover_138 rfl ?_
      exact am_lwJ (lo' := [some (.inr (0, 0)), none, some (.inl l2), some (.inl (l3 + nI 1)), none]) ⟨rfl, rfl, rfl, trivial⟩ (hk116 l2 (l3 + nI 1) _ _ h)
def bX10_recover_104 (n : Nat) (k56 : Int32 → Int32 → am_I → Option ((Option Int32 ⊕ Nat) × am_I)) (l2 : Int32) (l3 : Int32) (I : am_I) : Option ((Option Int32 ⊕ Nat) × am_I) := k56 l2 (l3 + nI 1) I
theorem tX10_recover_104 {G : am_G} (hG : am_ok G) {d : Nat} {k56 : Int32 → Int32 → am_I → Option ((Option Int32 ⊕ Nat) × am_I)} (hk56 : ∀ (l2 : Int32) (l3 : Int32) (I : am_I) (r : (Option Int32 ⊕ Nat) × am_I), k56 l2 l3 I = some r → am_J G (d + 7) mX10_recover (fun pc _ st J => st = [] ∧ r = (.inr pc, J)) (fun q J => r = (.inl q, J)) 56 [some (.inr (0, 0)), none, some (.inl l2), some (.inl l3), none] [] I) {l2 : Int32} {l3 : Int32} {I : am_I} {r : (Option Int32 ⊕ Nat) × am_I} (h : bX10_recover_104 G.2.2.2.1 k56 l2 l3  I = some r) : am_J G (d + 7) mX10_recover (fun pc _ st J => st = [] ∧ r = (.inr pc, J)) (fun q J => r = (.inl q, J)) 104 [some (.inr (0, 0)), none, some (.inl l2), some (.inl l3), none] [] I := by
  unfold bX10_recover_104 at h
  refine am_iinc (v := l3 + nI 1) dX10_recover_104 rfl rfl ?_
  refine am_goto (tgt := 56) dX10_recover_107 rfl ?_
  exact am_lwJ (lo' := [some (.inr (0, 0)), none, some (.inl l2), some (.inl (l3 + nI 1)), none]) ⟨rfl, rfl, rfl, trivial⟩ (hk56 l2 (l3 + nI 1) _ _ h)
def bX10_recover_56 (n : Nat) : Nat → Int32 → Int32 → am_I → Option ((Option Int32 ⊕ Nat) × am_I)
  | 0, _, _, _ => none
  | fu + 1, l2, l3, I => (fun k56 => if (nI n) ≤ l3 then ((gX10_layLocksAnew n I).bind (fun q1 => bX10_recover_116 n am_fu l2 (nI 0) q1)) else (am_gd (am_inb l3 n) (if (I l3.toNatClampNeg 40 5) = 0 then (if (I l3.toNatClampNeg 40 6) = 0 then (bX10_recover_104 n k56 l2 l3 I) else ((gX10_replay n l3.toNatClampNeg I).bind (fun q3 => am_lt (am_up q3.2 l3.toNatClampNeg 40 6 (nI 0)) (fun I4 => bX10_recover_104 n k56 (l2 + q3.1) l3 I4)))) else (bX10_recover_104 n k56 l2 l3 I)))) (bX10_recover_56 n fu)
theorem tX10_recover_56 {G : am_G} (hG : am_ok G) {d : Nat} : ∀ {fu : Nat} {l2 : Int32} {l3 : Int32} {I : am_I} {r : (Option Int32 ⊕ Nat) × am_I}, bX10_recover_56 G.2.2.2.1 fu l2 l3 I = some r → am_J G (d + 7) mX10_recover (fun pc _ st J => st = [] ∧ r = (.inr pc, J)) (fun q J => r = (.inl q, J)) 56 [some (.inr (0, 0)), none, some (.inl l2), some (.inl l3), none] [] I := by
  intro fu
  induction fu with
  | zero => intro l2 l3 I r h; cases h
  | succ fu ih =>
    intro l2 l3 I r h
    have hk56 : ∀ (l2 : Int32) (l3 : Int32) (I : am_I) (r : (Option Int32 ⊕ Nat) × am_I), bX10_recover_56 G.2.2.2.1 fu l2 l3 I = some r → am_J G (d + 7) mX10_recover (fun pc _ st J => st = [] ∧ r = (.inr pc, J)) (fun q J => r = (.inl q, J)) 56 [some (.inr (0, 0)), none, some (.inl l2), some (.inl l3), none] [] I := fun l2 l3 I r h => ih h
    unfold bX10_recover_56 at h
    generalize bX10_recover_56 G.2.2.2.1 fu = k56 at hk56 h
    dsimp only at h
    refine am_iload_n dX10_recover_56 rfl ?_
    refine am_aload_n dX10_recover_57 rfl ?_
    refine am_get (v := .inr (0, 2)) dX10_recover_58 fl_10_19 (hG.m0 (by decide)) rfl ?_
    refine am_alen3 dX10_recover_61 (hG.m0 (by decide)) rfl ?_
    refine am_icmp_ge (tgt := 110) dX10_recover_62 rfl (fun c => ?_) (fun c => ?_)
    · rw [if_pos c] at h
      refine am_aload_n dX10_recover_110 rfl ?_
      obtain ⟨q1, hq1, h⟩ := am_bd h
      refine am_callVe (i := 0) (j := 0) (as := []) (rest := []) dX10_recover_111 lkX10_layLocksAnew ml_X10_175 imX10_layLocksAnew seX10_layLocksAnew rfl rfl (hG.m0 (by decide)) rfl (Nat.le_of_ble_eq_true rfl) rfl (sX10_layLocksAnew hG hq1) ?_
      refine am_iconst (v := nI 0) dX10_recover_114 (by decide) ?_
      refine am_istore_n dX10_recover_115 (by decide) ?_
      exact am_lwJ (lo' := [some (.inr (0, 0)), none, some (.inl l2), some (.inl (nI 0)), none]) ⟨rfl, rfl, rfl, trivial⟩ (tX10_recover_116 hG h)
    · rw [if_neg c] at h
      refine am_aload_n dX10_recover_65 rfl ?_
      refine am_get (v := .inr (0, 2)) dX10_recover_66 fl_10_19 (hG.m0 (by decide)) rfl ?_
      refine am_iload_n dX10_recover_69 rfl ?_
      obtain ⟨g2, h⟩ := am_gd_some h
      refine am_aaldG dX10_recover_70 (hG.m0 (by decide)) rfl g2 hG.n31 ?_
      refine am_astore dX10_recover_71 (by decide) ?_
      refine am_aload dX10_recover_73 rfl ?_
      refine am_get (v := .inl (I l3.toNatClampNeg 40 5)) dX10_recover_75 fl_10_80 (hG.mn (am_inb_lt g2) (by decide) (by decide)) rfl ?_
      refine am_if_ne (tgt := 104) dX10_recover_78 rfl (fun c => ?_) (fun c => ?_)
      · rw [if_neg c] at h
        exact am_lwJ (lo' := [some (.inr (0, 0)), none, some (.inl l2), some (.inl l3), none]) ⟨rfl, rfl, rfl, trivial⟩ (tX10_recover_104 hG hk56 h)
      · rw [if_pos c] at h
        refine am_aload dX10_recover_81 rfl ?_
        refine am_get (v := .inl (I l3.toNatClampNeg 40 6)) dX10_recover_83 fl_10_166 (hG.mn (am_inb_lt g2) (by decide) (by decide)) rfl ?_
        refine am_if_eq (tgt := 104) dX10_recover_86 rfl (fun c => ?_) (fun c => ?_)
        · rw [if_pos c] at h
          exact am_lwJ (lo' := [some (.inr (0, 0)), none, some (.inl l2), some (.inl l3), none]) ⟨rfl, rfl, rfl, trivial⟩ (tX10_recover_104 hG hk56 h)
        · rw [if_neg c] at h
          refine am_iload_n dX10_recover_89 rfl ?_
          refine am_aload_n dX10_recover_90 rfl ?_
          refine am_aload dX10_recover_91 rfl ?_
          obtain ⟨q3, hq3, h⟩ := am_bd h
          refine am_callVx (i := 0) (j := 0) (as := [.inr (l3.toNatClampNeg, 40)]) (rest := [.inl l2]) dX10_recover_93 lkX10_replay ml_X10_171 imX10_replay seX10_replay rfl rfl (hG.m0 (by decide)) rfl (Nat.le_of_ble_eq_true rfl) rfl (sX10_replay hG (am_inb_lt g2) hq3) ?_
          refine am_iadd dX10_recover_96 ?_
          refine am_istore_n dX10_recover_97 (by decide) ?_
          refine am_aload dX10_recover_98 rfl ?_
          refine am_iconst (v := nI 0) dX10_recover_100 (by decide) ?_
          refine am_putz (x := nI 0) dX10_recover_101 fp_10_166 (hG.mn (am_inb_lt g2) (by decide) (by decide)) (by decide) (Nat.le_of_ble_eq_true rfl) rfl ?_
          obtain ⟨I4, hI4, h⟩ := am_lt_some h
          refine am_st10 hI4 ?_
          exact am_lwJ (lo' := [some (.inr (0, 0)), none, some (.inl (l2 + q3.1)), some (.inl l3), none]) ⟨rfl, rfl, rfl, trivial⟩ (tX10_recover_104 hG hk56 h)
def bX10_recover_0 (n : Nat) (l1 : Int32) (I : am_I) : Option ((Option Int32 ⊕ Nat) × am_I) := (gX10_isNode n l1 I).bind (fun q1 => if q1.1 = 0 then (some (.inr 8, q1.2)) else (am_gd (am_inb l1 n) (if (q1.2 l1.toNatClampNeg 40 5) = 0 then (am_gd (am_inb l1 n) (if (q1.2 l1.toNatClampNeg 40 6) = 0 then (bX10_recover_42 n q1.2) else (bX10_recover_56 n am_fu (nI 0) (nI 0) q1.2))) else (bX10_recover_42 n q1.2))))
theorem tX10_recover_0 {G : am_G} (hG : am_ok G) {d : Nat} {l1 : Int32} {I : am_I} {r : (Option Int32 ⊕ Nat) × am_I} (h : bX10_recover_0 G.2.2.2.1 l1  I = some r) : am_J G (d + 7) mX10_recover (fun pc _ st J => st = [] ∧ r = (.inr pc, J)) (fun q J => r = (.inl q, J)) 0 [some (.inr (0, 0)), some (.inl l1), none, none, none] [] I := by
  unfold bX10_recover_0 at h
  refine am_aload_n dX10_recover_0 rfl ?_
  refine am_iload_n dX10_recover_1 rfl ?_
  obtain ⟨q1, hq1, h⟩ := am_bd h
  refine am_callVx (i := 0) (j := 0) (as := [.inl l1]) (rest := []) dX10_recover_2 lkX10_isNode ml_X10_65 imX10_isNode seX10_isNode rfl rfl (hG.m0 (by decide)) rfl (Nat.le_of_ble_eq_true rfl) rfl (sX10_isNode hG hq1) ?_
  refine am_if_ne (tgt := 18) dX10_recover_5 rfl (fun c => ?_) (fun c => ?_)
  · rw [if_neg c] at h
    refine am_aload_n dX10_recover_18 rfl ?_
    refine am_get (v := .inr (0, 2)) dX10_recover_19 fl_10_19 (hG.m0 (by decide)) rfl ?_
    refine am_iload_n dX10_recover_22 rfl ?_
    obtain ⟨g2, h⟩ := am_gd_some h
    refine am_aaldG dX10_recover_23 (hG.m0 (by decide)) rfl g2 hG.n31 ?_
    refine am_get (v := .inl (q1.2 l1.toNatClampNeg 40 5)) dX10_recover_24 fl_10_80 (hG.mn (am_inb_lt g2) (by decide) (by decide)) rfl ?_
    refine am_if_ne (tgt := 42) dX10_recover_27 rfl (fun c => ?_) (fun c => ?_)
    · rw [if_neg c] at h
      exact am_lwJ (lo' := [none, none, none, none, none]) trivial (tX10_recover_42 hG h)
    · rw [if_pos c] at h
      refine am_aload_n dX10_recover_30 rfl ?_
      refine am_get (v := .inr (0, 2)) dX10_recover_31 fl_10_19 (hG.m0 (by decide)) rfl ?_
      refine am_iload_n dX10_recover_34 rfl ?_
      obtain ⟨g3, h⟩ := am_gd_some h
      refine am_aaldG dX10_recover_35 (hG.m0 (by decide)) rfl g3 hG.n31 ?_
      refine am_get (v := .inl (q1.2 l1.toNatClampNeg 40 6)) dX10_recover_36 fl_10_166 (hG.mn (am_inb_lt g3) (by decide) (by decide)) rfl ?_
      refine am_if_ne (tgt := 52) dX10_recover_39 rfl (fun c => ?_) (fun c => ?_)
      · rw [if_neg c] at h
        refine am_iconst (v := nI 0) dX10_recover_52 (by decide) ?_
        refine am_istore_n dX10_recover_53 (by decide) ?_
        refine am_iconst (v := nI 0) dX10_recover_54 (by decide) ?_
        refine am_istore_n dX10_recover_55 (by decide) ?_
        exact am_lwJ (lo' := [some (.inr (0, 0)), none, some (.inl (nI 0)), some (.inl (nI 0)), none]) ⟨rfl, rfl, rfl, trivial⟩ (tX10_recover_56 hG h)
      · rw [if_pos c] at h
        exact am_lwJ (lo' := [none, none, none, none, none]) trivial (tX10_recover_42 hG h)
  · rw [if_pos c] at h
    cases h
    exact am_exit ⟨rfl, rfl⟩
def gX10_recover (n : Nat) (l1 : Int32) (I : am_I) : Option ((Option Int32 ⊕ Nat) × am_I) := bX10_recover_0 n l1 I
theorem sX10_recover {G : am_G} (hG : am_ok G) {d : Nat} {l1 : Int32} {I : am_I} {r : (Option Int32 ⊕ Nat) × am_I} (h : gX10_recover G.2.2.2.1 l1 I = some r) : am_J G (d + 7) mX10_recover (fun pc _ st J => st = [] ∧ r = (.inr pc, J)) (fun q J => r = (.inl q, J)) 0 (([.inr (0, 0), .inl l1] : List am_V).map some ++ List.replicate (5 - 2) none) [] I :=
  am_lwJ (lo' := [some (.inr (0, 0)), some (.inl l1), none, none, none]) ⟨rfl, rfl, trivial⟩ (tX10_recover_0 hG h)
def bX10_someDownAndJoined_37 (n : Nat) (k2 : Int32 → am_I → Option (Int32 × am_I)) (l1 : Int32) (I : am_I) : Option (Int32 × am_I) := k2 (l1 + nI 1) I
theorem tX10_someDownAndJoined_37 {G : am_G} (hG : am_ok G) {d : Nat} {k2 : Int32 → am_I → Option (Int32 × am_I)} (hk2 : ∀ (l1 : Int32) (I : am_I) (r : Int32 × am_I), k2 l1 I = some r → am_J G d mX10_someDownAndJoined am_no (am_E (some r.1) r.2) 2 [some (.inr (0, 0)), some (.inl l1)] [] I) {l1 : Int32} {I : am_I} {r : Int32 × am_I} (h : bX10_someDownAndJoined_37 G.2.2.2.1 k2 l1  I = some r) : am_J G d mX10_someDownAndJoined am_no (am_E (some r.1) r.2) 37 [some (.inr (0, 0)), some (.inl l1)] [] I := by
  unfold bX10_someDownAndJoined_37 at h
  refine am_iinc (v := l1 + nI 1) dX10_someDownAndJoined_37 rfl rfl ?_
  refine am_goto (tgt := 2) dX10_someDownAndJoined_40 rfl ?_
  exact am_lwJ (lo' := [some (.inr (0, 0)), some (.inl (l1 + nI 1))]) ⟨rfl, rfl, trivial⟩ (hk2 (l1 + nI 1) _ _ h)
def bX10_someDownAndJoined_2 (n : Nat) : Nat → Int32 → am_I → Option (Int32 × am_I)
  | 0, _, _ => none
  | fu + 1, l1, I => (fun k2 => if (nI n) ≤ l1 then (some (nI 0, I)) else (am_gd (am_inb l1 n) (if (I l1.toNatClampNeg 40 5) = 0 then (am_gd (am_inb l1 n) (if (I l1.toNatClampNeg 40 6) = 0 then (bX10_someDownAndJoined_37 n k2 l1 I) else (some (nI 1, I)))) else (bX10_someDownAndJoined_37 n k2 l1 I)))) (bX10_someDownAndJoined_2 n fu)
theorem tX10_someDownAndJoined_2 {G : am_G} (hG : am_ok G) {d : Nat} : ∀ {fu : Nat} {l1 : Int32} {I : am_I} {r : Int32 × am_I}, bX10_someDownAndJoined_2 G.2.2.2.1 fu l1 I = some r → am_J G d mX10_someDownAndJoined am_no (am_E (some r.1) r.2) 2 [some (.inr (0, 0)), some (.inl l1)] [] I := by
  intro fu
  induction fu with
  | zero => intro l1 I r h; cases h
  | succ fu ih =>
    intro l1 I r h
    have hk2 : ∀ (l1 : Int32) (I : am_I) (r : Int32 × am_I), bX10_someDownAndJoined_2 G.2.2.2.1 fu l1 I = some r → am_J G d mX10_someDownAndJoined am_no (am_E (some r.1) r.2) 2 [some (.inr (0, 0)), some (.inl l1)] [] I := fun l1 I r h => ih h
    unfold bX10_someDownAndJoined_2 at h
    generalize bX10_someDownAndJoined_2 G.2.2.2.1 fu = k2 at hk2 h
    dsimp only at h
    refine am_iload_n dX10_someDownAndJoined_2 rfl ?_
    refine am_aload_n dX10_someDownAndJoined_3 rfl ?_
    refine am_get (v := .inr (0, 2)) dX10_someDownAndJoined_4 fl_10_19 (hG.m0 (by decide)) rfl ?_
    refine am_alen3 dX10_someDownAndJoined_7 (hG.m0 (by decide)) rfl ?_
    refine am_icmp_ge (tgt := 43) dX10_someDownAndJoined_8 rfl (fun c => ?_) (fun c => ?_)
    · rw [if_pos c] at h
      refine am_iconst (v := nI 0) dX10_someDownAndJoined_43 (by decide) ?_
      cases h
      exact am_iret dX10_someDownAndJoined_44 rfl (am_nz (by decide)).1 ⟨rfl, rfl⟩
    · rw [if_neg c] at h
      refine am_aload_n dX10_someDownAndJoined_11 rfl ?_
      refine am_get (v := .inr (0, 2)) dX10_someDownAndJoined_12 fl_10_19 (hG.m0 (by decide)) rfl ?_
      refine am_iload_n dX10_someDownAndJoined_15 rfl ?_
      obtain ⟨g1, h⟩ := am_gd_some h
      refine am_aaldG dX10_someDownAndJoined_16 (hG.m0 (by decide)) rfl g1 hG.n31 ?_
      refine am_get (v := .inl (I l1.toNatClampNeg 40 5)) dX10_someDownAndJoined_17 fl_10_80 (hG.mn (am_inb_lt g1) (by decide) (by decide)) rfl ?_
      refine am_if_ne (tgt := 37) dX10_someDownAndJoined_20 rfl (fun c => ?_) (fun c => ?_)
      · rw [if_neg c] at h
        exact am_lwJ (lo' := [some (.inr (0, 0)), some (.inl l1)]) ⟨rfl, rfl, trivial⟩ (tX10_someDownAndJoined_37 hG hk2 h)
      · rw [if_pos c] at h
        refine am_aload_n dX10_someDownAndJoined_23 rfl ?_
        refine am_get (v := .inr (0, 2)) dX10_someDownAndJoined_24 fl_10_19 (hG.m0 (by decide)) rfl ?_
        refine am_iload_n dX10_someDownAndJoined_27 rfl ?_
        obtain ⟨g2, h⟩ := am_gd_some h
        refine am_aaldG dX10_someDownAndJoined_28 (hG.m0 (by decide)) rfl g2 hG.n31 ?_
        refine am_get (v := .inl (I l1.toNatClampNeg 40 6)) dX10_someDownAndJoined_29 fl_10_166 (hG.mn (am_inb_lt g2) (by decide) (by decide)) rfl ?_
        refine am_if_eq (tgt := 37) dX10_someDownAndJoined_32 rfl (fun c => ?_) (fun c => ?_)
        · rw [if_pos c] at h
          exact am_lwJ (lo' := [some (.inr (0, 0)), some (.inl l1)]) ⟨rfl, rfl, trivial⟩ (tX10_someDownAndJoined_37 hG hk2 h)
        · rw [if_neg c] at h
          refine am_iconst (v := nI 1) dX10_someDownAndJoined_35 (by decide) ?_
          cases h
          exact am_iret dX10_someDownAndJoined_36 rfl (am_nz (by decide)).1 ⟨rfl, rfl⟩
def bX10_someDownAndJoined_0 (n : Nat) (I : am_I) : Option (Int32 × am_I) := bX10_someDownAndJoined_2 n am_fu (nI 0) I
theorem tX10_someDownAndJoined_0 {G : am_G} (hG : am_ok G) {d : Nat} {I : am_I} {r : Int32 × am_I} (h : bX10_someDownAndJoined_0 G.2.2.2.1  I = some r) : am_J G d mX10_someDownAndJoined am_no (am_E (some r.1) r.2) 0 [some (.inr (0, 0)), none] [] I := by
  unfold bX10_someDownAndJoined_0 at h
  refine am_iconst (v := nI 0) dX10_someDownAndJoined_0 (by decide) ?_
  refine am_istore_n dX10_someDownAndJoined_1 (by decide) ?_
  exact am_lwJ (lo' := [some (.inr (0, 0)), some (.inl (nI 0))]) ⟨rfl, rfl, trivial⟩ (tX10_someDownAndJoined_2 hG h)
def gX10_someDownAndJoined (n : Nat) (I : am_I) : Option (Int32 × am_I) := bX10_someDownAndJoined_0 n I
theorem sX10_someDownAndJoined {G : am_G} (hG : am_ok G) {d : Nat} {I : am_I} {r : Int32 × am_I} (h : gX10_someDownAndJoined G.2.2.2.1 I = some r) : am_C G d mX10_someDownAndJoined [.inr (0, 0)] I (am_E (some r.1) r.2) :=
  am_of (by decide +kernel) hG.nd (Nat.le_of_ble_eq_true rfl) (am_lwJ (lo' := [some (.inr (0, 0)), none]) ⟨rfl, trivial⟩ (tX10_someDownAndJoined_0 hG h))
def bX10_start_46 (n : Nat) (I : am_I) : Option ((Option Int32 ⊕ Nat) × am_I) := some (.inr 46, I)
theorem tX10_start_46 {G : am_G} (hG : am_ok G) {d : Nat} {I : am_I} {r : (Option Int32 ⊕ Nat) × am_I} (h : bX10_start_46 G.2.2.2.1  I = some r) : am_J G (d + 7) mX10_start (fun pc _ st J => st = [] ∧ r = (.inr pc, J)) (fun q J => r = (.inl q, J)) 46 [none, none, none, none] [] I := by
  unfold bX10_start_46 at h
  cases h
  exact am_exit ⟨rfl, rfl⟩
def bX10_start_72 (n : Nat) : Nat → Int32 → am_I → Option ((Option Int32 ⊕ Nat) × am_I)
  | 0, _, _ => none
  | fu + 1, l3, I => (fun k72 => if (nI n) ≤ l3 then (some (.inl none, I)) else (am_gd (am_inb l3 n) ((gX10_goOn n l3.toNatClampNeg I).bind (fun q2 => k72 (l3 + nI 1) q2)))) (bX10_start_72 n fu)
theorem tX10_start_72 {G : am_G} (hG : am_ok G) {d : Nat} : ∀ {fu : Nat} {l3 : Int32} {I : am_I} {r : (Option Int32 ⊕ Nat) × am_I}, bX10_start_72 G.2.2.2.1 fu l3 I = some r → am_J G (d + 7) mX10_start (fun pc _ st J => st = [] ∧ r = (.inr pc, J)) (fun q J => r = (.inl q, J)) 72 [some (.inr (0, 0)), none, none, some (.inl l3)] [] I := by
  intro fu
  induction fu with
  | zero => intro l3 I r h; cases h
  | succ fu ih =>
    intro l3 I r h
    have hk72 : ∀ (l3 : Int32) (I : am_I) (r : (Option Int32 ⊕ Nat) × am_I), bX10_start_72 G.2.2.2.1 fu l3 I = some r → am_J G (d + 7) mX10_start (fun pc _ st J => st = [] ∧ r = (.inr pc, J)) (fun q J => r = (.inl q, J)) 72 [some (.inr (0, 0)), none, none, some (.inl l3)] [] I := fun l3 I r h => ih h
    unfold bX10_start_72 at h
    generalize bX10_start_72 G.2.2.2.1 fu = k72 at hk72 h
    dsimp only at h
    refine am_iload_n dX10_start_72 rfl ?_
    refine am_aload_n dX10_start_73 rfl ?_
    refine am_get (v := .inr (0, 2)) dX10_start_74 fl_10_19 (hG.m0 (by decide)) rfl ?_
    refine am_alen3 dX10_start_77 (hG.m0 (by decide)) rfl ?_
    refine am_icmp_ge (tgt := 97) dX10_start_78 rfl (fun c => ?_) (fun c => ?_)
    · rw [if_pos c] at h
      cases h
      exact am_vret dX10_start_97 rfl rfl
    · rw [if_neg c] at h
      refine am_aload_n dX10_start_81 rfl ?_
      refine am_aload_n dX10_start_82 rfl ?_
      refine am_get (v := .inr (0, 2)) dX10_start_83 fl_10_19 (hG.m0 (by decide)) rfl ?_
      refine am_iload_n dX10_start_86 rfl ?_
      obtain ⟨g1, h⟩ := am_gd_some h
      refine am_aaldG dX10_start_87 (hG.m0 (by decide)) rfl g1 hG.n31 ?_
      obtain ⟨q2, hq2, h⟩ := am_bd h
      refine am_callVe (i := 0) (j := 0) (as := [.inr (l3.toNatClampNeg, 40)]) (rest := []) dX10_start_88 lkX10_goOn ml_X10_110 imX10_goOn seX10_goOn rfl rfl (hG.m0 (by decide)) rfl (Nat.le_of_ble_eq_true rfl) rfl (sX10_goOn hG (am_inb_lt g1) hq2) ?_
      refine am_iinc (v := l3 + nI 1) dX10_start_91 rfl rfl ?_
      refine am_goto (tgt := 72) dX10_start_94 rfl ?_
      exact am_lwJ (lo' := [some (.inr (0, 0)), none, none, some (.inl (l3 + nI 1))]) ⟨rfl, rfl, trivial⟩ (hk72 (l3 + nI 1) _ _ h)
def bX10_start_0 (n : Nat) (l1 : Int32) (I : am_I) : Option ((Option Int32 ⊕ Nat) × am_I) := (gX10_isNode n l1 I).bind (fun q1 => if q1.1 = 0 then (some (.inr 8, q1.2)) else (am_gd (am_inb l1 n) (if (q1.2 l1.toNatClampNeg 40 5) = 0 then (if (q1.2 l1.toNatClampNeg 40 6) = 0 then ((gX10_someDownAndJoined n q1.2).bind (fun q3 => if q3.1 = 0 then (am_lt (am_up q3.2 l1.toNatClampNeg 40 5 (nI 1)) (fun I4 => am_lt (am_up I4 l1.toNatClampNeg 40 6 (nI 1)) (fun I5 => (gX10_layLocksAnew n I5).bind (fun q6 => bX10_start_72 n am_fu (nI 0) q6)))) else (bX10_start_46 n q3.2))) else (bX10_start_46 n q1.2)) else (bX10_start_46 n q1.2))))
theorem tX10_start_0 {G : am_G} (hG : am_ok G) {d : Nat} {l1 : Int32} {I : am_I} {r : (Option Int32 ⊕ Nat) × am_I} (h : bX10_start_0 G.2.2.2.1 l1  I = some r) : am_J G (d + 7) mX10_start (fun pc _ st J => st = [] ∧ r = (.inr pc, J)) (fun q J => r = (.inl q, J)) 0 [some (.inr (0, 0)), some (.inl l1), none, none] [] I := by
  unfold bX10_start_0 at h
  refine am_aload_n dX10_start_0 rfl ?_
  refine am_iload_n dX10_start_1 rfl ?_
  obtain ⟨q1, hq1, h⟩ := am_bd h
  refine am_callVx (i := 0) (j := 0) (as := [.inl l1]) (rest := []) dX10_start_2 lkX10_isNode ml_X10_65 imX10_isNode seX10_isNode rfl rfl (hG.m0 (by decide)) rfl (Nat.le_of_ble_eq_true rfl) rfl (sX10_isNode hG hq1) ?_
  refine am_if_ne (tgt := 18) dX10_start_5 rfl (fun c => ?_) (fun c => ?_)
  · rw [if_neg c] at h
    refine am_aload_n dX10_start_18 rfl ?_
    refine am_get (v := .inr (0, 2)) dX10_start_19 fl_10_19 (hG.m0 (by decide)) rfl ?_
    refine am_iload_n dX10_start_22 rfl ?_
    obtain ⟨g2, h⟩ := am_gd_some h
    refine am_aaldG dX10_start_23 (hG.m0 (by decide)) rfl g2 hG.n31 ?_
    refine am_astore_n dX10_start_24 (by decide) ?_
    refine am_aload_n dX10_start_25 rfl ?_
    refine am_get (v := .inl (q1.2 l1.toNatClampNeg 40 5)) dX10_start_26 fl_10_80 (hG.mn (am_inb_lt g2) (by decide) (by decide)) rfl ?_
    refine am_if_ne (tgt := 46) dX10_start_29 rfl (fun c => ?_) (fun c => ?_)
    · rw [if_neg c] at h
      exact am_lwJ (lo' := [none, none, none, none]) trivial (tX10_start_46 hG h)
    · rw [if_pos c] at h
      refine am_aload_n dX10_start_32 rfl ?_
      refine am_get (v := .inl (q1.2 l1.toNatClampNeg 40 6)) dX10_start_33 fl_10_166 (hG.mn (am_inb_lt g2) (by decide) (by decide)) rfl ?_
      refine am_if_ne (tgt := 46) dX10_start_36 rfl (fun c => ?_) (fun c => ?_)
      · rw [if_neg c] at h
        exact am_lwJ (lo' := [none, none, none, none]) trivial (tX10_start_46 hG h)
      · rw [if_pos c] at h
        refine am_aload_n dX10_start_39 rfl ?_
        obtain ⟨q3, hq3, h⟩ := am_bd h
        refine am_callVx (i := 0) (j := 0) (as := []) (rest := []) dX10_start_40 lkX10_someDownAndJoined ml_X10_178 imX10_someDownAndJoined seX10_someDownAndJoined rfl rfl (hG.m0 (by decide)) rfl (Nat.le_of_ble_eq_true rfl) rfl (sX10_someDownAndJoined hG hq3) ?_
        refine am_if_eq (tgt := 56) dX10_start_43 rfl (fun c => ?_) (fun c => ?_)
        · rw [if_pos c] at h
          refine am_aload_n dX10_start_56 rfl ?_
          refine am_iconst (v := nI 1) dX10_start_57 (by decide) ?_
          refine am_putz (x := nI 1) dX10_start_58 fp_10_80 (hG.mn (am_inb_lt g2) (by decide) (by decide)) (by decide) (Nat.le_of_ble_eq_true rfl) rfl ?_
          obtain ⟨I4, hI4, h⟩ := am_lt_some h
          refine am_st10 hI4 ?_
          refine am_aload_n dX10_start_61 rfl ?_
          refine am_iconst (v := nI 1) dX10_start_62 (by decide) ?_
          refine am_putz (x := nI 1) dX10_start_63 fp_10_166 (hG.mn (am_inb_lt g2) (by decide) (by decide)) (by decide) (Nat.le_of_ble_eq_true rfl) rfl ?_
          obtain ⟨I5, hI5, h⟩ := am_lt_some h
          refine am_st10 hI5 ?_
          refine am_aload_n dX10_start_66 rfl ?_
          obtain ⟨q6, hq6, h⟩ := am_bd h
          refine am_callVe (i := 0) (j := 0) (as := []) (rest := []) dX10_start_67 lkX10_layLocksAnew ml_X10_175 imX10_layLocksAnew seX10_layLocksAnew rfl rfl (hG.m0 (by decide)) rfl (Nat.le_of_ble_eq_true rfl) rfl (sX10_layLocksAnew hG hq6) ?_
          refine am_iconst (v := nI 0) dX10_start_70 (by decide) ?_
          refine am_istore_n dX10_start_71 (by decide) ?_
          exact am_lwJ (lo' := [some (.inr (0, 0)), none, none, some (.inl (nI 0))]) ⟨rfl, rfl, trivial⟩ (tX10_start_72 hG h)
        · rw [if_neg c] at h
          exact am_lwJ (lo' := [none, none, none, none]) trivial (tX10_start_46 hG h)
  · rw [if_pos c] at h
    cases h
    exact am_exit ⟨rfl, rfl⟩
def gX10_start (n : Nat) (l1 : Int32) (I : am_I) : Option ((Option Int32 ⊕ Nat) × am_I) := bX10_start_0 n l1 I
theorem sX10_start {G : am_G} (hG : am_ok G) {d : Nat} {l1 : Int32} {I : am_I} {r : (Option Int32 ⊕ Nat) × am_I} (h : gX10_start G.2.2.2.1 l1 I = some r) : am_J G (d + 7) mX10_start (fun pc _ st J => st = [] ∧ r = (.inr pc, J)) (fun q J => r = (.inl q, J)) 0 (([.inr (0, 0), .inl l1] : List am_V).map some ++ List.replicate (4 - 2) none) [] I :=
  am_lwJ (lo' := [some (.inr (0, 0)), some (.inl l1), none, none]) ⟨rfl, rfl, trivial⟩ (tX10_start_0 hG h)
def bX10_result_17 (n : Nat) (I : am_I) : Option ((Option Int32 ⊕ Nat) × am_I) := some (.inr 17, I)
theorem tX10_result_17 {G : am_G} (hG : am_ok G) {d : Nat} {I : am_I} {r : (Option Int32 ⊕ Nat) × am_I} (h : bX10_result_17 G.2.2.2.1  I = some r) : am_J G (d + 1) mX10_result (fun pc _ st J => st = [] ∧ r = (.inr pc, J)) (fun q J => r = (.inl q, J)) 17 [none, none, none, none] [] I := by
  unfold bX10_result_17 at h
  cases h
  exact am_exit ⟨rfl, rfl⟩
def bX10_result_102 (n : Nat) (s0 : Int32) (I : am_I) : Option ((Option Int32 ⊕ Nat) × am_I) := some (.inl (some s0), I)
theorem tX10_result_102 {G : am_G} (hG : am_ok G) {d : Nat} {s0 : Int32} {I : am_I} {r : (Option Int32 ⊕ Nat) × am_I} (h : bX10_result_102 G.2.2.2.1 s0  I = some r) : am_J G (d + 1) mX10_result (fun pc _ st J => st = [] ∧ r = (.inr pc, J)) (fun q J => r = (.inl q, J)) 102 [none, none, none, none] [.inl s0] I := by
  unfold bX10_result_102 at h
  cases h
  exact am_iret dX10_result_102 rfl rfl rfl
def bX10_result_0 (n : Nat) (l1 : Int32) (l2 : Int32) (I : am_I) : Option ((Option Int32 ⊕ Nat) × am_I) := (gX10_isNode n l1 I).bind (fun q1 => if q1.1 = 0 then (bX10_result_17 n q1.2) else (if l2 < 0 then (bX10_result_17 n q1.2) else (if l2 ≤ (nI 4) then (am_gd (am_inb l1 n) (if l2 = nI 0 then (some (.inl (some (q1.2 l1.toNatClampNeg 55 5)), q1.2)) else (if l2 = nI 1 then (some (.inl (some (q1.2 l1.toNatClampNeg 55 6)), q1.2)) else (if l2 = nI 2 then (if (q1.2 l1.toNatClampNeg 55 5) = (nI 1) then (bX10_result_102 n ((q1.2 0 0 7) - (q1.2 l1.toNatClampNeg 55 7)) q1.2) else (bX10_result_102 n (q1.2 l1.toNatClampNeg 55 8) q1.2)) else (if l2 = nI 3 then (some (.inl (some (q1.2 l1.toNatClampNeg 55 9)), q1.2)) else (some (.inl (some (q1.2 l1.toNatClampNeg 55 10)), q1.2))))))) else (bX10_result_17 n q1.2))))
theorem tX10_result_0 {G : am_G} (hG : am_ok G) {d : Nat} {l1 : Int32} {l2 : Int32} {I : am_I} {r : (Option Int32 ⊕ Nat) × am_I} (h : bX10_result_0 G.2.2.2.1 l1 l2  I = some r) : am_J G (d + 1) mX10_result (fun pc _ st J => st = [] ∧ r = (.inr pc, J)) (fun q J => r = (.inl q, J)) 0 [some (.inr (0, 0)), some (.inl l1), some (.inl l2), none] [] I := by
  unfold bX10_result_0 at h
  refine am_aload_n dX10_result_0 rfl ?_
  refine am_iload_n dX10_result_1 rfl ?_
  obtain ⟨q1, hq1, h⟩ := am_bd h
  refine am_callVx (i := 0) (j := 0) (as := [.inl l1]) (rest := []) dX10_result_2 lkX10_isNode ml_X10_65 imX10_isNode seX10_isNode rfl rfl (hG.m0 (by decide)) rfl (Nat.le_of_ble_eq_true rfl) rfl (sX10_isNode hG hq1) ?_
  refine am_if_eq (tgt := 17) dX10_result_5 rfl (fun c => ?_) (fun c => ?_)
  · rw [if_pos c] at h
    exact am_lwJ (lo' := [none, none, none, none]) trivial (tX10_result_17 hG h)
  · rw [if_neg c] at h
    refine am_iload_n dX10_result_8 rfl ?_
    refine am_if_lt (tgt := 17) dX10_result_9 rfl (fun c => ?_) (fun c => ?_)
    · rw [if_pos c] at h
      exact am_lwJ (lo' := [none, none, none, none]) trivial (tX10_result_17 hG h)
    · rw [if_neg c] at h
      refine am_iload_n dX10_result_12 rfl ?_
      refine am_iconst (v := nI 4) dX10_result_13 (by decide) ?_
      refine am_icmp_le (tgt := 27) dX10_result_14 rfl (fun c => ?_) (fun c => ?_)
      · rw [if_pos c] at h
        refine am_aload_n dX10_result_27 rfl ?_
        refine am_get (v := .inr (0, 2)) dX10_result_28 fl_10_19 (hG.m0 (by decide)) rfl ?_
        refine am_iload_n dX10_result_31 rfl ?_
        obtain ⟨g2, h⟩ := am_gd_some h
        refine am_aaldG dX10_result_32 (hG.m0 (by decide)) rfl g2 hG.n31 ?_
        refine am_get (v := .inr (l1.toNatClampNeg, 55)) dX10_result_33 fl_10_84 (hG.mn (am_inb_lt g2) (by decide) (by decide)) rfl ?_
        refine am_astore_n dX10_result_36 (by decide) ?_
        refine am_iload_n dX10_result_37 rfl ?_
        rcases am_sw 3 l2 with ⟨m, hm, hx⟩ | hx
        · match m, hm, hx with
          | 0, _, hx =>
            rw [if_pos hx] at h
            refine am_tabIn (off := 30) (tgt := 68) dX10_result_38 (by rw [hx]; decide) (by rw [hx]; decide) (by rw [hx]; rfl) rfl ?_
            refine am_aload_n dX10_result_68 rfl ?_
            refine am_get (v := .inl (q1.2 l1.toNatClampNeg 55 5)) dX10_result_69 fl_10_88 (hG.mn (am_inb_lt g2) (by decide) (by decide)) rfl ?_
            cases h
            exact am_iret dX10_result_72 rfl rfl rfl
          | 1, _, hx =>
            rw [if_neg (show ¬ l2 = nI 0 by rw [hx]; decide)] at h
            rw [if_pos hx] at h
            refine am_tabIn (off := 35) (tgt := 73) dX10_result_38 (by rw [hx]; decide) (by rw [hx]; decide) (by rw [hx]; rfl) rfl ?_
            refine am_aload_n dX10_result_73 rfl ?_
            refine am_get (v := .inl (q1.2 l1.toNatClampNeg 55 6)) dX10_result_74 fl_10_186 (hG.mn (am_inb_lt g2) (by decide) (by decide)) rfl ?_
            cases h
            exact am_iret dX10_result_77 rfl rfl rfl
          | 2, _, hx =>
            rw [if_neg (show ¬ l2 = nI 0 by rw [hx]; decide), if_neg (show ¬ l2 = nI 1 by rw [hx]; decide)] at h
            rw [if_pos hx] at h
            refine am_tabIn (off := 40) (tgt := 78) dX10_result_38 (by rw [hx]; decide) (by rw [hx]; decide) (by rw [hx]; rfl) rfl ?_
            refine am_aload_n dX10_result_78 rfl ?_
            refine am_get (v := .inl (q1.2 l1.toNatClampNeg 55 5)) dX10_result_79 fl_10_88 (hG.mn (am_inb_lt g2) (by decide) (by decide)) rfl ?_
            refine am_iconst (v := nI 1) dX10_result_82 (by decide) ?_
            refine am_icmp_ne (tgt := 98) dX10_result_83 rfl (fun c => ?_) (fun c => ?_)
            · rw [if_neg c] at h
              refine am_aload_n dX10_result_98 rfl ?_
              refine am_get (v := .inl (q1.2 l1.toNatClampNeg 55 8)) dX10_result_99 fl_10_192 (hG.mn (am_inb_lt g2) (by decide) (by decide)) rfl ?_
              exact am_lwJ (lo' := [none, none, none, none]) trivial (tX10_result_102 hG h)
            · rw [if_pos c] at h
              refine am_aload_n dX10_result_86 rfl ?_
              refine am_get (v := .inl (q1.2 0 0 7)) dX10_result_87 fl_10_99 (hG.m0 (by decide)) rfl ?_
              refine am_aload_n dX10_result_90 rfl ?_
              refine am_get (v := .inl (q1.2 l1.toNatClampNeg 55 7)) dX10_result_91 fl_10_189 (hG.mn (am_inb_lt g2) (by decide) (by decide)) rfl ?_
              refine am_isub dX10_result_94 ?_
              refine am_goto (tgt := 102) dX10_result_95 rfl ?_
              exact am_lwJ (lo' := [none, none, none, none]) trivial (tX10_result_102 hG h)
          | 3, _, hx =>
            rw [if_neg (show ¬ l2 = nI 0 by rw [hx]; decide), if_neg (show ¬ l2 = nI 1 by rw [hx]; decide), if_neg (show ¬ l2 = nI 2 by rw [hx]; decide)] at h
            rw [if_pos hx] at h
            refine am_tabIn (off := 65) (tgt := 103) dX10_result_38 (by rw [hx]; decide) (by rw [hx]; decide) (by rw [hx]; rfl) rfl ?_
            refine am_aload_n dX10_result_103 rfl ?_
            refine am_get (v := .inl (q1.2 l1.toNatClampNeg 55 9)) dX10_result_104 fl_10_195 (hG.mn (am_inb_lt g2) (by decide) (by decide)) rfl ?_
            cases h
            exact am_iret dX10_result_107 rfl rfl rfl
          | m + 4, hm, _ => exact absurd hm (by omega)
        · rw [if_neg (am_swd (k := 0) hx (by decide) (by decide)), if_neg (am_swd (k := 1) hx (by decide) (by decide)), if_neg (am_swd (k := 2) hx (by decide) (by decide)), if_neg (am_swd (k := 3) hx (by decide) (by decide))] at h
          refine am_tabOut (tgt := 108) dX10_result_38 (by omega) rfl ?_
          refine am_aload_n dX10_result_108 rfl ?_
          refine am_get (v := .inl (q1.2 l1.toNatClampNeg 55 10)) dX10_result_109 fl_10_198 (hG.mn (am_inb_lt g2) (by decide) (by decide)) rfl ?_
          cases h
          exact am_iret dX10_result_112 rfl rfl rfl
      · rw [if_neg c] at h
        exact am_lwJ (lo' := [none, none, none, none]) trivial (tX10_result_17 hG h)
def gX10_result (n : Nat) (l1 : Int32) (l2 : Int32) (I : am_I) : Option ((Option Int32 ⊕ Nat) × am_I) := bX10_result_0 n l1 l2 I
theorem sX10_result {G : am_G} (hG : am_ok G) {d : Nat} {l1 : Int32} {l2 : Int32} {I : am_I} {r : (Option Int32 ⊕ Nat) × am_I} (h : gX10_result G.2.2.2.1 l1 l2 I = some r) : am_J G (d + 1) mX10_result (fun pc _ st J => st = [] ∧ r = (.inr pc, J)) (fun q J => r = (.inl q, J)) 0 (([.inr (0, 0), .inl l1, .inl l2] : List am_V).map some ++ List.replicate (4 - 3) none) [] I :=
  am_lwJ (lo' := [some (.inr (0, 0)), some (.inl l1), some (.inl l2), none]) ⟨rfl, rfl, rfl, trivial⟩ (tX10_result_0 hG h)
def bX0_kept_0 (n : Nat) (I : am_I) : Option (Int32 × am_I) := some ((if (I 0 13 1) ≤ (nI 400) then (I 0 13 1) else (nI 400)), I)
theorem tX0_kept_0 {G : am_G} (hG : am_ok G) {d : Nat} {I : am_I} {r : Int32 × am_I} (h : bX0_kept_0 G.2.2.2.1  I = some r) : am_J G (d + 1) mX0_kept am_no (am_E (some r.1) r.2) 0 [some (.inr (0, 13))] [] I := by
  unfold bX0_kept_0 at h
  refine am_aload_n dX0_kept_0 rfl ?_
  refine am_get (v := .inl (I 0 13 1)) dX0_kept_1 fl_0_15 (hG.m0 (by decide)) rfl ?_
  refine am_sipush (v := nI 400) dX0_kept_4 (by decide) ?_
  refine am_callSx (as := [.inl (I 0 13 1), .inl (nI 400)]) (rest := []) dX0_kept_7 lkJ9_min_7cf53 ml_X0_19 isJ9_min_7cf53 rfl (Nat.le_of_ble_eq_true rfl) rfl (c_min hG.nd (I 0 13 1) (nI 400) I) ?_
  cases h
  exact am_iret dX0_kept_10 rfl rfl ⟨rfl, rfl⟩
def gX0_kept (n : Nat) (I : am_I) : Option (Int32 × am_I) := bX0_kept_0 n I
theorem sX0_kept {G : am_G} (hG : am_ok G) {d : Nat} {I : am_I} {r : Int32 × am_I} (h : gX0_kept G.2.2.2.1 I = some r) : am_C G (d + 1) mX0_kept [.inr (0, 13)] I (am_E (some r.1) r.2) :=
  am_of (by decide +kernel) hG.nd (Nat.le_of_ble_eq_true rfl) (am_lwJ (lo' := [some (.inr (0, 13))]) ⟨rfl, trivial⟩ (tX0_kept_0 hG h))
def bX10_history_15 (n : Nat) (I : am_I) : Option ((Option Int32 ⊕ Nat) × am_I) := some (.inr 15, I)
theorem tX10_history_15 {G : am_G} (hG : am_ok G) {d : Nat} {I : am_I} {r : (Option Int32 ⊕ Nat) × am_I} (h : bX10_history_15 G.2.2.2.1  I = some r) : am_J G (d + 2) mX10_history (fun pc _ st J => st = [] ∧ r = (.inr pc, J)) (fun q J => r = (.inl q, J)) 15 [none, none, none] [] I := by
  unfold bX10_history_15 at h
  cases h
  exact am_exit ⟨rfl, rfl⟩
def bX10_history_35 (n : Nat) (I : am_I) : Option ((Option Int32 ⊕ Nat) × am_I) := some (.inr 35, I)
theorem tX10_history_35 {G : am_G} (hG : am_ok G) {d : Nat} {I : am_I} {r : (Option Int32 ⊕ Nat) × am_I} (h : bX10_history_35 G.2.2.2.1  I = some r) : am_J G (d + 2) mX10_history (fun pc _ st J => st = [] ∧ r = (.inr pc, J)) (fun q J => r = (.inl q, J)) 35 [none, none, none] [] I := by
  unfold bX10_history_35 at h
  cases h
  exact am_exit ⟨rfl, rfl⟩
def bX10_history_0 (n : Nat) (l1 : Int32) (l2 : Int32) (I : am_I) : Option ((Option Int32 ⊕ Nat) × am_I) := if l1 < 0 then (bX10_history_15 n I) else ((gX0_kept n I).bind (fun q1 => if l1 < q1.1 then (if l2 < 0 then (bX10_history_35 n q1.2) else (if l2 < (nI 10) then (am_gd (am_inb ((l1 * (nI 10)) + l2) 4000) (some (.inl (some (q1.2 0 14 (((l1 * (nI 10)) + l2).toNatClampNeg))), q1.2))) else (bX10_history_35 n q1.2))) else (bX10_history_15 n q1.2)))
theorem tX10_history_0 {G : am_G} (hG : am_ok G) {d : Nat} {l1 : Int32} {l2 : Int32} {I : am_I} {r : (Option Int32 ⊕ Nat) × am_I} (h : bX10_history_0 G.2.2.2.1 l1 l2  I = some r) : am_J G (d + 2) mX10_history (fun pc _ st J => st = [] ∧ r = (.inr pc, J)) (fun q J => r = (.inl q, J)) 0 [some (.inr (0, 0)), some (.inl l1), some (.inl l2)] [] I := by
  unfold bX10_history_0 at h
  refine am_iload_n dX10_history_0 rfl ?_
  refine am_if_lt (tgt := 15) dX10_history_1 rfl (fun c => ?_) (fun c => ?_)
  · rw [if_pos c] at h
    exact am_lwJ (lo' := [none, none, none]) trivial (tX10_history_15 hG h)
  · rw [if_neg c] at h
    refine am_iload_n dX10_history_4 rfl ?_
    refine am_aload_n dX10_history_5 rfl ?_
    refine am_get (v := .inr (0, 13)) dX10_history_6 fl_10_43 (hG.m0 (by decide)) rfl ?_
    obtain ⟨q1, hq1, h⟩ := am_bd h
    refine am_callVx (i := 0) (j := 13) (as := []) (rest := [.inl l1]) dX10_history_9 lkX0_kept ml_X10_201 imX0_kept seX0_kept rfl rfl (hG.m0 (by decide)) rfl (Nat.le_of_ble_eq_true rfl) rfl (sX0_kept hG hq1) ?_
    refine am_icmp_lt (tgt := 25) dX10_history_12 rfl (fun c => ?_) (fun c => ?_)
    · rw [if_pos c] at h
      refine am_iload_n dX10_history_25 rfl ?_
      refine am_if_lt (tgt := 35) dX10_history_26 rfl (fun c => ?_) (fun c => ?_)
      · rw [if_pos c] at h
        exact am_lwJ (lo' := [none, none, none]) trivial (tX10_history_35 hG h)
      · rw [if_neg c] at h
        refine am_iload_n dX10_history_29 rfl ?_
        refine am_bipush (v := nI 10) dX10_history_30 (by decide) ?_
        refine am_icmp_lt (tgt := 45) dX10_history_32 rfl (fun c => ?_) (fun c => ?_)
        · rw [if_pos c] at h
          refine am_aload_n dX10_history_45 rfl ?_
          refine am_get (v := .inr (0, 13)) dX10_history_46 fl_10_43 (hG.m0 (by decide)) rfl ?_
          refine am_get (v := .inr (0, 14)) dX10_history_49 fl_10_212 (hG.m0 (by decide)) rfl ?_
          refine am_iload_n dX10_history_52 rfl ?_
          refine am_bipush (v := nI 10) dX10_history_53 (by decide) ?_
          refine am_imul dX10_history_55 ?_
          refine am_iload_n dX10_history_56 rfl ?_
          refine am_iadd dX10_history_57 ?_
          obtain ⟨g2, h⟩ := am_gd_some h
          refine am_ialdG dX10_history_58 (hG.m0 (by decide)) rfl g2 (show 4000 < 2 ^ 31 by decide) ?_
          cases h
          exact am_iret dX10_history_59 rfl rfl rfl
        · rw [if_neg c] at h
          exact am_lwJ (lo' := [none, none, none]) trivial (tX10_history_35 hG h)
    · rw [if_neg c] at h
      exact am_lwJ (lo' := [none, none, none]) trivial (tX10_history_15 hG h)
def gX10_history (n : Nat) (l1 : Int32) (l2 : Int32) (I : am_I) : Option ((Option Int32 ⊕ Nat) × am_I) := bX10_history_0 n l1 l2 I
theorem sX10_history {G : am_G} (hG : am_ok G) {d : Nat} {l1 : Int32} {l2 : Int32} {I : am_I} {r : (Option Int32 ⊕ Nat) × am_I} (h : gX10_history G.2.2.2.1 l1 l2 I = some r) : am_J G (d + 2) mX10_history (fun pc _ st J => st = [] ∧ r = (.inr pc, J)) (fun q J => r = (.inl q, J)) 0 (([.inr (0, 0), .inl l1, .inl l2] : List am_V).map some ++ List.replicate (3 - 3) none) [] I :=
  am_lwJ (lo' := [some (.inr (0, 0)), some (.inl l1), some (.inl l2)]) ⟨rfl, rfl, rfl, trivial⟩ (tX10_history_0 hG h)
def bX10_word_0 (n : Nat) (l1 : Int32) (l2 : Int32) (I : am_I) : Option ((Option Int32 ⊕ Nat) × am_I) := (gX10_isWord n l1 l2 I).bind (fun q1 => if q1.1 = 0 then (some (.inr 8, q1.2)) else (am_gd (am_inb ((l1 * (nI 16)) + l2) 10240) (some (.inl (some (q1.2 0 1 (((l1 * (nI 16)) + l2).toNatClampNeg))), q1.2))))
theorem tX10_word_0 {G : am_G} (hG : am_ok G) {d : Nat} {l1 : Int32} {l2 : Int32} {I : am_I} {r : (Option Int32 ⊕ Nat) × am_I} (h : bX10_word_0 G.2.2.2.1 l1 l2  I = some r) : am_J G (d + 1) mX10_word (fun pc _ st J => st = [] ∧ r = (.inr pc, J)) (fun q J => r = (.inl q, J)) 0 [some (.inr (0, 0)), some (.inl l1), some (.inl l2)] [] I := by
  unfold bX10_word_0 at h
  refine am_iload_n dX10_word_0 rfl ?_
  refine am_iload_n dX10_word_1 rfl ?_
  obtain ⟨q1, hq1, h⟩ := am_bd h
  refine am_callSx (as := [.inl l1, .inl l2]) (rest := []) dX10_word_2 lkX10_isWord ml_X10_215 isX10_isWord rfl (Nat.le_of_ble_eq_true rfl) rfl (sX10_isWord hG hq1) ?_
  refine am_if_ne (tgt := 18) dX10_word_5 rfl (fun c => ?_) (fun c => ?_)
  · rw [if_neg c] at h
    refine am_aload_n dX10_word_18 rfl ?_
    refine am_get (v := .inr (0, 1)) dX10_word_19 fl_10_9 (hG.m0 (by decide)) rfl ?_
    refine am_iload_n dX10_word_22 rfl ?_
    refine am_bipush (v := nI 16) dX10_word_23 (by decide) ?_
    refine am_imul dX10_word_25 ?_
    refine am_iload_n dX10_word_26 rfl ?_
    refine am_iadd dX10_word_27 ?_
    obtain ⟨g2, h⟩ := am_gd_some h
    refine am_ialdG dX10_word_28 (hG.m0 (by decide)) rfl g2 (show 10240 < 2 ^ 31 by decide) ?_
    cases h
    exact am_iret dX10_word_29 rfl rfl rfl
  · rw [if_pos c] at h
    cases h
    exact am_exit ⟨rfl, rfl⟩
def gX10_word (n : Nat) (l1 : Int32) (l2 : Int32) (I : am_I) : Option ((Option Int32 ⊕ Nat) × am_I) := bX10_word_0 n l1 l2 I
theorem sX10_word {G : am_G} (hG : am_ok G) {d : Nat} {l1 : Int32} {l2 : Int32} {I : am_I} {r : (Option Int32 ⊕ Nat) × am_I} (h : gX10_word G.2.2.2.1 l1 l2 I = some r) : am_J G (d + 1) mX10_word (fun pc _ st J => st = [] ∧ r = (.inr pc, J)) (fun q J => r = (.inl q, J)) 0 (([.inr (0, 0), .inl l1, .inl l2] : List am_V).map some ++ List.replicate (3 - 3) none) [] I :=
  am_lwJ (lo' := [some (.inr (0, 0)), some (.inl l1), some (.inl l2)]) ⟨rfl, rfl, rfl, trivial⟩ (tX10_word_0 hG h)
def bX10_cached_0 (n : Nat) (l1 : Int32) (l2 : Int32) (l3 : Int32) (I : am_I) : Option ((Option Int32 ⊕ Nat) × am_I) := (gX10_isNode n l1 I).bind (fun q1 => if q1.1 = 0 then (some (.inr 8, q1.2)) else ((gX10_isWord n l2 l3 q1.2).bind (fun q2 => if q2.1 = 0 then (some (.inr 26, q2.2)) else (am_gd (am_inb l1 n) (am_gd (am_inb l2 640) (if (q2.2 l1.toNatClampNeg 43 l2.toNatClampNeg) = 0 then (some (.inr 57, q2.2)) else (am_gd (am_inb ((l2 * (nI 16)) + l3) 10240) (some (.inl (some (q2.2 l1.toNatClampNeg 42 (((l2 * (nI 16)) + l3).toNatClampNeg))), q2.2)))))))))
theorem tX10_cached_0 {G : am_G} (hG : am_ok G) {d : Nat} {l1 : Int32} {l2 : Int32} {l3 : Int32} {I : am_I} {r : (Option Int32 ⊕ Nat) × am_I} (h : bX10_cached_0 G.2.2.2.1 l1 l2 l3  I = some r) : am_J G (d + 1) mX10_cached (fun pc _ st J => st = [] ∧ r = (.inr pc, J)) (fun q J => r = (.inl q, J)) 0 [some (.inr (0, 0)), some (.inl l1), some (.inl l2), some (.inl l3), none] [] I := by
  unfold bX10_cached_0 at h
  refine am_aload_n dX10_cached_0 rfl ?_
  refine am_iload_n dX10_cached_1 rfl ?_
  obtain ⟨q1, hq1, h⟩ := am_bd h
  refine am_callVx (i := 0) (j := 0) (as := [.inl l1]) (rest := []) dX10_cached_2 lkX10_isNode ml_X10_65 imX10_isNode seX10_isNode rfl rfl (hG.m0 (by decide)) rfl (Nat.le_of_ble_eq_true rfl) rfl (sX10_isNode hG hq1) ?_
  refine am_if_ne (tgt := 18) dX10_cached_5 rfl (fun c => ?_) (fun c => ?_)
  · rw [if_neg c] at h
    refine am_iload_n dX10_cached_18 rfl ?_
    refine am_iload_n dX10_cached_19 rfl ?_
    obtain ⟨q2, hq2, h⟩ := am_bd h
    refine am_callSx (as := [.inl l2, .inl l3]) (rest := []) dX10_cached_20 lkX10_isWord ml_X10_215 isX10_isWord rfl (Nat.le_of_ble_eq_true rfl) rfl (sX10_isWord hG hq2) ?_
    refine am_if_ne (tgt := 36) dX10_cached_23 rfl (fun c => ?_) (fun c => ?_)
    · rw [if_neg c] at h
      refine am_aload_n dX10_cached_36 rfl ?_
      refine am_get (v := .inr (0, 2)) dX10_cached_37 fl_10_19 (hG.m0 (by decide)) rfl ?_
      refine am_iload_n dX10_cached_40 rfl ?_
      obtain ⟨g3, h⟩ := am_gd_some h
      refine am_aaldG dX10_cached_41 (hG.m0 (by decide)) rfl g3 hG.n31 ?_
      refine am_get (v := .inr (l1.toNatClampNeg, 41)) dX10_cached_42 fl_10_221 (hG.mn (am_inb_lt g3) (by decide) (by decide)) rfl ?_
      refine am_astore dX10_cached_45 (by decide) ?_
      refine am_aload dX10_cached_47 rfl ?_
      refine am_get (v := .inr (l1.toNatClampNeg, 43)) dX10_cached_49 fl_10_225 (hG.mn (am_inb_lt g3) (by decide) (by decide)) rfl ?_
      refine am_iload_n dX10_cached_52 rfl ?_
      obtain ⟨g4, h⟩ := am_gd_some h
      refine am_zaldG dX10_cached_53 (hG.mn (am_inb_lt g3) (by decide) (by decide)) rfl g4 (show 640 < 2 ^ 31 by decide) ?_
      refine am_if_ne (tgt := 67) dX10_cached_54 rfl (fun c => ?_) (fun c => ?_)
      · rw [if_neg c] at h
        refine am_aload dX10_cached_67 rfl ?_
        refine am_get (v := .inr (l1.toNatClampNeg, 42)) dX10_cached_69 fl_10_236 (hG.mn (am_inb_lt g3) (by decide) (by decide)) rfl ?_
        refine am_iload_n dX10_cached_72 rfl ?_
        refine am_bipush (v := nI 16) dX10_cached_73 (by decide) ?_
        refine am_imul dX10_cached_75 ?_
        refine am_iload_n dX10_cached_76 rfl ?_
        refine am_iadd dX10_cached_77 ?_
        obtain ⟨g5, h⟩ := am_gd_some h
        refine am_ialdG dX10_cached_78 (hG.mn (am_inb_lt g3) (by decide) (by decide)) rfl g5 (show 10240 < 2 ^ 31 by decide) ?_
        cases h
        exact am_iret dX10_cached_79 rfl rfl rfl
      · rw [if_pos c] at h
        cases h
        exact am_exit ⟨rfl, rfl⟩
    · rw [if_pos c] at h
      cases h
      exact am_exit ⟨rfl, rfl⟩
  · rw [if_pos c] at h
    cases h
    exact am_exit ⟨rfl, rfl⟩
def gX10_cached (n : Nat) (l1 : Int32) (l2 : Int32) (l3 : Int32) (I : am_I) : Option ((Option Int32 ⊕ Nat) × am_I) := bX10_cached_0 n l1 l2 l3 I
theorem sX10_cached {G : am_G} (hG : am_ok G) {d : Nat} {l1 : Int32} {l2 : Int32} {l3 : Int32} {I : am_I} {r : (Option Int32 ⊕ Nat) × am_I} (h : gX10_cached G.2.2.2.1 l1 l2 l3 I = some r) : am_J G (d + 1) mX10_cached (fun pc _ st J => st = [] ∧ r = (.inr pc, J)) (fun q J => r = (.inl q, J)) 0 (([.inr (0, 0), .inl l1, .inl l2, .inl l3] : List am_V).map some ++ List.replicate (5 - 4) none) [] I :=
  am_lwJ (lo' := [some (.inr (0, 0)), some (.inl l1), some (.inl l2), some (.inl l3), none]) ⟨rfl, rfl, rfl, rfl, trivial⟩ (tX10_cached_0 hG h)
def bX10_lock_24 (n : Nat) (I : am_I) : Option ((Option Int32 ⊕ Nat) × am_I) := some (.inr 24, I)
theorem tX10_lock_24 {G : am_G} (hG : am_ok G) {d : Nat} {I : am_I} {r : (Option Int32 ⊕ Nat) × am_I} (h : bX10_lock_24 G.2.2.2.1  I = some r) : am_J G (d + 1) mX10_lock (fun pc _ st J => st = [] ∧ r = (.inr pc, J)) (fun q J => r = (.inl q, J)) 24 [none, none, none, none, none] [] I := by
  unfold bX10_lock_24 at h
  cases h
  exact am_exit ⟨rfl, rfl⟩
def bX10_lock_0 (n : Nat) (l1 : Int32) (l2 : Int32) (l3 : Int32) (I : am_I) : Option ((Option Int32 ⊕ Nat) × am_I) := (gX10_isNode n l1 I).bind (fun q1 => if q1.1 = 0 then (bX10_lock_24 n q1.2) else ((gX10_isResource n l2 q1.2).bind (fun q2 => if q2.1 = 0 then (bX10_lock_24 n q2.2) else (if l3 < 0 then (bX10_lock_24 n q2.2) else (if l3 ≤ (nI 4) then (am_gd (am_inb l1 n) (if l3 = nI 0 then (am_gd (am_inb l2 136) (some (.inl (some (q2.2 l1.toNatClampNeg 49 l2.toNatClampNeg)), q2.2))) else (if l3 = nI 1 then (am_gd (am_inb l2 136) (some (.inl (some (q2.2 l1.toNatClampNeg 50 l2.toNatClampNeg)), q2.2))) else (if l3 = nI 2 then (am_gd (am_inb l2 136) (some (.inl (some (q2.2 l1.toNatClampNeg 51 l2.toNatClampNeg)), q2.2))) else (if l3 = nI 3 then (am_gd (am_inb l2 136) (some (.inl (some (q2.2 l1.toNatClampNeg 54 l2.toNatClampNeg)), q2.2))) else (am_gd (am_inb ((l2 * (nI 4)) + l1) 544) (some (.inl (some (q2.2 0 4 (((l2 * (nI 4)) + l1).toNatClampNeg))), q2.2)))))))) else (bX10_lock_24 n q2.2))))))
theorem tX10_lock_0 {G : am_G} (hG : am_ok G) {d : Nat} {l1 : Int32} {l2 : Int32} {l3 : Int32} {I : am_I} {r : (Option Int32 ⊕ Nat) × am_I} (h : bX10_lock_0 G.2.2.2.1 l1 l2 l3  I = some r) : am_J G (d + 1) mX10_lock (fun pc _ st J => st = [] ∧ r = (.inr pc, J)) (fun q J => r = (.inl q, J)) 0 [some (.inr (0, 0)), some (.inl l1), some (.inl l2), some (.inl l3), none] [] I := by
  unfold bX10_lock_0 at h
  refine am_aload_n dX10_lock_0 rfl ?_
  refine am_iload_n dX10_lock_1 rfl ?_
  obtain ⟨q1, hq1, h⟩ := am_bd h
  refine am_callVx (i := 0) (j := 0) (as := [.inl l1]) (rest := []) dX10_lock_2 lkX10_isNode ml_X10_65 imX10_isNode seX10_isNode rfl rfl (hG.m0 (by decide)) rfl (Nat.le_of_ble_eq_true rfl) rfl (sX10_isNode hG hq1) ?_
  refine am_if_eq (tgt := 24) dX10_lock_5 rfl (fun c => ?_) (fun c => ?_)
  · rw [if_pos c] at h
    exact am_lwJ (lo' := [none, none, none, none, none]) trivial (tX10_lock_24 hG h)
  · rw [if_neg c] at h
    refine am_iload_n dX10_lock_8 rfl ?_
    obtain ⟨q2, hq2, h⟩ := am_bd h
    refine am_callSx (as := [.inl l2]) (rest := []) dX10_lock_9 lkX10_isResource ml_X10_239 isX10_isResource rfl (Nat.le_of_ble_eq_true rfl) rfl (sX10_isResource hG hq2) ?_
    refine am_if_eq (tgt := 24) dX10_lock_12 rfl (fun c => ?_) (fun c => ?_)
    · rw [if_pos c] at h
      exact am_lwJ (lo' := [none, none, none, none, none]) trivial (tX10_lock_24 hG h)
    · rw [if_neg c] at h
      refine am_iload_n dX10_lock_15 rfl ?_
      refine am_if_lt (tgt := 24) dX10_lock_16 rfl (fun c => ?_) (fun c => ?_)
      · rw [if_pos c] at h
        exact am_lwJ (lo' := [none, none, none, none, none]) trivial (tX10_lock_24 hG h)
      · rw [if_neg c] at h
        refine am_iload_n dX10_lock_19 rfl ?_
        refine am_iconst (v := nI 4) dX10_lock_20 (by decide) ?_
        refine am_icmp_le (tgt := 34) dX10_lock_21 rfl (fun c => ?_) (fun c => ?_)
        · rw [if_pos c] at h
          refine am_aload_n dX10_lock_34 rfl ?_
          refine am_get (v := .inr (0, 2)) dX10_lock_35 fl_10_19 (hG.m0 (by decide)) rfl ?_
          refine am_iload_n dX10_lock_38 rfl ?_
          obtain ⟨g3, h⟩ := am_gd_some h
          refine am_aaldG dX10_lock_39 (hG.m0 (by decide)) rfl g3 hG.n31 ?_
          refine am_get (v := .inr (l1.toNatClampNeg, 48)) dX10_lock_40 fl_10_244 (hG.mn (am_inb_lt g3) (by decide) (by decide)) rfl ?_
          refine am_astore dX10_lock_43 (by decide) ?_
          refine am_iload_n dX10_lock_45 rfl ?_
          rcases am_sw 3 l3 with ⟨m, hm, hx⟩ | hx
          · match m, hm, hx with
            | 0, _, hx =>
              rw [if_pos hx] at h
              refine am_tabIn (off := 30) (tgt := 76) dX10_lock_46 (by rw [hx]; decide) (by rw [hx]; decide) (by rw [hx]; rfl) rfl ?_
              refine am_aload dX10_lock_76 rfl ?_
              refine am_get (v := .inr (l1.toNatClampNeg, 49)) dX10_lock_78 fl_10_248 (hG.mn (am_inb_lt g3) (by decide) (by decide)) rfl ?_
              refine am_iload_n dX10_lock_81 rfl ?_
              obtain ⟨g4, h⟩ := am_gd_some h
              refine am_ialdG dX10_lock_82 (hG.mn (am_inb_lt g3) (by decide) (by decide)) rfl g4 (show 136 < 2 ^ 31 by decide) ?_
              cases h
              exact am_iret dX10_lock_83 rfl rfl rfl
            | 1, _, hx =>
              rw [if_neg (show ¬ l3 = nI 0 by rw [hx]; decide)] at h
              rw [if_pos hx] at h
              refine am_tabIn (off := 38) (tgt := 84) dX10_lock_46 (by rw [hx]; decide) (by rw [hx]; decide) (by rw [hx]; rfl) rfl ?_
              refine am_aload dX10_lock_84 rfl ?_
              refine am_get (v := .inr (l1.toNatClampNeg, 50)) dX10_lock_86 fl_10_253 (hG.mn (am_inb_lt g3) (by decide) (by decide)) rfl ?_
              refine am_iload_n dX10_lock_89 rfl ?_
              obtain ⟨g5, h⟩ := am_gd_some h
              refine am_ialdG dX10_lock_90 (hG.mn (am_inb_lt g3) (by decide) (by decide)) rfl g5 (show 136 < 2 ^ 31 by decide) ?_
              cases h
              exact am_iret dX10_lock_91 rfl rfl rfl
            | 2, _, hx =>
              rw [if_neg (show ¬ l3 = nI 0 by rw [hx]; decide), if_neg (show ¬ l3 = nI 1 by rw [hx]; decide)] at h
              rw [if_pos hx] at h
              refine am_tabIn (off := 46) (tgt := 92) dX10_lock_46 (by rw [hx]; decide) (by rw [hx]; decide) (by rw [hx]; rfl) rfl ?_
              refine am_aload dX10_lock_92 rfl ?_
              refine am_get (v := .inr (l1.toNatClampNeg, 51)) dX10_lock_94 fl_10_256 (hG.mn (am_inb_lt g3) (by decide) (by decide)) rfl ?_
              refine am_iload_n dX10_lock_97 rfl ?_
              obtain ⟨g6, h⟩ := am_gd_some h
              refine am_ialdG dX10_lock_98 (hG.mn (am_inb_lt g3) (by decide) (by decide)) rfl g6 (show 136 < 2 ^ 31 by decide) ?_
              cases h
              exact am_iret dX10_lock_99 rfl rfl rfl
            | 3, _, hx =>
              rw [if_neg (show ¬ l3 = nI 0 by rw [hx]; decide), if_neg (show ¬ l3 = nI 1 by rw [hx]; decide), if_neg (show ¬ l3 = nI 2 by rw [hx]; decide)] at h
              rw [if_pos hx] at h
              refine am_tabIn (off := 54) (tgt := 100) dX10_lock_46 (by rw [hx]; decide) (by rw [hx]; decide) (by rw [hx]; rfl) rfl ?_
              refine am_aload dX10_lock_100 rfl ?_
              refine am_get (v := .inr (l1.toNatClampNeg, 54)) dX10_lock_102 fl_10_259 (hG.mn (am_inb_lt g3) (by decide) (by decide)) rfl ?_
              refine am_iload_n dX10_lock_105 rfl ?_
              obtain ⟨g7, h⟩ := am_gd_some h
              refine am_ialdG dX10_lock_106 (hG.mn (am_inb_lt g3) (by decide) (by decide)) rfl g7 (show 136 < 2 ^ 31 by decide) ?_
              cases h
              exact am_iret dX10_lock_107 rfl rfl rfl
            | m + 4, hm, _ => exact absurd hm (by omega)
          · rw [if_neg (am_swd (k := 0) hx (by decide) (by decide)), if_neg (am_swd (k := 1) hx (by decide) (by decide)), if_neg (am_swd (k := 2) hx (by decide) (by decide)), if_neg (am_swd (k := 3) hx (by decide) (by decide))] at h
            refine am_tabOut (tgt := 108) dX10_lock_46 (by omega) rfl ?_
            refine am_aload_n dX10_lock_108 rfl ?_
            refine am_get (v := .inr (0, 3)) dX10_lock_109 fl_10_29 (hG.m0 (by decide)) rfl ?_
            refine am_get (v := .inr (0, 4)) dX10_lock_112 fl_10_262 (hG.m0 (by decide)) rfl ?_
            refine am_iload_n dX10_lock_115 rfl ?_
            refine am_iconst (v := nI 4) dX10_lock_116 (by decide) ?_
            refine am_imul dX10_lock_117 ?_
            refine am_iload_n dX10_lock_118 rfl ?_
            refine am_iadd dX10_lock_119 ?_
            obtain ⟨g8, h⟩ := am_gd_some h
            refine am_ialdG dX10_lock_120 (hG.m0 (by decide)) rfl g8 (show 544 < 2 ^ 31 by decide) ?_
            cases h
            exact am_iret dX10_lock_121 rfl rfl rfl
        · rw [if_neg c] at h
          exact am_lwJ (lo' := [none, none, none, none, none]) trivial (tX10_lock_24 hG h)
def gX10_lock (n : Nat) (l1 : Int32) (l2 : Int32) (l3 : Int32) (I : am_I) : Option ((Option Int32 ⊕ Nat) × am_I) := bX10_lock_0 n l1 l2 l3 I
theorem sX10_lock {G : am_G} (hG : am_ok G) {d : Nat} {l1 : Int32} {l2 : Int32} {l3 : Int32} {I : am_I} {r : (Option Int32 ⊕ Nat) × am_I} (h : gX10_lock G.2.2.2.1 l1 l2 l3 I = some r) : am_J G (d + 1) mX10_lock (fun pc _ st J => st = [] ∧ r = (.inr pc, J)) (fun q J => r = (.inl q, J)) 0 (([.inr (0, 0), .inl l1, .inl l2, .inl l3] : List am_V).map some ++ List.replicate (5 - 4) none) [] I :=
  am_lwJ (lo' := [some (.inr (0, 0)), some (.inl l1), some (.inl l2), some (.inl l3), none]) ⟨rfl, rfl, rfl, rfl, trivial⟩ (tX10_lock_0 hG h)
def bX10_row_11 (n : Nat) (I : am_I) : Option ((Option Int32 ⊕ Nat) × am_I) := some (.inr 11, I)
theorem tX10_row_11 {G : am_G} (hG : am_ok G) {d : Nat} {I : am_I} {r : (Option Int32 ⊕ Nat) × am_I} (h : bX10_row_11 G.2.2.2.1  I = some r) : am_J G (d + 1) mX10_row (fun pc _ st J => st = [] ∧ r = (.inr pc, J)) (fun q J => r = (.inl q, J)) 11 [none, none, none, none, none, none] [] I := by
  unfold bX10_row_11 at h
  cases h
  exact am_exit ⟨rfl, rfl⟩
def bX10_row_101 (n : Nat) (s0 : Int32) (I : am_I) : Option ((Option Int32 ⊕ Nat) × am_I) := some (.inl (some s0), I)
theorem tX10_row_101 {G : am_G} (hG : am_ok G) {d : Nat} {s0 : Int32} {I : am_I} {r : (Option Int32 ⊕ Nat) × am_I} (h : bX10_row_101 G.2.2.2.1 s0  I = some r) : am_J G (d + 1) mX10_row (fun pc _ st J => st = [] ∧ r = (.inr pc, J)) (fun q J => r = (.inl q, J)) 101 [none, none, none, none, none, none] [.inl s0] I := by
  unfold bX10_row_101 at h
  cases h
  exact am_iret dX10_row_101 rfl rfl rfl
def bX10_row_0 (n : Nat) (l1 : Int32) (l2 : Int32) (I : am_I) : Option ((Option Int32 ⊕ Nat) × am_I) := (gX10_isResource n l1 I).bind (fun q1 => if q1.1 = 0 then (bX10_row_11 n q1.2) else (if 0 ≤ l2 then (if l2 = 0 then ((gX10_masterOf n l1 q1.2).bind (fun q5 => some (.inl (some q5.1), q5.2))) else (am_gd (am_inb l1 136) (if l2 = (nI 1) then (some (.inl (some (q1.2 0 8 l1.toNatClampNeg)), q1.2)) else (if ((l2 - (nI 2)) / (nI 2)) < (q1.2 0 8 l1.toNatClampNeg) then (if (l2 - l2 / (nI 2) * (nI 2)) = 0 then (am_gd (am_inb ((l1 * (nI 4)) + ((l2 - (nI 2)) / (nI 2))) 544) (bX10_row_101 n (q1.2 0 6 (((l1 * (nI 4)) + ((l2 - (nI 2)) / (nI 2))).toNatClampNeg)) q1.2)) else (am_gd (am_inb ((l1 * (nI 4)) + ((l2 - (nI 2)) / (nI 2))) 544) (bX10_row_101 n (q1.2 0 7 (((l1 * (nI 4)) + ((l2 - (nI 2)) / (nI 2))).toNatClampNeg)) q1.2))) else (some (.inl (some (-1 : Int32)), q1.2)))))) else (bX10_row_11 n q1.2)))
theorem tX10_row_0 {G : am_G} (hG : am_ok G) {d : Nat} {l1 : Int32} {l2 : Int32} {I : am_I} {r : (Option Int32 ⊕ Nat) × am_I} (h : bX10_row_0 G.2.2.2.1 l1 l2  I = some r) : am_J G (d + 1) mX10_row (fun pc _ st J => st = [] ∧ r = (.inr pc, J)) (fun q J => r = (.inl q, J)) 0 [some (.inr (0, 0)), some (.inl l1), some (.inl l2), none, none, none] [] I := by
  unfold bX10_row_0 at h
  refine am_iload_n dX10_row_0 rfl ?_
  obtain ⟨q1, hq1, h⟩ := am_bd h
  refine am_callSx (as := [.inl l1]) (rest := []) dX10_row_1 lkX10_isResource ml_X10_239 isX10_isResource rfl (Nat.le_of_ble_eq_true rfl) rfl (sX10_isResource hG hq1) ?_
  refine am_if_eq (tgt := 11) dX10_row_4 rfl (fun c => ?_) (fun c => ?_)
  · rw [if_pos c] at h
    exact am_lwJ (lo' := [none, none, none, none, none, none]) trivial (tX10_row_11 hG h)
  · rw [if_neg c] at h
    refine am_iload_n dX10_row_7 rfl ?_
    refine am_if_ge (tgt := 22) dX10_row_8 rfl (fun c => ?_) (fun c => ?_)
    · rw [if_pos c] at h
      refine am_iload_n dX10_row_22 rfl ?_
      refine am_if_ne (tgt := 32) dX10_row_23 rfl (fun c => ?_) (fun c => ?_)
      · rw [if_neg c] at h
        refine am_aload_n dX10_row_32 rfl ?_
        refine am_get (v := .inr (0, 3)) dX10_row_33 fl_10_29 (hG.m0 (by decide)) rfl ?_
        refine am_get (v := .inr (0, 8)) dX10_row_36 fl_10_267 (hG.m0 (by decide)) rfl ?_
        refine am_iload_n dX10_row_39 rfl ?_
        obtain ⟨g2, h⟩ := am_gd_some h
        refine am_ialdG dX10_row_40 (hG.m0 (by decide)) rfl g2 (show 136 < 2 ^ 31 by decide) ?_
        refine am_istore_n dX10_row_41 (by decide) ?_
        refine am_iload_n dX10_row_42 rfl ?_
        refine am_iconst (v := nI 1) dX10_row_43 (by decide) ?_
        refine am_icmp_ne (tgt := 49) dX10_row_44 rfl (fun c => ?_) (fun c => ?_)
        · rw [if_neg c] at h
          refine am_iload_n dX10_row_49 rfl ?_
          refine am_iconst (v := nI 2) dX10_row_50 (by decide) ?_
          refine am_isub dX10_row_51 ?_
          refine am_iconst (v := nI 2) dX10_row_52 (by decide) ?_
          refine am_idiv dX10_row_53 (by decide) ?_
          refine am_istore dX10_row_54 (by decide) ?_
          refine am_iload dX10_row_56 rfl ?_
          refine am_iload_n dX10_row_58 rfl ?_
          refine am_icmp_lt (tgt := 64) dX10_row_59 rfl (fun c => ?_) (fun c => ?_)
          · rw [if_pos c] at h
            refine am_iload_n dX10_row_64 rfl ?_
            refine am_iconst (v := nI 4) dX10_row_65 (by decide) ?_
            refine am_imul dX10_row_66 ?_
            refine am_iload dX10_row_67 rfl ?_
            refine am_iadd dX10_row_69 ?_
            refine am_istore dX10_row_70 (by decide) ?_
            refine am_iload_n dX10_row_72 rfl ?_
            refine am_iconst (v := nI 2) dX10_row_73 (by decide) ?_
            refine am_irem dX10_row_74 (by decide) ?_
            refine am_if_ne (tgt := 91) dX10_row_75 rfl (fun c => ?_) (fun c => ?_)
            · rw [if_neg c] at h
              refine am_aload_n dX10_row_91 rfl ?_
              refine am_get (v := .inr (0, 3)) dX10_row_92 fl_10_29 (hG.m0 (by decide)) rfl ?_
              refine am_get (v := .inr (0, 7)) dX10_row_95 fl_10_273 (hG.m0 (by decide)) rfl ?_
              refine am_iload dX10_row_98 rfl ?_
              obtain ⟨g3, h⟩ := am_gd_some h
              refine am_ialdG dX10_row_100 (hG.m0 (by decide)) rfl g3 (show 544 < 2 ^ 31 by decide) ?_
              exact am_lwJ (lo' := [none, none, none, none, none, none]) trivial (tX10_row_101 hG h)
            · rw [if_pos c] at h
              refine am_aload_n dX10_row_78 rfl ?_
              refine am_get (v := .inr (0, 3)) dX10_row_79 fl_10_29 (hG.m0 (by decide)) rfl ?_
              refine am_get (v := .inr (0, 6)) dX10_row_82 fl_10_270 (hG.m0 (by decide)) rfl ?_
              refine am_iload dX10_row_85 rfl ?_
              obtain ⟨g4, h⟩ := am_gd_some h
              refine am_ialdG dX10_row_87 (hG.m0 (by decide)) rfl g4 (show 544 < 2 ^ 31 by decide) ?_
              refine am_goto (tgt := 101) dX10_row_88 rfl ?_
              exact am_lwJ (lo' := [none, none, none, none, none, none]) trivial (tX10_row_101 hG h)
          · rw [if_neg c] at h
            refine am_iconst (v := (-1 : Int32)) dX10_row_62 (by decide) ?_
            cases h
            exact am_iret dX10_row_63 rfl rfl rfl
        · rw [if_pos c] at h
          refine am_iload_n dX10_row_47 rfl ?_
          cases h
          exact am_iret dX10_row_48 rfl rfl rfl
      · rw [if_pos c] at h
        refine am_aload_n dX10_row_26 rfl ?_
        refine am_iload_n dX10_row_27 rfl ?_
        obtain ⟨q5, hq5, h⟩ := am_bd h
        refine am_callVx (i := 0) (j := 0) (as := [.inl l1]) (rest := []) dX10_row_28 lkX10_masterOf ml_X10_158 imX10_masterOf seX10_masterOf rfl rfl (hG.m0 (by decide)) rfl (Nat.le_of_ble_eq_true rfl) rfl (sX10_masterOf hG hq5) ?_
        cases h
        exact am_iret dX10_row_31 rfl rfl rfl
    · rw [if_neg c] at h
      exact am_lwJ (lo' := [none, none, none, none, none, none]) trivial (tX10_row_11 hG h)
def gX10_row (n : Nat) (l1 : Int32) (l2 : Int32) (I : am_I) : Option ((Option Int32 ⊕ Nat) × am_I) := bX10_row_0 n l1 l2 I
theorem sX10_row {G : am_G} (hG : am_ok G) {d : Nat} {l1 : Int32} {l2 : Int32} {I : am_I} {r : (Option Int32 ⊕ Nat) × am_I} (h : gX10_row G.2.2.2.1 l1 l2 I = some r) : am_J G (d + 1) mX10_row (fun pc _ st J => st = [] ∧ r = (.inr pc, J)) (fun q J => r = (.inl q, J)) 0 (([.inr (0, 0), .inl l1, .inl l2] : List am_V).map some ++ List.replicate (6 - 3) none) [] I :=
  am_lwJ (lo' := [some (.inr (0, 0)), some (.inl l1), some (.inl l2), none, none, none]) ⟨rfl, rfl, rfl, trivial⟩ (tX10_row_0 hG h)
def bX10_message_15 (n : Nat) (I : am_I) : Option ((Option Int32 ⊕ Nat) × am_I) := some (.inr 15, I)
theorem tX10_message_15 {G : am_G} (hG : am_ok G) {d : Nat} {I : am_I} {r : (Option Int32 ⊕ Nat) × am_I} (h : bX10_message_15 G.2.2.2.1  I = some r) : am_J G d mX10_message (fun pc _ st J => st = [] ∧ r = (.inr pc, J)) (fun q J => r = (.inl q, J)) 15 [none, none, none] [] I := by
  unfold bX10_message_15 at h
  cases h
  exact am_exit ⟨rfl, rfl⟩
def bX10_message_36 (n : Nat) (I : am_I) : Option ((Option Int32 ⊕ Nat) × am_I) := some (.inr 36, I)
theorem tX10_message_36 {G : am_G} (hG : am_ok G) {d : Nat} {I : am_I} {r : (Option Int32 ⊕ Nat) × am_I} (h : bX10_message_36 G.2.2.2.1  I = some r) : am_J G d mX10_message (fun pc _ st J => st = [] ∧ r = (.inr pc, J)) (fun q J => r = (.inl q, J)) 36 [none, none, none] [] I := by
  unfold bX10_message_36 at h
  cases h
  exact am_exit ⟨rfl, rfl⟩
def bX10_message_0 (n : Nat) (l1 : Int32) (l2 : Int32) (I : am_I) : Option ((Option Int32 ⊕ Nat) × am_I) := if l1 < 0 then (bX10_message_15 n I) else (if l1 < (I 0 9 3) then (if l2 < 0 then (bX10_message_36 n I) else (if l2 < (nI 6) then (am_gd (am_inb ((l1 * (nI 6)) + l2) 768) (some (.inl (some (I 0 11 (((l1 * (nI 6)) + l2).toNatClampNeg))), I))) else (bX10_message_36 n I))) else (bX10_message_15 n I))
theorem tX10_message_0 {G : am_G} (hG : am_ok G) {d : Nat} {l1 : Int32} {l2 : Int32} {I : am_I} {r : (Option Int32 ⊕ Nat) × am_I} (h : bX10_message_0 G.2.2.2.1 l1 l2  I = some r) : am_J G d mX10_message (fun pc _ st J => st = [] ∧ r = (.inr pc, J)) (fun q J => r = (.inl q, J)) 0 [some (.inr (0, 0)), some (.inl l1), some (.inl l2)] [] I := by
  unfold bX10_message_0 at h
  refine am_iload_n dX10_message_0 rfl ?_
  refine am_if_lt (tgt := 15) dX10_message_1 rfl (fun c => ?_) (fun c => ?_)
  · rw [if_pos c] at h
    exact am_lwJ (lo' := [none, none, none]) trivial (tX10_message_15 hG h)
  · rw [if_neg c] at h
    refine am_iload_n dX10_message_4 rfl ?_
    refine am_aload_n dX10_message_5 rfl ?_
    refine am_get (v := .inr (0, 9)) dX10_message_6 fl_10_36 (hG.m0 (by decide)) rfl ?_
    refine am_get (v := .inl (I 0 9 3)) dX10_message_9 fl_10_276 (hG.m0 (by decide)) rfl ?_
    refine am_icmp_lt (tgt := 26) dX10_message_12 rfl (fun c => ?_) (fun c => ?_)
    · rw [if_pos c] at h
      refine am_iload_n dX10_message_26 rfl ?_
      refine am_if_lt (tgt := 36) dX10_message_27 rfl (fun c => ?_) (fun c => ?_)
      · rw [if_pos c] at h
        exact am_lwJ (lo' := [none, none, none]) trivial (tX10_message_36 hG h)
      · rw [if_neg c] at h
        refine am_iload_n dX10_message_30 rfl ?_
        refine am_bipush (v := nI 6) dX10_message_31 (by decide) ?_
        refine am_icmp_lt (tgt := 46) dX10_message_33 rfl (fun c => ?_) (fun c => ?_)
        · rw [if_pos c] at h
          refine am_aload_n dX10_message_46 rfl ?_
          refine am_get (v := .inr (0, 9)) dX10_message_47 fl_10_36 (hG.m0 (by decide)) rfl ?_
          refine am_get (v := .inr (0, 11)) dX10_message_50 fl_10_281 (hG.m0 (by decide)) rfl ?_
          refine am_iload_n dX10_message_53 rfl ?_
          refine am_bipush (v := nI 6) dX10_message_54 (by decide) ?_
          refine am_imul dX10_message_56 ?_
          refine am_iload_n dX10_message_57 rfl ?_
          refine am_iadd dX10_message_58 ?_
          obtain ⟨g1, h⟩ := am_gd_some h
          refine am_ialdG dX10_message_59 (hG.m0 (by decide)) rfl g1 (show 768 < 2 ^ 31 by decide) ?_
          cases h
          exact am_iret dX10_message_60 rfl rfl rfl
        · rw [if_neg c] at h
          exact am_lwJ (lo' := [none, none, none]) trivial (tX10_message_36 hG h)
    · rw [if_neg c] at h
      exact am_lwJ (lo' := [none, none, none]) trivial (tX10_message_15 hG h)
def gX10_message (n : Nat) (l1 : Int32) (l2 : Int32) (I : am_I) : Option ((Option Int32 ⊕ Nat) × am_I) := bX10_message_0 n l1 l2 I
theorem sX10_message {G : am_G} (hG : am_ok G) {d : Nat} {l1 : Int32} {l2 : Int32} {I : am_I} {r : (Option Int32 ⊕ Nat) × am_I} (h : gX10_message G.2.2.2.1 l1 l2 I = some r) : am_J G d mX10_message (fun pc _ st J => st = [] ∧ r = (.inr pc, J)) (fun q J => r = (.inl q, J)) 0 (([.inr (0, 0), .inl l1, .inl l2] : List am_V).map some ++ List.replicate (3 - 3) none) [] I :=
  am_lwJ (lo' := [some (.inr (0, 0)), some (.inl l1), some (.inl l2)]) ⟨rfl, rfl, rfl, trivial⟩ (tX10_message_0 hG h)
def bX10_node_18 (n : Nat) (I : am_I) : Option ((Option Int32 ⊕ Nat) × am_I) := some (.inr 18, I)
theorem tX10_node_18 {G : am_G} (hG : am_ok G) {d : Nat} {I : am_I} {r : (Option Int32 ⊕ Nat) × am_I} (h : bX10_node_18 G.2.2.2.1  I = some r) : am_J G (d + 1) mX10_node (fun pc _ st J => st = [] ∧ r = (.inr pc, J)) (fun q J => r = (.inl q, J)) 18 [none, none, none, none] [] I := by
  unfold bX10_node_18 at h
  cases h
  exact am_exit ⟨rfl, rfl⟩
def bX10_node_88 (n : Nat) (s0 : Int32) (I : am_I) : Option ((Option Int32 ⊕ Nat) × am_I) := some (.inl (some s0), I)
theorem tX10_node_88 {G : am_G} (hG : am_ok G) {d : Nat} {s0 : Int32} {I : am_I} {r : (Option Int32 ⊕ Nat) × am_I} (h : bX10_node_88 G.2.2.2.1 s0  I = some r) : am_J G (d + 1) mX10_node (fun pc _ st J => st = [] ∧ r = (.inr pc, J)) (fun q J => r = (.inl q, J)) 88 [none, none, none, none] [.inl s0] I := by
  unfold bX10_node_88 at h
  cases h
  exact am_iret dX10_node_88 rfl rfl rfl
def bX10_node_101 (n : Nat) (s0 : Int32) (I : am_I) : Option ((Option Int32 ⊕ Nat) × am_I) := some (.inl (some s0), I)
theorem tX10_node_101 {G : am_G} (hG : am_ok G) {d : Nat} {s0 : Int32} {I : am_I} {r : (Option Int32 ⊕ Nat) × am_I} (h : bX10_node_101 G.2.2.2.1 s0  I = some r) : am_J G (d + 1) mX10_node (fun pc _ st J => st = [] ∧ r = (.inr pc, J)) (fun q J => r = (.inl q, J)) 101 [none, none, none, none] [.inl s0] I := by
  unfold bX10_node_101 at h
  cases h
  exact am_iret dX10_node_101 rfl rfl rfl
def bX10_node_0 (n : Nat) (l1 : Int32) (l2 : Int32) (I : am_I) : Option ((Option Int32 ⊕ Nat) × am_I) := (gX10_isNode n l1 I).bind (fun q1 => if q1.1 = 0 then (bX10_node_18 n q1.2) else (if l2 < 0 then (bX10_node_18 n q1.2) else (if l2 ≤ (nI 6) then (am_gd (am_inb l1 n) (if l2 = nI 0 then (if (q1.2 l1.toNatClampNeg 40 5) = 0 then (bX10_node_88 n (nI 0) q1.2) else (bX10_node_88 n (nI 1) q1.2)) else (if l2 = nI 1 then (if (q1.2 l1.toNatClampNeg 40 6) = 0 then (bX10_node_101 n (nI 0) q1.2) else (bX10_node_101 n (nI 1) q1.2)) else (if l2 = nI 2 then (some (.inl (some (q1.2 l1.toNatClampNeg 44 2)), q1.2)) else (if l2 = nI 3 then ((gX3_left n l1.toNatClampNeg q1.2).bind (fun q3 => some (.inl (some q3.1), q3.2))) else (if l2 = nI 4 then (some (.inl (some (q1.2 l1.toNatClampNeg 44 7)), q1.2)) else (if l2 = nI 5 then (some (.inl (some (q1.2 l1.toNatClampNeg 41 2)), q1.2)) else ((gX3_target n l1.toNatClampNeg q1.2).bind (fun q4 => some (.inl (some q4.1), q4.2)))))))))) else (bX10_node_18 n q1.2))))
theorem tX10_node_0 {G : am_G} (hG : am_ok G) {d : Nat} {l1 : Int32} {l2 : Int32} {I : am_I} {r : (Option Int32 ⊕ Nat) × am_I} (h : bX10_node_0 G.2.2.2.1 l1 l2  I = some r) : am_J G (d + 1) mX10_node (fun pc _ st J => st = [] ∧ r = (.inr pc, J)) (fun q J => r = (.inl q, J)) 0 [some (.inr (0, 0)), some (.inl l1), some (.inl l2), none] [] I := by
  unfold bX10_node_0 at h
  refine am_aload_n dX10_node_0 rfl ?_
  refine am_iload_n dX10_node_1 rfl ?_
  obtain ⟨q1, hq1, h⟩ := am_bd h
  refine am_callVx (i := 0) (j := 0) (as := [.inl l1]) (rest := []) dX10_node_2 lkX10_isNode ml_X10_65 imX10_isNode seX10_isNode rfl rfl (hG.m0 (by decide)) rfl (Nat.le_of_ble_eq_true rfl) rfl (sX10_isNode hG hq1) ?_
  refine am_if_eq (tgt := 18) dX10_node_5 rfl (fun c => ?_) (fun c => ?_)
  · rw [if_pos c] at h
    exact am_lwJ (lo' := [none, none, none, none]) trivial (tX10_node_18 hG h)
  · rw [if_neg c] at h
    refine am_iload_n dX10_node_8 rfl ?_
    refine am_if_lt (tgt := 18) dX10_node_9 rfl (fun c => ?_) (fun c => ?_)
    · rw [if_pos c] at h
      exact am_lwJ (lo' := [none, none, none, none]) trivial (tX10_node_18 hG h)
    · rw [if_neg c] at h
      refine am_iload_n dX10_node_12 rfl ?_
      refine am_bipush (v := nI 6) dX10_node_13 (by decide) ?_
      refine am_icmp_le (tgt := 28) dX10_node_15 rfl (fun c => ?_) (fun c => ?_)
      · rw [if_pos c] at h
        refine am_aload_n dX10_node_28 rfl ?_
        refine am_get (v := .inr (0, 2)) dX10_node_29 fl_10_19 (hG.m0 (by decide)) rfl ?_
        refine am_iload_n dX10_node_32 rfl ?_
        obtain ⟨g2, h⟩ := am_gd_some h
        refine am_aaldG dX10_node_33 (hG.m0 (by decide)) rfl g2 hG.n31 ?_
        refine am_astore_n dX10_node_34 (by decide) ?_
        refine am_iload_n dX10_node_35 rfl ?_
        rcases am_sw 5 l2 with ⟨m, hm, hx⟩ | hx
        · match m, hm, hx with
          | 0, _, hx =>
            rw [if_pos hx] at h
            refine am_tabIn (off := 40) (tgt := 76) dX10_node_36 (by rw [hx]; decide) (by rw [hx]; decide) (by rw [hx]; rfl) rfl ?_
            refine am_aload_n dX10_node_76 rfl ?_
            refine am_get (v := .inl (q1.2 l1.toNatClampNeg 40 5)) dX10_node_77 fl_10_80 (hG.mn (am_inb_lt g2) (by decide) (by decide)) rfl ?_
            refine am_if_eq (tgt := 87) dX10_node_80 rfl (fun c => ?_) (fun c => ?_)
            · rw [if_pos c] at h
              refine am_iconst (v := nI 0) dX10_node_87 (by decide) ?_
              exact am_lwJ (lo' := [none, none, none, none]) trivial (tX10_node_88 hG h)
            · rw [if_neg c] at h
              refine am_iconst (v := nI 1) dX10_node_83 (by decide) ?_
              refine am_goto (tgt := 88) dX10_node_84 rfl ?_
              exact am_lwJ (lo' := [none, none, none, none]) trivial (tX10_node_88 hG h)
          | 1, _, hx =>
            rw [if_neg (show ¬ l2 = nI 0 by rw [hx]; decide)] at h
            rw [if_pos hx] at h
            refine am_tabIn (off := 53) (tgt := 89) dX10_node_36 (by rw [hx]; decide) (by rw [hx]; decide) (by rw [hx]; rfl) rfl ?_
            refine am_aload_n dX10_node_89 rfl ?_
            refine am_get (v := .inl (q1.2 l1.toNatClampNeg 40 6)) dX10_node_90 fl_10_166 (hG.mn (am_inb_lt g2) (by decide) (by decide)) rfl ?_
            refine am_if_eq (tgt := 100) dX10_node_93 rfl (fun c => ?_) (fun c => ?_)
            · rw [if_pos c] at h
              refine am_iconst (v := nI 0) dX10_node_100 (by decide) ?_
              exact am_lwJ (lo' := [none, none, none, none]) trivial (tX10_node_101 hG h)
            · rw [if_neg c] at h
              refine am_iconst (v := nI 1) dX10_node_96 (by decide) ?_
              refine am_goto (tgt := 101) dX10_node_97 rfl ?_
              exact am_lwJ (lo' := [none, none, none, none]) trivial (tX10_node_101 hG h)
          | 2, _, hx =>
            rw [if_neg (show ¬ l2 = nI 0 by rw [hx]; decide), if_neg (show ¬ l2 = nI 1 by rw [hx]; decide)] at h
            rw [if_pos hx] at h
            refine am_tabIn (off := 66) (tgt := 102) dX10_node_36 (by rw [hx]; decide) (by rw [hx]; decide) (by rw [hx]; rfl) rfl ?_
            refine am_aload_n dX10_node_102 rfl ?_
            refine am_get (v := .inr (l1.toNatClampNeg, 44)) dX10_node_103 fl_10_284 (hG.mn (am_inb_lt g2) (by decide) (by decide)) rfl ?_
            refine am_get (v := .inl (q1.2 l1.toNatClampNeg 44 2)) dX10_node_106 fl_10_288 (hG.mn (am_inb_lt g2) (by decide) (by decide)) rfl ?_
            cases h
            exact am_iret dX10_node_109 rfl rfl rfl
          | 3, _, hx =>
            rw [if_neg (show ¬ l2 = nI 0 by rw [hx]; decide), if_neg (show ¬ l2 = nI 1 by rw [hx]; decide), if_neg (show ¬ l2 = nI 2 by rw [hx]; decide)] at h
            rw [if_pos hx] at h
            refine am_tabIn (off := 74) (tgt := 110) dX10_node_36 (by rw [hx]; decide) (by rw [hx]; decide) (by rw [hx]; rfl) rfl ?_
            refine am_aload_n dX10_node_110 rfl ?_
            refine am_get (v := .inr (l1.toNatClampNeg, 44)) dX10_node_111 fl_10_284 (hG.mn (am_inb_lt g2) (by decide) (by decide)) rfl ?_
            obtain ⟨q3, hq3, h⟩ := am_bd h
            refine am_callVx (i := l1.toNatClampNeg) (j := 44) (as := []) (rest := []) dX10_node_114 lkX3_left ml_X10_293 imX3_left seX3_left rfl rfl (hG.mn (am_inb_lt g2) (by decide) (by decide)) rfl (Nat.le_of_ble_eq_true rfl) rfl (sX3_left hG (am_inb_lt g2) hq3) ?_
            cases h
            exact am_iret dX10_node_117 rfl rfl rfl
          | 4, _, hx =>
            rw [if_neg (show ¬ l2 = nI 0 by rw [hx]; decide), if_neg (show ¬ l2 = nI 1 by rw [hx]; decide), if_neg (show ¬ l2 = nI 2 by rw [hx]; decide), if_neg (show ¬ l2 = nI 3 by rw [hx]; decide)] at h
            rw [if_pos hx] at h
            refine am_tabIn (off := 82) (tgt := 118) dX10_node_36 (by rw [hx]; decide) (by rw [hx]; decide) (by rw [hx]; rfl) rfl ?_
            refine am_aload_n dX10_node_118 rfl ?_
            refine am_get (v := .inr (l1.toNatClampNeg, 44)) dX10_node_119 fl_10_284 (hG.mn (am_inb_lt g2) (by decide) (by decide)) rfl ?_
            refine am_get (v := .inl (q1.2 l1.toNatClampNeg 44 7)) dX10_node_122 fl_10_296 (hG.mn (am_inb_lt g2) (by decide) (by decide)) rfl ?_
            cases h
            exact am_iret dX10_node_125 rfl rfl rfl
          | 5, _, hx =>
            rw [if_neg (show ¬ l2 = nI 0 by rw [hx]; decide), if_neg (show ¬ l2 = nI 1 by rw [hx]; decide), if_neg (show ¬ l2 = nI 2 by rw [hx]; decide), if_neg (show ¬ l2 = nI 3 by rw [hx]; decide), if_neg (show ¬ l2 = nI 4 by rw [hx]; decide)] at h
            rw [if_pos hx] at h
            refine am_tabIn (off := 90) (tgt := 126) dX10_node_36 (by rw [hx]; decide) (by rw [hx]; decide) (by rw [hx]; rfl) rfl ?_
            refine am_aload_n dX10_node_126 rfl ?_
            refine am_get (v := .inr (l1.toNatClampNeg, 41)) dX10_node_127 fl_10_221 (hG.mn (am_inb_lt g2) (by decide) (by decide)) rfl ?_
            refine am_get (v := .inl (q1.2 l1.toNatClampNeg 41 2)) dX10_node_130 fl_10_299 (hG.mn (am_inb_lt g2) (by decide) (by decide)) rfl ?_
            cases h
            exact am_iret dX10_node_133 rfl rfl rfl
          | m + 6, hm, _ => exact absurd hm (by omega)
        · rw [if_neg (am_swd (k := 0) hx (by decide) (by decide)), if_neg (am_swd (k := 1) hx (by decide) (by decide)), if_neg (am_swd (k := 2) hx (by decide) (by decide)), if_neg (am_swd (k := 3) hx (by decide) (by decide)), if_neg (am_swd (k := 4) hx (by decide) (by decide)), if_neg (am_swd (k := 5) hx (by decide) (by decide))] at h
          refine am_tabOut (tgt := 134) dX10_node_36 (by omega) rfl ?_
          refine am_aload_n dX10_node_134 rfl ?_
          refine am_get (v := .inr (l1.toNatClampNeg, 44)) dX10_node_135 fl_10_284 (hG.mn (am_inb_lt g2) (by decide) (by decide)) rfl ?_
          obtain ⟨q4, hq4, h⟩ := am_bd h
          refine am_callVx (i := l1.toNatClampNeg) (j := 44) (as := []) (rest := []) dX10_node_138 lkX3_target ml_X10_300 imX3_target seX3_target rfl rfl (hG.mn (am_inb_lt g2) (by decide) (by decide)) rfl (Nat.le_of_ble_eq_true rfl) rfl (sX3_target hG (am_inb_lt g2) hq4) ?_
          cases h
          exact am_iret dX10_node_141 rfl rfl rfl
      · rw [if_neg c] at h
        exact am_lwJ (lo' := [none, none, none, none]) trivial (tX10_node_18 hG h)
def gX10_node (n : Nat) (l1 : Int32) (l2 : Int32) (I : am_I) : Option ((Option Int32 ⊕ Nat) × am_I) := bX10_node_0 n l1 l2 I
theorem sX10_node {G : am_G} (hG : am_ok G) {d : Nat} {l1 : Int32} {l2 : Int32} {I : am_I} {r : (Option Int32 ⊕ Nat) × am_I} (h : gX10_node G.2.2.2.1 l1 l2 I = some r) : am_J G (d + 1) mX10_node (fun pc _ st J => st = [] ∧ r = (.inr pc, J)) (fun q J => r = (.inl q, J)) 0 (([.inr (0, 0), .inl l1, .inl l2] : List am_V).map some ++ List.replicate (4 - 3) none) [] I :=
  am_lwJ (lo' := [some (.inr (0, 0)), some (.inl l1), some (.inl l2), none]) ⟨rfl, rfl, rfl, trivial⟩ (tX10_node_0 hG h)
def bX10_usedByMaps_70 (n : Nat) (k4 : Int32 → Int32 → Int32 → am_I → Option (Int32 × am_I)) (l1 : Int32) (l3 : Int32) (s0 : Int32) (s1 : Int32) (I : am_I) : Option (Int32 × am_I) := k4 l1 (s1 + s0) (l3 + nI 1) I
theorem tX10_usedByMaps_70 {G : am_G} (hG : am_ok G) {d : Nat} {k4 : Int32 → Int32 → Int32 → am_I → Option (Int32 × am_I)} (hk4 : ∀ (l1 : Int32) (l2 : Int32) (l3 : Int32) (I : am_I) (r : Int32 × am_I), k4 l1 l2 l3 I = some r → am_J G (d + 1) mX10_usedByMaps am_no (am_E (some r.1) r.2) 4 [some (.inr (0, 0)), some (.inl l1), some (.inl l2), some (.inl l3), none] [] I) {l1 : Int32} {l3 : Int32} {s0 : Int32} {s1 : Int32} {I : am_I} {r : Int32 × am_I} (h : bX10_usedByMaps_70 G.2.2.2.1 k4 l1 l3 s0 s1  I = some r) : am_J G (d + 1) mX10_usedByMaps am_no (am_E (some r.1) r.2) 70 [some (.inr (0, 0)), some (.inl l1), none, some (.inl l3), none] [.inl s0, .inl s1] I := by
  unfold bX10_usedByMaps_70 at h
  refine am_iadd dX10_usedByMaps_70 ?_
  refine am_istore_n dX10_usedByMaps_71 (by decide) ?_
  refine am_iinc (v := l3 + nI 1) dX10_usedByMaps_72 rfl rfl ?_
  refine am_goto (tgt := 4) dX10_usedByMaps_75 rfl ?_
  exact am_lwJ (lo' := [some (.inr (0, 0)), some (.inl l1), some (.inl (s1 + s0)), some (.inl (l3 + nI 1)), none]) ⟨rfl, rfl, rfl, rfl, trivial⟩ (hk4 l1 (s1 + s0) (l3 + nI 1) _ _ h)
def bX10_usedByMaps_4 (n : Nat) : Nat → Int32 → Int32 → Int32 → am_I → Option (Int32 × am_I)
  | 0, _, _, _, _ => none
  | fu + 1, l1, l2, l3, I => (fun k4 => if (nI 8) ≤ l3 then (some (l2, I)) else ((gX10_mapBlock n l3 I).bind (fun q1 => if l1 = 0 then (am_gd (am_inb (q1.1 * (nI 16)) 10240) ((gJ6_bitCount_0f7a4 n ((q1.2 0 1 ((q1.1 * (nI 16)).toNatClampNeg)) &&& (nI 65535)) q1.2).bind (fun q3 => bX10_usedByMaps_70 n k4 l1 l3 q3.1 l2 q3.2))) else (am_gd (am_inb ((q1.1 * (nI 16)) + (nI 1)) 10240) ((gJ6_bitCount_0f7a4 n (q1.2 0 1 (((q1.1 * (nI 16)) + (nI 1)).toNatClampNeg)) q1.2).bind (fun q5 => am_gd (am_inb ((q1.1 * (nI 16)) + (nI 2)) 10240) ((gJ6_bitCount_0f7a4 n ((q5.2 0 1 (((q1.1 * (nI 16)) + (nI 2)).toNatClampNeg)) &&& (nI 32767)) q5.2).bind (fun q7 => bX10_usedByMaps_70 n k4 l1 l3 (q5.1 + q7.1) l2 q7.2)))))))) (bX10_usedByMaps_4 n fu)
theorem tX10_usedByMaps_4 {G : am_G} (hG : am_ok G) {d : Nat} : ∀ {fu : Nat} {l1 : Int32} {l2 : Int32} {l3 : Int32} {I : am_I} {r : Int32 × am_I}, bX10_usedByMaps_4 G.2.2.2.1 fu l1 l2 l3 I = some r → am_J G (d + 1) mX10_usedByMaps am_no (am_E (some r.1) r.2) 4 [some (.inr (0, 0)), some (.inl l1), some (.inl l2), some (.inl l3), none] [] I := by
  intro fu
  induction fu with
  | zero => intro l1 l2 l3 I r h; cases h
  | succ fu ih =>
    intro l1 l2 l3 I r h
    have hk4 : ∀ (l1 : Int32) (l2 : Int32) (l3 : Int32) (I : am_I) (r : Int32 × am_I), bX10_usedByMaps_4 G.2.2.2.1 fu l1 l2 l3 I = some r → am_J G (d + 1) mX10_usedByMaps am_no (am_E (some r.1) r.2) 4 [some (.inr (0, 0)), some (.inl l1), some (.inl l2), some (.inl l3), none] [] I := fun l1 l2 l3 I r h => ih h
    unfold bX10_usedByMaps_4 at h
    generalize bX10_usedByMaps_4 G.2.2.2.1 fu = k4 at hk4 h
    dsimp only at h
    refine am_iload_n dX10_usedByMaps_4 rfl ?_
    refine am_bipush (v := nI 8) dX10_usedByMaps_5 (by decide) ?_
    refine am_icmp_ge (tgt := 78) dX10_usedByMaps_7 rfl (fun c => ?_) (fun c => ?_)
    · rw [if_pos c] at h
      refine am_iload_n dX10_usedByMaps_78 rfl ?_
      cases h
      exact am_iret dX10_usedByMaps_79 rfl rfl ⟨rfl, rfl⟩
    · rw [if_neg c] at h
      refine am_iload_n dX10_usedByMaps_10 rfl ?_
      obtain ⟨q1, hq1, h⟩ := am_bd h
      refine am_callSx (as := [.inl l3]) (rest := []) dX10_usedByMaps_11 lkX10_mapBlock ml_X10_320 isX10_mapBlock rfl (Nat.le_of_ble_eq_true rfl) rfl (sX10_mapBlock hG hq1) ?_
      refine am_bipush (v := nI 16) dX10_usedByMaps_14 (by decide) ?_
      refine am_imul dX10_usedByMaps_16 ?_
      refine am_istore dX10_usedByMaps_17 (by decide) ?_
      refine am_iload_n dX10_usedByMaps_19 rfl ?_
      refine am_iload_n dX10_usedByMaps_20 rfl ?_
      refine am_if_eq (tgt := 56) dX10_usedByMaps_21 rfl (fun c => ?_) (fun c => ?_)
      · rw [if_pos c] at h
        refine am_aload_n dX10_usedByMaps_56 rfl ?_
        refine am_get (v := .inr (0, 1)) dX10_usedByMaps_57 fl_10_9 (hG.m0 (by decide)) rfl ?_
        refine am_iload dX10_usedByMaps_60 rfl ?_
        obtain ⟨g2, h⟩ := am_gd_some h
        refine am_ialdG dX10_usedByMaps_62 (hG.m0 (by decide)) rfl g2 (show 10240 < 2 ^ 31 by decide) ?_
        refine am_ldcw (v := (65535 : Int32)) dX10_usedByMaps_63 kc_X10_328 ?_
        refine am_top (show (65535 : Int32) = nI 65535 by decide) ?_
        refine am_iand dX10_usedByMaps_66 ?_
        obtain ⟨q3, hq3, h⟩ := am_bd h
        refine am_callSx (as := [.inl ((q1.2 0 1 ((q1.1 * (nI 16)).toNatClampNeg)) &&& (nI 65535))]) (rest := [.inl l2]) dX10_usedByMaps_67 lkJ6_bitCount_0f7a4 ml_X10_323 isJ6_bitCount_0f7a4 rfl (Nat.le_of_ble_eq_true rfl) rfl (sJ6_bitCount_0f7a4 hG hq3) ?_
        exact am_lwJ (lo' := [some (.inr (0, 0)), some (.inl l1), none, some (.inl l3), none]) ⟨rfl, rfl, rfl, trivial⟩ (tX10_usedByMaps_70 hG hk4 h)
      · rw [if_neg c] at h
        refine am_aload_n dX10_usedByMaps_24 rfl ?_
        refine am_get (v := .inr (0, 1)) dX10_usedByMaps_25 fl_10_9 (hG.m0 (by decide)) rfl ?_
        refine am_iload dX10_usedByMaps_28 rfl ?_
        refine am_iconst (v := nI 1) dX10_usedByMaps_30 (by decide) ?_
        refine am_iadd dX10_usedByMaps_31 ?_
        obtain ⟨g4, h⟩ := am_gd_some h
        refine am_ialdG dX10_usedByMaps_32 (hG.m0 (by decide)) rfl g4 (show 10240 < 2 ^ 31 by decide) ?_
        obtain ⟨q5, hq5, h⟩ := am_bd h
        refine am_callSx (as := [.inl (q1.2 0 1 (((q1.1 * (nI 16)) + (nI 1)).toNatClampNeg))]) (rest := [.inl l2]) dX10_usedByMaps_33 lkJ6_bitCount_0f7a4 ml_X10_323 isJ6_bitCount_0f7a4 rfl (Nat.le_of_ble_eq_true rfl) rfl (sJ6_bitCount_0f7a4 hG hq5) ?_
        refine am_aload_n dX10_usedByMaps_36 rfl ?_
        refine am_get (v := .inr (0, 1)) dX10_usedByMaps_37 fl_10_9 (hG.m0 (by decide)) rfl ?_
        refine am_iload dX10_usedByMaps_40 rfl ?_
        refine am_iconst (v := nI 2) dX10_usedByMaps_42 (by decide) ?_
        refine am_iadd dX10_usedByMaps_43 ?_
        obtain ⟨g6, h⟩ := am_gd_some h
        refine am_ialdG dX10_usedByMaps_44 (hG.m0 (by decide)) rfl g6 (show 10240 < 2 ^ 31 by decide) ?_
        refine am_sipush (v := nI 32767) dX10_usedByMaps_45 (by decide) ?_
        refine am_iand dX10_usedByMaps_48 ?_
        obtain ⟨q7, hq7, h⟩ := am_bd h
        refine am_callSx (as := [.inl ((q5.2 0 1 (((q1.1 * (nI 16)) + (nI 2)).toNatClampNeg)) &&& (nI 32767))]) (rest := [.inl q5.1, .inl l2]) dX10_usedByMaps_49 lkJ6_bitCount_0f7a4 ml_X10_323 isJ6_bitCount_0f7a4 rfl (Nat.le_of_ble_eq_true rfl) rfl (sJ6_bitCount_0f7a4 hG hq7) ?_
        refine am_iadd dX10_usedByMaps_52 ?_
        refine am_goto (tgt := 70) dX10_usedByMaps_53 rfl ?_
        exact am_lwJ (lo' := [some (.inr (0, 0)), some (.inl l1), none, some (.inl l3), none]) ⟨rfl, rfl, rfl, trivial⟩ (tX10_usedByMaps_70 hG hk4 h)
def bX10_usedByMaps_0 (n : Nat) (l1 : Int32) (I : am_I) : Option (Int32 × am_I) := bX10_usedByMaps_4 n am_fu l1 (nI 0) (nI 0) I
theorem tX10_usedByMaps_0 {G : am_G} (hG : am_ok G) {d : Nat} {l1 : Int32} {I : am_I} {r : Int32 × am_I} (h : bX10_usedByMaps_0 G.2.2.2.1 l1  I = some r) : am_J G (d + 1) mX10_usedByMaps am_no (am_E (some r.1) r.2) 0 [some (.inr (0, 0)), some (.inl l1), none, none, none] [] I := by
  unfold bX10_usedByMaps_0 at h
  refine am_iconst (v := nI 0) dX10_usedByMaps_0 (by decide) ?_
  refine am_istore_n dX10_usedByMaps_1 (by decide) ?_
  refine am_iconst (v := nI 0) dX10_usedByMaps_2 (by decide) ?_
  refine am_istore_n dX10_usedByMaps_3 (by decide) ?_
  exact am_lwJ (lo' := [some (.inr (0, 0)), some (.inl l1), some (.inl (nI 0)), some (.inl (nI 0)), none]) ⟨rfl, rfl, rfl, rfl, trivial⟩ (tX10_usedByMaps_4 hG h)
def gX10_usedByMaps (n : Nat) (l1 : Int32) (I : am_I) : Option (Int32 × am_I) := bX10_usedByMaps_0 n l1 I
theorem sX10_usedByMaps {G : am_G} (hG : am_ok G) {d : Nat} {l1 : Int32} {I : am_I} {r : Int32 × am_I} (h : gX10_usedByMaps G.2.2.2.1 l1 I = some r) : am_C G (d + 1) mX10_usedByMaps [.inr (0, 0), .inl l1] I (am_E (some r.1) r.2) :=
  am_of (by decide +kernel) hG.nd (Nat.le_of_ble_eq_true rfl) (am_lwJ (lo' := [some (.inr (0, 0)), some (.inl l1), none, none, none]) ⟨rfl, rfl, trivial⟩ (tX10_usedByMaps_0 hG h))
def bX2_recoverAll_133 (n : Nat) (k24 : Int32 → am_I → Option (am_I)) (l2 : Int32) (I : am_I) : Option (am_I) := k24 (l2 + nI 1) I
theorem tX2_recoverAll_133 {G : am_G} (hG : am_ok G) {d : Nat} {k24 : Int32 → am_I → Option (am_I)} (hk24 : ∀ (l2 : Int32) (I : am_I) (r : am_I), k24 l2 I = some r → am_J G (d + 1) mX2_recoverAll am_no (am_E none r) 24 [some (.inr (0, 21)), some (.inr (0, 2)), some (.inl l2), none, none, none, none] [] I) {l2 : Int32} {I : am_I} {r : am_I} (h : bX2_recoverAll_133 G.2.2.2.1 k24 l2  I = some r) : am_J G (d + 1) mX2_recoverAll am_no (am_E none r) 133 [some (.inr (0, 21)), some (.inr (0, 2)), some (.inl l2), none, none, none, none] [] I := by
  unfold bX2_recoverAll_133 at h
  refine am_iinc (v := l2 + nI 1) dX2_recoverAll_133 rfl rfl ?_
  refine am_goto (tgt := 24) dX2_recoverAll_136 rfl ?_
  exact am_lwJ (lo' := [some (.inr (0, 21)), some (.inr (0, 2)), some (.inl (l2 + nI 1)), none, none, none, none]) ⟨rfl, rfl, rfl, trivial⟩ (hk24 (l2 + nI 1) _ _ h)
def bX2_recoverAll_127 (n : Nat) (k24 : Int32 → am_I → Option (am_I)) (k83 : Int32 → Int32 → Int32 → Int32 → am_I → Option (am_I)) (l2 : Int32) (l3 : Int32) (l4 : Int32) (l5 : Int32) (I : am_I) : Option (am_I) := k83 l2 l3 l4 (l5 + nI 1) I
theorem tX2_recoverAll_127 {G : am_G} (hG : am_ok G) {d : Nat} {k24 : Int32 → am_I → Option (am_I)} {k83 : Int32 → Int32 → Int32 → Int32 → am_I → Option (am_I)} (hk24 : ∀ (l2 : Int32) (I : am_I) (r : am_I), k24 l2 I = some r → am_J G (d + 1) mX2_recoverAll am_no (am_E none r) 24 [some (.inr (0, 21)), some (.inr (0, 2)), some (.inl l2), none, none, none, none] [] I) (hk83 : ∀ (l2 : Int32) (l3 : Int32) (l4 : Int32) (l5 : Int32) (I : am_I) (r : am_I), k83 l2 l3 l4 l5 I = some r → am_J G (d + 1) mX2_recoverAll am_no (am_E none r) 83 [some (.inr (0, 21)), some (.inr (0, 2)), some (.inl l2), some (.inl l3), some (.inl l4), some (.inl l5), none] [] I) {l2 : Int32} {l3 : Int32} {l4 : Int32} {l5 : Int32} {I : am_I} {r : am_I} (h : bX2_recoverAll_127 G.2.2.2.1 k24 k83 l2 l3 l4 l5  I = some r) : am_J G (d + 1) mX2_recoverAll am_no (am_E none r) 127 [some (.inr (0, 21)), some (.inr (0, 2)), some (.inl l2), some (.inl l3), some (.inl l4), some (.inl l5), none] [] I := by
  unfold bX2_recoverAll_127 at h
  refine am_iinc (v := l5 + nI 1) dX2_recoverAll_127 rfl rfl ?_
  refine am_goto (tgt := 83) dX2_recoverAll_130 rfl ?_
  exact am_lwJ (lo' := [some (.inr (0, 21)), some (.inr (0, 2)), some (.inl l2), some (.inl l3), some (.inl l4), some (.inl (l5 + nI 1)), none]) ⟨rfl, rfl, rfl, rfl, rfl, rfl, trivial⟩ (hk83 l2 l3 l4 (l5 + nI 1) _ _ h)
def bX2_recoverAll_83 (n : Nat) (k24 : Int32 → am_I → Option (am_I)) : Nat → Int32 → Int32 → Int32 → Int32 → am_I → Option (am_I)
  | 0, _, _, _, _, _ => none
  | fu + 1, l2, l3, l4, l5, I => (fun k83 => if l4 ≤ l5 then (bX2_recoverAll_133 n k24 l2 I) else (am_gd (am_inb (((l3 + (nI 1)) * (nI 16)) + l5) 10240) ((gX10_isBlock n (I 0 1 ((((l3 + (nI 1)) * (nI 16)) + l5).toNatClampNeg)) I).bind (fun q2 => if q2.1 = 0 then (bX2_recoverAll_127 n k24 k83 l2 l3 l4 l5 q2.2) else (am_gd (am_inb (I 0 1 ((((l3 + (nI 1)) * (nI 16)) + l5).toNatClampNeg)) 640) (am_lt (am_up q2.2 0 22 (I 0 1 ((((l3 + (nI 1)) * (nI 16)) + l5).toNatClampNeg)).toNatClampNeg ((l3 + (nI 2)) + l5)) (fun I4 => bX2_recoverAll_127 n k24 k83 l2 l3 l4 l5 I4))))))) (bX2_recoverAll_83 n k24 fu)
theorem tX2_recoverAll_83 {G : am_G} (hG : am_ok G) {d : Nat} {k24 : Int32 → am_I → Option (am_I)} (hk24 : ∀ (l2 : Int32) (I : am_I) (r : am_I), k24 l2 I = some r → am_J G (d + 1) mX2_recoverAll am_no (am_E none r) 24 [some (.inr (0, 21)), some (.inr (0, 2)), some (.inl l2), none, none, none, none] [] I) : ∀ {fu : Nat} {l2 : Int32} {l3 : Int32} {l4 : Int32} {l5 : Int32} {I : am_I} {r : am_I}, bX2_recoverAll_83 G.2.2.2.1 k24 fu l2 l3 l4 l5 I = some r → am_J G (d + 1) mX2_recoverAll am_no (am_E none r) 83 [some (.inr (0, 21)), some (.inr (0, 2)), some (.inl l2), some (.inl l3), some (.inl l4), some (.inl l5), none] [] I := by
  intro fu
  induction fu with
  | zero => intro l2 l3 l4 l5 I r h; cases h
  | succ fu ih =>
    intro l2 l3 l4 l5 I r h
    have hk83 : ∀ (l2 : Int32) (l3 : Int32) (l4 : Int32) (l5 : Int32) (I : am_I) (r : am_I), bX2_recoverAll_83 G.2.2.2.1 k24 fu l2 l3 l4 l5 I = some r → am_J G (d + 1) mX2_recoverAll am_no (am_E none r) 83 [some (.inr (0, 21)), some (.inr (0, 2)), some (.inl l2), some (.inl l3), some (.inl l4), some (.inl l5), none] [] I := fun l2 l3 l4 l5 I r h => ih h
    unfold bX2_recoverAll_83 at h
    generalize bX2_recoverAll_83 G.2.2.2.1 k24 fu = k83 at hk83 h
    dsimp only at h
    refine am_iload dX2_recoverAll_83 rfl ?_
    refine am_iload dX2_recoverAll_85 rfl ?_
    refine am_icmp_ge (tgt := 133) dX2_recoverAll_87 rfl (fun c => ?_) (fun c => ?_)
    · rw [if_pos c] at h
      exact am_lwJ (lo' := [some (.inr (0, 21)), some (.inr (0, 2)), some (.inl l2), none, none, none, none]) ⟨rfl, rfl, rfl, trivial⟩ (tX2_recoverAll_133 hG hk24 h)
    · rw [if_neg c] at h
      refine am_aload_n dX2_recoverAll_90 rfl ?_
      refine am_get (v := .inr (0, 1)) dX2_recoverAll_91 fl_2_28 (hG.m0 (by decide)) rfl ?_
      refine am_iload_n dX2_recoverAll_94 rfl ?_
      refine am_iconst (v := nI 1) dX2_recoverAll_95 (by decide) ?_
      refine am_iadd dX2_recoverAll_96 ?_
      refine am_bipush (v := nI 16) dX2_recoverAll_97 (by decide) ?_
      refine am_imul dX2_recoverAll_99 ?_
      refine am_iload dX2_recoverAll_100 rfl ?_
      refine am_iadd dX2_recoverAll_102 ?_
      obtain ⟨g1, h⟩ := am_gd_some h
      refine am_ialdG dX2_recoverAll_103 (hG.m0 (by decide)) rfl g1 (show 10240 < 2 ^ 31 by decide) ?_
      refine am_istore dX2_recoverAll_104 (by decide) ?_
      refine am_iload dX2_recoverAll_106 rfl ?_
      obtain ⟨q2, hq2, h⟩ := am_bd h
      refine am_callSNx (as := [.inl (I 0 1 ((((l3 + (nI 1)) * (nI 16)) + l5).toNatClampNeg))]) (rest := []) dX2_recoverAll_108 lkX10_isBlock nl_X2_73 isX10_isBlock rfl (Nat.le_of_ble_eq_true rfl) rfl (sX10_isBlock hG hq2) ?_
      refine am_if_eq (tgt := 127) dX2_recoverAll_111 rfl (fun c => ?_) (fun c => ?_)
      · rw [if_pos c] at h
        exact am_lwJ (lo' := [some (.inr (0, 21)), some (.inr (0, 2)), some (.inl l2), some (.inl l3), some (.inl l4), some (.inl l5), none]) ⟨rfl, rfl, rfl, rfl, rfl, rfl, trivial⟩ (tX2_recoverAll_127 hG hk24 hk83 h)
      · rw [if_neg c] at h
        refine am_aload_n dX2_recoverAll_114 rfl ?_
        refine am_get (v := .inr (0, 22)) dX2_recoverAll_115 fl_2_9 (hG.m0 (by decide)) rfl ?_
        refine am_iload dX2_recoverAll_118 rfl ?_
        refine am_iload_n dX2_recoverAll_120 rfl ?_
        refine am_iconst (v := nI 2) dX2_recoverAll_121 (by decide) ?_
        refine am_iadd dX2_recoverAll_122 ?_
        refine am_iload dX2_recoverAll_123 rfl ?_
        refine am_iadd dX2_recoverAll_125 ?_
        obtain ⟨g3, h⟩ := am_gd_some h
        refine am_iastG dX2_recoverAll_126 (hG.m0 (by decide)) rfl g3 (show 640 < 2 ^ 31 by decide) ?_
        obtain ⟨I4, hI4, h⟩ := am_lt_some h
        refine am_st10 hI4 ?_
        exact am_lwJ (lo' := [some (.inr (0, 21)), some (.inr (0, 2)), some (.inl l2), some (.inl l3), some (.inl l4), some (.inl l5), none]) ⟨rfl, rfl, rfl, rfl, rfl, rfl, trivial⟩ (tX2_recoverAll_127 hG hk24 hk83 h)
def bX2_recoverAll_24 (n : Nat) : Nat → Int32 → am_I → Option (am_I)
  | 0, _, _ => none
  | fu + 1, l2, I => (fun k24 => if (nI n) ≤ l2 then (some I) else ((gX10_headBlock n l2 I).bind (fun q1 => am_gd (am_inb l2 n) (if (q1.2 l2.toNatClampNeg 40 6) = 0 then (bX2_recoverAll_133 n k24 l2 q1.2) else (am_gd (am_inb ((q1.1 * (nI 16)) + (nI 2)) 10240) (if (q1.2 0 1 (((q1.1 * (nI 16)) + (nI 2)).toNatClampNeg)) = (nI 1) then (am_gd (am_inb ((q1.1 * (nI 16)) + (nI 1)) 10240) (bX2_recoverAll_83 n k24 am_fu l2 q1.1 ((if (nI 16) ≤ (q1.2 0 1 (((q1.1 * (nI 16)) + (nI 1)).toNatClampNeg)) then (nI 16) else (q1.2 0 1 (((q1.1 * (nI 16)) + (nI 1)).toNatClampNeg)))) (nI 0) q1.2)) else (bX2_recoverAll_133 n k24 l2 q1.2))))))) (bX2_recoverAll_24 n fu)
theorem tX2_recoverAll_24 {G : am_G} (hG : am_ok G) {d : Nat} : ∀ {fu : Nat} {l2 : Int32} {I : am_I} {r : am_I}, bX2_recoverAll_24 G.2.2.2.1 fu l2 I = some r → am_J G (d + 1) mX2_recoverAll am_no (am_E none r) 24 [some (.inr (0, 21)), some (.inr (0, 2)), some (.inl l2), none, none, none, none] [] I := by
  intro fu
  induction fu with
  | zero => intro l2 I r h; cases h
  | succ fu ih =>
    intro l2 I r h
    have hk24 : ∀ (l2 : Int32) (I : am_I) (r : am_I), bX2_recoverAll_24 G.2.2.2.1 fu l2 I = some r → am_J G (d + 1) mX2_recoverAll am_no (am_E none r) 24 [some (.inr (0, 21)), some (.inr (0, 2)), some (.inl l2), none, none, none, none] [] I := fun l2 I r h => ih h
    unfold bX2_recoverAll_24 at h
    generalize bX2_recoverAll_24 G.2.2.2.1 fu = k24 at hk24 h
    dsimp only at h
    refine am_iload_n dX2_recoverAll_24 rfl ?_
    refine am_aload_n dX2_recoverAll_25 rfl ?_
    refine am_alen3 dX2_recoverAll_26 (hG.m0 (by decide)) rfl ?_
    refine am_icmp_ge (tgt := 139) dX2_recoverAll_27 rfl (fun c => ?_) (fun c => ?_)
    · rw [if_pos c] at h
      cases h
      exact am_vret dX2_recoverAll_139 rfl ⟨rfl, rfl⟩
    · rw [if_neg c] at h
      refine am_iload_n dX2_recoverAll_30 rfl ?_
      obtain ⟨q1, hq1, h⟩ := am_bd h
      refine am_callSNx (as := [.inl l2]) (rest := []) dX2_recoverAll_31 lkX10_headBlock nl_X2_58 isX10_headBlock rfl (Nat.le_of_ble_eq_true rfl) rfl (sX10_headBlock hG hq1) ?_
      refine am_istore_n dX2_recoverAll_34 (by decide) ?_
      refine am_aload_n dX2_recoverAll_35 rfl ?_
      refine am_iload_n dX2_recoverAll_36 rfl ?_
      obtain ⟨g2, h⟩ := am_gd_some h
      refine am_aaldG dX2_recoverAll_37 (hG.m0 (by decide)) rfl g2 hG.n31 ?_
      refine am_get (v := .inl (q1.2 l2.toNatClampNeg 40 6)) dX2_recoverAll_38 fl_2_62 (hG.mn (am_inb_lt g2) (by decide) (by decide)) rfl ?_
      refine am_if_eq (tgt := 133) dX2_recoverAll_41 rfl (fun c => ?_) (fun c => ?_)
      · rw [if_pos c] at h
        exact am_lwJ (lo' := [some (.inr (0, 21)), some (.inr (0, 2)), some (.inl l2), none, none, none, none]) ⟨rfl, rfl, rfl, trivial⟩ (tX2_recoverAll_133 hG hk24 h)
      · rw [if_neg c] at h
        refine am_aload_n dX2_recoverAll_44 rfl ?_
        refine am_get (v := .inr (0, 1)) dX2_recoverAll_45 fl_2_28 (hG.m0 (by decide)) rfl ?_
        refine am_iload_n dX2_recoverAll_48 rfl ?_
        refine am_bipush (v := nI 16) dX2_recoverAll_49 (by decide) ?_
        refine am_imul dX2_recoverAll_51 ?_
        refine am_iconst (v := nI 2) dX2_recoverAll_52 (by decide) ?_
        refine am_iadd dX2_recoverAll_53 ?_
        obtain ⟨g3, h⟩ := am_gd_some h
        refine am_ialdG dX2_recoverAll_54 (hG.m0 (by decide)) rfl g3 (show 10240 < 2 ^ 31 by decide) ?_
        refine am_iconst (v := nI 1) dX2_recoverAll_55 (by decide) ?_
        refine am_icmp_eq (tgt := 62) dX2_recoverAll_56 rfl (fun c => ?_) (fun c => ?_)
        · rw [if_pos c] at h
          refine am_bipush (v := nI 16) dX2_recoverAll_62 (by decide) ?_
          refine am_aload_n dX2_recoverAll_64 rfl ?_
          refine am_get (v := .inr (0, 1)) dX2_recoverAll_65 fl_2_28 (hG.m0 (by decide)) rfl ?_
          refine am_iload_n dX2_recoverAll_68 rfl ?_
          refine am_bipush (v := nI 16) dX2_recoverAll_69 (by decide) ?_
          refine am_imul dX2_recoverAll_71 ?_
          refine am_iconst (v := nI 1) dX2_recoverAll_72 (by decide) ?_
          refine am_iadd dX2_recoverAll_73 ?_
          obtain ⟨g4, h⟩ := am_gd_some h
          refine am_ialdG dX2_recoverAll_74 (hG.m0 (by decide)) rfl g4 (show 10240 < 2 ^ 31 by decide) ?_
          refine am_callSx (as := [.inl (nI 16), .inl (q1.2 0 1 (((q1.1 * (nI 16)) + (nI 1)).toNatClampNeg))]) (rest := []) dX2_recoverAll_75 lkJ9_min_7cf53 ml_X2_67 isJ9_min_7cf53 rfl (Nat.le_of_ble_eq_true rfl) rfl (c_min hG.nd (nI 16) (q1.2 0 1 (((q1.1 * (nI 16)) + (nI 1)).toNatClampNeg)) q1.2) ?_
          refine am_istore dX2_recoverAll_78 (by decide) ?_
          refine am_iconst (v := nI 0) dX2_recoverAll_80 (by decide) ?_
          refine am_istore dX2_recoverAll_81 (by decide) ?_
          exact am_lwJ (lo' := [some (.inr (0, 21)), some (.inr (0, 2)), some (.inl l2), some (.inl q1.1), some (.inl ((if (nI 16) ≤ (q1.2 0 1 (((q1.1 * (nI 16)) + (nI 1)).toNatClampNeg)) then (nI 16) else (q1.2 0 1 (((q1.1 * (nI 16)) + (nI 1)).toNatClampNeg))))), some (.inl (nI 0)), none]) ⟨rfl, rfl, rfl, rfl, rfl, rfl, trivial⟩ (tX2_recoverAll_83 hG hk24 h)
        · rw [if_neg c] at h
          refine am_goto (tgt := 133) dX2_recoverAll_59 rfl ?_
          exact am_lwJ (lo' := [some (.inr (0, 21)), some (.inr (0, 2)), some (.inl l2), none, none, none, none]) ⟨rfl, rfl, rfl, trivial⟩ (tX2_recoverAll_133 hG hk24 h)
def bX2_recoverAll_2 (n : Nat) : Nat → Int32 → am_I → Option (am_I)
  | 0, _, _ => none
  | fu + 1, l2, I => (fun k2 => if (nI 640) ≤ l2 then (bX2_recoverAll_24 n am_fu (nI 0) I) else (am_gd (am_inb l2 640) (am_lt (am_up I 0 22 l2.toNatClampNeg l2) (fun I2 => k2 (l2 + nI 1) I2)))) (bX2_recoverAll_2 n fu)
theorem tX2_recoverAll_2 {G : am_G} (hG : am_ok G) {d : Nat} : ∀ {fu : Nat} {l2 : Int32} {I : am_I} {r : am_I}, bX2_recoverAll_2 G.2.2.2.1 fu l2 I = some r → am_J G (d + 1) mX2_recoverAll am_no (am_E none r) 2 [some (.inr (0, 21)), some (.inr (0, 2)), some (.inl l2), none, none, none, none] [] I := by
  intro fu
  induction fu with
  | zero => intro l2 I r h; cases h
  | succ fu ih =>
    intro l2 I r h
    have hk2 : ∀ (l2 : Int32) (I : am_I) (r : am_I), bX2_recoverAll_2 G.2.2.2.1 fu l2 I = some r → am_J G (d + 1) mX2_recoverAll am_no (am_E none r) 2 [some (.inr (0, 21)), some (.inr (0, 2)), some (.inl l2), none, none, none, none] [] I := fun l2 I r h => ih h
    unfold bX2_recoverAll_2 at h
    generalize bX2_recoverAll_2 G.2.2.2.1 fu = k2 at hk2 h
    dsimp only at h
    refine am_iload_n dX2_recoverAll_2 rfl ?_
    refine am_sipush (v := nI 640) dX2_recoverAll_3 (by decide) ?_
    refine am_icmp_ge (tgt := 22) dX2_recoverAll_6 rfl (fun c => ?_) (fun c => ?_)
    · rw [if_pos c] at h
      refine am_iconst (v := nI 0) dX2_recoverAll_22 (by decide) ?_
      refine am_istore_n dX2_recoverAll_23 (by decide) ?_
      exact am_lwJ (lo' := [some (.inr (0, 21)), some (.inr (0, 2)), some (.inl (nI 0)), none, none, none, none]) ⟨rfl, rfl, rfl, trivial⟩ (tX2_recoverAll_24 hG h)
    · rw [if_neg c] at h
      refine am_aload_n dX2_recoverAll_9 rfl ?_
      refine am_get (v := .inr (0, 22)) dX2_recoverAll_10 fl_2_9 (hG.m0 (by decide)) rfl ?_
      refine am_iload_n dX2_recoverAll_13 rfl ?_
      refine am_iload_n dX2_recoverAll_14 rfl ?_
      obtain ⟨g1, h⟩ := am_gd_some h
      refine am_iastG dX2_recoverAll_15 (hG.m0 (by decide)) rfl g1 (show 640 < 2 ^ 31 by decide) ?_
      obtain ⟨I2, hI2, h⟩ := am_lt_some h
      refine am_st10 hI2 ?_
      refine am_iinc (v := l2 + nI 1) dX2_recoverAll_16 rfl rfl ?_
      refine am_goto (tgt := 2) dX2_recoverAll_19 rfl ?_
      exact am_lwJ (lo' := [some (.inr (0, 21)), some (.inr (0, 2)), some (.inl (l2 + nI 1)), none, none, none, none]) ⟨rfl, rfl, rfl, trivial⟩ (hk2 (l2 + nI 1) _ _ h)
def bX2_recoverAll_0 (n : Nat) (I : am_I) : Option (am_I) := bX2_recoverAll_2 n am_fu (nI 0) I
theorem tX2_recoverAll_0 {G : am_G} (hG : am_ok G) {d : Nat} {I : am_I} {r : am_I} (h : bX2_recoverAll_0 G.2.2.2.1  I = some r) : am_J G (d + 1) mX2_recoverAll am_no (am_E none r) 0 [some (.inr (0, 21)), some (.inr (0, 2)), none, none, none, none, none] [] I := by
  unfold bX2_recoverAll_0 at h
  refine am_iconst (v := nI 0) dX2_recoverAll_0 (by decide) ?_
  refine am_istore_n dX2_recoverAll_1 (by decide) ?_
  exact am_lwJ (lo' := [some (.inr (0, 21)), some (.inr (0, 2)), some (.inl (nI 0)), none, none, none, none]) ⟨rfl, rfl, rfl, trivial⟩ (tX2_recoverAll_2 hG h)
def gX2_recoverAll (n : Nat) (I : am_I) : Option (am_I) := bX2_recoverAll_0 n I
theorem sX2_recoverAll {G : am_G} (hG : am_ok G) {d : Nat} {I : am_I} {r : am_I} (h : gX2_recoverAll G.2.2.2.1 I = some r) : am_C G (d + 1) mX2_recoverAll [.inr (0, 21), .inr (0, 2)] I (am_E none r) :=
  am_of (by decide +kernel) hG.nd (Nat.le_of_ble_eq_true rfl) (am_lwJ (lo' := [some (.inr (0, 21)), some (.inr (0, 2)), none, none, none, none, none]) ⟨rfl, rfl, trivial⟩ (tX2_recoverAll_0 hG h))
def bX2_at_28 (n : Nat) (s0 : Int32) (I : am_I) : Option (Int32 × am_I) := some (s0, I)
theorem tX2_at_28 {G : am_G} (hG : am_ok G) {d : Nat} {s0 : Int32} {I : am_I} {r : Int32 × am_I} (h : bX2_at_28 G.2.2.2.1 s0  I = some r) : am_J G (d + 1) mX2_at am_no (am_E (some r.1) r.2) 28 [none, none, none] [.inl s0] I := by
  unfold bX2_at_28 at h
  cases h
  exact am_iret dX2_at_28 rfl rfl ⟨rfl, rfl⟩
def bX2_at_0 (n : Nat) (l1 : Int32) (l2 : Int32) (I : am_I) : Option (Int32 × am_I) := (gX10_isWord n l1 l2 I).bind (fun q1 => if q1.1 = 0 then (bX2_at_28 n (nI 0) q1.2) else (am_gd (am_inb l1 640) (am_gd (am_inb (((q1.2 0 22 l1.toNatClampNeg) * (nI 16)) + l2) 10240) (bX2_at_28 n (q1.2 0 1 ((((q1.2 0 22 l1.toNatClampNeg) * (nI 16)) + l2).toNatClampNeg)) q1.2))))
theorem tX2_at_0 {G : am_G} (hG : am_ok G) {d : Nat} {l1 : Int32} {l2 : Int32} {I : am_I} {r : Int32 × am_I} (h : bX2_at_0 G.2.2.2.1 l1 l2  I = some r) : am_J G (d + 1) mX2_at am_no (am_E (some r.1) r.2) 0 [some (.inr (0, 21)), some (.inl l1), some (.inl l2)] [] I := by
  unfold bX2_at_0 at h
  refine am_iload_n dX2_at_0 rfl ?_
  refine am_iload_n dX2_at_1 rfl ?_
  obtain ⟨q1, hq1, h⟩ := am_bd h
  refine am_callSNx (as := [.inl l1, .inl l2]) (rest := []) dX2_at_2 lkX10_isWord nl_X2_77 isX10_isWord rfl (Nat.le_of_ble_eq_true rfl) rfl (sX10_isWord hG hq1) ?_
  refine am_if_eq (tgt := 27) dX2_at_5 rfl (fun c => ?_) (fun c => ?_)
  · rw [if_pos c] at h
    refine am_iconst (v := nI 0) dX2_at_27 (by decide) ?_
    exact am_lwJ (lo' := [none, none, none]) trivial (tX2_at_28 hG h)
  · rw [if_neg c] at h
    refine am_aload_n dX2_at_8 rfl ?_
    refine am_get (v := .inr (0, 1)) dX2_at_9 fl_2_28 (hG.m0 (by decide)) rfl ?_
    refine am_aload_n dX2_at_12 rfl ?_
    refine am_get (v := .inr (0, 22)) dX2_at_13 fl_2_9 (hG.m0 (by decide)) rfl ?_
    refine am_iload_n dX2_at_16 rfl ?_
    obtain ⟨g2, h⟩ := am_gd_some h
    refine am_ialdG dX2_at_17 (hG.m0 (by decide)) rfl g2 (show 640 < 2 ^ 31 by decide) ?_
    refine am_bipush (v := nI 16) dX2_at_18 (by decide) ?_
    refine am_imul dX2_at_20 ?_
    refine am_iload_n dX2_at_21 rfl ?_
    refine am_iadd dX2_at_22 ?_
    obtain ⟨g3, h⟩ := am_gd_some h
    refine am_ialdG dX2_at_23 (hG.m0 (by decide)) rfl g3 (show 10240 < 2 ^ 31 by decide) ?_
    refine am_goto (tgt := 28) dX2_at_24 rfl ?_
    exact am_lwJ (lo' := [none, none, none]) trivial (tX2_at_28 hG h)
def gX2_at (n : Nat) (l1 : Int32) (l2 : Int32) (I : am_I) : Option (Int32 × am_I) := bX2_at_0 n l1 l2 I
theorem sX2_at {G : am_G} (hG : am_ok G) {d : Nat} {l1 : Int32} {l2 : Int32} {I : am_I} {r : Int32 × am_I} (h : gX2_at G.2.2.2.1 l1 l2 I = some r) : am_C G (d + 1) mX2_at [.inr (0, 21), .inl l1, .inl l2] I (am_E (some r.1) r.2) :=
  am_of (by decide +kernel) hG.nd (Nat.le_of_ble_eq_true rfl) (am_lwJ (lo' := [some (.inr (0, 21)), some (.inl l1), some (.inl l2)]) ⟨rfl, rfl, rfl, trivial⟩ (tX2_at_0 hG h))
def bX2_kindOf_0 (n : Nat) (l1 : Int32) (I : am_I) : Option (Int32 × am_I) := (gX10_inodeBlock n l1 I).bind (fun q1 => (gX2_at n q1.1 (nI 0) q1.2).bind (fun q2 => some (q2.1, q2.2)))
theorem tX2_kindOf_0 {G : am_G} (hG : am_ok G) {d : Nat} {l1 : Int32} {I : am_I} {r : Int32 × am_I} (h : bX2_kindOf_0 G.2.2.2.1 l1  I = some r) : am_J G (d + 2) mX2_kindOf am_no (am_E (some r.1) r.2) 0 [some (.inr (0, 21)), some (.inl l1)] [] I := by
  unfold bX2_kindOf_0 at h
  refine am_aload_n dX2_kindOf_0 rfl ?_
  refine am_iload_n dX2_kindOf_1 rfl ?_
  obtain ⟨q1, hq1, h⟩ := am_bd h
  refine am_callSNx (as := [.inl l1]) (rest := [.inr (0, 21)]) dX2_kindOf_2 lkX10_inodeBlock nl_X2_81 isX10_inodeBlock rfl (Nat.le_of_ble_eq_true rfl) rfl (sX10_inodeBlock hG hq1) ?_
  refine am_iconst (v := nI 0) dX2_kindOf_5 (by decide) ?_
  obtain ⟨q2, hq2, h⟩ := am_bd h
  refine am_callVx (i := 0) (j := 21) (as := [.inl q1.1, .inl (nI 0)]) (rest := []) dX2_kindOf_6 lkX2_at ml_X2_84 imX2_at seX2_at rfl rfl (hG.m0 (by decide)) rfl (Nat.le_of_ble_eq_true rfl) rfl (sX2_at hG hq2) ?_
  cases h
  exact am_iret dX2_kindOf_9 rfl rfl ⟨rfl, rfl⟩
def gX2_kindOf (n : Nat) (l1 : Int32) (I : am_I) : Option (Int32 × am_I) := bX2_kindOf_0 n l1 I
theorem sX2_kindOf {G : am_G} (hG : am_ok G) {d : Nat} {l1 : Int32} {I : am_I} {r : Int32 × am_I} (h : gX2_kindOf G.2.2.2.1 l1 I = some r) : am_C G (d + 2) mX2_kindOf [.inr (0, 21), .inl l1] I (am_E (some r.1) r.2) :=
  am_of (by decide +kernel) hG.nd (Nat.le_of_ble_eq_true rfl) (am_lwJ (lo' := [some (.inr (0, 21)), some (.inl l1)]) ⟨rfl, rfl, trivial⟩ (tX2_kindOf_0 hG h))
def bX2_reach_55 (n : Nat) (I : am_I) : Option (am_I) := some I
theorem tX2_reach_55 {G : am_G} (hG : am_ok G) {d : Nat} {I : am_I} {r : am_I} (h : bX2_reach_55 G.2.2.2.1  I = some r) : am_J G (d + 3) mX2_reach am_no (am_E none r) 55 [none, none] [] I := by
  unfold bX2_reach_55 at h
  cases h
  exact am_vret dX2_reach_55 rfl ⟨rfl, rfl⟩
def bX2_reach_0 (n : Nat) (l1 : Int32) (I : am_I) : Option (am_I) := am_gd (am_inb l1 128) (if (I 0 24 l1.toNatClampNeg) = 0 then (am_gd (am_inb l1 128) (am_lt (am_up I 0 24 l1.toNatClampNeg (nI 1)) (fun I3 => (gX2_kindOf n l1 I3).bind (fun q4 => if q4.1 = (nI 2) then (if (nI 128) ≤ (q4.2 0 21 5) then (bX2_reach_55 n q4.2) else (am_gd (am_inb (q4.2 0 21 5) 128) (am_lt (am_up q4.2 0 25 (q4.2 0 21 5).toNatClampNeg l1) (fun I6 => am_lt (am_up I6 0 21 5 ((I6 0 21 5) + (nI 1))) (fun I7 => bX2_reach_55 n I7))))) else (bX2_reach_55 n q4.2))))) else (bX2_reach_55 n I))
theorem tX2_reach_0 {G : am_G} (hG : am_ok G) {d : Nat} {l1 : Int32} {I : am_I} {r : am_I} (h : bX2_reach_0 G.2.2.2.1 l1  I = some r) : am_J G (d + 3) mX2_reach am_no (am_E none r) 0 [some (.inr (0, 21)), some (.inl l1)] [] I := by
  unfold bX2_reach_0 at h
  refine am_aload_n dX2_reach_0 rfl ?_
  refine am_get (v := .inr (0, 24)) dX2_reach_1 fl_2_18 (hG.m0 (by decide)) rfl ?_
  refine am_iload_n dX2_reach_4 rfl ?_
  obtain ⟨g1, h⟩ := am_gd_some h
  refine am_zaldG dX2_reach_5 (hG.m0 (by decide)) rfl g1 (show 128 < 2 ^ 31 by decide) ?_
  refine am_if_ne (tgt := 55) dX2_reach_6 rfl (fun c => ?_) (fun c => ?_)
  · rw [if_neg c] at h
    exact am_lwJ (lo' := [none, none]) trivial (tX2_reach_55 hG h)
  · rw [if_pos c] at h
    refine am_aload_n dX2_reach_9 rfl ?_
    refine am_get (v := .inr (0, 24)) dX2_reach_10 fl_2_18 (hG.m0 (by decide)) rfl ?_
    refine am_iload_n dX2_reach_13 rfl ?_
    refine am_iconst (v := nI 1) dX2_reach_14 (by decide) ?_
    obtain ⟨g2, h⟩ := am_gd_some h
    refine am_zastG dX2_reach_15 (hG.m0 (by decide)) rfl (by decide) g2 (show 128 < 2 ^ 31 by decide) ?_
    obtain ⟨I3, hI3, h⟩ := am_lt_some h
    refine am_st10 hI3 ?_
    refine am_aload_n dX2_reach_16 rfl ?_
    refine am_iload_n dX2_reach_17 rfl ?_
    obtain ⟨q4, hq4, h⟩ := am_bd h
    refine am_callVx (i := 0) (j := 21) (as := [.inl l1]) (rest := []) dX2_reach_18 lkX2_kindOf ml_X2_104 imX2_kindOf seX2_kindOf rfl rfl (hG.m0 (by decide)) rfl (Nat.le_of_ble_eq_true rfl) rfl (sX2_kindOf hG hq4) ?_
    refine am_iconst (v := nI 2) dX2_reach_21 (by decide) ?_
    refine am_icmp_ne (tgt := 55) dX2_reach_22 rfl (fun c => ?_) (fun c => ?_)
    · rw [if_neg c] at h
      exact am_lwJ (lo' := [none, none]) trivial (tX2_reach_55 hG h)
    · rw [if_pos c] at h
      refine am_aload_n dX2_reach_25 rfl ?_
      refine am_get (v := .inl (q4.2 0 21 5)) dX2_reach_26 fl_2_93 (hG.m0 (by decide)) rfl ?_
      refine am_sipush (v := nI 128) dX2_reach_29 (by decide) ?_
      refine am_icmp_ge (tgt := 55) dX2_reach_32 rfl (fun c => ?_) (fun c => ?_)
      · rw [if_pos c] at h
        exact am_lwJ (lo' := [none, none]) trivial (tX2_reach_55 hG h)
      · rw [if_neg c] at h
        refine am_aload_n dX2_reach_35 rfl ?_
        refine am_get (v := .inr (0, 25)) dX2_reach_36 fl_2_22 (hG.m0 (by decide)) rfl ?_
        refine am_aload_n dX2_reach_39 rfl ?_
        refine am_get (v := .inl (q4.2 0 21 5)) dX2_reach_40 fl_2_93 (hG.m0 (by decide)) rfl ?_
        refine am_iload_n dX2_reach_43 rfl ?_
        obtain ⟨g5, h⟩ := am_gd_some h
        refine am_iastG dX2_reach_44 (hG.m0 (by decide)) rfl g5 (show 128 < 2 ^ 31 by decide) ?_
        obtain ⟨I6, hI6, h⟩ := am_lt_some h
        refine am_st10 hI6 ?_
        refine am_aload_n dX2_reach_45 rfl ?_
        refine am_dup dX2_reach_46 ?_
        refine am_get (v := .inl (I6 0 21 5)) dX2_reach_47 fl_2_93 (hG.m0 (by decide)) rfl ?_
        refine am_iconst (v := nI 1) dX2_reach_50 (by decide) ?_
        refine am_iadd dX2_reach_51 ?_
        refine am_put (x := (I6 0 21 5) + (nI 1)) dX2_reach_52 fp_2_93 (hG.m0 (by decide)) (Nat.le_of_ble_eq_true rfl) rfl ?_
        obtain ⟨I7, hI7, h⟩ := am_lt_some h
        refine am_st10 hI7 ?_
        exact am_lwJ (lo' := [none, none]) trivial (tX2_reach_55 hG h)
def gX2_reach (n : Nat) (l1 : Int32) (I : am_I) : Option (am_I) := bX2_reach_0 n l1 I
theorem sX2_reach {G : am_G} (hG : am_ok G) {d : Nat} {l1 : Int32} {I : am_I} {r : am_I} (h : gX2_reach G.2.2.2.1 l1 I = some r) : am_C G (d + 3) mX2_reach [.inr (0, 21), .inl l1] I (am_E none r) :=
  am_of (by decide +kernel) hG.nd (Nat.le_of_ble_eq_true rfl) (am_lwJ (lo' := [some (.inr (0, 21)), some (.inl l1)]) ⟨rfl, rfl, trivial⟩ (tX2_reach_0 hG h))
def bX2_followEntries_163 (n : Nat) (k30 : Int32 → Int32 → Int32 → Int32 → am_I → Option (am_I)) (l2 : Int32) (l3 : Int32) (l4 : Int32) (l5 : Int32) (I : am_I) : Option (am_I) := k30 l2 l3 l4 (l5 + nI 2) I
theorem tX2_followEntries_163 {G : am_G} (hG : am_ok G) {d : Nat} {k30 : Int32 → Int32 → Int32 → Int32 → am_I → Option (am_I)} (hk30 : ∀ (l2 : Int32) (l3 : Int32) (l4 : Int32) (l5 : Int32) (I : am_I) (r : am_I), k30 l2 l3 l4 l5 I = some r → am_J G (d + 4) mX2_followEntries am_no (am_E none r) 30 [some (.inr (0, 21)), none, some (.inl l2), some (.inl l3), some (.inl l4), some (.inl l5), none, none, none] [] I) {l2 : Int32} {l3 : Int32} {l4 : Int32} {l5 : Int32} {I : am_I} {r : am_I} (h : bX2_followEntries_163 G.2.2.2.1 k30 l2 l3 l4 l5  I = some r) : am_J G (d + 4) mX2_followEntries am_no (am_E none r) 163 [some (.inr (0, 21)), none, some (.inl l2), some (.inl l3), some (.inl l4), some (.inl l5), none, none, none] [] I := by
  unfold bX2_followEntries_163 at h
  refine am_iinc (v := l5 + nI 2) dX2_followEntries_163 rfl rfl ?_
  refine am_goto (tgt := 30) dX2_followEntries_166 rfl ?_
  exact am_lwJ (lo' := [some (.inr (0, 21)), none, some (.inl l2), some (.inl l3), some (.inl l4), some (.inl (l5 + nI 2)), none, none, none]) ⟨rfl, rfl, rfl, rfl, rfl, trivial⟩ (hk30 l2 l3 l4 (l5 + nI 2) _ _ h)
def bX2_followEntries_138 (n : Nat) (k30 : Int32 → Int32 → Int32 → Int32 → am_I → Option (am_I)) (l2 : Int32) (l3 : Int32) (l4 : Int32) (l5 : Int32) (I : am_I) : Option (am_I) := am_lt (am_up I 0 21 7 (nI 1)) (fun I1 => bX2_followEntries_163 n k30 l2 l3 l4 l5 I1)
theorem tX2_followEntries_138 {G : am_G} (hG : am_ok G) {d : Nat} {k30 : Int32 → Int32 → Int32 → Int32 → am_I → Option (am_I)} (hk30 : ∀ (l2 : Int32) (l3 : Int32) (l4 : Int32) (l5 : Int32) (I : am_I) (r : am_I), k30 l2 l3 l4 l5 I = some r → am_J G (d + 4) mX2_followEntries am_no (am_E none r) 30 [some (.inr (0, 21)), none, some (.inl l2), some (.inl l3), some (.inl l4), some (.inl l5), none, none, none] [] I) {l2 : Int32} {l3 : Int32} {l4 : Int32} {l5 : Int32} {I : am_I} {r : am_I} (h : bX2_followEntries_138 G.2.2.2.1 k30 l2 l3 l4 l5  I = some r) : am_J G (d + 4) mX2_followEntries am_no (am_E none r) 138 [some (.inr (0, 21)), none, some (.inl l2), some (.inl l3), some (.inl l4), some (.inl l5), none, none, none] [] I := by
  unfold bX2_followEntries_138 at h
  refine am_aload_n dX2_followEntries_138 rfl ?_
  refine am_iconst (v := nI 1) dX2_followEntries_139 (by decide) ?_
  refine am_putz (x := nI 1) dX2_followEntries_140 fp_2_38 (hG.m0 (by decide)) (by decide) (Nat.le_of_ble_eq_true rfl) rfl ?_
  obtain ⟨I1, hI1, h⟩ := am_lt_some h
  refine am_st10 hI1 ?_
  refine am_goto (tgt := 163) dX2_followEntries_143 rfl ?_
  exact am_lwJ (lo' := [some (.inr (0, 21)), none, some (.inl l2), some (.inl l3), some (.inl l4), some (.inl l5), none, none, none]) ⟨rfl, rfl, rfl, rfl, rfl, trivial⟩ (tX2_followEntries_163 hG hk30 h)
def bX2_followEntries_82 (n : Nat) (k30 : Int32 → Int32 → Int32 → Int32 → am_I → Option (am_I)) (l2 : Int32) (l3 : Int32) (l4 : Int32) (l5 : Int32) (s0 : Int32) (I : am_I) : Option (am_I) := if s0 = 0 then (bX2_followEntries_163 n k30 l2 l3 l4 l5 I) else ((gX2_at n s0 (l5 - l5 / (nI 16) * (nI 16)) I).bind (fun q1 => if q1.1 = 0 then (bX2_followEntries_163 n k30 l2 l3 l4 l5 q1.2) else ((gX2_at n s0 ((l5 - l5 / (nI 16) * (nI 16)) + (nI 1)) q1.2).bind (fun q2 => (gX10_isInode n q2.1 q2.2).bind (fun q3 => if q3.1 = 0 then (bX2_followEntries_138 n k30 l2 l3 l4 l5 q3.2) else ((gX2_kindOf n q2.1 q3.2).bind (fun q4 => if q4.1 = 0 then (bX2_followEntries_138 n k30 l2 l3 l4 l5 q4.2) else (am_gd (am_inb q2.1 128) (am_gd (am_inb q2.1 128) (am_lt (am_up q4.2 0 23 q2.1.toNatClampNeg ((q4.2 0 23 q2.1.toNatClampNeg) + (nI 1))) (fun I7 => (gX2_reach n q2.1 I7).bind (fun q8 => bX2_followEntries_163 n k30 l2 l3 l4 l5 q8))))))))))))
theorem tX2_followEntries_82 {G : am_G} (hG : am_ok G) {d : Nat} {k30 : Int32 → Int32 → Int32 → Int32 → am_I → Option (am_I)} (hk30 : ∀ (l2 : Int32) (l3 : Int32) (l4 : Int32) (l5 : Int32) (I : am_I) (r : am_I), k30 l2 l3 l4 l5 I = some r → am_J G (d + 4) mX2_followEntries am_no (am_E none r) 30 [some (.inr (0, 21)), none, some (.inl l2), some (.inl l3), some (.inl l4), some (.inl l5), none, none, none] [] I) {l2 : Int32} {l3 : Int32} {l4 : Int32} {l5 : Int32} {s0 : Int32} {I : am_I} {r : am_I} (h : bX2_followEntries_82 G.2.2.2.1 k30 l2 l3 l4 l5 s0  I = some r) : am_J G (d + 4) mX2_followEntries am_no (am_E none r) 82 [some (.inr (0, 21)), none, some (.inl l2), some (.inl l3), some (.inl l4), some (.inl l5), none, none, none] [.inl s0] I := by
  unfold bX2_followEntries_82 at h
  refine am_istore dX2_followEntries_82 (by decide) ?_
  refine am_iload dX2_followEntries_84 rfl ?_
  refine am_if_eq (tgt := 163) dX2_followEntries_86 rfl (fun c => ?_) (fun c => ?_)
  · rw [if_pos c] at h
    exact am_lwJ (lo' := [some (.inr (0, 21)), none, some (.inl l2), some (.inl l3), some (.inl l4), some (.inl l5), none, none, none]) ⟨rfl, rfl, rfl, rfl, rfl, trivial⟩ (tX2_followEntries_163 hG hk30 h)
  · rw [if_neg c] at h
    refine am_aload_n dX2_followEntries_89 rfl ?_
    refine am_iload dX2_followEntries_90 rfl ?_
    refine am_iload dX2_followEntries_92 rfl ?_
    refine am_bipush (v := nI 16) dX2_followEntries_94 (by decide) ?_
    refine am_irem dX2_followEntries_96 (by decide) ?_
    obtain ⟨q1, hq1, h⟩ := am_bd h
    refine am_callVx (i := 0) (j := 21) (as := [.inl s0, .inl (l5 - l5 / (nI 16) * (nI 16))]) (rest := []) dX2_followEntries_97 lkX2_at ml_X2_84 imX2_at seX2_at rfl rfl (hG.m0 (by decide)) rfl (Nat.le_of_ble_eq_true rfl) rfl (sX2_at hG hq1) ?_
    refine am_if_ne (tgt := 106) dX2_followEntries_100 rfl (fun c => ?_) (fun c => ?_)
    · rw [if_neg c] at h
      refine am_aload_n dX2_followEntries_106 rfl ?_
      refine am_iload dX2_followEntries_107 rfl ?_
      refine am_iload dX2_followEntries_109 rfl ?_
      refine am_bipush (v := nI 16) dX2_followEntries_111 (by decide) ?_
      refine am_irem dX2_followEntries_113 (by decide) ?_
      refine am_iconst (v := nI 1) dX2_followEntries_114 (by decide) ?_
      refine am_iadd dX2_followEntries_115 ?_
      obtain ⟨q2, hq2, h⟩ := am_bd h
      refine am_callVx (i := 0) (j := 21) (as := [.inl s0, .inl ((l5 - l5 / (nI 16) * (nI 16)) + (nI 1))]) (rest := []) dX2_followEntries_116 lkX2_at ml_X2_84 imX2_at seX2_at rfl rfl (hG.m0 (by decide)) rfl (Nat.le_of_ble_eq_true rfl) rfl (sX2_at hG hq2) ?_
      refine am_istore dX2_followEntries_119 (by decide) ?_
      refine am_iload dX2_followEntries_121 rfl ?_
      obtain ⟨q3, hq3, h⟩ := am_bd h
      refine am_callSNx (as := [.inl q2.1]) (rest := []) dX2_followEntries_123 lkX10_isInode nl_X2_107 isX10_isInode rfl (Nat.le_of_ble_eq_true rfl) rfl (sX10_isInode hG hq3) ?_
      refine am_if_eq (tgt := 138) dX2_followEntries_126 rfl (fun c => ?_) (fun c => ?_)
      · rw [if_pos c] at h
        exact am_lwJ (lo' := [some (.inr (0, 21)), none, some (.inl l2), some (.inl l3), some (.inl l4), some (.inl l5), none, none, none]) ⟨rfl, rfl, rfl, rfl, rfl, trivial⟩ (tX2_followEntries_138 hG hk30 h)
      · rw [if_neg c] at h
        refine am_aload_n dX2_followEntries_129 rfl ?_
        refine am_iload dX2_followEntries_130 rfl ?_
        obtain ⟨q4, hq4, h⟩ := am_bd h
        refine am_callVx (i := 0) (j := 21) (as := [.inl q2.1]) (rest := []) dX2_followEntries_132 lkX2_kindOf ml_X2_104 imX2_kindOf seX2_kindOf rfl rfl (hG.m0 (by decide)) rfl (Nat.le_of_ble_eq_true rfl) rfl (sX2_kindOf hG hq4) ?_
        refine am_if_ne (tgt := 146) dX2_followEntries_135 rfl (fun c => ?_) (fun c => ?_)
        · rw [if_neg c] at h
          refine am_aload_n dX2_followEntries_146 rfl ?_
          refine am_get (v := .inr (0, 23)) dX2_followEntries_147 fl_2_15 (hG.m0 (by decide)) rfl ?_
          refine am_iload dX2_followEntries_150 rfl ?_
          refine am_dup2 dX2_followEntries_152 ?_
          obtain ⟨g5, h⟩ := am_gd_some h
          refine am_ialdG dX2_followEntries_153 (hG.m0 (by decide)) rfl g5 (show 128 < 2 ^ 31 by decide) ?_
          refine am_iconst (v := nI 1) dX2_followEntries_154 (by decide) ?_
          refine am_iadd dX2_followEntries_155 ?_
          obtain ⟨g6, h⟩ := am_gd_some h
          refine am_iastG dX2_followEntries_156 (hG.m0 (by decide)) rfl g6 (show 128 < 2 ^ 31 by decide) ?_
          obtain ⟨I7, hI7, h⟩ := am_lt_some h
          refine am_st10 hI7 ?_
          refine am_aload_n dX2_followEntries_157 rfl ?_
          refine am_iload dX2_followEntries_158 rfl ?_
          obtain ⟨q8, hq8, h⟩ := am_bd h
          refine am_callVe (i := 0) (j := 21) (as := [.inl q2.1]) (rest := []) dX2_followEntries_160 lkX2_reach ml_X2_97 imX2_reach seX2_reach rfl rfl (hG.m0 (by decide)) rfl (Nat.le_of_ble_eq_true rfl) rfl (sX2_reach hG hq8) ?_
          exact am_lwJ (lo' := [some (.inr (0, 21)), none, some (.inl l2), some (.inl l3), some (.inl l4), some (.inl l5), none, none, none]) ⟨rfl, rfl, rfl, rfl, rfl, trivial⟩ (tX2_followEntries_163 hG hk30 h)
        · rw [if_pos c] at h
          exact am_lwJ (lo' := [some (.inr (0, 21)), none, some (.inl l2), some (.inl l3), some (.inl l4), some (.inl l5), none, none, none]) ⟨rfl, rfl, rfl, rfl, rfl, trivial⟩ (tX2_followEntries_138 hG hk30 h)
    · rw [if_pos c] at h
      refine am_goto (tgt := 163) dX2_followEntries_103 rfl ?_
      exact am_lwJ (lo' := [some (.inr (0, 21)), none, some (.inl l2), some (.inl l3), some (.inl l4), some (.inl l5), none, none, none]) ⟨rfl, rfl, rfl, rfl, rfl, trivial⟩ (tX2_followEntries_163 hG hk30 h)
def bX2_followEntries_30 (n : Nat) : Nat → Int32 → Int32 → Int32 → Int32 → am_I → Option (am_I)
  | 0, _, _, _, _, _ => none
  | fu + 1, l2, l3, l4, l5, I => (fun k30 => if l3 ≤ l5 then (some I) else (if (nI 8) ≤ (l5 / (nI 16)) then (if l4 = 0 then (bX2_followEntries_82 n k30 l2 l3 l4 l5 (nI 0) I) else ((gX2_at n l4 ((l5 / (nI 16)) - (nI 8)) I).bind (fun q1 => bX2_followEntries_82 n k30 l2 l3 l4 l5 q1.1 q1.2))) else ((gX2_at n l2 ((nI 3) + (l5 / (nI 16))) I).bind (fun q2 => bX2_followEntries_82 n k30 l2 l3 l4 l5 q2.1 q2.2)))) (bX2_followEntries_30 n fu)
theorem tX2_followEntries_30 {G : am_G} (hG : am_ok G) {d : Nat} : ∀ {fu : Nat} {l2 : Int32} {l3 : Int32} {l4 : Int32} {l5 : Int32} {I : am_I} {r : am_I}, bX2_followEntries_30 G.2.2.2.1 fu l2 l3 l4 l5 I = some r → am_J G (d + 4) mX2_followEntries am_no (am_E none r) 30 [some (.inr (0, 21)), none, some (.inl l2), some (.inl l3), some (.inl l4), some (.inl l5), none, none, none] [] I := by
  intro fu
  induction fu with
  | zero => intro l2 l3 l4 l5 I r h; cases h
  | succ fu ih =>
    intro l2 l3 l4 l5 I r h
    have hk30 : ∀ (l2 : Int32) (l3 : Int32) (l4 : Int32) (l5 : Int32) (I : am_I) (r : am_I), bX2_followEntries_30 G.2.2.2.1 fu l2 l3 l4 l5 I = some r → am_J G (d + 4) mX2_followEntries am_no (am_E none r) 30 [some (.inr (0, 21)), none, some (.inl l2), some (.inl l3), some (.inl l4), some (.inl l5), none, none, none] [] I := fun l2 l3 l4 l5 I r h => ih h
    unfold bX2_followEntries_30 at h
    generalize bX2_followEntries_30 G.2.2.2.1 fu = k30 at hk30 h
    dsimp only at h
    refine am_iload dX2_followEntries_30 rfl ?_
    refine am_iload_n dX2_followEntries_32 rfl ?_
    refine am_icmp_ge (tgt := 169) dX2_followEntries_33 rfl (fun c => ?_) (fun c => ?_)
    · rw [if_pos c] at h
      cases h
      exact am_vret dX2_followEntries_169 rfl ⟨rfl, rfl⟩
    · rw [if_neg c] at h
      refine am_iload dX2_followEntries_36 rfl ?_
      refine am_bipush (v := nI 16) dX2_followEntries_38 (by decide) ?_
      refine am_idiv dX2_followEntries_40 (by decide) ?_
      refine am_istore dX2_followEntries_41 (by decide) ?_
      refine am_iload dX2_followEntries_43 rfl ?_
      refine am_bipush (v := nI 8) dX2_followEntries_45 (by decide) ?_
      refine am_icmp_ge (tgt := 62) dX2_followEntries_47 rfl (fun c => ?_) (fun c => ?_)
      · rw [if_pos c] at h
        refine am_iload dX2_followEntries_62 rfl ?_
        refine am_if_ne (tgt := 71) dX2_followEntries_64 rfl (fun c => ?_) (fun c => ?_)
        · rw [if_neg c] at h
          refine am_aload_n dX2_followEntries_71 rfl ?_
          refine am_iload dX2_followEntries_72 rfl ?_
          refine am_iload dX2_followEntries_74 rfl ?_
          refine am_bipush (v := nI 8) dX2_followEntries_76 (by decide) ?_
          refine am_isub dX2_followEntries_78 ?_
          obtain ⟨q1, hq1, h⟩ := am_bd h
          refine am_callVx (i := 0) (j := 21) (as := [.inl l4, .inl ((l5 / (nI 16)) - (nI 8))]) (rest := []) dX2_followEntries_79 lkX2_at ml_X2_84 imX2_at seX2_at rfl rfl (hG.m0 (by decide)) rfl (Nat.le_of_ble_eq_true rfl) rfl (sX2_at hG hq1) ?_
          exact am_lwJ (lo' := [some (.inr (0, 21)), none, some (.inl l2), some (.inl l3), some (.inl l4), some (.inl l5), none, none, none]) ⟨rfl, rfl, rfl, rfl, rfl, trivial⟩ (tX2_followEntries_82 hG hk30 h)
        · rw [if_pos c] at h
          refine am_iconst (v := nI 0) dX2_followEntries_67 (by decide) ?_
          refine am_goto (tgt := 82) dX2_followEntries_68 rfl ?_
          exact am_lwJ (lo' := [some (.inr (0, 21)), none, some (.inl l2), some (.inl l3), some (.inl l4), some (.inl l5), none, none, none]) ⟨rfl, rfl, rfl, rfl, rfl, trivial⟩ (tX2_followEntries_82 hG hk30 h)
      · rw [if_neg c] at h
        refine am_aload_n dX2_followEntries_50 rfl ?_
        refine am_iload_n dX2_followEntries_51 rfl ?_
        refine am_iconst (v := nI 3) dX2_followEntries_52 (by decide) ?_
        refine am_iload dX2_followEntries_53 rfl ?_
        refine am_iadd dX2_followEntries_55 ?_
        obtain ⟨q2, hq2, h⟩ := am_bd h
        refine am_callVx (i := 0) (j := 21) (as := [.inl l2, .inl ((nI 3) + (l5 / (nI 16)))]) (rest := []) dX2_followEntries_56 lkX2_at ml_X2_84 imX2_at seX2_at rfl rfl (hG.m0 (by decide)) rfl (Nat.le_of_ble_eq_true rfl) rfl (sX2_at hG hq2) ?_
        refine am_goto (tgt := 82) dX2_followEntries_59 rfl ?_
        exact am_lwJ (lo' := [some (.inr (0, 21)), none, some (.inl l2), some (.inl l3), some (.inl l4), some (.inl l5), none, none, none]) ⟨rfl, rfl, rfl, rfl, rfl, trivial⟩ (tX2_followEntries_82 hG hk30 h)
def bX2_followEntries_0 (n : Nat) (l1 : Int32) (I : am_I) : Option (am_I) := (gX10_inodeBlock n l1 I).bind (fun q1 => (gX2_at n q1.1 (nI 2) q1.2).bind (fun q2 => (gX2_at n q1.1 (nI 11) q2.2).bind (fun q3 => bX2_followEntries_30 n am_fu q1.1 ((if (nI 384) ≤ q2.1 then (nI 384) else q2.1)) q3.1 (nI 0) q3.2)))
theorem tX2_followEntries_0 {G : am_G} (hG : am_ok G) {d : Nat} {l1 : Int32} {I : am_I} {r : am_I} (h : bX2_followEntries_0 G.2.2.2.1 l1  I = some r) : am_J G (d + 4) mX2_followEntries am_no (am_E none r) 0 [some (.inr (0, 21)), some (.inl l1), none, none, none, none, none, none, none] [] I := by
  unfold bX2_followEntries_0 at h
  refine am_iload_n dX2_followEntries_0 rfl ?_
  obtain ⟨q1, hq1, h⟩ := am_bd h
  refine am_callSNx (as := [.inl l1]) (rest := []) dX2_followEntries_1 lkX10_inodeBlock nl_X2_81 isX10_inodeBlock rfl (Nat.le_of_ble_eq_true rfl) rfl (sX10_inodeBlock hG hq1) ?_
  refine am_istore_n dX2_followEntries_4 (by decide) ?_
  refine am_sipush (v := nI 384) dX2_followEntries_5 (by decide) ?_
  refine am_aload_n dX2_followEntries_8 rfl ?_
  refine am_iload_n dX2_followEntries_9 rfl ?_
  refine am_iconst (v := nI 2) dX2_followEntries_10 (by decide) ?_
  obtain ⟨q2, hq2, h⟩ := am_bd h
  refine am_callVx (i := 0) (j := 21) (as := [.inl q1.1, .inl (nI 2)]) (rest := [.inl (nI 384)]) dX2_followEntries_11 lkX2_at ml_X2_84 imX2_at seX2_at rfl rfl (hG.m0 (by decide)) rfl (Nat.le_of_ble_eq_true rfl) rfl (sX2_at hG hq2) ?_
  refine am_callSx (as := [.inl (nI 384), .inl q2.1]) (rest := []) dX2_followEntries_14 lkJ9_min_7cf53 ml_X2_67 isJ9_min_7cf53 rfl (Nat.le_of_ble_eq_true rfl) rfl (c_min hG.nd (nI 384) q2.1 q2.2) ?_
  refine am_istore_n dX2_followEntries_17 (by decide) ?_
  refine am_aload_n dX2_followEntries_18 rfl ?_
  refine am_iload_n dX2_followEntries_19 rfl ?_
  refine am_bipush (v := nI 11) dX2_followEntries_20 (by decide) ?_
  obtain ⟨q3, hq3, h⟩ := am_bd h
  refine am_callVx (i := 0) (j := 21) (as := [.inl q1.1, .inl (nI 11)]) (rest := []) dX2_followEntries_22 lkX2_at ml_X2_84 imX2_at seX2_at rfl rfl (hG.m0 (by decide)) rfl (Nat.le_of_ble_eq_true rfl) rfl (sX2_at hG hq3) ?_
  refine am_istore dX2_followEntries_25 (by decide) ?_
  refine am_iconst (v := nI 0) dX2_followEntries_27 (by decide) ?_
  refine am_istore dX2_followEntries_28 (by decide) ?_
  exact am_lwJ (lo' := [some (.inr (0, 21)), none, some (.inl q1.1), some (.inl ((if (nI 384) ≤ q2.1 then (nI 384) else q2.1))), some (.inl q3.1), some (.inl (nI 0)), none, none, none]) ⟨rfl, rfl, rfl, rfl, rfl, trivial⟩ (tX2_followEntries_30 hG h)
def gX2_followEntries (n : Nat) (l1 : Int32) (I : am_I) : Option (am_I) := bX2_followEntries_0 n l1 I
theorem sX2_followEntries {G : am_G} (hG : am_ok G) {d : Nat} {l1 : Int32} {I : am_I} {r : am_I} (h : gX2_followEntries G.2.2.2.1 l1 I = some r) : am_C G (d + 4) mX2_followEntries [.inr (0, 21), .inl l1] I (am_E none r) :=
  am_of (by decide +kernel) hG.nd (Nat.le_of_ble_eq_true rfl) (am_lwJ (lo' := [some (.inr (0, 21)), some (.inl l1), none, none, none, none, none, none, none]) ⟨rfl, rfl, trivial⟩ (tX2_followEntries_0 hG h))
def bX2_walk_78 (n : Nat) (I : am_I) : Option (am_I) := some I
theorem tX2_walk_78 {G : am_G} (hG : am_ok G) {d : Nat} {I : am_I} {r : am_I} (h : bX2_walk_78 G.2.2.2.1  I = some r) : am_J G (d + 5) mX2_walk am_no (am_E none r) 78 [none, none] [] I := by
  unfold bX2_walk_78 at h
  cases h
  exact am_vret dX2_walk_78 rfl ⟨rfl, rfl⟩
def bX2_walk_47 (n : Nat) : Nat → Int32 → am_I → Option (am_I)
  | 0, _, _ => none
  | fu + 1, l1, I => (fun k47 => if (I 0 21 5) ≤ l1 then (bX2_walk_78 n I) else (if (nI 128) ≤ l1 then (bX2_walk_78 n I) else (am_gd (am_inb l1 128) ((gX2_followEntries n (I 0 25 l1.toNatClampNeg) I).bind (fun q2 => k47 (l1 + nI 1) q2))))) (bX2_walk_47 n fu)
theorem tX2_walk_47 {G : am_G} (hG : am_ok G) {d : Nat} : ∀ {fu : Nat} {l1 : Int32} {I : am_I} {r : am_I}, bX2_walk_47 G.2.2.2.1 fu l1 I = some r → am_J G (d + 5) mX2_walk am_no (am_E none r) 47 [some (.inr (0, 21)), some (.inl l1)] [] I := by
  intro fu
  induction fu with
  | zero => intro l1 I r h; cases h
  | succ fu ih =>
    intro l1 I r h
    have hk47 : ∀ (l1 : Int32) (I : am_I) (r : am_I), bX2_walk_47 G.2.2.2.1 fu l1 I = some r → am_J G (d + 5) mX2_walk am_no (am_E none r) 47 [some (.inr (0, 21)), some (.inl l1)] [] I := fun l1 I r h => ih h
    unfold bX2_walk_47 at h
    generalize bX2_walk_47 G.2.2.2.1 fu = k47 at hk47 h
    dsimp only at h
    refine am_iload_n dX2_walk_47 rfl ?_
    refine am_aload_n dX2_walk_48 rfl ?_
    refine am_get (v := .inl (I 0 21 5)) dX2_walk_49 fl_2_93 (hG.m0 (by decide)) rfl ?_
    refine am_icmp_ge (tgt := 78) dX2_walk_52 rfl (fun c => ?_) (fun c => ?_)
    · rw [if_pos c] at h
      exact am_lwJ (lo' := [none, none]) trivial (tX2_walk_78 hG h)
    · rw [if_neg c] at h
      refine am_iload_n dX2_walk_55 rfl ?_
      refine am_sipush (v := nI 128) dX2_walk_56 (by decide) ?_
      refine am_icmp_ge (tgt := 78) dX2_walk_59 rfl (fun c => ?_) (fun c => ?_)
      · rw [if_pos c] at h
        exact am_lwJ (lo' := [none, none]) trivial (tX2_walk_78 hG h)
      · rw [if_neg c] at h
        refine am_aload_n dX2_walk_62 rfl ?_
        refine am_aload_n dX2_walk_63 rfl ?_
        refine am_get (v := .inr (0, 25)) dX2_walk_64 fl_2_22 (hG.m0 (by decide)) rfl ?_
        refine am_iload_n dX2_walk_67 rfl ?_
        obtain ⟨g1, h⟩ := am_gd_some h
        refine am_ialdG dX2_walk_68 (hG.m0 (by decide)) rfl g1 (show 128 < 2 ^ 31 by decide) ?_
        obtain ⟨q2, hq2, h⟩ := am_bd h
        refine am_callVe (i := 0) (j := 21) (as := [.inl (I 0 25 l1.toNatClampNeg)]) (rest := []) dX2_walk_69 lkX2_followEntries ml_X2_101 imX2_followEntries seX2_followEntries rfl rfl (hG.m0 (by decide)) rfl (Nat.le_of_ble_eq_true rfl) rfl (sX2_followEntries hG hq2) ?_
        refine am_iinc (v := l1 + nI 1) dX2_walk_72 rfl rfl ?_
        refine am_goto (tgt := 47) dX2_walk_75 rfl ?_
        exact am_lwJ (lo' := [some (.inr (0, 21)), some (.inl (l1 + nI 1))]) ⟨rfl, rfl, trivial⟩ (hk47 (l1 + nI 1) _ _ h)
def bX2_walk_10 (n : Nat) : Nat → Int32 → am_I → Option (am_I)
  | 0, _, _ => none
  | fu + 1, l1, I => (fun k10 => if (nI 128) ≤ l1 then (am_lt (am_up I 0 21 7 (nI 0)) (fun I1 => am_lt (am_up I1 0 21 5 (nI 0)) (fun I2 => (gX2_reach n (nI 0) I2).bind (fun q3 => bX2_walk_47 n am_fu (nI 0) q3)))) else (am_gd (am_inb l1 128) (am_lt (am_up I 0 24 l1.toNatClampNeg (nI 0)) (fun I5 => k10 (l1 + nI 1) I5)))) (bX2_walk_10 n fu)
theorem tX2_walk_10 {G : am_G} (hG : am_ok G) {d : Nat} : ∀ {fu : Nat} {l1 : Int32} {I : am_I} {r : am_I}, bX2_walk_10 G.2.2.2.1 fu l1 I = some r → am_J G (d + 5) mX2_walk am_no (am_E none r) 10 [some (.inr (0, 21)), some (.inl l1)] [] I := by
  intro fu
  induction fu with
  | zero => intro l1 I r h; cases h
  | succ fu ih =>
    intro l1 I r h
    have hk10 : ∀ (l1 : Int32) (I : am_I) (r : am_I), bX2_walk_10 G.2.2.2.1 fu l1 I = some r → am_J G (d + 5) mX2_walk am_no (am_E none r) 10 [some (.inr (0, 21)), some (.inl l1)] [] I := fun l1 I r h => ih h
    unfold bX2_walk_10 at h
    generalize bX2_walk_10 G.2.2.2.1 fu = k10 at hk10 h
    dsimp only at h
    refine am_iload_n dX2_walk_10 rfl ?_
    refine am_sipush (v := nI 128) dX2_walk_11 (by decide) ?_
    refine am_icmp_ge (tgt := 30) dX2_walk_14 rfl (fun c => ?_) (fun c => ?_)
    · rw [if_pos c] at h
      refine am_aload_n dX2_walk_30 rfl ?_
      refine am_iconst (v := nI 0) dX2_walk_31 (by decide) ?_
      refine am_putz (x := nI 0) dX2_walk_32 fp_2_38 (hG.m0 (by decide)) (by decide) (Nat.le_of_ble_eq_true rfl) rfl ?_
      obtain ⟨I1, hI1, h⟩ := am_lt_some h
      refine am_st10 hI1 ?_
      refine am_aload_n dX2_walk_35 rfl ?_
      refine am_iconst (v := nI 0) dX2_walk_36 (by decide) ?_
      refine am_put (x := nI 0) dX2_walk_37 fp_2_93 (hG.m0 (by decide)) (Nat.le_of_ble_eq_true rfl) rfl ?_
      obtain ⟨I2, hI2, h⟩ := am_lt_some h
      refine am_st10 hI2 ?_
      refine am_aload_n dX2_walk_40 rfl ?_
      refine am_iconst (v := nI 0) dX2_walk_41 (by decide) ?_
      obtain ⟨q3, hq3, h⟩ := am_bd h
      refine am_callVe (i := 0) (j := 21) (as := [.inl (nI 0)]) (rest := []) dX2_walk_42 lkX2_reach ml_X2_97 imX2_reach seX2_reach rfl rfl (hG.m0 (by decide)) rfl (Nat.le_of_ble_eq_true rfl) rfl (sX2_reach hG hq3) ?_
      refine am_iconst (v := nI 0) dX2_walk_45 (by decide) ?_
      refine am_istore_n dX2_walk_46 (by decide) ?_
      exact am_lwJ (lo' := [some (.inr (0, 21)), some (.inl (nI 0))]) ⟨rfl, rfl, trivial⟩ (tX2_walk_47 hG h)
    · rw [if_neg c] at h
      refine am_aload_n dX2_walk_17 rfl ?_
      refine am_get (v := .inr (0, 24)) dX2_walk_18 fl_2_18 (hG.m0 (by decide)) rfl ?_
      refine am_iload_n dX2_walk_21 rfl ?_
      refine am_iconst (v := nI 0) dX2_walk_22 (by decide) ?_
      obtain ⟨g4, h⟩ := am_gd_some h
      refine am_zastG dX2_walk_23 (hG.m0 (by decide)) rfl (by decide) g4 (show 128 < 2 ^ 31 by decide) ?_
      obtain ⟨I5, hI5, h⟩ := am_lt_some h
      refine am_st10 hI5 ?_
      refine am_iinc (v := l1 + nI 1) dX2_walk_24 rfl rfl ?_
      refine am_goto (tgt := 10) dX2_walk_27 rfl ?_
      exact am_lwJ (lo' := [some (.inr (0, 21)), some (.inl (l1 + nI 1))]) ⟨rfl, rfl, trivial⟩ (hk10 (l1 + nI 1) _ _ h)
def bX2_walk_0 (n : Nat) (I : am_I) : Option (am_I) := am_lt (am_upf I 0 23 (am_fil (I 0 23) 128 (nI 0))) (fun I1 => bX2_walk_10 n am_fu (nI 0) I1)
theorem tX2_walk_0 {G : am_G} (hG : am_ok G) {d : Nat} {I : am_I} {r : am_I} (h : bX2_walk_0 G.2.2.2.1  I = some r) : am_J G (d + 5) mX2_walk am_no (am_E none r) 0 [some (.inr (0, 21)), none] [] I := by
  unfold bX2_walk_0 at h
  refine am_aload_n dX2_walk_0 rfl ?_
  refine am_get (v := .inr (0, 23)) dX2_walk_1 fl_2_15 (hG.m0 (by decide)) rfl ?_
  refine am_iconst (v := nI 0) dX2_walk_4 (by decide) ?_
  refine am_callSe (as := [.inr (0, 23), .inl (nI 0)]) (rest := []) dX2_walk_5 lkJ7_fill_53178 ml_X2_87 isJ7_fill_53178 rfl (Nat.le_of_ble_eq_true rfl) rfl (c_fill (i := 0) (j := 23) hG.nd (hG.m0 (by decide)) rfl (show 128 < 2 ^ 31 by decide) (nI 0) I) ?_
  obtain ⟨I1, hI1, h⟩ := am_lt_some h
  refine am_st10 hI1 ?_
  refine am_iconst (v := nI 0) dX2_walk_8 (by decide) ?_
  refine am_istore_n dX2_walk_9 (by decide) ?_
  exact am_lwJ (lo' := [some (.inr (0, 21)), some (.inl (nI 0))]) ⟨rfl, rfl, trivial⟩ (tX2_walk_10 hG h)
def gX2_walk (n : Nat) (I : am_I) : Option (am_I) := bX2_walk_0 n I
theorem sX2_walk {G : am_G} (hG : am_ok G) {d : Nat} {I : am_I} {r : am_I} (h : gX2_walk G.2.2.2.1 I = some r) : am_C G (d + 5) mX2_walk [.inr (0, 21)] I (am_E none r) :=
  am_of (by decide +kernel) hG.nd (Nat.le_of_ble_eq_true rfl) (am_lwJ (lo' := [some (.inr (0, 21)), none]) ⟨rfl, trivial⟩ (tX2_walk_0 hG h))
def bX2_isNamedTwice_50 (n : Nat) (s0 : Int32) (I : am_I) : Option (Int32 × am_I) := am_gd (am_01 s0) (some (s0, I))
theorem tX2_isNamedTwice_50 {G : am_G} (hG : am_ok G) {d : Nat} {s0 : Int32} {I : am_I} {r : Int32 × am_I} (h : bX2_isNamedTwice_50 G.2.2.2.1 s0  I = some r) : am_J G (d + 3) mX2_isNamedTwice am_no (am_E (some r.1) r.2) 50 [none, none] [.inl s0] I := by
  unfold bX2_isNamedTwice_50 at h
  obtain ⟨g1, h⟩ := am_gd_some h
  cases h
  exact am_iret dX2_isNamedTwice_50 rfl (am_nz (am_01_of g1)).1 ⟨rfl, rfl⟩
def bX2_isNamedTwice_30 (n : Nat) (k2 : Int32 → am_I → Option (Int32 × am_I)) (l1 : Int32) (I : am_I) : Option (Int32 × am_I) := k2 (l1 + nI 1) I
theorem tX2_isNamedTwice_30 {G : am_G} (hG : am_ok G) {d : Nat} {k2 : Int32 → am_I → Option (Int32 × am_I)} (hk2 : ∀ (l1 : Int32) (I : am_I) (r : Int32 × am_I), k2 l1 I = some r → am_J G (d + 3) mX2_isNamedTwice am_no (am_E (some r.1) r.2) 2 [some (.inr (0, 21)), some (.inl l1)] [] I) {l1 : Int32} {I : am_I} {r : Int32 × am_I} (h : bX2_isNamedTwice_30 G.2.2.2.1 k2 l1  I = some r) : am_J G (d + 3) mX2_isNamedTwice am_no (am_E (some r.1) r.2) 30 [some (.inr (0, 21)), some (.inl l1)] [] I := by
  unfold bX2_isNamedTwice_30 at h
  refine am_iinc (v := l1 + nI 1) dX2_isNamedTwice_30 rfl rfl ?_
  refine am_goto (tgt := 2) dX2_isNamedTwice_33 rfl ?_
  exact am_lwJ (lo' := [some (.inr (0, 21)), some (.inl (l1 + nI 1))]) ⟨rfl, rfl, trivial⟩ (hk2 (l1 + nI 1) _ _ h)
def bX2_isNamedTwice_2 (n : Nat) : Nat → Int32 → am_I → Option (Int32 × am_I)
  | 0, _, _ => none
  | fu + 1, l1, I => (fun k2 => if (nI 128) ≤ l1 then (am_gd (am_inb (nI 0) 128) (if (I 0 23 ((nI 0).toNatClampNeg)) ≤ 0 then (bX2_isNamedTwice_50 n (nI 0) I) else (bX2_isNamedTwice_50 n (nI 1) I))) else (am_gd (am_inb l1 128) (if (I 0 23 l1.toNatClampNeg) ≤ (nI 1) then (bX2_isNamedTwice_30 n k2 l1 I) else ((gX2_kindOf n l1 I).bind (fun q3 => if q3.1 = (nI 2) then (some (nI 1, q3.2)) else (bX2_isNamedTwice_30 n k2 l1 q3.2)))))) (bX2_isNamedTwice_2 n fu)
theorem tX2_isNamedTwice_2 {G : am_G} (hG : am_ok G) {d : Nat} : ∀ {fu : Nat} {l1 : Int32} {I : am_I} {r : Int32 × am_I}, bX2_isNamedTwice_2 G.2.2.2.1 fu l1 I = some r → am_J G (d + 3) mX2_isNamedTwice am_no (am_E (some r.1) r.2) 2 [some (.inr (0, 21)), some (.inl l1)] [] I := by
  intro fu
  induction fu with
  | zero => intro l1 I r h; cases h
  | succ fu ih =>
    intro l1 I r h
    have hk2 : ∀ (l1 : Int32) (I : am_I) (r : Int32 × am_I), bX2_isNamedTwice_2 G.2.2.2.1 fu l1 I = some r → am_J G (d + 3) mX2_isNamedTwice am_no (am_E (some r.1) r.2) 2 [some (.inr (0, 21)), some (.inl l1)] [] I := fun l1 I r h => ih h
    unfold bX2_isNamedTwice_2 at h
    generalize bX2_isNamedTwice_2 G.2.2.2.1 fu = k2 at hk2 h
    dsimp only at h
    refine am_iload_n dX2_isNamedTwice_2 rfl ?_
    refine am_sipush (v := nI 128) dX2_isNamedTwice_3 (by decide) ?_
    refine am_icmp_ge (tgt := 36) dX2_isNamedTwice_6 rfl (fun c => ?_) (fun c => ?_)
    · rw [if_pos c] at h
      refine am_aload_n dX2_isNamedTwice_36 rfl ?_
      refine am_get (v := .inr (0, 23)) dX2_isNamedTwice_37 fl_2_15 (hG.m0 (by decide)) rfl ?_
      refine am_iconst (v := nI 0) dX2_isNamedTwice_40 (by decide) ?_
      obtain ⟨g1, h⟩ := am_gd_some h
      refine am_ialdG dX2_isNamedTwice_41 (hG.m0 (by decide)) rfl g1 (show 128 < 2 ^ 31 by decide) ?_
      refine am_if_le (tgt := 49) dX2_isNamedTwice_42 rfl (fun c => ?_) (fun c => ?_)
      · rw [if_pos c] at h
        refine am_iconst (v := nI 0) dX2_isNamedTwice_49 (by decide) ?_
        exact am_lwJ (lo' := [none, none]) trivial (tX2_isNamedTwice_50 hG h)
      · rw [if_neg c] at h
        refine am_iconst (v := nI 1) dX2_isNamedTwice_45 (by decide) ?_
        refine am_goto (tgt := 50) dX2_isNamedTwice_46 rfl ?_
        exact am_lwJ (lo' := [none, none]) trivial (tX2_isNamedTwice_50 hG h)
    · rw [if_neg c] at h
      refine am_aload_n dX2_isNamedTwice_9 rfl ?_
      refine am_get (v := .inr (0, 23)) dX2_isNamedTwice_10 fl_2_15 (hG.m0 (by decide)) rfl ?_
      refine am_iload_n dX2_isNamedTwice_13 rfl ?_
      obtain ⟨g2, h⟩ := am_gd_some h
      refine am_ialdG dX2_isNamedTwice_14 (hG.m0 (by decide)) rfl g2 (show 128 < 2 ^ 31 by decide) ?_
      refine am_iconst (v := nI 1) dX2_isNamedTwice_15 (by decide) ?_
      refine am_icmp_le (tgt := 30) dX2_isNamedTwice_16 rfl (fun c => ?_) (fun c => ?_)
      · rw [if_pos c] at h
        exact am_lwJ (lo' := [some (.inr (0, 21)), some (.inl l1)]) ⟨rfl, rfl, trivial⟩ (tX2_isNamedTwice_30 hG hk2 h)
      · rw [if_neg c] at h
        refine am_aload_n dX2_isNamedTwice_19 rfl ?_
        refine am_iload_n dX2_isNamedTwice_20 rfl ?_
        obtain ⟨q3, hq3, h⟩ := am_bd h
        refine am_callVx (i := 0) (j := 21) (as := [.inl l1]) (rest := []) dX2_isNamedTwice_21 lkX2_kindOf ml_X2_104 imX2_kindOf seX2_kindOf rfl rfl (hG.m0 (by decide)) rfl (Nat.le_of_ble_eq_true rfl) rfl (sX2_kindOf hG hq3) ?_
        refine am_iconst (v := nI 2) dX2_isNamedTwice_24 (by decide) ?_
        refine am_icmp_ne (tgt := 30) dX2_isNamedTwice_25 rfl (fun c => ?_) (fun c => ?_)
        · rw [if_neg c] at h
          exact am_lwJ (lo' := [some (.inr (0, 21)), some (.inl l1)]) ⟨rfl, rfl, trivial⟩ (tX2_isNamedTwice_30 hG hk2 h)
        · rw [if_pos c] at h
          refine am_iconst (v := nI 1) dX2_isNamedTwice_28 (by decide) ?_
          cases h
          exact am_iret dX2_isNamedTwice_29 rfl (am_nz (by decide)).1 ⟨rfl, rfl⟩
def bX2_isNamedTwice_0 (n : Nat) (I : am_I) : Option (Int32 × am_I) := bX2_isNamedTwice_2 n am_fu (nI 1) I
theorem tX2_isNamedTwice_0 {G : am_G} (hG : am_ok G) {d : Nat} {I : am_I} {r : Int32 × am_I} (h : bX2_isNamedTwice_0 G.2.2.2.1  I = some r) : am_J G (d + 3) mX2_isNamedTwice am_no (am_E (some r.1) r.2) 0 [some (.inr (0, 21)), none] [] I := by
  unfold bX2_isNamedTwice_0 at h
  refine am_iconst (v := nI 1) dX2_isNamedTwice_0 (by decide) ?_
  refine am_istore_n dX2_isNamedTwice_1 (by decide) ?_
  exact am_lwJ (lo' := [some (.inr (0, 21)), some (.inl (nI 1))]) ⟨rfl, rfl, trivial⟩ (tX2_isNamedTwice_2 hG h)
def gX2_isNamedTwice (n : Nat) (I : am_I) : Option (Int32 × am_I) := bX2_isNamedTwice_0 n I
theorem sX2_isNamedTwice {G : am_G} (hG : am_ok G) {d : Nat} {I : am_I} {r : Int32 × am_I} (h : gX2_isNamedTwice G.2.2.2.1 I = some r) : am_C G (d + 3) mX2_isNamedTwice [.inr (0, 21)] I (am_E (some r.1) r.2) :=
  am_of (by decide +kernel) hG.nd (Nat.le_of_ble_eq_true rfl) (am_lwJ (lo' := [some (.inr (0, 21)), none]) ⟨rfl, trivial⟩ (tX2_isNamedTwice_0 hG h))
def bX2_isLeftAlone_28 (n : Nat) (k2 : Int32 → am_I → Option (Int32 × am_I)) (l1 : Int32) (I : am_I) : Option (Int32 × am_I) := k2 (l1 + nI 1) I
theorem tX2_isLeftAlone_28 {G : am_G} (hG : am_ok G) {d : Nat} {k2 : Int32 → am_I → Option (Int32 × am_I)} (hk2 : ∀ (l1 : Int32) (I : am_I) (r : Int32 × am_I), k2 l1 I = some r → am_J G (d + 3) mX2_isLeftAlone am_no (am_E (some r.1) r.2) 2 [some (.inr (0, 21)), some (.inl l1)] [] I) {l1 : Int32} {I : am_I} {r : Int32 × am_I} (h : bX2_isLeftAlone_28 G.2.2.2.1 k2 l1  I = some r) : am_J G (d + 3) mX2_isLeftAlone am_no (am_E (some r.1) r.2) 28 [some (.inr (0, 21)), some (.inl l1)] [] I := by
  unfold bX2_isLeftAlone_28 at h
  refine am_iinc (v := l1 + nI 1) dX2_isLeftAlone_28 rfl rfl ?_
  refine am_goto (tgt := 2) dX2_isLeftAlone_31 rfl ?_
  exact am_lwJ (lo' := [some (.inr (0, 21)), some (.inl (l1 + nI 1))]) ⟨rfl, rfl, trivial⟩ (hk2 (l1 + nI 1) _ _ h)
def bX2_isLeftAlone_2 (n : Nat) : Nat → Int32 → am_I → Option (Int32 × am_I)
  | 0, _, _ => none
  | fu + 1, l1, I => (fun k2 => if (nI 128) ≤ l1 then (some (nI 0, I)) else (am_gd (am_inb l1 128) (if (I 0 24 l1.toNatClampNeg) = 0 then ((gX2_kindOf n l1 I).bind (fun q2 => if q2.1 = 0 then (bX2_isLeftAlone_28 n k2 l1 q2.2) else (some (nI 1, q2.2)))) else (bX2_isLeftAlone_28 n k2 l1 I)))) (bX2_isLeftAlone_2 n fu)
theorem tX2_isLeftAlone_2 {G : am_G} (hG : am_ok G) {d : Nat} : ∀ {fu : Nat} {l1 : Int32} {I : am_I} {r : Int32 × am_I}, bX2_isLeftAlone_2 G.2.2.2.1 fu l1 I = some r → am_J G (d + 3) mX2_isLeftAlone am_no (am_E (some r.1) r.2) 2 [some (.inr (0, 21)), some (.inl l1)] [] I := by
  intro fu
  induction fu with
  | zero => intro l1 I r h; cases h
  | succ fu ih =>
    intro l1 I r h
    have hk2 : ∀ (l1 : Int32) (I : am_I) (r : Int32 × am_I), bX2_isLeftAlone_2 G.2.2.2.1 fu l1 I = some r → am_J G (d + 3) mX2_isLeftAlone am_no (am_E (some r.1) r.2) 2 [some (.inr (0, 21)), some (.inl l1)] [] I := fun l1 I r h => ih h
    unfold bX2_isLeftAlone_2 at h
    generalize bX2_isLeftAlone_2 G.2.2.2.1 fu = k2 at hk2 h
    dsimp only at h
    refine am_iload_n dX2_isLeftAlone_2 rfl ?_
    refine am_sipush (v := nI 128) dX2_isLeftAlone_3 (by decide) ?_
    refine am_icmp_ge (tgt := 34) dX2_isLeftAlone_6 rfl (fun c => ?_) (fun c => ?_)
    · rw [if_pos c] at h
      refine am_iconst (v := nI 0) dX2_isLeftAlone_34 (by decide) ?_
      cases h
      exact am_iret dX2_isLeftAlone_35 rfl (am_nz (by decide)).1 ⟨rfl, rfl⟩
    · rw [if_neg c] at h
      refine am_aload_n dX2_isLeftAlone_9 rfl ?_
      refine am_get (v := .inr (0, 24)) dX2_isLeftAlone_10 fl_2_18 (hG.m0 (by decide)) rfl ?_
      refine am_iload_n dX2_isLeftAlone_13 rfl ?_
      obtain ⟨g1, h⟩ := am_gd_some h
      refine am_zaldG dX2_isLeftAlone_14 (hG.m0 (by decide)) rfl g1 (show 128 < 2 ^ 31 by decide) ?_
      refine am_if_ne (tgt := 28) dX2_isLeftAlone_15 rfl (fun c => ?_) (fun c => ?_)
      · rw [if_neg c] at h
        exact am_lwJ (lo' := [some (.inr (0, 21)), some (.inl l1)]) ⟨rfl, rfl, trivial⟩ (tX2_isLeftAlone_28 hG hk2 h)
      · rw [if_pos c] at h
        refine am_aload_n dX2_isLeftAlone_18 rfl ?_
        refine am_iload_n dX2_isLeftAlone_19 rfl ?_
        obtain ⟨q2, hq2, h⟩ := am_bd h
        refine am_callVx (i := 0) (j := 21) (as := [.inl l1]) (rest := []) dX2_isLeftAlone_20 lkX2_kindOf ml_X2_104 imX2_kindOf seX2_kindOf rfl rfl (hG.m0 (by decide)) rfl (Nat.le_of_ble_eq_true rfl) rfl (sX2_kindOf hG hq2) ?_
        refine am_if_eq (tgt := 28) dX2_isLeftAlone_23 rfl (fun c => ?_) (fun c => ?_)
        · rw [if_pos c] at h
          exact am_lwJ (lo' := [some (.inr (0, 21)), some (.inl l1)]) ⟨rfl, rfl, trivial⟩ (tX2_isLeftAlone_28 hG hk2 h)
        · rw [if_neg c] at h
          refine am_iconst (v := nI 1) dX2_isLeftAlone_26 (by decide) ?_
          cases h
          exact am_iret dX2_isLeftAlone_27 rfl (am_nz (by decide)).1 ⟨rfl, rfl⟩
def bX2_isLeftAlone_0 (n : Nat) (I : am_I) : Option (Int32 × am_I) := bX2_isLeftAlone_2 n am_fu (nI 1) I
theorem tX2_isLeftAlone_0 {G : am_G} (hG : am_ok G) {d : Nat} {I : am_I} {r : Int32 × am_I} (h : bX2_isLeftAlone_0 G.2.2.2.1  I = some r) : am_J G (d + 3) mX2_isLeftAlone am_no (am_E (some r.1) r.2) 0 [some (.inr (0, 21)), none] [] I := by
  unfold bX2_isLeftAlone_0 at h
  refine am_iconst (v := nI 1) dX2_isLeftAlone_0 (by decide) ?_
  refine am_istore_n dX2_isLeftAlone_1 (by decide) ?_
  exact am_lwJ (lo' := [some (.inr (0, 21)), some (.inl (nI 1))]) ⟨rfl, rfl, trivial⟩ (tX2_isLeftAlone_2 hG h)
def gX2_isLeftAlone (n : Nat) (I : am_I) : Option (Int32 × am_I) := bX2_isLeftAlone_0 n I
theorem sX2_isLeftAlone {G : am_G} (hG : am_ok G) {d : Nat} {I : am_I} {r : Int32 × am_I} (h : gX2_isLeftAlone G.2.2.2.1 I = some r) : am_C G (d + 3) mX2_isLeftAlone [.inr (0, 21)] I (am_E (some r.1) r.2) :=
  am_of (by decide +kernel) hG.nd (Nat.le_of_ble_eq_true rfl) (am_lwJ (lo' := [some (.inr (0, 21)), none]) ⟨rfl, trivial⟩ (tX2_isLeftAlone_0 hG h))
def bX2_hasWrongLinks_32 (n : Nat) (k2 : Int32 → am_I → Option (Int32 × am_I)) (l1 : Int32) (s0 : Int32) (s1 : Int32) (I : am_I) : Option (Int32 × am_I) := if s1 = s0 then (k2 (l1 + nI 1) I) else (some (nI 1, I))
theorem tX2_hasWrongLinks_32 {G : am_G} (hG : am_ok G) {d : Nat} {k2 : Int32 → am_I → Option (Int32 × am_I)} (hk2 : ∀ (l1 : Int32) (I : am_I) (r : Int32 × am_I), k2 l1 I = some r → am_J G (d + 2) mX2_hasWrongLinks am_no (am_E (some r.1) r.2) 2 [some (.inr (0, 21)), some (.inl l1)] [] I) {l1 : Int32} {s0 : Int32} {s1 : Int32} {I : am_I} {r : Int32 × am_I} (h : bX2_hasWrongLinks_32 G.2.2.2.1 k2 l1 s0 s1  I = some r) : am_J G (d + 2) mX2_hasWrongLinks am_no (am_E (some r.1) r.2) 32 [some (.inr (0, 21)), some (.inl l1)] [.inl s0, .inl s1] I := by
  unfold bX2_hasWrongLinks_32 at h
  refine am_icmp_eq (tgt := 37) dX2_hasWrongLinks_32 rfl (fun c => ?_) (fun c => ?_)
  · rw [if_pos c] at h
    refine am_iinc (v := l1 + nI 1) dX2_hasWrongLinks_37 rfl rfl ?_
    refine am_goto (tgt := 2) dX2_hasWrongLinks_40 rfl ?_
    exact am_lwJ (lo' := [some (.inr (0, 21)), some (.inl (l1 + nI 1))]) ⟨rfl, rfl, trivial⟩ (hk2 (l1 + nI 1) _ _ h)
  · rw [if_neg c] at h
    refine am_iconst (v := nI 1) dX2_hasWrongLinks_35 (by decide) ?_
    cases h
    exact am_iret dX2_hasWrongLinks_36 rfl (am_nz (by decide)).1 ⟨rfl, rfl⟩
def bX2_hasWrongLinks_2 (n : Nat) : Nat → Int32 → am_I → Option (Int32 × am_I)
  | 0, _, _ => none
  | fu + 1, l1, I => (fun k2 => if (nI 128) ≤ l1 then (some (nI 0, I)) else ((gX10_inodeBlock n l1 I).bind (fun q1 => (gX2_at n q1.1 (nI 1) q1.2).bind (fun q2 => if l1 = 0 then (bX2_hasWrongLinks_32 n k2 l1 (nI 1) q2.1 q2.2) else (am_gd (am_inb l1 128) (bX2_hasWrongLinks_32 n k2 l1 (q2.2 0 23 l1.toNatClampNeg) q2.1 q2.2)))))) (bX2_hasWrongLinks_2 n fu)
theorem tX2_hasWrongLinks_2 {G : am_G} (hG : am_ok G) {d : Nat} : ∀ {fu : Nat} {l1 : Int32} {I : am_I} {r : Int32 × am_I}, bX2_hasWrongLinks_2 G.2.2.2.1 fu l1 I = some r → am_J G (d + 2) mX2_hasWrongLinks am_no (am_E (some r.1) r.2) 2 [some (.inr (0, 21)), some (.inl l1)] [] I := by
  intro fu
  induction fu with
  | zero => intro l1 I r h; cases h
  | succ fu ih =>
    intro l1 I r h
    have hk2 : ∀ (l1 : Int32) (I : am_I) (r : Int32 × am_I), bX2_hasWrongLinks_2 G.2.2.2.1 fu l1 I = some r → am_J G (d + 2) mX2_hasWrongLinks am_no (am_E (some r.1) r.2) 2 [some (.inr (0, 21)), some (.inl l1)] [] I := fun l1 I r h => ih h
    unfold bX2_hasWrongLinks_2 at h
    generalize bX2_hasWrongLinks_2 G.2.2.2.1 fu = k2 at hk2 h
    dsimp only at h
    refine am_iload_n dX2_hasWrongLinks_2 rfl ?_
    refine am_sipush (v := nI 128) dX2_hasWrongLinks_3 (by decide) ?_
    refine am_icmp_ge (tgt := 43) dX2_hasWrongLinks_6 rfl (fun c => ?_) (fun c => ?_)
    · rw [if_pos c] at h
      refine am_iconst (v := nI 0) dX2_hasWrongLinks_43 (by decide) ?_
      cases h
      exact am_iret dX2_hasWrongLinks_44 rfl (am_nz (by decide)).1 ⟨rfl, rfl⟩
    · rw [if_neg c] at h
      refine am_aload_n dX2_hasWrongLinks_9 rfl ?_
      refine am_iload_n dX2_hasWrongLinks_10 rfl ?_
      obtain ⟨q1, hq1, h⟩ := am_bd h
      refine am_callSNx (as := [.inl l1]) (rest := [.inr (0, 21)]) dX2_hasWrongLinks_11 lkX10_inodeBlock nl_X2_81 isX10_inodeBlock rfl (Nat.le_of_ble_eq_true rfl) rfl (sX10_inodeBlock hG hq1) ?_
      refine am_iconst (v := nI 1) dX2_hasWrongLinks_14 (by decide) ?_
      obtain ⟨q2, hq2, h⟩ := am_bd h
      refine am_callVx (i := 0) (j := 21) (as := [.inl q1.1, .inl (nI 1)]) (rest := []) dX2_hasWrongLinks_15 lkX2_at ml_X2_84 imX2_at seX2_at rfl rfl (hG.m0 (by decide)) rfl (Nat.le_of_ble_eq_true rfl) rfl (sX2_at hG hq2) ?_
      refine am_iload_n dX2_hasWrongLinks_18 rfl ?_
      refine am_if_ne (tgt := 26) dX2_hasWrongLinks_19 rfl (fun c => ?_) (fun c => ?_)
      · rw [if_neg c] at h
        refine am_aload_n dX2_hasWrongLinks_26 rfl ?_
        refine am_get (v := .inr (0, 23)) dX2_hasWrongLinks_27 fl_2_15 (hG.m0 (by decide)) rfl ?_
        refine am_iload_n dX2_hasWrongLinks_30 rfl ?_
        obtain ⟨g3, h⟩ := am_gd_some h
        refine am_ialdG dX2_hasWrongLinks_31 (hG.m0 (by decide)) rfl g3 (show 128 < 2 ^ 31 by decide) ?_
        exact am_lwJ (lo' := [some (.inr (0, 21)), some (.inl l1)]) ⟨rfl, rfl, trivial⟩ (tX2_hasWrongLinks_32 hG hk2 h)
      · rw [if_pos c] at h
        refine am_iconst (v := nI 1) dX2_hasWrongLinks_22 (by decide) ?_
        refine am_goto (tgt := 32) dX2_hasWrongLinks_23 rfl ?_
        exact am_lwJ (lo' := [some (.inr (0, 21)), some (.inl l1)]) ⟨rfl, rfl, trivial⟩ (tX2_hasWrongLinks_32 hG hk2 h)
def bX2_hasWrongLinks_0 (n : Nat) (I : am_I) : Option (Int32 × am_I) := bX2_hasWrongLinks_2 n am_fu (nI 0) I
theorem tX2_hasWrongLinks_0 {G : am_G} (hG : am_ok G) {d : Nat} {I : am_I} {r : Int32 × am_I} (h : bX2_hasWrongLinks_0 G.2.2.2.1  I = some r) : am_J G (d + 2) mX2_hasWrongLinks am_no (am_E (some r.1) r.2) 0 [some (.inr (0, 21)), none] [] I := by
  unfold bX2_hasWrongLinks_0 at h
  refine am_iconst (v := nI 0) dX2_hasWrongLinks_0 (by decide) ?_
  refine am_istore_n dX2_hasWrongLinks_1 (by decide) ?_
  exact am_lwJ (lo' := [some (.inr (0, 21)), some (.inl (nI 0))]) ⟨rfl, rfl, trivial⟩ (tX2_hasWrongLinks_2 hG h)
def gX2_hasWrongLinks (n : Nat) (I : am_I) : Option (Int32 × am_I) := bX2_hasWrongLinks_0 n I
theorem sX2_hasWrongLinks {G : am_G} (hG : am_ok G) {d : Nat} {I : am_I} {r : Int32 × am_I} (h : gX2_hasWrongLinks G.2.2.2.1 I = some r) : am_C G (d + 2) mX2_hasWrongLinks [.inr (0, 21)] I (am_E (some r.1) r.2) :=
  am_of (by decide +kernel) hG.nd (Nat.le_of_ble_eq_true rfl) (am_lwJ (lo' := [some (.inr (0, 21)), none]) ⟨rfl, trivial⟩ (tX2_hasWrongLinks_0 hG h))
