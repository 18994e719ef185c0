def bX5_gather_85 (n : Nat) (k7 : Int32 → Int32 → Int32 → Int32 → am_I → Option (Int32 × am_I)) (l1 : Int32) (l2 : Int32) (l3 : Int32) (l4 : Int32) (I : am_I) : Option (Int32 × am_I) := k7 l1 l2 l3 (l4 + nI 1) I
theorem tX5_gather_85 {G : am_G} (hG : am_ok G) {d : Nat} {k7 : Int32 → Int32 → Int32 → Int32 → am_I → Option (Int32 × am_I)} (hk7 : ∀ (l1 : Int32) (l2 : Int32) (l3 : Int32) (l4 : Int32) (I : am_I) (r : Int32 × am_I), k7 l1 l2 l3 l4 I = some r → am_J G (d + 1) mX5_gather am_no (am_E (some r.1) r.2) 7 [some (.inr (0, 9)), some (.inl l1), some (.inl l2), some (.inl l3), some (.inl l4)] [] I) {l1 : Int32} {l2 : Int32} {l3 : Int32} {l4 : Int32} {I : am_I} {r : Int32 × am_I} (h : bX5_gather_85 G.2.2.2.1 k7 l1 l2 l3 l4  I = some r) : am_J G (d + 1) mX5_gather am_no (am_E (some r.1) r.2) 85 [some (.inr (0, 9)), some (.inl l1), some (.inl l2), some (.inl l3), some (.inl l4)] [] I := by
  unfold bX5_gather_85 at h
  refine am_iinc (v := l4 + nI 1) dX5_gather_85 rfl rfl ?_
  refine am_goto (tgt := 7) dX5_gather_88 rfl ?_
  exact am_lwJ (lo' := [some (.inr (0, 9)), some (.inl l1), some (.inl l2), some (.inl l3), some (.inl (l4 + nI 1))]) ⟨rfl, rfl, rfl, rfl, rfl, trivial⟩ (hk7 l1 l2 l3 (l4 + nI 1) _ _ h)
def bX5_gather_7 (n : Nat) : Nat → Int32 → Int32 → Int32 → Int32 → am_I → Option (Int32 × am_I)
  | 0, _, _, _, _, _ => none
  | fu + 1, l1, l2, l3, l4, I => (fun k7 => if (I 0 9 3) ≤ l4 then (am_lt (am_up I 0 9 3 l3) (fun I1 => some (l2, I1))) else (am_gd (am_inb ((l4 * (nI 6)) + (nI 5)) 768) (if l1 < (I 0 11 (((l4 * (nI 6)) + (nI 5)).toNatClampNeg)) then (am_gd (am_cpb (l4 * (nI 6)) (l3 * (nI 6)) (nI 6) 768 768) (am_lt (am_upf I 0 11 (va_cpy (I 0 11) (I 0 11) (l4 * (nI 6)).toNatClampNeg (l3 * (nI 6)).toNatClampNeg (nI 6).toNatClampNeg)) (fun I4 => bX5_gather_85 n k7 l1 l2 (l3 + nI 1) l4 I4))) else (am_gd (am_cpb (l4 * (nI 6)) (l2 * (nI 6)) (nI 6) 768 768) (am_lt (am_upf I 0 12 (va_cpy (I 0 11) (I 0 12) (l4 * (nI 6)).toNatClampNeg (l2 * (nI 6)).toNatClampNeg (nI 6).toNatClampNeg)) (fun I6 => bX5_gather_85 n k7 l1 (l2 + nI 1) l3 l4 I6)))))) (bX5_gather_7 n fu)
theorem tX5_gather_7 {G : am_G} (hG : am_ok G) {d : Nat} : ∀ {fu : Nat} {l1 : Int32} {l2 : Int32} {l3 : Int32} {l4 : Int32} {I : am_I} {r : Int32 × am_I}, bX5_gather_7 G.2.2.2.1 fu l1 l2 l3 l4 I = some r → am_J G (d + 1) mX5_gather am_no (am_E (some r.1) r.2) 7 [some (.inr (0, 9)), some (.inl l1), some (.inl l2), some (.inl l3), some (.inl l4)] [] I := by
  intro fu
  induction fu with
  | zero => intro l1 l2 l3 l4 I r h; cases h
  | succ fu ih =>
    intro l1 l2 l3 l4 I r h
    have hk7 : ∀ (l1 : Int32) (l2 : Int32) (l3 : Int32) (l4 : Int32) (I : am_I) (r : Int32 × am_I), bX5_gather_7 G.2.2.2.1 fu l1 l2 l3 l4 I = some r → am_J G (d + 1) mX5_gather am_no (am_E (some r.1) r.2) 7 [some (.inr (0, 9)), some (.inl l1), some (.inl l2), some (.inl l3), some (.inl l4)] [] I := fun l1 l2 l3 l4 I r h => ih h
    unfold bX5_gather_7 at h
    generalize bX5_gather_7 G.2.2.2.1 fu = k7 at hk7 h
    dsimp only at h
    refine am_iload dX5_gather_7 rfl ?_
    refine am_aload_n dX5_gather_9 rfl ?_
    refine am_get (v := .inl (I 0 9 3)) dX5_gather_10 fl_5_27 (hG.m0 (by decide)) rfl ?_
    refine am_icmp_ge (tgt := 91) dX5_gather_13 rfl (fun c => ?_) (fun c => ?_)
    · rw [if_pos c] at h
      refine am_aload_n dX5_gather_91 rfl ?_
      refine am_iload_n dX5_gather_92 rfl ?_
      refine am_put (x := l3) dX5_gather_93 fp_5_27 (hG.m0 (by decide)) (Nat.le_of_ble_eq_true rfl) rfl ?_
      obtain ⟨I1, hI1, h⟩ := am_lt_some h
      refine am_st10 hI1 ?_
      refine am_iload_n dX5_gather_96 rfl ?_
      cases h
      exact am_iret dX5_gather_97 rfl rfl ⟨rfl, rfl⟩
    · rw [if_neg c] at h
      refine am_aload_n dX5_gather_16 rfl ?_
      refine am_get (v := .inr (0, 11)) dX5_gather_17 fl_5_15 (hG.m0 (by decide)) rfl ?_
      refine am_iload dX5_gather_20 rfl ?_
      refine am_bipush (v := nI 6) dX5_gather_22 (by decide) ?_
      refine am_imul dX5_gather_24 ?_
      refine am_iconst (v := nI 5) dX5_gather_25 (by decide) ?_
      refine am_iadd dX5_gather_26 ?_
      obtain ⟨g2, h⟩ := am_gd_some h
      refine am_ialdG dX5_gather_27 (hG.m0 (by decide)) rfl g2 (show 768 < 2 ^ 31 by decide) ?_
      refine am_iload_n dX5_gather_28 rfl ?_
      refine am_icmp_gt (tgt := 60) dX5_gather_29 rfl (fun c => ?_) (fun c => ?_)
      · rw [if_pos c] at h
        refine am_aload_n dX5_gather_60 rfl ?_
        refine am_get (v := .inr (0, 11)) dX5_gather_61 fl_5_15 (hG.m0 (by decide)) rfl ?_
        refine am_iload dX5_gather_64 rfl ?_
        refine am_bipush (v := nI 6) dX5_gather_66 (by decide) ?_
        refine am_imul dX5_gather_68 ?_
        refine am_aload_n dX5_gather_69 rfl ?_
        refine am_get (v := .inr (0, 11)) dX5_gather_70 fl_5_15 (hG.m0 (by decide)) rfl ?_
        refine am_iload_n dX5_gather_73 rfl ?_
        refine am_bipush (v := nI 6) dX5_gather_74 (by decide) ?_
        refine am_imul dX5_gather_76 ?_
        refine am_bipush (v := nI 6) dX5_gather_77 (by decide) ?_
        obtain ⟨g3, h⟩ := am_gd_some h
        refine am_copy (rest := []) dX5_gather_79 ml_X5_37 (hG.m0 (by decide)) (hG.m0 (by decide)) rfl rfl g3 (Nat.le_of_ble_eq_true rfl) ?_
        obtain ⟨I4, hI4, h⟩ := am_lt_some h
        refine am_st10 hI4 ?_
        refine am_iinc (v := l3 + nI 1) dX5_gather_82 rfl rfl ?_
        exact am_lwJ (lo' := [some (.inr (0, 9)), some (.inl l1), some (.inl l2), some (.inl (l3 + nI 1)), some (.inl l4)]) ⟨rfl, rfl, rfl, rfl, rfl, trivial⟩ (tX5_gather_85 hG hk7 h)
      · rw [if_neg c] at h
        refine am_aload_n dX5_gather_32 rfl ?_
        refine am_get (v := .inr (0, 11)) dX5_gather_33 fl_5_15 (hG.m0 (by decide)) rfl ?_
        refine am_iload dX5_gather_36 rfl ?_
        refine am_bipush (v := nI 6) dX5_gather_38 (by decide) ?_
        refine am_imul dX5_gather_40 ?_
        refine am_aload_n dX5_gather_41 rfl ?_
        refine am_get (v := .inr (0, 12)) dX5_gather_42 fl_5_18 (hG.m0 (by decide)) rfl ?_
        refine am_iload_n dX5_gather_45 rfl ?_
        refine am_bipush (v := nI 6) dX5_gather_46 (by decide) ?_
        refine am_imul dX5_gather_48 ?_
        refine am_bipush (v := nI 6) dX5_gather_49 (by decide) ?_
        obtain ⟨g5, h⟩ := am_gd_some h
        refine am_copy (rest := []) dX5_gather_51 ml_X5_37 (hG.m0 (by decide)) (hG.m0 (by decide)) rfl rfl g5 (Nat.le_of_ble_eq_true rfl) ?_
        obtain ⟨I6, hI6, h⟩ := am_lt_some h
        refine am_st10 hI6 ?_
        refine am_iinc (v := l2 + nI 1) dX5_gather_54 rfl rfl ?_
        refine am_goto (tgt := 85) dX5_gather_57 rfl ?_
        exact am_lwJ (lo' := [some (.inr (0, 9)), some (.inl l1), some (.inl (l2 + nI 1)), some (.inl l3), some (.inl l4)]) ⟨rfl, rfl, rfl, rfl, rfl, trivial⟩ (tX5_gather_85 hG hk7 h)
def bX5_gather_0 (n : Nat) (l1 : Int32) (I : am_I) : Option (Int32 × am_I) := bX5_gather_7 n am_fu l1 (nI 0) (nI 0) (nI 0) I
theorem tX5_gather_0 {G : am_G} (hG : am_ok G) {d : Nat} {l1 : Int32} {I : am_I} {r : Int32 × am_I} (h : bX5_gather_0 G.2.2.2.1 l1  I = some r) : am_J G (d + 1) mX5_gather am_no (am_E (some r.1) r.2) 0 [some (.inr (0, 9)), some (.inl l1), none, none, none] [] I := by
  unfold bX5_gather_0 at h
  refine am_iconst (v := nI 0) dX5_gather_0 (by decide) ?_
  refine am_istore_n dX5_gather_1 (by decide) ?_
  refine am_iconst (v := nI 0) dX5_gather_2 (by decide) ?_
  refine am_istore_n dX5_gather_3 (by decide) ?_
  refine am_iconst (v := nI 0) dX5_gather_4 (by decide) ?_
  refine am_istore dX5_gather_5 (by decide) ?_
  exact am_lwJ (lo' := [some (.inr (0, 9)), some (.inl l1), some (.inl (nI 0)), some (.inl (nI 0)), some (.inl (nI 0))]) ⟨rfl, rfl, rfl, rfl, rfl, trivial⟩ (tX5_gather_7 hG h)
def gX5_gather (n : Nat) (l1 : Int32) (I : am_I) : Option (Int32 × am_I) := bX5_gather_0 n l1 I
theorem sX5_gather {G : am_G} (hG : am_ok G) {d : Nat} {l1 : Int32} {I : am_I} {r : Int32 × am_I} (h : gX5_gather G.2.2.2.1 l1 I = some r) : am_C G (d + 1) mX5_gather [.inr (0, 9), .inl l1] I (am_E (some r.1) r.2) :=
  am_of (by decide +kernel) hG.nd (Nat.le_of_ble_eq_true rfl) (am_lwJ (lo' := [some (.inr (0, 9)), some (.inl l1), none, none, none]) ⟨rfl, rfl, trivial⟩ (tX5_gather_0 hG h))
def bX10_isResource_16 (n : Nat) (s0 : Int32) (I : am_I) : Option (Int32 × am_I) := am_gd (am_01 s0) (some (s0, I))
theorem tX10_isResource_16 {G : am_G} (hG : am_ok G) {d : Nat} {s0 : Int32} {I : am_I} {r : Int32 × am_I} (h : bX10_isResource_16 G.2.2.2.1 s0  I = some r) : am_J G d mX10_isResource am_no (am_E (some r.1) r.2) 16 [none] [.inl s0] I := by
  unfold bX10_isResource_16 at h
  obtain ⟨g1, h⟩ := am_gd_some h
  cases h
  exact am_iret dX10_isResource_16 rfl (am_nz (am_01_of g1)).1 ⟨rfl, rfl⟩
def bX10_isResource_15 (n : Nat) (I : am_I) : Option (Int32 × am_I) := bX10_isResource_16 n (nI 0) I
theorem tX10_isResource_15 {G : am_G} (hG : am_ok G) {d : Nat} {I : am_I} {r : Int32 × am_I} (h : bX10_isResource_15 G.2.2.2.1  I = some r) : am_J G d mX10_isResource am_no (am_E (some r.1) r.2) 15 [none] [] I := by
  unfold bX10_isResource_15 at h
  refine am_iconst (v := nI 0) dX10_isResource_15 (by decide) ?_
  exact am_lwJ (lo' := [none]) trivial (tX10_isResource_16 hG h)
def bX10_isResource_0 (n : Nat) (l0 : Int32) (I : am_I) : Option (Int32 × am_I) := if l0 < 0 then (bX10_isResource_15 n I) else (if (nI 136) ≤ l0 then (bX10_isResource_15 n I) else (bX10_isResource_16 n (nI 1) I))
theorem tX10_isResource_0 {G : am_G} (hG : am_ok G) {d : Nat} {l0 : Int32} {I : am_I} {r : Int32 × am_I} (h : bX10_isResource_0 G.2.2.2.1 l0  I = some r) : am_J G d mX10_isResource am_no (am_E (some r.1) r.2) 0 [some (.inl l0)] [] I := by
  unfold bX10_isResource_0 at h
  refine am_iload_n dX10_isResource_0 rfl ?_
  refine am_if_lt (tgt := 15) dX10_isResource_1 rfl (fun c => ?_) (fun c => ?_)
  · rw [if_pos c] at h
    exact am_lwJ (lo' := [none]) trivial (tX10_isResource_15 hG h)
  · rw [if_neg c] at h
    refine am_iload_n dX10_isResource_4 rfl ?_
    refine am_sipush (v := nI 136) dX10_isResource_5 (by decide) ?_
    refine am_icmp_ge (tgt := 15) dX10_isResource_8 rfl (fun c => ?_) (fun c => ?_)
    · rw [if_pos c] at h
      exact am_lwJ (lo' := [none]) trivial (tX10_isResource_15 hG h)
    · rw [if_neg c] at h
      refine am_iconst (v := nI 1) dX10_isResource_11 (by decide) ?_
      refine am_goto (tgt := 16) dX10_isResource_12 rfl ?_
      exact am_lwJ (lo' := [none]) trivial (tX10_isResource_16 hG h)
def gX10_isResource (n : Nat) (l0 : Int32) (I : am_I) : Option (Int32 × am_I) := bX10_isResource_0 n l0 I
theorem sX10_isResource {G : am_G} (hG : am_ok G) {d : Nat} {l0 : Int32} {I : am_I} {r : Int32 × am_I} (h : gX10_isResource G.2.2.2.1 l0 I = some r) : am_C G d mX10_isResource [.inl l0] I (am_E (some r.1) r.2) :=
  am_of (by decide +kernel) hG.nd (Nat.le_of_ble_eq_true rfl) (am_lwJ (lo' := [some (.inl l0)]) ⟨rfl, trivial⟩ (tX10_isResource_0 hG h))
def bX6_ask_48 (n : Nat) (I : am_I) : Option (am_I) := some I
theorem tX6_ask_48 {G : am_G} (hG : am_ok G) {d : Nat} {I : am_I} {r : am_I} (h : bX6_ask_48 G.2.2.2.1  I = some r) : am_J G d mX6_ask am_no (am_E none r) 48 [none, none, none, none, none] [] I := by
  unfold bX6_ask_48 at h
  cases h
  exact am_vret dX6_ask_48 rfl ⟨rfl, rfl⟩
def bX6_ask_0 (n : Nat) (l1 : Int32) (l2 : Int32) (l3 : Int32) (I : am_I) : Option (am_I) := am_gd (am_inb l1 136) (if (nI 4) ≤ (I 0 8 l1.toNatClampNeg) then (bX6_ask_48 n I) else (am_gd (am_inb l1 136) (am_gd (am_inb ((l1 * (nI 4)) + (I 0 8 l1.toNatClampNeg)) 544) (am_lt (am_up I 0 6 ((l1 * (nI 4)) + (I 0 8 l1.toNatClampNeg)).toNatClampNeg l2) (fun I4 => am_gd (am_inb ((l1 * (nI 4)) + (I 0 8 l1.toNatClampNeg)) 544) (am_lt (am_up I4 0 7 ((l1 * (nI 4)) + (I 0 8 l1.toNatClampNeg)).toNatClampNeg l3) (fun I6 => am_gd (am_inb l1 136) (am_gd (am_inb l1 136) (am_lt (am_up I6 0 8 l1.toNatClampNeg ((I6 0 8 l1.toNatClampNeg) + (nI 1))) (fun I9 => bX6_ask_48 n I9))))))))))
theorem tX6_ask_0 {G : am_G} (hG : am_ok G) {d : Nat} {l1 : Int32} {l2 : Int32} {l3 : Int32} {I : am_I} {r : am_I} (h : bX6_ask_0 G.2.2.2.1 l1 l2 l3  I = some r) : am_J G d mX6_ask am_no (am_E none r) 0 [some (.inr (0, 3)), some (.inl l1), some (.inl l2), some (.inl l3), none] [] I := by
  unfold bX6_ask_0 at h
  refine am_aload_n dX6_ask_0 rfl ?_
  refine am_get (v := .inr (0, 8)) dX6_ask_1 fl_6_24 (hG.m0 (by decide)) rfl ?_
  refine am_iload_n dX6_ask_4 rfl ?_
  obtain ⟨g1, h⟩ := am_gd_some h
  refine am_ialdG dX6_ask_5 (hG.m0 (by decide)) rfl g1 (show 136 < 2 ^ 31 by decide) ?_
  refine am_iconst (v := nI 4) dX6_ask_6 (by decide) ?_
  refine am_icmp_ge (tgt := 48) dX6_ask_7 rfl (fun c => ?_) (fun c => ?_)
  · rw [if_pos c] at h
    exact am_lwJ (lo' := [none, none, none, none, none]) trivial (tX6_ask_48 hG h)
  · rw [if_neg c] at h
    refine am_iload_n dX6_ask_10 rfl ?_
    refine am_iconst (v := nI 4) dX6_ask_11 (by decide) ?_
    refine am_imul dX6_ask_12 ?_
    refine am_aload_n dX6_ask_13 rfl ?_
    refine am_get (v := .inr (0, 8)) dX6_ask_14 fl_6_24 (hG.m0 (by decide)) rfl ?_
    refine am_iload_n dX6_ask_17 rfl ?_
    obtain ⟨g2, h⟩ := am_gd_some h
    refine am_ialdG dX6_ask_18 (hG.m0 (by decide)) rfl g2 (show 136 < 2 ^ 31 by decide) ?_
    refine am_iadd dX6_ask_19 ?_
    refine am_istore dX6_ask_20 (by decide) ?_
    refine am_aload_n dX6_ask_22 rfl ?_
    refine am_get (v := .inr (0, 6)) dX6_ask_23 fl_6_18 (hG.m0 (by decide)) rfl ?_
    refine am_iload dX6_ask_26 rfl ?_
    refine am_iload_n dX6_ask_28 rfl ?_
    obtain ⟨g3, h⟩ := am_gd_some h
    refine am_iastG dX6_ask_29 (hG.m0 (by decide)) rfl g3 (show 544 < 2 ^ 31 by decide) ?_
    obtain ⟨I4, hI4, h⟩ := am_lt_some h
    refine am_st10 hI4 ?_
    refine am_aload_n dX6_ask_30 rfl ?_
    refine am_get (v := .inr (0, 7)) dX6_ask_31 fl_6_21 (hG.m0 (by decide)) rfl ?_
    refine am_iload dX6_ask_34 rfl ?_
    refine am_iload_n dX6_ask_36 rfl ?_
    obtain ⟨g5, h⟩ := am_gd_some h
    refine am_iastG dX6_ask_37 (hG.m0 (by decide)) rfl g5 (show 544 < 2 ^ 31 by decide) ?_
    obtain ⟨I6, hI6, h⟩ := am_lt_some h
    refine am_st10 hI6 ?_
    refine am_aload_n dX6_ask_38 rfl ?_
    refine am_get (v := .inr (0, 8)) dX6_ask_39 fl_6_24 (hG.m0 (by decide)) rfl ?_
    refine am_iload_n dX6_ask_42 rfl ?_
    refine am_dup2 dX6_ask_43 ?_
    obtain ⟨g7, h⟩ := am_gd_some h
    refine am_ialdG dX6_ask_44 (hG.m0 (by decide)) rfl g7 (show 136 < 2 ^ 31 by decide) ?_
    refine am_iconst (v := nI 1) dX6_ask_45 (by decide) ?_
    refine am_iadd dX6_ask_46 ?_
    obtain ⟨g8, h⟩ := am_gd_some h
    refine am_iastG dX6_ask_47 (hG.m0 (by decide)) rfl g8 (show 136 < 2 ^ 31 by decide) ?_
    obtain ⟨I9, hI9, h⟩ := am_lt_some h
    refine am_st10 hI9 ?_
    exact am_lwJ (lo' := [none, none, none, none, none]) trivial (tX6_ask_48 hG h)
def gX6_ask (n : Nat) (l1 : Int32) (l2 : Int32) (l3 : Int32) (I : am_I) : Option (am_I) := bX6_ask_0 n l1 l2 l3 I
theorem sX6_ask {G : am_G} (hG : am_ok G) {d : Nat} {l1 : Int32} {l2 : Int32} {l3 : Int32} {I : am_I} {r : am_I} (h : gX6_ask G.2.2.2.1 l1 l2 l3 I = some r) : am_C G d mX6_ask [.inr (0, 3), .inl l1, .inl l2, .inl l3] I (am_E none r) :=
  am_of (by decide +kernel) hG.nd (Nat.le_of_ble_eq_true rfl) (am_lwJ (lo' := [some (.inr (0, 3)), some (.inl l1), some (.inl l2), some (.inl l3), none]) ⟨rfl, rfl, rfl, rfl, trivial⟩ (tX6_ask_0 hG h))
def bX10_callOthersBack_116 (n : Nat) (k18 : Int32 → Int32 → Int32 → Int32 → Int32 → Int32 → am_I → Option (Int32 × am_I)) (l1 : Int32) (l2 : Int32) (l4 : Int32) (l5 : Int32) (l6 : Int32) (l7 : Int32) (I : am_I) : Option (Int32 × am_I) := k18 l1 l2 l4 l5 l6 (l7 + nI 1) I
theorem tX10_callOthersBack_116 {G : am_G} (hG : am_ok G) {d : Nat} {k18 : Int32 → Int32 → Int32 → Int32 → Int32 → Int32 → am_I → Option (Int32 × am_I)} (hk18 : ∀ (l1 : Int32) (l2 : Int32) (l4 : Int32) (l5 : Int32) (l6 : Int32) (l7 : Int32) (I : am_I) (r : Int32 × am_I), k18 l1 l2 l4 l5 l6 l7 I = some r → am_J G (d + 3) mX10_callOthersBack am_no (am_E (some r.1) r.2) 18 [some (.inr (0, 0)), some (.inl l1), some (.inl l2), none, some (.inl l4), some (.inl l5), some (.inl l6), some (.inl l7), none] [] I) {l1 : Int32} {l2 : Int32} {l4 : Int32} {l5 : Int32} {l6 : Int32} {l7 : Int32} {I : am_I} {r : Int32 × am_I} (h : bX10_callOthersBack_116 G.2.2.2.1 k18 l1 l2 l4 l5 l6 l7  I = some r) : am_J G (d + 3) mX10_callOthersBack am_no (am_E (some r.1) r.2) 116 [some (.inr (0, 0)), some (.inl l1), some (.inl l2), none, some (.inl l4), some (.inl l5), some (.inl l6), some (.inl l7), none] [] I := by
  unfold bX10_callOthersBack_116 at h
  refine am_iinc (v := l7 + nI 1) dX10_callOthersBack_116 rfl rfl ?_
  refine am_goto (tgt := 18) dX10_callOthersBack_119 rfl ?_
  exact am_lwJ (lo' := [some (.inr (0, 0)), some (.inl l1), some (.inl l2), none, some (.inl l4), some (.inl l5), some (.inl l6), some (.inl (l7 + nI 1)), none]) ⟨rfl, rfl, rfl, rfl, rfl, rfl, rfl, trivial⟩ (hk18 l1 l2 l4 l5 l6 (l7 + nI 1) _ _ h)
def bX10_callOthersBack_92 (n : Nat) (k18 : Int32 → Int32 → Int32 → Int32 → Int32 → Int32 → am_I → Option (Int32 × am_I)) (l1 : Int32) (l2 : Int32) (l4 : Int32) (l5 : Int32) (l6 : Int32) (l7 : Int32) (l8 : Int32) (I : am_I) : Option (Int32 × am_I) := am_gd (am_inb l8 544) (am_lt (am_up I 0 5 l8.toNatClampNeg l5) (fun I2 => (gX10_post n l4 l7 (nI 2) l1 l5 I2).bind (fun q3 => bX10_callOthersBack_116 n k18 l1 l2 l4 l5 l6 l7 q3)))
theorem tX10_callOthersBack_92 {G : am_G} (hG : am_ok G) {d : Nat} {k18 : Int32 → Int32 → Int32 → Int32 → Int32 → Int32 → am_I → Option (Int32 × am_I)} (hk18 : ∀ (l1 : Int32) (l2 : Int32) (l4 : Int32) (l5 : Int32) (l6 : Int32) (l7 : Int32) (I : am_I) (r : Int32 × am_I), k18 l1 l2 l4 l5 l6 l7 I = some r → am_J G (d + 3) mX10_callOthersBack am_no (am_E (some r.1) r.2) 18 [some (.inr (0, 0)), some (.inl l1), some (.inl l2), none, some (.inl l4), some (.inl l5), some (.inl l6), some (.inl l7), none] [] I) {l1 : Int32} {l2 : Int32} {l4 : Int32} {l5 : Int32} {l6 : Int32} {l7 : Int32} {l8 : Int32} {I : am_I} {r : Int32 × am_I} (h : bX10_callOthersBack_92 G.2.2.2.1 k18 l1 l2 l4 l5 l6 l7 l8  I = some r) : am_J G (d + 3) mX10_callOthersBack am_no (am_E (some r.1) r.2) 92 [some (.inr (0, 0)), some (.inl l1), some (.inl l2), none, some (.inl l4), some (.inl l5), some (.inl l6), some (.inl l7), some (.inl l8)] [] I := by
  unfold bX10_callOthersBack_92 at h
  refine am_aload_n dX10_callOthersBack_92 rfl ?_
  refine am_get (v := .inr (0, 3)) dX10_callOthersBack_93 fl_10_29 (hG.m0 (by decide)) rfl ?_
  refine am_get (v := .inr (0, 5)) dX10_callOthersBack_96 fl_10_445 (hG.m0 (by decide)) rfl ?_
  refine am_iload dX10_callOthersBack_99 rfl ?_
  refine am_iload dX10_callOthersBack_101 rfl ?_
  obtain ⟨g1, h⟩ := am_gd_some h
  refine am_iastG dX10_callOthersBack_103 (hG.m0 (by decide)) rfl g1 (show 544 < 2 ^ 31 by decide) ?_
  obtain ⟨I2, hI2, h⟩ := am_lt_some h
  refine am_st10 hI2 ?_
  refine am_aload_n dX10_callOthersBack_104 rfl ?_
  refine am_iload dX10_callOthersBack_105 rfl ?_
  refine am_iload dX10_callOthersBack_107 rfl ?_
  refine am_iconst (v := nI 2) dX10_callOthersBack_109 (by decide) ?_
  refine am_iload_n dX10_callOthersBack_110 rfl ?_
  refine am_iload dX10_callOthersBack_111 rfl ?_
  obtain ⟨q3, hq3, h⟩ := am_bd h
  refine am_callVe (i := 0) (j := 0) (as := [.inl l4, .inl l7, .inl (nI 2), .inl l1, .inl l5]) (rest := []) dX10_callOthersBack_113 lkX10_post ml_X10_391 imX10_post seX10_post rfl rfl (hG.m0 (by decide)) rfl (Nat.le_of_ble_eq_true rfl) rfl (sX10_post hG hq3) ?_
  exact am_lwJ (lo' := [some (.inr (0, 0)), some (.inl l1), some (.inl l2), none, some (.inl l4), some (.inl l5), some (.inl l6), some (.inl l7), none]) ⟨rfl, rfl, rfl, rfl, rfl, rfl, rfl, trivial⟩ (tX10_callOthersBack_116 hG hk18 h)
def bX10_callOthersBack_18 (n : Nat) : Nat → Int32 → Int32 → Int32 → Int32 → Int32 → Int32 → am_I → Option (Int32 × am_I)
  | 0, _, _, _, _, _, _, _ => none
  | fu + 1, l1, l2, l4, l5, l6, l7, I => (fun k18 => if (nI n) ≤ l7 then (am_gd (am_01 l6) (some (l6, I))) else (if l7 = l2 then (bX10_callOthersBack_116 n k18 l1 l2 l4 l5 l6 l7 I) else (am_gd (am_inb ((l1 * (nI 4)) + l7) 544) (if l5 < (I 0 4 (((l1 * (nI 4)) + l7).toNatClampNeg)) then (am_gd (am_inb ((l1 * (nI 4)) + l7) 544) (if (I 0 5 (((l1 * (nI 4)) + l7).toNatClampNeg)) = (-1 : Int32) then (bX10_callOthersBack_92 n k18 l1 l2 l4 l5 (nI 1) l7 ((l1 * (nI 4)) + l7) I) else (am_gd (am_inb ((l1 * (nI 4)) + l7) 544) (if (I 0 5 (((l1 * (nI 4)) + l7).toNatClampNeg)) ≤ l5 then (bX10_callOthersBack_116 n k18 l1 l2 l4 l5 (nI 1) l7 I) else (bX10_callOthersBack_92 n k18 l1 l2 l4 l5 (nI 1) l7 ((l1 * (nI 4)) + l7) I))))) else (bX10_callOthersBack_116 n k18 l1 l2 l4 l5 l6 l7 I))))) (bX10_callOthersBack_18 n fu)
theorem tX10_callOthersBack_18 {G : am_G} (hG : am_ok G) {d : Nat} : ∀ {fu : Nat} {l1 : Int32} {l2 : Int32} {l4 : Int32} {l5 : Int32} {l6 : Int32} {l7 : Int32} {I : am_I} {r : Int32 × am_I}, bX10_callOthersBack_18 G.2.2.2.1 fu l1 l2 l4 l5 l6 l7 I = some r → am_J G (d + 3) mX10_callOthersBack am_no (am_E (some r.1) r.2) 18 [some (.inr (0, 0)), some (.inl l1), some (.inl l2), none, some (.inl l4), some (.inl l5), some (.inl l6), some (.inl l7), none] [] I := by
  intro fu
  induction fu with
  | zero => intro l1 l2 l4 l5 l6 l7 I r h; cases h
  | succ fu ih =>
    intro l1 l2 l4 l5 l6 l7 I r h
    have hk18 : ∀ (l1 : Int32) (l2 : Int32) (l4 : Int32) (l5 : Int32) (l6 : Int32) (l7 : Int32) (I : am_I) (r : Int32 × am_I), bX10_callOthersBack_18 G.2.2.2.1 fu l1 l2 l4 l5 l6 l7 I = some r → am_J G (d + 3) mX10_callOthersBack am_no (am_E (some r.1) r.2) 18 [some (.inr (0, 0)), some (.inl l1), some (.inl l2), none, some (.inl l4), some (.inl l5), some (.inl l6), some (.inl l7), none] [] I := fun l1 l2 l4 l5 l6 l7 I r h => ih h
    unfold bX10_callOthersBack_18 at h
    generalize bX10_callOthersBack_18 G.2.2.2.1 fu = k18 at hk18 h
    dsimp only at h
    refine am_iload dX10_callOthersBack_18 rfl ?_
    refine am_aload_n dX10_callOthersBack_20 rfl ?_
    refine am_get (v := .inr (0, 2)) dX10_callOthersBack_21 fl_10_19 (hG.m0 (by decide)) rfl ?_
    refine am_alen3 dX10_callOthersBack_24 (hG.m0 (by decide)) rfl ?_
    refine am_icmp_ge (tgt := 122) dX10_callOthersBack_25 rfl (fun c => ?_) (fun c => ?_)
    · rw [if_pos c] at h
      refine am_iload dX10_callOthersBack_122 rfl ?_
      obtain ⟨g1, h⟩ := am_gd_some h
      cases h
      exact am_iret dX10_callOthersBack_124 rfl (am_nz (am_01_of g1)).1 ⟨rfl, rfl⟩
    · rw [if_neg c] at h
      refine am_iload_n dX10_callOthersBack_28 rfl ?_
      refine am_iconst (v := nI 4) dX10_callOthersBack_29 (by decide) ?_
      refine am_imul dX10_callOthersBack_30 ?_
      refine am_iload dX10_callOthersBack_31 rfl ?_
      refine am_iadd dX10_callOthersBack_33 ?_
      refine am_istore dX10_callOthersBack_34 (by decide) ?_
      refine am_iload dX10_callOthersBack_36 rfl ?_
      refine am_iload_n dX10_callOthersBack_38 rfl ?_
      refine am_icmp_eq (tgt := 116) dX10_callOthersBack_39 rfl (fun c => ?_) (fun c => ?_)
      · rw [if_pos c] at h
        exact am_lwJ (lo' := [some (.inr (0, 0)), some (.inl l1), some (.inl l2), none, some (.inl l4), some (.inl l5), some (.inl l6), some (.inl l7), none]) ⟨rfl, rfl, rfl, rfl, rfl, rfl, rfl, trivial⟩ (tX10_callOthersBack_116 hG hk18 h)
      · rw [if_neg c] at h
        refine am_aload_n dX10_callOthersBack_42 rfl ?_
        refine am_get (v := .inr (0, 3)) dX10_callOthersBack_43 fl_10_29 (hG.m0 (by decide)) rfl ?_
        refine am_get (v := .inr (0, 4)) dX10_callOthersBack_46 fl_10_262 (hG.m0 (by decide)) rfl ?_
        refine am_iload dX10_callOthersBack_49 rfl ?_
        obtain ⟨g2, h⟩ := am_gd_some h
        refine am_ialdG dX10_callOthersBack_51 (hG.m0 (by decide)) rfl g2 (show 544 < 2 ^ 31 by decide) ?_
        refine am_iload dX10_callOthersBack_52 rfl ?_
        refine am_icmp_gt (tgt := 60) dX10_callOthersBack_54 rfl (fun c => ?_) (fun c => ?_)
        · rw [if_pos c] at h
          refine am_iconst (v := nI 1) dX10_callOthersBack_60 (by decide) ?_
          refine am_istore dX10_callOthersBack_61 (by decide) ?_
          refine am_aload_n dX10_callOthersBack_63 rfl ?_
          refine am_get (v := .inr (0, 3)) dX10_callOthersBack_64 fl_10_29 (hG.m0 (by decide)) rfl ?_
          refine am_get (v := .inr (0, 5)) dX10_callOthersBack_67 fl_10_445 (hG.m0 (by decide)) rfl ?_
          refine am_iload dX10_callOthersBack_70 rfl ?_
          obtain ⟨g3, h⟩ := am_gd_some h
          refine am_ialdG dX10_callOthersBack_72 (hG.m0 (by decide)) rfl g3 (show 544 < 2 ^ 31 by decide) ?_
          refine am_iconst (v := (-1 : Int32)) dX10_callOthersBack_73 (by decide) ?_
          refine am_icmp_eq (tgt := 92) dX10_callOthersBack_74 rfl (fun c => ?_) (fun c => ?_)
          · rw [if_pos c] at h
            exact am_lwJ (lo' := [some (.inr (0, 0)), some (.inl l1), some (.inl l2), none, some (.inl l4), some (.inl l5), some (.inl (nI 1)), some (.inl l7), some (.inl ((l1 * (nI 4)) + l7))]) ⟨rfl, rfl, rfl, rfl, rfl, rfl, rfl, rfl, trivial⟩ (tX10_callOthersBack_92 hG hk18 h)
          · rw [if_neg c] at h
            refine am_aload_n dX10_callOthersBack_77 rfl ?_
            refine am_get (v := .inr (0, 3)) dX10_callOthersBack_78 fl_10_29 (hG.m0 (by decide)) rfl ?_
            refine am_get (v := .inr (0, 5)) dX10_callOthersBack_81 fl_10_445 (hG.m0 (by decide)) rfl ?_
            refine am_iload dX10_callOthersBack_84 rfl ?_
            obtain ⟨g4, h⟩ := am_gd_some h
            refine am_ialdG dX10_callOthersBack_86 (hG.m0 (by decide)) rfl g4 (show 544 < 2 ^ 31 by decide) ?_
            refine am_iload dX10_callOthersBack_87 rfl ?_
            refine am_icmp_le (tgt := 116) dX10_callOthersBack_89 rfl (fun c => ?_) (fun c => ?_)
            · rw [if_pos c] at h
              exact am_lwJ (lo' := [some (.inr (0, 0)), some (.inl l1), some (.inl l2), none, some (.inl l4), some (.inl l5), some (.inl (nI 1)), some (.inl l7), none]) ⟨rfl, rfl, rfl, rfl, rfl, rfl, rfl, trivial⟩ (tX10_callOthersBack_116 hG hk18 h)
            · rw [if_neg c] at h
              exact am_lwJ (lo' := [some (.inr (0, 0)), some (.inl l1), some (.inl l2), none, some (.inl l4), some (.inl l5), some (.inl (nI 1)), some (.inl l7), some (.inl ((l1 * (nI 4)) + l7))]) ⟨rfl, rfl, rfl, rfl, rfl, rfl, rfl, rfl, trivial⟩ (tX10_callOthersBack_92 hG hk18 h)
        · rw [if_neg c] at h
          refine am_goto (tgt := 116) dX10_callOthersBack_57 rfl ?_
          exact am_lwJ (lo' := [some (.inr (0, 0)), some (.inl l1), some (.inl l2), none, some (.inl l4), some (.inl l5), some (.inl l6), some (.inl l7), none]) ⟨rfl, rfl, rfl, rfl, rfl, rfl, rfl, trivial⟩ (tX10_callOthersBack_116 hG hk18 h)
def bX10_callOthersBack_10 (n : Nat) (l1 : Int32) (l2 : Int32) (l4 : Int32) (s0 : Int32) (I : am_I) : Option (Int32 × am_I) := bX10_callOthersBack_18 n am_fu l1 l2 l4 s0 (nI 0) (nI 0) I
theorem tX10_callOthersBack_10 {G : am_G} (hG : am_ok G) {d : Nat} {l1 : Int32} {l2 : Int32} {l4 : Int32} {s0 : Int32} {I : am_I} {r : Int32 × am_I} (h : bX10_callOthersBack_10 G.2.2.2.1 l1 l2 l4 s0  I = some r) : am_J G (d + 3) mX10_callOthersBack am_no (am_E (some r.1) r.2) 10 [some (.inr (0, 0)), some (.inl l1), some (.inl l2), none, some (.inl l4), none, none, none, none] [.inl s0] I := by
  unfold bX10_callOthersBack_10 at h
  refine am_istore dX10_callOthersBack_10 (by decide) ?_
  refine am_iconst (v := nI 0) dX10_callOthersBack_12 (by decide) ?_
  refine am_istore dX10_callOthersBack_13 (by decide) ?_
  refine am_iconst (v := nI 0) dX10_callOthersBack_15 (by decide) ?_
  refine am_istore dX10_callOthersBack_16 (by decide) ?_
  exact am_lwJ (lo' := [some (.inr (0, 0)), some (.inl l1), some (.inl l2), none, some (.inl l4), some (.inl s0), some (.inl (nI 0)), some (.inl (nI 0)), none]) ⟨rfl, rfl, rfl, rfl, rfl, rfl, rfl, trivial⟩ (tX10_callOthersBack_18 hG h)
def bX10_callOthersBack_0 (n : Nat) (l1 : Int32) (l2 : Int32) (l3 : Int32) (l4 : Int32) (I : am_I) : Option (Int32 × am_I) := if l3 = (nI 2) then (bX10_callOthersBack_10 n l1 l2 l4 (nI 0) I) else (bX10_callOthersBack_10 n l1 l2 l4 (nI 1) I)
theorem tX10_callOthersBack_0 {G : am_G} (hG : am_ok G) {d : Nat} {l1 : Int32} {l2 : Int32} {l3 : Int32} {l4 : Int32} {I : am_I} {r : Int32 × am_I} (h : bX10_callOthersBack_0 G.2.2.2.1 l1 l2 l3 l4  I = some r) : am_J G (d + 3) mX10_callOthersBack am_no (am_E (some r.1) r.2) 0 [some (.inr (0, 0)), some (.inl l1), some (.inl l2), some (.inl l3), some (.inl l4), none, none, none, none] [] I := by
  unfold bX10_callOthersBack_0 at h
  refine am_iload_n dX10_callOthersBack_0 rfl ?_
  refine am_iconst (v := nI 2) dX10_callOthersBack_1 (by decide) ?_
  refine am_icmp_ne (tgt := 9) dX10_callOthersBack_2 rfl (fun c => ?_) (fun c => ?_)
  · rw [if_neg c] at h
    refine am_iconst (v := nI 1) dX10_callOthersBack_9 (by decide) ?_
    exact am_lwJ (lo' := [some (.inr (0, 0)), some (.inl l1), some (.inl l2), none, some (.inl l4), none, none, none, none]) ⟨rfl, rfl, rfl, rfl, trivial⟩ (tX10_callOthersBack_10 hG h)
  · rw [if_pos c] at h
    refine am_iconst (v := nI 0) dX10_callOthersBack_5 (by decide) ?_
    refine am_goto (tgt := 10) dX10_callOthersBack_6 rfl ?_
    exact am_lwJ (lo' := [some (.inr (0, 0)), some (.inl l1), some (.inl l2), none, some (.inl l4), none, none, none, none]) ⟨rfl, rfl, rfl, rfl, trivial⟩ (tX10_callOthersBack_10 hG h)
def gX10_callOthersBack (n : Nat) (l1 : Int32) (l2 : Int32) (l3 : Int32) (l4 : Int32) (I : am_I) : Option (Int32 × am_I) := bX10_callOthersBack_0 n l1 l2 l3 l4 I
theorem sX10_callOthersBack {G : am_G} (hG : am_ok G) {d : Nat} {l1 : Int32} {l2 : Int32} {l3 : Int32} {l4 : Int32} {I : am_I} {r : Int32 × am_I} (h : gX10_callOthersBack G.2.2.2.1 l1 l2 l3 l4 I = some r) : am_C G (d + 3) mX10_callOthersBack [.inr (0, 0), .inl l1, .inl l2, .inl l3, .inl l4] I (am_E (some r.1) r.2) :=
  am_of (by decide +kernel) hG.nd (Nat.le_of_ble_eq_true rfl) (am_lwJ (lo' := [some (.inr (0, 0)), some (.inl l1), some (.inl l2), some (.inl l3), some (.inl l4), none, none, none, none]) ⟨rfl, rfl, rfl, rfl, rfl, trivial⟩ (tX10_callOthersBack_0 hG h))
def bX6_give_0 (n : Nat) (l1 : Int32) (l2 : Int32) (l3 : Int32) (I : am_I) : Option (am_I) := am_gd (am_inb ((l1 * (nI 4)) + l2) 544) (am_gd (am_inb ((l1 * (nI 4)) + l2) 544) (am_lt (am_up I 0 4 ((l1 * (nI 4)) + l2).toNatClampNeg ((if l3 ≤ (I 0 4 (((l1 * (nI 4)) + l2).toNatClampNeg)) then (I 0 4 (((l1 * (nI 4)) + l2).toNatClampNeg)) else l3))) (fun I3 => some I3)))
theorem tX6_give_0 {G : am_G} (hG : am_ok G) {d : Nat} {l1 : Int32} {l2 : Int32} {l3 : Int32} {I : am_I} {r : am_I} (h : bX6_give_0 G.2.2.2.1 l1 l2 l3  I = some r) : am_J G (d + 1) mX6_give am_no (am_E none r) 0 [some (.inr (0, 3)), some (.inl l1), some (.inl l2), some (.inl l3), none] [] I := by
  unfold bX6_give_0 at h
  refine am_iload_n dX6_give_0 rfl ?_
  refine am_iconst (v := nI 4) dX6_give_1 (by decide) ?_
  refine am_imul dX6_give_2 ?_
  refine am_iload_n dX6_give_3 rfl ?_
  refine am_iadd dX6_give_4 ?_
  refine am_istore dX6_give_5 (by decide) ?_
  refine am_aload_n dX6_give_7 rfl ?_
  refine am_get (v := .inr (0, 4)) dX6_give_8 fl_6_9 (hG.m0 (by decide)) rfl ?_
  refine am_iload dX6_give_11 rfl ?_
  refine am_aload_n dX6_give_13 rfl ?_
  refine am_get (v := .inr (0, 4)) dX6_give_14 fl_6_9 (hG.m0 (by decide)) rfl ?_
  refine am_iload dX6_give_17 rfl ?_
  obtain ⟨g1, h⟩ := am_gd_some h
  refine am_ialdG dX6_give_19 (hG.m0 (by decide)) rfl g1 (show 544 < 2 ^ 31 by decide) ?_
  refine am_iload_n dX6_give_20 rfl ?_
  refine am_callSx (as := [.inl (I 0 4 (((l1 * (nI 4)) + l2).toNatClampNeg)), .inl l3]) (rest := [.inl ((l1 * (nI 4)) + l2), .inr (0, 4)]) dX6_give_21 lkJ9_max_7cf53 ml_X6_33 isJ9_max_7cf53 rfl (Nat.le_of_ble_eq_true rfl) rfl (c_max hG.nd (I 0 4 (((l1 * (nI 4)) + l2).toNatClampNeg)) l3 I) ?_
  obtain ⟨g2, h⟩ := am_gd_some h
  refine am_iastG dX6_give_24 (hG.m0 (by decide)) rfl g2 (show 544 < 2 ^ 31 by decide) ?_
  obtain ⟨I3, hI3, h⟩ := am_lt_some h
  refine am_st10 hI3 ?_
  cases h
  exact am_vret dX6_give_25 rfl ⟨rfl, rfl⟩
def gX6_give (n : Nat) (l1 : Int32) (l2 : Int32) (l3 : Int32) (I : am_I) : Option (am_I) := bX6_give_0 n l1 l2 l3 I
theorem sX6_give {G : am_G} (hG : am_ok G) {d : Nat} {l1 : Int32} {l2 : Int32} {l3 : Int32} {I : am_I} {r : am_I} (h : gX6_give G.2.2.2.1 l1 l2 l3 I = some r) : am_C G (d + 1) mX6_give [.inr (0, 3), .inl l1, .inl l2, .inl l3] I (am_E none r) :=
  am_of (by decide +kernel) hG.nd (Nat.le_of_ble_eq_true rfl) (am_lwJ (lo' := [some (.inr (0, 3)), some (.inl l1), some (.inl l2), some (.inl l3), none]) ⟨rfl, rfl, rfl, rfl, trivial⟩ (tX6_give_0 hG h))
def bX6_dropFirst_6 (n : Nat) : Nat → Int32 → Int32 → Int32 → am_I → Option (am_I)
  | 0, _, _, _, _ => none
  | fu + 1, l1, l2, l3, I => (fun k6 => am_gd (am_inb l1 136) (if (I 0 8 l1.toNatClampNeg) ≤ l3 then (am_gd (am_inb l1 136) (am_gd (am_inb l1 136) (am_lt (am_up I 0 8 l1.toNatClampNeg ((if ((I 0 8 l1.toNatClampNeg) - (nI 1)) ≤ (nI 0) then (nI 0) else ((I 0 8 l1.toNatClampNeg) - (nI 1))))) (fun I4 => some I4)))) else (am_gd (am_inb (l2 + l3) 544) (am_gd (am_inb ((l2 + l3) - (nI 1)) 544) (am_lt (am_up I 0 6 ((l2 + l3) - (nI 1)).toNatClampNeg (I 0 6 ((l2 + l3).toNatClampNeg))) (fun I7 => am_gd (am_inb (l2 + l3) 544) (am_gd (am_inb ((l2 + l3) - (nI 1)) 544) (am_lt (am_up I7 0 7 ((l2 + l3) - (nI 1)).toNatClampNeg (I7 0 7 ((l2 + l3).toNatClampNeg))) (fun I10 => k6 l1 l2 (l3 + nI 1) I10))))))))) (bX6_dropFirst_6 n fu)
theorem tX6_dropFirst_6 {G : am_G} (hG : am_ok G) {d : Nat} : ∀ {fu : Nat} {l1 : Int32} {l2 : Int32} {l3 : Int32} {I : am_I} {r : am_I}, bX6_dropFirst_6 G.2.2.2.1 fu l1 l2 l3 I = some r → am_J G (d + 1) mX6_dropFirst am_no (am_E none r) 6 [some (.inr (0, 3)), some (.inl l1), some (.inl l2), some (.inl l3)] [] I := by
  intro fu
  induction fu with
  | zero => intro l1 l2 l3 I r h; cases h
  | succ fu ih =>
    intro l1 l2 l3 I r h
    have hk6 : ∀ (l1 : Int32) (l2 : Int32) (l3 : Int32) (I : am_I) (r : am_I), bX6_dropFirst_6 G.2.2.2.1 fu l1 l2 l3 I = some r → am_J G (d + 1) mX6_dropFirst am_no (am_E none r) 6 [some (.inr (0, 3)), some (.inl l1), some (.inl l2), some (.inl l3)] [] I := fun l1 l2 l3 I r h => ih h
    unfold bX6_dropFirst_6 at h
    generalize bX6_dropFirst_6 G.2.2.2.1 fu = k6 at hk6 h
    dsimp only at h
    refine am_iload_n dX6_dropFirst_6 rfl ?_
    refine am_aload_n dX6_dropFirst_7 rfl ?_
    refine am_get (v := .inr (0, 8)) dX6_dropFirst_8 fl_6_24 (hG.m0 (by decide)) rfl ?_
    refine am_iload_n dX6_dropFirst_11 rfl ?_
    obtain ⟨g1, h⟩ := am_gd_some h
    refine am_ialdG dX6_dropFirst_12 (hG.m0 (by decide)) rfl g1 (show 136 < 2 ^ 31 by decide) ?_
    refine am_icmp_ge (tgt := 58) dX6_dropFirst_13 rfl (fun c => ?_) (fun c => ?_)
    · rw [if_pos c] at h
      refine am_aload_n dX6_dropFirst_58 rfl ?_
      refine am_get (v := .inr (0, 8)) dX6_dropFirst_59 fl_6_24 (hG.m0 (by decide)) rfl ?_
      refine am_iload_n dX6_dropFirst_62 rfl ?_
      refine am_iconst (v := nI 0) dX6_dropFirst_63 (by decide) ?_
      refine am_aload_n dX6_dropFirst_64 rfl ?_
      refine am_get (v := .inr (0, 8)) dX6_dropFirst_65 fl_6_24 (hG.m0 (by decide)) rfl ?_
      refine am_iload_n dX6_dropFirst_68 rfl ?_
      obtain ⟨g2, h⟩ := am_gd_some h
      refine am_ialdG dX6_dropFirst_69 (hG.m0 (by decide)) rfl g2 (show 136 < 2 ^ 31 by decide) ?_
      refine am_iconst (v := nI 1) dX6_dropFirst_70 (by decide) ?_
      refine am_isub dX6_dropFirst_71 ?_
      refine am_callSx (as := [.inl (nI 0), .inl ((I 0 8 l1.toNatClampNeg) - (nI 1))]) (rest := [.inl l1, .inr (0, 8)]) dX6_dropFirst_72 lkJ9_max_7cf53 ml_X6_33 isJ9_max_7cf53 rfl (Nat.le_of_ble_eq_true rfl) rfl (c_max hG.nd (nI 0) ((I 0 8 l1.toNatClampNeg) - (nI 1)) I) ?_
      obtain ⟨g3, h⟩ := am_gd_some h
      refine am_iastG dX6_dropFirst_75 (hG.m0 (by decide)) rfl g3 (show 136 < 2 ^ 31 by decide) ?_
      obtain ⟨I4, hI4, h⟩ := am_lt_some h
      refine am_st10 hI4 ?_
      cases h
      exact am_vret dX6_dropFirst_76 rfl ⟨rfl, rfl⟩
    · rw [if_neg c] at h
      refine am_aload_n dX6_dropFirst_16 rfl ?_
      refine am_get (v := .inr (0, 6)) dX6_dropFirst_17 fl_6_18 (hG.m0 (by decide)) rfl ?_
      refine am_iload_n dX6_dropFirst_20 rfl ?_
      refine am_iload_n dX6_dropFirst_21 rfl ?_
      refine am_iadd dX6_dropFirst_22 ?_
      refine am_iconst (v := nI 1) dX6_dropFirst_23 (by decide) ?_
      refine am_isub dX6_dropFirst_24 ?_
      refine am_aload_n dX6_dropFirst_25 rfl ?_
      refine am_get (v := .inr (0, 6)) dX6_dropFirst_26 fl_6_18 (hG.m0 (by decide)) rfl ?_
      refine am_iload_n dX6_dropFirst_29 rfl ?_
      refine am_iload_n dX6_dropFirst_30 rfl ?_
      refine am_iadd dX6_dropFirst_31 ?_
      obtain ⟨g5, h⟩ := am_gd_some h
      refine am_ialdG dX6_dropFirst_32 (hG.m0 (by decide)) rfl g5 (show 544 < 2 ^ 31 by decide) ?_
      obtain ⟨g6, h⟩ := am_gd_some h
      refine am_iastG dX6_dropFirst_33 (hG.m0 (by decide)) rfl g6 (show 544 < 2 ^ 31 by decide) ?_
      obtain ⟨I7, hI7, h⟩ := am_lt_some h
      refine am_st10 hI7 ?_
      refine am_aload_n dX6_dropFirst_34 rfl ?_
      refine am_get (v := .inr (0, 7)) dX6_dropFirst_35 fl_6_21 (hG.m0 (by decide)) rfl ?_
      refine am_iload_n dX6_dropFirst_38 rfl ?_
      refine am_iload_n dX6_dropFirst_39 rfl ?_
      refine am_iadd dX6_dropFirst_40 ?_
      refine am_iconst (v := nI 1) dX6_dropFirst_41 (by decide) ?_
      refine am_isub dX6_dropFirst_42 ?_
      refine am_aload_n dX6_dropFirst_43 rfl ?_
      refine am_get (v := .inr (0, 7)) dX6_dropFirst_44 fl_6_21 (hG.m0 (by decide)) rfl ?_
      refine am_iload_n dX6_dropFirst_47 rfl ?_
      refine am_iload_n dX6_dropFirst_48 rfl ?_
      refine am_iadd dX6_dropFirst_49 ?_
      obtain ⟨g8, h⟩ := am_gd_some h
      refine am_ialdG dX6_dropFirst_50 (hG.m0 (by decide)) rfl g8 (show 544 < 2 ^ 31 by decide) ?_
      obtain ⟨g9, h⟩ := am_gd_some h
      refine am_iastG dX6_dropFirst_51 (hG.m0 (by decide)) rfl g9 (show 544 < 2 ^ 31 by decide) ?_
      obtain ⟨I10, hI10, h⟩ := am_lt_some h
      refine am_st10 hI10 ?_
      refine am_iinc (v := l3 + nI 1) dX6_dropFirst_52 rfl rfl ?_
      refine am_goto (tgt := 6) dX6_dropFirst_55 rfl ?_
      exact am_lwJ (lo' := [some (.inr (0, 3)), some (.inl l1), some (.inl l2), some (.inl (l3 + nI 1))]) ⟨rfl, rfl, rfl, rfl, trivial⟩ (hk6 l1 l2 (l3 + nI 1) _ _ h)
def bX6_dropFirst_0 (n : Nat) (l1 : Int32) (I : am_I) : Option (am_I) := bX6_dropFirst_6 n am_fu l1 (l1 * (nI 4)) (nI 1) I
theorem tX6_dropFirst_0 {G : am_G} (hG : am_ok G) {d : Nat} {l1 : Int32} {I : am_I} {r : am_I} (h : bX6_dropFirst_0 G.2.2.2.1 l1  I = some r) : am_J G (d + 1) mX6_dropFirst am_no (am_E none r) 0 [some (.inr (0, 3)), some (.inl l1), none, none] [] I := by
  unfold bX6_dropFirst_0 at h
  refine am_iload_n dX6_dropFirst_0 rfl ?_
  refine am_iconst (v := nI 4) dX6_dropFirst_1 (by decide) ?_
  refine am_imul dX6_dropFirst_2 ?_
  refine am_istore_n dX6_dropFirst_3 (by decide) ?_
  refine am_iconst (v := nI 1) dX6_dropFirst_4 (by decide) ?_
  refine am_istore_n dX6_dropFirst_5 (by decide) ?_
  exact am_lwJ (lo' := [some (.inr (0, 3)), some (.inl l1), some (.inl (l1 * (nI 4))), some (.inl (nI 1))]) ⟨rfl, rfl, rfl, rfl, trivial⟩ (tX6_dropFirst_6 hG h)
def gX6_dropFirst (n : Nat) (l1 : Int32) (I : am_I) : Option (am_I) := bX6_dropFirst_0 n l1 I
theorem sX6_dropFirst {G : am_G} (hG : am_ok G) {d : Nat} {l1 : Int32} {I : am_I} {r : am_I} (h : gX6_dropFirst G.2.2.2.1 l1 I = some r) : am_C G (d + 1) mX6_dropFirst [.inr (0, 3), .inl l1] I (am_E none r) :=
  am_of (by decide +kernel) hG.nd (Nat.le_of_ble_eq_true rfl) (am_lwJ (lo' := [some (.inr (0, 3)), some (.inl l1), none, none]) ⟨rfl, rfl, trivial⟩ (tX6_dropFirst_0 hG h))
def bX10_serve_102 (n : Nat) (I : am_I) : Option (am_I) := some I
theorem tX10_serve_102 {G : am_G} (hG : am_ok G) {d : Nat} {I : am_I} {r : am_I} (h : bX10_serve_102 G.2.2.2.1  I = some r) : am_J G (d + 4) mX10_serve am_no (am_E none r) 102 [none, none, none, none, none, none] [] I := by
  unfold bX10_serve_102 at h
  cases h
  exact am_vret dX10_serve_102 rfl ⟨rfl, rfl⟩
def bX10_serve_8 (n : Nat) : Nat → Int32 → Int32 → Int32 → am_I → Option (am_I)
  | 0, _, _, _, _ => none
  | fu + 1, l1, l2, l3, I => (fun k8 => if (nI 4) ≤ l3 then (bX10_serve_102 n I) else (am_gd (am_inb l1 136) (if (I 0 8 l1.toNatClampNeg) ≤ 0 then (bX10_serve_102 n I) else (am_gd (am_inb (l1 * (nI 4)) 544) (am_gd (am_inb (l1 * (nI 4)) 544) ((gX10_callOthersBack n l1 (I 0 6 ((l1 * (nI 4)).toNatClampNeg)) (I 0 7 ((l1 * (nI 4)).toNatClampNeg)) l2 I).bind (fun q4 => if q4.1 = 0 then ((gX6_give n l1 (I 0 6 ((l1 * (nI 4)).toNatClampNeg)) (I 0 7 ((l1 * (nI 4)).toNatClampNeg)) q4.2).bind (fun q5 => (gX6_dropFirst n l1 q5).bind (fun q6 => (gX10_post n l2 (I 0 6 ((l1 * (nI 4)).toNatClampNeg)) (nI 1) l1 (I 0 7 ((l1 * (nI 4)).toNatClampNeg)) q6).bind (fun q7 => k8 l1 l2 (l3 + nI 1) q7)))) else (some q4.2)))))))) (bX10_serve_8 n fu)
theorem tX10_serve_8 {G : am_G} (hG : am_ok G) {d : Nat} : ∀ {fu : Nat} {l1 : Int32} {l2 : Int32} {l3 : Int32} {I : am_I} {r : am_I}, bX10_serve_8 G.2.2.2.1 fu l1 l2 l3 I = some r → am_J G (d + 4) mX10_serve am_no (am_E none r) 8 [some (.inr (0, 0)), some (.inl l1), some (.inl l2), some (.inl l3), none, none] [] I := by
  intro fu
  induction fu with
  | zero => intro l1 l2 l3 I r h; cases h
  | succ fu ih =>
    intro l1 l2 l3 I r h
    have hk8 : ∀ (l1 : Int32) (l2 : Int32) (l3 : Int32) (I : am_I) (r : am_I), bX10_serve_8 G.2.2.2.1 fu l1 l2 l3 I = some r → am_J G (d + 4) mX10_serve am_no (am_E none r) 8 [some (.inr (0, 0)), some (.inl l1), some (.inl l2), some (.inl l3), none, none] [] I := fun l1 l2 l3 I r h => ih h
    unfold bX10_serve_8 at h
    generalize bX10_serve_8 G.2.2.2.1 fu = k8 at hk8 h
    dsimp only at h
    refine am_iload_n dX10_serve_8 rfl ?_
    refine am_iconst (v := nI 4) dX10_serve_9 (by decide) ?_
    refine am_icmp_ge (tgt := 102) dX10_serve_10 rfl (fun c => ?_) (fun c => ?_)
    · rw [if_pos c] at h
      exact am_lwJ (lo' := [none, none, none, none, none, none]) trivial (tX10_serve_102 hG h)
    · rw [if_neg c] at h
      refine am_aload_n dX10_serve_13 rfl ?_
      refine am_get (v := .inr (0, 3)) dX10_serve_14 fl_10_29 (hG.m0 (by decide)) rfl ?_
      refine am_get (v := .inr (0, 8)) dX10_serve_17 fl_10_267 (hG.m0 (by decide)) rfl ?_
      refine am_iload_n dX10_serve_20 rfl ?_
      obtain ⟨g1, h⟩ := am_gd_some h
      refine am_ialdG dX10_serve_21 (hG.m0 (by decide)) rfl g1 (show 136 < 2 ^ 31 by decide) ?_
      refine am_if_le (tgt := 102) dX10_serve_22 rfl (fun c => ?_) (fun c => ?_)
      · rw [if_pos c] at h
        exact am_lwJ (lo' := [none, none, none, none, none, none]) trivial (tX10_serve_102 hG h)
      · rw [if_neg c] at h
        refine am_aload_n dX10_serve_25 rfl ?_
        refine am_get (v := .inr (0, 3)) dX10_serve_26 fl_10_29 (hG.m0 (by decide)) rfl ?_
        refine am_get (v := .inr (0, 6)) dX10_serve_29 fl_10_270 (hG.m0 (by decide)) rfl ?_
        refine am_iload_n dX10_serve_32 rfl ?_
        refine am_iconst (v := nI 4) dX10_serve_33 (by decide) ?_
        refine am_imul dX10_serve_34 ?_
        obtain ⟨g2, h⟩ := am_gd_some h
        refine am_ialdG dX10_serve_35 (hG.m0 (by decide)) rfl g2 (show 544 < 2 ^ 31 by decide) ?_
        refine am_istore dX10_serve_36 (by decide) ?_
        refine am_aload_n dX10_serve_38 rfl ?_
        refine am_get (v := .inr (0, 3)) dX10_serve_39 fl_10_29 (hG.m0 (by decide)) rfl ?_
        refine am_get (v := .inr (0, 7)) dX10_serve_42 fl_10_273 (hG.m0 (by decide)) rfl ?_
        refine am_iload_n dX10_serve_45 rfl ?_
        refine am_iconst (v := nI 4) dX10_serve_46 (by decide) ?_
        refine am_imul dX10_serve_47 ?_
        obtain ⟨g3, h⟩ := am_gd_some h
        refine am_ialdG dX10_serve_48 (hG.m0 (by decide)) rfl g3 (show 544 < 2 ^ 31 by decide) ?_
        refine am_istore dX10_serve_49 (by decide) ?_
        refine am_aload_n dX10_serve_51 rfl ?_
        refine am_iload_n dX10_serve_52 rfl ?_
        refine am_iload dX10_serve_53 rfl ?_
        refine am_iload dX10_serve_55 rfl ?_
        refine am_iload_n dX10_serve_57 rfl ?_
        obtain ⟨q4, hq4, h⟩ := am_bd h
        refine am_callVx (i := 0) (j := 0) (as := [.inl l1, .inl (I 0 6 ((l1 * (nI 4)).toNatClampNeg)), .inl (I 0 7 ((l1 * (nI 4)).toNatClampNeg)), .inl l2]) (rest := []) dX10_serve_58 lkX10_callOthersBack ml_X10_435 imX10_callOthersBack seX10_callOthersBack rfl rfl (hG.m0 (by decide)) rfl (Nat.le_of_ble_eq_true rfl) rfl (sX10_callOthersBack hG hq4) ?_
        refine am_if_eq (tgt := 65) dX10_serve_61 rfl (fun c => ?_) (fun c => ?_)
        · rw [if_pos c] at h
          refine am_aload_n dX10_serve_65 rfl ?_
          refine am_get (v := .inr (0, 3)) dX10_serve_66 fl_10_29 (hG.m0 (by decide)) rfl ?_
          refine am_iload_n dX10_serve_69 rfl ?_
          refine am_iload dX10_serve_70 rfl ?_
          refine am_iload dX10_serve_72 rfl ?_
          obtain ⟨q5, hq5, h⟩ := am_bd h
          refine am_callVe (i := 0) (j := 3) (as := [.inl l1, .inl (I 0 6 ((l1 * (nI 4)).toNatClampNeg)), .inl (I 0 7 ((l1 * (nI 4)).toNatClampNeg))]) (rest := []) dX10_serve_74 lkX6_give ml_X10_439 imX6_give seX6_give rfl rfl (hG.m0 (by decide)) rfl (Nat.le_of_ble_eq_true rfl) rfl (sX6_give hG hq5) ?_
          refine am_aload_n dX10_serve_77 rfl ?_
          refine am_get (v := .inr (0, 3)) dX10_serve_78 fl_10_29 (hG.m0 (by decide)) rfl ?_
          refine am_iload_n dX10_serve_81 rfl ?_
          obtain ⟨q6, hq6, h⟩ := am_bd h
          refine am_callVe (i := 0) (j := 3) (as := [.inl l1]) (rest := []) dX10_serve_82 lkX6_dropFirst ml_X10_442 imX6_dropFirst seX6_dropFirst rfl rfl (hG.m0 (by decide)) rfl (Nat.le_of_ble_eq_true rfl) rfl (sX6_dropFirst hG hq6) ?_
          refine am_aload_n dX10_serve_85 rfl ?_
          refine am_iload_n dX10_serve_86 rfl ?_
          refine am_iload dX10_serve_87 rfl ?_
          refine am_iconst (v := nI 1) dX10_serve_89 (by decide) ?_
          refine am_iload_n dX10_serve_90 rfl ?_
          refine am_iload dX10_serve_91 rfl ?_
          obtain ⟨q7, hq7, h⟩ := am_bd h
          refine am_callVe (i := 0) (j := 0) (as := [.inl l2, .inl (I 0 6 ((l1 * (nI 4)).toNatClampNeg)), .inl (nI 1), .inl l1, .inl (I 0 7 ((l1 * (nI 4)).toNatClampNeg))]) (rest := []) dX10_serve_93 lkX10_post ml_X10_391 imX10_post seX10_post rfl rfl (hG.m0 (by decide)) rfl (Nat.le_of_ble_eq_true rfl) rfl (sX10_post hG hq7) ?_
          refine am_iinc (v := l3 + nI 1) dX10_serve_96 rfl rfl ?_
          refine am_goto (tgt := 8) dX10_serve_99 rfl ?_
          exact am_lwJ (lo' := [some (.inr (0, 0)), some (.inl l1), some (.inl l2), some (.inl (l3 + nI 1)), none, none]) ⟨rfl, rfl, rfl, rfl, trivial⟩ (hk8 l1 l2 (l3 + nI 1) _ _ h)
        · rw [if_neg c] at h
          cases h
          exact am_vret dX10_serve_64 rfl ⟨rfl, rfl⟩
def bX10_serve_0 (n : Nat) (l1 : Int32) (I : am_I) : Option (am_I) := (gX10_masterOf n l1 I).bind (fun q1 => bX10_serve_8 n am_fu l1 q1.1 (nI 0) q1.2)
theorem tX10_serve_0 {G : am_G} (hG : am_ok G) {d : Nat} {l1 : Int32} {I : am_I} {r : am_I} (h : bX10_serve_0 G.2.2.2.1 l1  I = some r) : am_J G (d + 4) mX10_serve am_no (am_E none r) 0 [some (.inr (0, 0)), some (.inl l1), none, none, none, none] [] I := by
  unfold bX10_serve_0 at h
  refine am_aload_n dX10_serve_0 rfl ?_
  refine am_iload_n dX10_serve_1 rfl ?_
  obtain ⟨q1, hq1, h⟩ := am_bd h
  refine am_callVx (i := 0) (j := 0) (as := [.inl l1]) (rest := []) dX10_serve_2 lkX10_masterOf ml_X10_158 imX10_masterOf seX10_masterOf rfl rfl (hG.m0 (by decide)) rfl (Nat.le_of_ble_eq_true rfl) rfl (sX10_masterOf hG hq1) ?_
  refine am_istore_n dX10_serve_5 (by decide) ?_
  refine am_iconst (v := nI 0) dX10_serve_6 (by decide) ?_
  refine am_istore_n dX10_serve_7 (by decide) ?_
  exact am_lwJ (lo' := [some (.inr (0, 0)), some (.inl l1), some (.inl q1.1), some (.inl (nI 0)), none, none]) ⟨rfl, rfl, rfl, rfl, trivial⟩ (tX10_serve_8 hG h)
def gX10_serve (n : Nat) (l1 : Int32) (I : am_I) : Option (am_I) := bX10_serve_0 n l1 I
theorem sX10_serve {G : am_G} (hG : am_ok G) {d : Nat} {l1 : Int32} {I : am_I} {r : am_I} (h : gX10_serve G.2.2.2.1 l1 I = some r) : am_C G (d + 4) mX10_serve [.inr (0, 0), .inl l1] I (am_E none r) :=
  am_of (by decide +kernel) hG.nd (Nat.le_of_ble_eq_true rfl) (am_lwJ (lo' := [some (.inr (0, 0)), some (.inl l1), none, none, none, none]) ⟨rfl, rfl, trivial⟩ (tX10_serve_0 hG h))
def bX6_release_0 (n : Nat) (l1 : Int32) (l2 : Int32) (l3 : Int32) (I : am_I) : Option (am_I) := am_gd (am_inb ((l1 * (nI 4)) + l2) 544) (am_lt (am_up I 0 4 ((l1 * (nI 4)) + l2).toNatClampNeg l3) (fun I2 => am_gd (am_inb ((l1 * (nI 4)) + l2) 544) (am_lt (am_up I2 0 5 ((l1 * (nI 4)) + l2).toNatClampNeg (-1 : Int32)) (fun I4 => some I4))))
theorem tX6_release_0 {G : am_G} (hG : am_ok G) {d : Nat} {l1 : Int32} {l2 : Int32} {l3 : Int32} {I : am_I} {r : am_I} (h : bX6_release_0 G.2.2.2.1 l1 l2 l3  I = some r) : am_J G d mX6_release am_no (am_E none r) 0 [some (.inr (0, 3)), some (.inl l1), some (.inl l2), some (.inl l3)] [] I := by
  unfold bX6_release_0 at h
  refine am_aload_n dX6_release_0 rfl ?_
  refine am_get (v := .inr (0, 4)) dX6_release_1 fl_6_9 (hG.m0 (by decide)) rfl ?_
  refine am_iload_n dX6_release_4 rfl ?_
  refine am_iconst (v := nI 4) dX6_release_5 (by decide) ?_
  refine am_imul dX6_release_6 ?_
  refine am_iload_n dX6_release_7 rfl ?_
  refine am_iadd dX6_release_8 ?_
  refine am_iload_n dX6_release_9 rfl ?_
  obtain ⟨g1, h⟩ := am_gd_some h
  refine am_iastG dX6_release_10 (hG.m0 (by decide)) rfl g1 (show 544 < 2 ^ 31 by decide) ?_
  obtain ⟨I2, hI2, h⟩ := am_lt_some h
  refine am_st10 hI2 ?_
  refine am_aload_n dX6_release_11 rfl ?_
  refine am_get (v := .inr (0, 5)) dX6_release_12 fl_6_15 (hG.m0 (by decide)) rfl ?_
  refine am_iload_n dX6_release_15 rfl ?_
  refine am_iconst (v := nI 4) dX6_release_16 (by decide) ?_
  refine am_imul dX6_release_17 ?_
  refine am_iload_n dX6_release_18 rfl ?_
  refine am_iadd dX6_release_19 ?_
  refine am_iconst (v := (-1 : Int32)) dX6_release_20 (by decide) ?_
  obtain ⟨g3, h⟩ := am_gd_some h
  refine am_iastG dX6_release_21 (hG.m0 (by decide)) rfl g3 (show 544 < 2 ^ 31 by decide) ?_
  obtain ⟨I4, hI4, h⟩ := am_lt_some h
  refine am_st10 hI4 ?_
  cases h
  exact am_vret dX6_release_22 rfl ⟨rfl, rfl⟩
def gX6_release (n : Nat) (l1 : Int32) (l2 : Int32) (l3 : Int32) (I : am_I) : Option (am_I) := bX6_release_0 n l1 l2 l3 I
theorem sX6_release {G : am_G} (hG : am_ok G) {d : Nat} {l1 : Int32} {l2 : Int32} {l3 : Int32} {I : am_I} {r : am_I} (h : gX6_release G.2.2.2.1 l1 l2 l3 I = some r) : am_C G d mX6_release [.inr (0, 3), .inl l1, .inl l2, .inl l3] I (am_E none r) :=
  am_of (by decide +kernel) hG.nd (Nat.le_of_ble_eq_true rfl) (am_lwJ (lo' := [some (.inr (0, 3)), some (.inl l1), some (.inl l2), some (.inl l3)]) ⟨rfl, rfl, rfl, rfl, trivial⟩ (tX6_release_0 hG h))
def bX4_grant_0 (n : Nat) (l0 : Nat) (l1 : Int32) (l2 : Int32) (I : am_I) : Option (am_I) := am_gd (am_inb l1 136) (am_gd (am_inb l1 136) (am_lt (am_up I l0 49 l1.toNatClampNeg ((if l2 ≤ (I l0 49 l1.toNatClampNeg) then (I l0 49 l1.toNatClampNeg) else l2))) (fun I3 => am_gd (am_inb l1 136) (am_lt (am_up I3 l0 50 l1.toNatClampNeg (nI 0)) (fun I5 => some I5)))))
theorem tX4_grant_0 {G : am_G} (hG : am_ok G) {d : Nat} {l0 : Nat} {l1 : Int32} {l2 : Int32} (hl0 : l0 < G.2.2.2.1) {I : am_I} {r : am_I} (h : bX4_grant_0 G.2.2.2.1 l0 l1 l2  I = some r) : am_J G (d + 1) mX4_grant am_no (am_E none r) 0 [some (.inr (l0, 48)), some (.inl l1), some (.inl l2)] [] I := by
  unfold bX4_grant_0 at h
  refine am_aload_n dX4_grant_0 rfl ?_
  refine am_get (v := .inr (l0, 49)) dX4_grant_1 fl_4_9 (hG.mn hl0 (by decide) (by decide)) rfl ?_
  refine am_iload_n dX4_grant_4 rfl ?_
  refine am_aload_n dX4_grant_5 rfl ?_
  refine am_get (v := .inr (l0, 49)) dX4_grant_6 fl_4_9 (hG.mn hl0 (by decide) (by decide)) rfl ?_
  refine am_iload_n dX4_grant_9 rfl ?_
  obtain ⟨g1, h⟩ := am_gd_some h
  refine am_ialdG dX4_grant_10 (hG.mn hl0 (by decide) (by decide)) rfl g1 (show 136 < 2 ^ 31 by decide) ?_
  refine am_iload_n dX4_grant_11 rfl ?_
  refine am_callSx (as := [.inl (I l0 49 l1.toNatClampNeg), .inl l2]) (rest := [.inl l1, .inr (l0, 49)]) dX4_grant_12 lkJ9_max_7cf53 ml_X4_37 isJ9_max_7cf53 rfl (Nat.le_of_ble_eq_true rfl) rfl (c_max hG.nd (I l0 49 l1.toNatClampNeg) l2 I) ?_
  obtain ⟨g2, h⟩ := am_gd_some h
  refine am_iastG dX4_grant_15 (hG.mn hl0 (by decide) (by decide)) rfl g2 (show 136 < 2 ^ 31 by decide) ?_
  obtain ⟨I3, hI3, h⟩ := am_lt_some h
  refine am_st10 hI3 ?_
  refine am_aload_n dX4_grant_16 rfl ?_
  refine am_get (v := .inr (l0, 50)) dX4_grant_17 fl_4_15 (hG.mn hl0 (by decide) (by decide)) rfl ?_
  refine am_iload_n dX4_grant_20 rfl ?_
  refine am_iconst (v := nI 0) dX4_grant_21 (by decide) ?_
  obtain ⟨g4, h⟩ := am_gd_some h
  refine am_iastG dX4_grant_22 (hG.mn hl0 (by decide) (by decide)) rfl g4 (show 136 < 2 ^ 31 by decide) ?_
  obtain ⟨I5, hI5, h⟩ := am_lt_some h
  refine am_st10 hI5 ?_
  cases h
  exact am_vret dX4_grant_23 rfl ⟨rfl, rfl⟩
def gX4_grant (n : Nat) (l0 : Nat) (l1 : Int32) (l2 : Int32) (I : am_I) : Option (am_I) := bX4_grant_0 n l0 l1 l2 I
theorem sX4_grant {G : am_G} (hG : am_ok G) {d : Nat} {l0 : Nat} {l1 : Int32} {l2 : Int32} (hl0 : l0 < G.2.2.2.1) {I : am_I} {r : am_I} (h : gX4_grant G.2.2.2.1 l0 l1 l2 I = some r) : am_C G (d + 1) mX4_grant [.inr (l0, 48), .inl l1, .inl l2] I (am_E none r) :=
  am_of (by decide +kernel) hG.nd (Nat.le_of_ble_eq_true rfl) (am_lwJ (lo' := [some (.inr (l0, 48)), some (.inl l1), some (.inl l2)]) ⟨rfl, rfl, rfl, trivial⟩ (tX4_grant_0 hG hl0 h))
def bX10_callBack_92 (n : Nat) (s0 : Int32) (I : am_I) : Option (Int32 × am_I) := am_gd (am_01 s0) (some (s0, I))
theorem tX10_callBack_92 {G : am_G} (hG : am_ok G) {d : Nat} {s0 : Int32} {I : am_I} {r : Int32 × am_I} (h : bX10_callBack_92 G.2.2.2.1 s0  I = some r) : am_J G (d + 4) mX10_callBack am_no (am_E (some r.1) r.2) 92 [none, none, none, none, none, none] [.inl s0] I := by
  unfold bX10_callBack_92 at h
  obtain ⟨g1, h⟩ := am_gd_some h
  cases h
  exact am_iret dX10_callBack_92 rfl (am_nz (am_01_of g1)).1 ⟨rfl, rfl⟩
def bX10_callBack_70 (n : Nat) (l1 : Nat) (l2 : Int32) (l5 : Nat) (s0 : Int32) (s1 : Int32) (s2 : Nat) (I : am_I) : Option (Int32 × am_I) := am_gd (am_inb s1 136) (am_lt (am_up I s2 51 s1.toNatClampNeg s0) (fun I2 => (gX10_goDown n l1 l2 I2).bind (fun q3 => am_gd (am_inb l2 136) (if (q3 l5 52 l2.toNatClampNeg) = 0 then (bX10_callBack_92 n (nI 1) q3) else (bX10_callBack_92 n (nI 0) q3)))))
theorem tX10_callBack_70 {G : am_G} (hG : am_ok G) {d : Nat} {l1 : Nat} {l2 : Int32} {l5 : Nat} {s0 : Int32} {s1 : Int32} {s2 : Nat} (hl1 : l1 < G.2.2.2.1) (hl5 : l5 < G.2.2.2.1) (hs2 : s2 < G.2.2.2.1) {I : am_I} {r : Int32 × am_I} (h : bX10_callBack_70 G.2.2.2.1 l1 l2 l5 s0 s1 s2  I = some r) : am_J G (d + 4) mX10_callBack am_no (am_E (some r.1) r.2) 70 [some (.inr (0, 0)), some (.inr (l1, 40)), some (.inl l2), none, none, some (.inr (l5, 48))] [.inl s0, .inl s1, .inr (s2, 51)] I := by
  unfold bX10_callBack_70 at h
  obtain ⟨g1, h⟩ := am_gd_some h
  refine am_iastG dX10_callBack_70 (hG.mn hs2 (by decide) (by decide)) rfl g1 (show 136 < 2 ^ 31 by decide) ?_
  obtain ⟨I2, hI2, h⟩ := am_lt_some h
  refine am_st10 hI2 ?_
  refine am_aload_n dX10_callBack_71 rfl ?_
  refine am_aload_n dX10_callBack_72 rfl ?_
  refine am_iload_n dX10_callBack_73 rfl ?_
  obtain ⟨q3, hq3, h⟩ := am_bd h
  refine am_callVe (i := 0) (j := 0) (as := [.inr (l1, 40), .inl l2]) (rest := []) dX10_callBack_74 lkX10_goDown ml_X10_395 imX10_goDown seX10_goDown rfl rfl (hG.m0 (by decide)) rfl (Nat.le_of_ble_eq_true rfl) rfl (sX10_goDown hG hl1 hq3) ?_
  refine am_aload dX10_callBack_77 rfl ?_
  refine am_get (v := .inr (l5, 52)) dX10_callBack_79 fl_10_385 (hG.mn hl5 (by decide) (by decide)) rfl ?_
  refine am_iload_n dX10_callBack_82 rfl ?_
  obtain ⟨g4, h⟩ := am_gd_some h
  refine am_zaldG dX10_callBack_83 (hG.mn hl5 (by decide) (by decide)) rfl g4 (show 136 < 2 ^ 31 by decide) ?_
  refine am_if_ne (tgt := 91) dX10_callBack_84 rfl (fun c => ?_) (fun c => ?_)
  · rw [if_neg c] at h
    refine am_iconst (v := nI 0) dX10_callBack_91 (by decide) ?_
    exact am_lwJ (lo' := [none, none, none, none, none, none]) trivial (tX10_callBack_92 hG h)
  · rw [if_pos c] at h
    refine am_iconst (v := nI 1) dX10_callBack_87 (by decide) ?_
    refine am_goto (tgt := 92) dX10_callBack_88 rfl ?_
    exact am_lwJ (lo' := [none, none, none, none, none, none]) trivial (tX10_callBack_92 hG h)
def bX10_callBack_0 (n : Nat) (l1 : Nat) (l2 : Int32) (l3 : Int32) (l4 : Int32) (I : am_I) : Option (Int32 × am_I) := am_gd (am_inb l2 136) (if l3 < (I l1 49 l2.toNatClampNeg) then (am_gd (am_inb l2 136) (if (I l1 51 l2.toNatClampNeg) = (-1 : Int32) then (bX10_callBack_70 n l1 l2 l1 l3 l2 l1 I) else (am_gd (am_inb l2 136) (bX10_callBack_70 n l1 l2 l1 ((if (I l1 51 l2.toNatClampNeg) ≤ l3 then (I l1 51 l2.toNatClampNeg) else l3)) l2 l1 I)))) else (am_gd (am_inb l2 136) ((gX10_post n (I l1 40 0) l4 (nI 3) l2 (I l1 49 l2.toNatClampNeg) I).bind (fun q5 => some (nI 0, q5)))))
theorem tX10_callBack_0 {G : am_G} (hG : am_ok G) {d : Nat} {l1 : Nat} {l2 : Int32} {l3 : Int32} {l4 : Int32} (hl1 : l1 < G.2.2.2.1) {I : am_I} {r : Int32 × am_I} (h : bX10_callBack_0 G.2.2.2.1 l1 l2 l3 l4  I = some r) : am_J G (d + 4) mX10_callBack am_no (am_E (some r.1) r.2) 0 [some (.inr (0, 0)), some (.inr (l1, 40)), some (.inl l2), some (.inl l3), some (.inl l4), none] [] I := by
  unfold bX10_callBack_0 at h
  refine am_aload_n dX10_callBack_0 rfl ?_
  refine am_get (v := .inr (l1, 48)) dX10_callBack_1 fl_10_244 (hG.mn hl1 (by decide) (by decide)) rfl ?_
  refine am_astore dX10_callBack_4 (by decide) ?_
  refine am_aload dX10_callBack_6 rfl ?_
  refine am_get (v := .inr (l1, 49)) dX10_callBack_8 fl_10_248 (hG.mn hl1 (by decide) (by decide)) rfl ?_
  refine am_iload_n dX10_callBack_11 rfl ?_
  obtain ⟨g1, h⟩ := am_gd_some h
  refine am_ialdG dX10_callBack_12 (hG.mn hl1 (by decide) (by decide)) rfl g1 (show 136 < 2 ^ 31 by decide) ?_
  refine am_iload_n dX10_callBack_13 rfl ?_
  refine am_icmp_gt (tgt := 38) dX10_callBack_14 rfl (fun c => ?_) (fun c => ?_)
  · rw [if_pos c] at h
    refine am_aload dX10_callBack_38 rfl ?_
    refine am_get (v := .inr (l1, 51)) dX10_callBack_40 fl_10_256 (hG.mn hl1 (by decide) (by decide)) rfl ?_
    refine am_iload_n dX10_callBack_43 rfl ?_
    refine am_aload dX10_callBack_44 rfl ?_
    refine am_get (v := .inr (l1, 51)) dX10_callBack_46 fl_10_256 (hG.mn hl1 (by decide) (by decide)) rfl ?_
    refine am_iload_n dX10_callBack_49 rfl ?_
    obtain ⟨g2, h⟩ := am_gd_some h
    refine am_ialdG dX10_callBack_50 (hG.mn hl1 (by decide) (by decide)) rfl g2 (show 136 < 2 ^ 31 by decide) ?_
    refine am_iconst (v := (-1 : Int32)) dX10_callBack_51 (by decide) ?_
    refine am_icmp_ne (tgt := 59) dX10_callBack_52 rfl (fun c => ?_) (fun c => ?_)
    · rw [if_neg c] at h
      refine am_aload dX10_callBack_59 rfl ?_
      refine am_get (v := .inr (l1, 51)) dX10_callBack_61 fl_10_256 (hG.mn hl1 (by decide) (by decide)) rfl ?_
      refine am_iload_n dX10_callBack_64 rfl ?_
      obtain ⟨g3, h⟩ := am_gd_some h
      refine am_ialdG dX10_callBack_65 (hG.mn hl1 (by decide) (by decide)) rfl g3 (show 136 < 2 ^ 31 by decide) ?_
      refine am_iload_n dX10_callBack_66 rfl ?_
      refine am_callSx (as := [.inl (I l1 51 l2.toNatClampNeg), .inl l3]) (rest := [.inl l2, .inr (l1, 51)]) dX10_callBack_67 lkJ9_min_7cf53 ml_X10_448 isJ9_min_7cf53 rfl (Nat.le_of_ble_eq_true rfl) rfl (c_min hG.nd (I l1 51 l2.toNatClampNeg) l3 I) ?_
      exact am_lwJ (lo' := [some (.inr (0, 0)), some (.inr (l1, 40)), some (.inl l2), none, none, some (.inr (l1, 48))]) ⟨rfl, rfl, rfl, rfl, trivial⟩ (tX10_callBack_70 hG hl1 hl1 hl1 h)
    · rw [if_pos c] at h
      refine am_iload_n dX10_callBack_55 rfl ?_
      refine am_goto (tgt := 70) dX10_callBack_56 rfl ?_
      exact am_lwJ (lo' := [some (.inr (0, 0)), some (.inr (l1, 40)), some (.inl l2), none, none, some (.inr (l1, 48))]) ⟨rfl, rfl, rfl, rfl, trivial⟩ (tX10_callBack_70 hG hl1 hl1 hl1 h)
  · rw [if_neg c] at h
    refine am_aload_n dX10_callBack_17 rfl ?_
    refine am_aload_n dX10_callBack_18 rfl ?_
    refine am_get (v := .inl (I l1 40 0)) dX10_callBack_19 fl_10_388 (hG.mn hl1 (by decide) (by decide)) rfl ?_
    refine am_iload dX10_callBack_22 rfl ?_
    refine am_iconst (v := nI 3) dX10_callBack_24 (by decide) ?_
    refine am_iload_n dX10_callBack_25 rfl ?_
    refine am_aload dX10_callBack_26 rfl ?_
    refine am_get (v := .inr (l1, 49)) dX10_callBack_28 fl_10_248 (hG.mn hl1 (by decide) (by decide)) rfl ?_
    refine am_iload_n dX10_callBack_31 rfl ?_
    obtain ⟨g4, h⟩ := am_gd_some h
    refine am_ialdG dX10_callBack_32 (hG.mn hl1 (by decide) (by decide)) rfl g4 (show 136 < 2 ^ 31 by decide) ?_
    obtain ⟨q5, hq5, h⟩ := am_bd h
    refine am_callVe (i := 0) (j := 0) (as := [.inl (I l1 40 0), .inl l4, .inl (nI 3), .inl l2, .inl (I l1 49 l2.toNatClampNeg)]) (rest := []) dX10_callBack_33 lkX10_post ml_X10_391 imX10_post seX10_post rfl rfl (hG.m0 (by decide)) rfl (Nat.le_of_ble_eq_true rfl) rfl (sX10_post hG hq5) ?_
    refine am_iconst (v := nI 0) dX10_callBack_36 (by decide) ?_
    cases h
    exact am_iret dX10_callBack_37 rfl (am_nz (by decide)).1 ⟨rfl, rfl⟩
def gX10_callBack (n : Nat) (l1 : Nat) (l2 : Int32) (l3 : Int32) (l4 : Int32) (I : am_I) : Option (Int32 × am_I) := bX10_callBack_0 n l1 l2 l3 l4 I
theorem sX10_callBack {G : am_G} (hG : am_ok G) {d : Nat} {l1 : Nat} {l2 : Int32} {l3 : Int32} {l4 : Int32} (hl1 : l1 < G.2.2.2.1) {I : am_I} {r : Int32 × am_I} (h : gX10_callBack G.2.2.2.1 l1 l2 l3 l4 I = some r) : am_C G (d + 4) mX10_callBack [.inr (0, 0), .inr (l1, 40), .inl l2, .inl l3, .inl l4] I (am_E (some r.1) r.2) :=
  am_of (by decide +kernel) hG.nd (Nat.le_of_ble_eq_true rfl) (am_lwJ (lo' := [some (.inr (0, 0)), some (.inr (l1, 40)), some (.inl l2), some (.inl l3), some (.inl l4), none]) ⟨rfl, rfl, rfl, rfl, rfl, trivial⟩ (tX10_callBack_0 hG hl1 h))
def bX10_deliver_84 (n : Nat) (I : am_I) : Option (Int32 × am_I) := some ((-1 : Int32), I)
theorem tX10_deliver_84 {G : am_G} (hG : am_ok G) {d : Nat} {I : am_I} {r : Int32 × am_I} (h : bX10_deliver_84 G.2.2.2.1  I = some r) : am_J G (d + 5) mX10_deliver am_no (am_E (some r.1) r.2) 84 [none, none, none, none, none, none, none, none] [] I := by
  unfold bX10_deliver_84 at h
  refine am_iconst (v := (-1 : Int32)) dX10_deliver_84 (by decide) ?_
  cases h
  exact am_iret dX10_deliver_85 rfl rfl ⟨rfl, rfl⟩
def bX10_deliver_205 (n : Nat) (s0 : Int32) (I : am_I) : Option (Int32 × am_I) := some (s0, I)
theorem tX10_deliver_205 {G : am_G} (hG : am_ok G) {d : Nat} {s0 : Int32} {I : am_I} {r : Int32 × am_I} (h : bX10_deliver_205 G.2.2.2.1 s0  I = some r) : am_J G (d + 5) mX10_deliver am_no (am_E (some r.1) r.2) 205 [none, none, none, none, none, none, none, none] [.inl s0] I := by
  unfold bX10_deliver_205 at h
  cases h
  exact am_iret dX10_deliver_205 rfl rfl ⟨rfl, rfl⟩
def bX10_deliver_0 (n : Nat) (l1 : Int32) (I : am_I) : Option (Int32 × am_I) := am_gd (am_inb (l1 * (nI 6)) 768) (am_gd (am_inb ((l1 * (nI 6)) + (nI 1)) 768) (am_gd (am_inb ((l1 * (nI 6)) + (nI 2)) 768) (am_gd (am_inb ((l1 * (nI 6)) + (nI 3)) 768) (am_gd (am_inb ((l1 * (nI 6)) + (nI 4)) 768) ((gX10_isNode n (I 0 12 (((l1 * (nI 6)) + (nI 1)).toNatClampNeg)) I).bind (fun q6 => if q6.1 = 0 then (bX10_deliver_84 n q6.2) else ((gX10_isResource n (I 0 12 (((l1 * (nI 6)) + (nI 3)).toNatClampNeg)) q6.2).bind (fun q7 => if q7.1 = 0 then (bX10_deliver_84 n q7.2) else (if (I 0 12 (((l1 * (nI 6)) + (nI 2)).toNatClampNeg)) = nI 0 then ((gX6_ask n (I 0 12 (((l1 * (nI 6)) + (nI 3)).toNatClampNeg)) (I 0 12 ((l1 * (nI 6)).toNatClampNeg)) (I 0 12 (((l1 * (nI 6)) + (nI 4)).toNatClampNeg)) q7.2).bind (fun q8 => (gX10_serve n (I 0 12 (((l1 * (nI 6)) + (nI 3)).toNatClampNeg)) q8).bind (fun q9 => some ((-1 : Int32), q9)))) else (if (I 0 12 (((l1 * (nI 6)) + (nI 2)).toNatClampNeg)) = nI 1 then (am_gd (am_inb (I 0 12 (((l1 * (nI 6)) + (nI 1)).toNatClampNeg)) n) ((gX4_grant n ((I 0 12 (((l1 * (nI 6)) + (nI 1)).toNatClampNeg)).toNatClampNeg) (I 0 12 (((l1 * (nI 6)) + (nI 3)).toNatClampNeg)) (I 0 12 (((l1 * (nI 6)) + (nI 4)).toNatClampNeg)) q7.2).bind (fun q11 => some (I 0 12 (((l1 * (nI 6)) + (nI 1)).toNatClampNeg), q11)))) else (if (I 0 12 (((l1 * (nI 6)) + (nI 2)).toNatClampNeg)) = nI 2 then (am_gd (am_inb (I 0 12 (((l1 * (nI 6)) + (nI 1)).toNatClampNeg)) n) ((gX10_callBack n ((I 0 12 (((l1 * (nI 6)) + (nI 1)).toNatClampNeg)).toNatClampNeg) (I 0 12 (((l1 * (nI 6)) + (nI 3)).toNatClampNeg)) (I 0 12 (((l1 * (nI 6)) + (nI 4)).toNatClampNeg)) (I 0 12 ((l1 * (nI 6)).toNatClampNeg)) q7.2).bind (fun q13 => if q13.1 = 0 then (bX10_deliver_205 n (-1 : Int32) q13.2) else (bX10_deliver_205 n (I 0 12 (((l1 * (nI 6)) + (nI 1)).toNatClampNeg)) q13.2)))) else (if (I 0 12 (((l1 * (nI 6)) + (nI 2)).toNatClampNeg)) = nI 3 then ((gX6_release n (I 0 12 (((l1 * (nI 6)) + (nI 3)).toNatClampNeg)) (I 0 12 ((l1 * (nI 6)).toNatClampNeg)) (I 0 12 (((l1 * (nI 6)) + (nI 4)).toNatClampNeg)) q7.2).bind (fun q14 => (gX10_serve n (I 0 12 (((l1 * (nI 6)) + (nI 3)).toNatClampNeg)) q14).bind (fun q15 => some ((-1 : Int32), q15)))) else (am_gd (am_inb (I 0 12 (((l1 * (nI 6)) + (nI 1)).toNatClampNeg)) n) ((gX10_callBack n ((I 0 12 (((l1 * (nI 6)) + (nI 1)).toNatClampNeg)).toNatClampNeg) (I 0 12 (((l1 * (nI 6)) + (nI 3)).toNatClampNeg)) (I 0 12 (((l1 * (nI 6)) + (nI 4)).toNatClampNeg)) (I 0 12 ((l1 * (nI 6)).toNatClampNeg)) q7.2).bind (fun q17 => if q17.1 = 0 then (bX10_deliver_205 n (-1 : Int32) q17.2) else (bX10_deliver_205 n (I 0 12 (((l1 * (nI 6)) + (nI 1)).toNatClampNeg)) q17.2))))))))))))))))
theorem tX10_deliver_0 {G : am_G} (hG : am_ok G) {d : Nat} {l1 : Int32} {I : am_I} {r : Int32 × am_I} (h : bX10_deliver_0 G.2.2.2.1 l1  I = some r) : am_J G (d + 5) mX10_deliver am_no (am_E (some r.1) r.2) 0 [some (.inr (0, 0)), some (.inl l1), none, none, none, none, none, none] [] I := by
  unfold bX10_deliver_0 at h
  refine am_iload_n dX10_deliver_0 rfl ?_
  refine am_bipush (v := nI 6) dX10_deliver_1 (by decide) ?_
  refine am_imul dX10_deliver_3 ?_
  refine am_istore_n dX10_deliver_4 (by decide) ?_
  refine am_aload_n dX10_deliver_5 rfl ?_
  refine am_get (v := .inr (0, 9)) dX10_deliver_6 fl_10_36 (hG.m0 (by decide)) rfl ?_
  refine am_get (v := .inr (0, 12)) dX10_deliver_9 fl_10_416 (hG.m0 (by decide)) rfl ?_
  refine am_iload_n dX10_deliver_12 rfl ?_
  obtain ⟨g1, h⟩ := am_gd_some h
  refine am_ialdG dX10_deliver_13 (hG.m0 (by decide)) rfl g1 (show 768 < 2 ^ 31 by decide) ?_
  refine am_istore_n dX10_deliver_14 (by decide) ?_
  refine am_aload_n dX10_deliver_15 rfl ?_
  refine am_get (v := .inr (0, 9)) dX10_deliver_16 fl_10_36 (hG.m0 (by decide)) rfl ?_
  refine am_get (v := .inr (0, 12)) dX10_deliver_19 fl_10_416 (hG.m0 (by decide)) rfl ?_
  refine am_iload_n dX10_deliver_22 rfl ?_
  refine am_iconst (v := nI 1) dX10_deliver_23 (by decide) ?_
  refine am_iadd dX10_deliver_24 ?_
  obtain ⟨g2, h⟩ := am_gd_some h
  refine am_ialdG dX10_deliver_25 (hG.m0 (by decide)) rfl g2 (show 768 < 2 ^ 31 by decide) ?_
  refine am_istore dX10_deliver_26 (by decide) ?_
  refine am_aload_n dX10_deliver_28 rfl ?_
  refine am_get (v := .inr (0, 9)) dX10_deliver_29 fl_10_36 (hG.m0 (by decide)) rfl ?_
  refine am_get (v := .inr (0, 12)) dX10_deliver_32 fl_10_416 (hG.m0 (by decide)) rfl ?_
  refine am_iload_n dX10_deliver_35 rfl ?_
  refine am_iconst (v := nI 2) dX10_deliver_36 (by decide) ?_
  refine am_iadd dX10_deliver_37 ?_
  obtain ⟨g3, h⟩ := am_gd_some h
  refine am_ialdG dX10_deliver_38 (hG.m0 (by decide)) rfl g3 (show 768 < 2 ^ 31 by decide) ?_
  refine am_istore dX10_deliver_39 (by decide) ?_
  refine am_aload_n dX10_deliver_41 rfl ?_
  refine am_get (v := .inr (0, 9)) dX10_deliver_42 fl_10_36 (hG.m0 (by decide)) rfl ?_
  refine am_get (v := .inr (0, 12)) dX10_deliver_45 fl_10_416 (hG.m0 (by decide)) rfl ?_
  refine am_iload_n dX10_deliver_48 rfl ?_
  refine am_iconst (v := nI 3) dX10_deliver_49 (by decide) ?_
  refine am_iadd dX10_deliver_50 ?_
  obtain ⟨g4, h⟩ := am_gd_some h
  refine am_ialdG dX10_deliver_51 (hG.m0 (by decide)) rfl g4 (show 768 < 2 ^ 31 by decide) ?_
  refine am_istore dX10_deliver_52 (by decide) ?_
  refine am_aload_n dX10_deliver_54 rfl ?_
  refine am_get (v := .inr (0, 9)) dX10_deliver_55 fl_10_36 (hG.m0 (by decide)) rfl ?_
  refine am_get (v := .inr (0, 12)) dX10_deliver_58 fl_10_416 (hG.m0 (by decide)) rfl ?_
  refine am_iload_n dX10_deliver_61 rfl ?_
  refine am_iconst (v := nI 4) dX10_deliver_62 (by decide) ?_
  refine am_iadd dX10_deliver_63 ?_
  obtain ⟨g5, h⟩ := am_gd_some h
  refine am_ialdG dX10_deliver_64 (hG.m0 (by decide)) rfl g5 (show 768 < 2 ^ 31 by decide) ?_
  refine am_istore dX10_deliver_65 (by decide) ?_
  refine am_aload_n dX10_deliver_67 rfl ?_
  refine am_iload dX10_deliver_68 rfl ?_
  obtain ⟨q6, hq6, h⟩ := am_bd h
  refine am_callVx (i := 0) (j := 0) (as := [.inl (I 0 12 (((l1 * (nI 6)) + (nI 1)).toNatClampNeg))]) (rest := []) dX10_deliver_70 lkX10_isNode ml_X10_65 imX10_isNode seX10_isNode rfl rfl (hG.m0 (by decide)) rfl (Nat.le_of_ble_eq_true rfl) rfl (sX10_isNode hG hq6) ?_
  refine am_if_eq (tgt := 84) dX10_deliver_73 rfl (fun c => ?_) (fun c => ?_)
  · rw [if_pos c] at h
    exact am_lwJ (lo' := [none, none, none, none, none, none, none, none]) trivial (tX10_deliver_84 hG h)
  · rw [if_neg c] at h
    refine am_iload dX10_deliver_76 rfl ?_
    obtain ⟨q7, hq7, h⟩ := am_bd h
    refine am_callSx (as := [.inl (I 0 12 (((l1 * (nI 6)) + (nI 3)).toNatClampNeg))]) (rest := []) dX10_deliver_78 lkX10_isResource ml_X10_239 isX10_isResource rfl (Nat.le_of_ble_eq_true rfl) rfl (sX10_isResource hG hq7) ?_
    refine am_if_ne (tgt := 86) dX10_deliver_81 rfl (fun c => ?_) (fun c => ?_)
    · rw [if_neg c] at h
      refine am_iload dX10_deliver_86 rfl ?_
      rcases am_sw 3 (I 0 12 (((l1 * (nI 6)) + (nI 2)).toNatClampNeg)) with ⟨m, hm, hx⟩ | hx
      · match m, hm, hx with
        | 0, _, hx =>
          rw [if_pos hx] at h
          refine am_tabIn (off := 32) (tgt := 120) dX10_deliver_88 (by rw [hx]; decide) (by rw [hx]; decide) (by rw [hx]; rfl) rfl ?_
          refine am_aload_n dX10_deliver_120 rfl ?_
          refine am_get (v := .inr (0, 3)) dX10_deliver_121 fl_10_29 (hG.m0 (by decide)) rfl ?_
          refine am_iload dX10_deliver_124 rfl ?_
          refine am_iload_n dX10_deliver_126 rfl ?_
          refine am_iload dX10_deliver_127 rfl ?_
          obtain ⟨q8, hq8, h⟩ := am_bd h
          refine am_callVe (i := 0) (j := 3) (as := [.inl (I 0 12 (((l1 * (nI 6)) + (nI 3)).toNatClampNeg)), .inl (I 0 12 ((l1 * (nI 6)).toNatClampNeg)), .inl (I 0 12 (((l1 * (nI 6)) + (nI 4)).toNatClampNeg))]) (rest := []) dX10_deliver_129 lkX6_ask ml_X10_419 imX6_ask seX6_ask rfl rfl (hG.m0 (by decide)) rfl (Nat.le_of_ble_eq_true rfl) rfl (sX6_ask hG hq8) ?_
          refine am_aload_n dX10_deliver_132 rfl ?_
          refine am_iload dX10_deliver_133 rfl ?_
          obtain ⟨q9, hq9, h⟩ := am_bd h
          refine am_callVe (i := 0) (j := 0) (as := [.inl (I 0 12 (((l1 * (nI 6)) + (nI 3)).toNatClampNeg))]) (rest := []) dX10_deliver_135 lkX10_serve ml_X10_422 imX10_serve seX10_serve rfl rfl (hG.m0 (by decide)) rfl (Nat.le_of_ble_eq_true rfl) rfl (sX10_serve hG hq9) ?_
          refine am_iconst (v := (-1 : Int32)) dX10_deliver_138 (by decide) ?_
          cases h
          exact am_iret dX10_deliver_139 rfl rfl ⟨rfl, rfl⟩
        | 1, _, hx =>
          rw [if_neg (show ¬ (I 0 12 (((l1 * (nI 6)) + (nI 2)).toNatClampNeg)) = nI 0 by rw [hx]; decide)] at h
          rw [if_pos hx] at h
          refine am_tabIn (off := 72) (tgt := 160) dX10_deliver_88 (by rw [hx]; decide) (by rw [hx]; decide) (by rw [hx]; rfl) rfl ?_
          refine am_aload_n dX10_deliver_160 rfl ?_
          refine am_get (v := .inr (0, 2)) dX10_deliver_161 fl_10_19 (hG.m0 (by decide)) rfl ?_
          refine am_iload dX10_deliver_164 rfl ?_
          obtain ⟨g10, h⟩ := am_gd_some h
          refine am_aaldG dX10_deliver_166 (hG.m0 (by decide)) rfl g10 hG.n31 ?_
          refine am_get (v := .inr ((I 0 12 (((l1 * (nI 6)) + (nI 1)).toNatClampNeg)).toNatClampNeg, 48)) dX10_deliver_167 fl_10_244 (hG.mn (am_inb_lt g10) (by decide) (by decide)) rfl ?_
          refine am_iload dX10_deliver_170 rfl ?_
          refine am_iload dX10_deliver_172 rfl ?_
          obtain ⟨q11, hq11, h⟩ := am_bd h
          refine am_callVe (i := (I 0 12 (((l1 * (nI 6)) + (nI 1)).toNatClampNeg)).toNatClampNeg) (j := 48) (as := [.inl (I 0 12 (((l1 * (nI 6)) + (nI 3)).toNatClampNeg)), .inl (I 0 12 (((l1 * (nI 6)) + (nI 4)).toNatClampNeg))]) (rest := []) dX10_deliver_174 lkX4_grant ml_X10_428 imX4_grant seX4_grant rfl rfl (hG.mn (am_inb_lt g10) (by decide) (by decide)) rfl (Nat.le_of_ble_eq_true rfl) rfl (sX4_grant hG (am_inb_lt g10) hq11) ?_
          refine am_iload dX10_deliver_177 rfl ?_
          cases h
          exact am_iret dX10_deliver_179 rfl rfl ⟨rfl, rfl⟩
        | 2, _, hx =>
          rw [if_neg (show ¬ (I 0 12 (((l1 * (nI 6)) + (nI 2)).toNatClampNeg)) = nI 0 by rw [hx]; decide), if_neg (show ¬ (I 0 12 (((l1 * (nI 6)) + (nI 2)).toNatClampNeg)) = nI 1 by rw [hx]; decide)] at h
          rw [if_pos hx] at h
          refine am_tabIn (off := 92) (tgt := 180) dX10_deliver_88 (by rw [hx]; decide) (by rw [hx]; decide) (by rw [hx]; rfl) rfl ?_
          refine am_aload_n dX10_deliver_180 rfl ?_
          refine am_aload_n dX10_deliver_181 rfl ?_
          refine am_get (v := .inr (0, 2)) dX10_deliver_182 fl_10_19 (hG.m0 (by decide)) rfl ?_
          refine am_iload dX10_deliver_185 rfl ?_
          obtain ⟨g12, h⟩ := am_gd_some h
          refine am_aaldG dX10_deliver_187 (hG.m0 (by decide)) rfl g12 hG.n31 ?_
          refine am_iload dX10_deliver_188 rfl ?_
          refine am_iload dX10_deliver_190 rfl ?_
          refine am_iload_n dX10_deliver_192 rfl ?_
          obtain ⟨q13, hq13, h⟩ := am_bd h
          refine am_callVx (i := 0) (j := 0) (as := [.inr ((I 0 12 (((l1 * (nI 6)) + (nI 1)).toNatClampNeg)).toNatClampNeg, 40), .inl (I 0 12 (((l1 * (nI 6)) + (nI 3)).toNatClampNeg)), .inl (I 0 12 (((l1 * (nI 6)) + (nI 4)).toNatClampNeg)), .inl (I 0 12 ((l1 * (nI 6)).toNatClampNeg))]) (rest := []) dX10_deliver_193 lkX10_callBack ml_X10_431 imX10_callBack seX10_callBack rfl rfl (hG.m0 (by decide)) rfl (Nat.le_of_ble_eq_true rfl) rfl (sX10_callBack hG (am_inb_lt g12) hq13) ?_
          refine am_if_eq (tgt := 204) dX10_deliver_196 rfl (fun c => ?_) (fun c => ?_)
          · rw [if_pos c] at h
            refine am_iconst (v := (-1 : Int32)) dX10_deliver_204 (by decide) ?_
            exact am_lwJ (lo' := [none, none, none, none, none, none, none, none]) trivial (tX10_deliver_205 hG h)
          · rw [if_neg c] at h
            refine am_iload dX10_deliver_199 rfl ?_
            refine am_goto (tgt := 205) dX10_deliver_201 rfl ?_
            exact am_lwJ (lo' := [none, none, none, none, none, none, none, none]) trivial (tX10_deliver_205 hG h)
        | 3, _, hx =>
          rw [if_neg (show ¬ (I 0 12 (((l1 * (nI 6)) + (nI 2)).toNatClampNeg)) = nI 0 by rw [hx]; decide), if_neg (show ¬ (I 0 12 (((l1 * (nI 6)) + (nI 2)).toNatClampNeg)) = nI 1 by rw [hx]; decide), if_neg (show ¬ (I 0 12 (((l1 * (nI 6)) + (nI 2)).toNatClampNeg)) = nI 2 by rw [hx]; decide)] at h
          rw [if_pos hx] at h
          refine am_tabIn (off := 52) (tgt := 140) dX10_deliver_88 (by rw [hx]; decide) (by rw [hx]; decide) (by rw [hx]; rfl) rfl ?_
          refine am_aload_n dX10_deliver_140 rfl ?_
          refine am_get (v := .inr (0, 3)) dX10_deliver_141 fl_10_29 (hG.m0 (by decide)) rfl ?_
          refine am_iload dX10_deliver_144 rfl ?_
          refine am_iload_n dX10_deliver_146 rfl ?_
          refine am_iload dX10_deliver_147 rfl ?_
          obtain ⟨q14, hq14, h⟩ := am_bd h
          refine am_callVe (i := 0) (j := 3) (as := [.inl (I 0 12 (((l1 * (nI 6)) + (nI 3)).toNatClampNeg)), .inl (I 0 12 ((l1 * (nI 6)).toNatClampNeg)), .inl (I 0 12 (((l1 * (nI 6)) + (nI 4)).toNatClampNeg))]) (rest := []) dX10_deliver_149 lkX6_release ml_X10_425 imX6_release seX6_release rfl rfl (hG.m0 (by decide)) rfl (Nat.le_of_ble_eq_true rfl) rfl (sX6_release hG hq14) ?_
          refine am_aload_n dX10_deliver_152 rfl ?_
          refine am_iload dX10_deliver_153 rfl ?_
          obtain ⟨q15, hq15, h⟩ := am_bd h
          refine am_callVe (i := 0) (j := 0) (as := [.inl (I 0 12 (((l1 * (nI 6)) + (nI 3)).toNatClampNeg))]) (rest := []) dX10_deliver_155 lkX10_serve ml_X10_422 imX10_serve seX10_serve rfl rfl (hG.m0 (by decide)) rfl (Nat.le_of_ble_eq_true rfl) rfl (sX10_serve hG hq15) ?_
          refine am_iconst (v := (-1 : Int32)) dX10_deliver_158 (by decide) ?_
          cases h
          exact am_iret dX10_deliver_159 rfl rfl ⟨rfl, rfl⟩
        | m + 4, hm, _ => exact absurd hm (by omega)
      · rw [if_neg (am_swd (k := 0) hx (by decide) (by decide)), if_neg (am_swd (k := 1) hx (by decide) (by decide)), if_neg (am_swd (k := 2) hx (by decide) (by decide)), if_neg (am_swd (k := 3) hx (by decide) (by decide))] at h
        refine am_tabOut (tgt := 180) dX10_deliver_88 (by omega) rfl ?_
        refine am_aload_n dX10_deliver_180 rfl ?_
        refine am_aload_n dX10_deliver_181 rfl ?_
        refine am_get (v := .inr (0, 2)) dX10_deliver_182 fl_10_19 (hG.m0 (by decide)) rfl ?_
        refine am_iload dX10_deliver_185 rfl ?_
        obtain ⟨g16, h⟩ := am_gd_some h
        refine am_aaldG dX10_deliver_187 (hG.m0 (by decide)) rfl g16 hG.n31 ?_
        refine am_iload dX10_deliver_188 rfl ?_
        refine am_iload dX10_deliver_190 rfl ?_
        refine am_iload_n dX10_deliver_192 rfl ?_
        obtain ⟨q17, hq17, h⟩ := am_bd h
        refine am_callVx (i := 0) (j := 0) (as := [.inr ((I 0 12 (((l1 * (nI 6)) + (nI 1)).toNatClampNeg)).toNatClampNeg, 40), .inl (I 0 12 (((l1 * (nI 6)) + (nI 3)).toNatClampNeg)), .inl (I 0 12 (((l1 * (nI 6)) + (nI 4)).toNatClampNeg)), .inl (I 0 12 ((l1 * (nI 6)).toNatClampNeg))]) (rest := []) dX10_deliver_193 lkX10_callBack ml_X10_431 imX10_callBack seX10_callBack rfl rfl (hG.m0 (by decide)) rfl (Nat.le_of_ble_eq_true rfl) rfl (sX10_callBack hG (am_inb_lt g16) hq17) ?_
        refine am_if_eq (tgt := 204) dX10_deliver_196 rfl (fun c => ?_) (fun c => ?_)
        · rw [if_pos c] at h
          refine am_iconst (v := (-1 : Int32)) dX10_deliver_204 (by decide) ?_
          exact am_lwJ (lo' := [none, none, none, none, none, none, none, none]) trivial (tX10_deliver_205 hG h)
        · rw [if_neg c] at h
          refine am_iload dX10_deliver_199 rfl ?_
          refine am_goto (tgt := 205) dX10_deliver_201 rfl ?_
          exact am_lwJ (lo' := [none, none, none, none, none, none, none, none]) trivial (tX10_deliver_205 hG h)
    · rw [if_pos c] at h
      exact am_lwJ (lo' := [none, none, none, none, none, none, none, none]) trivial (tX10_deliver_84 hG h)
def gX10_deliver (n : Nat) (l1 : Int32) (I : am_I) : Option (Int32 × am_I) := bX10_deliver_0 n l1 I
theorem sX10_deliver {G : am_G} (hG : am_ok G) {d : Nat} {l1 : Int32} {I : am_I} {r : Int32 × am_I} (h : gX10_deliver G.2.2.2.1 l1 I = some r) : am_C G (d + 5) mX10_deliver [.inr (0, 0), .inl l1] I (am_E (some r.1) r.2) :=
  am_of (by decide +kernel) hG.nd (Nat.le_of_ble_eq_true rfl) (am_lwJ (lo' := [some (.inr (0, 0)), some (.inl l1), none, none, none, none, none, none]) ⟨rfl, rfl, trivial⟩ (tX10_deliver_0 hG h))
def bX3_target_87 (n : Nat) (s0 : Int32) (I : am_I) : Option (Int32 × am_I) := some (s0, I)
theorem tX3_target_87 {G : am_G} (hG : am_ok G) {d : Nat} {s0 : Int32} {I : am_I} {r : Int32 × am_I} (h : bX3_target_87 G.2.2.2.1 s0  I = some r) : am_J G d mX3_target am_no (am_E (some r.1) r.2) 87 [none, none] [.inl s0] I := by
  unfold bX3_target_87 at h
  cases h
  exact am_iret dX3_target_87 rfl rfl ⟨rfl, rfl⟩
def bX3_target_74 (n : Nat) (l0 : Nat) (I : am_I) : Option (Int32 × am_I) := bX3_target_87 n (I l0 44 0) I
theorem tX3_target_74 {G : am_G} (hG : am_ok G) {d : Nat} {l0 : Nat} (hl0 : l0 < G.2.2.2.1) {I : am_I} {r : Int32 × am_I} (h : bX3_target_74 G.2.2.2.1 l0  I = some r) : am_J G d mX3_target am_no (am_E (some r.1) r.2) 74 [some (.inr (l0, 44)), none] [] I := by
  unfold bX3_target_74 at h
  refine am_aload_n dX3_target_74 rfl ?_
  refine am_get (v := .inl (I l0 44 0)) dX3_target_75 fl_3_21 (hG.mn hl0 (by decide) (by decide)) rfl ?_
  refine am_goto (tgt := 87) dX3_target_78 rfl ?_
  exact am_lwJ (lo' := [none, none]) trivial (tX3_target_87 hG h)
def bX3_target_0 (n : Nat) (l0 : Nat) (I : am_I) : Option (Int32 × am_I) := if (I l0 44 5) = 0 then (some ((-1 : Int32), I)) else (if (I l0 44 5) ≤ (I l0 44 6) then (if (I l0 44 6) = (I l0 44 5) then (some ((I l0 44 0) + (nI 1), I)) else (if (((I l0 44 6) - (I l0 44 5)) - (nI 2)) < 0 then (bX3_target_74 n l0 I) else (if (((I l0 44 6) - (I l0 44 5)) - (nI 2)) < (I l0 44 5) then (am_gd (am_inb (((I l0 44 6) - (I l0 44 5)) - (nI 2)) 16) (bX3_target_87 n (I l0 46 ((((I l0 44 6) - (I l0 44 5)) - (nI 2)).toNatClampNeg)) I)) else (bX3_target_74 n l0 I)))) else (some (((I l0 44 0) + (nI 2)) + (I l0 44 6), I)))
theorem tX3_target_0 {G : am_G} (hG : am_ok G) {d : Nat} {l0 : Nat} (hl0 : l0 < G.2.2.2.1) {I : am_I} {r : Int32 × am_I} (h : bX3_target_0 G.2.2.2.1 l0  I = some r) : am_J G d mX3_target am_no (am_E (some r.1) r.2) 0 [some (.inr (l0, 44)), none] [] I := by
  unfold bX3_target_0 at h
  refine am_aload_n dX3_target_0 rfl ?_
  refine am_get (v := .inl (I l0 44 5)) dX3_target_1 fl_3_25 (hG.mn hl0 (by decide) (by decide)) rfl ?_
  refine am_if_ne (tgt := 9) dX3_target_4 rfl (fun c => ?_) (fun c => ?_)
  · rw [if_neg c] at h
    refine am_aload_n dX3_target_9 rfl ?_
    refine am_get (v := .inl (I l0 44 6)) dX3_target_10 fl_3_31 (hG.mn hl0 (by decide) (by decide)) rfl ?_
    refine am_aload_n dX3_target_13 rfl ?_
    refine am_get (v := .inl (I l0 44 5)) dX3_target_14 fl_3_25 (hG.mn hl0 (by decide) (by decide)) rfl ?_
    refine am_icmp_ge (tgt := 32) dX3_target_17 rfl (fun c => ?_) (fun c => ?_)
    · rw [if_pos c] at h
      refine am_aload_n dX3_target_32 rfl ?_
      refine am_get (v := .inl (I l0 44 6)) dX3_target_33 fl_3_31 (hG.mn hl0 (by decide) (by decide)) rfl ?_
      refine am_aload_n dX3_target_36 rfl ?_
      refine am_get (v := .inl (I l0 44 5)) dX3_target_37 fl_3_25 (hG.mn hl0 (by decide) (by decide)) rfl ?_
      refine am_icmp_ne (tgt := 50) dX3_target_40 rfl (fun c => ?_) (fun c => ?_)
      · rw [if_neg c] at h
        refine am_aload_n dX3_target_50 rfl ?_
        refine am_get (v := .inl (I l0 44 6)) dX3_target_51 fl_3_31 (hG.mn hl0 (by decide) (by decide)) rfl ?_
        refine am_aload_n dX3_target_54 rfl ?_
        refine am_get (v := .inl (I l0 44 5)) dX3_target_55 fl_3_25 (hG.mn hl0 (by decide) (by decide)) rfl ?_
        refine am_isub dX3_target_58 ?_
        refine am_iconst (v := nI 2) dX3_target_59 (by decide) ?_
        refine am_isub dX3_target_60 ?_
        refine am_istore_n dX3_target_61 (by decide) ?_
        refine am_iload_n dX3_target_62 rfl ?_
        refine am_if_lt (tgt := 74) dX3_target_63 rfl (fun c => ?_) (fun c => ?_)
        · rw [if_pos c] at h
          exact am_lwJ (lo' := [some (.inr (l0, 44)), none]) ⟨rfl, trivial⟩ (tX3_target_74 hG hl0 h)
        · rw [if_neg c] at h
          refine am_iload_n dX3_target_66 rfl ?_
          refine am_aload_n dX3_target_67 rfl ?_
          refine am_get (v := .inl (I l0 44 5)) dX3_target_68 fl_3_25 (hG.mn hl0 (by decide) (by decide)) rfl ?_
          refine am_icmp_lt (tgt := 81) dX3_target_71 rfl (fun c => ?_) (fun c => ?_)
          · rw [if_pos c] at h
            refine am_aload_n dX3_target_81 rfl ?_
            refine am_get (v := .inr (l0, 46)) dX3_target_82 fl_3_15 (hG.mn hl0 (by decide) (by decide)) rfl ?_
            refine am_iload_n dX3_target_85 rfl ?_
            obtain ⟨g1, h⟩ := am_gd_some h
            refine am_ialdG dX3_target_86 (hG.mn hl0 (by decide) (by decide)) rfl g1 (show 16 < 2 ^ 31 by decide) ?_
            exact am_lwJ (lo' := [none, none]) trivial (tX3_target_87 hG h)
          · rw [if_neg c] at h
            exact am_lwJ (lo' := [some (.inr (l0, 44)), none]) ⟨rfl, trivial⟩ (tX3_target_74 hG hl0 h)
      · rw [if_pos c] at h
        refine am_aload_n dX3_target_43 rfl ?_
        refine am_get (v := .inl (I l0 44 0)) dX3_target_44 fl_3_21 (hG.mn hl0 (by decide) (by decide)) rfl ?_
        refine am_iconst (v := nI 1) dX3_target_47 (by decide) ?_
        refine am_iadd dX3_target_48 ?_
        cases h
        exact am_iret dX3_target_49 rfl rfl ⟨rfl, rfl⟩
    · rw [if_neg c] at h
      refine am_aload_n dX3_target_20 rfl ?_
      refine am_get (v := .inl (I l0 44 0)) dX3_target_21 fl_3_21 (hG.mn hl0 (by decide) (by decide)) rfl ?_
      refine am_iconst (v := nI 2) dX3_target_24 (by decide) ?_
      refine am_iadd dX3_target_25 ?_
      refine am_aload_n dX3_target_26 rfl ?_
      refine am_get (v := .inl (I l0 44 6)) dX3_target_27 fl_3_31 (hG.mn hl0 (by decide) (by decide)) rfl ?_
      refine am_iadd dX3_target_30 ?_
      cases h
      exact am_iret dX3_target_31 rfl rfl ⟨rfl, rfl⟩
  · rw [if_pos c] at h
    refine am_iconst (v := (-1 : Int32)) dX3_target_7 (by decide) ?_
    cases h
    exact am_iret dX3_target_8 rfl rfl ⟨rfl, rfl⟩
def gX3_target (n : Nat) (l0 : Nat) (I : am_I) : Option (Int32 × am_I) := bX3_target_0 n l0 I
theorem sX3_target {G : am_G} (hG : am_ok G) {d : Nat} {l0 : Nat} (hl0 : l0 < G.2.2.2.1) {I : am_I} {r : Int32 × am_I} (h : gX3_target G.2.2.2.1 l0 I = some r) : am_C G d mX3_target [.inr (l0, 44)] I (am_E (some r.1) r.2) :=
  am_of (by decide +kernel) hG.nd (Nat.le_of_ble_eq_true rfl) (am_lwJ (lo' := [some (.inr (l0, 44)), none]) ⟨rfl, trivial⟩ (tX3_target_0 hG hl0 h))
def bX10_isBlock_16 (n : Nat) (s0 : Int32) (I : am_I) : Option (Int32 × am_I) := am_gd (am_01 s0) (some (s0, I))
theorem tX10_isBlock_16 {G : am_G} (hG : am_ok G) {d : Nat} {s0 : Int32} {I : am_I} {r : Int32 × am_I} (h : bX10_isBlock_16 G.2.2.2.1 s0  I = some r) : am_J G d mX10_isBlock am_no (am_E (some r.1) r.2) 16 [none] [.inl s0] I := by
  unfold bX10_isBlock_16 at h
  obtain ⟨g1, h⟩ := am_gd_some h
  cases h
  exact am_iret dX10_isBlock_16 rfl (am_nz (am_01_of g1)).1 ⟨rfl, rfl⟩
def bX10_isBlock_15 (n : Nat) (I : am_I) : Option (Int32 × am_I) := bX10_isBlock_16 n (nI 0) I
theorem tX10_isBlock_15 {G : am_G} (hG : am_ok G) {d : Nat} {I : am_I} {r : Int32 × am_I} (h : bX10_isBlock_15 G.2.2.2.1  I = some r) : am_J G d mX10_isBlock am_no (am_E (some r.1) r.2) 15 [none] [] I := by
  unfold bX10_isBlock_15 at h
  refine am_iconst (v := nI 0) dX10_isBlock_15 (by decide) ?_
  exact am_lwJ (lo' := [none]) trivial (tX10_isBlock_16 hG h)
def bX10_isBlock_0 (n : Nat) (l0 : Int32) (I : am_I) : Option (Int32 × am_I) := if l0 < 0 then (bX10_isBlock_15 n I) else (if (nI 640) ≤ l0 then (bX10_isBlock_15 n I) else (bX10_isBlock_16 n (nI 1) I))
theorem tX10_isBlock_0 {G : am_G} (hG : am_ok G) {d : Nat} {l0 : Int32} {I : am_I} {r : Int32 × am_I} (h : bX10_isBlock_0 G.2.2.2.1 l0  I = some r) : am_J G d mX10_isBlock am_no (am_E (some r.1) r.2) 0 [some (.inl l0)] [] I := by
  unfold bX10_isBlock_0 at h
  refine am_iload_n dX10_isBlock_0 rfl ?_
  refine am_if_lt (tgt := 15) dX10_isBlock_1 rfl (fun c => ?_) (fun c => ?_)
  · rw [if_pos c] at h
    exact am_lwJ (lo' := [none]) trivial (tX10_isBlock_15 hG h)
  · rw [if_neg c] at h
    refine am_iload_n dX10_isBlock_4 rfl ?_
    refine am_sipush (v := nI 640) dX10_isBlock_5 (by decide) ?_
    refine am_icmp_ge (tgt := 15) dX10_isBlock_8 rfl (fun c => ?_) (fun c => ?_)
    · rw [if_pos c] at h
      exact am_lwJ (lo' := [none]) trivial (tX10_isBlock_15 hG h)
    · rw [if_neg c] at h
      refine am_iconst (v := nI 1) dX10_isBlock_11 (by decide) ?_
      refine am_goto (tgt := 16) dX10_isBlock_12 rfl ?_
      exact am_lwJ (lo' := [none]) trivial (tX10_isBlock_16 hG h)
def gX10_isBlock (n : Nat) (l0 : Int32) (I : am_I) : Option (Int32 × am_I) := bX10_isBlock_0 n l0 I
theorem sX10_isBlock {G : am_G} (hG : am_ok G) {d : Nat} {l0 : Int32} {I : am_I} {r : Int32 × am_I} (h : gX10_isBlock G.2.2.2.1 l0 I = some r) : am_C G d mX10_isBlock [.inl l0] I (am_E (some r.1) r.2) :=
  am_of (by decide +kernel) hG.nd (Nat.le_of_ble_eq_true rfl) (am_lwJ (lo' := [some (.inl l0)]) ⟨rfl, trivial⟩ (tX10_isBlock_0 hG h))
def bX3_content_139 (n : Nat) (s0 : Int32) (I : am_I) : Option (Int32 × am_I) := some (s0, I)
theorem tX3_content_139 {G : am_G} (hG : am_ok G) {d : Nat} {s0 : Int32} {I : am_I} {r : Int32 × am_I} (h : bX3_content_139 G.2.2.2.1 s0  I = some r) : am_J G d mX3_content am_no (am_E (some r.1) r.2) 139 [none, none, none] [.inl s0] I := by
  unfold bX3_content_139 at h
  cases h
  exact am_iret dX3_content_139 rfl rfl ⟨rfl, rfl⟩
def bX3_content_92 (n : Nat) (l0 : Nat) (l1 : Int32) (l2 : Int32) (I : am_I) : Option (Int32 × am_I) := if l1 = nI 0 then (some (I l0 44 7, I)) else (if l1 = nI 1 then (some (I l0 44 5, I)) else (if l1 = nI 2 then (if 0 ≤ l2 then (bX3_content_139 n (nI 0) I) else (bX3_content_139 n (nI 1) I)) else (some (nI 0, I))))
theorem tX3_content_92 {G : am_G} (hG : am_ok G) {d : Nat} {l0 : Nat} {l1 : Int32} {l2 : Int32} (hl0 : l0 < G.2.2.2.1) {I : am_I} {r : Int32 × am_I} (h : bX3_content_92 G.2.2.2.1 l0 l1 l2  I = some r) : am_J G d mX3_content am_no (am_E (some r.1) r.2) 92 [some (.inr (l0, 44)), some (.inl l1), some (.inl l2)] [] I := by
  unfold bX3_content_92 at h
  refine am_iload_n dX3_content_92 rfl ?_
  rcases am_sw 2 l1 with ⟨m, hm, hx⟩ | hx
  · match m, hm, hx with
    | 0, _, hx =>
      rw [if_pos hx] at h
      refine am_tabIn (off := 27) (tgt := 120) dX3_content_93 (by rw [hx]; decide) (by rw [hx]; decide) (by rw [hx]; rfl) rfl ?_
      refine am_aload_n dX3_content_120 rfl ?_
      refine am_get (v := .inl (I l0 44 7)) dX3_content_121 fl_3_47 (hG.mn hl0 (by decide) (by decide)) rfl ?_
      cases h
      exact am_iret dX3_content_124 rfl rfl ⟨rfl, rfl⟩
    | 1, _, hx =>
      rw [if_neg (show ¬ l1 = nI 0 by rw [hx]; decide)] at h
      rw [if_pos hx] at h
      refine am_tabIn (off := 32) (tgt := 125) dX3_content_93 (by rw [hx]; decide) (by rw [hx]; decide) (by rw [hx]; rfl) rfl ?_
      refine am_aload_n dX3_content_125 rfl ?_
      refine am_get (v := .inl (I l0 44 5)) dX3_content_126 fl_3_25 (hG.mn hl0 (by decide) (by decide)) rfl ?_
      cases h
      exact am_iret dX3_content_129 rfl rfl ⟨rfl, rfl⟩
    | 2, _, hx =>
      rw [if_neg (show ¬ l1 = nI 0 by rw [hx]; decide), if_neg (show ¬ l1 = nI 1 by rw [hx]; decide)] at h
      rw [if_pos hx] at h
      refine am_tabIn (off := 37) (tgt := 130) dX3_content_93 (by rw [hx]; decide) (by rw [hx]; decide) (by rw [hx]; rfl) rfl ?_
      refine am_iload_n dX3_content_130 rfl ?_
      refine am_if_ge (tgt := 138) dX3_content_131 rfl (fun c => ?_) (fun c => ?_)
      · rw [if_pos c] at h
        refine am_iconst (v := nI 0) dX3_content_138 (by decide) ?_
        exact am_lwJ (lo' := [none, none, none]) trivial (tX3_content_139 hG h)
      · rw [if_neg c] at h
        refine am_iconst (v := nI 1) dX3_content_134 (by decide) ?_
        refine am_goto (tgt := 139) dX3_content_135 rfl ?_
        exact am_lwJ (lo' := [none, none, none]) trivial (tX3_content_139 hG h)
    | m + 3, hm, _ => exact absurd hm (by omega)
  · rw [if_neg (am_swd (k := 0) hx (by decide) (by decide)), if_neg (am_swd (k := 1) hx (by decide) (by decide)), if_neg (am_swd (k := 2) hx (by decide) (by decide))] at h
    refine am_tabOut (tgt := 140) dX3_content_93 (by omega) rfl ?_
    refine am_iconst (v := nI 0) dX3_content_140 (by decide) ?_
    cases h
    exact am_iret dX3_content_141 rfl rfl ⟨rfl, rfl⟩
def bX3_content_55 (n : Nat) (s0 : Int32) (I : am_I) : Option (Int32 × am_I) := some (s0, I)
theorem tX3_content_55 {G : am_G} (hG : am_ok G) {d : Nat} {s0 : Int32} {I : am_I} {r : Int32 × am_I} (h : bX3_content_55 G.2.2.2.1 s0  I = some r) : am_J G d mX3_content am_no (am_E (some r.1) r.2) 55 [none, none, none] [.inl s0] I := by
  unfold bX3_content_55 at h
  cases h
  exact am_iret dX3_content_55 rfl rfl ⟨rfl, rfl⟩
def bX3_content_0 (n : Nat) (l0 : Nat) (l1 : Int32) (I : am_I) : Option (Int32 × am_I) := if (I l0 44 5) ≤ (I l0 44 6) then (if (I l0 44 6) = (I l0 44 5) then (if (I l0 44 5) ≤ l1 then (bX3_content_55 n (nI 0) I) else (am_gd (am_inb l1 16) (bX3_content_55 n (I l0 46 l1.toNatClampNeg) I))) else (if (((I l0 44 6) - (I l0 44 5)) - (nI 2)) < 0 then (bX3_content_92 n l0 l1 (((I l0 44 6) - (I l0 44 5)) - (nI 2)) I) else (if (I l0 44 5) ≤ (((I l0 44 6) - (I l0 44 5)) - (nI 2)) then (bX3_content_92 n l0 l1 (((I l0 44 6) - (I l0 44 5)) - (nI 2)) I) else (am_gd (am_inb (((((I l0 44 6) - (I l0 44 5)) - (nI 2)) * (nI 16)) + l1) 256) (some (I l0 47 ((((((I l0 44 6) - (I l0 44 5)) - (nI 2)) * (nI 16)) + l1).toNatClampNeg), I)))))) else (am_gd (am_inb (((I l0 44 6) * (nI 16)) + l1) 256) (some (I l0 47 ((((I l0 44 6) * (nI 16)) + l1).toNatClampNeg), I)))
theorem tX3_content_0 {G : am_G} (hG : am_ok G) {d : Nat} {l0 : Nat} {l1 : Int32} (hl0 : l0 < G.2.2.2.1) {I : am_I} {r : Int32 × am_I} (h : bX3_content_0 G.2.2.2.1 l0 l1  I = some r) : am_J G d mX3_content am_no (am_E (some r.1) r.2) 0 [some (.inr (l0, 44)), some (.inl l1), none] [] I := by
  unfold bX3_content_0 at h
  refine am_aload_n dX3_content_0 rfl ?_
  refine am_get (v := .inl (I l0 44 6)) dX3_content_1 fl_3_31 (hG.mn hl0 (by decide) (by decide)) rfl ?_
  refine am_aload_n dX3_content_4 rfl ?_
  refine am_get (v := .inl (I l0 44 5)) dX3_content_5 fl_3_25 (hG.mn hl0 (by decide) (by decide)) rfl ?_
  refine am_icmp_ge (tgt := 26) dX3_content_8 rfl (fun c => ?_) (fun c => ?_)
  · rw [if_pos c] at h
    refine am_aload_n dX3_content_26 rfl ?_
    refine am_get (v := .inl (I l0 44 6)) dX3_content_27 fl_3_31 (hG.mn hl0 (by decide) (by decide)) rfl ?_
    refine am_aload_n dX3_content_30 rfl ?_
    refine am_get (v := .inl (I l0 44 5)) dX3_content_31 fl_3_25 (hG.mn hl0 (by decide) (by decide)) rfl ?_
    refine am_icmp_ne (tgt := 56) dX3_content_34 rfl (fun c => ?_) (fun c => ?_)
    · rw [if_neg c] at h
      refine am_aload_n dX3_content_56 rfl ?_
      refine am_get (v := .inl (I l0 44 6)) dX3_content_57 fl_3_31 (hG.mn hl0 (by decide) (by decide)) rfl ?_
      refine am_aload_n dX3_content_60 rfl ?_
      refine am_get (v := .inl (I l0 44 5)) dX3_content_61 fl_3_25 (hG.mn hl0 (by decide) (by decide)) rfl ?_
      refine am_isub dX3_content_64 ?_
      refine am_iconst (v := nI 2) dX3_content_65 (by decide) ?_
      refine am_isub dX3_content_66 ?_
      refine am_istore_n dX3_content_67 (by decide) ?_
      refine am_iload_n dX3_content_68 rfl ?_
      refine am_if_lt (tgt := 92) dX3_content_69 rfl (fun c => ?_) (fun c => ?_)
      · rw [if_pos c] at h
        exact am_lwJ (lo' := [some (.inr (l0, 44)), some (.inl l1), some (.inl (((I l0 44 6) - (I l0 44 5)) - (nI 2)))]) ⟨rfl, rfl, rfl, trivial⟩ (tX3_content_92 hG hl0 h)
      · rw [if_neg c] at h
        refine am_iload_n dX3_content_72 rfl ?_
        refine am_aload_n dX3_content_73 rfl ?_
        refine am_get (v := .inl (I l0 44 5)) dX3_content_74 fl_3_25 (hG.mn hl0 (by decide) (by decide)) rfl ?_
        refine am_icmp_ge (tgt := 92) dX3_content_77 rfl (fun c => ?_) (fun c => ?_)
        · rw [if_pos c] at h
          exact am_lwJ (lo' := [some (.inr (l0, 44)), some (.inl l1), some (.inl (((I l0 44 6) - (I l0 44 5)) - (nI 2)))]) ⟨rfl, rfl, rfl, trivial⟩ (tX3_content_92 hG hl0 h)
        · rw [if_neg c] at h
          refine am_aload_n dX3_content_80 rfl ?_
          refine am_get (v := .inr (l0, 47)) dX3_content_81 fl_3_18 (hG.mn hl0 (by decide) (by decide)) rfl ?_
          refine am_iload_n dX3_content_84 rfl ?_
          refine am_bipush (v := nI 16) dX3_content_85 (by decide) ?_
          refine am_imul dX3_content_87 ?_
          refine am_iload_n dX3_content_88 rfl ?_
          refine am_iadd dX3_content_89 ?_
          obtain ⟨g1, h⟩ := am_gd_some h
          refine am_ialdG dX3_content_90 (hG.mn hl0 (by decide) (by decide)) rfl g1 (show 256 < 2 ^ 31 by decide) ?_
          cases h
          exact am_iret dX3_content_91 rfl rfl ⟨rfl, rfl⟩
    · rw [if_pos c] at h
      refine am_iload_n dX3_content_37 rfl ?_
      refine am_aload_n dX3_content_38 rfl ?_
      refine am_get (v := .inl (I l0 44 5)) dX3_content_39 fl_3_25 (hG.mn hl0 (by decide) (by decide)) rfl ?_
      refine am_icmp_ge (tgt := 54) dX3_content_42 rfl (fun c => ?_) (fun c => ?_)
      · rw [if_pos c] at h
        refine am_iconst (v := nI 0) dX3_content_54 (by decide) ?_
        exact am_lwJ (lo' := [none, none, none]) trivial (tX3_content_55 hG h)
      · rw [if_neg c] at h
        refine am_aload_n dX3_content_45 rfl ?_
        refine am_get (v := .inr (l0, 46)) dX3_content_46 fl_3_15 (hG.mn hl0 (by decide) (by decide)) rfl ?_
        refine am_iload_n dX3_content_49 rfl ?_
        obtain ⟨g2, h⟩ := am_gd_some h
        refine am_ialdG dX3_content_50 (hG.mn hl0 (by decide) (by decide)) rfl g2 (show 16 < 2 ^ 31 by decide) ?_
        refine am_goto (tgt := 55) dX3_content_51 rfl ?_
        exact am_lwJ (lo' := [none, none, none]) trivial (tX3_content_55 hG h)
  · rw [if_neg c] at h
    refine am_aload_n dX3_content_11 rfl ?_
    refine am_get (v := .inr (l0, 47)) dX3_content_12 fl_3_18 (hG.mn hl0 (by decide) (by decide)) rfl ?_
    refine am_aload_n dX3_content_15 rfl ?_
    refine am_get (v := .inl (I l0 44 6)) dX3_content_16 fl_3_31 (hG.mn hl0 (by decide) (by decide)) rfl ?_
    refine am_bipush (v := nI 16) dX3_content_19 (by decide) ?_
    refine am_imul dX3_content_21 ?_
    refine am_iload_n dX3_content_22 rfl ?_
    refine am_iadd dX3_content_23 ?_
    obtain ⟨g3, h⟩ := am_gd_some h
    refine am_ialdG dX3_content_24 (hG.mn hl0 (by decide) (by decide)) rfl g3 (show 256 < 2 ^ 31 by decide) ?_
    cases h
    exact am_iret dX3_content_25 rfl rfl ⟨rfl, rfl⟩
def gX3_content (n : Nat) (l0 : Nat) (l1 : Int32) (I : am_I) : Option (Int32 × am_I) := bX3_content_0 n l0 l1 I
theorem sX3_content {G : am_G} (hG : am_ok G) {d : Nat} {l0 : Nat} {l1 : Int32} (hl0 : l0 < G.2.2.2.1) {I : am_I} {r : Int32 × am_I} (h : gX3_content G.2.2.2.1 l0 l1 I = some r) : am_C G d mX3_content [.inr (l0, 44), .inl l1] I (am_E (some r.1) r.2) :=
  am_of (by decide +kernel) hG.nd (Nat.le_of_ble_eq_true rfl) (am_lwJ (lo' := [some (.inr (l0, 44)), some (.inl l1), none]) ⟨rfl, rfl, trivial⟩ (tX3_content_0 hG hl0 h))
def bX3_write_50 (n : Nat) (I : am_I) : Option (am_I) := some I
theorem tX3_write_50 {G : am_G} (hG : am_ok G) {d : Nat} {I : am_I} {r : am_I} (h : bX3_write_50 G.2.2.2.1  I = some r) : am_J G (d + 1) mX3_write am_no (am_E none r) 50 [none, none, none, none, none] [] I := by
  unfold bX3_write_50 at h
  cases h
  exact am_vret dX3_write_50 rfl ⟨rfl, rfl⟩
def bX3_write_16 (n : Nat) : Nat → Nat → Int32 → Int32 → Int32 → am_I → Option (am_I)
  | 0, _, _, _, _, _ => none
  | fu + 1, l0, l2, l3, l4, I => (fun k16 => if l2 ≤ l4 then (bX3_write_50 n I) else (if (nI 16) ≤ l4 then (bX3_write_50 n I) else ((gX3_content n l0 l4 I).bind (fun q1 => am_gd (am_inb ((l3 * (nI 16)) + l4) 10240) (am_lt (am_up q1.2 0 1 ((l3 * (nI 16)) + l4).toNatClampNeg q1.1) (fun I3 => k16 l0 l2 l3 (l4 + nI 1) I3)))))) (bX3_write_16 n fu)
theorem tX3_write_16 {G : am_G} (hG : am_ok G) {d : Nat} : ∀ {fu : Nat} {l0 : Nat} {l2 : Int32} {l3 : Int32} {l4 : Int32} (hl0 : l0 < G.2.2.2.1) {I : am_I} {r : am_I}, bX3_write_16 G.2.2.2.1 fu l0 l2 l3 l4 I = some r → am_J G (d + 1) mX3_write am_no (am_E none r) 16 [some (.inr (l0, 44)), some (.inr (0, 1)), some (.inl l2), some (.inl l3), some (.inl l4)] [] I := by
  intro fu
  induction fu with
  | zero => intro l0 l2 l3 l4 hl0 I r h; cases h
  | succ fu ih =>
    intro l0 l2 l3 l4 hl0 I r h
    have hk16 : ∀ (l0 : Nat) (l2 : Int32) (l3 : Int32) (l4 : Int32) (hl0 : l0 < G.2.2.2.1) (I : am_I) (r : am_I), bX3_write_16 G.2.2.2.1 fu l0 l2 l3 l4 I = some r → am_J G (d + 1) mX3_write am_no (am_E none r) 16 [some (.inr (l0, 44)), some (.inr (0, 1)), some (.inl l2), some (.inl l3), some (.inl l4)] [] I := fun l0 l2 l3 l4 hl0 I r h => ih hl0 h
    unfold bX3_write_16 at h
    generalize bX3_write_16 G.2.2.2.1 fu = k16 at hk16 h
    dsimp only at h
    refine am_iload dX3_write_16 rfl ?_
    refine am_iload_n dX3_write_18 rfl ?_
    refine am_icmp_ge (tgt := 50) dX3_write_19 rfl (fun c => ?_) (fun c => ?_)
    · rw [if_pos c] at h
      exact am_lwJ (lo' := [none, none, none, none, none]) trivial (tX3_write_50 hG h)
    · rw [if_neg c] at h
      refine am_iload dX3_write_22 rfl ?_
      refine am_bipush (v := nI 16) dX3_write_24 (by decide) ?_
      refine am_icmp_ge (tgt := 50) dX3_write_26 rfl (fun c => ?_) (fun c => ?_)
      · rw [if_pos c] at h
        exact am_lwJ (lo' := [none, none, none, none, none]) trivial (tX3_write_50 hG h)
      · rw [if_neg c] at h
        refine am_aload_n dX3_write_29 rfl ?_
        refine am_iload_n dX3_write_30 rfl ?_
        refine am_bipush (v := nI 16) dX3_write_31 (by decide) ?_
        refine am_imul dX3_write_33 ?_
        refine am_iload dX3_write_34 rfl ?_
        refine am_iadd dX3_write_36 ?_
        refine am_aload_n dX3_write_37 rfl ?_
        refine am_iload dX3_write_38 rfl ?_
        obtain ⟨q1, hq1, h⟩ := am_bd h
        refine am_callVx (i := l0) (j := 44) (as := [.inl l4]) (rest := [.inl ((l3 * (nI 16)) + l4), .inr (0, 1)]) dX3_write_40 lkX3_content ml_X3_60 imX3_content seX3_content rfl rfl (hG.mn hl0 (by decide) (by decide)) rfl (Nat.le_of_ble_eq_true rfl) rfl (sX3_content hG hl0 hq1) ?_
        obtain ⟨g2, h⟩ := am_gd_some h
        refine am_iastG dX3_write_43 (hG.m0 (by decide)) rfl g2 (show 10240 < 2 ^ 31 by decide) ?_
        obtain ⟨I3, hI3, h⟩ := am_lt_some h
        refine am_st10 hI3 ?_
        refine am_iinc (v := l4 + nI 1) dX3_write_44 rfl rfl ?_
        refine am_goto (tgt := 16) dX3_write_47 rfl ?_
        exact am_lwJ (lo' := [some (.inr (l0, 44)), some (.inr (0, 1)), some (.inl l2), some (.inl l3), some (.inl (l4 + nI 1))]) ⟨rfl, rfl, rfl, rfl, rfl, trivial⟩ (hk16 l0 l2 l3 (l4 + nI 1) hl0 _ _ h)
def bX3_write_0 (n : Nat) (l0 : Nat) (l2 : Int32) (I : am_I) : Option (am_I) := (gX3_target n l0 I).bind (fun q1 => (gX10_isBlock n q1.1 q1.2).bind (fun q2 => if q2.1 = 0 then (some q2.2) else (bX3_write_16 n am_fu l0 l2 q1.1 (nI 0) q2.2)))
theorem tX3_write_0 {G : am_G} (hG : am_ok G) {d : Nat} {l0 : Nat} {l2 : Int32} (hl0 : l0 < G.2.2.2.1) {I : am_I} {r : am_I} (h : bX3_write_0 G.2.2.2.1 l0 l2  I = some r) : am_J G (d + 1) mX3_write am_no (am_E none r) 0 [some (.inr (l0, 44)), some (.inr (0, 1)), some (.inl l2), none, none] [] I := by
  unfold bX3_write_0 at h
  refine am_aload_n dX3_write_0 rfl ?_
  obtain ⟨q1, hq1, h⟩ := am_bd h
  refine am_callVx (i := l0) (j := 44) (as := []) (rest := []) dX3_write_1 lkX3_target ml_X3_53 imX3_target seX3_target rfl rfl (hG.mn hl0 (by decide) (by decide)) rfl (Nat.le_of_ble_eq_true rfl) rfl (sX3_target hG hl0 hq1) ?_
  refine am_istore_n dX3_write_4 (by decide) ?_
  refine am_iload_n dX3_write_5 rfl ?_
  obtain ⟨q2, hq2, h⟩ := am_bd h
  refine am_callSNx (as := [.inl q1.1]) (rest := []) dX3_write_6 lkX10_isBlock nl_X3_57 isX10_isBlock rfl (Nat.le_of_ble_eq_true rfl) rfl (sX10_isBlock hG hq2) ?_
  refine am_if_ne (tgt := 13) dX3_write_9 rfl (fun c => ?_) (fun c => ?_)
  · rw [if_neg c] at h
    refine am_iconst (v := nI 0) dX3_write_13 (by decide) ?_
    refine am_istore dX3_write_14 (by decide) ?_
    exact am_lwJ (lo' := [some (.inr (l0, 44)), some (.inr (0, 1)), some (.inl l2), some (.inl q1.1), some (.inl (nI 0))]) ⟨rfl, rfl, rfl, rfl, rfl, trivial⟩ (tX3_write_16 hG hl0 h)
  · rw [if_pos c] at h
    cases h
    exact am_vret dX3_write_12 rfl ⟨rfl, rfl⟩
def gX3_write (n : Nat) (l0 : Nat) (l2 : Int32) (I : am_I) : Option (am_I) := bX3_write_0 n l0 l2 I
theorem sX3_write {G : am_G} (hG : am_ok G) {d : Nat} {l0 : Nat} {l2 : Int32} (hl0 : l0 < G.2.2.2.1) {I : am_I} {r : am_I} (h : gX3_write G.2.2.2.1 l0 l2 I = some r) : am_C G (d + 1) mX3_write [.inr (l0, 44), .inr (0, 1), .inl l2] I (am_E none r) :=
  am_of (by decide +kernel) hG.nd (Nat.le_of_ble_eq_true rfl) (am_lwJ (lo' := [some (.inr (l0, 44)), some (.inr (0, 1)), some (.inl l2), none, none]) ⟨rfl, rfl, rfl, trivial⟩ (tX3_write_0 hG hl0 h))
def bX3_isAtHead_25 (n : Nat) (s0 : Int32) (I : am_I) : Option (Int32 × am_I) := am_gd (am_01 s0) (some (s0, I))
theorem tX3_isAtHead_25 {G : am_G} (hG : am_ok G) {d : Nat} {s0 : Int32} {I : am_I} {r : Int32 × am_I} (h : bX3_isAtHead_25 G.2.2.2.1 s0  I = some r) : am_J G d mX3_isAtHead am_no (am_E (some r.1) r.2) 25 [none] [.inl s0] I := by
  unfold bX3_isAtHead_25 at h
  obtain ⟨g1, h⟩ := am_gd_some h
  cases h
  exact am_iret dX3_isAtHead_25 rfl (am_nz (am_01_of g1)).1 ⟨rfl, rfl⟩
def bX3_isAtHead_24 (n : Nat) (I : am_I) : Option (Int32 × am_I) := bX3_isAtHead_25 n (nI 0) I
theorem tX3_isAtHead_24 {G : am_G} (hG : am_ok G) {d : Nat} {I : am_I} {r : Int32 × am_I} (h : bX3_isAtHead_24 G.2.2.2.1  I = some r) : am_J G d mX3_isAtHead am_no (am_E (some r.1) r.2) 24 [none] [] I := by
  unfold bX3_isAtHead_24 at h
  refine am_iconst (v := nI 0) dX3_isAtHead_24 (by decide) ?_
  exact am_lwJ (lo' := [none]) trivial (tX3_isAtHead_25 hG h)
def bX3_isAtHead_0 (n : Nat) (l0 : Nat) (I : am_I) : Option (Int32 × am_I) := if (I l0 44 5) ≤ 0 then (bX3_isAtHead_24 n I) else (if (I l0 44 6) = ((I l0 44 5) + (nI 1)) then (bX3_isAtHead_25 n (nI 1) I) else (bX3_isAtHead_24 n I))
theorem tX3_isAtHead_0 {G : am_G} (hG : am_ok G) {d : Nat} {l0 : Nat} (hl0 : l0 < G.2.2.2.1) {I : am_I} {r : Int32 × am_I} (h : bX3_isAtHead_0 G.2.2.2.1 l0  I = some r) : am_J G d mX3_isAtHead am_no (am_E (some r.1) r.2) 0 [some (.inr (l0, 44))] [] I := by
  unfold bX3_isAtHead_0 at h
  refine am_aload_n dX3_isAtHead_0 rfl ?_
  refine am_get (v := .inl (I l0 44 5)) dX3_isAtHead_1 fl_3_25 (hG.mn hl0 (by decide) (by decide)) rfl ?_
  refine am_if_le (tgt := 24) dX3_isAtHead_4 rfl (fun c => ?_) (fun c => ?_)
  · rw [if_pos c] at h
    exact am_lwJ (lo' := [none]) trivial (tX3_isAtHead_24 hG h)
  · rw [if_neg c] at h
    refine am_aload_n dX3_isAtHead_7 rfl ?_
    refine am_get (v := .inl (I l0 44 6)) dX3_isAtHead_8 fl_3_31 (hG.mn hl0 (by decide) (by decide)) rfl ?_
    refine am_aload_n dX3_isAtHead_11 rfl ?_
    refine am_get (v := .inl (I l0 44 5)) dX3_isAtHead_12 fl_3_25 (hG.mn hl0 (by decide) (by decide)) rfl ?_
    refine am_iconst (v := nI 1) dX3_isAtHead_15 (by decide) ?_
    refine am_iadd dX3_isAtHead_16 ?_
    refine am_icmp_ne (tgt := 24) dX3_isAtHead_17 rfl (fun c => ?_) (fun c => ?_)
    · rw [if_neg c] at h
      exact am_lwJ (lo' := [none]) trivial (tX3_isAtHead_24 hG h)
    · rw [if_pos c] at h
      refine am_iconst (v := nI 1) dX3_isAtHead_20 (by decide) ?_
      refine am_goto (tgt := 25) dX3_isAtHead_21 rfl ?_
      exact am_lwJ (lo' := [none]) trivial (tX3_isAtHead_25 hG h)
def gX3_isAtHead (n : Nat) (l0 : Nat) (I : am_I) : Option (Int32 × am_I) := bX3_isAtHead_0 n l0 I
theorem sX3_isAtHead {G : am_G} (hG : am_ok G) {d : Nat} {l0 : Nat} (hl0 : l0 < G.2.2.2.1) {I : am_I} {r : Int32 × am_I} (h : gX3_isAtHead G.2.2.2.1 l0 I = some r) : am_C G d mX3_isAtHead [.inr (l0, 44)] I (am_E (some r.1) r.2) :=
  am_of (by decide +kernel) hG.nd (Nat.le_of_ble_eq_true rfl) (am_lwJ (lo' := [some (.inr (l0, 44))]) ⟨rfl, trivial⟩ (tX3_isAtHead_0 hG hl0 h))
def bX0_turn_66 (n : Nat) (I : am_I) : Option (am_I) := some I
theorem tX0_turn_66 {G : am_G} (hG : am_ok G) {d : Nat} {I : am_I} {r : am_I} (h : bX0_turn_66 G.2.2.2.1  I = some r) : am_J G d mX0_turn am_no (am_E none r) 66 [none, none, none, none, none, none] [] I := by
  unfold bX0_turn_66 at h
  cases h
  exact am_vret dX0_turn_66 rfl ⟨rfl, rfl⟩
def bX0_turn_60 (n : Nat) (k3 : Int32 → Int32 → Int32 → Int32 → am_I → Option (am_I)) (l1 : Int32) (l2 : Int32) (l3 : Int32) (l4 : Int32) (I : am_I) : Option (am_I) := k3 l1 l2 l3 (l4 + nI 1) I
theorem tX0_turn_60 {G : am_G} (hG : am_ok G) {d : Nat} {k3 : Int32 → Int32 → Int32 → Int32 → am_I → Option (am_I)} (hk3 : ∀ (l1 : Int32) (l2 : Int32) (l3 : Int32) (l4 : Int32) (I : am_I) (r : am_I), k3 l1 l2 l3 l4 I = some r → am_J G d mX0_turn am_no (am_E none r) 3 [some (.inr (0, 13)), some (.inl l1), some (.inl l2), some (.inl l3), some (.inl l4), none] [] I) {l1 : Int32} {l2 : Int32} {l3 : Int32} {l4 : Int32} {I : am_I} {r : am_I} (h : bX0_turn_60 G.2.2.2.1 k3 l1 l2 l3 l4  I = some r) : am_J G d mX0_turn am_no (am_E none r) 60 [some (.inr (0, 13)), some (.inl l1), some (.inl l2), some (.inl l3), some (.inl l4), none] [] I := by
  unfold bX0_turn_60 at h
  refine am_iinc (v := l4 + nI 1) dX0_turn_60 rfl rfl ?_
  refine am_goto (tgt := 3) dX0_turn_63 rfl ?_
  exact am_lwJ (lo' := [some (.inr (0, 13)), some (.inl l1), some (.inl l2), some (.inl l3), some (.inl (l4 + nI 1)), none]) ⟨rfl, rfl, rfl, rfl, rfl, trivial⟩ (hk3 l1 l2 l3 (l4 + nI 1) _ _ h)
def bX0_turn_3 (n : Nat) : Nat → Int32 → Int32 → Int32 → Int32 → am_I → Option (am_I)
  | 0, _, _, _, _, _ => none
  | fu + 1, l1, l2, l3, l4, I => (fun k3 => if l2 ≤ l4 then (bX0_turn_66 n I) else (if (nI 400) ≤ l4 then (bX0_turn_66 n I) else (am_gd (am_inb (l4 * (nI 10)) 4000) (if (I 0 14 ((l4 * (nI 10)).toNatClampNeg)) = l1 then (am_gd (am_inb ((l4 * (nI 10)) + (nI 9)) 4000) (if (I 0 14 (((l4 * (nI 10)) + (nI 9)).toNatClampNeg)) = (nI 1) then (am_gd (am_inb ((l4 * (nI 10)) + (nI 9)) 4000) (am_lt (am_up I 0 14 ((l4 * (nI 10)) + (nI 9)).toNatClampNeg l3) (fun I4 => bX0_turn_60 n k3 l1 l2 l3 l4 I4))) else (bX0_turn_60 n k3 l1 l2 l3 l4 I))) else (bX0_turn_60 n k3 l1 l2 l3 l4 I))))) (bX0_turn_3 n fu)
theorem tX0_turn_3 {G : am_G} (hG : am_ok G) {d : Nat} : ∀ {fu : Nat} {l1 : Int32} {l2 : Int32} {l3 : Int32} {l4 : Int32} {I : am_I} {r : am_I}, bX0_turn_3 G.2.2.2.1 fu l1 l2 l3 l4 I = some r → am_J G d mX0_turn am_no (am_E none r) 3 [some (.inr (0, 13)), some (.inl l1), some (.inl l2), some (.inl l3), some (.inl l4), none] [] I := by
  intro fu
  induction fu with
  | zero => intro l1 l2 l3 l4 I r h; cases h
  | succ fu ih =>
    intro l1 l2 l3 l4 I r h
    have hk3 : ∀ (l1 : Int32) (l2 : Int32) (l3 : Int32) (l4 : Int32) (I : am_I) (r : am_I), bX0_turn_3 G.2.2.2.1 fu l1 l2 l3 l4 I = some r → am_J G d mX0_turn am_no (am_E none r) 3 [some (.inr (0, 13)), some (.inl l1), some (.inl l2), some (.inl l3), some (.inl l4), none] [] I := fun l1 l2 l3 l4 I r h => ih h
    unfold bX0_turn_3 at h
    generalize bX0_turn_3 G.2.2.2.1 fu = k3 at hk3 h
    dsimp only at h
    refine am_iload dX0_turn_3 rfl ?_
    refine am_iload_n dX0_turn_5 rfl ?_
    refine am_icmp_ge (tgt := 66) dX0_turn_6 rfl (fun c => ?_) (fun c => ?_)
    · rw [if_pos c] at h
      exact am_lwJ (lo' := [none, none, none, none, none, none]) trivial (tX0_turn_66 hG h)
    · rw [if_neg c] at h
      refine am_iload dX0_turn_9 rfl ?_
      refine am_sipush (v := nI 400) dX0_turn_11 (by decide) ?_
      refine am_icmp_ge (tgt := 66) dX0_turn_14 rfl (fun c => ?_) (fun c => ?_)
      · rw [if_pos c] at h
        exact am_lwJ (lo' := [none, none, none, none, none, none]) trivial (tX0_turn_66 hG h)
      · rw [if_neg c] at h
        refine am_iload dX0_turn_17 rfl ?_
        refine am_bipush (v := nI 10) dX0_turn_19 (by decide) ?_
        refine am_imul dX0_turn_21 ?_
        refine am_istore dX0_turn_22 (by decide) ?_
        refine am_aload_n dX0_turn_24 rfl ?_
        refine am_get (v := .inr (0, 14)) dX0_turn_25 fl_0_11 (hG.m0 (by decide)) rfl ?_
        refine am_iload dX0_turn_28 rfl ?_
        obtain ⟨g1, h⟩ := am_gd_some h
        refine am_ialdG dX0_turn_30 (hG.m0 (by decide)) rfl g1 (show 4000 < 2 ^ 31 by decide) ?_
        refine am_iload_n dX0_turn_31 rfl ?_
        refine am_icmp_ne (tgt := 60) dX0_turn_32 rfl (fun c => ?_) (fun c => ?_)
        · rw [if_neg c] at h
          exact am_lwJ (lo' := [some (.inr (0, 13)), some (.inl l1), some (.inl l2), some (.inl l3), some (.inl l4), none]) ⟨rfl, rfl, rfl, rfl, rfl, trivial⟩ (tX0_turn_60 hG hk3 h)
        · rw [if_pos c] at h
          refine am_aload_n dX0_turn_35 rfl ?_
          refine am_get (v := .inr (0, 14)) dX0_turn_36 fl_0_11 (hG.m0 (by decide)) rfl ?_
          refine am_iload dX0_turn_39 rfl ?_
          refine am_bipush (v := nI 9) dX0_turn_41 (by decide) ?_
          refine am_iadd dX0_turn_43 ?_
          obtain ⟨g2, h⟩ := am_gd_some h
          refine am_ialdG dX0_turn_44 (hG.m0 (by decide)) rfl g2 (show 4000 < 2 ^ 31 by decide) ?_
          refine am_iconst (v := nI 1) dX0_turn_45 (by decide) ?_
          refine am_icmp_ne (tgt := 60) dX0_turn_46 rfl (fun c => ?_) (fun c => ?_)
          · rw [if_neg c] at h
            exact am_lwJ (lo' := [some (.inr (0, 13)), some (.inl l1), some (.inl l2), some (.inl l3), some (.inl l4), none]) ⟨rfl, rfl, rfl, rfl, rfl, trivial⟩ (tX0_turn_60 hG hk3 h)
          · rw [if_pos c] at h
            refine am_aload_n dX0_turn_49 rfl ?_
            refine am_get (v := .inr (0, 14)) dX0_turn_50 fl_0_11 (hG.m0 (by decide)) rfl ?_
            refine am_iload dX0_turn_53 rfl ?_
            refine am_bipush (v := nI 9) dX0_turn_55 (by decide) ?_
            refine am_iadd dX0_turn_57 ?_
            refine am_iload_n dX0_turn_58 rfl ?_
            obtain ⟨g3, h⟩ := am_gd_some h
            refine am_iastG dX0_turn_59 (hG.m0 (by decide)) rfl g3 (show 4000 < 2 ^ 31 by decide) ?_
            obtain ⟨I4, hI4, h⟩ := am_lt_some h
            refine am_st10 hI4 ?_
            exact am_lwJ (lo' := [some (.inr (0, 13)), some (.inl l1), some (.inl l2), some (.inl l3), some (.inl l4), none]) ⟨rfl, rfl, rfl, rfl, rfl, trivial⟩ (tX0_turn_60 hG hk3 h)
def bX0_turn_0 (n : Nat) (l1 : Int32) (l2 : Int32) (l3 : Int32) (I : am_I) : Option (am_I) := bX0_turn_3 n am_fu l1 l2 l3 (nI 0) I
theorem tX0_turn_0 {G : am_G} (hG : am_ok G) {d : Nat} {l1 : Int32} {l2 : Int32} {l3 : Int32} {I : am_I} {r : am_I} (h : bX0_turn_0 G.2.2.2.1 l1 l2 l3  I = some r) : am_J G d mX0_turn am_no (am_E none r) 0 [some (.inr (0, 13)), some (.inl l1), some (.inl l2), some (.inl l3), none, none] [] I := by
  unfold bX0_turn_0 at h
  refine am_iconst (v := nI 0) dX0_turn_0 (by decide) ?_
  refine am_istore dX0_turn_1 (by decide) ?_
  exact am_lwJ (lo' := [some (.inr (0, 13)), some (.inl l1), some (.inl l2), some (.inl l3), some (.inl (nI 0)), none]) ⟨rfl, rfl, rfl, rfl, rfl, trivial⟩ (tX0_turn_3 hG h)
def gX0_turn (n : Nat) (l1 : Int32) (l2 : Int32) (l3 : Int32) (I : am_I) : Option (am_I) := bX0_turn_0 n l1 l2 l3 I
theorem sX0_turn {G : am_G} (hG : am_ok G) {d : Nat} {l1 : Int32} {l2 : Int32} {l3 : Int32} {I : am_I} {r : am_I} (h : gX0_turn G.2.2.2.1 l1 l2 l3 I = some r) : am_C G d mX0_turn [.inr (0, 13), .inl l1, .inl l2, .inl l3] I (am_E none r) :=
  am_of (by decide +kernel) hG.nd (Nat.le_of_ble_eq_true rfl) (am_lwJ (lo' := [some (.inr (0, 13)), some (.inl l1), some (.inl l2), some (.inl l3), none, none]) ⟨rfl, rfl, rfl, rfl, trivial⟩ (tX0_turn_0 hG h))
def bX0_makeSafe_0 (n : Nat) (l1 : Int32) (l2 : Int32) (I : am_I) : Option (am_I) := (gX0_turn n l1 l2 (nI 2) I).bind (fun q1 => some q1)
theorem tX0_makeSafe_0 {G : am_G} (hG : am_ok G) {d : Nat} {l1 : Int32} {l2 : Int32} {I : am_I} {r : am_I} (h : bX0_makeSafe_0 G.2.2.2.1 l1 l2  I = some r) : am_J G (d + 1) mX0_makeSafe am_no (am_E none r) 0 [some (.inr (0, 13)), some (.inl l1), some (.inl l2)] [] I := by
  unfold bX0_makeSafe_0 at h
  refine am_aload_n dX0_makeSafe_0 rfl ?_
  refine am_iload_n dX0_makeSafe_1 rfl ?_
  refine am_iload_n dX0_makeSafe_2 rfl ?_
  refine am_iconst (v := nI 2) dX0_makeSafe_3 (by decide) ?_
  obtain ⟨q1, hq1, h⟩ := am_bd h
  refine am_callVe (i := 0) (j := 13) (as := [.inl l1, .inl l2, .inl (nI 2)]) (rest := []) dX0_makeSafe_4 lkX0_turn ml_X0_57 imX0_turn seX0_turn rfl rfl (hG.m0 (by decide)) rfl (Nat.le_of_ble_eq_true rfl) rfl (sX0_turn hG hq1) ?_
  cases h
  exact am_vret dX0_makeSafe_7 rfl ⟨rfl, rfl⟩
def gX0_makeSafe (n : Nat) (l1 : Int32) (l2 : Int32) (I : am_I) : Option (am_I) := bX0_makeSafe_0 n l1 l2 I
theorem sX0_makeSafe {G : am_G} (hG : am_ok G) {d : Nat} {l1 : Int32} {l2 : Int32} {I : am_I} {r : am_I} (h : gX0_makeSafe G.2.2.2.1 l1 l2 I = some r) : am_C G (d + 1) mX0_makeSafe [.inr (0, 13), .inl l1, .inl l2] I (am_E none r) :=
  am_of (by decide +kernel) hG.nd (Nat.le_of_ble_eq_true rfl) (am_lwJ (lo' := [some (.inr (0, 13)), some (.inl l1), some (.inl l2)]) ⟨rfl, rfl, rfl, trivial⟩ (tX0_makeSafe_0 hG h))
def bX3_left_24 (n : Nat) (s0 : Int32) (I : am_I) : Option (Int32 × am_I) := some (s0, I)
theorem tX3_left_24 {G : am_G} (hG : am_ok G) {d : Nat} {s0 : Int32} {I : am_I} {r : Int32 × am_I} (h : bX3_left_24 G.2.2.2.1 s0  I = some r) : am_J G d mX3_left am_no (am_E (some r.1) r.2) 24 [none] [.inl s0] I := by
  unfold bX3_left_24 at h
  cases h
  exact am_iret dX3_left_24 rfl rfl ⟨rfl, rfl⟩
def bX3_left_0 (n : Nat) (l0 : Nat) (I : am_I) : Option (Int32 × am_I) := if (I l0 44 5) = 0 then (bX3_left_24 n (nI 0) I) else (bX3_left_24 n ((((nI 2) * (I l0 44 5)) + (nI 3)) - (I l0 44 6)) I)
theorem tX3_left_0 {G : am_G} (hG : am_ok G) {d : Nat} {l0 : Nat} (hl0 : l0 < G.2.2.2.1) {I : am_I} {r : Int32 × am_I} (h : bX3_left_0 G.2.2.2.1 l0  I = some r) : am_J G d mX3_left am_no (am_E (some r.1) r.2) 0 [some (.inr (l0, 44))] [] I := by
  unfold bX3_left_0 at h
  refine am_aload_n dX3_left_0 rfl ?_
  refine am_get (v := .inl (I l0 44 5)) dX3_left_1 fl_3_25 (hG.mn hl0 (by decide) (by decide)) rfl ?_
  refine am_if_ne (tgt := 11) dX3_left_4 rfl (fun c => ?_) (fun c => ?_)
  · rw [if_neg c] at h
    refine am_iconst (v := nI 2) dX3_left_11 (by decide) ?_
    refine am_aload_n dX3_left_12 rfl ?_
    refine am_get (v := .inl (I l0 44 5)) dX3_left_13 fl_3_25 (hG.mn hl0 (by decide) (by decide)) rfl ?_
    refine am_imul dX3_left_16 ?_
    refine am_iconst (v := nI 3) dX3_left_17 (by decide) ?_
    refine am_iadd dX3_left_18 ?_
    refine am_aload_n dX3_left_19 rfl ?_
    refine am_get (v := .inl (I l0 44 6)) dX3_left_20 fl_3_31 (hG.mn hl0 (by decide) (by decide)) rfl ?_
    refine am_isub dX3_left_23 ?_
    exact am_lwJ (lo' := [none]) trivial (tX3_left_24 hG h)
  · rw [if_pos c] at h
    refine am_iconst (v := nI 0) dX3_left_7 (by decide) ?_
    refine am_goto (tgt := 24) dX3_left_8 rfl ?_
    exact am_lwJ (lo' := [none]) trivial (tX3_left_24 hG h)
def gX3_left (n : Nat) (l0 : Nat) (I : am_I) : Option (Int32 × am_I) := bX3_left_0 n l0 I
theorem sX3_left {G : am_G} (hG : am_ok G) {d : Nat} {l0 : Nat} (hl0 : l0 < G.2.2.2.1) {I : am_I} {r : Int32 × am_I} (h : gX3_left G.2.2.2.1 l0 I = some r) : am_C G d mX3_left [.inr (l0, 44)] I (am_E (some r.1) r.2) :=
  am_of (by decide +kernel) hG.nd (Nat.le_of_ble_eq_true rfl) (am_lwJ (lo' := [some (.inr (l0, 44))]) ⟨rfl, trivial⟩ (tX3_left_0 hG hl0 h))
def bX3_close_0 (n : Nat) (l0 : Nat) (I : am_I) : Option (am_I) := am_lt (am_up I l0 44 5 (nI 0)) (fun I1 => some I1)
theorem tX3_close_0 {G : am_G} (hG : am_ok G) {d : Nat} {l0 : Nat} (hl0 : l0 < G.2.2.2.1) {I : am_I} {r : am_I} (h : bX3_close_0 G.2.2.2.1 l0  I = some r) : am_J G d mX3_close am_no (am_E none r) 0 [some (.inr (l0, 44))] [] I := by
  unfold bX3_close_0 at h
  refine am_aload_n dX3_close_0 rfl ?_
  refine am_iconst (v := nI 0) dX3_close_1 (by decide) ?_
  refine am_put (x := nI 0) dX3_close_2 fp_3_25 (hG.mn hl0 (by decide) (by decide)) (Nat.le_of_ble_eq_true rfl) rfl ?_
  obtain ⟨I1, hI1, h⟩ := am_lt_some h
  refine am_st10 hI1 ?_
  cases h
  exact am_vret dX3_close_5 rfl ⟨rfl, rfl⟩
def gX3_close (n : Nat) (l0 : Nat) (I : am_I) : Option (am_I) := bX3_close_0 n l0 I
theorem sX3_close {G : am_G} (hG : am_ok G) {d : Nat} {l0 : Nat} (hl0 : l0 < G.2.2.2.1) {I : am_I} {r : am_I} (h : gX3_close G.2.2.2.1 l0 I = some r) : am_C G d mX3_close [.inr (l0, 44)] I (am_E none r) :=
  am_of (by decide +kernel) hG.nd (Nat.le_of_ble_eq_true rfl) (am_lwJ (lo' := [some (.inr (l0, 44))]) ⟨rfl, trivial⟩ (tX3_close_0 hG hl0 h))
def bX10_endFlush_66 (n : Nat) : Nat → Nat → Int32 → am_I → Option (Int32 × am_I)
  | 0, _, _, _ => none
  | fu + 1, l1, l3, I => (fun k66 => if (nI 136) ≤ l3 then (some (nI 1, I)) else ((gX10_goDown n l1 l3 I).bind (fun q1 => k66 l1 (l3 + nI 1) q1))) (bX10_endFlush_66 n fu)
theorem tX10_endFlush_66 {G : am_G} (hG : am_ok G) {d : Nat} : ∀ {fu : Nat} {l1 : Nat} {l3 : Int32} (hl1 : l1 < G.2.2.2.1) {I : am_I} {r : Int32 × am_I}, bX10_endFlush_66 G.2.2.2.1 fu l1 l3 I = some r → am_J G (d + 4) mX10_endFlush am_no (am_E (some r.1) r.2) 66 [some (.inr (0, 0)), some (.inr (l1, 40)), none, some (.inl l3)] [] I := by
  intro fu
  induction fu with
  | zero => intro l1 l3 hl1 I r h; cases h
  | succ fu ih =>
    intro l1 l3 hl1 I r h
    have hk66 : ∀ (l1 : Nat) (l3 : Int32) (hl1 : l1 < G.2.2.2.1) (I : am_I) (r : Int32 × am_I), bX10_endFlush_66 G.2.2.2.1 fu l1 l3 I = some r → am_J G (d + 4) mX10_endFlush am_no (am_E (some r.1) r.2) 66 [some (.inr (0, 0)), some (.inr (l1, 40)), none, some (.inl l3)] [] I := fun l1 l3 hl1 I r h => ih hl1 h
    unfold bX10_endFlush_66 at h
    generalize bX10_endFlush_66 G.2.2.2.1 fu = k66 at hk66 h
    dsimp only at h
    refine am_iload_n dX10_endFlush_66 rfl ?_
    refine am_sipush (v := nI 136) dX10_endFlush_67 (by decide) ?_
    refine am_icmp_ge (tgt := 85) dX10_endFlush_70 rfl (fun c => ?_) (fun c => ?_)
    · rw [if_pos c] at h
      refine am_iconst (v := nI 1) dX10_endFlush_85 (by decide) ?_
      cases h
      exact am_iret dX10_endFlush_86 rfl (am_nz (by decide)).1 ⟨rfl, rfl⟩
    · rw [if_neg c] at h
      refine am_aload_n dX10_endFlush_73 rfl ?_
      refine am_aload_n dX10_endFlush_74 rfl ?_
      refine am_iload_n dX10_endFlush_75 rfl ?_
      obtain ⟨q1, hq1, h⟩ := am_bd h
      refine am_callVe (i := 0) (j := 0) (as := [.inr (l1, 40), .inl l3]) (rest := []) dX10_endFlush_76 lkX10_goDown ml_X10_395 imX10_goDown seX10_goDown rfl rfl (hG.m0 (by decide)) rfl (Nat.le_of_ble_eq_true rfl) rfl (sX10_goDown hG hl1 hq1) ?_
      refine am_iinc (v := l3 + nI 1) dX10_endFlush_79 rfl rfl ?_
      refine am_goto (tgt := 66) dX10_endFlush_82 rfl ?_
      exact am_lwJ (lo' := [some (.inr (0, 0)), some (.inr (l1, 40)), none, some (.inl (l3 + nI 1))]) ⟨rfl, rfl, rfl, trivial⟩ (hk66 l1 (l3 + nI 1) hl1 _ _ h)
def bX10_endFlush_64 (n : Nat) (l1 : Nat) (I : am_I) : Option (Int32 × am_I) := bX10_endFlush_66 n am_fu l1 (nI 0) I
theorem tX10_endFlush_64 {G : am_G} (hG : am_ok G) {d : Nat} {l1 : Nat} (hl1 : l1 < G.2.2.2.1) {I : am_I} {r : Int32 × am_I} (h : bX10_endFlush_64 G.2.2.2.1 l1  I = some r) : am_J G (d + 4) mX10_endFlush am_no (am_E (some r.1) r.2) 64 [some (.inr (0, 0)), some (.inr (l1, 40)), none, none] [] I := by
  unfold bX10_endFlush_64 at h
  refine am_iconst (v := nI 0) dX10_endFlush_64 (by decide) ?_
  refine am_istore_n dX10_endFlush_65 (by decide) ?_
  exact am_lwJ (lo' := [some (.inr (0, 0)), some (.inr (l1, 40)), none, some (.inl (nI 0))]) ⟨rfl, rfl, rfl, trivial⟩ (tX10_endFlush_66 hG hl1 h)
def bX10_endFlush_43 (n : Nat) (l1 : Nat) (l2 : Int32) (I : am_I) : Option (Int32 × am_I) := if l2 = 0 then (bX10_endFlush_64 n l1 I) else (if (I l1 44 2) ≤ 0 then (bX10_endFlush_64 n l1 I) else ((gX10_beginFlush n l1 I).bind (fun q1 => some (nI 0, q1))))
theorem tX10_endFlush_43 {G : am_G} (hG : am_ok G) {d : Nat} {l1 : Nat} {l2 : Int32} (hl1 : l1 < G.2.2.2.1) {I : am_I} {r : Int32 × am_I} (h : bX10_endFlush_43 G.2.2.2.1 l1 l2  I = some r) : am_J G (d + 4) mX10_endFlush am_no (am_E (some r.1) r.2) 43 [some (.inr (0, 0)), some (.inr (l1, 40)), some (.inl l2), none] [] I := by
  unfold bX10_endFlush_43 at h
  refine am_iload_n dX10_endFlush_43 rfl ?_
  refine am_if_eq (tgt := 64) dX10_endFlush_44 rfl (fun c => ?_) (fun c => ?_)
  · rw [if_pos c] at h
    exact am_lwJ (lo' := [some (.inr (0, 0)), some (.inr (l1, 40)), none, none]) ⟨rfl, rfl, trivial⟩ (tX10_endFlush_64 hG hl1 h)
  · rw [if_neg c] at h
    refine am_aload_n dX10_endFlush_47 rfl ?_
    refine am_get (v := .inr (l1, 44)) dX10_endFlush_48 fl_10_284 (hG.mn hl1 (by decide) (by decide)) rfl ?_
    refine am_get (v := .inl (I l1 44 2)) dX10_endFlush_51 fl_10_288 (hG.mn hl1 (by decide) (by decide)) rfl ?_
    refine am_if_le (tgt := 64) dX10_endFlush_54 rfl (fun c => ?_) (fun c => ?_)
    · rw [if_pos c] at h
      exact am_lwJ (lo' := [some (.inr (0, 0)), some (.inr (l1, 40)), none, none]) ⟨rfl, rfl, trivial⟩ (tX10_endFlush_64 hG hl1 h)
    · rw [if_neg c] at h
      refine am_aload_n dX10_endFlush_57 rfl ?_
      refine am_aload_n dX10_endFlush_58 rfl ?_
      obtain ⟨q1, hq1, h⟩ := am_bd h
      refine am_callVe (i := 0) (j := 0) (as := [.inr (l1, 40)]) (rest := []) dX10_endFlush_59 lkX10_beginFlush ml_X10_380 imX10_beginFlush seX10_beginFlush rfl rfl (hG.m0 (by decide)) rfl (Nat.le_of_ble_eq_true rfl) rfl (sX10_beginFlush hG hl1 hq1) ?_
      refine am_iconst (v := nI 0) dX10_endFlush_62 (by decide) ?_
      cases h
      exact am_iret dX10_endFlush_63 rfl (am_nz (by decide)).1 ⟨rfl, rfl⟩
def bX10_endFlush_17 (n : Nat) : Nat → Nat → Int32 → Int32 → am_I → Option (Int32 × am_I)
  | 0, _, _, _, _ => none
  | fu + 1, l1, l2, l3, I => (fun k17 => if (nI 136) ≤ l3 then (bX10_endFlush_43 n l1 l2 I) else (if l2 = 0 then ((gX4_waitsToGoDown n l1 l3 I).bind (fun q1 => k17 l1 q1.1 (l3 + nI 1) q1.2)) else (bX10_endFlush_43 n l1 l2 I))) (bX10_endFlush_17 n fu)
theorem tX10_endFlush_17 {G : am_G} (hG : am_ok G) {d : Nat} : ∀ {fu : Nat} {l1 : Nat} {l2 : Int32} {l3 : Int32} (hl1 : l1 < G.2.2.2.1) {I : am_I} {r : Int32 × am_I}, bX10_endFlush_17 G.2.2.2.1 fu l1 l2 l3 I = some r → am_J G (d + 4) mX10_endFlush am_no (am_E (some r.1) r.2) 17 [some (.inr (0, 0)), some (.inr (l1, 40)), some (.inl l2), some (.inl l3)] [] I := by
  intro fu
  induction fu with
  | zero => intro l1 l2 l3 hl1 I r h; cases h
  | succ fu ih =>
    intro l1 l2 l3 hl1 I r h
    have hk17 : ∀ (l1 : Nat) (l2 : Int32) (l3 : Int32) (hl1 : l1 < G.2.2.2.1) (I : am_I) (r : Int32 × am_I), bX10_endFlush_17 G.2.2.2.1 fu l1 l2 l3 I = some r → am_J G (d + 4) mX10_endFlush am_no (am_E (some r.1) r.2) 17 [some (.inr (0, 0)), some (.inr (l1, 40)), some (.inl l2), some (.inl l3)] [] I := fun l1 l2 l3 hl1 I r h => ih hl1 h
    unfold bX10_endFlush_17 at h
    generalize bX10_endFlush_17 G.2.2.2.1 fu = k17 at hk17 h
    dsimp only at h
    refine am_iload_n dX10_endFlush_17 rfl ?_
    refine am_sipush (v := nI 136) dX10_endFlush_18 (by decide) ?_
    refine am_icmp_ge (tgt := 43) dX10_endFlush_21 rfl (fun c => ?_) (fun c => ?_)
    · rw [if_pos c] at h
      exact am_lwJ (lo' := [some (.inr (0, 0)), some (.inr (l1, 40)), some (.inl l2), none]) ⟨rfl, rfl, rfl, trivial⟩ (tX10_endFlush_43 hG hl1 h)
    · rw [if_neg c] at h
      refine am_iload_n dX10_endFlush_24 rfl ?_
      refine am_if_ne (tgt := 43) dX10_endFlush_25 rfl (fun c => ?_) (fun c => ?_)
      · rw [if_neg c] at h
        exact am_lwJ (lo' := [some (.inr (0, 0)), some (.inr (l1, 40)), some (.inl l2), none]) ⟨rfl, rfl, rfl, trivial⟩ (tX10_endFlush_43 hG hl1 h)
      · rw [if_pos c] at h
        refine am_aload_n dX10_endFlush_28 rfl ?_
        refine am_get (v := .inr (l1, 48)) dX10_endFlush_29 fl_10_244 (hG.mn hl1 (by decide) (by decide)) rfl ?_
        refine am_iload_n dX10_endFlush_32 rfl ?_
        obtain ⟨q1, hq1, h⟩ := am_bd h
        refine am_callVx (i := l1) (j := 48) (as := [.inl l3]) (rest := []) dX10_endFlush_33 lkX4_waitsToGoDown ml_X10_454 imX4_waitsToGoDown seX4_waitsToGoDown rfl rfl (hG.mn hl1 (by decide) (by decide)) rfl (Nat.le_of_ble_eq_true rfl) rfl (sX4_waitsToGoDown hG hl1 hq1) ?_
        refine am_istore_n dX10_endFlush_36 (by decide) ?_
        refine am_iinc (v := l3 + nI 1) dX10_endFlush_37 rfl rfl ?_
        refine am_goto (tgt := 17) dX10_endFlush_40 rfl ?_
        exact am_lwJ (lo' := [some (.inr (0, 0)), some (.inr (l1, 40)), some (.inl q1.1), some (.inl (l3 + nI 1))]) ⟨rfl, rfl, rfl, rfl, trivial⟩ (hk17 l1 q1.1 (l3 + nI 1) hl1 _ _ h)
def bX10_endFlush_0 (n : Nat) (l1 : Nat) (I : am_I) : Option (Int32 × am_I) := (gX3_close n l1 I).bind (fun q1 => bX10_endFlush_17 n am_fu l1 (q1 l1 55 11) (nI 0) q1)
theorem tX10_endFlush_0 {G : am_G} (hG : am_ok G) {d : Nat} {l1 : Nat} (hl1 : l1 < G.2.2.2.1) {I : am_I} {r : Int32 × am_I} (h : bX10_endFlush_0 G.2.2.2.1 l1  I = some r) : am_J G (d + 4) mX10_endFlush am_no (am_E (some r.1) r.2) 0 [some (.inr (0, 0)), some (.inr (l1, 40)), none, none] [] I := by
  unfold bX10_endFlush_0 at h
  refine am_aload_n dX10_endFlush_0 rfl ?_
  refine am_get (v := .inr (l1, 44)) dX10_endFlush_1 fl_10_284 (hG.mn hl1 (by decide) (by decide)) rfl ?_
  obtain ⟨q1, hq1, h⟩ := am_bd h
  refine am_callVe (i := l1) (j := 44) (as := []) (rest := []) dX10_endFlush_4 lkX3_close ml_X10_483 imX3_close seX3_close rfl rfl (hG.mn hl1 (by decide) (by decide)) rfl (Nat.le_of_ble_eq_true rfl) rfl (sX3_close hG hl1 hq1) ?_
  refine am_aload_n dX10_endFlush_7 rfl ?_
  refine am_get (v := .inr (l1, 55)) dX10_endFlush_8 fl_10_84 (hG.mn hl1 (by decide) (by decide)) rfl ?_
  refine am_get (v := .inl (q1 l1 55 11)) dX10_endFlush_11 fl_10_368 (hG.mn hl1 (by decide) (by decide)) rfl ?_
  refine am_istore_n dX10_endFlush_14 (by decide) ?_
  refine am_iconst (v := nI 0) dX10_endFlush_15 (by decide) ?_
  refine am_istore_n dX10_endFlush_16 (by decide) ?_
  exact am_lwJ (lo' := [some (.inr (0, 0)), some (.inr (l1, 40)), some (.inl (q1 l1 55 11)), some (.inl (nI 0))]) ⟨rfl, rfl, rfl, rfl, trivial⟩ (tX10_endFlush_17 hG hl1 h)
def gX10_endFlush (n : Nat) (l1 : Nat) (I : am_I) : Option (Int32 × am_I) := bX10_endFlush_0 n l1 I
theorem sX10_endFlush {G : am_G} (hG : am_ok G) {d : Nat} {l1 : Nat} (hl1 : l1 < G.2.2.2.1) {I : am_I} {r : Int32 × am_I} (h : gX10_endFlush G.2.2.2.1 l1 I = some r) : am_C G (d + 4) mX10_endFlush [.inr (0, 0), .inr (l1, 40)] I (am_E (some r.1) r.2) :=
  am_of (by decide +kernel) hG.nd (Nat.le_of_ble_eq_true rfl) (am_lwJ (lo' := [some (.inr (0, 0)), some (.inr (l1, 40)), none, none]) ⟨rfl, rfl, trivial⟩ (tX10_endFlush_0 hG hl1 h))
def bX10_writeNext_19 (n : Nat) (I : am_I) : Option (Int32 × am_I) := some (nI 0, I)
theorem tX10_writeNext_19 {G : am_G} (hG : am_ok G) {d : Nat} {I : am_I} {r : Int32 × am_I} (h : bX10_writeNext_19 G.2.2.2.1  I = some r) : am_J G (d + 5) mX10_writeNext am_no (am_E (some r.1) r.2) 19 [none, none, none] [] I := by
  unfold bX10_writeNext_19 at h
  refine am_iconst (v := nI 0) dX10_writeNext_19 (by decide) ?_
  cases h
  exact am_iret dX10_writeNext_20 rfl (am_nz (by decide)).1 ⟨rfl, rfl⟩
def bX10_writeNext_93 (n : Nat) (s0 : Int32) (I : am_I) : Option (Int32 × am_I) := am_gd (am_01 s0) (some (s0, I))
theorem tX10_writeNext_93 {G : am_G} (hG : am_ok G) {d : Nat} {s0 : Int32} {I : am_I} {r : Int32 × am_I} (h : bX10_writeNext_93 G.2.2.2.1 s0  I = some r) : am_J G (d + 5) mX10_writeNext am_no (am_E (some r.1) r.2) 93 [none, none, none] [.inl s0] I := by
  unfold bX10_writeNext_93 at h
  obtain ⟨g1, h⟩ := am_gd_some h
  cases h
  exact am_iret dX10_writeNext_93 rfl (am_nz (am_01_of g1)).1 ⟨rfl, rfl⟩
def bX10_writeNext_92 (n : Nat) (I : am_I) : Option (Int32 × am_I) := bX10_writeNext_93 n (nI 0) I
theorem tX10_writeNext_92 {G : am_G} (hG : am_ok G) {d : Nat} {I : am_I} {r : Int32 × am_I} (h : bX10_writeNext_92 G.2.2.2.1  I = some r) : am_J G (d + 5) mX10_writeNext am_no (am_E (some r.1) r.2) 92 [none, none, none] [] I := by
  unfold bX10_writeNext_92 at h
  refine am_iconst (v := nI 0) dX10_writeNext_92 (by decide) ?_
  exact am_lwJ (lo' := [none, none, none]) trivial (tX10_writeNext_93 hG h)
def bX10_writeNext_63 (n : Nat) (l1 : Nat) (l2 : Nat) (I : am_I) : Option (Int32 × am_I) := am_lt (am_up I l2 44 6 ((I l2 44 6) + (nI 1))) (fun I1 => (gX3_left n l2 I1).bind (fun q2 => if q2.1 = 0 then ((gX10_endFlush n l1 q2.2).bind (fun q3 => if q3.1 = 0 then (bX10_writeNext_92 n q3.2) else (bX10_writeNext_93 n (nI 1) q3.2))) else (bX10_writeNext_92 n q2.2)))
theorem tX10_writeNext_63 {G : am_G} (hG : am_ok G) {d : Nat} {l1 : Nat} {l2 : Nat} (hl1 : l1 < G.2.2.2.1) (hl2 : l2 < G.2.2.2.1) {I : am_I} {r : Int32 × am_I} (h : bX10_writeNext_63 G.2.2.2.1 l1 l2  I = some r) : am_J G (d + 5) mX10_writeNext am_no (am_E (some r.1) r.2) 63 [some (.inr (0, 0)), some (.inr (l1, 40)), some (.inr (l2, 44))] [] I := by
  unfold bX10_writeNext_63 at h
  refine am_aload_n dX10_writeNext_63 rfl ?_
  refine am_dup dX10_writeNext_64 ?_
  refine am_get (v := .inl (I l2 44 6)) dX10_writeNext_65 fl_10_477 (hG.mn hl2 (by decide) (by decide)) rfl ?_
  refine am_iconst (v := nI 1) dX10_writeNext_68 (by decide) ?_
  refine am_iadd dX10_writeNext_69 ?_
  refine am_put (x := (I l2 44 6) + (nI 1)) dX10_writeNext_70 fp_10_477 (hG.mn hl2 (by decide) (by decide)) (Nat.le_of_ble_eq_true rfl) rfl ?_
  obtain ⟨I1, hI1, h⟩ := am_lt_some h
  refine am_st10 hI1 ?_
  refine am_aload_n dX10_writeNext_73 rfl ?_
  obtain ⟨q2, hq2, h⟩ := am_bd h
  refine am_callVx (i := l2) (j := 44) (as := []) (rest := []) dX10_writeNext_74 lkX3_left ml_X10_293 imX3_left seX3_left rfl rfl (hG.mn hl2 (by decide) (by decide)) rfl (Nat.le_of_ble_eq_true rfl) rfl (sX3_left hG hl2 hq2) ?_
  refine am_if_ne (tgt := 92) dX10_writeNext_77 rfl (fun c => ?_) (fun c => ?_)
  · rw [if_neg c] at h
    exact am_lwJ (lo' := [none, none, none]) trivial (tX10_writeNext_92 hG h)
  · rw [if_pos c] at h
    refine am_aload_n dX10_writeNext_80 rfl ?_
    refine am_aload_n dX10_writeNext_81 rfl ?_
    obtain ⟨q3, hq3, h⟩ := am_bd h
    refine am_callVx (i := 0) (j := 0) (as := [.inr (l1, 40)]) (rest := []) dX10_writeNext_82 lkX10_endFlush ml_X10_480 imX10_endFlush seX10_endFlush rfl rfl (hG.m0 (by decide)) rfl (Nat.le_of_ble_eq_true rfl) rfl (sX10_endFlush hG hl1 hq3) ?_
    refine am_if_eq (tgt := 92) dX10_writeNext_85 rfl (fun c => ?_) (fun c => ?_)
    · rw [if_pos c] at h
      exact am_lwJ (lo' := [none, none, none]) trivial (tX10_writeNext_92 hG h)
    · rw [if_neg c] at h
      refine am_iconst (v := nI 1) dX10_writeNext_88 (by decide) ?_
      refine am_goto (tgt := 93) dX10_writeNext_89 rfl ?_
      exact am_lwJ (lo' := [none, none, none]) trivial (tX10_writeNext_93 hG h)
def bX10_writeNext_0 (n : Nat) (l1 : Nat) (I : am_I) : Option (Int32 × am_I) := if (I l1 40 5) = 0 then (bX10_writeNext_19 n I) else ((gX3_isFlushing n l1 I).bind (fun q1 => if q1.1 = 0 then (bX10_writeNext_19 n q1.2) else ((gX3_write n l1 (nI 16) q1.2).bind (fun q2 => am_lt (am_up q2 0 0 8 ((q2 0 0 8) + (nI 1))) (fun I3 => (gX3_isAtHead n l1 I3).bind (fun q4 => if q4.1 = 0 then (bX10_writeNext_63 n l1 l1 q4.2) else ((gX0_makeSafe n (q4.2 l1 40 0) (q4.2 l1 44 8) q4.2).bind (fun q5 => bX10_writeNext_63 n l1 l1 q5))))))))
theorem tX10_writeNext_0 {G : am_G} (hG : am_ok G) {d : Nat} {l1 : Nat} (hl1 : l1 < G.2.2.2.1) {I : am_I} {r : Int32 × am_I} (h : bX10_writeNext_0 G.2.2.2.1 l1  I = some r) : am_J G (d + 5) mX10_writeNext am_no (am_E (some r.1) r.2) 0 [some (.inr (0, 0)), some (.inr (l1, 40)), none] [] I := by
  unfold bX10_writeNext_0 at h
  refine am_aload_n dX10_writeNext_0 rfl ?_
  refine am_get (v := .inr (l1, 44)) dX10_writeNext_1 fl_10_284 (hG.mn hl1 (by decide) (by decide)) rfl ?_
  refine am_astore_n dX10_writeNext_4 (by decide) ?_
  refine am_aload_n dX10_writeNext_5 rfl ?_
  refine am_get (v := .inl (I l1 40 5)) dX10_writeNext_6 fl_10_80 (hG.mn hl1 (by decide) (by decide)) rfl ?_
  refine am_if_eq (tgt := 19) dX10_writeNext_9 rfl (fun c => ?_) (fun c => ?_)
  · rw [if_pos c] at h
    exact am_lwJ (lo' := [none, none, none]) trivial (tX10_writeNext_19 hG h)
  · rw [if_neg c] at h
    refine am_aload_n dX10_writeNext_12 rfl ?_
    obtain ⟨q1, hq1, h⟩ := am_bd h
    refine am_callVx (i := l1) (j := 44) (as := []) (rest := []) dX10_writeNext_13 lkX3_isFlushing ml_X10_371 imX3_isFlushing seX3_isFlushing rfl rfl (hG.mn hl1 (by decide) (by decide)) rfl (Nat.le_of_ble_eq_true rfl) rfl (sX3_isFlushing hG hl1 hq1) ?_
    refine am_if_ne (tgt := 21) dX10_writeNext_16 rfl (fun c => ?_) (fun c => ?_)
    · rw [if_neg c] at h
      refine am_aload_n dX10_writeNext_21 rfl ?_
      refine am_aload_n dX10_writeNext_22 rfl ?_
      refine am_get (v := .inr (0, 1)) dX10_writeNext_23 fl_10_9 (hG.m0 (by decide)) rfl ?_
      refine am_bipush (v := nI 16) dX10_writeNext_26 (by decide) ?_
      obtain ⟨q2, hq2, h⟩ := am_bd h
      refine am_callVe (i := l1) (j := 44) (as := [.inr (0, 1), .inl (nI 16)]) (rest := []) dX10_writeNext_28 lkX3_write ml_X10_464 imX3_write seX3_write rfl rfl (hG.mn hl1 (by decide) (by decide)) rfl (Nat.le_of_ble_eq_true rfl) rfl (sX3_write hG hl1 hq2) ?_
      refine am_aload_n dX10_writeNext_31 rfl ?_
      refine am_dup dX10_writeNext_32 ?_
      refine am_get (v := .inl (q2 0 0 8)) dX10_writeNext_33 fl_10_306 (hG.m0 (by decide)) rfl ?_
      refine am_iconst (v := nI 1) dX10_writeNext_36 (by decide) ?_
      refine am_iadd dX10_writeNext_37 ?_
      refine am_put (x := (q2 0 0 8) + (nI 1)) dX10_writeNext_38 fp_10_306 (hG.m0 (by decide)) (Nat.le_of_ble_eq_true rfl) rfl ?_
      obtain ⟨I3, hI3, h⟩ := am_lt_some h
      refine am_st10 hI3 ?_
      refine am_aload_n dX10_writeNext_41 rfl ?_
      obtain ⟨q4, hq4, h⟩ := am_bd h
      refine am_callVx (i := l1) (j := 44) (as := []) (rest := []) dX10_writeNext_42 lkX3_isAtHead ml_X10_468 imX3_isAtHead seX3_isAtHead rfl rfl (hG.mn hl1 (by decide) (by decide)) rfl (Nat.le_of_ble_eq_true rfl) rfl (sX3_isAtHead hG hl1 hq4) ?_
      refine am_if_eq (tgt := 63) dX10_writeNext_45 rfl (fun c => ?_) (fun c => ?_)
      · rw [if_pos c] at h
        exact am_lwJ (lo' := [some (.inr (0, 0)), some (.inr (l1, 40)), some (.inr (l1, 44))]) ⟨rfl, rfl, rfl, trivial⟩ (tX10_writeNext_63 hG hl1 hl1 h)
      · rw [if_neg c] at h
        refine am_aload_n dX10_writeNext_48 rfl ?_
        refine am_get (v := .inr (0, 13)) dX10_writeNext_49 fl_10_43 (hG.m0 (by decide)) rfl ?_
        refine am_aload_n dX10_writeNext_52 rfl ?_
        refine am_get (v := .inl (q4.2 l1 40 0)) dX10_writeNext_53 fl_10_388 (hG.mn hl1 (by decide) (by decide)) rfl ?_
        refine am_aload_n dX10_writeNext_56 rfl ?_
        refine am_get (v := .inl (q4.2 l1 44 8)) dX10_writeNext_57 fl_10_471 (hG.mn hl1 (by decide) (by decide)) rfl ?_
        obtain ⟨q5, hq5, h⟩ := am_bd h
        refine am_callVe (i := 0) (j := 13) (as := [.inl (q4.2 l1 40 0), .inl (q4.2 l1 44 8)]) (rest := []) dX10_writeNext_60 lkX0_makeSafe ml_X10_474 imX0_makeSafe seX0_makeSafe rfl rfl (hG.m0 (by decide)) rfl (Nat.le_of_ble_eq_true rfl) rfl (sX0_makeSafe hG hq5) ?_
        exact am_lwJ (lo' := [some (.inr (0, 0)), some (.inr (l1, 40)), some (.inr (l1, 44))]) ⟨rfl, rfl, rfl, trivial⟩ (tX10_writeNext_63 hG hl1 hl1 h)
    · rw [if_pos c] at h
      exact am_lwJ (lo' := [none, none, none]) trivial (tX10_writeNext_19 hG h)
def gX10_writeNext (n : Nat) (l1 : Nat) (I : am_I) : Option (Int32 × am_I) := bX10_writeNext_0 n l1 I
theorem sX10_writeNext {G : am_G} (hG : am_ok G) {d : Nat} {l1 : Nat} (hl1 : l1 < G.2.2.2.1) {I : am_I} {r : Int32 × am_I} (h : gX10_writeNext G.2.2.2.1 l1 I = some r) : am_C G (d + 5) mX10_writeNext [.inr (0, 0), .inr (l1, 40)] I (am_E (some r.1) r.2) :=
  am_of (by decide +kernel) hG.nd (Nat.le_of_ble_eq_true rfl) (am_lwJ (lo' := [some (.inr (0, 0)), some (.inr (l1, 40)), none]) ⟨rfl, rfl, trivial⟩ (tX10_writeNext_0 hG hl1 h))
def bX10_tick_10 (n : Nat) (I : am_I) : Option ((Option Int32 ⊕ Nat) × am_I) := some (.inr 10, I)
theorem tX10_tick_10 {G : am_G} (hG : am_ok G) {d : Nat} {I : am_I} {r : (Option Int32 ⊕ Nat) × am_I} (h : bX10_tick_10 G.2.2.2.1  I = some r) : am_J G (d + 7) mX10_tick (fun pc _ st J => st = [] ∧ r = (.inr pc, J)) (fun q J => r = (.inl q, J)) 10 [none, none, none, none, none, none, none] [] I := by
  unfold bX10_tick_10 at h
  cases h
  exact am_exit ⟨rfl, rfl⟩
def bX10_tick_140 (n : Nat) (k30 : Int32 → Int32 → Int32 → am_I → Option ((Option Int32 ⊕ Nat) × am_I)) (k105 : Int32 → Int32 → Int32 → Int32 → am_I → Option ((Option Int32 ⊕ Nat) × am_I)) (l1 : Int32) (l2 : Int32) (l3 : Int32) (l5 : Int32) (I : am_I) : Option ((Option Int32 ⊕ Nat) × am_I) := k105 l1 l2 l3 (l5 + nI 1) I
theorem tX10_tick_140 {G : am_G} (hG : am_ok G) {d : Nat} {k30 : Int32 → Int32 → Int32 → am_I → Option ((Option Int32 ⊕ Nat) × am_I)} {k105 : Int32 → Int32 → Int32 → Int32 → am_I → Option ((Option Int32 ⊕ Nat) × am_I)} (hk30 : ∀ (l1 : Int32) (l2 : Int32) (l3 : Int32) (I : am_I) (r : (Option Int32 ⊕ Nat) × am_I), k30 l1 l2 l3 I = some r → am_J G (d + 7) mX10_tick (fun pc _ st J => st = [] ∧ r = (.inr pc, J)) (fun q J => r = (.inl q, J)) 30 [some (.inr (0, 0)), some (.inl l1), some (.inl l2), some (.inl l3), none, none, none] [] I) (hk105 : ∀ (l1 : Int32) (l2 : Int32) (l3 : Int32) (l5 : Int32) (I : am_I) (r : (Option Int32 ⊕ Nat) × am_I), k105 l1 l2 l3 l5 I = some r → am_J G (d + 7) mX10_tick (fun pc _ st J => st = [] ∧ r = (.inr pc, J)) (fun q J => r = (.inl q, J)) 105 [some (.inr (0, 0)), some (.inl l1), some (.inl l2), some (.inl l3), none, some (.inl l5), none] [] I) {l1 : Int32} {l2 : Int32} {l3 : Int32} {l5 : Int32} {I : am_I} {r : (Option Int32 ⊕ Nat) × am_I} (h : bX10_tick_140 G.2.2.2.1 k30 k105 l1 l2 l3 l5  I = some r) : am_J G (d + 7) mX10_tick (fun pc _ st J => st = [] ∧ r = (.inr pc, J)) (fun q J => r = (.inl q, J)) 140 [some (.inr (0, 0)), some (.inl l1), some (.inl l2), some (.inl l3), none, some (.inl l5), none] [] I := by
  unfold bX10_tick_140 at h
  refine am_iinc (v := l5 + nI 1) dX10_tick_140 rfl rfl ?_
  refine am_goto (tgt := 105) dX10_tick_143 rfl ?_
  exact am_lwJ (lo' := [some (.inr (0, 0)), some (.inl l1), some (.inl l2), some (.inl l3), none, some (.inl (l5 + nI 1)), none]) ⟨rfl, rfl, rfl, rfl, rfl, trivial⟩ (hk105 l1 l2 l3 (l5 + nI 1) _ _ h)
def bX10_tick_105 (n : Nat) (k30 : Int32 → Int32 → Int32 → am_I → Option ((Option Int32 ⊕ Nat) × am_I)) : Nat → Int32 → Int32 → Int32 → Int32 → am_I → Option ((Option Int32 ⊕ Nat) × am_I)
  | 0, _, _, _, _, _ => none
  | fu + 1, l1, l2, l3, l5, I => (fun k105 => if (nI n) ≤ l5 then (k30 l1 l2 (l3 + nI 1) I) else (am_gd (am_inb l5 n) ((gX10_writeNext n l5.toNatClampNeg I).bind (fun q2 => if q2.1 = 0 then (bX10_tick_140 n k30 k105 l1 l2 l3 l5 q2.2) else (am_gd (am_inb l5 n) ((gX10_goOn n l5.toNatClampNeg q2.2).bind (fun q4 => bX10_tick_140 n k30 k105 l1 l2 l3 l5 q4))))))) (bX10_tick_105 n k30 fu)
theorem tX10_tick_105 {G : am_G} (hG : am_ok G) {d : Nat} {k30 : Int32 → Int32 → Int32 → am_I → Option ((Option Int32 ⊕ Nat) × am_I)} (hk30 : ∀ (l1 : Int32) (l2 : Int32) (l3 : Int32) (I : am_I) (r : (Option Int32 ⊕ Nat) × am_I), k30 l1 l2 l3 I = some r → am_J G (d + 7) mX10_tick (fun pc _ st J => st = [] ∧ r = (.inr pc, J)) (fun q J => r = (.inl q, J)) 30 [some (.inr (0, 0)), some (.inl l1), some (.inl l2), some (.inl l3), none, none, none] [] I) : ∀ {fu : Nat} {l1 : Int32} {l2 : Int32} {l3 : Int32} {l5 : Int32} {I : am_I} {r : (Option Int32 ⊕ Nat) × am_I}, bX10_tick_105 G.2.2.2.1 k30 fu l1 l2 l3 l5 I = some r → am_J G (d + 7) mX10_tick (fun pc _ st J => st = [] ∧ r = (.inr pc, J)) (fun q J => r = (.inl q, J)) 105 [some (.inr (0, 0)), some (.inl l1), some (.inl l2), some (.inl l3), none, some (.inl l5), none] [] I := by
  intro fu
  induction fu with
  | zero => intro l1 l2 l3 l5 I r h; cases h
  | succ fu ih =>
    intro l1 l2 l3 l5 I r h
    have hk105 : ∀ (l1 : Int32) (l2 : Int32) (l3 : Int32) (l5 : Int32) (I : am_I) (r : (Option Int32 ⊕ Nat) × am_I), bX10_tick_105 G.2.2.2.1 k30 fu l1 l2 l3 l5 I = some r → am_J G (d + 7) mX10_tick (fun pc _ st J => st = [] ∧ r = (.inr pc, J)) (fun q J => r = (.inl q, J)) 105 [some (.inr (0, 0)), some (.inl l1), some (.inl l2), some (.inl l3), none, some (.inl l5), none] [] I := fun l1 l2 l3 l5 I r h => ih h
    unfold bX10_tick_105 at h
    generalize bX10_tick_105 G.2.2.2.1 k30 fu = k105 at hk105 h
    dsimp only at h
    refine am_iload dX10_tick_105 rfl ?_
    refine am_aload_n dX10_tick_107 rfl ?_
    refine am_get (v := .inr (0, 2)) dX10_tick_108 fl_10_19 (hG.m0 (by decide)) rfl ?_
    refine am_alen3 dX10_tick_111 (hG.m0 (by decide)) rfl ?_
    refine am_icmp_ge (tgt := 146) dX10_tick_112 rfl (fun c => ?_) (fun c => ?_)
    · rw [if_pos c] at h
      refine am_iinc (v := l3 + nI 1) dX10_tick_146 rfl rfl ?_
      refine am_goto (tgt := 30) dX10_tick_149 rfl ?_
      exact am_lwJ (lo' := [some (.inr (0, 0)), some (.inl l1), some (.inl l2), some (.inl (l3 + nI 1)), none, none, none]) ⟨rfl, rfl, rfl, rfl, trivial⟩ (hk30 l1 l2 (l3 + nI 1) _ _ h)
    · rw [if_neg c] at h
      refine am_aload_n dX10_tick_115 rfl ?_
      refine am_aload_n dX10_tick_116 rfl ?_
      refine am_get (v := .inr (0, 2)) dX10_tick_117 fl_10_19 (hG.m0 (by decide)) rfl ?_
      refine am_iload dX10_tick_120 rfl ?_
      obtain ⟨g1, h⟩ := am_gd_some h
      refine am_aaldG dX10_tick_122 (hG.m0 (by decide)) rfl g1 hG.n31 ?_
      obtain ⟨q2, hq2, h⟩ := am_bd h
      refine am_callVx (i := 0) (j := 0) (as := [.inr (l5.toNatClampNeg, 40)]) (rest := []) dX10_tick_123 lkX10_writeNext ml_X10_130 imX10_writeNext seX10_writeNext rfl rfl (hG.m0 (by decide)) rfl (Nat.le_of_ble_eq_true rfl) rfl (sX10_writeNext hG (am_inb_lt g1) hq2) ?_
      refine am_if_eq (tgt := 140) dX10_tick_126 rfl (fun c => ?_) (fun c => ?_)
      · rw [if_pos c] at h
        exact am_lwJ (lo' := [some (.inr (0, 0)), some (.inl l1), some (.inl l2), some (.inl l3), none, some (.inl l5), none]) ⟨rfl, rfl, rfl, rfl, rfl, trivial⟩ (tX10_tick_140 hG hk30 hk105 h)
      · rw [if_neg c] at h
        refine am_aload_n dX10_tick_129 rfl ?_
        refine am_aload_n dX10_tick_130 rfl ?_
        refine am_get (v := .inr (0, 2)) dX10_tick_131 fl_10_19 (hG.m0 (by decide)) rfl ?_
        refine am_iload dX10_tick_134 rfl ?_
        obtain ⟨g3, h⟩ := am_gd_some h
        refine am_aaldG dX10_tick_136 (hG.m0 (by decide)) rfl g3 hG.n31 ?_
        obtain ⟨q4, hq4, h⟩ := am_bd h
        refine am_callVe (i := 0) (j := 0) (as := [.inr (l5.toNatClampNeg, 40)]) (rest := []) dX10_tick_137 lkX10_goOn ml_X10_110 imX10_goOn seX10_goOn rfl rfl (hG.m0 (by decide)) rfl (Nat.le_of_ble_eq_true rfl) rfl (sX10_goOn hG (am_inb_lt g3) hq4) ?_
        exact am_lwJ (lo' := [some (.inr (0, 0)), some (.inl l1), some (.inl l2), some (.inl l3), none, some (.inl l5), none]) ⟨rfl, rfl, rfl, rfl, rfl, trivial⟩ (tX10_tick_140 hG hk30 hk105 h)
def bX10_tick_96 (n : Nat) (k30 : Int32 → Int32 → Int32 → am_I → Option ((Option Int32 ⊕ Nat) × am_I)) (k61 : Int32 → Int32 → Int32 → Int32 → Int32 → am_I → Option ((Option Int32 ⊕ Nat) × am_I)) (l1 : Int32) (l2 : Int32) (l3 : Int32) (l4 : Int32) (l5 : Int32) (I : am_I) : Option ((Option Int32 ⊕ Nat) × am_I) := k61 l1 l2 l3 l4 (l5 + nI 1) I
theorem tX10_tick_96 {G : am_G} (hG : am_ok G) {d : Nat} {k30 : Int32 → Int32 → Int32 → am_I → Option ((Option Int32 ⊕ Nat) × am_I)} {k61 : Int32 → Int32 → Int32 → Int32 → Int32 → am_I → Option ((Option Int32 ⊕ Nat) × am_I)} (hk30 : ∀ (l1 : Int32) (l2 : Int32) (l3 : Int32) (I : am_I) (r : (Option Int32 ⊕ Nat) × am_I), k30 l1 l2 l3 I = some r → am_J G (d + 7) mX10_tick (fun pc _ st J => st = [] ∧ r = (.inr pc, J)) (fun q J => r = (.inl q, J)) 30 [some (.inr (0, 0)), some (.inl l1), some (.inl l2), some (.inl l3), none, none, none] [] I) (hk61 : ∀ (l1 : Int32) (l2 : Int32) (l3 : Int32) (l4 : Int32) (l5 : Int32) (I : am_I) (r : (Option Int32 ⊕ Nat) × am_I), k61 l1 l2 l3 l4 l5 I = some r → am_J G (d + 7) mX10_tick (fun pc _ st J => st = [] ∧ r = (.inr pc, J)) (fun q J => r = (.inl q, J)) 61 [some (.inr (0, 0)), some (.inl l1), some (.inl l2), some (.inl l3), some (.inl l4), some (.inl l5), none] [] I) {l1 : Int32} {l2 : Int32} {l3 : Int32} {l4 : Int32} {l5 : Int32} {I : am_I} {r : (Option Int32 ⊕ Nat) × am_I} (h : bX10_tick_96 G.2.2.2.1 k30 k61 l1 l2 l3 l4 l5  I = some r) : am_J G (d + 7) mX10_tick (fun pc _ st J => st = [] ∧ r = (.inr pc, J)) (fun q J => r = (.inl q, J)) 96 [some (.inr (0, 0)), some (.inl l1), some (.inl l2), some (.inl l3), some (.inl l4), some (.inl l5), none] [] I := by
  unfold bX10_tick_96 at h
  refine am_iinc (v := l5 + nI 1) dX10_tick_96 rfl rfl ?_
  refine am_goto (tgt := 61) dX10_tick_99 rfl ?_
  exact am_lwJ (lo' := [some (.inr (0, 0)), some (.inl l1), some (.inl l2), some (.inl l3), some (.inl l4), some (.inl (l5 + nI 1)), none]) ⟨rfl, rfl, rfl, rfl, rfl, rfl, trivial⟩ (hk61 l1 l2 l3 l4 (l5 + nI 1) _ _ h)
def bX10_tick_61 (n : Nat) (k30 : Int32 → Int32 → Int32 → am_I → Option ((Option Int32 ⊕ Nat) × am_I)) : Nat → Int32 → Int32 → Int32 → Int32 → Int32 → am_I → Option ((Option Int32 ⊕ Nat) × am_I)
  | 0, _, _, _, _, _, _ => none
  | fu + 1, l1, l2, l3, l4, l5, I => (fun k61 => if l4 ≤ l5 then (bX10_tick_105 n k30 am_fu l1 l2 l3 (nI 0) I) else ((gX10_deliver n l5 I).bind (fun q1 => (gX10_isNode n q1.1 q1.2).bind (fun q2 => if q2.1 = 0 then (bX10_tick_96 n k30 k61 l1 l2 l3 l4 l5 q2.2) else (am_gd (am_inb q1.1 n) ((gX10_goOn n q1.1.toNatClampNeg q2.2).bind (fun q4 => bX10_tick_96 n k30 k61 l1 l2 l3 l4 l5 q4))))))) (bX10_tick_61 n k30 fu)
theorem tX10_tick_61 {G : am_G} (hG : am_ok G) {d : Nat} {k30 : Int32 → Int32 → Int32 → am_I → Option ((Option Int32 ⊕ Nat) × am_I)} (hk30 : ∀ (l1 : Int32) (l2 : Int32) (l3 : Int32) (I : am_I) (r : (Option Int32 ⊕ Nat) × am_I), k30 l1 l2 l3 I = some r → am_J G (d + 7) mX10_tick (fun pc _ st J => st = [] ∧ r = (.inr pc, J)) (fun q J => r = (.inl q, J)) 30 [some (.inr (0, 0)), some (.inl l1), some (.inl l2), some (.inl l3), none, none, none] [] I) : ∀ {fu : Nat} {l1 : Int32} {l2 : Int32} {l3 : Int32} {l4 : Int32} {l5 : Int32} {I : am_I} {r : (Option Int32 ⊕ Nat) × am_I}, bX10_tick_61 G.2.2.2.1 k30 fu l1 l2 l3 l4 l5 I = some r → am_J G (d + 7) mX10_tick (fun pc _ st J => st = [] ∧ r = (.inr pc, J)) (fun q J => r = (.inl q, J)) 61 [some (.inr (0, 0)), some (.inl l1), some (.inl l2), some (.inl l3), some (.inl l4), some (.inl l5), none] [] I := by
  intro fu
  induction fu with
  | zero => intro l1 l2 l3 l4 l5 I r h; cases h
  | succ fu ih =>
    intro l1 l2 l3 l4 l5 I r h
    have hk61 : ∀ (l1 : Int32) (l2 : Int32) (l3 : Int32) (l4 : Int32) (l5 : Int32) (I : am_I) (r : (Option Int32 ⊕ Nat) × am_I), bX10_tick_61 G.2.2.2.1 k30 fu l1 l2 l3 l4 l5 I = some r → am_J G (d + 7) mX10_tick (fun pc _ st J => st = [] ∧ r = (.inr pc, J)) (fun q J => r = (.inl q, J)) 61 [some (.inr (0, 0)), some (.inl l1), some (.inl l2), some (.inl l3), some (.inl l4), some (.inl l5), none] [] I := fun l1 l2 l3 l4 l5 I r h => ih h
    unfold bX10_tick_61 at h
    generalize bX10_tick_61 G.2.2.2.1 k30 fu = k61 at hk61 h
    dsimp only at h
    refine am_iload dX10_tick_61 rfl ?_
    refine am_iload dX10_tick_63 rfl ?_
    refine am_icmp_ge (tgt := 102) dX10_tick_65 rfl (fun c => ?_) (fun c => ?_)
    · rw [if_pos c] at h
      refine am_iconst (v := nI 0) dX10_tick_102 (by decide) ?_
      refine am_istore dX10_tick_103 (by decide) ?_
      exact am_lwJ (lo' := [some (.inr (0, 0)), some (.inl l1), some (.inl l2), some (.inl l3), none, some (.inl (nI 0)), none]) ⟨rfl, rfl, rfl, rfl, rfl, trivial⟩ (tX10_tick_105 hG hk30 h)
    · rw [if_neg c] at h
      refine am_aload_n dX10_tick_68 rfl ?_
      refine am_iload dX10_tick_69 rfl ?_
      obtain ⟨q1, hq1, h⟩ := am_bd h
      refine am_callVx (i := 0) (j := 0) (as := [.inl l5]) (rest := []) dX10_tick_71 lkX10_deliver ml_X10_127 imX10_deliver seX10_deliver rfl rfl (hG.m0 (by decide)) rfl (Nat.le_of_ble_eq_true rfl) rfl (sX10_deliver hG hq1) ?_
      refine am_istore dX10_tick_74 (by decide) ?_
      refine am_aload_n dX10_tick_76 rfl ?_
      refine am_iload dX10_tick_77 rfl ?_
      obtain ⟨q2, hq2, h⟩ := am_bd h
      refine am_callVx (i := 0) (j := 0) (as := [.inl q1.1]) (rest := []) dX10_tick_79 lkX10_isNode ml_X10_65 imX10_isNode seX10_isNode rfl rfl (hG.m0 (by decide)) rfl (Nat.le_of_ble_eq_true rfl) rfl (sX10_isNode hG hq2) ?_
      refine am_if_eq (tgt := 96) dX10_tick_82 rfl (fun c => ?_) (fun c => ?_)
      · rw [if_pos c] at h
        exact am_lwJ (lo' := [some (.inr (0, 0)), some (.inl l1), some (.inl l2), some (.inl l3), some (.inl l4), some (.inl l5), none]) ⟨rfl, rfl, rfl, rfl, rfl, rfl, trivial⟩ (tX10_tick_96 hG hk30 hk61 h)
      · rw [if_neg c] at h
        refine am_aload_n dX10_tick_85 rfl ?_
        refine am_aload_n dX10_tick_86 rfl ?_
        refine am_get (v := .inr (0, 2)) dX10_tick_87 fl_10_19 (hG.m0 (by decide)) rfl ?_
        refine am_iload dX10_tick_90 rfl ?_
        obtain ⟨g3, h⟩ := am_gd_some h
        refine am_aaldG dX10_tick_92 (hG.m0 (by decide)) rfl g3 hG.n31 ?_
        obtain ⟨q4, hq4, h⟩ := am_bd h
        refine am_callVe (i := 0) (j := 0) (as := [.inr (q1.1.toNatClampNeg, 40)]) (rest := []) dX10_tick_93 lkX10_goOn ml_X10_110 imX10_goOn seX10_goOn rfl rfl (hG.m0 (by decide)) rfl (Nat.le_of_ble_eq_true rfl) rfl (sX10_goOn hG (am_inb_lt g3) hq4) ?_
        exact am_lwJ (lo' := [some (.inr (0, 0)), some (.inl l1), some (.inl l2), some (.inl l3), some (.inl l4), some (.inl l5), none]) ⟨rfl, rfl, rfl, rfl, rfl, rfl, trivial⟩ (tX10_tick_96 hG hk30 hk61 h)
def bX10_tick_30 (n : Nat) : Nat → Int32 → Int32 → Int32 → am_I → Option ((Option Int32 ⊕ Nat) × am_I)
  | 0, _, _, _, _ => none
  | fu + 1, l1, l2, l3, I => (fun k30 => if l1 ≤ l3 then (some (.inl (some ((I 0 13 1) - l2)), I)) else (am_lt (am_up I 0 0 7 ((I 0 0 7) + (nI 1))) (fun I1 => (gX5_gather n (I1 0 0 7) I1).bind (fun q2 => bX10_tick_61 n k30 am_fu l1 l2 l3 q2.1 (nI 0) q2.2)))) (bX10_tick_30 n fu)
theorem tX10_tick_30 {G : am_G} (hG : am_ok G) {d : Nat} : ∀ {fu : Nat} {l1 : Int32} {l2 : Int32} {l3 : Int32} {I : am_I} {r : (Option Int32 ⊕ Nat) × am_I}, bX10_tick_30 G.2.2.2.1 fu l1 l2 l3 I = some r → am_J G (d + 7) mX10_tick (fun pc _ st J => st = [] ∧ r = (.inr pc, J)) (fun q J => r = (.inl q, J)) 30 [some (.inr (0, 0)), some (.inl l1), some (.inl l2), some (.inl l3), none, none, none] [] I := by
  intro fu
  induction fu with
  | zero => intro l1 l2 l3 I r h; cases h
  | succ fu ih =>
    intro l1 l2 l3 I r h
    have hk30 : ∀ (l1 : Int32) (l2 : Int32) (l3 : Int32) (I : am_I) (r : (Option Int32 ⊕ Nat) × am_I), bX10_tick_30 G.2.2.2.1 fu l1 l2 l3 I = some r → am_J G (d + 7) mX10_tick (fun pc _ st J => st = [] ∧ r = (.inr pc, J)) (fun q J => r = (.inl q, J)) 30 [some (.inr (0, 0)), some (.inl l1), some (.inl l2), some (.inl l3), none, none, none] [] I := fun l1 l2 l3 I r h => ih h
    unfold bX10_tick_30 at h
    generalize bX10_tick_30 G.2.2.2.1 fu = k30 at hk30 h
    dsimp only at h
    refine am_iload_n dX10_tick_30 rfl ?_
    refine am_iload_n dX10_tick_31 rfl ?_
    refine am_icmp_ge (tgt := 152) dX10_tick_32 rfl (fun c => ?_) (fun c => ?_)
    · rw [if_pos c] at h
      refine am_aload_n dX10_tick_152 rfl ?_
      refine am_get (v := .inr (0, 13)) dX10_tick_153 fl_10_43 (hG.m0 (by decide)) rfl ?_
      refine am_get (v := .inl (I 0 13 1)) dX10_tick_156 fl_10_121 (hG.m0 (by decide)) rfl ?_
      refine am_iload_n dX10_tick_159 rfl ?_
      refine am_isub dX10_tick_160 ?_
      cases h
      exact am_iret dX10_tick_161 rfl rfl rfl
    · rw [if_neg c] at h
      refine am_aload_n dX10_tick_35 rfl ?_
      refine am_dup dX10_tick_36 ?_
      refine am_get (v := .inl (I 0 0 7)) dX10_tick_37 fl_10_99 (hG.m0 (by decide)) rfl ?_
      refine am_iconst (v := nI 1) dX10_tick_40 (by decide) ?_
      refine am_iadd dX10_tick_41 ?_
      refine am_put (x := (I 0 0 7) + (nI 1)) dX10_tick_42 fp_10_99 (hG.m0 (by decide)) (Nat.le_of_ble_eq_true rfl) rfl ?_
      obtain ⟨I1, hI1, h⟩ := am_lt_some h
      refine am_st10 hI1 ?_
      refine am_aload_n dX10_tick_45 rfl ?_
      refine am_get (v := .inr (0, 9)) dX10_tick_46 fl_10_36 (hG.m0 (by decide)) rfl ?_
      refine am_aload_n dX10_tick_49 rfl ?_
      refine am_get (v := .inl (I1 0 0 7)) dX10_tick_50 fl_10_99 (hG.m0 (by decide)) rfl ?_
      obtain ⟨q2, hq2, h⟩ := am_bd h
      refine am_callVx (i := 0) (j := 9) (as := [.inl (I1 0 0 7)]) (rest := []) dX10_tick_53 lkX5_gather ml_X10_124 imX5_gather seX5_gather rfl rfl (hG.m0 (by decide)) rfl (Nat.le_of_ble_eq_true rfl) rfl (sX5_gather hG hq2) ?_
      refine am_istore dX10_tick_56 (by decide) ?_
      refine am_iconst (v := nI 0) dX10_tick_58 (by decide) ?_
      refine am_istore dX10_tick_59 (by decide) ?_
      exact am_lwJ (lo' := [some (.inr (0, 0)), some (.inl l1), some (.inl l2), some (.inl l3), some (.inl q2.1), some (.inl (nI 0)), none]) ⟨rfl, rfl, rfl, rfl, rfl, rfl, trivial⟩ (tX10_tick_61 hG hk30 h)
def bX10_tick_0 (n : Nat) (l1 : Int32) (I : am_I) : Option ((Option Int32 ⊕ Nat) × am_I) := if l1 < 0 then (bX10_tick_10 n I) else (if l1 ≤ (nI 100) then (bX10_tick_30 n am_fu l1 (I 0 13 1) (nI 0) I) else (bX10_tick_10 n I))
theorem tX10_tick_0 {G : am_G} (hG : am_ok G) {d : Nat} {l1 : Int32} {I : am_I} {r : (Option Int32 ⊕ Nat) × am_I} (h : bX10_tick_0 G.2.2.2.1 l1  I = some r) : am_J G (d + 7) mX10_tick (fun pc _ st J => st = [] ∧ r = (.inr pc, J)) (fun q J => r = (.inl q, J)) 0 [some (.inr (0, 0)), some (.inl l1), none, none, none, none, none] [] I := by
  unfold bX10_tick_0 at h
  refine am_iload_n dX10_tick_0 rfl ?_
  refine am_if_lt (tgt := 10) dX10_tick_1 rfl (fun c => ?_) (fun c => ?_)
  · rw [if_pos c] at h
    exact am_lwJ (lo' := [none, none, none, none, none, none, none]) trivial (tX10_tick_10 hG h)
  · rw [if_neg c] at h
    refine am_iload_n dX10_tick_4 rfl ?_
    refine am_bipush (v := nI 100) dX10_tick_5 (by decide) ?_
    refine am_icmp_le (tgt := 20) dX10_tick_7 rfl (fun c => ?_) (fun c => ?_)
    · rw [if_pos c] at h
      refine am_aload_n dX10_tick_20 rfl ?_
      refine am_get (v := .inr (0, 13)) dX10_tick_21 fl_10_43 (hG.m0 (by decide)) rfl ?_
      refine am_get (v := .inl (I 0 13 1)) dX10_tick_24 fl_10_121 (hG.m0 (by decide)) rfl ?_
      refine am_istore_n dX10_tick_27 (by decide) ?_
      refine am_iconst (v := nI 0) dX10_tick_28 (by decide) ?_
      refine am_istore_n dX10_tick_29 (by decide) ?_
      exact am_lwJ (lo' := [some (.inr (0, 0)), some (.inl l1), some (.inl (I 0 13 1)), some (.inl (nI 0)), none, none, none]) ⟨rfl, rfl, rfl, rfl, trivial⟩ (tX10_tick_30 hG h)
    · rw [if_neg c] at h
      exact am_lwJ (lo' := [none, none, none, none, none, none, none]) trivial (tX10_tick_10 hG h)
def gX10_tick (n : Nat) (l1 : Int32) (I : am_I) : Option ((Option Int32 ⊕ Nat) × am_I) := bX10_tick_0 n l1 I
theorem sX10_tick {G : am_G} (hG : am_ok G) {d : Nat} {l1 : Int32} {I : am_I} {r : (Option Int32 ⊕ Nat) × am_I} (h : gX10_tick G.2.2.2.1 l1 I = some r) : am_J G (d + 7) mX10_tick (fun pc _ st J => st = [] ∧ r = (.inr pc, J)) (fun q J => r = (.inl q, J)) 0 (([.inr (0, 0), .inl l1] : List am_V).map some ++ List.replicate (7 - 2) none) [] I :=
  am_lwJ (lo' := [some (.inr (0, 0)), some (.inl l1), none, none, none, none, none]) ⟨rfl, rfl, trivial⟩ (tX10_tick_0 hG h)
def bX10_tear_49 (n : Nat) (I : am_I) : Option (am_I) := some I
theorem tX10_tear_49 {G : am_G} (hG : am_ok G) {d : Nat} {I : am_I} {r : am_I} (h : bX10_tear_49 G.2.2.2.1  I = some r) : am_J G (d + 2) mX10_tear am_no (am_E none r) 49 [none, none, none, none] [] I := by
  unfold bX10_tear_49 at h
  cases h
  exact am_vret dX10_tear_49 rfl ⟨rfl, rfl⟩
def bX10_tear_0 (n : Nat) (l1 : Nat) (l2 : Int32) (I : am_I) : Option (am_I) := (gX3_isFlushing n l1 I).bind (fun q1 => if q1.1 = 0 then (some q1.2) else ((gX3_write n l1 l2 q1.2).bind (fun q2 => (gX3_isAtHead n l1 q2).bind (fun q3 => if q3.1 = 0 then (bX10_tear_49 n q3.2) else (if l2 ≤ (nI 2) then (bX10_tear_49 n q3.2) else ((gX0_makeSafe n (q3.2 l1 40 0) (q3.2 l1 44 8) q3.2).bind (fun q4 => bX10_tear_49 n q4)))))))
theorem tX10_tear_0 {G : am_G} (hG : am_ok G) {d : Nat} {l1 : Nat} {l2 : Int32} (hl1 : l1 < G.2.2.2.1) {I : am_I} {r : am_I} (h : bX10_tear_0 G.2.2.2.1 l1 l2  I = some r) : am_J G (d + 2) mX10_tear am_no (am_E none r) 0 [some (.inr (0, 0)), some (.inr (l1, 40)), some (.inl l2), none] [] I := by
  unfold bX10_tear_0 at h
  refine am_aload_n dX10_tear_0 rfl ?_
  refine am_get (v := .inr (l1, 44)) dX10_tear_1 fl_10_284 (hG.mn hl1 (by decide) (by decide)) rfl ?_
  refine am_astore_n dX10_tear_4 (by decide) ?_
  refine am_aload_n dX10_tear_5 rfl ?_
  obtain ⟨q1, hq1, h⟩ := am_bd h
  refine am_callVx (i := l1) (j := 44) (as := []) (rest := []) dX10_tear_6 lkX3_isFlushing ml_X10_371 imX3_isFlushing seX3_isFlushing rfl rfl (hG.mn hl1 (by decide) (by decide)) rfl (Nat.le_of_ble_eq_true rfl) rfl (sX3_isFlushing hG hl1 hq1) ?_
  refine am_if_ne (tgt := 13) dX10_tear_9 rfl (fun c => ?_) (fun c => ?_)
  · rw [if_neg c] at h
    refine am_aload_n dX10_tear_13 rfl ?_
    refine am_aload_n dX10_tear_14 rfl ?_
    refine am_get (v := .inr (0, 1)) dX10_tear_15 fl_10_9 (hG.m0 (by decide)) rfl ?_
    refine am_iload_n dX10_tear_18 rfl ?_
    obtain ⟨q2, hq2, h⟩ := am_bd h
    refine am_callVe (i := l1) (j := 44) (as := [.inr (0, 1), .inl l2]) (rest := []) dX10_tear_19 lkX3_write ml_X10_464 imX3_write seX3_write rfl rfl (hG.mn hl1 (by decide) (by decide)) rfl (Nat.le_of_ble_eq_true rfl) rfl (sX3_write hG hl1 hq2) ?_
    refine am_aload_n dX10_tear_22 rfl ?_
    obtain ⟨q3, hq3, h⟩ := am_bd h
    refine am_callVx (i := l1) (j := 44) (as := []) (rest := []) dX10_tear_23 lkX3_isAtHead ml_X10_468 imX3_isAtHead seX3_isAtHead rfl rfl (hG.mn hl1 (by decide) (by decide)) rfl (Nat.le_of_ble_eq_true rfl) rfl (sX3_isAtHead hG hl1 hq3) ?_
    refine am_if_eq (tgt := 49) dX10_tear_26 rfl (fun c => ?_) (fun c => ?_)
    · rw [if_pos c] at h
      exact am_lwJ (lo' := [none, none, none, none]) trivial (tX10_tear_49 hG h)
    · rw [if_neg c] at h
      refine am_iload_n dX10_tear_29 rfl ?_
      refine am_iconst (v := nI 2) dX10_tear_30 (by decide) ?_
      refine am_icmp_le (tgt := 49) dX10_tear_31 rfl (fun c => ?_) (fun c => ?_)
      · rw [if_pos c] at h
        exact am_lwJ (lo' := [none, none, none, none]) trivial (tX10_tear_49 hG h)
      · rw [if_neg c] at h
        refine am_aload_n dX10_tear_34 rfl ?_
        refine am_get (v := .inr (0, 13)) dX10_tear_35 fl_10_43 (hG.m0 (by decide)) rfl ?_
        refine am_aload_n dX10_tear_38 rfl ?_
        refine am_get (v := .inl (q3.2 l1 40 0)) dX10_tear_39 fl_10_388 (hG.mn hl1 (by decide) (by decide)) rfl ?_
        refine am_aload_n dX10_tear_42 rfl ?_
        refine am_get (v := .inl (q3.2 l1 44 8)) dX10_tear_43 fl_10_471 (hG.mn hl1 (by decide) (by decide)) rfl ?_
        obtain ⟨q4, hq4, h⟩ := am_bd h
        refine am_callVe (i := 0) (j := 13) (as := [.inl (q3.2 l1 40 0), .inl (q3.2 l1 44 8)]) (rest := []) dX10_tear_46 lkX0_makeSafe ml_X10_474 imX0_makeSafe seX0_makeSafe rfl rfl (hG.m0 (by decide)) rfl (Nat.le_of_ble_eq_true rfl) rfl (sX0_makeSafe hG hq4) ?_
        exact am_lwJ (lo' := [none, none, none, none]) trivial (tX10_tear_49 hG h)
  · rw [if_pos c] at h
    cases h
    exact am_vret dX10_tear_12 rfl ⟨rfl, rfl⟩
def gX10_tear (n : Nat) (l1 : Nat) (l2 : Int32) (I : am_I) : Option (am_I) := bX10_tear_0 n l1 l2 I
theorem sX10_tear {G : am_G} (hG : am_ok G) {d : Nat} {l1 : Nat} {l2 : Int32} (hl1 : l1 < G.2.2.2.1) {I : am_I} {r : am_I} (h : gX10_tear G.2.2.2.1 l1 l2 I = some r) : am_C G (d + 2) mX10_tear [.inr (0, 0), .inr (l1, 40), .inl l2] I (am_E none r) :=
  am_of (by decide +kernel) hG.nd (Nat.le_of_ble_eq_true rfl) (am_lwJ (lo' := [some (.inr (0, 0)), some (.inr (l1, 40)), some (.inl l2), none]) ⟨rfl, rfl, rfl, trivial⟩ (tX10_tear_0 hG hl1 h))
def bX0_lose_0 (n : Nat) (l1 : Int32) (I : am_I) : Option (am_I) := (gX0_turn n l1 (I 0 13 1) (nI 3) I).bind (fun q1 => some q1)
theorem tX0_lose_0 {G : am_G} (hG : am_ok G) {d : Nat} {l1 : Int32} {I : am_I} {r : am_I} (h : bX0_lose_0 G.2.2.2.1 l1  I = some r) : am_J G (d + 1) mX0_lose am_no (am_E none r) 0 [some (.inr (0, 13)), some (.inl l1)] [] I := by
  unfold bX0_lose_0 at h
  refine am_aload_n dX0_lose_0 rfl ?_
  refine am_iload_n dX0_lose_1 rfl ?_
  refine am_aload_n dX0_lose_2 rfl ?_
  refine am_get (v := .inl (I 0 13 1)) dX0_lose_3 fl_0_15 (hG.m0 (by decide)) rfl ?_
  refine am_iconst (v := nI 3) dX0_lose_6 (by decide) ?_
  obtain ⟨q1, hq1, h⟩ := am_bd h
  refine am_callVe (i := 0) (j := 13) (as := [.inl l1, .inl (I 0 13 1), .inl (nI 3)]) (rest := []) dX0_lose_7 lkX0_turn ml_X0_57 imX0_turn seX0_turn rfl rfl (hG.m0 (by decide)) rfl (Nat.le_of_ble_eq_true rfl) rfl (sX0_turn hG hq1) ?_
  cases h
  exact am_vret dX0_lose_10 rfl ⟨rfl, rfl⟩
def gX0_lose (n : Nat) (l1 : Int32) (I : am_I) : Option (am_I) := bX0_lose_0 n l1 I
theorem sX0_lose {G : am_G} (hG : am_ok G) {d : Nat} {l1 : Int32} {I : am_I} {r : am_I} (h : gX0_lose G.2.2.2.1 l1 I = some r) : am_C G (d + 1) mX0_lose [.inr (0, 13), .inl l1] I (am_E none r) :=
  am_of (by decide +kernel) hG.nd (Nat.le_of_ble_eq_true rfl) (am_lwJ (lo' := [some (.inr (0, 13)), some (.inl l1)]) ⟨rfl, rfl, trivial⟩ (tX0_lose_0 hG h))
def bX1_wipe_2 (n : Nat) : Nat → Nat → Int32 → am_I → Option (am_I)
  | 0, _, _, _ => none
  | fu + 1, l0, l1, I => (fun k2 => if (nI 640) ≤ l1 then (am_lt (am_up I l0 41 2 (nI 0)) (fun I1 => some I1)) else (am_gd (am_inb l1 640) (am_lt (am_up I l0 43 l1.toNatClampNeg (nI 0)) (fun I3 => k2 l0 (l1 + nI 1) I3)))) (bX1_wipe_2 n fu)
theorem tX1_wipe_2 {G : am_G} (hG : am_ok G) {d : Nat} : ∀ {fu : Nat} {l0 : Nat} {l1 : Int32} (hl0 : l0 < G.2.2.2.1) {I : am_I} {r : am_I}, bX1_wipe_2 G.2.2.2.1 fu l0 l1 I = some r → am_J G d mX1_wipe am_no (am_E none r) 2 [some (.inr (l0, 41)), some (.inl l1)] [] I := by
  intro fu
  induction fu with
  | zero => intro l0 l1 hl0 I r h; cases h
  | succ fu ih =>
    intro l0 l1 hl0 I r h
    have hk2 : ∀ (l0 : Nat) (l1 : Int32) (hl0 : l0 < G.2.2.2.1) (I : am_I) (r : am_I), bX1_wipe_2 G.2.2.2.1 fu l0 l1 I = some r → am_J G d mX1_wipe am_no (am_E none r) 2 [some (.inr (l0, 41)), some (.inl l1)] [] I := fun l0 l1 hl0 I r h => ih hl0 h
    unfold bX1_wipe_2 at h
    generalize bX1_wipe_2 G.2.2.2.1 fu = k2 at hk2 h
    dsimp only at h
    refine am_iload_n dX1_wipe_2 rfl ?_
    refine am_sipush (v := nI 640) dX1_wipe_3 (by decide) ?_
    refine am_icmp_ge (tgt := 22) dX1_wipe_6 rfl (fun c => ?_) (fun c => ?_)
    · rw [if_pos c] at h
      refine am_aload_n dX1_wipe_22 rfl ?_
      refine am_iconst (v := nI 0) dX1_wipe_23 (by decide) ?_
      refine am_put (x := nI 0) dX1_wipe_24 fp_1_19 (hG.mn hl0 (by decide) (by decide)) (Nat.le_of_ble_eq_true rfl) rfl ?_
      obtain ⟨I1, hI1, h⟩ := am_lt_some h
      refine am_st10 hI1 ?_
      cases h
      exact am_vret dX1_wipe_27 rfl ⟨rfl, rfl⟩
    · rw [if_neg c] at h
      refine am_aload_n dX1_wipe_9 rfl ?_
      refine am_get (v := .inr (l0, 43)) dX1_wipe_10 fl_1_15 (hG.mn hl0 (by decide) (by decide)) rfl ?_
      refine am_iload_n dX1_wipe_13 rfl ?_
      refine am_iconst (v := nI 0) dX1_wipe_14 (by decide) ?_
      obtain ⟨g2, h⟩ := am_gd_some h
      refine am_zastG dX1_wipe_15 (hG.mn hl0 (by decide) (by decide)) rfl (by decide) g2 (show 640 < 2 ^ 31 by decide) ?_
      obtain ⟨I3, hI3, h⟩ := am_lt_some h
      refine am_st10 hI3 ?_
      refine am_iinc (v := l1 + nI 1) dX1_wipe_16 rfl rfl ?_
      refine am_goto (tgt := 2) dX1_wipe_19 rfl ?_
      exact am_lwJ (lo' := [some (.inr (l0, 41)), some (.inl (l1 + nI 1))]) ⟨rfl, rfl, trivial⟩ (hk2 l0 (l1 + nI 1) hl0 _ _ h)
def bX1_wipe_0 (n : Nat) (l0 : Nat) (I : am_I) : Option (am_I) := bX1_wipe_2 n am_fu l0 (nI 0) I
theorem tX1_wipe_0 {G : am_G} (hG : am_ok G) {d : Nat} {l0 : Nat} (hl0 : l0 < G.2.2.2.1) {I : am_I} {r : am_I} (h : bX1_wipe_0 G.2.2.2.1 l0  I = some r) : am_J G d mX1_wipe am_no (am_E none r) 0 [some (.inr (l0, 41)), none] [] I := by
  unfold bX1_wipe_0 at h
  refine am_iconst (v := nI 0) dX1_wipe_0 (by decide) ?_
  refine am_istore_n dX1_wipe_1 (by decide) ?_
  exact am_lwJ (lo' := [some (.inr (l0, 41)), some (.inl (nI 0))]) ⟨rfl, rfl, trivial⟩ (tX1_wipe_2 hG hl0 h)
def gX1_wipe (n : Nat) (l0 : Nat) (I : am_I) : Option (am_I) := bX1_wipe_0 n l0 I
theorem sX1_wipe {G : am_G} (hG : am_ok G) {d : Nat} {l0 : Nat} (hl0 : l0 < G.2.2.2.1) {I : am_I} {r : am_I} (h : gX1_wipe G.2.2.2.1 l0 I = some r) : am_C G d mX1_wipe [.inr (l0, 41)] I (am_E none r) :=
  am_of (by decide +kernel) hG.nd (Nat.le_of_ble_eq_true rfl) (am_lwJ (lo' := [some (.inr (l0, 41)), none]) ⟨rfl, trivial⟩ (tX1_wipe_0 hG hl0 h))
def bX3_wipe_0 (n : Nat) (l0 : Nat) (I : am_I) : Option (am_I) := am_lt (am_up I l0 44 2 (nI 0)) (fun I1 => am_lt (am_up I1 l0 44 5 (nI 0)) (fun I2 => am_lt (am_up I2 l0 44 7 (nI 0)) (fun I3 => some I3)))
theorem tX3_wipe_0 {G : am_G} (hG : am_ok G) {d : Nat} {l0 : Nat} (hl0 : l0 < G.2.2.2.1) {I : am_I} {r : am_I} (h : bX3_wipe_0 G.2.2.2.1 l0  I = some r) : am_J G d mX3_wipe am_no (am_E none r) 0 [some (.inr (l0, 44))] [] I := by
  unfold bX3_wipe_0 at h
  refine am_aload_n dX3_wipe_0 rfl ?_
  refine am_iconst (v := nI 0) dX3_wipe_1 (by decide) ?_
  refine am_put (x := nI 0) dX3_wipe_2 fp_3_28 (hG.mn hl0 (by decide) (by decide)) (Nat.le_of_ble_eq_true rfl) rfl ?_
  obtain ⟨I1, hI1, h⟩ := am_lt_some h
  refine am_st10 hI1 ?_
  refine am_aload_n dX3_wipe_5 rfl ?_
  refine am_iconst (v := nI 0) dX3_wipe_6 (by decide) ?_
  refine am_put (x := nI 0) dX3_wipe_7 fp_3_25 (hG.mn hl0 (by decide) (by decide)) (Nat.le_of_ble_eq_true rfl) rfl ?_
  obtain ⟨I2, hI2, h⟩ := am_lt_some h
  refine am_st10 hI2 ?_
  refine am_aload_n dX3_wipe_10 rfl ?_
  refine am_iconst (v := nI 0) dX3_wipe_11 (by decide) ?_
  refine am_put (x := nI 0) dX3_wipe_12 fp_3_47 (hG.mn hl0 (by decide) (by decide)) (Nat.le_of_ble_eq_true rfl) rfl ?_
  obtain ⟨I3, hI3, h⟩ := am_lt_some h
  refine am_st10 hI3 ?_
  cases h
  exact am_vret dX3_wipe_15 rfl ⟨rfl, rfl⟩
def gX3_wipe (n : Nat) (l0 : Nat) (I : am_I) : Option (am_I) := bX3_wipe_0 n l0 I
theorem sX3_wipe {G : am_G} (hG : am_ok G) {d : Nat} {l0 : Nat} (hl0 : l0 < G.2.2.2.1) {I : am_I} {r : am_I} (h : gX3_wipe G.2.2.2.1 l0 I = some r) : am_C G d mX3_wipe [.inr (l0, 44)] I (am_E none r) :=
  am_of (by decide +kernel) hG.nd (Nat.le_of_ble_eq_true rfl) (am_lwJ (lo' := [some (.inr (l0, 44))]) ⟨rfl, trivial⟩ (tX3_wipe_0 hG hl0 h))
def bX4_wipe_26 (n : Nat) : Nat → Nat → Int32 → am_I → Option (am_I)
  | 0, _, _, _ => none
  | fu + 1, l0, l1, I => (fun k26 => if (nI 136) ≤ l1 then ((gX4_clearList n l0 I).bind (fun q1 => some q1)) else (am_gd (am_inb l1 136) (am_lt (am_up I l0 52 l1.toNatClampNeg (nI 0)) (fun I3 => k26 l0 (l1 + nI 1) I3)))) (bX4_wipe_26 n fu)
theorem tX4_wipe_26 {G : am_G} (hG : am_ok G) {d : Nat} : ∀ {fu : Nat} {l0 : Nat} {l1 : Int32} (hl0 : l0 < G.2.2.2.1) {I : am_I} {r : am_I}, bX4_wipe_26 G.2.2.2.1 fu l0 l1 I = some r → am_J G (d + 2) mX4_wipe am_no (am_E none r) 26 [some (.inr (l0, 48)), some (.inl l1)] [] I := by
  intro fu
  induction fu with
  | zero => intro l0 l1 hl0 I r h; cases h
  | succ fu ih =>
    intro l0 l1 hl0 I r h
    have hk26 : ∀ (l0 : Nat) (l1 : Int32) (hl0 : l0 < G.2.2.2.1) (I : am_I) (r : am_I), bX4_wipe_26 G.2.2.2.1 fu l0 l1 I = some r → am_J G (d + 2) mX4_wipe am_no (am_E none r) 26 [some (.inr (l0, 48)), some (.inl l1)] [] I := fun l0 l1 hl0 I r h => ih hl0 h
    unfold bX4_wipe_26 at h
    generalize bX4_wipe_26 G.2.2.2.1 fu = k26 at hk26 h
    dsimp only at h
    refine am_iload_n dX4_wipe_26 rfl ?_
    refine am_sipush (v := nI 136) dX4_wipe_27 (by decide) ?_
    refine am_icmp_ge (tgt := 46) dX4_wipe_30 rfl (fun c => ?_) (fun c => ?_)
    · rw [if_pos c] at h
      refine am_aload_n dX4_wipe_46 rfl ?_
      obtain ⟨q1, hq1, h⟩ := am_bd h
      refine am_callVe (i := l0) (j := 48) (as := []) (rest := []) dX4_wipe_47 lkX4_clearList ml_X4_47 imX4_clearList seX4_clearList rfl rfl (hG.mn hl0 (by decide) (by decide)) rfl (Nat.le_of_ble_eq_true rfl) rfl (sX4_clearList hG hl0 hq1) ?_
      cases h
      exact am_vret dX4_wipe_50 rfl ⟨rfl, rfl⟩
    · rw [if_neg c] at h
      refine am_aload_n dX4_wipe_33 rfl ?_
      refine am_get (v := .inr (l0, 52)) dX4_wipe_34 fl_4_21 (hG.mn hl0 (by decide) (by decide)) rfl ?_
      refine am_iload_n dX4_wipe_37 rfl ?_
      refine am_iconst (v := nI 0) dX4_wipe_38 (by decide) ?_
      obtain ⟨g2, h⟩ := am_gd_some h
      refine am_zastG dX4_wipe_39 (hG.mn hl0 (by decide) (by decide)) rfl (by decide) g2 (show 136 < 2 ^ 31 by decide) ?_
      obtain ⟨I3, hI3, h⟩ := am_lt_some h
      refine am_st10 hI3 ?_
      refine am_iinc (v := l1 + nI 1) dX4_wipe_40 rfl rfl ?_
      refine am_goto (tgt := 26) dX4_wipe_43 rfl ?_
      exact am_lwJ (lo' := [some (.inr (l0, 48)), some (.inl (l1 + nI 1))]) ⟨rfl, rfl, trivial⟩ (hk26 l0 (l1 + nI 1) hl0 _ _ h)
def bX4_wipe_0 (n : Nat) (l0 : Nat) (I : am_I) : Option (am_I) := am_lt (am_upf I l0 49 (am_fil (I l0 49) 136 (nI 0))) (fun I1 => am_lt (am_upf I1 l0 50 (am_fil (I1 l0 50) 136 (nI 0))) (fun I2 => am_lt (am_upf I2 l0 51 (am_fil (I2 l0 51) 136 (-1 : Int32))) (fun I3 => bX4_wipe_26 n am_fu l0 (nI 0) I3)))
theorem tX4_wipe_0 {G : am_G} (hG : am_ok G) {d : Nat} {l0 : Nat} (hl0 : l0 < G.2.2.2.1) {I : am_I} {r : am_I} (h : bX4_wipe_0 G.2.2.2.1 l0  I = some r) : am_J G (d + 2) mX4_wipe am_no (am_E none r) 0 [some (.inr (l0, 48)), none] [] I := by
  unfold bX4_wipe_0 at h
  refine am_aload_n dX4_wipe_0 rfl ?_
  refine am_get (v := .inr (l0, 49)) dX4_wipe_1 fl_4_9 (hG.mn hl0 (by decide) (by decide)) rfl ?_
  refine am_iconst (v := nI 0) dX4_wipe_4 (by decide) ?_
  refine am_callSe (as := [.inr (l0, 49), .inl (nI 0)]) (rest := []) dX4_wipe_5 lkJ7_fill_53178 ml_X4_31 isJ7_fill_53178 rfl (Nat.le_of_ble_eq_true rfl) rfl (c_fill (i := l0) (j := 49) hG.nd (hG.mn hl0 (by decide) (by decide)) rfl (show 136 < 2 ^ 31 by decide) (nI 0) I) ?_
  obtain ⟨I1, hI1, h⟩ := am_lt_some h
  refine am_st10 hI1 ?_
  refine am_aload_n dX4_wipe_8 rfl ?_
  refine am_get (v := .inr (l0, 50)) dX4_wipe_9 fl_4_15 (hG.mn hl0 (by decide) (by decide)) rfl ?_
  refine am_iconst (v := nI 0) dX4_wipe_12 (by decide) ?_
  refine am_callSe (as := [.inr (l0, 50), .inl (nI 0)]) (rest := []) dX4_wipe_13 lkJ7_fill_53178 ml_X4_31 isJ7_fill_53178 rfl (Nat.le_of_ble_eq_true rfl) rfl (c_fill (i := l0) (j := 50) hG.nd (hG.mn hl0 (by decide) (by decide)) rfl (show 136 < 2 ^ 31 by decide) (nI 0) I1) ?_
  obtain ⟨I2, hI2, h⟩ := am_lt_some h
  refine am_st10 hI2 ?_
  refine am_aload_n dX4_wipe_16 rfl ?_
  refine am_get (v := .inr (l0, 51)) dX4_wipe_17 fl_4_18 (hG.mn hl0 (by decide) (by decide)) rfl ?_
  refine am_iconst (v := (-1 : Int32)) dX4_wipe_20 (by decide) ?_
  refine am_callSe (as := [.inr (l0, 51), .inl (-1 : Int32)]) (rest := []) dX4_wipe_21 lkJ7_fill_53178 ml_X4_31 isJ7_fill_53178 rfl (Nat.le_of_ble_eq_true rfl) rfl (c_fill (i := l0) (j := 51) hG.nd (hG.mn hl0 (by decide) (by decide)) rfl (show 136 < 2 ^ 31 by decide) (-1 : Int32) I2) ?_
  obtain ⟨I3, hI3, h⟩ := am_lt_some h
  refine am_st10 hI3 ?_
  refine am_iconst (v := nI 0) dX4_wipe_24 (by decide) ?_
  refine am_istore_n dX4_wipe_25 (by decide) ?_
  exact am_lwJ (lo' := [some (.inr (l0, 48)), some (.inl (nI 0))]) ⟨rfl, rfl, trivial⟩ (tX4_wipe_26 hG hl0 h)
def gX4_wipe (n : Nat) (l0 : Nat) (I : am_I) : Option (am_I) := bX4_wipe_0 n l0 I
theorem sX4_wipe {G : am_G} (hG : am_ok G) {d : Nat} {l0 : Nat} (hl0 : l0 < G.2.2.2.1) {I : am_I} {r : am_I} (h : gX4_wipe G.2.2.2.1 l0 I = some r) : am_C G (d + 2) mX4_wipe [.inr (l0, 48)] I (am_E none r) :=
  am_of (by decide +kernel) hG.nd (Nat.le_of_ble_eq_true rfl) (am_lwJ (lo' := [some (.inr (l0, 48)), none]) ⟨rfl, trivial⟩ (tX4_wipe_0 hG hl0 h))
def bX7_goDark_0 (n : Nat) (l0 : Nat) (I : am_I) : Option (am_I) := am_lt (am_up I l0 40 5 (nI 0)) (fun I1 => (gX1_wipe n l0 I1).bind (fun q2 => (gX3_wipe n l0 q2).bind (fun q3 => (gX4_wipe n l0 q3).bind (fun q4 => some q4))))
theorem tX7_goDark_0 {G : am_G} (hG : am_ok G) {d : Nat} {l0 : Nat} (hl0 : l0 < G.2.2.2.1) {I : am_I} {r : am_I} (h : bX7_goDark_0 G.2.2.2.1 l0  I = some r) : am_J G (d + 3) mX7_goDark am_no (am_E none r) 0 [some (.inr (l0, 40))] [] I := by
  unfold bX7_goDark_0 at h
  refine am_aload_n dX7_goDark_0 rfl ?_
  refine am_iconst (v := nI 0) dX7_goDark_1 (by decide) ?_
  refine am_putz (x := nI 0) dX7_goDark_2 fp_7_30 (hG.mn hl0 (by decide) (by decide)) (by decide) (Nat.le_of_ble_eq_true rfl) rfl ?_
  obtain ⟨I1, hI1, h⟩ := am_lt_some h
  refine am_st10 hI1 ?_
  refine am_aload_n dX7_goDark_5 rfl ?_
  refine am_get (v := .inr (l0, 41)) dX7_goDark_6 fl_7_10 (hG.mn hl0 (by decide) (by decide)) rfl ?_
  obtain ⟨q2, hq2, h⟩ := am_bd h
  refine am_callVe (i := l0) (j := 41) (as := []) (rest := []) dX7_goDark_9 lkX1_wipe ml_X7_56 imX1_wipe seX1_wipe rfl rfl (hG.mn hl0 (by decide) (by decide)) rfl (Nat.le_of_ble_eq_true rfl) rfl (sX1_wipe hG hl0 hq2) ?_
  refine am_aload_n dX7_goDark_12 rfl ?_
  refine am_get (v := .inr (l0, 44)) dX7_goDark_13 fl_7_52 (hG.mn hl0 (by decide) (by decide)) rfl ?_
  obtain ⟨q3, hq3, h⟩ := am_bd h
  refine am_callVe (i := l0) (j := 44) (as := []) (rest := []) dX7_goDark_16 lkX3_wipe ml_X7_59 imX3_wipe seX3_wipe rfl rfl (hG.mn hl0 (by decide) (by decide)) rfl (Nat.le_of_ble_eq_true rfl) rfl (sX3_wipe hG hl0 hq3) ?_
  refine am_aload_n dX7_goDark_19 rfl ?_
  refine am_get (v := .inr (l0, 48)) dX7_goDark_20 fl_7_19 (hG.mn hl0 (by decide) (by decide)) rfl ?_
  obtain ⟨q4, hq4, h⟩ := am_bd h
  refine am_callVe (i := l0) (j := 48) (as := []) (rest := []) dX7_goDark_23 lkX4_wipe ml_X7_60 imX4_wipe seX4_wipe rfl rfl (hG.mn hl0 (by decide) (by decide)) rfl (Nat.le_of_ble_eq_true rfl) rfl (sX4_wipe hG hl0 hq4) ?_
  cases h
  exact am_vret dX7_goDark_26 rfl ⟨rfl, rfl⟩
def gX7_goDark (n : Nat) (l0 : Nat) (I : am_I) : Option (am_I) := bX7_goDark_0 n l0 I
theorem sX7_goDark {G : am_G} (hG : am_ok G) {d : Nat} {l0 : Nat} (hl0 : l0 < G.2.2.2.1) {I : am_I} {r : am_I} (h : gX7_goDark G.2.2.2.1 l0 I = some r) : am_C G (d + 3) mX7_goDark [.inr (l0, 40)] I (am_E none r) :=
  am_of (by decide +kernel) hG.nd (Nat.le_of_ble_eq_true rfl) (am_lwJ (lo' := [some (.inr (l0, 40))]) ⟨rfl, trivial⟩ (tX7_goDark_0 hG hl0 h))
def bX5_forget_64 (n : Nat) (k4 : Int32 → Int32 → Int32 → am_I → Option (am_I)) (l1 : Int32) (l2 : Int32) (l3 : Int32) (I : am_I) : Option (am_I) := k4 l1 l2 (l3 + nI 1) I
theorem tX5_forget_64 {G : am_G} (hG : am_ok G) {d : Nat} {k4 : Int32 → Int32 → Int32 → am_I → Option (am_I)} (hk4 : ∀ (l1 : Int32) (l2 : Int32) (l3 : Int32) (I : am_I) (r : am_I), k4 l1 l2 l3 I = some r → am_J G (d + 1) mX5_forget am_no (am_E none r) 4 [some (.inr (0, 9)), some (.inl l1), some (.inl l2), some (.inl l3)] [] I) {l1 : Int32} {l2 : Int32} {l3 : Int32} {I : am_I} {r : am_I} (h : bX5_forget_64 G.2.2.2.1 k4 l1 l2 l3  I = some r) : am_J G (d + 1) mX5_forget am_no (am_E none r) 64 [some (.inr (0, 9)), some (.inl l1), some (.inl l2), some (.inl l3)] [] I := by
  unfold bX5_forget_64 at h
  refine am_iinc (v := l3 + nI 1) dX5_forget_64 rfl rfl ?_
  refine am_goto (tgt := 4) dX5_forget_67 rfl ?_
  exact am_lwJ (lo' := [some (.inr (0, 9)), some (.inl l1), some (.inl l2), some (.inl (l3 + nI 1))]) ⟨rfl, rfl, rfl, rfl, trivial⟩ (hk4 l1 l2 (l3 + nI 1) _ _ h)
def bX5_forget_4 (n : Nat) : Nat → Int32 → Int32 → Int32 → am_I → Option (am_I)
  | 0, _, _, _, _ => none
  | fu + 1, l1, l2, l3, I => (fun k4 => if (I 0 9 3) ≤ l3 then (am_lt (am_up I 0 9 3 l2) (fun I1 => some I1)) else (am_gd (am_inb (l3 * (nI 6)) 768) (if (I 0 11 ((l3 * (nI 6)).toNatClampNeg)) = l1 then (bX5_forget_64 n k4 l1 l2 l3 I) else (am_gd (am_inb ((l3 * (nI 6)) + (nI 1)) 768) (if (I 0 11 (((l3 * (nI 6)) + (nI 1)).toNatClampNeg)) = l1 then (bX5_forget_64 n k4 l1 l2 l3 I) else (am_gd (am_cpb (l3 * (nI 6)) (l2 * (nI 6)) (nI 6) 768 768) (am_lt (am_upf I 0 11 (va_cpy (I 0 11) (I 0 11) (l3 * (nI 6)).toNatClampNeg (l2 * (nI 6)).toNatClampNeg (nI 6).toNatClampNeg)) (fun I5 => bX5_forget_64 n k4 l1 (l2 + nI 1) l3 I5)))))))) (bX5_forget_4 n fu)
theorem tX5_forget_4 {G : am_G} (hG : am_ok G) {d : Nat} : ∀ {fu : Nat} {l1 : Int32} {l2 : Int32} {l3 : Int32} {I : am_I} {r : am_I}, bX5_forget_4 G.2.2.2.1 fu l1 l2 l3 I = some r → am_J G (d + 1) mX5_forget am_no (am_E none r) 4 [some (.inr (0, 9)), some (.inl l1), some (.inl l2), some (.inl l3)] [] I := by
  intro fu
  induction fu with
  | zero => intro l1 l2 l3 I r h; cases h
  | succ fu ih =>
    intro l1 l2 l3 I r h
    have hk4 : ∀ (l1 : Int32) (l2 : Int32) (l3 : Int32) (I : am_I) (r : am_I), bX5_forget_4 G.2.2.2.1 fu l1 l2 l3 I = some r → am_J G (d + 1) mX5_forget am_no (am_E none r) 4 [some (.inr (0, 9)), some (.inl l1), some (.inl l2), some (.inl l3)] [] I := fun l1 l2 l3 I r h => ih h
    unfold bX5_forget_4 at h
    generalize bX5_forget_4 G.2.2.2.1 fu = k4 at hk4 h
    dsimp only at h
    refine am_iload_n dX5_forget_4 rfl ?_
    refine am_aload_n dX5_forget_5 rfl ?_
    refine am_get (v := .inl (I 0 9 3)) dX5_forget_6 fl_5_27 (hG.m0 (by decide)) rfl ?_
    refine am_icmp_ge (tgt := 70) dX5_forget_9 rfl (fun c => ?_) (fun c => ?_)
    · rw [if_pos c] at h
      refine am_aload_n dX5_forget_70 rfl ?_
      refine am_iload_n dX5_forget_71 rfl ?_
      refine am_put (x := l2) dX5_forget_72 fp_5_27 (hG.m0 (by decide)) (Nat.le_of_ble_eq_true rfl) rfl ?_
      obtain ⟨I1, hI1, h⟩ := am_lt_some h
      refine am_st10 hI1 ?_
      cases h
      exact am_vret dX5_forget_75 rfl ⟨rfl, rfl⟩
    · rw [if_neg c] at h
      refine am_aload_n dX5_forget_12 rfl ?_
      refine am_get (v := .inr (0, 11)) dX5_forget_13 fl_5_15 (hG.m0 (by decide)) rfl ?_
      refine am_iload_n dX5_forget_16 rfl ?_
      refine am_bipush (v := nI 6) dX5_forget_17 (by decide) ?_
      refine am_imul dX5_forget_19 ?_
      obtain ⟨g2, h⟩ := am_gd_some h
      refine am_ialdG dX5_forget_20 (hG.m0 (by decide)) rfl g2 (show 768 < 2 ^ 31 by decide) ?_
      refine am_iload_n dX5_forget_21 rfl ?_
      refine am_icmp_eq (tgt := 64) dX5_forget_22 rfl (fun c => ?_) (fun c => ?_)
      · rw [if_pos c] at h
        exact am_lwJ (lo' := [some (.inr (0, 9)), some (.inl l1), some (.inl l2), some (.inl l3)]) ⟨rfl, rfl, rfl, rfl, trivial⟩ (tX5_forget_64 hG hk4 h)
      · rw [if_neg c] at h
        refine am_aload_n dX5_forget_25 rfl ?_
        refine am_get (v := .inr (0, 11)) dX5_forget_26 fl_5_15 (hG.m0 (by decide)) rfl ?_
        refine am_iload_n dX5_forget_29 rfl ?_
        refine am_bipush (v := nI 6) dX5_forget_30 (by decide) ?_
        refine am_imul dX5_forget_32 ?_
        refine am_iconst (v := nI 1) dX5_forget_33 (by decide) ?_
        refine am_iadd dX5_forget_34 ?_
        obtain ⟨g3, h⟩ := am_gd_some h
        refine am_ialdG dX5_forget_35 (hG.m0 (by decide)) rfl g3 (show 768 < 2 ^ 31 by decide) ?_
        refine am_iload_n dX5_forget_36 rfl ?_
        refine am_icmp_eq (tgt := 64) dX5_forget_37 rfl (fun c => ?_) (fun c => ?_)
        · rw [if_pos c] at h
          exact am_lwJ (lo' := [some (.inr (0, 9)), some (.inl l1), some (.inl l2), some (.inl l3)]) ⟨rfl, rfl, rfl, rfl, trivial⟩ (tX5_forget_64 hG hk4 h)
        · rw [if_neg c] at h
          refine am_aload_n dX5_forget_40 rfl ?_
          refine am_get (v := .inr (0, 11)) dX5_forget_41 fl_5_15 (hG.m0 (by decide)) rfl ?_
          refine am_iload_n dX5_forget_44 rfl ?_
          refine am_bipush (v := nI 6) dX5_forget_45 (by decide) ?_
          refine am_imul dX5_forget_47 ?_
          refine am_aload_n dX5_forget_48 rfl ?_
          refine am_get (v := .inr (0, 11)) dX5_forget_49 fl_5_15 (hG.m0 (by decide)) rfl ?_
          refine am_iload_n dX5_forget_52 rfl ?_
          refine am_bipush (v := nI 6) dX5_forget_53 (by decide) ?_
          refine am_imul dX5_forget_55 ?_
          refine am_bipush (v := nI 6) dX5_forget_56 (by decide) ?_
          obtain ⟨g4, h⟩ := am_gd_some h
          refine am_copy (rest := []) dX5_forget_58 ml_X5_37 (hG.m0 (by decide)) (hG.m0 (by decide)) rfl rfl g4 (Nat.le_of_ble_eq_true rfl) ?_
          obtain ⟨I5, hI5, h⟩ := am_lt_some h
          refine am_st10 hI5 ?_
          refine am_iinc (v := l2 + nI 1) dX5_forget_61 rfl rfl ?_
          exact am_lwJ (lo' := [some (.inr (0, 9)), some (.inl l1), some (.inl (l2 + nI 1)), some (.inl l3)]) ⟨rfl, rfl, rfl, rfl, trivial⟩ (tX5_forget_64 hG hk4 h)
def bX5_forget_0 (n : Nat) (l1 : Int32) (I : am_I) : Option (am_I) := bX5_forget_4 n am_fu l1 (nI 0) (nI 0) I
theorem tX5_forget_0 {G : am_G} (hG : am_ok G) {d : Nat} {l1 : Int32} {I : am_I} {r : am_I} (h : bX5_forget_0 G.2.2.2.1 l1  I = some r) : am_J G (d + 1) mX5_forget am_no (am_E none r) 0 [some (.inr (0, 9)), some (.inl l1), none, none] [] I := by
  unfold bX5_forget_0 at h
  refine am_iconst (v := nI 0) dX5_forget_0 (by decide) ?_
  refine am_istore_n dX5_forget_1 (by decide) ?_
  refine am_iconst (v := nI 0) dX5_forget_2 (by decide) ?_
  refine am_istore_n dX5_forget_3 (by decide) ?_
  exact am_lwJ (lo' := [some (.inr (0, 9)), some (.inl l1), some (.inl (nI 0)), some (.inl (nI 0))]) ⟨rfl, rfl, rfl, rfl, trivial⟩ (tX5_forget_4 hG h)
def gX5_forget (n : Nat) (l1 : Int32) (I : am_I) : Option (am_I) := bX5_forget_0 n l1 I
theorem sX5_forget {G : am_G} (hG : am_ok G) {d : Nat} {l1 : Int32} {I : am_I} {r : am_I} (h : gX5_forget G.2.2.2.1 l1 I = some r) : am_C G (d + 1) mX5_forget [.inr (0, 9), .inl l1] I (am_E none r) :=
  am_of (by decide +kernel) hG.nd (Nat.le_of_ble_eq_true rfl) (am_lwJ (lo' := [some (.inr (0, 9)), some (.inl l1), none, none]) ⟨rfl, rfl, trivial⟩ (tX5_forget_0 hG h))
def bX6_wipe_2 (n : Nat) : Nat → Int32 → Int32 → am_I → Option (am_I)
  | 0, _, _, _ => none
  | fu + 1, l1, l2, I => (fun k2 => if (nI 4) ≤ l2 then (am_gd (am_inb l1 136) (am_lt (am_up I 0 8 l1.toNatClampNeg (nI 0)) (fun I2 => some I2))) else (am_gd (am_inb ((l1 * (nI 4)) + l2) 544) (am_lt (am_up I 0 4 ((l1 * (nI 4)) + l2).toNatClampNeg (nI 0)) (fun I4 => am_gd (am_inb ((l1 * (nI 4)) + l2) 544) (am_lt (am_up I4 0 5 ((l1 * (nI 4)) + l2).toNatClampNeg (-1 : Int32)) (fun I6 => k2 l1 (l2 + nI 1) I6)))))) (bX6_wipe_2 n fu)
theorem tX6_wipe_2 {G : am_G} (hG : am_ok G) {d : Nat} : ∀ {fu : Nat} {l1 : Int32} {l2 : Int32} {I : am_I} {r : am_I}, bX6_wipe_2 G.2.2.2.1 fu l1 l2 I = some r → am_J G d mX6_wipe am_no (am_E none r) 2 [some (.inr (0, 3)), some (.inl l1), some (.inl l2)] [] I := by
  intro fu
  induction fu with
  | zero => intro l1 l2 I r h; cases h
  | succ fu ih =>
    intro l1 l2 I r h
    have hk2 : ∀ (l1 : Int32) (l2 : Int32) (I : am_I) (r : am_I), bX6_wipe_2 G.2.2.2.1 fu l1 l2 I = some r → am_J G d mX6_wipe am_no (am_E none r) 2 [some (.inr (0, 3)), some (.inl l1), some (.inl l2)] [] I := fun l1 l2 I r h => ih h
    unfold bX6_wipe_2 at h
    generalize bX6_wipe_2 G.2.2.2.1 fu = k2 at hk2 h
    dsimp only at h
    refine am_iload_n dX6_wipe_2 rfl ?_
    refine am_iconst (v := nI 4) dX6_wipe_3 (by decide) ?_
    refine am_icmp_ge (tgt := 35) dX6_wipe_4 rfl (fun c => ?_) (fun c => ?_)
    · rw [if_pos c] at h
      refine am_aload_n dX6_wipe_35 rfl ?_
      refine am_get (v := .inr (0, 8)) dX6_wipe_36 fl_6_24 (hG.m0 (by decide)) rfl ?_
      refine am_iload_n dX6_wipe_39 rfl ?_
      refine am_iconst (v := nI 0) dX6_wipe_40 (by decide) ?_
      obtain ⟨g1, h⟩ := am_gd_some h
      refine am_iastG dX6_wipe_41 (hG.m0 (by decide)) rfl g1 (show 136 < 2 ^ 31 by decide) ?_
      obtain ⟨I2, hI2, h⟩ := am_lt_some h
      refine am_st10 hI2 ?_
      cases h
      exact am_vret dX6_wipe_42 rfl ⟨rfl, rfl⟩
    · rw [if_neg c] at h
      refine am_aload_n dX6_wipe_7 rfl ?_
      refine am_get (v := .inr (0, 4)) dX6_wipe_8 fl_6_9 (hG.m0 (by decide)) rfl ?_
      refine am_iload_n dX6_wipe_11 rfl ?_
      refine am_iconst (v := nI 4) dX6_wipe_12 (by decide) ?_
      refine am_imul dX6_wipe_13 ?_
      refine am_iload_n dX6_wipe_14 rfl ?_
      refine am_iadd dX6_wipe_15 ?_
      refine am_iconst (v := nI 0) dX6_wipe_16 (by decide) ?_
      obtain ⟨g3, h⟩ := am_gd_some h
      refine am_iastG dX6_wipe_17 (hG.m0 (by decide)) rfl g3 (show 544 < 2 ^ 31 by decide) ?_
      obtain ⟨I4, hI4, h⟩ := am_lt_some h
      refine am_st10 hI4 ?_
      refine am_aload_n dX6_wipe_18 rfl ?_
      refine am_get (v := .inr (0, 5)) dX6_wipe_19 fl_6_15 (hG.m0 (by decide)) rfl ?_
      refine am_iload_n dX6_wipe_22 rfl ?_
      refine am_iconst (v := nI 4) dX6_wipe_23 (by decide) ?_
      refine am_imul dX6_wipe_24 ?_
      refine am_iload_n dX6_wipe_25 rfl ?_
      refine am_iadd dX6_wipe_26 ?_
      refine am_iconst (v := (-1 : Int32)) dX6_wipe_27 (by decide) ?_
      obtain ⟨g5, h⟩ := am_gd_some h
      refine am_iastG dX6_wipe_28 (hG.m0 (by decide)) rfl g5 (show 544 < 2 ^ 31 by decide) ?_
      obtain ⟨I6, hI6, h⟩ := am_lt_some h
      refine am_st10 hI6 ?_
      refine am_iinc (v := l2 + nI 1) dX6_wipe_29 rfl rfl ?_
      refine am_goto (tgt := 2) dX6_wipe_32 rfl ?_
      exact am_lwJ (lo' := [some (.inr (0, 3)), some (.inl l1), some (.inl (l2 + nI 1))]) ⟨rfl, rfl, rfl, trivial⟩ (hk2 l1 (l2 + nI 1) _ _ h)
def bX6_wipe_0 (n : Nat) (l1 : Int32) (I : am_I) : Option (am_I) := bX6_wipe_2 n am_fu l1 (nI 0) I
theorem tX6_wipe_0 {G : am_G} (hG : am_ok G) {d : Nat} {l1 : Int32} {I : am_I} {r : am_I} (h : bX6_wipe_0 G.2.2.2.1 l1  I = some r) : am_J G d mX6_wipe am_no (am_E none r) 0 [some (.inr (0, 3)), some (.inl l1), none] [] I := by
  unfold bX6_wipe_0 at h
  refine am_iconst (v := nI 0) dX6_wipe_0 (by decide) ?_
  refine am_istore_n dX6_wipe_1 (by decide) ?_
  exact am_lwJ (lo' := [some (.inr (0, 3)), some (.inl l1), some (.inl (nI 0))]) ⟨rfl, rfl, rfl, trivial⟩ (tX6_wipe_2 hG h)
def gX6_wipe (n : Nat) (l1 : Int32) (I : am_I) : Option (am_I) := bX6_wipe_0 n l1 I
theorem sX6_wipe {G : am_G} (hG : am_ok G) {d : Nat} {l1 : Int32} {I : am_I} {r : am_I} (h : gX6_wipe G.2.2.2.1 l1 I = some r) : am_C G d mX6_wipe [.inr (0, 3), .inl l1] I (am_E none r) :=
  am_of (by decide +kernel) hG.nd (Nat.le_of_ble_eq_true rfl) (am_lwJ (lo' := [some (.inr (0, 3)), some (.inl l1), none]) ⟨rfl, rfl, trivial⟩ (tX6_wipe_0 hG h))
