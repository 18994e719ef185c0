def bX11_meets_44 (n : Nat) (l1 : Int32) (l2 : Int32) (I : am_I) : Option (Int32 × am_I) := am_lt (am_up I 0 60 52 l1) (fun I1 => am_lt (am_up I1 0 60 53 l2) (fun I2 => some (nI 0, I2)))
theorem tX11_meets_44 {G : am_G} (hG : am_okM G) {d : Nat} {l1 : Int32} {l2 : Int32} {I : am_I} {r : Int32 × am_I} (h : bX11_meets_44 G.2.2.2.1 l1 l2  I = some r) : am_J G (d + 1) mX11_meets am_no (am_E (some r.1) r.2) 44 [some (.inr (0, 60)), some (.inl l1), some (.inl l2)] [] I := by
  unfold bX11_meets_44 at h
  refine am_aload_n dX11_meets_44 rfl ?_
  refine am_iload_n dX11_meets_45 rfl ?_
  refine am_put (x := l1) dX11_meets_46 fp_11_295 (hG.m0 (by decide)) (Nat.le_of_ble_eq_true rfl) rfl ?_
  obtain ⟨I1, hI1, h⟩ := am_lt_some h
  refine am_st10 hI1 ?_
  refine am_aload_n dX11_meets_49 rfl ?_
  refine am_iload_n dX11_meets_50 rfl ?_
  refine am_put (x := l2) dX11_meets_51 fp_11_301 (hG.m0 (by decide)) (Nat.le_of_ble_eq_true rfl) rfl ?_
  obtain ⟨I2, hI2, h⟩ := am_lt_some h
  refine am_st10 hI2 ?_
  refine am_iconst (v := nI 0) dX11_meets_54 (by decide) ?_
  cases h
  exact am_iret dX11_meets_55 rfl (am_nz (by decide)).1 ⟨rfl, rfl⟩
def bX11_meets_0 (n : Nat) (l1 : Int32) (l2 : Int32) (I : am_I) : Option (Int32 × am_I) := (gX11_isOver n I).bind (fun q1 => if q1.1 = 0 then ((gX11_at n (q1.2 0 60 51) l1 q1.2).bind (fun q2 => am_gd (am_inb q2.1 544) (if (q2.2 0 79 q2.1.toNatClampNeg) = 0 then (bX11_meets_44 n l1 l2 q2.2) else ((gX11_at n (q2.2 0 60 51) l1 q2.2).bind (fun q4 => am_gd (am_inb q4.1 544) (if (q4.2 0 76 q4.1.toNatClampNeg) < l2 then (bX11_meets_44 n l1 l2 q4.2) else (some (nI 1, q4.2)))))))) else (some (nI 0, q1.2)))
theorem tX11_meets_0 {G : am_G} (hG : am_okM G) {d : Nat} {l1 : Int32} {l2 : Int32} {I : am_I} {r : Int32 × am_I} (h : bX11_meets_0 G.2.2.2.1 l1 l2  I = some r) : am_J G (d + 1) mX11_meets am_no (am_E (some r.1) r.2) 0 [some (.inr (0, 60)), some (.inl l1), some (.inl l2)] [] I := by
  unfold bX11_meets_0 at h
  refine am_aload_n dX11_meets_0 rfl ?_
  obtain ⟨q1, hq1, h⟩ := am_bd h
  refine am_callVx (i := 0) (j := 60) (as := []) (rest := []) dX11_meets_1 lkX11_isOver ml_X11_322 imX11_isOver seX11_isOver rfl rfl (hG.m0 (by decide)) rfl (Nat.le_of_ble_eq_true rfl) rfl (sX11_isOver hG hq1) ?_
  refine am_if_eq (tgt := 9) dX11_meets_4 rfl (fun c => ?_) (fun c => ?_)
  · rw [if_pos c] at h
    refine am_aload_n dX11_meets_9 rfl ?_
    refine am_get (v := .inr (0, 79)) dX11_meets_10 fl_11_57 (hG.m0 (by decide)) rfl ?_
    refine am_aload_n dX11_meets_13 rfl ?_
    refine am_get (v := .inl (q1.2 0 60 51)) dX11_meets_14 fl_11_319 (hG.m0 (by decide)) rfl ?_
    refine am_iload_n dX11_meets_17 rfl ?_
    obtain ⟨q2, hq2, h⟩ := am_bd h
    refine am_callSx (as := [.inl (q1.2 0 60 51), .inl l1]) (rest := [.inr (0, 79)]) dX11_meets_18 lkX11_at ml_X11_208 isX11_at rfl (Nat.le_of_ble_eq_true rfl) rfl (sX11_at hG hq2) ?_
    obtain ⟨g3, h⟩ := am_gd_some h
    refine am_zaldG dX11_meets_21 (hG.m0 (by decide)) rfl g3 (show 544 < 2 ^ 31 by decide) ?_
    refine am_if_eq (tgt := 44) dX11_meets_22 rfl (fun c => ?_) (fun c => ?_)
    · rw [if_pos c] at h
      exact am_lwJ (lo' := [some (.inr (0, 60)), some (.inl l1), some (.inl l2)]) ⟨rfl, rfl, rfl, trivial⟩ (tX11_meets_44 hG h)
    · rw [if_neg c] at h
      refine am_aload_n dX11_meets_25 rfl ?_
      refine am_get (v := .inr (0, 76)) dX11_meets_26 fl_11_48 (hG.m0 (by decide)) rfl ?_
      refine am_aload_n dX11_meets_29 rfl ?_
      refine am_get (v := .inl (q2.2 0 60 51)) dX11_meets_30 fl_11_319 (hG.m0 (by decide)) rfl ?_
      refine am_iload_n dX11_meets_33 rfl ?_
      obtain ⟨q4, hq4, h⟩ := am_bd h
      refine am_callSx (as := [.inl (q2.2 0 60 51), .inl l1]) (rest := [.inr (0, 76)]) dX11_meets_34 lkX11_at ml_X11_208 isX11_at rfl (Nat.le_of_ble_eq_true rfl) rfl (sX11_at hG hq4) ?_
      obtain ⟨g5, h⟩ := am_gd_some h
      refine am_ialdG dX11_meets_37 (hG.m0 (by decide)) rfl g5 (show 544 < 2 ^ 31 by decide) ?_
      refine am_iload_n dX11_meets_38 rfl ?_
      refine am_icmp_lt (tgt := 44) dX11_meets_39 rfl (fun c => ?_) (fun c => ?_)
      · rw [if_pos c] at h
        exact am_lwJ (lo' := [some (.inr (0, 60)), some (.inl l1), some (.inl l2)]) ⟨rfl, rfl, rfl, trivial⟩ (tX11_meets_44 hG h)
      · rw [if_neg c] at h
        refine am_iconst (v := nI 1) dX11_meets_42 (by decide) ?_
        cases h
        exact am_iret dX11_meets_43 rfl (am_nz (by decide)).1 ⟨rfl, rfl⟩
  · rw [if_neg c] at h
    refine am_iconst (v := nI 0) dX11_meets_7 (by decide) ?_
    cases h
    exact am_iret dX11_meets_8 rfl (am_nz (by decide)).1 ⟨rfl, rfl⟩
def gX11_meets (n : Nat) (l1 : Int32) (l2 : Int32) (I : am_I) : Option (Int32 × am_I) := bX11_meets_0 n l1 l2 I
theorem sX11_meets {G : am_G} (hG : am_okM G) {d : Nat} {l1 : Int32} {l2 : Int32} {I : am_I} {r : Int32 × am_I} (h : gX11_meets G.2.2.2.1 l1 l2 I = some r) : am_C G (d + 1) mX11_meets [.inr (0, 60), .inl l1, .inl l2] I (am_E (some r.1) r.2) :=
  am_of (by decide +kernel) hG.nd (Nat.le_of_ble_eq_true rfl) (am_lwJ (lo' := [some (.inr (0, 60)), some (.inl l1), some (.inl l2)]) ⟨rfl, rfl, rfl, trivial⟩ (tX11_meets_0 hG h))
def bX11_fetch_37 (n : Nat) : Nat → Int32 → Int32 → am_I → Option (am_I)
  | 0, _, _, _ => none
  | fu + 1, l1, l2, I => (fun k37 => if (nI 16) ≤ l2 then (some I) else (am_gd (am_inb (((nI 16) * l1) + l2) 10240) (am_gd (am_inb (((nI 16) * (((nI 640) * (I 0 60 51)) + l1)) + l2) 40960) (am_lt (am_up I 0 67 (((nI 16) * (((nI 640) * (I 0 60 51)) + l1)) + l2).toNatClampNeg (I 0 64 ((((nI 16) * l1) + l2).toNatClampNeg))) (fun I3 => k37 l1 (l2 + nI 1) I3))))) (bX11_fetch_37 n fu)
theorem tX11_fetch_37 {G : am_G} (hG : am_okM G) {d : Nat} : ∀ {fu : Nat} {l1 : Int32} {l2 : Int32} {I : am_I} {r : am_I}, bX11_fetch_37 G.2.2.2.1 fu l1 l2 I = some r → am_J G d mX11_fetch am_no (am_E none r) 37 [some (.inr (0, 60)), some (.inl l1), some (.inl l2)] [] I := by
  intro fu
  induction fu with
  | zero => intro l1 l2 I r h; cases h
  | succ fu ih =>
    intro l1 l2 I r h
    have hk37 : ∀ (l1 : Int32) (l2 : Int32) (I : am_I) (r : am_I), bX11_fetch_37 G.2.2.2.1 fu l1 l2 I = some r → am_J G d mX11_fetch am_no (am_E none r) 37 [some (.inr (0, 60)), some (.inl l1), some (.inl l2)] [] I := fun l1 l2 I r h => ih h
    unfold bX11_fetch_37 at h
    generalize bX11_fetch_37 G.2.2.2.1 fu = k37 at hk37 h
    dsimp only at h
    refine am_iload_n dX11_fetch_37 rfl ?_
    refine am_bipush (v := nI 16) dX11_fetch_38 (by decide) ?_
    refine am_icmp_ge (tgt := 80) dX11_fetch_40 rfl (fun c => ?_) (fun c => ?_)
    · rw [if_pos c] at h
      cases h
      exact am_vret dX11_fetch_80 rfl ⟨rfl, rfl⟩
    · rw [if_neg c] at h
      refine am_aload_n dX11_fetch_43 rfl ?_
      refine am_get (v := .inr (0, 67)) dX11_fetch_44 fl_11_21 (hG.m0 (by decide)) rfl ?_
      refine am_bipush (v := nI 16) dX11_fetch_47 (by decide) ?_
      refine am_sipush (v := nI 640) dX11_fetch_49 (by decide) ?_
      refine am_aload_n dX11_fetch_52 rfl ?_
      refine am_get (v := .inl (I 0 60 51)) dX11_fetch_53 fl_11_319 (hG.m0 (by decide)) rfl ?_
      refine am_imul dX11_fetch_56 ?_
      refine am_iload_n dX11_fetch_57 rfl ?_
      refine am_iadd dX11_fetch_58 ?_
      refine am_imul dX11_fetch_59 ?_
      refine am_iload_n dX11_fetch_60 rfl ?_
      refine am_iadd dX11_fetch_61 ?_
      refine am_aload_n dX11_fetch_62 rfl ?_
      refine am_get (v := .inr (0, 64)) dX11_fetch_63 fl_11_7 (hG.m0 (by decide)) rfl ?_
      refine am_bipush (v := nI 16) dX11_fetch_66 (by decide) ?_
      refine am_iload_n dX11_fetch_68 rfl ?_
      refine am_imul dX11_fetch_69 ?_
      refine am_iload_n dX11_fetch_70 rfl ?_
      refine am_iadd dX11_fetch_71 ?_
      obtain ⟨g1, h⟩ := am_gd_some h
      refine am_ialdG dX11_fetch_72 (hG.m0 (by decide)) rfl g1 (show 10240 < 2 ^ 31 by decide) ?_
      obtain ⟨g2, h⟩ := am_gd_some h
      refine am_iastG dX11_fetch_73 (hG.m0 (by decide)) rfl g2 (show 40960 < 2 ^ 31 by decide) ?_
      obtain ⟨I3, hI3, h⟩ := am_lt_some h
      refine am_st10 hI3 ?_
      refine am_iinc (v := l2 + nI 1) dX11_fetch_74 rfl rfl ?_
      refine am_goto (tgt := 37) dX11_fetch_77 rfl ?_
      exact am_lwJ (lo' := [some (.inr (0, 60)), some (.inl l1), some (.inl (l2 + nI 1))]) ⟨rfl, rfl, rfl, trivial⟩ (hk37 l1 (l2 + nI 1) _ _ h)
def bX11_fetch_0 (n : Nat) (l1 : Int32) (I : am_I) : Option (am_I) := am_gd (am_inb (((nI 640) * (I 0 60 51)) + l1) 2560) (if (I 0 68 ((((nI 640) * (I 0 60 51)) + l1).toNatClampNeg)) = 0 then (am_gd (am_inb (((nI 640) * (I 0 60 51)) + l1) 2560) (am_lt (am_up I 0 68 (((nI 640) * (I 0 60 51)) + l1).toNatClampNeg (nI 1)) (fun I3 => bX11_fetch_37 n am_fu l1 (nI 0) I3))) else (some I))
theorem tX11_fetch_0 {G : am_G} (hG : am_okM G) {d : Nat} {l1 : Int32} {I : am_I} {r : am_I} (h : bX11_fetch_0 G.2.2.2.1 l1  I = some r) : am_J G d mX11_fetch am_no (am_E none r) 0 [some (.inr (0, 60)), some (.inl l1), none] [] I := by
  unfold bX11_fetch_0 at h
  refine am_aload_n dX11_fetch_0 rfl ?_
  refine am_get (v := .inr (0, 68)) dX11_fetch_1 fl_11_24 (hG.m0 (by decide)) rfl ?_
  refine am_sipush (v := nI 640) dX11_fetch_4 (by decide) ?_
  refine am_aload_n dX11_fetch_7 rfl ?_
  refine am_get (v := .inl (I 0 60 51)) dX11_fetch_8 fl_11_319 (hG.m0 (by decide)) rfl ?_
  refine am_imul dX11_fetch_11 ?_
  refine am_iload_n dX11_fetch_12 rfl ?_
  refine am_iadd dX11_fetch_13 ?_
  obtain ⟨g1, h⟩ := am_gd_some h
  refine am_zaldG dX11_fetch_14 (hG.m0 (by decide)) rfl g1 (show 2560 < 2 ^ 31 by decide) ?_
  refine am_if_eq (tgt := 19) dX11_fetch_15 rfl (fun c => ?_) (fun c => ?_)
  · rw [if_pos c] at h
    refine am_aload_n dX11_fetch_19 rfl ?_
    refine am_get (v := .inr (0, 68)) dX11_fetch_20 fl_11_24 (hG.m0 (by decide)) rfl ?_
    refine am_sipush (v := nI 640) dX11_fetch_23 (by decide) ?_
    refine am_aload_n dX11_fetch_26 rfl ?_
    refine am_get (v := .inl (I 0 60 51)) dX11_fetch_27 fl_11_319 (hG.m0 (by decide)) rfl ?_
    refine am_imul dX11_fetch_30 ?_
    refine am_iload_n dX11_fetch_31 rfl ?_
    refine am_iadd dX11_fetch_32 ?_
    refine am_iconst (v := nI 1) dX11_fetch_33 (by decide) ?_
    obtain ⟨g2, h⟩ := am_gd_some h
    refine am_zastG dX11_fetch_34 (hG.m0 (by decide)) rfl (by decide) g2 (show 2560 < 2 ^ 31 by decide) ?_
    obtain ⟨I3, hI3, h⟩ := am_lt_some h
    refine am_st10 hI3 ?_
    refine am_iconst (v := nI 0) dX11_fetch_35 (by decide) ?_
    refine am_istore_n dX11_fetch_36 (by decide) ?_
    exact am_lwJ (lo' := [some (.inr (0, 60)), some (.inl l1), some (.inl (nI 0))]) ⟨rfl, rfl, rfl, trivial⟩ (tX11_fetch_37 hG h)
  · rw [if_neg c] at h
    cases h
    exact am_vret dX11_fetch_18 rfl ⟨rfl, rfl⟩
def gX11_fetch (n : Nat) (l1 : Int32) (I : am_I) : Option (am_I) := bX11_fetch_0 n l1 I
theorem sX11_fetch {G : am_G} (hG : am_okM G) {d : Nat} {l1 : Int32} {I : am_I} {r : am_I} (h : gX11_fetch G.2.2.2.1 l1 I = some r) : am_C G d mX11_fetch [.inr (0, 60), .inl l1] I (am_E none r) :=
  am_of (by decide +kernel) hG.nd (Nat.le_of_ble_eq_true rfl) (am_lwJ (lo' := [some (.inr (0, 60)), some (.inl l1), none]) ⟨rfl, rfl, trivial⟩ (tX11_fetch_0 hG h))
def bX11_get_0 (n : Nat) (l1 : Int32) (l2 : Int32) (I : am_I) : Option (Int32 × am_I) := (gX11_fetch n l1 I).bind (fun q1 => am_gd (am_inb (((nI 16) * (((nI 640) * (q1 0 60 51)) + l1)) + l2) 40960) (some (q1 0 67 ((((nI 16) * (((nI 640) * (q1 0 60 51)) + l1)) + l2).toNatClampNeg), q1)))
theorem tX11_get_0 {G : am_G} (hG : am_okM G) {d : Nat} {l1 : Int32} {l2 : Int32} {I : am_I} {r : Int32 × am_I} (h : bX11_get_0 G.2.2.2.1 l1 l2  I = some r) : am_J G (d + 1) mX11_get am_no (am_E (some r.1) r.2) 0 [some (.inr (0, 60)), some (.inl l1), some (.inl l2)] [] I := by
  unfold bX11_get_0 at h
  refine am_aload_n dX11_get_0 rfl ?_
  refine am_iload_n dX11_get_1 rfl ?_
  obtain ⟨q1, hq1, h⟩ := am_bd h
  refine am_callVe (i := 0) (j := 60) (as := [.inl l1]) (rest := []) dX11_get_2 lkX11_fetch ml_X11_326 imX11_fetch seX11_fetch rfl rfl (hG.m0 (by decide)) rfl (Nat.le_of_ble_eq_true rfl) rfl (sX11_fetch hG hq1) ?_
  refine am_aload_n dX11_get_5 rfl ?_
  refine am_get (v := .inr (0, 67)) dX11_get_6 fl_11_21 (hG.m0 (by decide)) rfl ?_
  refine am_bipush (v := nI 16) dX11_get_9 (by decide) ?_
  refine am_sipush (v := nI 640) dX11_get_11 (by decide) ?_
  refine am_aload_n dX11_get_14 rfl ?_
  refine am_get (v := .inl (q1 0 60 51)) dX11_get_15 fl_11_319 (hG.m0 (by decide)) rfl ?_
  refine am_imul dX11_get_18 ?_
  refine am_iload_n dX11_get_19 rfl ?_
  refine am_iadd dX11_get_20 ?_
  refine am_imul dX11_get_21 ?_
  refine am_iload_n dX11_get_22 rfl ?_
  refine am_iadd dX11_get_23 ?_
  obtain ⟨g2, h⟩ := am_gd_some h
  refine am_ialdG dX11_get_24 (hG.m0 (by decide)) rfl g2 (show 40960 < 2 ^ 31 by decide) ?_
  cases h
  exact am_iret dX11_get_25 rfl rfl ⟨rfl, rfl⟩
def gX11_get (n : Nat) (l1 : Int32) (l2 : Int32) (I : am_I) : Option (Int32 × am_I) := bX11_get_0 n l1 l2 I
theorem sX11_get {G : am_G} (hG : am_okM G) {d : Nat} {l1 : Int32} {l2 : Int32} {I : am_I} {r : Int32 × am_I} (h : gX11_get G.2.2.2.1 l1 l2 I = some r) : am_C G (d + 1) mX11_get [.inr (0, 60), .inl l1, .inl l2] I (am_E (some r.1) r.2) :=
  am_of (by decide +kernel) hG.nd (Nat.le_of_ble_eq_true rfl) (am_lwJ (lo' := [some (.inr (0, 60)), some (.inl l1), some (.inl l2)]) ⟨rfl, rfl, rfl, trivial⟩ (tX11_get_0 hG h))
def bX11_ofInode_0 (n : Nat) (l1 : Int32) (l2 : Int32) (I : am_I) : Option (Int32 × am_I) := (gX11_inodeBlock n l1 I).bind (fun q1 => (gX11_get n q1.1 l2 q1.2).bind (fun q2 => some (q2.1, q2.2)))
theorem tX11_ofInode_0 {G : am_G} (hG : am_okM G) {d : Nat} {l1 : Int32} {l2 : Int32} {I : am_I} {r : Int32 × am_I} (h : bX11_ofInode_0 G.2.2.2.1 l1 l2  I = some r) : am_J G (d + 2) mX11_ofInode am_no (am_E (some r.1) r.2) 0 [some (.inr (0, 60)), some (.inl l1), some (.inl l2)] [] I := by
  unfold bX11_ofInode_0 at h
  refine am_aload_n dX11_ofInode_0 rfl ?_
  refine am_iload_n dX11_ofInode_1 rfl ?_
  obtain ⟨q1, hq1, h⟩ := am_bd h
  refine am_callSx (as := [.inl l1]) (rest := [.inr (0, 60)]) dX11_ofInode_2 lkX11_inodeBlock ml_X11_185 isX11_inodeBlock rfl (Nat.le_of_ble_eq_true rfl) rfl (sX11_inodeBlock hG hq1) ?_
  refine am_iload_n dX11_ofInode_5 rfl ?_
  obtain ⟨q2, hq2, h⟩ := am_bd h
  refine am_callVx (i := 0) (j := 60) (as := [.inl q1.1, .inl l2]) (rest := []) dX11_ofInode_6 lkX11_get ml_X11_332 imX11_get seX11_get rfl rfl (hG.m0 (by decide)) rfl (Nat.le_of_ble_eq_true rfl) rfl (sX11_get hG hq2) ?_
  cases h
  exact am_iret dX11_ofInode_9 rfl rfl ⟨rfl, rfl⟩
def gX11_ofInode (n : Nat) (l1 : Int32) (l2 : Int32) (I : am_I) : Option (Int32 × am_I) := bX11_ofInode_0 n l1 l2 I
theorem sX11_ofInode {G : am_G} (hG : am_okM G) {d : Nat} {l1 : Int32} {l2 : Int32} {I : am_I} {r : Int32 × am_I} (h : gX11_ofInode G.2.2.2.1 l1 l2 I = some r) : am_C G (d + 2) mX11_ofInode [.inr (0, 60), .inl l1, .inl l2] I (am_E (some r.1) r.2) :=
  am_of (by decide +kernel) hG.nd (Nat.le_of_ble_eq_true rfl) (am_lwJ (lo' := [some (.inr (0, 60)), some (.inl l1), some (.inl l2)]) ⟨rfl, rfl, rfl, trivial⟩ (tX11_ofInode_0 hG h))
def bX11_fail_12 (n : Nat) (I : am_I) : Option (am_I) := some I
theorem tX11_fail_12 {G : am_G} (hG : am_okM G) {d : Nat} {I : am_I} {r : am_I} (h : bX11_fail_12 G.2.2.2.1  I = some r) : am_J G (d + 1) mX11_fail am_no (am_E none r) 12 [none, none] [] I := by
  unfold bX11_fail_12 at h
  cases h
  exact am_vret dX11_fail_12 rfl ⟨rfl, rfl⟩
def bX11_fail_0 (n : Nat) (l1 : Int32) (I : am_I) : Option (am_I) := (gX11_isOver n I).bind (fun q1 => if q1.1 = 0 then (am_lt (am_up q1.2 0 60 54 l1) (fun I2 => bX11_fail_12 n I2)) else (bX11_fail_12 n q1.2))
theorem tX11_fail_0 {G : am_G} (hG : am_okM G) {d : Nat} {l1 : Int32} {I : am_I} {r : am_I} (h : bX11_fail_0 G.2.2.2.1 l1  I = some r) : am_J G (d + 1) mX11_fail am_no (am_E none r) 0 [some (.inr (0, 60)), some (.inl l1)] [] I := by
  unfold bX11_fail_0 at h
  refine am_aload_n dX11_fail_0 rfl ?_
  obtain ⟨q1, hq1, h⟩ := am_bd h
  refine am_callVx (i := 0) (j := 60) (as := []) (rest := []) dX11_fail_1 lkX11_isOver ml_X11_322 imX11_isOver seX11_isOver rfl rfl (hG.m0 (by decide)) rfl (Nat.le_of_ble_eq_true rfl) rfl (sX11_isOver hG hq1) ?_
  refine am_if_ne (tgt := 12) dX11_fail_4 rfl (fun c => ?_) (fun c => ?_)
  · rw [if_neg c] at h
    exact am_lwJ (lo' := [none, none]) trivial (tX11_fail_12 hG h)
  · rw [if_pos c] at h
    refine am_aload_n dX11_fail_7 rfl ?_
    refine am_iload_n dX11_fail_8 rfl ?_
    refine am_put (x := l1) dX11_fail_9 fp_11_304 (hG.m0 (by decide)) (Nat.le_of_ble_eq_true rfl) rfl ?_
    obtain ⟨I2, hI2, h⟩ := am_lt_some h
    refine am_st10 hI2 ?_
    exact am_lwJ (lo' := [none, none]) trivial (tX11_fail_12 hG h)
def gX11_fail (n : Nat) (l1 : Int32) (I : am_I) : Option (am_I) := bX11_fail_0 n l1 I
theorem sX11_fail {G : am_G} (hG : am_okM G) {d : Nat} {l1 : Int32} {I : am_I} {r : am_I} (h : gX11_fail G.2.2.2.1 l1 I = some r) : am_C G (d + 1) mX11_fail [.inr (0, 60), .inl l1] I (am_E none r) :=
  am_of (by decide +kernel) hG.nd (Nat.le_of_ble_eq_true rfl) (am_lwJ (lo' := [some (.inr (0, 60)), some (.inl l1)]) ⟨rfl, rfl, trivial⟩ (tX11_fail_0 hG h))
def bX11_isOf_39 (n : Nat) (s0 : Int32) (I : am_I) : Option (Int32 × am_I) := am_gd (am_01 s0) (some (s0, I))
theorem tX11_isOf_39 {G : am_G} (hG : am_okM G) {d : Nat} {s0 : Int32} {I : am_I} {r : Int32 × am_I} (h : bX11_isOf_39 G.2.2.2.1 s0  I = some r) : am_J G (d + 3) mX11_isOf am_no (am_E (some r.1) r.2) 39 [none, none, none, none, none] [.inl s0] I := by
  unfold bX11_isOf_39 at h
  obtain ⟨g1, h⟩ := am_gd_some h
  cases h
  exact am_iret dX11_isOf_39 rfl (am_nz (am_01_of g1)).1 ⟨rfl, rfl⟩
def bX11_isOf_27 (n : Nat) (I : am_I) : Option (Int32 × am_I) := (gX11_isOver n I).bind (fun q1 => if q1.1 = 0 then (bX11_isOf_39 n (nI 1) q1.2) else (bX11_isOf_39 n (nI 0) q1.2))
theorem tX11_isOf_27 {G : am_G} (hG : am_okM G) {d : Nat} {I : am_I} {r : Int32 × am_I} (h : bX11_isOf_27 G.2.2.2.1  I = some r) : am_J G (d + 3) mX11_isOf am_no (am_E (some r.1) r.2) 27 [some (.inr (0, 60)), none, none, none, none] [] I := by
  unfold bX11_isOf_27 at h
  refine am_aload_n dX11_isOf_27 rfl ?_
  obtain ⟨q1, hq1, h⟩ := am_bd h
  refine am_callVx (i := 0) (j := 60) (as := []) (rest := []) dX11_isOf_28 lkX11_isOver ml_X11_322 imX11_isOver seX11_isOver rfl rfl (hG.m0 (by decide)) rfl (Nat.le_of_ble_eq_true rfl) rfl (sX11_isOver hG hq1) ?_
  refine am_if_ne (tgt := 38) dX11_isOf_31 rfl (fun c => ?_) (fun c => ?_)
  · rw [if_neg c] at h
    refine am_iconst (v := nI 0) dX11_isOf_38 (by decide) ?_
    exact am_lwJ (lo' := [none, none, none, none, none]) trivial (tX11_isOf_39 hG h)
  · rw [if_pos c] at h
    refine am_iconst (v := nI 1) dX11_isOf_34 (by decide) ?_
    refine am_goto (tgt := 39) dX11_isOf_35 rfl ?_
    exact am_lwJ (lo' := [none, none, none, none, none]) trivial (tX11_isOf_39 hG h)
def bX11_isOf_0 (n : Nat) (l1 : Int32) (l2 : Int32) (l3 : Int32) (l4 : Int32) (I : am_I) : Option (Int32 × am_I) := (gX11_meets n l1 l2 I).bind (fun q1 => if q1.1 = 0 then (some (nI 0, q1.2)) else ((gX11_ofInode n l1 (nI 0) q1.2).bind (fun q2 => if q2.1 = l3 then (bX11_isOf_27 n q2.2) else ((gX11_fail n l4 q2.2).bind (fun q3 => bX11_isOf_27 n q3)))))
theorem tX11_isOf_0 {G : am_G} (hG : am_okM G) {d : Nat} {l1 : Int32} {l2 : Int32} {l3 : Int32} {l4 : Int32} {I : am_I} {r : Int32 × am_I} (h : bX11_isOf_0 G.2.2.2.1 l1 l2 l3 l4  I = some r) : am_J G (d + 3) mX11_isOf am_no (am_E (some r.1) r.2) 0 [some (.inr (0, 60)), some (.inl l1), some (.inl l2), some (.inl l3), some (.inl l4)] [] I := by
  unfold bX11_isOf_0 at h
  refine am_aload_n dX11_isOf_0 rfl ?_
  refine am_iload_n dX11_isOf_1 rfl ?_
  refine am_iload_n dX11_isOf_2 rfl ?_
  obtain ⟨q1, hq1, h⟩ := am_bd h
  refine am_callVx (i := 0) (j := 60) (as := [.inl l1, .inl l2]) (rest := []) dX11_isOf_3 lkX11_meets ml_X11_338 imX11_meets seX11_meets rfl rfl (hG.m0 (by decide)) rfl (Nat.le_of_ble_eq_true rfl) rfl (sX11_meets hG hq1) ?_
  refine am_if_ne (tgt := 11) dX11_isOf_6 rfl (fun c => ?_) (fun c => ?_)
  · rw [if_neg c] at h
    refine am_aload_n dX11_isOf_11 rfl ?_
    refine am_iload_n dX11_isOf_12 rfl ?_
    refine am_iconst (v := nI 0) dX11_isOf_13 (by decide) ?_
    obtain ⟨q2, hq2, h⟩ := am_bd h
    refine am_callVx (i := 0) (j := 60) (as := [.inl l1, .inl (nI 0)]) (rest := []) dX11_isOf_14 lkX11_ofInode ml_X11_351 imX11_ofInode seX11_ofInode rfl rfl (hG.m0 (by decide)) rfl (Nat.le_of_ble_eq_true rfl) rfl (sX11_ofInode hG hq2) ?_
    refine am_iload_n dX11_isOf_17 rfl ?_
    refine am_icmp_eq (tgt := 27) dX11_isOf_18 rfl (fun c => ?_) (fun c => ?_)
    · rw [if_pos c] at h
      exact am_lwJ (lo' := [some (.inr (0, 60)), none, none, none, none]) ⟨rfl, trivial⟩ (tX11_isOf_27 hG h)
    · rw [if_neg c] at h
      refine am_aload_n dX11_isOf_21 rfl ?_
      refine am_iload dX11_isOf_22 rfl ?_
      obtain ⟨q3, hq3, h⟩ := am_bd h
      refine am_callVe (i := 0) (j := 60) (as := [.inl l4]) (rest := []) dX11_isOf_24 lkX11_fail ml_X11_348 imX11_fail seX11_fail rfl rfl (hG.m0 (by decide)) rfl (Nat.le_of_ble_eq_true rfl) rfl (sX11_fail hG hq3) ?_
      exact am_lwJ (lo' := [some (.inr (0, 60)), none, none, none, none]) ⟨rfl, trivial⟩ (tX11_isOf_27 hG h)
  · rw [if_pos c] at h
    refine am_iconst (v := nI 0) dX11_isOf_9 (by decide) ?_
    cases h
    exact am_iret dX11_isOf_10 rfl (am_nz (by decide)).1 ⟨rfl, rfl⟩
def gX11_isOf (n : Nat) (l1 : Int32) (l2 : Int32) (l3 : Int32) (l4 : Int32) (I : am_I) : Option (Int32 × am_I) := bX11_isOf_0 n l1 l2 l3 l4 I
theorem sX11_isOf {G : am_G} (hG : am_okM G) {d : Nat} {l1 : Int32} {l2 : Int32} {l3 : Int32} {l4 : Int32} {I : am_I} {r : Int32 × am_I} (h : gX11_isOf G.2.2.2.1 l1 l2 l3 l4 I = some r) : am_C G (d + 3) mX11_isOf [.inr (0, 60), .inl l1, .inl l2, .inl l3, .inl l4] I (am_E (some r.1) r.2) :=
  am_of (by decide +kernel) hG.nd (Nat.le_of_ble_eq_true rfl) (am_lwJ (lo' := [some (.inr (0, 60)), some (.inl l1), some (.inl l2), some (.inl l3), some (.inl l4)]) ⟨rfl, rfl, rfl, rfl, rfl, trivial⟩ (tX11_isOf_0 hG h))
def bX11_blockOf_47 (n : Nat) (s0 : Int32) (I : am_I) : Option (Int32 × am_I) := some (s0, I)
theorem tX11_blockOf_47 {G : am_G} (hG : am_okM G) {d : Nat} {s0 : Int32} {I : am_I} {r : Int32 × am_I} (h : bX11_blockOf_47 G.2.2.2.1 s0  I = some r) : am_J G (d + 3) mX11_blockOf am_no (am_E (some r.1) r.2) 47 [none, none, none, none] [.inl s0] I := by
  unfold bX11_blockOf_47 at h
  cases h
  exact am_iret dX11_blockOf_47 rfl rfl ⟨rfl, rfl⟩
def bX11_blockOf_0 (n : Nat) (l1 : Int32) (l2 : Int32) (I : am_I) : Option (Int32 × am_I) := if (nI 128) ≤ l2 then ((gX11_ofInode n l1 (nI 11) I).bind (fun q1 => if q1.1 = 0 then (bX11_blockOf_47 n (nI 0) q1.2) else ((gX11_get n q1.1 ((l2 / (nI 16)) - (nI 8)) q1.2).bind (fun q2 => bX11_blockOf_47 n q2.1 q2.2)))) else ((gX11_ofInode n l1 ((nI 3) + (l2 / (nI 16))) I).bind (fun q3 => some (q3.1, q3.2)))
theorem tX11_blockOf_0 {G : am_G} (hG : am_okM G) {d : Nat} {l1 : Int32} {l2 : Int32} {I : am_I} {r : Int32 × am_I} (h : bX11_blockOf_0 G.2.2.2.1 l1 l2  I = some r) : am_J G (d + 3) mX11_blockOf am_no (am_E (some r.1) r.2) 0 [some (.inr (0, 60)), some (.inl l1), some (.inl l2), none] [] I := by
  unfold bX11_blockOf_0 at h
  refine am_iload_n dX11_blockOf_0 rfl ?_
  refine am_sipush (v := nI 128) dX11_blockOf_1 (by decide) ?_
  refine am_icmp_ge (tgt := 19) dX11_blockOf_4 rfl (fun c => ?_) (fun c => ?_)
  · rw [if_pos c] at h
    refine am_aload_n dX11_blockOf_19 rfl ?_
    refine am_iload_n dX11_blockOf_20 rfl ?_
    refine am_bipush (v := nI 11) dX11_blockOf_21 (by decide) ?_
    obtain ⟨q1, hq1, h⟩ := am_bd h
    refine am_callVx (i := 0) (j := 60) (as := [.inl l1, .inl (nI 11)]) (rest := []) dX11_blockOf_23 lkX11_ofInode ml_X11_351 imX11_ofInode seX11_ofInode rfl rfl (hG.m0 (by decide)) rfl (Nat.le_of_ble_eq_true rfl) rfl (sX11_ofInode hG hq1) ?_
    refine am_istore_n dX11_blockOf_26 (by decide) ?_
    refine am_iload_n dX11_blockOf_27 rfl ?_
    refine am_if_ne (tgt := 35) dX11_blockOf_28 rfl (fun c => ?_) (fun c => ?_)
    · rw [if_neg c] at h
      refine am_aload_n dX11_blockOf_35 rfl ?_
      refine am_iload_n dX11_blockOf_36 rfl ?_
      refine am_iload_n dX11_blockOf_37 rfl ?_
      refine am_bipush (v := nI 16) dX11_blockOf_38 (by decide) ?_
      refine am_idiv dX11_blockOf_40 (by decide) ?_
      refine am_bipush (v := nI 8) dX11_blockOf_41 (by decide) ?_
      refine am_isub dX11_blockOf_43 ?_
      obtain ⟨q2, hq2, h⟩ := am_bd h
      refine am_callVx (i := 0) (j := 60) (as := [.inl q1.1, .inl ((l2 / (nI 16)) - (nI 8))]) (rest := []) dX11_blockOf_44 lkX11_get ml_X11_332 imX11_get seX11_get rfl rfl (hG.m0 (by decide)) rfl (Nat.le_of_ble_eq_true rfl) rfl (sX11_get hG hq2) ?_
      exact am_lwJ (lo' := [none, none, none, none]) trivial (tX11_blockOf_47 hG h)
    · rw [if_pos c] at h
      refine am_iconst (v := nI 0) dX11_blockOf_31 (by decide) ?_
      refine am_goto (tgt := 47) dX11_blockOf_32 rfl ?_
      exact am_lwJ (lo' := [none, none, none, none]) trivial (tX11_blockOf_47 hG h)
  · rw [if_neg c] at h
    refine am_aload_n dX11_blockOf_7 rfl ?_
    refine am_iload_n dX11_blockOf_8 rfl ?_
    refine am_iconst (v := nI 3) dX11_blockOf_9 (by decide) ?_
    refine am_iload_n dX11_blockOf_10 rfl ?_
    refine am_bipush (v := nI 16) dX11_blockOf_11 (by decide) ?_
    refine am_idiv dX11_blockOf_13 (by decide) ?_
    refine am_iadd dX11_blockOf_14 ?_
    obtain ⟨q3, hq3, h⟩ := am_bd h
    refine am_callVx (i := 0) (j := 60) (as := [.inl l1, .inl ((nI 3) + (l2 / (nI 16)))]) (rest := []) dX11_blockOf_15 lkX11_ofInode ml_X11_351 imX11_ofInode seX11_ofInode rfl rfl (hG.m0 (by decide)) rfl (Nat.le_of_ble_eq_true rfl) rfl (sX11_ofInode hG hq3) ?_
    cases h
    exact am_iret dX11_blockOf_18 rfl rfl ⟨rfl, rfl⟩
def gX11_blockOf (n : Nat) (l1 : Int32) (l2 : Int32) (I : am_I) : Option (Int32 × am_I) := bX11_blockOf_0 n l1 l2 I
theorem sX11_blockOf {G : am_G} (hG : am_okM G) {d : Nat} {l1 : Int32} {l2 : Int32} {I : am_I} {r : Int32 × am_I} (h : gX11_blockOf G.2.2.2.1 l1 l2 I = some r) : am_C G (d + 3) mX11_blockOf [.inr (0, 60), .inl l1, .inl l2] I (am_E (some r.1) r.2) :=
  am_of (by decide +kernel) hG.nd (Nat.le_of_ble_eq_true rfl) (am_lwJ (lo' := [some (.inr (0, 60)), some (.inl l1), some (.inl l2), none]) ⟨rfl, rfl, rfl, trivial⟩ (tX11_blockOf_0 hG h))
def bX11_wordOf_24 (n : Nat) (s0 : Int32) (I : am_I) : Option (Int32 × am_I) := some (s0, I)
theorem tX11_wordOf_24 {G : am_G} (hG : am_okM G) {d : Nat} {s0 : Int32} {I : am_I} {r : Int32 × am_I} (h : bX11_wordOf_24 G.2.2.2.1 s0  I = some r) : am_J G (d + 4) mX11_wordOf am_no (am_E (some r.1) r.2) 24 [none, none, none, none] [.inl s0] I := by
  unfold bX11_wordOf_24 at h
  cases h
  exact am_iret dX11_wordOf_24 rfl rfl ⟨rfl, rfl⟩
def bX11_wordOf_0 (n : Nat) (l1 : Int32) (l2 : Int32) (I : am_I) : Option (Int32 × am_I) := (gX11_blockOf n l1 l2 I).bind (fun q1 => if q1.1 = 0 then (bX11_wordOf_24 n (nI 0) q1.2) else ((gX11_get n q1.1 (l2 - l2 / (nI 16) * (nI 16)) q1.2).bind (fun q2 => bX11_wordOf_24 n q2.1 q2.2)))
theorem tX11_wordOf_0 {G : am_G} (hG : am_okM G) {d : Nat} {l1 : Int32} {l2 : Int32} {I : am_I} {r : Int32 × am_I} (h : bX11_wordOf_0 G.2.2.2.1 l1 l2  I = some r) : am_J G (d + 4) mX11_wordOf am_no (am_E (some r.1) r.2) 0 [some (.inr (0, 60)), some (.inl l1), some (.inl l2), none] [] I := by
  unfold bX11_wordOf_0 at h
  refine am_aload_n dX11_wordOf_0 rfl ?_
  refine am_iload_n dX11_wordOf_1 rfl ?_
  refine am_iload_n dX11_wordOf_2 rfl ?_
  obtain ⟨q1, hq1, h⟩ := am_bd h
  refine am_callVx (i := 0) (j := 60) (as := [.inl l1, .inl l2]) (rest := []) dX11_wordOf_3 lkX11_blockOf ml_X11_354 imX11_blockOf seX11_blockOf rfl rfl (hG.m0 (by decide)) rfl (Nat.le_of_ble_eq_true rfl) rfl (sX11_blockOf hG hq1) ?_
  refine am_istore_n dX11_wordOf_6 (by decide) ?_
  refine am_iload_n dX11_wordOf_7 rfl ?_
  refine am_if_ne (tgt := 15) dX11_wordOf_8 rfl (fun c => ?_) (fun c => ?_)
  · rw [if_neg c] at h
    refine am_aload_n dX11_wordOf_15 rfl ?_
    refine am_iload_n dX11_wordOf_16 rfl ?_
    refine am_iload_n dX11_wordOf_17 rfl ?_
    refine am_bipush (v := nI 16) dX11_wordOf_18 (by decide) ?_
    refine am_irem dX11_wordOf_20 (by decide) ?_
    obtain ⟨q2, hq2, h⟩ := am_bd h
    refine am_callVx (i := 0) (j := 60) (as := [.inl q1.1, .inl (l2 - l2 / (nI 16) * (nI 16))]) (rest := []) dX11_wordOf_21 lkX11_get ml_X11_332 imX11_get seX11_get rfl rfl (hG.m0 (by decide)) rfl (Nat.le_of_ble_eq_true rfl) rfl (sX11_get hG hq2) ?_
    exact am_lwJ (lo' := [none, none, none, none]) trivial (tX11_wordOf_24 hG h)
  · rw [if_pos c] at h
    refine am_iconst (v := nI 0) dX11_wordOf_11 (by decide) ?_
    refine am_goto (tgt := 24) dX11_wordOf_12 rfl ?_
    exact am_lwJ (lo' := [none, none, none, none]) trivial (tX11_wordOf_24 hG h)
def gX11_wordOf (n : Nat) (l1 : Int32) (l2 : Int32) (I : am_I) : Option (Int32 × am_I) := bX11_wordOf_0 n l1 l2 I
theorem sX11_wordOf {G : am_G} (hG : am_okM G) {d : Nat} {l1 : Int32} {l2 : Int32} {I : am_I} {r : Int32 × am_I} (h : gX11_wordOf G.2.2.2.1 l1 l2 I = some r) : am_C G (d + 4) mX11_wordOf [.inr (0, 60), .inl l1, .inl l2] I (am_E (some r.1) r.2) :=
  am_of (by decide +kernel) hG.nd (Nat.le_of_ble_eq_true rfl) (am_lwJ (lo' := [some (.inr (0, 60)), some (.inl l1), some (.inl l2), none]) ⟨rfl, rfl, rfl, trivial⟩ (tX11_wordOf_0 hG h))
def bX11_find_10 (n : Nat) : Nat → Int32 → Int32 → Int32 → Int32 → am_I → Option (Int32 × am_I)
  | 0, _, _, _, _, _ => none
  | fu + 1, l1, l2, l3, l4, I => (fun k10 => if l3 ≤ l4 then (some ((-1 : Int32), I)) else ((gX11_wordOf n l1 l4 I).bind (fun q1 => if q1.1 = l2 then (some (l4, q1.2)) else (k10 l1 l2 l3 (l4 + nI 2) q1.2)))) (bX11_find_10 n fu)
theorem tX11_find_10 {G : am_G} (hG : am_okM G) {d : Nat} : ∀ {fu : Nat} {l1 : Int32} {l2 : Int32} {l3 : Int32} {l4 : Int32} {I : am_I} {r : Int32 × am_I}, bX11_find_10 G.2.2.2.1 fu l1 l2 l3 l4 I = some r → am_J G (d + 5) mX11_find am_no (am_E (some r.1) r.2) 10 [some (.inr (0, 60)), some (.inl l1), some (.inl l2), some (.inl l3), some (.inl l4)] [] I := by
  intro fu
  induction fu with
  | zero => intro l1 l2 l3 l4 I r h; cases h
  | succ fu ih =>
    intro l1 l2 l3 l4 I r h
    have hk10 : ∀ (l1 : Int32) (l2 : Int32) (l3 : Int32) (l4 : Int32) (I : am_I) (r : Int32 × am_I), bX11_find_10 G.2.2.2.1 fu l1 l2 l3 l4 I = some r → am_J G (d + 5) mX11_find am_no (am_E (some r.1) r.2) 10 [some (.inr (0, 60)), some (.inl l1), some (.inl l2), some (.inl l3), some (.inl l4)] [] I := fun l1 l2 l3 l4 I r h => ih h
    unfold bX11_find_10 at h
    generalize bX11_find_10 G.2.2.2.1 fu = k10 at hk10 h
    dsimp only at h
    refine am_iload dX11_find_10 rfl ?_
    refine am_iload_n dX11_find_12 rfl ?_
    refine am_icmp_ge (tgt := 36) dX11_find_13 rfl (fun c => ?_) (fun c => ?_)
    · rw [if_pos c] at h
      refine am_iconst (v := (-1 : Int32)) dX11_find_36 (by decide) ?_
      cases h
      exact am_iret dX11_find_37 rfl rfl ⟨rfl, rfl⟩
    · rw [if_neg c] at h
      refine am_aload_n dX11_find_16 rfl ?_
      refine am_iload_n dX11_find_17 rfl ?_
      refine am_iload dX11_find_18 rfl ?_
      obtain ⟨q1, hq1, h⟩ := am_bd h
      refine am_callVx (i := 0) (j := 60) (as := [.inl l1, .inl l4]) (rest := []) dX11_find_20 lkX11_wordOf ml_X11_363 imX11_wordOf seX11_wordOf rfl rfl (hG.m0 (by decide)) rfl (Nat.le_of_ble_eq_true rfl) rfl (sX11_wordOf hG hq1) ?_
      refine am_iload_n dX11_find_23 rfl ?_
      refine am_icmp_ne (tgt := 30) dX11_find_24 rfl (fun c => ?_) (fun c => ?_)
      · rw [if_neg c] at h
        refine am_iinc (v := l4 + nI 2) dX11_find_30 rfl rfl ?_
        refine am_goto (tgt := 10) dX11_find_33 rfl ?_
        exact am_lwJ (lo' := [some (.inr (0, 60)), some (.inl l1), some (.inl l2), some (.inl l3), some (.inl (l4 + nI 2))]) ⟨rfl, rfl, rfl, rfl, rfl, trivial⟩ (hk10 l1 l2 l3 (l4 + nI 2) _ _ h)
      · rw [if_pos c] at h
        refine am_iload dX11_find_27 rfl ?_
        cases h
        exact am_iret dX11_find_29 rfl rfl ⟨rfl, rfl⟩
def bX11_find_0 (n : Nat) (l1 : Int32) (l2 : Int32) (I : am_I) : Option (Int32 × am_I) := (gX11_ofInode n l1 (nI 2) I).bind (fun q1 => bX11_find_10 n am_fu l1 l2 q1.1 (nI 0) q1.2)
theorem tX11_find_0 {G : am_G} (hG : am_okM G) {d : Nat} {l1 : Int32} {l2 : Int32} {I : am_I} {r : Int32 × am_I} (h : bX11_find_0 G.2.2.2.1 l1 l2  I = some r) : am_J G (d + 5) mX11_find am_no (am_E (some r.1) r.2) 0 [some (.inr (0, 60)), some (.inl l1), some (.inl l2), none, none] [] I := by
  unfold bX11_find_0 at h
  refine am_aload_n dX11_find_0 rfl ?_
  refine am_iload_n dX11_find_1 rfl ?_
  refine am_iconst (v := nI 2) dX11_find_2 (by decide) ?_
  obtain ⟨q1, hq1, h⟩ := am_bd h
  refine am_callVx (i := 0) (j := 60) (as := [.inl l1, .inl (nI 2)]) (rest := []) dX11_find_3 lkX11_ofInode ml_X11_351 imX11_ofInode seX11_ofInode rfl rfl (hG.m0 (by decide)) rfl (Nat.le_of_ble_eq_true rfl) rfl (sX11_ofInode hG hq1) ?_
  refine am_istore_n dX11_find_6 (by decide) ?_
  refine am_iconst (v := nI 0) dX11_find_7 (by decide) ?_
  refine am_istore dX11_find_8 (by decide) ?_
  exact am_lwJ (lo' := [some (.inr (0, 60)), some (.inl l1), some (.inl l2), some (.inl q1.1), some (.inl (nI 0))]) ⟨rfl, rfl, rfl, rfl, rfl, trivial⟩ (tX11_find_10 hG h)
def gX11_find (n : Nat) (l1 : Int32) (l2 : Int32) (I : am_I) : Option (Int32 × am_I) := bX11_find_0 n l1 l2 I
theorem sX11_find {G : am_G} (hG : am_okM G) {d : Nat} {l1 : Int32} {l2 : Int32} {I : am_I} {r : Int32 × am_I} (h : gX11_find G.2.2.2.1 l1 l2 I = some r) : am_C G (d + 5) mX11_find [.inr (0, 60), .inl l1, .inl l2] I (am_E (some r.1) r.2) :=
  am_of (by decide +kernel) hG.nd (Nat.le_of_ble_eq_true rfl) (am_lwJ (lo' := [some (.inr (0, 60)), some (.inl l1), some (.inl l2), none, none]) ⟨rfl, rfl, rfl, trivial⟩ (tX11_find_0 hG h))
def bX11_tryLook_46 (n : Nat) (I : am_I) : Option (am_I) := some I
theorem tX11_tryLook_46 {G : am_G} (hG : am_okM G) {d : Nat} {I : am_I} {r : am_I} (h : bX11_tryLook_46 G.2.2.2.1  I = some r) : am_J G (d + 6) mX11_tryLook am_no (am_E none r) 46 [none, none, none, none] [] I := by
  unfold bX11_tryLook_46 at h
  cases h
  exact am_vret dX11_tryLook_46 rfl ⟨rfl, rfl⟩
def bX11_tryLook_0 (n : Nat) (l1 : Int32) (l2 : Int32) (I : am_I) : Option (am_I) := (gX11_isOf n l1 (nI 1) (nI 2) (-2 : Int32) I).bind (fun q1 => if q1.1 = 0 then (some q1.2) else ((gX11_find n l1 l2 q1.2).bind (fun q2 => if q2.1 = (-1 : Int32) then ((gX11_fail n (-3 : Int32) q2.2).bind (fun q5 => bX11_tryLook_46 n q5)) else ((gX11_wordOf n l1 (q2.1 + (nI 1)) q2.2).bind (fun q3 => am_lt (am_up q3.2 0 60 55 q3.1) (fun I4 => bX11_tryLook_46 n I4))))))
theorem tX11_tryLook_0 {G : am_G} (hG : am_okM G) {d : Nat} {l1 : Int32} {l2 : Int32} {I : am_I} {r : am_I} (h : bX11_tryLook_0 G.2.2.2.1 l1 l2  I = some r) : am_J G (d + 6) mX11_tryLook am_no (am_E none r) 0 [some (.inr (0, 60)), some (.inl l1), some (.inl l2), none] [] I := by
  unfold bX11_tryLook_0 at h
  refine am_aload_n dX11_tryLook_0 rfl ?_
  refine am_iload_n dX11_tryLook_1 rfl ?_
  refine am_iconst (v := nI 1) dX11_tryLook_2 (by decide) ?_
  refine am_iconst (v := nI 2) dX11_tryLook_3 (by decide) ?_
  refine am_bipush (v := (-2 : Int32)) dX11_tryLook_4 (by decide) ?_
  obtain ⟨q1, hq1, h⟩ := am_bd h
  refine am_callVx (i := 0) (j := 60) (as := [.inl l1, .inl (nI 1), .inl (nI 2), .inl (-2 : Int32)]) (rest := []) dX11_tryLook_6 lkX11_isOf ml_X11_390 imX11_isOf seX11_isOf rfl rfl (hG.m0 (by decide)) rfl (Nat.le_of_ble_eq_true rfl) rfl (sX11_isOf hG hq1) ?_
  refine am_if_ne (tgt := 13) dX11_tryLook_9 rfl (fun c => ?_) (fun c => ?_)
  · rw [if_neg c] at h
    refine am_aload_n dX11_tryLook_13 rfl ?_
    refine am_iload_n dX11_tryLook_14 rfl ?_
    refine am_iload_n dX11_tryLook_15 rfl ?_
    obtain ⟨q2, hq2, h⟩ := am_bd h
    refine am_callVx (i := 0) (j := 60) (as := [.inl l1, .inl l2]) (rest := []) dX11_tryLook_16 lkX11_find ml_X11_369 imX11_find seX11_find rfl rfl (hG.m0 (by decide)) rfl (Nat.le_of_ble_eq_true rfl) rfl (sX11_find hG hq2) ?_
    refine am_istore_n dX11_tryLook_19 (by decide) ?_
    refine am_iload_n dX11_tryLook_20 rfl ?_
    refine am_iconst (v := (-1 : Int32)) dX11_tryLook_21 (by decide) ?_
    refine am_icmp_ne (tgt := 34) dX11_tryLook_22 rfl (fun c => ?_) (fun c => ?_)
    · rw [if_neg c] at h
      refine am_aload_n dX11_tryLook_34 rfl ?_
      refine am_aload_n dX11_tryLook_35 rfl ?_
      refine am_iload_n dX11_tryLook_36 rfl ?_
      refine am_iload_n dX11_tryLook_37 rfl ?_
      refine am_iconst (v := nI 1) dX11_tryLook_38 (by decide) ?_
      refine am_iadd dX11_tryLook_39 ?_
      obtain ⟨q3, hq3, h⟩ := am_bd h
      refine am_callVx (i := 0) (j := 60) (as := [.inl l1, .inl (q2.1 + (nI 1))]) (rest := [.inr (0, 60)]) dX11_tryLook_40 lkX11_wordOf ml_X11_363 imX11_wordOf seX11_wordOf rfl rfl (hG.m0 (by decide)) rfl (Nat.le_of_ble_eq_true rfl) rfl (sX11_wordOf hG hq3) ?_
      refine am_put (x := q3.1) dX11_tryLook_43 fp_11_316 (hG.m0 (by decide)) (Nat.le_of_ble_eq_true rfl) rfl ?_
      obtain ⟨I4, hI4, h⟩ := am_lt_some h
      refine am_st10 hI4 ?_
      exact am_lwJ (lo' := [none, none, none, none]) trivial (tX11_tryLook_46 hG h)
    · rw [if_pos c] at h
      refine am_aload_n dX11_tryLook_25 rfl ?_
      refine am_bipush (v := (-3 : Int32)) dX11_tryLook_26 (by decide) ?_
      obtain ⟨q5, hq5, h⟩ := am_bd h
      refine am_callVe (i := 0) (j := 60) (as := [.inl (-3 : Int32)]) (rest := []) dX11_tryLook_28 lkX11_fail ml_X11_348 imX11_fail seX11_fail rfl rfl (hG.m0 (by decide)) rfl (Nat.le_of_ble_eq_true rfl) rfl (sX11_fail hG hq5) ?_
      refine am_goto (tgt := 46) dX11_tryLook_31 rfl ?_
      exact am_lwJ (lo' := [none, none, none, none]) trivial (tX11_tryLook_46 hG h)
  · rw [if_pos c] at h
    cases h
    exact am_vret dX11_tryLook_12 rfl ⟨rfl, rfl⟩
def gX11_tryLook (n : Nat) (l1 : Int32) (l2 : Int32) (I : am_I) : Option (am_I) := bX11_tryLook_0 n l1 l2 I
theorem sX11_tryLook {G : am_G} (hG : am_okM G) {d : Nat} {l1 : Int32} {l2 : Int32} {I : am_I} {r : am_I} (h : gX11_tryLook G.2.2.2.1 l1 l2 I = some r) : am_C G (d + 6) mX11_tryLook [.inr (0, 60), .inl l1, .inl l2] I (am_E none r) :=
  am_of (by decide +kernel) hG.nd (Nat.le_of_ble_eq_true rfl) (am_lwJ (lo' := [some (.inr (0, 60)), some (.inl l1), some (.inl l2), none]) ⟨rfl, rfl, rfl, trivial⟩ (tX11_tryLook_0 hG h))
def bX11_save_53 (n : Nat) : Nat → Int32 → Int32 → am_I → Option (am_I)
  | 0, _, _, _ => none
  | fu + 1, l1, l2, I => (fun k53 => if (nI 16) ≤ l2 then (am_lt (am_up I 0 60 56 ((I 0 60 56) + (nI 1))) (fun I1 => some I1)) else (am_gd (am_inb (((nI 16) * (((nI 640) * (I 0 60 51)) + l1)) + l2) 40960) (am_gd (am_inb (((nI 16) * (I 0 60 56)) + l2) 10240) (am_lt (am_up I 0 121 (((nI 16) * (I 0 60 56)) + l2).toNatClampNeg (I 0 67 ((((nI 16) * (((nI 640) * (I 0 60 51)) + l1)) + l2).toNatClampNeg))) (fun I4 => k53 l1 (l2 + nI 1) I4))))) (bX11_save_53 n fu)
theorem tX11_save_53 {G : am_G} (hG : am_okM G) {d : Nat} : ∀ {fu : Nat} {l1 : Int32} {l2 : Int32} {I : am_I} {r : am_I}, bX11_save_53 G.2.2.2.1 fu l1 l2 I = some r → am_J G d mX11_save am_no (am_E none r) 53 [some (.inr (0, 60)), some (.inl l1), some (.inl l2)] [] I := by
  intro fu
  induction fu with
  | zero => intro l1 l2 I r h; cases h
  | succ fu ih =>
    intro l1 l2 I r h
    have hk53 : ∀ (l1 : Int32) (l2 : Int32) (I : am_I) (r : am_I), bX11_save_53 G.2.2.2.1 fu l1 l2 I = some r → am_J G d mX11_save am_no (am_E none r) 53 [some (.inr (0, 60)), some (.inl l1), some (.inl l2)] [] I := fun l1 l2 I r h => ih h
    unfold bX11_save_53 at h
    generalize bX11_save_53 G.2.2.2.1 fu = k53 at hk53 h
    dsimp only at h
    refine am_iload_n dX11_save_53 rfl ?_
    refine am_bipush (v := nI 16) dX11_save_54 (by decide) ?_
    refine am_icmp_ge (tgt := 99) dX11_save_56 rfl (fun c => ?_) (fun c => ?_)
    · rw [if_pos c] at h
      refine am_aload_n dX11_save_99 rfl ?_
      refine am_dup dX11_save_100 ?_
      refine am_get (v := .inl (I 0 60 56)) dX11_save_101 fl_11_307 (hG.m0 (by decide)) rfl ?_
      refine am_iconst (v := nI 1) dX11_save_104 (by decide) ?_
      refine am_iadd dX11_save_105 ?_
      refine am_put (x := (I 0 60 56) + (nI 1)) dX11_save_106 fp_11_307 (hG.m0 (by decide)) (Nat.le_of_ble_eq_true rfl) rfl ?_
      obtain ⟨I1, hI1, h⟩ := am_lt_some h
      refine am_st10 hI1 ?_
      cases h
      exact am_vret dX11_save_109 rfl ⟨rfl, rfl⟩
    · rw [if_neg c] at h
      refine am_aload_n dX11_save_59 rfl ?_
      refine am_get (v := .inr (0, 121)) dX11_save_60 fl_11_150 (hG.m0 (by decide)) rfl ?_
      refine am_bipush (v := nI 16) dX11_save_63 (by decide) ?_
      refine am_aload_n dX11_save_65 rfl ?_
      refine am_get (v := .inl (I 0 60 56)) dX11_save_66 fl_11_307 (hG.m0 (by decide)) rfl ?_
      refine am_imul dX11_save_69 ?_
      refine am_iload_n dX11_save_70 rfl ?_
      refine am_iadd dX11_save_71 ?_
      refine am_aload_n dX11_save_72 rfl ?_
      refine am_get (v := .inr (0, 67)) dX11_save_73 fl_11_21 (hG.m0 (by decide)) rfl ?_
      refine am_bipush (v := nI 16) dX11_save_76 (by decide) ?_
      refine am_sipush (v := nI 640) dX11_save_78 (by decide) ?_
      refine am_aload_n dX11_save_81 rfl ?_
      refine am_get (v := .inl (I 0 60 51)) dX11_save_82 fl_11_319 (hG.m0 (by decide)) rfl ?_
      refine am_imul dX11_save_85 ?_
      refine am_iload_n dX11_save_86 rfl ?_
      refine am_iadd dX11_save_87 ?_
      refine am_imul dX11_save_88 ?_
      refine am_iload_n dX11_save_89 rfl ?_
      refine am_iadd dX11_save_90 ?_
      obtain ⟨g2, h⟩ := am_gd_some h
      refine am_ialdG dX11_save_91 (hG.m0 (by decide)) rfl g2 (show 40960 < 2 ^ 31 by decide) ?_
      obtain ⟨g3, h⟩ := am_gd_some h
      refine am_iastG dX11_save_92 (hG.m0 (by decide)) rfl g3 (show 10240 < 2 ^ 31 by decide) ?_
      obtain ⟨I4, hI4, h⟩ := am_lt_some h
      refine am_st10 hI4 ?_
      refine am_iinc (v := l2 + nI 1) dX11_save_93 rfl rfl ?_
      refine am_goto (tgt := 53) dX11_save_96 rfl ?_
      exact am_lwJ (lo' := [some (.inr (0, 60)), some (.inl l1), some (.inl (l2 + nI 1))]) ⟨rfl, rfl, rfl, trivial⟩ (hk53 l1 (l2 + nI 1) _ _ h)
def bX11_save_0 (n : Nat) (l1 : Int32) (I : am_I) : Option (am_I) := am_gd (am_inb l1 640) (if (I 0 120 l1.toNatClampNeg) = 0 then (am_gd (am_inb l1 640) (am_lt (am_up I 0 120 l1.toNatClampNeg (nI 1)) (fun I3 => am_gd (am_inb (I3 0 60 56) 640) (am_lt (am_up I3 0 118 (I3 0 60 56).toNatClampNeg l1) (fun I5 => am_gd (am_inb (((nI 640) * (I5 0 60 51)) + l1) 2560) (am_gd (am_inb (I5 0 60 56) 640) (am_gd (am_01 (I5 0 68 ((((nI 640) * (I5 0 60 51)) + l1).toNatClampNeg))) (am_lt (am_up I5 0 119 (I5 0 60 56).toNatClampNeg (I5 0 68 ((((nI 640) * (I5 0 60 51)) + l1).toNatClampNeg))) (fun I9 => bX11_save_53 n am_fu l1 (nI 0) I9))))))))) else (some I))
theorem tX11_save_0 {G : am_G} (hG : am_okM G) {d : Nat} {l1 : Int32} {I : am_I} {r : am_I} (h : bX11_save_0 G.2.2.2.1 l1  I = some r) : am_J G d mX11_save am_no (am_E none r) 0 [some (.inr (0, 60)), some (.inl l1), none] [] I := by
  unfold bX11_save_0 at h
  refine am_aload_n dX11_save_0 rfl ?_
  refine am_get (v := .inr (0, 120)) dX11_save_1 fl_11_147 (hG.m0 (by decide)) rfl ?_
  refine am_iload_n dX11_save_4 rfl ?_
  obtain ⟨g1, h⟩ := am_gd_some h
  refine am_zaldG dX11_save_5 (hG.m0 (by decide)) rfl g1 (show 640 < 2 ^ 31 by decide) ?_
  refine am_if_eq (tgt := 10) dX11_save_6 rfl (fun c => ?_) (fun c => ?_)
  · rw [if_pos c] at h
    refine am_aload_n dX11_save_10 rfl ?_
    refine am_get (v := .inr (0, 120)) dX11_save_11 fl_11_147 (hG.m0 (by decide)) rfl ?_
    refine am_iload_n dX11_save_14 rfl ?_
    refine am_iconst (v := nI 1) dX11_save_15 (by decide) ?_
    obtain ⟨g2, h⟩ := am_gd_some h
    refine am_zastG dX11_save_16 (hG.m0 (by decide)) rfl (by decide) g2 (show 640 < 2 ^ 31 by decide) ?_
    obtain ⟨I3, hI3, h⟩ := am_lt_some h
    refine am_st10 hI3 ?_
    refine am_aload_n dX11_save_17 rfl ?_
    refine am_get (v := .inr (0, 118)) dX11_save_18 fl_11_141 (hG.m0 (by decide)) rfl ?_
    refine am_aload_n dX11_save_21 rfl ?_
    refine am_get (v := .inl (I3 0 60 56)) dX11_save_22 fl_11_307 (hG.m0 (by decide)) rfl ?_
    refine am_iload_n dX11_save_25 rfl ?_
    obtain ⟨g4, h⟩ := am_gd_some h
    refine am_iastG dX11_save_26 (hG.m0 (by decide)) rfl g4 (show 640 < 2 ^ 31 by decide) ?_
    obtain ⟨I5, hI5, h⟩ := am_lt_some h
    refine am_st10 hI5 ?_
    refine am_aload_n dX11_save_27 rfl ?_
    refine am_get (v := .inr (0, 119)) dX11_save_28 fl_11_144 (hG.m0 (by decide)) rfl ?_
    refine am_aload_n dX11_save_31 rfl ?_
    refine am_get (v := .inl (I5 0 60 56)) dX11_save_32 fl_11_307 (hG.m0 (by decide)) rfl ?_
    refine am_aload_n dX11_save_35 rfl ?_
    refine am_get (v := .inr (0, 68)) dX11_save_36 fl_11_24 (hG.m0 (by decide)) rfl ?_
    refine am_sipush (v := nI 640) dX11_save_39 (by decide) ?_
    refine am_aload_n dX11_save_42 rfl ?_
    refine am_get (v := .inl (I5 0 60 51)) dX11_save_43 fl_11_319 (hG.m0 (by decide)) rfl ?_
    refine am_imul dX11_save_46 ?_
    refine am_iload_n dX11_save_47 rfl ?_
    refine am_iadd dX11_save_48 ?_
    obtain ⟨g6, h⟩ := am_gd_some h
    refine am_zaldG dX11_save_49 (hG.m0 (by decide)) rfl g6 (show 2560 < 2 ^ 31 by decide) ?_
    obtain ⟨g7, h⟩ := am_gd_some h
    obtain ⟨g8, h⟩ := am_gd_some h
    refine am_zastG dX11_save_50 (hG.m0 (by decide)) rfl (am_01_of g8) g7 (show 640 < 2 ^ 31 by decide) ?_
    obtain ⟨I9, hI9, h⟩ := am_lt_some h
    refine am_st10 hI9 ?_
    refine am_iconst (v := nI 0) dX11_save_51 (by decide) ?_
    refine am_istore_n dX11_save_52 (by decide) ?_
    exact am_lwJ (lo' := [some (.inr (0, 60)), some (.inl l1), some (.inl (nI 0))]) ⟨rfl, rfl, rfl, trivial⟩ (tX11_save_53 hG h)
  · rw [if_neg c] at h
    cases h
    exact am_vret dX11_save_9 rfl ⟨rfl, rfl⟩
def gX11_save (n : Nat) (l1 : Int32) (I : am_I) : Option (am_I) := bX11_save_0 n l1 I
theorem sX11_save {G : am_G} (hG : am_okM G) {d : Nat} {l1 : Int32} {I : am_I} {r : am_I} (h : gX11_save G.2.2.2.1 l1 I = some r) : am_C G d mX11_save [.inr (0, 60), .inl l1] I (am_E none r) :=
  am_of (by decide +kernel) hG.nd (Nat.le_of_ble_eq_true rfl) (am_lwJ (lo' := [some (.inr (0, 60)), some (.inl l1), none]) ⟨rfl, rfl, trivial⟩ (tX11_save_0 hG h))
def bX11_set_0 (n : Nat) (l1 : Int32) (l2 : Int32) (l3 : Int32) (I : am_I) : Option (am_I) := (gX11_fetch n l1 I).bind (fun q1 => (gX11_save n l1 q1).bind (fun q2 => am_gd (am_inb (((nI 16) * (((nI 640) * (q2 0 60 51)) + l1)) + l2) 40960) (am_lt (am_up q2 0 67 (((nI 16) * (((nI 640) * (q2 0 60 51)) + l1)) + l2).toNatClampNeg l3) (fun I4 => some I4))))
theorem tX11_set_0 {G : am_G} (hG : am_okM G) {d : Nat} {l1 : Int32} {l2 : Int32} {l3 : Int32} {I : am_I} {r : am_I} (h : bX11_set_0 G.2.2.2.1 l1 l2 l3  I = some r) : am_J G (d + 1) mX11_set am_no (am_E none r) 0 [some (.inr (0, 60)), some (.inl l1), some (.inl l2), some (.inl l3)] [] I := by
  unfold bX11_set_0 at h
  refine am_aload_n dX11_set_0 rfl ?_
  refine am_iload_n dX11_set_1 rfl ?_
  obtain ⟨q1, hq1, h⟩ := am_bd h
  refine am_callVe (i := 0) (j := 60) (as := [.inl l1]) (rest := []) dX11_set_2 lkX11_fetch ml_X11_326 imX11_fetch seX11_fetch rfl rfl (hG.m0 (by decide)) rfl (Nat.le_of_ble_eq_true rfl) rfl (sX11_fetch hG hq1) ?_
  refine am_aload_n dX11_set_5 rfl ?_
  refine am_iload_n dX11_set_6 rfl ?_
  obtain ⟨q2, hq2, h⟩ := am_bd h
  refine am_callVe (i := 0) (j := 60) (as := [.inl l1]) (rest := []) dX11_set_7 lkX11_save ml_X11_329 imX11_save seX11_save rfl rfl (hG.m0 (by decide)) rfl (Nat.le_of_ble_eq_true rfl) rfl (sX11_save hG hq2) ?_
  refine am_aload_n dX11_set_10 rfl ?_
  refine am_get (v := .inr (0, 67)) dX11_set_11 fl_11_21 (hG.m0 (by decide)) rfl ?_
  refine am_bipush (v := nI 16) dX11_set_14 (by decide) ?_
  refine am_sipush (v := nI 640) dX11_set_16 (by decide) ?_
  refine am_aload_n dX11_set_19 rfl ?_
  refine am_get (v := .inl (q2 0 60 51)) dX11_set_20 fl_11_319 (hG.m0 (by decide)) rfl ?_
  refine am_imul dX11_set_23 ?_
  refine am_iload_n dX11_set_24 rfl ?_
  refine am_iadd dX11_set_25 ?_
  refine am_imul dX11_set_26 ?_
  refine am_iload_n dX11_set_27 rfl ?_
  refine am_iadd dX11_set_28 ?_
  refine am_iload_n dX11_set_29 rfl ?_
  obtain ⟨g3, h⟩ := am_gd_some h
  refine am_iastG dX11_set_30 (hG.m0 (by decide)) rfl g3 (show 40960 < 2 ^ 31 by decide) ?_
  obtain ⟨I4, hI4, h⟩ := am_lt_some h
  refine am_st10 hI4 ?_
  cases h
  exact am_vret dX11_set_31 rfl ⟨rfl, rfl⟩
def gX11_set (n : Nat) (l1 : Int32) (l2 : Int32) (l3 : Int32) (I : am_I) : Option (am_I) := bX11_set_0 n l1 l2 l3 I
theorem sX11_set {G : am_G} (hG : am_okM G) {d : Nat} {l1 : Int32} {l2 : Int32} {l3 : Int32} {I : am_I} {r : am_I} (h : gX11_set G.2.2.2.1 l1 l2 l3 I = some r) : am_C G (d + 1) mX11_set [.inr (0, 60), .inl l1, .inl l2, .inl l3] I (am_E none r) :=
  am_of (by decide +kernel) hG.nd (Nat.le_of_ble_eq_true rfl) (am_lwJ (lo' := [some (.inr (0, 60)), some (.inl l1), some (.inl l2), some (.inl l3)]) ⟨rfl, rfl, rfl, rfl, trivial⟩ (tX11_set_0 hG h))
def bX11_takeInode_47 (n : Nat) (k2 : Int32 → Int32 → am_I → Option (Int32 × am_I)) : Nat → Int32 → Int32 → Int32 → Int32 → Int32 → am_I → Option (Int32 × am_I)
  | 0, _, _, _, _, _, _ => none
  | fu + 1, l1, l2, l3, l4, l5, I => (fun k47 => if (nI 16) ≤ l5 then (k2 l1 (l2 + nI 1) I) else (if ((l4 >>> (l5 &&& 31)) &&& (nI 1)) = 0 then ((gX11_mapOf n l3 I).bind (fun q1 => (gX11_set n q1.1 (nI 0) (l4 ||| ((nI 1) <<< (l5 &&& 31))) q1.2).bind (fun q2 => some (((nI 16) * l3) + l5, q2)))) else (k47 l1 l2 l3 l4 (l5 + nI 1) I))) (bX11_takeInode_47 n k2 fu)
theorem tX11_takeInode_47 {G : am_G} (hG : am_okM G) {d : Nat} {k2 : Int32 → Int32 → am_I → Option (Int32 × am_I)} (hk2 : ∀ (l1 : Int32) (l2 : Int32) (I : am_I) (r : Int32 × am_I), k2 l1 l2 I = some r → am_J G (d + 2) mX11_takeInode am_no (am_E (some r.1) r.2) 2 [some (.inr (0, 60)), some (.inl l1), some (.inl l2), none, none, none] [] I) : ∀ {fu : Nat} {l1 : Int32} {l2 : Int32} {l3 : Int32} {l4 : Int32} {l5 : Int32} {I : am_I} {r : Int32 × am_I}, bX11_takeInode_47 G.2.2.2.1 k2 fu l1 l2 l3 l4 l5 I = some r → am_J G (d + 2) mX11_takeInode am_no (am_E (some r.1) r.2) 47 [some (.inr (0, 60)), some (.inl l1), some (.inl l2), some (.inl l3), some (.inl l4), some (.inl l5)] [] I := by
  intro fu
  induction fu with
  | zero => intro l1 l2 l3 l4 l5 I r h; cases h
  | succ fu ih =>
    intro l1 l2 l3 l4 l5 I r h
    have hk47 : ∀ (l1 : Int32) (l2 : Int32) (l3 : Int32) (l4 : Int32) (l5 : Int32) (I : am_I) (r : Int32 × am_I), bX11_takeInode_47 G.2.2.2.1 k2 fu l1 l2 l3 l4 l5 I = some r → am_J G (d + 2) mX11_takeInode am_no (am_E (some r.1) r.2) 47 [some (.inr (0, 60)), some (.inl l1), some (.inl l2), some (.inl l3), some (.inl l4), some (.inl l5)] [] I := fun l1 l2 l3 l4 l5 I r h => ih h
    unfold bX11_takeInode_47 at h
    generalize bX11_takeInode_47 G.2.2.2.1 k2 fu = k47 at hk47 h
    dsimp only at h
    refine am_iload dX11_takeInode_47 rfl ?_
    refine am_bipush (v := nI 16) dX11_takeInode_49 (by decide) ?_
    refine am_icmp_ge (tgt := 94) dX11_takeInode_51 rfl (fun c => ?_) (fun c => ?_)
    · rw [if_pos c] at h
      refine am_iinc (v := l2 + nI 1) dX11_takeInode_94 rfl rfl ?_
      refine am_goto (tgt := 2) dX11_takeInode_97 rfl ?_
      exact am_lwJ (lo' := [some (.inr (0, 60)), some (.inl l1), some (.inl (l2 + nI 1)), none, none, none]) ⟨rfl, rfl, rfl, trivial⟩ (hk2 l1 (l2 + nI 1) _ _ h)
    · rw [if_neg c] at h
      refine am_iload dX11_takeInode_54 rfl ?_
      refine am_iload dX11_takeInode_56 rfl ?_
      refine am_ishr dX11_takeInode_58 ?_
      refine am_iconst (v := nI 1) dX11_takeInode_59 (by decide) ?_
      refine am_iand dX11_takeInode_60 ?_
      refine am_if_ne (tgt := 88) dX11_takeInode_61 rfl (fun c => ?_) (fun c => ?_)
      · rw [if_neg c] at h
        refine am_iinc (v := l5 + nI 1) dX11_takeInode_88 rfl rfl ?_
        refine am_goto (tgt := 47) dX11_takeInode_91 rfl ?_
        exact am_lwJ (lo' := [some (.inr (0, 60)), some (.inl l1), some (.inl l2), some (.inl l3), some (.inl l4), some (.inl (l5 + nI 1))]) ⟨rfl, rfl, rfl, rfl, rfl, rfl, trivial⟩ (hk47 l1 l2 l3 l4 (l5 + nI 1) _ _ h)
      · rw [if_pos c] at h
        refine am_aload_n dX11_takeInode_64 rfl ?_
        refine am_iload_n dX11_takeInode_65 rfl ?_
        obtain ⟨q1, hq1, h⟩ := am_bd h
        refine am_callSx (as := [.inl l3]) (rest := [.inr (0, 60)]) dX11_takeInode_66 lkX11_mapOf ml_X11_181 isX11_mapOf rfl (Nat.le_of_ble_eq_true rfl) rfl (sX11_mapOf hG hq1) ?_
        refine am_iconst (v := nI 0) dX11_takeInode_69 (by decide) ?_
        refine am_iload dX11_takeInode_70 rfl ?_
        refine am_iconst (v := nI 1) dX11_takeInode_72 (by decide) ?_
        refine am_iload dX11_takeInode_73 rfl ?_
        refine am_ishl dX11_takeInode_75 ?_
        refine am_ior dX11_takeInode_76 ?_
        obtain ⟨q2, hq2, h⟩ := am_bd h
        refine am_callVe (i := 0) (j := 60) (as := [.inl q1.1, .inl (nI 0), .inl (l4 ||| ((nI 1) <<< (l5 &&& 31)))]) (rest := []) dX11_takeInode_77 lkX11_set ml_X11_335 imX11_set seX11_set rfl rfl (hG.m0 (by decide)) rfl (Nat.le_of_ble_eq_true rfl) rfl (sX11_set hG hq2) ?_
        refine am_bipush (v := nI 16) dX11_takeInode_80 (by decide) ?_
        refine am_iload_n dX11_takeInode_82 rfl ?_
        refine am_imul dX11_takeInode_83 ?_
        refine am_iload dX11_takeInode_84 rfl ?_
        refine am_iadd dX11_takeInode_86 ?_
        cases h
        exact am_iret dX11_takeInode_87 rfl rfl ⟨rfl, rfl⟩
def bX11_takeInode_2 (n : Nat) : Nat → Int32 → Int32 → am_I → Option (Int32 × am_I)
  | 0, _, _, _ => none
  | fu + 1, l1, l2, I => (fun k2 => if (nI 8) ≤ l2 then ((gX11_fail n (-7 : Int32) I).bind (fun q1 => some (nI 0, q1))) else ((gX11_meets n ((nI 128) + (((l1 / (nI 16)) + l2) - ((l1 / (nI 16)) + l2) / (nI 8) * (nI 8))) (nI 2) I).bind (fun q2 => if q2.1 = 0 then (some (nI 0, q2.2)) else ((gX11_mapOf n (((l1 / (nI 16)) + l2) - ((l1 / (nI 16)) + l2) / (nI 8) * (nI 8)) q2.2).bind (fun q3 => (gX11_get n q3.1 (nI 0) q3.2).bind (fun q4 => bX11_takeInode_47 n k2 am_fu l1 l2 (((l1 / (nI 16)) + l2) - ((l1 / (nI 16)) + l2) / (nI 8) * (nI 8)) q4.1 (nI 0) q4.2)))))) (bX11_takeInode_2 n fu)
theorem tX11_takeInode_2 {G : am_G} (hG : am_okM G) {d : Nat} : ∀ {fu : Nat} {l1 : Int32} {l2 : Int32} {I : am_I} {r : Int32 × am_I}, bX11_takeInode_2 G.2.2.2.1 fu l1 l2 I = some r → am_J G (d + 2) mX11_takeInode am_no (am_E (some r.1) r.2) 2 [some (.inr (0, 60)), some (.inl l1), some (.inl l2), none, none, none] [] I := by
  intro fu
  induction fu with
  | zero => intro l1 l2 I r h; cases h
  | succ fu ih =>
    intro l1 l2 I r h
    have hk2 : ∀ (l1 : Int32) (l2 : Int32) (I : am_I) (r : Int32 × am_I), bX11_takeInode_2 G.2.2.2.1 fu l1 l2 I = some r → am_J G (d + 2) mX11_takeInode am_no (am_E (some r.1) r.2) 2 [some (.inr (0, 60)), some (.inl l1), some (.inl l2), none, none, none] [] I := fun l1 l2 I r h => ih h
    unfold bX11_takeInode_2 at h
    generalize bX11_takeInode_2 G.2.2.2.1 fu = k2 at hk2 h
    dsimp only at h
    refine am_iload_n dX11_takeInode_2 rfl ?_
    refine am_bipush (v := nI 8) dX11_takeInode_3 (by decide) ?_
    refine am_icmp_ge (tgt := 100) dX11_takeInode_5 rfl (fun c => ?_) (fun c => ?_)
    · rw [if_pos c] at h
      refine am_aload_n dX11_takeInode_100 rfl ?_
      refine am_bipush (v := (-7 : Int32)) dX11_takeInode_101 (by decide) ?_
      obtain ⟨q1, hq1, h⟩ := am_bd h
      refine am_callVe (i := 0) (j := 60) (as := [.inl (-7 : Int32)]) (rest := []) dX11_takeInode_103 lkX11_fail ml_X11_348 imX11_fail seX11_fail rfl rfl (hG.m0 (by decide)) rfl (Nat.le_of_ble_eq_true rfl) rfl (sX11_fail hG hq1) ?_
      refine am_iconst (v := nI 0) dX11_takeInode_106 (by decide) ?_
      cases h
      exact am_iret dX11_takeInode_107 rfl rfl ⟨rfl, rfl⟩
    · rw [if_neg c] at h
      refine am_iload_n dX11_takeInode_8 rfl ?_
      refine am_bipush (v := nI 16) dX11_takeInode_9 (by decide) ?_
      refine am_idiv dX11_takeInode_11 (by decide) ?_
      refine am_iload_n dX11_takeInode_12 rfl ?_
      refine am_iadd dX11_takeInode_13 ?_
      refine am_bipush (v := nI 8) dX11_takeInode_14 (by decide) ?_
      refine am_irem dX11_takeInode_16 (by decide) ?_
      refine am_istore_n dX11_takeInode_17 (by decide) ?_
      refine am_aload_n dX11_takeInode_18 rfl ?_
      refine am_sipush (v := nI 128) dX11_takeInode_19 (by decide) ?_
      refine am_iload_n dX11_takeInode_22 rfl ?_
      refine am_iadd dX11_takeInode_23 ?_
      refine am_iconst (v := nI 2) dX11_takeInode_24 (by decide) ?_
      obtain ⟨q2, hq2, h⟩ := am_bd h
      refine am_callVx (i := 0) (j := 60) (as := [.inl ((nI 128) + (((l1 / (nI 16)) + l2) - ((l1 / (nI 16)) + l2) / (nI 8) * (nI 8))), .inl (nI 2)]) (rest := []) dX11_takeInode_25 lkX11_meets ml_X11_338 imX11_meets seX11_meets rfl rfl (hG.m0 (by decide)) rfl (Nat.le_of_ble_eq_true rfl) rfl (sX11_meets hG hq2) ?_
      refine am_if_ne (tgt := 33) dX11_takeInode_28 rfl (fun c => ?_) (fun c => ?_)
      · rw [if_neg c] at h
        refine am_aload_n dX11_takeInode_33 rfl ?_
        refine am_iload_n dX11_takeInode_34 rfl ?_
        obtain ⟨q3, hq3, h⟩ := am_bd h
        refine am_callSx (as := [.inl (((l1 / (nI 16)) + l2) - ((l1 / (nI 16)) + l2) / (nI 8) * (nI 8))]) (rest := [.inr (0, 60)]) dX11_takeInode_35 lkX11_mapOf ml_X11_181 isX11_mapOf rfl (Nat.le_of_ble_eq_true rfl) rfl (sX11_mapOf hG hq3) ?_
        refine am_iconst (v := nI 0) dX11_takeInode_38 (by decide) ?_
        obtain ⟨q4, hq4, h⟩ := am_bd h
        refine am_callVx (i := 0) (j := 60) (as := [.inl q3.1, .inl (nI 0)]) (rest := []) dX11_takeInode_39 lkX11_get ml_X11_332 imX11_get seX11_get rfl rfl (hG.m0 (by decide)) rfl (Nat.le_of_ble_eq_true rfl) rfl (sX11_get hG hq4) ?_
        refine am_istore dX11_takeInode_42 (by decide) ?_
        refine am_iconst (v := nI 0) dX11_takeInode_44 (by decide) ?_
        refine am_istore dX11_takeInode_45 (by decide) ?_
        exact am_lwJ (lo' := [some (.inr (0, 60)), some (.inl l1), some (.inl l2), some (.inl (((l1 / (nI 16)) + l2) - ((l1 / (nI 16)) + l2) / (nI 8) * (nI 8))), some (.inl q4.1), some (.inl (nI 0))]) ⟨rfl, rfl, rfl, rfl, rfl, rfl, trivial⟩ (tX11_takeInode_47 hG hk2 h)
      · rw [if_pos c] at h
        refine am_iconst (v := nI 0) dX11_takeInode_31 (by decide) ?_
        cases h
        exact am_iret dX11_takeInode_32 rfl rfl ⟨rfl, rfl⟩
def bX11_takeInode_0 (n : Nat) (l1 : Int32) (I : am_I) : Option (Int32 × am_I) := bX11_takeInode_2 n am_fu l1 (nI 0) I
theorem tX11_takeInode_0 {G : am_G} (hG : am_okM G) {d : Nat} {l1 : Int32} {I : am_I} {r : Int32 × am_I} (h : bX11_takeInode_0 G.2.2.2.1 l1  I = some r) : am_J G (d + 2) mX11_takeInode am_no (am_E (some r.1) r.2) 0 [some (.inr (0, 60)), some (.inl l1), none, none, none, none] [] I := by
  unfold bX11_takeInode_0 at h
  refine am_iconst (v := nI 0) dX11_takeInode_0 (by decide) ?_
  refine am_istore_n dX11_takeInode_1 (by decide) ?_
  exact am_lwJ (lo' := [some (.inr (0, 60)), some (.inl l1), some (.inl (nI 0)), none, none, none]) ⟨rfl, rfl, rfl, trivial⟩ (tX11_takeInode_2 hG h)
def gX11_takeInode (n : Nat) (l1 : Int32) (I : am_I) : Option (Int32 × am_I) := bX11_takeInode_0 n l1 I
theorem sX11_takeInode {G : am_G} (hG : am_okM G) {d : Nat} {l1 : Int32} {I : am_I} {r : Int32 × am_I} (h : gX11_takeInode G.2.2.2.1 l1 I = some r) : am_C G (d + 2) mX11_takeInode [.inr (0, 60), .inl l1] I (am_E (some r.1) r.2) :=
  am_of (by decide +kernel) hG.nd (Nat.le_of_ble_eq_true rfl) (am_lwJ (lo' := [some (.inr (0, 60)), some (.inl l1), none, none, none, none]) ⟨rfl, rfl, trivial⟩ (tX11_takeInode_0 hG h))
def bX11_clear_23 (n : Nat) : Nat → Int32 → Int32 → am_I → Option (am_I)
  | 0, _, _, _ => none
  | fu + 1, l1, l2, I => (fun k23 => if (nI 16) ≤ l2 then (some I) else (am_gd (am_inb (((nI 16) * (((nI 640) * (I 0 60 51)) + l1)) + l2) 40960) (am_lt (am_up I 0 67 (((nI 16) * (((nI 640) * (I 0 60 51)) + l1)) + l2).toNatClampNeg (nI 0)) (fun I2 => k23 l1 (l2 + nI 1) I2)))) (bX11_clear_23 n fu)
theorem tX11_clear_23 {G : am_G} (hG : am_okM G) {d : Nat} : ∀ {fu : Nat} {l1 : Int32} {l2 : Int32} {I : am_I} {r : am_I}, bX11_clear_23 G.2.2.2.1 fu l1 l2 I = some r → am_J G (d + 1) mX11_clear am_no (am_E none r) 23 [some (.inr (0, 60)), some (.inl l1), some (.inl l2)] [] I := by
  intro fu
  induction fu with
  | zero => intro l1 l2 I r h; cases h
  | succ fu ih =>
    intro l1 l2 I r h
    have hk23 : ∀ (l1 : Int32) (l2 : Int32) (I : am_I) (r : am_I), bX11_clear_23 G.2.2.2.1 fu l1 l2 I = some r → am_J G (d + 1) mX11_clear am_no (am_E none r) 23 [some (.inr (0, 60)), some (.inl l1), some (.inl l2)] [] I := fun l1 l2 I r h => ih h
    unfold bX11_clear_23 at h
    generalize bX11_clear_23 G.2.2.2.1 fu = k23 at hk23 h
    dsimp only at h
    refine am_iload_n dX11_clear_23 rfl ?_
    refine am_bipush (v := nI 16) dX11_clear_24 (by decide) ?_
    refine am_icmp_ge (tgt := 56) dX11_clear_26 rfl (fun c => ?_) (fun c => ?_)
    · rw [if_pos c] at h
      cases h
      exact am_vret dX11_clear_56 rfl ⟨rfl, rfl⟩
    · rw [if_neg c] at h
      refine am_aload_n dX11_clear_29 rfl ?_
      refine am_get (v := .inr (0, 67)) dX11_clear_30 fl_11_21 (hG.m0 (by decide)) rfl ?_
      refine am_bipush (v := nI 16) dX11_clear_33 (by decide) ?_
      refine am_sipush (v := nI 640) dX11_clear_35 (by decide) ?_
      refine am_aload_n dX11_clear_38 rfl ?_
      refine am_get (v := .inl (I 0 60 51)) dX11_clear_39 fl_11_319 (hG.m0 (by decide)) rfl ?_
      refine am_imul dX11_clear_42 ?_
      refine am_iload_n dX11_clear_43 rfl ?_
      refine am_iadd dX11_clear_44 ?_
      refine am_imul dX11_clear_45 ?_
      refine am_iload_n dX11_clear_46 rfl ?_
      refine am_iadd dX11_clear_47 ?_
      refine am_iconst (v := nI 0) dX11_clear_48 (by decide) ?_
      obtain ⟨g1, h⟩ := am_gd_some h
      refine am_iastG dX11_clear_49 (hG.m0 (by decide)) rfl g1 (show 40960 < 2 ^ 31 by decide) ?_
      obtain ⟨I2, hI2, h⟩ := am_lt_some h
      refine am_st10 hI2 ?_
      refine am_iinc (v := l2 + nI 1) dX11_clear_50 rfl rfl ?_
      refine am_goto (tgt := 23) dX11_clear_53 rfl ?_
      exact am_lwJ (lo' := [some (.inr (0, 60)), some (.inl l1), some (.inl (l2 + nI 1))]) ⟨rfl, rfl, rfl, trivial⟩ (hk23 l1 (l2 + nI 1) _ _ h)
def bX11_clear_0 (n : Nat) (l1 : Int32) (I : am_I) : Option (am_I) := (gX11_save n l1 I).bind (fun q1 => am_gd (am_inb (((nI 640) * (q1 0 60 51)) + l1) 2560) (am_lt (am_up q1 0 68 (((nI 640) * (q1 0 60 51)) + l1).toNatClampNeg (nI 1)) (fun I3 => bX11_clear_23 n am_fu l1 (nI 0) I3)))
theorem tX11_clear_0 {G : am_G} (hG : am_okM G) {d : Nat} {l1 : Int32} {I : am_I} {r : am_I} (h : bX11_clear_0 G.2.2.2.1 l1  I = some r) : am_J G (d + 1) mX11_clear am_no (am_E none r) 0 [some (.inr (0, 60)), some (.inl l1), none] [] I := by
  unfold bX11_clear_0 at h
  refine am_aload_n dX11_clear_0 rfl ?_
  refine am_iload_n dX11_clear_1 rfl ?_
  obtain ⟨q1, hq1, h⟩ := am_bd h
  refine am_callVe (i := 0) (j := 60) (as := [.inl l1]) (rest := []) dX11_clear_2 lkX11_save ml_X11_329 imX11_save seX11_save rfl rfl (hG.m0 (by decide)) rfl (Nat.le_of_ble_eq_true rfl) rfl (sX11_save hG hq1) ?_
  refine am_aload_n dX11_clear_5 rfl ?_
  refine am_get (v := .inr (0, 68)) dX11_clear_6 fl_11_24 (hG.m0 (by decide)) rfl ?_
  refine am_sipush (v := nI 640) dX11_clear_9 (by decide) ?_
  refine am_aload_n dX11_clear_12 rfl ?_
  refine am_get (v := .inl (q1 0 60 51)) dX11_clear_13 fl_11_319 (hG.m0 (by decide)) rfl ?_
  refine am_imul dX11_clear_16 ?_
  refine am_iload_n dX11_clear_17 rfl ?_
  refine am_iadd dX11_clear_18 ?_
  refine am_iconst (v := nI 1) dX11_clear_19 (by decide) ?_
  obtain ⟨g2, h⟩ := am_gd_some h
  refine am_zastG dX11_clear_20 (hG.m0 (by decide)) rfl (by decide) g2 (show 2560 < 2 ^ 31 by decide) ?_
  obtain ⟨I3, hI3, h⟩ := am_lt_some h
  refine am_st10 hI3 ?_
  refine am_iconst (v := nI 0) dX11_clear_21 (by decide) ?_
  refine am_istore_n dX11_clear_22 (by decide) ?_
  exact am_lwJ (lo' := [some (.inr (0, 60)), some (.inl l1), some (.inl (nI 0))]) ⟨rfl, rfl, rfl, trivial⟩ (tX11_clear_23 hG h)
def gX11_clear (n : Nat) (l1 : Int32) (I : am_I) : Option (am_I) := bX11_clear_0 n l1 I
theorem sX11_clear {G : am_G} (hG : am_okM G) {d : Nat} {l1 : Int32} {I : am_I} {r : am_I} (h : gX11_clear G.2.2.2.1 l1 I = some r) : am_C G (d + 1) mX11_clear [.inr (0, 60), .inl l1] I (am_E none r) :=
  am_of (by decide +kernel) hG.nd (Nat.le_of_ble_eq_true rfl) (am_lwJ (lo' := [some (.inr (0, 60)), some (.inl l1), none]) ⟨rfl, rfl, trivial⟩ (tX11_clear_0 hG h))
def bX11_setInode_0 (n : Nat) (l1 : Int32) (l2 : Int32) (l3 : Int32) (I : am_I) : Option (am_I) := (gX11_inodeBlock n l1 I).bind (fun q1 => (gX11_set n q1.1 l2 l3 q1.2).bind (fun q2 => some q2))
theorem tX11_setInode_0 {G : am_G} (hG : am_okM G) {d : Nat} {l1 : Int32} {l2 : Int32} {l3 : Int32} {I : am_I} {r : am_I} (h : bX11_setInode_0 G.2.2.2.1 l1 l2 l3  I = some r) : am_J G (d + 2) mX11_setInode am_no (am_E none r) 0 [some (.inr (0, 60)), some (.inl l1), some (.inl l2), some (.inl l3)] [] I := by
  unfold bX11_setInode_0 at h
  refine am_aload_n dX11_setInode_0 rfl ?_
  refine am_iload_n dX11_setInode_1 rfl ?_
  obtain ⟨q1, hq1, h⟩ := am_bd h
  refine am_callSx (as := [.inl l1]) (rest := [.inr (0, 60)]) dX11_setInode_2 lkX11_inodeBlock ml_X11_185 isX11_inodeBlock rfl (Nat.le_of_ble_eq_true rfl) rfl (sX11_inodeBlock hG hq1) ?_
  refine am_iload_n dX11_setInode_5 rfl ?_
  refine am_iload_n dX11_setInode_6 rfl ?_
  obtain ⟨q2, hq2, h⟩ := am_bd h
  refine am_callVe (i := 0) (j := 60) (as := [.inl q1.1, .inl l2, .inl l3]) (rest := []) dX11_setInode_7 lkX11_set ml_X11_335 imX11_set seX11_set rfl rfl (hG.m0 (by decide)) rfl (Nat.le_of_ble_eq_true rfl) rfl (sX11_set hG hq2) ?_
  cases h
  exact am_vret dX11_setInode_10 rfl ⟨rfl, rfl⟩
def gX11_setInode (n : Nat) (l1 : Int32) (l2 : Int32) (l3 : Int32) (I : am_I) : Option (am_I) := bX11_setInode_0 n l1 l2 l3 I
theorem sX11_setInode {G : am_G} (hG : am_okM G) {d : Nat} {l1 : Int32} {l2 : Int32} {l3 : Int32} {I : am_I} {r : am_I} (h : gX11_setInode G.2.2.2.1 l1 l2 l3 I = some r) : am_C G (d + 2) mX11_setInode [.inr (0, 60), .inl l1, .inl l2, .inl l3] I (am_E none r) :=
  am_of (by decide +kernel) hG.nd (Nat.le_of_ble_eq_true rfl) (am_lwJ (lo' := [some (.inr (0, 60)), some (.inl l1), some (.inl l2), some (.inl l3)]) ⟨rfl, rfl, rfl, rfl, trivial⟩ (tX11_setInode_0 hG h))
def bX11_dataBlock_0 (n : Nat) (l0 : Int32) (l1 : Int32) (I : am_I) : Option (Int32 × am_I) := some (((nI 145) + ((nI 64) * l0)) + l1, I)
theorem tX11_dataBlock_0 {G : am_G} (hG : am_okM G) {d : Nat} {l0 : Int32} {l1 : Int32} {I : am_I} {r : Int32 × am_I} (h : bX11_dataBlock_0 G.2.2.2.1 l0 l1  I = some r) : am_J G d mX11_dataBlock am_no (am_E (some r.1) r.2) 0 [some (.inl l0), some (.inl l1)] [] I := by
  unfold bX11_dataBlock_0 at h
  refine am_sipush (v := nI 145) dX11_dataBlock_0 (by decide) ?_
  refine am_bipush (v := nI 64) dX11_dataBlock_3 (by decide) ?_
  refine am_iload_n dX11_dataBlock_5 rfl ?_
  refine am_imul dX11_dataBlock_6 ?_
  refine am_iadd dX11_dataBlock_7 ?_
  refine am_iload_n dX11_dataBlock_8 rfl ?_
  refine am_iadd dX11_dataBlock_9 ?_
  cases h
  exact am_iret dX11_dataBlock_10 rfl rfl ⟨rfl, rfl⟩
def gX11_dataBlock (n : Nat) (l0 : Int32) (l1 : Int32) (I : am_I) : Option (Int32 × am_I) := bX11_dataBlock_0 n l0 l1 I
theorem sX11_dataBlock {G : am_G} (hG : am_okM G) {d : Nat} {l0 : Int32} {l1 : Int32} {I : am_I} {r : Int32 × am_I} (h : gX11_dataBlock G.2.2.2.1 l0 l1 I = some r) : am_C G d mX11_dataBlock [.inl l0, .inl l1] I (am_E (some r.1) r.2) :=
  am_of (by decide +kernel) hG.nd (Nat.le_of_ble_eq_true rfl) (am_lwJ (lo' := [some (.inl l0), some (.inl l1)]) ⟨rfl, rfl, trivial⟩ (tX11_dataBlock_0 hG h))
def bX11_takeBlock_134 (n : Nat) (I : am_I) : Option (Int32 × am_I) := (gX11_fail n (-7 : Int32) I).bind (fun q1 => some (nI 0, q1))
theorem tX11_takeBlock_134 {G : am_G} (hG : am_okM G) {d : Nat} {I : am_I} {r : Int32 × am_I} (h : bX11_takeBlock_134 G.2.2.2.1  I = some r) : am_J G (d + 2) mX11_takeBlock am_no (am_E (some r.1) r.2) 134 [some (.inr (0, 60)), none, none, none, none, none] [] I := by
  unfold bX11_takeBlock_134 at h
  refine am_aload_n dX11_takeBlock_134 rfl ?_
  refine am_bipush (v := (-7 : Int32)) dX11_takeBlock_135 (by decide) ?_
  obtain ⟨q1, hq1, h⟩ := am_bd h
  refine am_callVe (i := 0) (j := 60) (as := [.inl (-7 : Int32)]) (rest := []) dX11_takeBlock_137 lkX11_fail ml_X11_348 imX11_fail seX11_fail rfl rfl (hG.m0 (by decide)) rfl (Nat.le_of_ble_eq_true rfl) rfl (sX11_fail hG hq1) ?_
  refine am_iconst (v := nI 0) dX11_takeBlock_140 (by decide) ?_
  cases h
  exact am_iret dX11_takeBlock_141 rfl rfl ⟨rfl, rfl⟩
def bX11_takeBlock_43 (n : Nat) (k2 : Int32 → Int32 → am_I → Option (Int32 × am_I)) : Nat → Int32 → Int32 → Int32 → Int32 → am_I → Option (Int32 × am_I)
  | 0, _, _, _, _, _ => none
  | fu + 1, l1, l2, l3, l4, I => (fun k43 => if (nI 47) ≤ l4 then (k2 l1 (l2 + nI 1) I) else ((gX11_mapOf n l3 I).bind (fun q1 => (gX11_get n q1.1 ((nI 1) + (l4 / (nI 32))) q1.2).bind (fun q2 => if ((q2.1 >>> ((l4 - l4 / (nI 32) * (nI 32)) &&& 31)) &&& (nI 1)) = 0 then ((gX11_mapOf n l3 q2.2).bind (fun q3 => (gX11_set n q3.1 ((nI 1) + (l4 / (nI 32))) (q2.1 ||| ((nI 1) <<< ((l4 - l4 / (nI 32) * (nI 32)) &&& 31))) q3.2).bind (fun q4 => (gX11_dataBlock n l3 l4 q4).bind (fun q5 => (gX11_clear n q5.1 q5.2).bind (fun q6 => (gX11_dataBlock n l3 l4 q6).bind (fun q7 => some (q7.1, q7.2))))))) else (k43 l1 l2 l3 (l4 + nI 1) q2.2))))) (bX11_takeBlock_43 n k2 fu)
theorem tX11_takeBlock_43 {G : am_G} (hG : am_okM G) {d : Nat} {k2 : Int32 → Int32 → am_I → Option (Int32 × am_I)} (hk2 : ∀ (l1 : Int32) (l2 : Int32) (I : am_I) (r : Int32 × am_I), k2 l1 l2 I = some r → am_J G (d + 2) mX11_takeBlock am_no (am_E (some r.1) r.2) 2 [some (.inr (0, 60)), some (.inl l1), some (.inl l2), none, none, none] [] I) : ∀ {fu : Nat} {l1 : Int32} {l2 : Int32} {l3 : Int32} {l4 : Int32} {I : am_I} {r : Int32 × am_I}, bX11_takeBlock_43 G.2.2.2.1 k2 fu l1 l2 l3 l4 I = some r → am_J G (d + 2) mX11_takeBlock am_no (am_E (some r.1) r.2) 43 [some (.inr (0, 60)), some (.inl l1), some (.inl l2), some (.inl l3), some (.inl l4), none] [] I := by
  intro fu
  induction fu with
  | zero => intro l1 l2 l3 l4 I r h; cases h
  | succ fu ih =>
    intro l1 l2 l3 l4 I r h
    have hk43 : ∀ (l1 : Int32) (l2 : Int32) (l3 : Int32) (l4 : Int32) (I : am_I) (r : Int32 × am_I), bX11_takeBlock_43 G.2.2.2.1 k2 fu l1 l2 l3 l4 I = some r → am_J G (d + 2) mX11_takeBlock am_no (am_E (some r.1) r.2) 43 [some (.inr (0, 60)), some (.inl l1), some (.inl l2), some (.inl l3), some (.inl l4), none] [] I := fun l1 l2 l3 l4 I r h => ih h
    unfold bX11_takeBlock_43 at h
    generalize bX11_takeBlock_43 G.2.2.2.1 k2 fu = k43 at hk43 h
    dsimp only at h
    refine am_iload dX11_takeBlock_43 rfl ?_
    refine am_bipush (v := nI 47) dX11_takeBlock_45 (by decide) ?_
    refine am_icmp_ge (tgt := 128) dX11_takeBlock_47 rfl (fun c => ?_) (fun c => ?_)
    · rw [if_pos c] at h
      refine am_iinc (v := l2 + nI 1) dX11_takeBlock_128 rfl rfl ?_
      refine am_goto (tgt := 2) dX11_takeBlock_131 rfl ?_
      exact am_lwJ (lo' := [some (.inr (0, 60)), some (.inl l1), some (.inl (l2 + nI 1)), none, none, none]) ⟨rfl, rfl, rfl, trivial⟩ (hk2 l1 (l2 + nI 1) _ _ h)
    · rw [if_neg c] at h
      refine am_aload_n dX11_takeBlock_50 rfl ?_
      refine am_iload_n dX11_takeBlock_51 rfl ?_
      obtain ⟨q1, hq1, h⟩ := am_bd h
      refine am_callSx (as := [.inl l3]) (rest := [.inr (0, 60)]) dX11_takeBlock_52 lkX11_mapOf ml_X11_181 isX11_mapOf rfl (Nat.le_of_ble_eq_true rfl) rfl (sX11_mapOf hG hq1) ?_
      refine am_iconst (v := nI 1) dX11_takeBlock_55 (by decide) ?_
      refine am_iload dX11_takeBlock_56 rfl ?_
      refine am_bipush (v := nI 32) dX11_takeBlock_58 (by decide) ?_
      refine am_idiv dX11_takeBlock_60 (by decide) ?_
      refine am_iadd dX11_takeBlock_61 ?_
      obtain ⟨q2, hq2, h⟩ := am_bd h
      refine am_callVx (i := 0) (j := 60) (as := [.inl q1.1, .inl ((nI 1) + (l4 / (nI 32)))]) (rest := []) dX11_takeBlock_62 lkX11_get ml_X11_332 imX11_get seX11_get rfl rfl (hG.m0 (by decide)) rfl (Nat.le_of_ble_eq_true rfl) rfl (sX11_get hG hq2) ?_
      refine am_istore dX11_takeBlock_65 (by decide) ?_
      refine am_iload dX11_takeBlock_67 rfl ?_
      refine am_iload dX11_takeBlock_69 rfl ?_
      refine am_bipush (v := nI 32) dX11_takeBlock_71 (by decide) ?_
      refine am_irem dX11_takeBlock_73 (by decide) ?_
      refine am_ishr dX11_takeBlock_74 ?_
      refine am_iconst (v := nI 1) dX11_takeBlock_75 (by decide) ?_
      refine am_iand dX11_takeBlock_76 ?_
      refine am_if_ne (tgt := 122) dX11_takeBlock_77 rfl (fun c => ?_) (fun c => ?_)
      · rw [if_neg c] at h
        refine am_iinc (v := l4 + nI 1) dX11_takeBlock_122 rfl rfl ?_
        refine am_goto (tgt := 43) dX11_takeBlock_125 rfl ?_
        exact am_lwJ (lo' := [some (.inr (0, 60)), some (.inl l1), some (.inl l2), some (.inl l3), some (.inl (l4 + nI 1)), none]) ⟨rfl, rfl, rfl, rfl, rfl, trivial⟩ (hk43 l1 l2 l3 (l4 + nI 1) _ _ h)
      · rw [if_pos c] at h
        refine am_aload_n dX11_takeBlock_80 rfl ?_
        refine am_iload_n dX11_takeBlock_81 rfl ?_
        obtain ⟨q3, hq3, h⟩ := am_bd h
        refine am_callSx (as := [.inl l3]) (rest := [.inr (0, 60)]) dX11_takeBlock_82 lkX11_mapOf ml_X11_181 isX11_mapOf rfl (Nat.le_of_ble_eq_true rfl) rfl (sX11_mapOf hG hq3) ?_
        refine am_iconst (v := nI 1) dX11_takeBlock_85 (by decide) ?_
        refine am_iload dX11_takeBlock_86 rfl ?_
        refine am_bipush (v := nI 32) dX11_takeBlock_88 (by decide) ?_
        refine am_idiv dX11_takeBlock_90 (by decide) ?_
        refine am_iadd dX11_takeBlock_91 ?_
        refine am_iload dX11_takeBlock_92 rfl ?_
        refine am_iconst (v := nI 1) dX11_takeBlock_94 (by decide) ?_
        refine am_iload dX11_takeBlock_95 rfl ?_
        refine am_bipush (v := nI 32) dX11_takeBlock_97 (by decide) ?_
        refine am_irem dX11_takeBlock_99 (by decide) ?_
        refine am_ishl dX11_takeBlock_100 ?_
        refine am_ior dX11_takeBlock_101 ?_
        obtain ⟨q4, hq4, h⟩ := am_bd h
        refine am_callVe (i := 0) (j := 60) (as := [.inl q3.1, .inl ((nI 1) + (l4 / (nI 32))), .inl (q2.1 ||| ((nI 1) <<< ((l4 - l4 / (nI 32) * (nI 32)) &&& 31)))]) (rest := []) dX11_takeBlock_102 lkX11_set ml_X11_335 imX11_set seX11_set rfl rfl (hG.m0 (by decide)) rfl (Nat.le_of_ble_eq_true rfl) rfl (sX11_set hG hq4) ?_
        refine am_aload_n dX11_takeBlock_105 rfl ?_
        refine am_iload_n dX11_takeBlock_106 rfl ?_
        refine am_iload dX11_takeBlock_107 rfl ?_
        obtain ⟨q5, hq5, h⟩ := am_bd h
        refine am_callSx (as := [.inl l3, .inl l4]) (rest := [.inr (0, 60)]) dX11_takeBlock_109 lkX11_dataBlock ml_X11_342 isX11_dataBlock rfl (Nat.le_of_ble_eq_true rfl) rfl (sX11_dataBlock hG hq5) ?_
        obtain ⟨q6, hq6, h⟩ := am_bd h
        refine am_callVe (i := 0) (j := 60) (as := [.inl q5.1]) (rest := []) dX11_takeBlock_112 lkX11_clear ml_X11_345 imX11_clear seX11_clear rfl rfl (hG.m0 (by decide)) rfl (Nat.le_of_ble_eq_true rfl) rfl (sX11_clear hG hq6) ?_
        refine am_iload_n dX11_takeBlock_115 rfl ?_
        refine am_iload dX11_takeBlock_116 rfl ?_
        obtain ⟨q7, hq7, h⟩ := am_bd h
        refine am_callSx (as := [.inl l3, .inl l4]) (rest := []) dX11_takeBlock_118 lkX11_dataBlock ml_X11_342 isX11_dataBlock rfl (Nat.le_of_ble_eq_true rfl) rfl (sX11_dataBlock hG hq7) ?_
        cases h
        exact am_iret dX11_takeBlock_121 rfl rfl ⟨rfl, rfl⟩
def bX11_takeBlock_2 (n : Nat) : Nat → Int32 → Int32 → am_I → Option (Int32 × am_I)
  | 0, _, _, _ => none
  | fu + 1, l1, l2, I => (fun k2 => if (nI 8) ≤ l2 then (bX11_takeBlock_134 n I) else ((gX11_isOver n I).bind (fun q1 => if q1.1 = 0 then ((gX11_meets n ((nI 128) + (((l1 / (nI 16)) + l2) - ((l1 / (nI 16)) + l2) / (nI 8) * (nI 8))) (nI 2) q1.2).bind (fun q2 => if q2.1 = 0 then (some (nI 0, q2.2)) else (bX11_takeBlock_43 n k2 am_fu l1 l2 (((l1 / (nI 16)) + l2) - ((l1 / (nI 16)) + l2) / (nI 8) * (nI 8)) (nI 0) q2.2))) else (bX11_takeBlock_134 n q1.2)))) (bX11_takeBlock_2 n fu)
theorem tX11_takeBlock_2 {G : am_G} (hG : am_okM G) {d : Nat} : ∀ {fu : Nat} {l1 : Int32} {l2 : Int32} {I : am_I} {r : Int32 × am_I}, bX11_takeBlock_2 G.2.2.2.1 fu l1 l2 I = some r → am_J G (d + 2) mX11_takeBlock am_no (am_E (some r.1) r.2) 2 [some (.inr (0, 60)), some (.inl l1), some (.inl l2), none, none, none] [] I := by
  intro fu
  induction fu with
  | zero => intro l1 l2 I r h; cases h
  | succ fu ih =>
    intro l1 l2 I r h
    have hk2 : ∀ (l1 : Int32) (l2 : Int32) (I : am_I) (r : Int32 × am_I), bX11_takeBlock_2 G.2.2.2.1 fu l1 l2 I = some r → am_J G (d + 2) mX11_takeBlock am_no (am_E (some r.1) r.2) 2 [some (.inr (0, 60)), some (.inl l1), some (.inl l2), none, none, none] [] I := fun l1 l2 I r h => ih h
    unfold bX11_takeBlock_2 at h
    generalize bX11_takeBlock_2 G.2.2.2.1 fu = k2 at hk2 h
    dsimp only at h
    refine am_iload_n dX11_takeBlock_2 rfl ?_
    refine am_bipush (v := nI 8) dX11_takeBlock_3 (by decide) ?_
    refine am_icmp_ge (tgt := 134) dX11_takeBlock_5 rfl (fun c => ?_) (fun c => ?_)
    · rw [if_pos c] at h
      exact am_lwJ (lo' := [some (.inr (0, 60)), none, none, none, none, none]) ⟨rfl, trivial⟩ (tX11_takeBlock_134 hG h)
    · rw [if_neg c] at h
      refine am_aload_n dX11_takeBlock_8 rfl ?_
      obtain ⟨q1, hq1, h⟩ := am_bd h
      refine am_callVx (i := 0) (j := 60) (as := []) (rest := []) dX11_takeBlock_9 lkX11_isOver ml_X11_322 imX11_isOver seX11_isOver rfl rfl (hG.m0 (by decide)) rfl (Nat.le_of_ble_eq_true rfl) rfl (sX11_isOver hG hq1) ?_
      refine am_if_ne (tgt := 134) dX11_takeBlock_12 rfl (fun c => ?_) (fun c => ?_)
      · rw [if_neg c] at h
        exact am_lwJ (lo' := [some (.inr (0, 60)), none, none, none, none, none]) ⟨rfl, trivial⟩ (tX11_takeBlock_134 hG h)
      · rw [if_pos c] at h
        refine am_iload_n dX11_takeBlock_15 rfl ?_
        refine am_bipush (v := nI 16) dX11_takeBlock_16 (by decide) ?_
        refine am_idiv dX11_takeBlock_18 (by decide) ?_
        refine am_iload_n dX11_takeBlock_19 rfl ?_
        refine am_iadd dX11_takeBlock_20 ?_
        refine am_bipush (v := nI 8) dX11_takeBlock_21 (by decide) ?_
        refine am_irem dX11_takeBlock_23 (by decide) ?_
        refine am_istore_n dX11_takeBlock_24 (by decide) ?_
        refine am_aload_n dX11_takeBlock_25 rfl ?_
        refine am_sipush (v := nI 128) dX11_takeBlock_26 (by decide) ?_
        refine am_iload_n dX11_takeBlock_29 rfl ?_
        refine am_iadd dX11_takeBlock_30 ?_
        refine am_iconst (v := nI 2) dX11_takeBlock_31 (by decide) ?_
        obtain ⟨q2, hq2, h⟩ := am_bd h
        refine am_callVx (i := 0) (j := 60) (as := [.inl ((nI 128) + (((l1 / (nI 16)) + l2) - ((l1 / (nI 16)) + l2) / (nI 8) * (nI 8))), .inl (nI 2)]) (rest := []) dX11_takeBlock_32 lkX11_meets ml_X11_338 imX11_meets seX11_meets rfl rfl (hG.m0 (by decide)) rfl (Nat.le_of_ble_eq_true rfl) rfl (sX11_meets hG hq2) ?_
        refine am_if_ne (tgt := 40) dX11_takeBlock_35 rfl (fun c => ?_) (fun c => ?_)
        · rw [if_neg c] at h
          refine am_iconst (v := nI 0) dX11_takeBlock_40 (by decide) ?_
          refine am_istore dX11_takeBlock_41 (by decide) ?_
          exact am_lwJ (lo' := [some (.inr (0, 60)), some (.inl l1), some (.inl l2), some (.inl (((l1 / (nI 16)) + l2) - ((l1 / (nI 16)) + l2) / (nI 8) * (nI 8))), some (.inl (nI 0)), none]) ⟨rfl, rfl, rfl, rfl, rfl, trivial⟩ (tX11_takeBlock_43 hG hk2 h)
        · rw [if_pos c] at h
          refine am_iconst (v := nI 0) dX11_takeBlock_38 (by decide) ?_
          cases h
          exact am_iret dX11_takeBlock_39 rfl rfl ⟨rfl, rfl⟩
def bX11_takeBlock_0 (n : Nat) (l1 : Int32) (I : am_I) : Option (Int32 × am_I) := bX11_takeBlock_2 n am_fu l1 (nI 0) I
theorem tX11_takeBlock_0 {G : am_G} (hG : am_okM G) {d : Nat} {l1 : Int32} {I : am_I} {r : Int32 × am_I} (h : bX11_takeBlock_0 G.2.2.2.1 l1  I = some r) : am_J G (d + 2) mX11_takeBlock am_no (am_E (some r.1) r.2) 0 [some (.inr (0, 60)), some (.inl l1), none, none, none, none] [] I := by
  unfold bX11_takeBlock_0 at h
  refine am_iconst (v := nI 0) dX11_takeBlock_0 (by decide) ?_
  refine am_istore_n dX11_takeBlock_1 (by decide) ?_
  exact am_lwJ (lo' := [some (.inr (0, 60)), some (.inl l1), some (.inl (nI 0)), none, none, none]) ⟨rfl, rfl, rfl, trivial⟩ (tX11_takeBlock_2 hG h)
def gX11_takeBlock (n : Nat) (l1 : Int32) (I : am_I) : Option (Int32 × am_I) := bX11_takeBlock_0 n l1 I
theorem sX11_takeBlock {G : am_G} (hG : am_okM G) {d : Nat} {l1 : Int32} {I : am_I} {r : Int32 × am_I} (h : gX11_takeBlock G.2.2.2.1 l1 I = some r) : am_C G (d + 2) mX11_takeBlock [.inr (0, 60), .inl l1] I (am_E (some r.1) r.2) :=
  am_of (by decide +kernel) hG.nd (Nat.le_of_ble_eq_true rfl) (am_lwJ (lo' := [some (.inr (0, 60)), some (.inl l1), none, none, none, none]) ⟨rfl, rfl, trivial⟩ (tX11_takeBlock_0 hG h))
def bX11_blockFor_109 (n : Nat) (l3 : Int32) (I : am_I) : Option (Int32 × am_I) := some (l3, I)
theorem tX11_blockFor_109 {G : am_G} (hG : am_okM G) {d : Nat} {l3 : Int32} {I : am_I} {r : Int32 × am_I} (h : bX11_blockFor_109 G.2.2.2.1 l3  I = some r) : am_J G (d + 4) mX11_blockFor am_no (am_E (some r.1) r.2) 109 [none, none, none, some (.inl l3)] [] I := by
  unfold bX11_blockFor_109 at h
  refine am_iload_n dX11_blockFor_109 rfl ?_
  cases h
  exact am_iret dX11_blockFor_110 rfl rfl ⟨rfl, rfl⟩
def bX11_blockFor_40 (n : Nat) (l1 : Int32) (l2 : Int32) (I : am_I) : Option (Int32 × am_I) := (gX11_blockOf n l1 l2 I).bind (fun q1 => if q1.1 ≤ 0 then ((gX11_takeBlock n l1 q1.2).bind (fun q2 => (gX11_isOver n q2.2).bind (fun q3 => if q3.1 = 0 then (if (nI 128) ≤ l2 then ((gX11_ofInode n l1 (nI 11) q3.2).bind (fun q4 => (gX11_set n q4.1 ((l2 / (nI 16)) - (nI 8)) q2.1 q4.2).bind (fun q5 => bX11_blockFor_109 n q2.1 q5))) else ((gX11_setInode n l1 ((nI 3) + (l2 / (nI 16))) q2.1 q3.2).bind (fun q6 => bX11_blockFor_109 n q2.1 q6))) else (some (nI 0, q3.2))))) else (some (q1.1, q1.2)))
theorem tX11_blockFor_40 {G : am_G} (hG : am_okM G) {d : Nat} {l1 : Int32} {l2 : Int32} {I : am_I} {r : Int32 × am_I} (h : bX11_blockFor_40 G.2.2.2.1 l1 l2  I = some r) : am_J G (d + 4) mX11_blockFor am_no (am_E (some r.1) r.2) 40 [some (.inr (0, 60)), some (.inl l1), some (.inl l2), none] [] I := by
  unfold bX11_blockFor_40 at h
  refine am_aload_n dX11_blockFor_40 rfl ?_
  refine am_iload_n dX11_blockFor_41 rfl ?_
  refine am_iload_n dX11_blockFor_42 rfl ?_
  obtain ⟨q1, hq1, h⟩ := am_bd h
  refine am_callVx (i := 0) (j := 60) (as := [.inl l1, .inl l2]) (rest := []) dX11_blockFor_43 lkX11_blockOf ml_X11_354 imX11_blockOf seX11_blockOf rfl rfl (hG.m0 (by decide)) rfl (Nat.le_of_ble_eq_true rfl) rfl (sX11_blockOf hG hq1) ?_
  refine am_istore_n dX11_blockFor_46 (by decide) ?_
  refine am_iload_n dX11_blockFor_47 rfl ?_
  refine am_if_le (tgt := 53) dX11_blockFor_48 rfl (fun c => ?_) (fun c => ?_)
  · rw [if_pos c] at h
    refine am_aload_n dX11_blockFor_53 rfl ?_
    refine am_iload_n dX11_blockFor_54 rfl ?_
    obtain ⟨q2, hq2, h⟩ := am_bd h
    refine am_callVx (i := 0) (j := 60) (as := [.inl l1]) (rest := []) dX11_blockFor_55 lkX11_takeBlock ml_X11_357 imX11_takeBlock seX11_takeBlock rfl rfl (hG.m0 (by decide)) rfl (Nat.le_of_ble_eq_true rfl) rfl (sX11_takeBlock hG hq2) ?_
    refine am_istore_n dX11_blockFor_58 (by decide) ?_
    refine am_aload_n dX11_blockFor_59 rfl ?_
    obtain ⟨q3, hq3, h⟩ := am_bd h
    refine am_callVx (i := 0) (j := 60) (as := []) (rest := []) dX11_blockFor_60 lkX11_isOver ml_X11_322 imX11_isOver seX11_isOver rfl rfl (hG.m0 (by decide)) rfl (Nat.le_of_ble_eq_true rfl) rfl (sX11_isOver hG hq3) ?_
    refine am_if_eq (tgt := 68) dX11_blockFor_63 rfl (fun c => ?_) (fun c => ?_)
    · rw [if_pos c] at h
      refine am_iload_n dX11_blockFor_68 rfl ?_
      refine am_sipush (v := nI 128) dX11_blockFor_69 (by decide) ?_
      refine am_icmp_ge (tgt := 90) dX11_blockFor_72 rfl (fun c => ?_) (fun c => ?_)
      · rw [if_pos c] at h
        refine am_aload_n dX11_blockFor_90 rfl ?_
        refine am_aload_n dX11_blockFor_91 rfl ?_
        refine am_iload_n dX11_blockFor_92 rfl ?_
        refine am_bipush (v := nI 11) dX11_blockFor_93 (by decide) ?_
        obtain ⟨q4, hq4, h⟩ := am_bd h
        refine am_callVx (i := 0) (j := 60) (as := [.inl l1, .inl (nI 11)]) (rest := [.inr (0, 60)]) dX11_blockFor_95 lkX11_ofInode ml_X11_351 imX11_ofInode seX11_ofInode rfl rfl (hG.m0 (by decide)) rfl (Nat.le_of_ble_eq_true rfl) rfl (sX11_ofInode hG hq4) ?_
        refine am_iload_n dX11_blockFor_98 rfl ?_
        refine am_bipush (v := nI 16) dX11_blockFor_99 (by decide) ?_
        refine am_idiv dX11_blockFor_101 (by decide) ?_
        refine am_bipush (v := nI 8) dX11_blockFor_102 (by decide) ?_
        refine am_isub dX11_blockFor_104 ?_
        refine am_iload_n dX11_blockFor_105 rfl ?_
        obtain ⟨q5, hq5, h⟩ := am_bd h
        refine am_callVe (i := 0) (j := 60) (as := [.inl q4.1, .inl ((l2 / (nI 16)) - (nI 8)), .inl q2.1]) (rest := []) dX11_blockFor_106 lkX11_set ml_X11_335 imX11_set seX11_set rfl rfl (hG.m0 (by decide)) rfl (Nat.le_of_ble_eq_true rfl) rfl (sX11_set hG hq5) ?_
        exact am_lwJ (lo' := [none, none, none, some (.inl q2.1)]) ⟨rfl, trivial⟩ (tX11_blockFor_109 hG h)
      · rw [if_neg c] at h
        refine am_aload_n dX11_blockFor_75 rfl ?_
        refine am_iload_n dX11_blockFor_76 rfl ?_
        refine am_iconst (v := nI 3) dX11_blockFor_77 (by decide) ?_
        refine am_iload_n dX11_blockFor_78 rfl ?_
        refine am_bipush (v := nI 16) dX11_blockFor_79 (by decide) ?_
        refine am_idiv dX11_blockFor_81 (by decide) ?_
        refine am_iadd dX11_blockFor_82 ?_
        refine am_iload_n dX11_blockFor_83 rfl ?_
        obtain ⟨q6, hq6, h⟩ := am_bd h
        refine am_callVe (i := 0) (j := 60) (as := [.inl l1, .inl ((nI 3) + (l2 / (nI 16))), .inl q2.1]) (rest := []) dX11_blockFor_84 lkX11_setInode ml_X11_360 imX11_setInode seX11_setInode rfl rfl (hG.m0 (by decide)) rfl (Nat.le_of_ble_eq_true rfl) rfl (sX11_setInode hG hq6) ?_
        refine am_goto (tgt := 109) dX11_blockFor_87 rfl ?_
        exact am_lwJ (lo' := [none, none, none, some (.inl q2.1)]) ⟨rfl, trivial⟩ (tX11_blockFor_109 hG h)
    · rw [if_neg c] at h
      refine am_iconst (v := nI 0) dX11_blockFor_66 (by decide) ?_
      cases h
      exact am_iret dX11_blockFor_67 rfl rfl ⟨rfl, rfl⟩
  · rw [if_neg c] at h
    refine am_iload_n dX11_blockFor_51 rfl ?_
    cases h
    exact am_iret dX11_blockFor_52 rfl rfl ⟨rfl, rfl⟩
def bX11_blockFor_0 (n : Nat) (l1 : Int32) (l2 : Int32) (I : am_I) : Option (Int32 × am_I) := if l2 < (nI 128) then (bX11_blockFor_40 n l1 l2 I) else ((gX11_ofInode n l1 (nI 11) I).bind (fun q1 => if q1.1 = 0 then ((gX11_takeBlock n l1 q1.2).bind (fun q2 => (gX11_isOver n q2.2).bind (fun q3 => if q3.1 = 0 then ((gX11_setInode n l1 (nI 11) q2.1 q3.2).bind (fun q4 => bX11_blockFor_40 n l1 l2 q4)) else (some (nI 0, q3.2))))) else (bX11_blockFor_40 n l1 l2 q1.2)))
theorem tX11_blockFor_0 {G : am_G} (hG : am_okM G) {d : Nat} {l1 : Int32} {l2 : Int32} {I : am_I} {r : Int32 × am_I} (h : bX11_blockFor_0 G.2.2.2.1 l1 l2  I = some r) : am_J G (d + 4) mX11_blockFor am_no (am_E (some r.1) r.2) 0 [some (.inr (0, 60)), some (.inl l1), some (.inl l2), none] [] I := by
  unfold bX11_blockFor_0 at h
  refine am_iload_n dX11_blockFor_0 rfl ?_
  refine am_sipush (v := nI 128) dX11_blockFor_1 (by decide) ?_
  refine am_icmp_lt (tgt := 40) dX11_blockFor_4 rfl (fun c => ?_) (fun c => ?_)
  · rw [if_pos c] at h
    exact am_lwJ (lo' := [some (.inr (0, 60)), some (.inl l1), some (.inl l2), none]) ⟨rfl, rfl, rfl, trivial⟩ (tX11_blockFor_40 hG h)
  · rw [if_neg c] at h
    refine am_aload_n dX11_blockFor_7 rfl ?_
    refine am_iload_n dX11_blockFor_8 rfl ?_
    refine am_bipush (v := nI 11) dX11_blockFor_9 (by decide) ?_
    obtain ⟨q1, hq1, h⟩ := am_bd h
    refine am_callVx (i := 0) (j := 60) (as := [.inl l1, .inl (nI 11)]) (rest := []) dX11_blockFor_11 lkX11_ofInode ml_X11_351 imX11_ofInode seX11_ofInode rfl rfl (hG.m0 (by decide)) rfl (Nat.le_of_ble_eq_true rfl) rfl (sX11_ofInode hG hq1) ?_
    refine am_if_ne (tgt := 40) dX11_blockFor_14 rfl (fun c => ?_) (fun c => ?_)
    · rw [if_neg c] at h
      exact am_lwJ (lo' := [some (.inr (0, 60)), some (.inl l1), some (.inl l2), none]) ⟨rfl, rfl, rfl, trivial⟩ (tX11_blockFor_40 hG h)
    · rw [if_pos c] at h
      refine am_aload_n dX11_blockFor_17 rfl ?_
      refine am_iload_n dX11_blockFor_18 rfl ?_
      obtain ⟨q2, hq2, h⟩ := am_bd h
      refine am_callVx (i := 0) (j := 60) (as := [.inl l1]) (rest := []) dX11_blockFor_19 lkX11_takeBlock ml_X11_357 imX11_takeBlock seX11_takeBlock rfl rfl (hG.m0 (by decide)) rfl (Nat.le_of_ble_eq_true rfl) rfl (sX11_takeBlock hG hq2) ?_
      refine am_istore_n dX11_blockFor_22 (by decide) ?_
      refine am_aload_n dX11_blockFor_23 rfl ?_
      obtain ⟨q3, hq3, h⟩ := am_bd h
      refine am_callVx (i := 0) (j := 60) (as := []) (rest := []) dX11_blockFor_24 lkX11_isOver ml_X11_322 imX11_isOver seX11_isOver rfl rfl (hG.m0 (by decide)) rfl (Nat.le_of_ble_eq_true rfl) rfl (sX11_isOver hG hq3) ?_
      refine am_if_eq (tgt := 32) dX11_blockFor_27 rfl (fun c => ?_) (fun c => ?_)
      · rw [if_pos c] at h
        refine am_aload_n dX11_blockFor_32 rfl ?_
        refine am_iload_n dX11_blockFor_33 rfl ?_
        refine am_bipush (v := nI 11) dX11_blockFor_34 (by decide) ?_
        refine am_iload_n dX11_blockFor_36 rfl ?_
        obtain ⟨q4, hq4, h⟩ := am_bd h
        refine am_callVe (i := 0) (j := 60) (as := [.inl l1, .inl (nI 11), .inl q2.1]) (rest := []) dX11_blockFor_37 lkX11_setInode ml_X11_360 imX11_setInode seX11_setInode rfl rfl (hG.m0 (by decide)) rfl (Nat.le_of_ble_eq_true rfl) rfl (sX11_setInode hG hq4) ?_
        exact am_lwJ (lo' := [some (.inr (0, 60)), some (.inl l1), some (.inl l2), none]) ⟨rfl, rfl, rfl, trivial⟩ (tX11_blockFor_40 hG h)
      · rw [if_neg c] at h
        refine am_iconst (v := nI 0) dX11_blockFor_30 (by decide) ?_
        cases h
        exact am_iret dX11_blockFor_31 rfl rfl ⟨rfl, rfl⟩
def gX11_blockFor (n : Nat) (l1 : Int32) (l2 : Int32) (I : am_I) : Option (Int32 × am_I) := bX11_blockFor_0 n l1 l2 I
theorem sX11_blockFor {G : am_G} (hG : am_okM G) {d : Nat} {l1 : Int32} {l2 : Int32} {I : am_I} {r : Int32 × am_I} (h : gX11_blockFor G.2.2.2.1 l1 l2 I = some r) : am_C G (d + 4) mX11_blockFor [.inr (0, 60), .inl l1, .inl l2] I (am_E (some r.1) r.2) :=
  am_of (by decide +kernel) hG.nd (Nat.le_of_ble_eq_true rfl) (am_lwJ (lo' := [some (.inr (0, 60)), some (.inl l1), some (.inl l2), none]) ⟨rfl, rfl, rfl, trivial⟩ (tX11_blockFor_0 hG h))
def bX11_setEntry_40 (n : Nat) (I : am_I) : Option (am_I) := some I
theorem tX11_setEntry_40 {G : am_G} (hG : am_okM G) {d : Nat} {I : am_I} {r : am_I} (h : bX11_setEntry_40 G.2.2.2.1  I = some r) : am_J G (d + 5) mX11_setEntry am_no (am_E none r) 40 [none, none, none, none, none, none] [] I := by
  unfold bX11_setEntry_40 at h
  cases h
  exact am_vret dX11_setEntry_40 rfl ⟨rfl, rfl⟩
def bX11_setEntry_0 (n : Nat) (l1 : Int32) (l2 : Int32) (l3 : Int32) (l4 : Int32) (I : am_I) : Option (am_I) := (gX11_blockFor n l1 l2 I).bind (fun q1 => (gX11_isOver n q1.2).bind (fun q2 => if q2.1 = 0 then ((gX11_set n q1.1 (l2 - l2 / (nI 16) * (nI 16)) l3 q2.2).bind (fun q3 => (gX11_set n q1.1 ((l2 - l2 / (nI 16) * (nI 16)) + (nI 1)) l4 q3).bind (fun q4 => bX11_setEntry_40 n q4))) else (bX11_setEntry_40 n q2.2)))
theorem tX11_setEntry_0 {G : am_G} (hG : am_okM G) {d : Nat} {l1 : Int32} {l2 : Int32} {l3 : Int32} {l4 : Int32} {I : am_I} {r : am_I} (h : bX11_setEntry_0 G.2.2.2.1 l1 l2 l3 l4  I = some r) : am_J G (d + 5) mX11_setEntry am_no (am_E none r) 0 [some (.inr (0, 60)), some (.inl l1), some (.inl l2), some (.inl l3), some (.inl l4), none] [] I := by
  unfold bX11_setEntry_0 at h
  refine am_aload_n dX11_setEntry_0 rfl ?_
  refine am_iload_n dX11_setEntry_1 rfl ?_
  refine am_iload_n dX11_setEntry_2 rfl ?_
  obtain ⟨q1, hq1, h⟩ := am_bd h
  refine am_callVx (i := 0) (j := 60) (as := [.inl l1, .inl l2]) (rest := []) dX11_setEntry_3 lkX11_blockFor ml_X11_366 imX11_blockFor seX11_blockFor rfl rfl (hG.m0 (by decide)) rfl (Nat.le_of_ble_eq_true rfl) rfl (sX11_blockFor hG hq1) ?_
  refine am_istore dX11_setEntry_6 (by decide) ?_
  refine am_aload_n dX11_setEntry_8 rfl ?_
  obtain ⟨q2, hq2, h⟩ := am_bd h
  refine am_callVx (i := 0) (j := 60) (as := []) (rest := []) dX11_setEntry_9 lkX11_isOver ml_X11_322 imX11_isOver seX11_isOver rfl rfl (hG.m0 (by decide)) rfl (Nat.le_of_ble_eq_true rfl) rfl (sX11_isOver hG hq2) ?_
  refine am_if_ne (tgt := 40) dX11_setEntry_12 rfl (fun c => ?_) (fun c => ?_)
  · rw [if_neg c] at h
    exact am_lwJ (lo' := [none, none, none, none, none, none]) trivial (tX11_setEntry_40 hG h)
  · rw [if_pos c] at h
    refine am_aload_n dX11_setEntry_15 rfl ?_
    refine am_iload dX11_setEntry_16 rfl ?_
    refine am_iload_n dX11_setEntry_18 rfl ?_
    refine am_bipush (v := nI 16) dX11_setEntry_19 (by decide) ?_
    refine am_irem dX11_setEntry_21 (by decide) ?_
    refine am_iload_n dX11_setEntry_22 rfl ?_
    obtain ⟨q3, hq3, h⟩ := am_bd h
    refine am_callVe (i := 0) (j := 60) (as := [.inl q1.1, .inl (l2 - l2 / (nI 16) * (nI 16)), .inl l3]) (rest := []) dX11_setEntry_23 lkX11_set ml_X11_335 imX11_set seX11_set rfl rfl (hG.m0 (by decide)) rfl (Nat.le_of_ble_eq_true rfl) rfl (sX11_set hG hq3) ?_
    refine am_aload_n dX11_setEntry_26 rfl ?_
    refine am_iload dX11_setEntry_27 rfl ?_
    refine am_iload_n dX11_setEntry_29 rfl ?_
    refine am_bipush (v := nI 16) dX11_setEntry_30 (by decide) ?_
    refine am_irem dX11_setEntry_32 (by decide) ?_
    refine am_iconst (v := nI 1) dX11_setEntry_33 (by decide) ?_
    refine am_iadd dX11_setEntry_34 ?_
    refine am_iload dX11_setEntry_35 rfl ?_
    obtain ⟨q4, hq4, h⟩ := am_bd h
    refine am_callVe (i := 0) (j := 60) (as := [.inl q1.1, .inl ((l2 - l2 / (nI 16) * (nI 16)) + (nI 1)), .inl l4]) (rest := []) dX11_setEntry_37 lkX11_set ml_X11_335 imX11_set seX11_set rfl rfl (hG.m0 (by decide)) rfl (Nat.le_of_ble_eq_true rfl) rfl (sX11_set hG hq4) ?_
    exact am_lwJ (lo' := [none, none, none, none, none, none]) trivial (tX11_setEntry_40 hG h)
def gX11_setEntry (n : Nat) (l1 : Int32) (l2 : Int32) (l3 : Int32) (l4 : Int32) (I : am_I) : Option (am_I) := bX11_setEntry_0 n l1 l2 l3 l4 I
theorem sX11_setEntry {G : am_G} (hG : am_okM G) {d : Nat} {l1 : Int32} {l2 : Int32} {l3 : Int32} {l4 : Int32} {I : am_I} {r : am_I} (h : gX11_setEntry G.2.2.2.1 l1 l2 l3 l4 I = some r) : am_C G (d + 5) mX11_setEntry [.inr (0, 60), .inl l1, .inl l2, .inl l3, .inl l4] I (am_E none r) :=
  am_of (by decide +kernel) hG.nd (Nat.le_of_ble_eq_true rfl) (am_lwJ (lo' := [some (.inr (0, 60)), some (.inl l1), some (.inl l2), some (.inl l3), some (.inl l4), none]) ⟨rfl, rfl, rfl, rfl, rfl, trivial⟩ (tX11_setEntry_0 hG h))
def bX11_putEntry_88 (n : Nat) (I : am_I) : Option (am_I) := some I
theorem tX11_putEntry_88 {G : am_G} (hG : am_okM G) {d : Nat} {I : am_I} {r : am_I} (h : bX11_putEntry_88 G.2.2.2.1  I = some r) : am_J G (d + 6) mX11_putEntry am_no (am_E none r) 88 [none, none, none, none, none, none] [] I := by
  unfold bX11_putEntry_88 at h
  cases h
  exact am_vret dX11_putEntry_88 rfl ⟨rfl, rfl⟩
def bX11_putEntry_60 (n : Nat) (l1 : Int32) (l2 : Int32) (l3 : Int32) (l4 : Int32) (l5 : Int32) (s0 : Int32) (s1 : Int32) (I : am_I) : Option (am_I) := (gX11_setEntry n s1 s0 l2 l3 I).bind (fun q1 => if l4 = (-1 : Int32) then ((gX11_isOver n q1).bind (fun q2 => if q2.1 = 0 then ((gX11_setInode n l1 (nI 2) (l5 + (nI 2)) q2.2).bind (fun q3 => bX11_putEntry_88 n q3)) else (bX11_putEntry_88 n q2.2))) else (bX11_putEntry_88 n q1))
theorem tX11_putEntry_60 {G : am_G} (hG : am_okM G) {d : Nat} {l1 : Int32} {l2 : Int32} {l3 : Int32} {l4 : Int32} {l5 : Int32} {s0 : Int32} {s1 : Int32} {I : am_I} {r : am_I} (h : bX11_putEntry_60 G.2.2.2.1 l1 l2 l3 l4 l5 s0 s1  I = some r) : am_J G (d + 6) mX11_putEntry am_no (am_E none r) 60 [some (.inr (0, 60)), some (.inl l1), some (.inl l2), some (.inl l3), some (.inl l4), some (.inl l5)] [.inl s0, .inl s1, .inr (0, 60)] I := by
  unfold bX11_putEntry_60 at h
  refine am_iload_n dX11_putEntry_60 rfl ?_
  refine am_iload_n dX11_putEntry_61 rfl ?_
  obtain ⟨q1, hq1, h⟩ := am_bd h
  refine am_callVe (i := 0) (j := 60) (as := [.inl s1, .inl s0, .inl l2, .inl l3]) (rest := []) dX11_putEntry_62 lkX11_setEntry ml_X11_372 imX11_setEntry seX11_setEntry rfl rfl (hG.m0 (by decide)) rfl (Nat.le_of_ble_eq_true rfl) rfl (sX11_setEntry hG hq1) ?_
  refine am_iload dX11_putEntry_65 rfl ?_
  refine am_iconst (v := (-1 : Int32)) dX11_putEntry_67 (by decide) ?_
  refine am_icmp_ne (tgt := 88) dX11_putEntry_68 rfl (fun c => ?_) (fun c => ?_)
  · rw [if_neg c] at h
    exact am_lwJ (lo' := [none, none, none, none, none, none]) trivial (tX11_putEntry_88 hG h)
  · rw [if_pos c] at h
    refine am_aload_n dX11_putEntry_71 rfl ?_
    obtain ⟨q2, hq2, h⟩ := am_bd h
    refine am_callVx (i := 0) (j := 60) (as := []) (rest := []) dX11_putEntry_72 lkX11_isOver ml_X11_322 imX11_isOver seX11_isOver rfl rfl (hG.m0 (by decide)) rfl (Nat.le_of_ble_eq_true rfl) rfl (sX11_isOver hG hq2) ?_
    refine am_if_ne (tgt := 88) dX11_putEntry_75 rfl (fun c => ?_) (fun c => ?_)
    · rw [if_neg c] at h
      exact am_lwJ (lo' := [none, none, none, none, none, none]) trivial (tX11_putEntry_88 hG h)
    · rw [if_pos c] at h
      refine am_aload_n dX11_putEntry_78 rfl ?_
      refine am_iload_n dX11_putEntry_79 rfl ?_
      refine am_iconst (v := nI 2) dX11_putEntry_80 (by decide) ?_
      refine am_iload dX11_putEntry_81 rfl ?_
      refine am_iconst (v := nI 2) dX11_putEntry_83 (by decide) ?_
      refine am_iadd dX11_putEntry_84 ?_
      obtain ⟨q3, hq3, h⟩ := am_bd h
      refine am_callVe (i := 0) (j := 60) (as := [.inl l1, .inl (nI 2), .inl (l5 + (nI 2))]) (rest := []) dX11_putEntry_85 lkX11_setInode ml_X11_360 imX11_setInode seX11_setInode rfl rfl (hG.m0 (by decide)) rfl (Nat.le_of_ble_eq_true rfl) rfl (sX11_setInode hG hq3) ?_
      exact am_lwJ (lo' := [none, none, none, none, none, none]) trivial (tX11_putEntry_88 hG h)
def bX11_putEntry_45 (n : Nat) (l1 : Int32) (l2 : Int32) (l3 : Int32) (l4 : Int32) (l5 : Int32) (I : am_I) : Option (am_I) := if l4 = (-1 : Int32) then (bX11_putEntry_60 n l1 l2 l3 l4 l5 l5 l1 I) else (bX11_putEntry_60 n l1 l2 l3 l4 l5 l4 l1 I)
theorem tX11_putEntry_45 {G : am_G} (hG : am_okM G) {d : Nat} {l1 : Int32} {l2 : Int32} {l3 : Int32} {l4 : Int32} {l5 : Int32} {I : am_I} {r : am_I} (h : bX11_putEntry_45 G.2.2.2.1 l1 l2 l3 l4 l5  I = some r) : am_J G (d + 6) mX11_putEntry am_no (am_E none r) 45 [some (.inr (0, 60)), some (.inl l1), some (.inl l2), some (.inl l3), some (.inl l4), some (.inl l5)] [] I := by
  unfold bX11_putEntry_45 at h
  refine am_aload_n dX11_putEntry_45 rfl ?_
  refine am_iload_n dX11_putEntry_46 rfl ?_
  refine am_iload dX11_putEntry_47 rfl ?_
  refine am_iconst (v := (-1 : Int32)) dX11_putEntry_49 (by decide) ?_
  refine am_icmp_ne (tgt := 58) dX11_putEntry_50 rfl (fun c => ?_) (fun c => ?_)
  · rw [if_neg c] at h
    refine am_iload dX11_putEntry_58 rfl ?_
    exact am_lwJ (lo' := [some (.inr (0, 60)), some (.inl l1), some (.inl l2), some (.inl l3), some (.inl l4), some (.inl l5)]) ⟨rfl, rfl, rfl, rfl, rfl, rfl, trivial⟩ (tX11_putEntry_60 hG h)
  · rw [if_pos c] at h
    refine am_iload dX11_putEntry_53 rfl ?_
    refine am_goto (tgt := 60) dX11_putEntry_55 rfl ?_
    exact am_lwJ (lo' := [some (.inr (0, 60)), some (.inl l1), some (.inl l2), some (.inl l3), some (.inl l4), some (.inl l5)]) ⟨rfl, rfl, rfl, rfl, rfl, rfl, trivial⟩ (tX11_putEntry_60 hG h)
def bX11_putEntry_0 (n : Nat) (l1 : Int32) (l2 : Int32) (l3 : Int32) (I : am_I) : Option (am_I) := (gX11_isOver n I).bind (fun q1 => if q1.1 = 0 then ((gX11_find n l1 (nI 0) q1.2).bind (fun q2 => (gX11_ofInode n l1 (nI 2) q2.2).bind (fun q3 => if q2.1 = (-1 : Int32) then (if q3.1 = (nI 384) then ((gX11_fail n (-7 : Int32) q3.2).bind (fun q4 => some q4)) else (bX11_putEntry_45 n l1 l2 l3 q2.1 q3.1 q3.2)) else (bX11_putEntry_45 n l1 l2 l3 q2.1 q3.1 q3.2)))) else (some q1.2))
theorem tX11_putEntry_0 {G : am_G} (hG : am_okM G) {d : Nat} {l1 : Int32} {l2 : Int32} {l3 : Int32} {I : am_I} {r : am_I} (h : bX11_putEntry_0 G.2.2.2.1 l1 l2 l3  I = some r) : am_J G (d + 6) mX11_putEntry am_no (am_E none r) 0 [some (.inr (0, 60)), some (.inl l1), some (.inl l2), some (.inl l3), none, none] [] I := by
  unfold bX11_putEntry_0 at h
  refine am_aload_n dX11_putEntry_0 rfl ?_
  obtain ⟨q1, hq1, h⟩ := am_bd h
  refine am_callVx (i := 0) (j := 60) (as := []) (rest := []) dX11_putEntry_1 lkX11_isOver ml_X11_322 imX11_isOver seX11_isOver rfl rfl (hG.m0 (by decide)) rfl (Nat.le_of_ble_eq_true rfl) rfl (sX11_isOver hG hq1) ?_
  refine am_if_eq (tgt := 8) dX11_putEntry_4 rfl (fun c => ?_) (fun c => ?_)
  · rw [if_pos c] at h
    refine am_aload_n dX11_putEntry_8 rfl ?_
    refine am_iload_n dX11_putEntry_9 rfl ?_
    refine am_iconst (v := nI 0) dX11_putEntry_10 (by decide) ?_
    obtain ⟨q2, hq2, h⟩ := am_bd h
    refine am_callVx (i := 0) (j := 60) (as := [.inl l1, .inl (nI 0)]) (rest := []) dX11_putEntry_11 lkX11_find ml_X11_369 imX11_find seX11_find rfl rfl (hG.m0 (by decide)) rfl (Nat.le_of_ble_eq_true rfl) rfl (sX11_find hG hq2) ?_
    refine am_istore dX11_putEntry_14 (by decide) ?_
    refine am_aload_n dX11_putEntry_16 rfl ?_
    refine am_iload_n dX11_putEntry_17 rfl ?_
    refine am_iconst (v := nI 2) dX11_putEntry_18 (by decide) ?_
    obtain ⟨q3, hq3, h⟩ := am_bd h
    refine am_callVx (i := 0) (j := 60) (as := [.inl l1, .inl (nI 2)]) (rest := []) dX11_putEntry_19 lkX11_ofInode ml_X11_351 imX11_ofInode seX11_ofInode rfl rfl (hG.m0 (by decide)) rfl (Nat.le_of_ble_eq_true rfl) rfl (sX11_ofInode hG hq3) ?_
    refine am_istore dX11_putEntry_22 (by decide) ?_
    refine am_iload dX11_putEntry_24 rfl ?_
    refine am_iconst (v := (-1 : Int32)) dX11_putEntry_26 (by decide) ?_
    refine am_icmp_ne (tgt := 45) dX11_putEntry_27 rfl (fun c => ?_) (fun c => ?_)
    · rw [if_neg c] at h
      exact am_lwJ (lo' := [some (.inr (0, 60)), some (.inl l1), some (.inl l2), some (.inl l3), some (.inl q2.1), some (.inl q3.1)]) ⟨rfl, rfl, rfl, rfl, rfl, rfl, trivial⟩ (tX11_putEntry_45 hG h)
    · rw [if_pos c] at h
      refine am_iload dX11_putEntry_30 rfl ?_
      refine am_sipush (v := nI 384) dX11_putEntry_32 (by decide) ?_
      refine am_icmp_ne (tgt := 45) dX11_putEntry_35 rfl (fun c => ?_) (fun c => ?_)
      · rw [if_neg c] at h
        exact am_lwJ (lo' := [some (.inr (0, 60)), some (.inl l1), some (.inl l2), some (.inl l3), some (.inl q2.1), some (.inl q3.1)]) ⟨rfl, rfl, rfl, rfl, rfl, rfl, trivial⟩ (tX11_putEntry_45 hG h)
      · rw [if_pos c] at h
        refine am_aload_n dX11_putEntry_38 rfl ?_
        refine am_bipush (v := (-7 : Int32)) dX11_putEntry_39 (by decide) ?_
        obtain ⟨q4, hq4, h⟩ := am_bd h
        refine am_callVe (i := 0) (j := 60) (as := [.inl (-7 : Int32)]) (rest := []) dX11_putEntry_41 lkX11_fail ml_X11_348 imX11_fail seX11_fail rfl rfl (hG.m0 (by decide)) rfl (Nat.le_of_ble_eq_true rfl) rfl (sX11_fail hG hq4) ?_
        cases h
        exact am_vret dX11_putEntry_44 rfl ⟨rfl, rfl⟩
  · rw [if_neg c] at h
    cases h
    exact am_vret dX11_putEntry_7 rfl ⟨rfl, rfl⟩
def gX11_putEntry (n : Nat) (l1 : Int32) (l2 : Int32) (l3 : Int32) (I : am_I) : Option (am_I) := bX11_putEntry_0 n l1 l2 l3 I
theorem sX11_putEntry {G : am_G} (hG : am_okM G) {d : Nat} {l1 : Int32} {l2 : Int32} {l3 : Int32} {I : am_I} {r : am_I} (h : gX11_putEntry G.2.2.2.1 l1 l2 l3 I = some r) : am_C G (d + 6) mX11_putEntry [.inr (0, 60), .inl l1, .inl l2, .inl l3] I (am_E none r) :=
  am_of (by decide +kernel) hG.nd (Nat.le_of_ble_eq_true rfl) (am_lwJ (lo' := [some (.inr (0, 60)), some (.inl l1), some (.inl l2), some (.inl l3), none, none]) ⟨rfl, rfl, rfl, rfl, trivial⟩ (tX11_putEntry_0 hG h))
def bX11_tryMake_54 (n : Nat) (I : am_I) : Option (am_I) := some I
theorem tX11_tryMake_54 {G : am_G} (hG : am_okM G) {d : Nat} {I : am_I} {r : am_I} (h : bX11_tryMake_54 G.2.2.2.1  I = some r) : am_J G (d + 7) mX11_tryMake am_no (am_E none r) 54 [none, none, none, none, none] [] I := by
  unfold bX11_tryMake_54 at h
  cases h
  exact am_vret dX11_tryMake_54 rfl ⟨rfl, rfl⟩
def bX11_tryMake_0 (n : Nat) (l1 : Int32) (l2 : Int32) (l3 : Int32) (I : am_I) : Option (am_I) := (gX11_isOf n l1 (nI 2) (nI 2) (-2 : Int32) I).bind (fun q1 => if q1.1 = 0 then (some q1.2) else ((gX11_find n l1 l2 q1.2).bind (fun q2 => if q2.1 = (-1 : Int32) then ((gX11_takeInode n l1 q2.2).bind (fun q3 => (gX11_isOver n q3.2).bind (fun q4 => if q4.1 = 0 then ((gX11_meets n q3.1 (nI 2) q4.2).bind (fun q5 => if q5.1 = 0 then (bX11_tryMake_54 n q5.2) else ((gX11_inodeBlock n q3.1 q5.2).bind (fun q6 => (gX11_clear n q6.1 q6.2).bind (fun q7 => (gX11_setInode n q3.1 (nI 0) l3 q7).bind (fun q8 => (gX11_setInode n q3.1 (nI 1) (nI 1) q8).bind (fun q9 => (gX11_putEntry n l1 l2 q3.1 q9).bind (fun q10 => am_lt (am_up q10 0 60 55 q3.1) (fun I11 => some I11))))))))) else (bX11_tryMake_54 n q4.2)))) else ((gX11_fail n (-6 : Int32) q2.2).bind (fun q12 => some q12)))))
theorem tX11_tryMake_0 {G : am_G} (hG : am_okM G) {d : Nat} {l1 : Int32} {l2 : Int32} {l3 : Int32} {I : am_I} {r : am_I} (h : bX11_tryMake_0 G.2.2.2.1 l1 l2 l3  I = some r) : am_J G (d + 7) mX11_tryMake am_no (am_E none r) 0 [some (.inr (0, 60)), some (.inl l1), some (.inl l2), some (.inl l3), none] [] I := by
  unfold bX11_tryMake_0 at h
  refine am_aload_n dX11_tryMake_0 rfl ?_
  refine am_iload_n dX11_tryMake_1 rfl ?_
  refine am_iconst (v := nI 2) dX11_tryMake_2 (by decide) ?_
  refine am_iconst (v := nI 2) dX11_tryMake_3 (by decide) ?_
  refine am_bipush (v := (-2 : Int32)) dX11_tryMake_4 (by decide) ?_
  obtain ⟨q1, hq1, h⟩ := am_bd h
  refine am_callVx (i := 0) (j := 60) (as := [.inl l1, .inl (nI 2), .inl (nI 2), .inl (-2 : Int32)]) (rest := []) dX11_tryMake_6 lkX11_isOf ml_X11_390 imX11_isOf seX11_isOf rfl rfl (hG.m0 (by decide)) rfl (Nat.le_of_ble_eq_true rfl) rfl (sX11_isOf hG hq1) ?_
  refine am_if_ne (tgt := 13) dX11_tryMake_9 rfl (fun c => ?_) (fun c => ?_)
  · rw [if_neg c] at h
    refine am_aload_n dX11_tryMake_13 rfl ?_
    refine am_iload_n dX11_tryMake_14 rfl ?_
    refine am_iload_n dX11_tryMake_15 rfl ?_
    obtain ⟨q2, hq2, h⟩ := am_bd h
    refine am_callVx (i := 0) (j := 60) (as := [.inl l1, .inl l2]) (rest := []) dX11_tryMake_16 lkX11_find ml_X11_369 imX11_find seX11_find rfl rfl (hG.m0 (by decide)) rfl (Nat.le_of_ble_eq_true rfl) rfl (sX11_find hG hq2) ?_
    refine am_iconst (v := (-1 : Int32)) dX11_tryMake_19 (by decide) ?_
    refine am_icmp_eq (tgt := 30) dX11_tryMake_20 rfl (fun c => ?_) (fun c => ?_)
    · rw [if_pos c] at h
      refine am_aload_n dX11_tryMake_30 rfl ?_
      refine am_iload_n dX11_tryMake_31 rfl ?_
      obtain ⟨q3, hq3, h⟩ := am_bd h
      refine am_callVx (i := 0) (j := 60) (as := [.inl l1]) (rest := []) dX11_tryMake_32 lkX11_takeInode ml_X11_416 imX11_takeInode seX11_takeInode rfl rfl (hG.m0 (by decide)) rfl (Nat.le_of_ble_eq_true rfl) rfl (sX11_takeInode hG hq3) ?_
      refine am_istore dX11_tryMake_35 (by decide) ?_
      refine am_aload_n dX11_tryMake_37 rfl ?_
      obtain ⟨q4, hq4, h⟩ := am_bd h
      refine am_callVx (i := 0) (j := 60) (as := []) (rest := []) dX11_tryMake_38 lkX11_isOver ml_X11_322 imX11_isOver seX11_isOver rfl rfl (hG.m0 (by decide)) rfl (Nat.le_of_ble_eq_true rfl) rfl (sX11_isOver hG hq4) ?_
      refine am_if_ne (tgt := 54) dX11_tryMake_41 rfl (fun c => ?_) (fun c => ?_)
      · rw [if_neg c] at h
        exact am_lwJ (lo' := [none, none, none, none, none]) trivial (tX11_tryMake_54 hG h)
      · rw [if_pos c] at h
        refine am_aload_n dX11_tryMake_44 rfl ?_
        refine am_iload dX11_tryMake_45 rfl ?_
        refine am_iconst (v := nI 2) dX11_tryMake_47 (by decide) ?_
        obtain ⟨q5, hq5, h⟩ := am_bd h
        refine am_callVx (i := 0) (j := 60) (as := [.inl q3.1, .inl (nI 2)]) (rest := []) dX11_tryMake_48 lkX11_meets ml_X11_338 imX11_meets seX11_meets rfl rfl (hG.m0 (by decide)) rfl (Nat.le_of_ble_eq_true rfl) rfl (sX11_meets hG hq5) ?_
        refine am_if_ne (tgt := 55) dX11_tryMake_51 rfl (fun c => ?_) (fun c => ?_)
        · rw [if_neg c] at h
          refine am_aload_n dX11_tryMake_55 rfl ?_
          refine am_iload dX11_tryMake_56 rfl ?_
          obtain ⟨q6, hq6, h⟩ := am_bd h
          refine am_callSx (as := [.inl q3.1]) (rest := [.inr (0, 60)]) dX11_tryMake_58 lkX11_inodeBlock ml_X11_185 isX11_inodeBlock rfl (Nat.le_of_ble_eq_true rfl) rfl (sX11_inodeBlock hG hq6) ?_
          obtain ⟨q7, hq7, h⟩ := am_bd h
          refine am_callVe (i := 0) (j := 60) (as := [.inl q6.1]) (rest := []) dX11_tryMake_61 lkX11_clear ml_X11_345 imX11_clear seX11_clear rfl rfl (hG.m0 (by decide)) rfl (Nat.le_of_ble_eq_true rfl) rfl (sX11_clear hG hq7) ?_
          refine am_aload_n dX11_tryMake_64 rfl ?_
          refine am_iload dX11_tryMake_65 rfl ?_
          refine am_iconst (v := nI 0) dX11_tryMake_67 (by decide) ?_
          refine am_iload_n dX11_tryMake_68 rfl ?_
          obtain ⟨q8, hq8, h⟩ := am_bd h
          refine am_callVe (i := 0) (j := 60) (as := [.inl q3.1, .inl (nI 0), .inl l3]) (rest := []) dX11_tryMake_69 lkX11_setInode ml_X11_360 imX11_setInode seX11_setInode rfl rfl (hG.m0 (by decide)) rfl (Nat.le_of_ble_eq_true rfl) rfl (sX11_setInode hG hq8) ?_
          refine am_aload_n dX11_tryMake_72 rfl ?_
          refine am_iload dX11_tryMake_73 rfl ?_
          refine am_iconst (v := nI 1) dX11_tryMake_75 (by decide) ?_
          refine am_iconst (v := nI 1) dX11_tryMake_76 (by decide) ?_
          obtain ⟨q9, hq9, h⟩ := am_bd h
          refine am_callVe (i := 0) (j := 60) (as := [.inl q3.1, .inl (nI 1), .inl (nI 1)]) (rest := []) dX11_tryMake_77 lkX11_setInode ml_X11_360 imX11_setInode seX11_setInode rfl rfl (hG.m0 (by decide)) rfl (Nat.le_of_ble_eq_true rfl) rfl (sX11_setInode hG hq9) ?_
          refine am_aload_n dX11_tryMake_80 rfl ?_
          refine am_iload_n dX11_tryMake_81 rfl ?_
          refine am_iload_n dX11_tryMake_82 rfl ?_
          refine am_iload dX11_tryMake_83 rfl ?_
          obtain ⟨q10, hq10, h⟩ := am_bd h
          refine am_callVe (i := 0) (j := 60) (as := [.inl l1, .inl l2, .inl q3.1]) (rest := []) dX11_tryMake_85 lkX11_putEntry ml_X11_419 imX11_putEntry seX11_putEntry rfl rfl (hG.m0 (by decide)) rfl (Nat.le_of_ble_eq_true rfl) rfl (sX11_putEntry hG hq10) ?_
          refine am_aload_n dX11_tryMake_88 rfl ?_
          refine am_iload dX11_tryMake_89 rfl ?_
          refine am_put (x := q3.1) dX11_tryMake_91 fp_11_316 (hG.m0 (by decide)) (Nat.le_of_ble_eq_true rfl) rfl ?_
          obtain ⟨I11, hI11, h⟩ := am_lt_some h
          refine am_st10 hI11 ?_
          cases h
          exact am_vret dX11_tryMake_94 rfl ⟨rfl, rfl⟩
        · rw [if_pos c] at h
          exact am_lwJ (lo' := [none, none, none, none, none]) trivial (tX11_tryMake_54 hG h)
    · rw [if_neg c] at h
      refine am_aload_n dX11_tryMake_23 rfl ?_
      refine am_bipush (v := (-6 : Int32)) dX11_tryMake_24 (by decide) ?_
      obtain ⟨q12, hq12, h⟩ := am_bd h
      refine am_callVe (i := 0) (j := 60) (as := [.inl (-6 : Int32)]) (rest := []) dX11_tryMake_26 lkX11_fail ml_X11_348 imX11_fail seX11_fail rfl rfl (hG.m0 (by decide)) rfl (Nat.le_of_ble_eq_true rfl) rfl (sX11_fail hG hq12) ?_
      cases h
      exact am_vret dX11_tryMake_29 rfl ⟨rfl, rfl⟩
  · rw [if_pos c] at h
    cases h
    exact am_vret dX11_tryMake_12 rfl ⟨rfl, rfl⟩
def gX11_tryMake (n : Nat) (l1 : Int32) (l2 : Int32) (l3 : Int32) (I : am_I) : Option (am_I) := bX11_tryMake_0 n l1 l2 l3 I
theorem sX11_tryMake {G : am_G} (hG : am_okM G) {d : Nat} {l1 : Int32} {l2 : Int32} {l3 : Int32} {I : am_I} {r : am_I} (h : gX11_tryMake G.2.2.2.1 l1 l2 l3 I = some r) : am_C G (d + 7) mX11_tryMake [.inr (0, 60), .inl l1, .inl l2, .inl l3] I (am_E none r) :=
  am_of (by decide +kernel) hG.nd (Nat.le_of_ble_eq_true rfl) (am_lwJ (lo' := [some (.inr (0, 60)), some (.inl l1), some (.inl l2), some (.inl l3), none]) ⟨rfl, rfl, rfl, rfl, trivial⟩ (tX11_tryMake_0 hG h))
def bX11_hasEntry_9 (n : Nat) : Nat → Int32 → Int32 → Int32 → am_I → Option (Int32 × am_I)
  | 0, _, _, _, _ => none
  | fu + 1, l1, l2, l3, I => (fun k9 => if l2 ≤ l3 then (some (nI 0, I)) else ((gX11_wordOf n l1 l3 I).bind (fun q1 => if q1.1 = 0 then (k9 l1 l2 (l3 + nI 2) q1.2) else (some (nI 1, q1.2))))) (bX11_hasEntry_9 n fu)
theorem tX11_hasEntry_9 {G : am_G} (hG : am_okM G) {d : Nat} : ∀ {fu : Nat} {l1 : Int32} {l2 : Int32} {l3 : Int32} {I : am_I} {r : Int32 × am_I}, bX11_hasEntry_9 G.2.2.2.1 fu l1 l2 l3 I = some r → am_J G (d + 5) mX11_hasEntry am_no (am_E (some r.1) r.2) 9 [some (.inr (0, 60)), some (.inl l1), some (.inl l2), some (.inl l3)] [] I := by
  intro fu
  induction fu with
  | zero => intro l1 l2 l3 I r h; cases h
  | succ fu ih =>
    intro l1 l2 l3 I r h
    have hk9 : ∀ (l1 : Int32) (l2 : Int32) (l3 : Int32) (I : am_I) (r : Int32 × am_I), bX11_hasEntry_9 G.2.2.2.1 fu l1 l2 l3 I = some r → am_J G (d + 5) mX11_hasEntry am_no (am_E (some r.1) r.2) 9 [some (.inr (0, 60)), some (.inl l1), some (.inl l2), some (.inl l3)] [] I := fun l1 l2 l3 I r h => ih h
    unfold bX11_hasEntry_9 at h
    generalize bX11_hasEntry_9 G.2.2.2.1 fu = k9 at hk9 h
    dsimp only at h
    refine am_iload_n dX11_hasEntry_9 rfl ?_
    refine am_iload_n dX11_hasEntry_10 rfl ?_
    refine am_icmp_ge (tgt := 31) dX11_hasEntry_11 rfl (fun c => ?_) (fun c => ?_)
    · rw [if_pos c] at h
      refine am_iconst (v := nI 0) dX11_hasEntry_31 (by decide) ?_
      cases h
      exact am_iret dX11_hasEntry_32 rfl (am_nz (by decide)).1 ⟨rfl, rfl⟩
    · rw [if_neg c] at h
      refine am_aload_n dX11_hasEntry_14 rfl ?_
      refine am_iload_n dX11_hasEntry_15 rfl ?_
      refine am_iload_n dX11_hasEntry_16 rfl ?_
      obtain ⟨q1, hq1, h⟩ := am_bd h
      refine am_callVx (i := 0) (j := 60) (as := [.inl l1, .inl l3]) (rest := []) dX11_hasEntry_17 lkX11_wordOf ml_X11_363 imX11_wordOf seX11_wordOf rfl rfl (hG.m0 (by decide)) rfl (Nat.le_of_ble_eq_true rfl) rfl (sX11_wordOf hG hq1) ?_
      refine am_if_eq (tgt := 25) dX11_hasEntry_20 rfl (fun c => ?_) (fun c => ?_)
      · rw [if_pos c] at h
        refine am_iinc (v := l3 + nI 2) dX11_hasEntry_25 rfl rfl ?_
        refine am_goto (tgt := 9) dX11_hasEntry_28 rfl ?_
        exact am_lwJ (lo' := [some (.inr (0, 60)), some (.inl l1), some (.inl l2), some (.inl (l3 + nI 2))]) ⟨rfl, rfl, rfl, rfl, trivial⟩ (hk9 l1 l2 (l3 + nI 2) _ _ h)
      · rw [if_neg c] at h
        refine am_iconst (v := nI 1) dX11_hasEntry_23 (by decide) ?_
        cases h
        exact am_iret dX11_hasEntry_24 rfl (am_nz (by decide)).1 ⟨rfl, rfl⟩
def bX11_hasEntry_0 (n : Nat) (l1 : Int32) (I : am_I) : Option (Int32 × am_I) := (gX11_ofInode n l1 (nI 2) I).bind (fun q1 => bX11_hasEntry_9 n am_fu l1 q1.1 (nI 0) q1.2)
theorem tX11_hasEntry_0 {G : am_G} (hG : am_okM G) {d : Nat} {l1 : Int32} {I : am_I} {r : Int32 × am_I} (h : bX11_hasEntry_0 G.2.2.2.1 l1  I = some r) : am_J G (d + 5) mX11_hasEntry am_no (am_E (some r.1) r.2) 0 [some (.inr (0, 60)), some (.inl l1), none, none] [] I := by
  unfold bX11_hasEntry_0 at h
  refine am_aload_n dX11_hasEntry_0 rfl ?_
  refine am_iload_n dX11_hasEntry_1 rfl ?_
  refine am_iconst (v := nI 2) dX11_hasEntry_2 (by decide) ?_
  obtain ⟨q1, hq1, h⟩ := am_bd h
  refine am_callVx (i := 0) (j := 60) (as := [.inl l1, .inl (nI 2)]) (rest := []) dX11_hasEntry_3 lkX11_ofInode ml_X11_351 imX11_ofInode seX11_ofInode rfl rfl (hG.m0 (by decide)) rfl (Nat.le_of_ble_eq_true rfl) rfl (sX11_ofInode hG hq1) ?_
  refine am_istore_n dX11_hasEntry_6 (by decide) ?_
  refine am_iconst (v := nI 0) dX11_hasEntry_7 (by decide) ?_
  refine am_istore_n dX11_hasEntry_8 (by decide) ?_
  exact am_lwJ (lo' := [some (.inr (0, 60)), some (.inl l1), some (.inl q1.1), some (.inl (nI 0))]) ⟨rfl, rfl, rfl, rfl, trivial⟩ (tX11_hasEntry_9 hG h)
def gX11_hasEntry (n : Nat) (l1 : Int32) (I : am_I) : Option (Int32 × am_I) := bX11_hasEntry_0 n l1 I
theorem sX11_hasEntry {G : am_G} (hG : am_okM G) {d : Nat} {l1 : Int32} {I : am_I} {r : Int32 × am_I} (h : gX11_hasEntry G.2.2.2.1 l1 I = some r) : am_C G (d + 5) mX11_hasEntry [.inr (0, 60), .inl l1] I (am_E (some r.1) r.2) :=
  am_of (by decide +kernel) hG.nd (Nat.le_of_ble_eq_true rfl) (am_lwJ (lo' := [some (.inr (0, 60)), some (.inl l1), none, none]) ⟨rfl, rfl, trivial⟩ (tX11_hasEntry_0 hG h))
def bX11_giveBack_87 (n : Nat) (I : am_I) : Option (am_I) := some I
theorem tX11_giveBack_87 {G : am_G} (hG : am_okM G) {d : Nat} {I : am_I} {r : am_I} (h : bX11_giveBack_87 G.2.2.2.1  I = some r) : am_J G (d + 2) mX11_giveBack am_no (am_E none r) 87 [none, none, none, none] [] I := by
  unfold bX11_giveBack_87 at h
  cases h
  exact am_vret dX11_giveBack_87 rfl ⟨rfl, rfl⟩
def bX11_giveBack_0 (n : Nat) (l1 : Int32) (I : am_I) : Option (am_I) := (gX11_dataBlock n ((l1 - (nI 128)) / (nI 64)) (nI 0) I).bind (fun q1 => (gX11_meets n ((nI 128) + ((l1 - (nI 128)) / (nI 64))) (nI 2) q1.2).bind (fun q2 => if q2.1 = 0 then (bX11_giveBack_87 n q2.2) else ((gX11_mapOf n ((l1 - (nI 128)) / (nI 64)) q2.2).bind (fun q3 => (gX11_mapOf n ((l1 - (nI 128)) / (nI 64)) q3.2).bind (fun q4 => (gX11_get n q4.1 ((nI 1) + ((l1 - q1.1) / (nI 32))) q4.2).bind (fun q5 => (gX11_set n q3.1 ((nI 1) + ((l1 - q1.1) / (nI 32))) (q5.1 &&& (((nI 1) <<< (((l1 - q1.1) - (l1 - q1.1) / (nI 32) * (nI 32)) &&& 31)) ^^^ (-1 : Int32))) q5.2).bind (fun q6 => am_gd (am_inb (q6 0 60 61) 64) (am_lt (am_up q6 0 123 (q6 0 60 61).toNatClampNeg l1) (fun I8 => am_lt (am_up I8 0 60 61 ((I8 0 60 61) + (nI 1))) (fun I9 => bX11_giveBack_87 n I9))))))))))
theorem tX11_giveBack_0 {G : am_G} (hG : am_okM G) {d : Nat} {l1 : Int32} {I : am_I} {r : am_I} (h : bX11_giveBack_0 G.2.2.2.1 l1  I = some r) : am_J G (d + 2) mX11_giveBack am_no (am_E none r) 0 [some (.inr (0, 60)), some (.inl l1), none, none] [] I := by
  unfold bX11_giveBack_0 at h
  refine am_iload_n dX11_giveBack_0 rfl ?_
  refine am_sipush (v := nI 128) dX11_giveBack_1 (by decide) ?_
  refine am_isub dX11_giveBack_4 ?_
  refine am_bipush (v := nI 64) dX11_giveBack_5 (by decide) ?_
  refine am_idiv dX11_giveBack_7 (by decide) ?_
  refine am_istore_n dX11_giveBack_8 (by decide) ?_
  refine am_iload_n dX11_giveBack_9 rfl ?_
  refine am_iload_n dX11_giveBack_10 rfl ?_
  refine am_iconst (v := nI 0) dX11_giveBack_11 (by decide) ?_
  obtain ⟨q1, hq1, h⟩ := am_bd h
  refine am_callSx (as := [.inl ((l1 - (nI 128)) / (nI 64)), .inl (nI 0)]) (rest := [.inl l1]) dX11_giveBack_12 lkX11_dataBlock ml_X11_342 isX11_dataBlock rfl (Nat.le_of_ble_eq_true rfl) rfl (sX11_dataBlock hG hq1) ?_
  refine am_isub dX11_giveBack_15 ?_
  refine am_istore_n dX11_giveBack_16 (by decide) ?_
  refine am_aload_n dX11_giveBack_17 rfl ?_
  refine am_sipush (v := nI 128) dX11_giveBack_18 (by decide) ?_
  refine am_iload_n dX11_giveBack_21 rfl ?_
  refine am_iadd dX11_giveBack_22 ?_
  refine am_iconst (v := nI 2) dX11_giveBack_23 (by decide) ?_
  obtain ⟨q2, hq2, h⟩ := am_bd h
  refine am_callVx (i := 0) (j := 60) (as := [.inl ((nI 128) + ((l1 - (nI 128)) / (nI 64))), .inl (nI 2)]) (rest := []) dX11_giveBack_24 lkX11_meets ml_X11_338 imX11_meets seX11_meets rfl rfl (hG.m0 (by decide)) rfl (Nat.le_of_ble_eq_true rfl) rfl (sX11_meets hG hq2) ?_
  refine am_if_eq (tgt := 87) dX11_giveBack_27 rfl (fun c => ?_) (fun c => ?_)
  · rw [if_pos c] at h
    exact am_lwJ (lo' := [none, none, none, none]) trivial (tX11_giveBack_87 hG h)
  · rw [if_neg c] at h
    refine am_aload_n dX11_giveBack_30 rfl ?_
    refine am_iload_n dX11_giveBack_31 rfl ?_
    obtain ⟨q3, hq3, h⟩ := am_bd h
    refine am_callSx (as := [.inl ((l1 - (nI 128)) / (nI 64))]) (rest := [.inr (0, 60)]) dX11_giveBack_32 lkX11_mapOf ml_X11_181 isX11_mapOf rfl (Nat.le_of_ble_eq_true rfl) rfl (sX11_mapOf hG hq3) ?_
    refine am_iconst (v := nI 1) dX11_giveBack_35 (by decide) ?_
    refine am_iload_n dX11_giveBack_36 rfl ?_
    refine am_bipush (v := nI 32) dX11_giveBack_37 (by decide) ?_
    refine am_idiv dX11_giveBack_39 (by decide) ?_
    refine am_iadd dX11_giveBack_40 ?_
    refine am_aload_n dX11_giveBack_41 rfl ?_
    refine am_iload_n dX11_giveBack_42 rfl ?_
    obtain ⟨q4, hq4, h⟩ := am_bd h
    refine am_callSx (as := [.inl ((l1 - (nI 128)) / (nI 64))]) (rest := [.inr (0, 60), .inl ((nI 1) + ((l1 - q1.1) / (nI 32))), .inl q3.1, .inr (0, 60)]) dX11_giveBack_43 lkX11_mapOf ml_X11_181 isX11_mapOf rfl (Nat.le_of_ble_eq_true rfl) rfl (sX11_mapOf hG hq4) ?_
    refine am_iconst (v := nI 1) dX11_giveBack_46 (by decide) ?_
    refine am_iload_n dX11_giveBack_47 rfl ?_
    refine am_bipush (v := nI 32) dX11_giveBack_48 (by decide) ?_
    refine am_idiv dX11_giveBack_50 (by decide) ?_
    refine am_iadd dX11_giveBack_51 ?_
    obtain ⟨q5, hq5, h⟩ := am_bd h
    refine am_callVx (i := 0) (j := 60) (as := [.inl q4.1, .inl ((nI 1) + ((l1 - q1.1) / (nI 32)))]) (rest := [.inl ((nI 1) + ((l1 - q1.1) / (nI 32))), .inl q3.1, .inr (0, 60)]) dX11_giveBack_52 lkX11_get ml_X11_332 imX11_get seX11_get rfl rfl (hG.m0 (by decide)) rfl (Nat.le_of_ble_eq_true rfl) rfl (sX11_get hG hq5) ?_
    refine am_iconst (v := nI 1) dX11_giveBack_55 (by decide) ?_
    refine am_iload_n dX11_giveBack_56 rfl ?_
    refine am_bipush (v := nI 32) dX11_giveBack_57 (by decide) ?_
    refine am_irem dX11_giveBack_59 (by decide) ?_
    refine am_ishl dX11_giveBack_60 ?_
    refine am_iconst (v := (-1 : Int32)) dX11_giveBack_61 (by decide) ?_
    refine am_ixor dX11_giveBack_62 ?_
    refine am_iand dX11_giveBack_63 ?_
    obtain ⟨q6, hq6, h⟩ := am_bd h
    refine am_callVe (i := 0) (j := 60) (as := [.inl q3.1, .inl ((nI 1) + ((l1 - q1.1) / (nI 32))), .inl (q5.1 &&& (((nI 1) <<< (((l1 - q1.1) - (l1 - q1.1) / (nI 32) * (nI 32)) &&& 31)) ^^^ (-1 : Int32)))]) (rest := []) dX11_giveBack_64 lkX11_set ml_X11_335 imX11_set seX11_set rfl rfl (hG.m0 (by decide)) rfl (Nat.le_of_ble_eq_true rfl) rfl (sX11_set hG hq6) ?_
    refine am_aload_n dX11_giveBack_67 rfl ?_
    refine am_get (v := .inr (0, 123)) dX11_giveBack_68 fl_11_153 (hG.m0 (by decide)) rfl ?_
    refine am_aload_n dX11_giveBack_71 rfl ?_
    refine am_get (v := .inl (q6 0 60 61)) dX11_giveBack_72 fl_11_310 (hG.m0 (by decide)) rfl ?_
    refine am_iload_n dX11_giveBack_75 rfl ?_
    obtain ⟨g7, h⟩ := am_gd_some h
    refine am_iastG dX11_giveBack_76 (hG.m0 (by decide)) rfl g7 (show 64 < 2 ^ 31 by decide) ?_
    obtain ⟨I8, hI8, h⟩ := am_lt_some h
    refine am_st10 hI8 ?_
    refine am_aload_n dX11_giveBack_77 rfl ?_
    refine am_dup dX11_giveBack_78 ?_
    refine am_get (v := .inl (I8 0 60 61)) dX11_giveBack_79 fl_11_310 (hG.m0 (by decide)) rfl ?_
    refine am_iconst (v := nI 1) dX11_giveBack_82 (by decide) ?_
    refine am_iadd dX11_giveBack_83 ?_
    refine am_put (x := (I8 0 60 61) + (nI 1)) dX11_giveBack_84 fp_11_310 (hG.m0 (by decide)) (Nat.le_of_ble_eq_true rfl) rfl ?_
    obtain ⟨I9, hI9, h⟩ := am_lt_some h
    refine am_st10 hI9 ?_
    exact am_lwJ (lo' := [none, none, none, none]) trivial (tX11_giveBack_87 hG h)
def gX11_giveBack (n : Nat) (l1 : Int32) (I : am_I) : Option (am_I) := bX11_giveBack_0 n l1 I
theorem sX11_giveBack {G : am_G} (hG : am_okM G) {d : Nat} {l1 : Int32} {I : am_I} {r : am_I} (h : gX11_giveBack G.2.2.2.1 l1 I = some r) : am_C G (d + 2) mX11_giveBack [.inr (0, 60), .inl l1] I (am_E none r) :=
  am_of (by decide +kernel) hG.nd (Nat.le_of_ble_eq_true rfl) (am_lwJ (lo' := [some (.inr (0, 60)), some (.inl l1), none, none]) ⟨rfl, rfl, trivial⟩ (tX11_giveBack_0 hG h))
def bX11_giveAll_160 (n : Nat) : Nat → Int32 → Int32 → am_I → Option (am_I)
  | 0, _, _, _ => none
  | fu + 1, l1, l3, I => (fun k160 => if (nI 16) ≤ l3 then (some I) else ((gX11_setInode n l1 l3 (nI 0) I).bind (fun q1 => k160 l1 (l3 + nI 1) q1))) (bX11_giveAll_160 n fu)
theorem tX11_giveAll_160 {G : am_G} (hG : am_okM G) {d : Nat} : ∀ {fu : Nat} {l1 : Int32} {l3 : Int32} {I : am_I} {r : am_I}, bX11_giveAll_160 G.2.2.2.1 fu l1 l3 I = some r → am_J G (d + 3) mX11_giveAll am_no (am_E none r) 160 [some (.inr (0, 60)), some (.inl l1), none, some (.inl l3)] [] I := by
  intro fu
  induction fu with
  | zero => intro l1 l3 I r h; cases h
  | succ fu ih =>
    intro l1 l3 I r h
    have hk160 : ∀ (l1 : Int32) (l3 : Int32) (I : am_I) (r : am_I), bX11_giveAll_160 G.2.2.2.1 fu l1 l3 I = some r → am_J G (d + 3) mX11_giveAll am_no (am_E none r) 160 [some (.inr (0, 60)), some (.inl l1), none, some (.inl l3)] [] I := fun l1 l3 I r h => ih h
    unfold bX11_giveAll_160 at h
    generalize bX11_giveAll_160 G.2.2.2.1 fu = k160 at hk160 h
    dsimp only at h
    refine am_iload_n dX11_giveAll_160 rfl ?_
    refine am_bipush (v := nI 16) dX11_giveAll_161 (by decide) ?_
    refine am_icmp_ge (tgt := 179) dX11_giveAll_163 rfl (fun c => ?_) (fun c => ?_)
    · rw [if_pos c] at h
      cases h
      exact am_vret dX11_giveAll_179 rfl ⟨rfl, rfl⟩
    · rw [if_neg c] at h
      refine am_aload_n dX11_giveAll_166 rfl ?_
      refine am_iload_n dX11_giveAll_167 rfl ?_
      refine am_iload_n dX11_giveAll_168 rfl ?_
      refine am_iconst (v := nI 0) dX11_giveAll_169 (by decide) ?_
      obtain ⟨q1, hq1, h⟩ := am_bd h
      refine am_callVe (i := 0) (j := 60) (as := [.inl l1, .inl l3, .inl (nI 0)]) (rest := []) dX11_giveAll_170 lkX11_setInode ml_X11_360 imX11_setInode seX11_setInode rfl rfl (hG.m0 (by decide)) rfl (Nat.le_of_ble_eq_true rfl) rfl (sX11_setInode hG hq1) ?_
      refine am_iinc (v := l3 + nI 1) dX11_giveAll_173 rfl rfl ?_
      refine am_goto (tgt := 160) dX11_giveAll_176 rfl ?_
      exact am_lwJ (lo' := [some (.inr (0, 60)), some (.inl l1), none, some (.inl (l3 + nI 1))]) ⟨rfl, rfl, rfl, trivial⟩ (hk160 l1 (l3 + nI 1) _ _ h)
def bX11_giveAll_108 (n : Nat) (l1 : Int32) (I : am_I) : Option (am_I) := (gX11_meets n ((nI 128) + (l1 / (nI 16))) (nI 2) I).bind (fun q1 => if q1.1 = 0 then (some q1.2) else ((gX11_mapOf n (l1 / (nI 16)) q1.2).bind (fun q2 => (gX11_mapOf n (l1 / (nI 16)) q2.2).bind (fun q3 => (gX11_get n q3.1 (nI 0) q3.2).bind (fun q4 => (gX11_set n q2.1 (nI 0) (q4.1 &&& (((nI 1) <<< ((l1 - l1 / (nI 16) * (nI 16)) &&& 31)) ^^^ (-1 : Int32))) q4.2).bind (fun q5 => bX11_giveAll_160 n am_fu l1 (nI 0) q5))))))
theorem tX11_giveAll_108 {G : am_G} (hG : am_okM G) {d : Nat} {l1 : Int32} {I : am_I} {r : am_I} (h : bX11_giveAll_108 G.2.2.2.1 l1  I = some r) : am_J G (d + 3) mX11_giveAll am_no (am_E none r) 108 [some (.inr (0, 60)), some (.inl l1), none, none] [] I := by
  unfold bX11_giveAll_108 at h
  refine am_aload_n dX11_giveAll_108 rfl ?_
  refine am_sipush (v := nI 128) dX11_giveAll_109 (by decide) ?_
  refine am_iload_n dX11_giveAll_112 rfl ?_
  refine am_bipush (v := nI 16) dX11_giveAll_113 (by decide) ?_
  refine am_idiv dX11_giveAll_115 (by decide) ?_
  refine am_iadd dX11_giveAll_116 ?_
  refine am_iconst (v := nI 2) dX11_giveAll_117 (by decide) ?_
  obtain ⟨q1, hq1, h⟩ := am_bd h
  refine am_callVx (i := 0) (j := 60) (as := [.inl ((nI 128) + (l1 / (nI 16))), .inl (nI 2)]) (rest := []) dX11_giveAll_118 lkX11_meets ml_X11_338 imX11_meets seX11_meets rfl rfl (hG.m0 (by decide)) rfl (Nat.le_of_ble_eq_true rfl) rfl (sX11_meets hG hq1) ?_
  refine am_if_ne (tgt := 125) dX11_giveAll_121 rfl (fun c => ?_) (fun c => ?_)
  · rw [if_neg c] at h
    refine am_aload_n dX11_giveAll_125 rfl ?_
    refine am_iload_n dX11_giveAll_126 rfl ?_
    refine am_bipush (v := nI 16) dX11_giveAll_127 (by decide) ?_
    refine am_idiv dX11_giveAll_129 (by decide) ?_
    obtain ⟨q2, hq2, h⟩ := am_bd h
    refine am_callSx (as := [.inl (l1 / (nI 16))]) (rest := [.inr (0, 60)]) dX11_giveAll_130 lkX11_mapOf ml_X11_181 isX11_mapOf rfl (Nat.le_of_ble_eq_true rfl) rfl (sX11_mapOf hG hq2) ?_
    refine am_iconst (v := nI 0) dX11_giveAll_133 (by decide) ?_
    refine am_aload_n dX11_giveAll_134 rfl ?_
    refine am_iload_n dX11_giveAll_135 rfl ?_
    refine am_bipush (v := nI 16) dX11_giveAll_136 (by decide) ?_
    refine am_idiv dX11_giveAll_138 (by decide) ?_
    obtain ⟨q3, hq3, h⟩ := am_bd h
    refine am_callSx (as := [.inl (l1 / (nI 16))]) (rest := [.inr (0, 60), .inl (nI 0), .inl q2.1, .inr (0, 60)]) dX11_giveAll_139 lkX11_mapOf ml_X11_181 isX11_mapOf rfl (Nat.le_of_ble_eq_true rfl) rfl (sX11_mapOf hG hq3) ?_
    refine am_iconst (v := nI 0) dX11_giveAll_142 (by decide) ?_
    obtain ⟨q4, hq4, h⟩ := am_bd h
    refine am_callVx (i := 0) (j := 60) (as := [.inl q3.1, .inl (nI 0)]) (rest := [.inl (nI 0), .inl q2.1, .inr (0, 60)]) dX11_giveAll_143 lkX11_get ml_X11_332 imX11_get seX11_get rfl rfl (hG.m0 (by decide)) rfl (Nat.le_of_ble_eq_true rfl) rfl (sX11_get hG hq4) ?_
    refine am_iconst (v := nI 1) dX11_giveAll_146 (by decide) ?_
    refine am_iload_n dX11_giveAll_147 rfl ?_
    refine am_bipush (v := nI 16) dX11_giveAll_148 (by decide) ?_
    refine am_irem dX11_giveAll_150 (by decide) ?_
    refine am_ishl dX11_giveAll_151 ?_
    refine am_iconst (v := (-1 : Int32)) dX11_giveAll_152 (by decide) ?_
    refine am_ixor dX11_giveAll_153 ?_
    refine am_iand dX11_giveAll_154 ?_
    obtain ⟨q5, hq5, h⟩ := am_bd h
    refine am_callVe (i := 0) (j := 60) (as := [.inl q2.1, .inl (nI 0), .inl (q4.1 &&& (((nI 1) <<< ((l1 - l1 / (nI 16) * (nI 16)) &&& 31)) ^^^ (-1 : Int32)))]) (rest := []) dX11_giveAll_155 lkX11_set ml_X11_335 imX11_set seX11_set rfl rfl (hG.m0 (by decide)) rfl (Nat.le_of_ble_eq_true rfl) rfl (sX11_set hG hq5) ?_
    refine am_iconst (v := nI 0) dX11_giveAll_158 (by decide) ?_
    refine am_istore_n dX11_giveAll_159 (by decide) ?_
    exact am_lwJ (lo' := [some (.inr (0, 60)), some (.inl l1), none, some (.inl (nI 0))]) ⟨rfl, rfl, rfl, trivial⟩ (tX11_giveAll_160 hG h)
  · rw [if_pos c] at h
    cases h
    exact am_vret dX11_giveAll_124 rfl ⟨rfl, rfl⟩
def bX11_giveAll_92 (n : Nat) (l1 : Int32) (l2 : Int32) (I : am_I) : Option (am_I) := if l2 = 0 then (bX11_giveAll_108 n l1 I) else ((gX11_isOver n I).bind (fun q1 => if q1.1 = 0 then ((gX11_giveBack n l2 q1.2).bind (fun q2 => bX11_giveAll_108 n l1 q2)) else (bX11_giveAll_108 n l1 q1.2)))
theorem tX11_giveAll_92 {G : am_G} (hG : am_okM G) {d : Nat} {l1 : Int32} {l2 : Int32} {I : am_I} {r : am_I} (h : bX11_giveAll_92 G.2.2.2.1 l1 l2  I = some r) : am_J G (d + 3) mX11_giveAll am_no (am_E none r) 92 [some (.inr (0, 60)), some (.inl l1), some (.inl l2), none] [] I := by
  unfold bX11_giveAll_92 at h
  refine am_iload_n dX11_giveAll_92 rfl ?_
  refine am_if_eq (tgt := 108) dX11_giveAll_93 rfl (fun c => ?_) (fun c => ?_)
  · rw [if_pos c] at h
    exact am_lwJ (lo' := [some (.inr (0, 60)), some (.inl l1), none, none]) ⟨rfl, rfl, trivial⟩ (tX11_giveAll_108 hG h)
  · rw [if_neg c] at h
    refine am_aload_n dX11_giveAll_96 rfl ?_
    obtain ⟨q1, hq1, h⟩ := am_bd h
    refine am_callVx (i := 0) (j := 60) (as := []) (rest := []) dX11_giveAll_97 lkX11_isOver ml_X11_322 imX11_isOver seX11_isOver rfl rfl (hG.m0 (by decide)) rfl (Nat.le_of_ble_eq_true rfl) rfl (sX11_isOver hG hq1) ?_
    refine am_if_ne (tgt := 108) dX11_giveAll_100 rfl (fun c => ?_) (fun c => ?_)
    · rw [if_neg c] at h
      exact am_lwJ (lo' := [some (.inr (0, 60)), some (.inl l1), none, none]) ⟨rfl, rfl, trivial⟩ (tX11_giveAll_108 hG h)
    · rw [if_pos c] at h
      refine am_aload_n dX11_giveAll_103 rfl ?_
      refine am_iload_n dX11_giveAll_104 rfl ?_
      obtain ⟨q2, hq2, h⟩ := am_bd h
      refine am_callVe (i := 0) (j := 60) (as := [.inl l2]) (rest := []) dX11_giveAll_105 lkX11_giveBack ml_X11_428 imX11_giveBack seX11_giveBack rfl rfl (hG.m0 (by decide)) rfl (Nat.le_of_ble_eq_true rfl) rfl (sX11_giveBack hG hq2) ?_
      exact am_lwJ (lo' := [some (.inr (0, 60)), some (.inl l1), none, none]) ⟨rfl, rfl, trivial⟩ (tX11_giveAll_108 hG h)
def bX11_giveAll_86 (n : Nat) (k50 : Int32 → Int32 → Int32 → am_I → Option (am_I)) (l1 : Int32) (l2 : Int32) (l3 : Int32) (I : am_I) : Option (am_I) := k50 l1 l2 (l3 + nI 1) I
theorem tX11_giveAll_86 {G : am_G} (hG : am_okM G) {d : Nat} {k50 : Int32 → Int32 → Int32 → am_I → Option (am_I)} (hk50 : ∀ (l1 : Int32) (l2 : Int32) (l3 : Int32) (I : am_I) (r : am_I), k50 l1 l2 l3 I = some r → am_J G (d + 3) mX11_giveAll am_no (am_E none r) 50 [some (.inr (0, 60)), some (.inl l1), some (.inl l2), some (.inl l3)] [] I) {l1 : Int32} {l2 : Int32} {l3 : Int32} {I : am_I} {r : am_I} (h : bX11_giveAll_86 G.2.2.2.1 k50 l1 l2 l3  I = some r) : am_J G (d + 3) mX11_giveAll am_no (am_E none r) 86 [some (.inr (0, 60)), some (.inl l1), some (.inl l2), some (.inl l3)] [] I := by
  unfold bX11_giveAll_86 at h
  refine am_iinc (v := l3 + nI 1) dX11_giveAll_86 rfl rfl ?_
  refine am_goto (tgt := 50) dX11_giveAll_89 rfl ?_
  exact am_lwJ (lo' := [some (.inr (0, 60)), some (.inl l1), some (.inl l2), some (.inl (l3 + nI 1))]) ⟨rfl, rfl, rfl, rfl, trivial⟩ (hk50 l1 l2 (l3 + nI 1) _ _ h)
def bX11_giveAll_50 (n : Nat) : Nat → Int32 → Int32 → Int32 → am_I → Option (am_I)
  | 0, _, _, _, _ => none
  | fu + 1, l1, l2, l3, I => (fun k50 => if (nI 16) ≤ l3 then (bX11_giveAll_92 n l1 l2 I) else (if l2 = 0 then (bX11_giveAll_92 n l1 l2 I) else ((gX11_isOver n I).bind (fun q1 => if q1.1 = 0 then ((gX11_get n l2 l3 q1.2).bind (fun q2 => if q2.1 = 0 then (bX11_giveAll_86 n k50 l1 l2 l3 q2.2) else ((gX11_get n l2 l3 q2.2).bind (fun q3 => (gX11_giveBack n q3.1 q3.2).bind (fun q4 => bX11_giveAll_86 n k50 l1 l2 l3 q4))))) else (bX11_giveAll_92 n l1 l2 q1.2))))) (bX11_giveAll_50 n fu)
theorem tX11_giveAll_50 {G : am_G} (hG : am_okM G) {d : Nat} : ∀ {fu : Nat} {l1 : Int32} {l2 : Int32} {l3 : Int32} {I : am_I} {r : am_I}, bX11_giveAll_50 G.2.2.2.1 fu l1 l2 l3 I = some r → am_J G (d + 3) mX11_giveAll am_no (am_E none r) 50 [some (.inr (0, 60)), some (.inl l1), some (.inl l2), some (.inl l3)] [] I := by
  intro fu
  induction fu with
  | zero => intro l1 l2 l3 I r h; cases h
  | succ fu ih =>
    intro l1 l2 l3 I r h
    have hk50 : ∀ (l1 : Int32) (l2 : Int32) (l3 : Int32) (I : am_I) (r : am_I), bX11_giveAll_50 G.2.2.2.1 fu l1 l2 l3 I = some r → am_J G (d + 3) mX11_giveAll am_no (am_E none r) 50 [some (.inr (0, 60)), some (.inl l1), some (.inl l2), some (.inl l3)] [] I := fun l1 l2 l3 I r h => ih h
    unfold bX11_giveAll_50 at h
    generalize bX11_giveAll_50 G.2.2.2.1 fu = k50 at hk50 h
    dsimp only at h
    refine am_iload_n dX11_giveAll_50 rfl ?_
    refine am_bipush (v := nI 16) dX11_giveAll_51 (by decide) ?_
    refine am_icmp_ge (tgt := 92) dX11_giveAll_53 rfl (fun c => ?_) (fun c => ?_)
    · rw [if_pos c] at h
      exact am_lwJ (lo' := [some (.inr (0, 60)), some (.inl l1), some (.inl l2), none]) ⟨rfl, rfl, rfl, trivial⟩ (tX11_giveAll_92 hG h)
    · rw [if_neg c] at h
      refine am_iload_n dX11_giveAll_56 rfl ?_
      refine am_if_eq (tgt := 92) dX11_giveAll_57 rfl (fun c => ?_) (fun c => ?_)
      · rw [if_pos c] at h
        exact am_lwJ (lo' := [some (.inr (0, 60)), some (.inl l1), some (.inl l2), none]) ⟨rfl, rfl, rfl, trivial⟩ (tX11_giveAll_92 hG h)
      · rw [if_neg c] at h
        refine am_aload_n dX11_giveAll_60 rfl ?_
        obtain ⟨q1, hq1, h⟩ := am_bd h
        refine am_callVx (i := 0) (j := 60) (as := []) (rest := []) dX11_giveAll_61 lkX11_isOver ml_X11_322 imX11_isOver seX11_isOver rfl rfl (hG.m0 (by decide)) rfl (Nat.le_of_ble_eq_true rfl) rfl (sX11_isOver hG hq1) ?_
        refine am_if_ne (tgt := 92) dX11_giveAll_64 rfl (fun c => ?_) (fun c => ?_)
        · rw [if_neg c] at h
          exact am_lwJ (lo' := [some (.inr (0, 60)), some (.inl l1), some (.inl l2), none]) ⟨rfl, rfl, rfl, trivial⟩ (tX11_giveAll_92 hG h)
        · rw [if_pos c] at h
          refine am_aload_n dX11_giveAll_67 rfl ?_
          refine am_iload_n dX11_giveAll_68 rfl ?_
          refine am_iload_n dX11_giveAll_69 rfl ?_
          obtain ⟨q2, hq2, h⟩ := am_bd h
          refine am_callVx (i := 0) (j := 60) (as := [.inl l2, .inl l3]) (rest := []) dX11_giveAll_70 lkX11_get ml_X11_332 imX11_get seX11_get rfl rfl (hG.m0 (by decide)) rfl (Nat.le_of_ble_eq_true rfl) rfl (sX11_get hG hq2) ?_
          refine am_if_eq (tgt := 86) dX11_giveAll_73 rfl (fun c => ?_) (fun c => ?_)
          · rw [if_pos c] at h
            exact am_lwJ (lo' := [some (.inr (0, 60)), some (.inl l1), some (.inl l2), some (.inl l3)]) ⟨rfl, rfl, rfl, rfl, trivial⟩ (tX11_giveAll_86 hG hk50 h)
          · rw [if_neg c] at h
            refine am_aload_n dX11_giveAll_76 rfl ?_
            refine am_aload_n dX11_giveAll_77 rfl ?_
            refine am_iload_n dX11_giveAll_78 rfl ?_
            refine am_iload_n dX11_giveAll_79 rfl ?_
            obtain ⟨q3, hq3, h⟩ := am_bd h
            refine am_callVx (i := 0) (j := 60) (as := [.inl l2, .inl l3]) (rest := [.inr (0, 60)]) dX11_giveAll_80 lkX11_get ml_X11_332 imX11_get seX11_get rfl rfl (hG.m0 (by decide)) rfl (Nat.le_of_ble_eq_true rfl) rfl (sX11_get hG hq3) ?_
            obtain ⟨q4, hq4, h⟩ := am_bd h
            refine am_callVe (i := 0) (j := 60) (as := [.inl q3.1]) (rest := []) dX11_giveAll_83 lkX11_giveBack ml_X11_428 imX11_giveBack seX11_giveBack rfl rfl (hG.m0 (by decide)) rfl (Nat.le_of_ble_eq_true rfl) rfl (sX11_giveBack hG hq4) ?_
            exact am_lwJ (lo' := [some (.inr (0, 60)), some (.inl l1), some (.inl l2), some (.inl l3)]) ⟨rfl, rfl, rfl, rfl, trivial⟩ (tX11_giveAll_86 hG hk50 h)
def bX11_giveAll_40 (n : Nat) (l1 : Int32) (I : am_I) : Option (am_I) := (gX11_ofInode n l1 (nI 11) I).bind (fun q1 => bX11_giveAll_50 n am_fu l1 q1.1 (nI 0) q1.2)
theorem tX11_giveAll_40 {G : am_G} (hG : am_okM G) {d : Nat} {l1 : Int32} {I : am_I} {r : am_I} (h : bX11_giveAll_40 G.2.2.2.1 l1  I = some r) : am_J G (d + 3) mX11_giveAll am_no (am_E none r) 40 [some (.inr (0, 60)), some (.inl l1), none, none] [] I := by
  unfold bX11_giveAll_40 at h
  refine am_aload_n dX11_giveAll_40 rfl ?_
  refine am_iload_n dX11_giveAll_41 rfl ?_
  refine am_bipush (v := nI 11) dX11_giveAll_42 (by decide) ?_
  obtain ⟨q1, hq1, h⟩ := am_bd h
  refine am_callVx (i := 0) (j := 60) (as := [.inl l1, .inl (nI 11)]) (rest := []) dX11_giveAll_44 lkX11_ofInode ml_X11_351 imX11_ofInode seX11_ofInode rfl rfl (hG.m0 (by decide)) rfl (Nat.le_of_ble_eq_true rfl) rfl (sX11_ofInode hG hq1) ?_
  refine am_istore_n dX11_giveAll_47 (by decide) ?_
  refine am_iconst (v := nI 0) dX11_giveAll_48 (by decide) ?_
  refine am_istore_n dX11_giveAll_49 (by decide) ?_
  exact am_lwJ (lo' := [some (.inr (0, 60)), some (.inl l1), some (.inl q1.1), some (.inl (nI 0))]) ⟨rfl, rfl, rfl, rfl, trivial⟩ (tX11_giveAll_50 hG h)
def bX11_giveAll_34 (n : Nat) (k2 : Int32 → Int32 → am_I → Option (am_I)) (l1 : Int32) (l2 : Int32) (I : am_I) : Option (am_I) := k2 l1 (l2 + nI 1) I
theorem tX11_giveAll_34 {G : am_G} (hG : am_okM G) {d : Nat} {k2 : Int32 → Int32 → am_I → Option (am_I)} (hk2 : ∀ (l1 : Int32) (l2 : Int32) (I : am_I) (r : am_I), k2 l1 l2 I = some r → am_J G (d + 3) mX11_giveAll am_no (am_E none r) 2 [some (.inr (0, 60)), some (.inl l1), some (.inl l2), none] [] I) {l1 : Int32} {l2 : Int32} {I : am_I} {r : am_I} (h : bX11_giveAll_34 G.2.2.2.1 k2 l1 l2  I = some r) : am_J G (d + 3) mX11_giveAll am_no (am_E none r) 34 [some (.inr (0, 60)), some (.inl l1), some (.inl l2), none] [] I := by
  unfold bX11_giveAll_34 at h
  refine am_iinc (v := l2 + nI 1) dX11_giveAll_34 rfl rfl ?_
  refine am_goto (tgt := 2) dX11_giveAll_37 rfl ?_
  exact am_lwJ (lo' := [some (.inr (0, 60)), some (.inl l1), some (.inl (l2 + nI 1)), none]) ⟨rfl, rfl, rfl, trivial⟩ (hk2 l1 (l2 + nI 1) _ _ h)
def bX11_giveAll_2 (n : Nat) : Nat → Int32 → Int32 → am_I → Option (am_I)
  | 0, _, _, _ => none
  | fu + 1, l1, l2, I => (fun k2 => if (nI 11) ≤ l2 then (bX11_giveAll_40 n l1 I) else ((gX11_isOver n I).bind (fun q1 => if q1.1 = 0 then ((gX11_ofInode n l1 l2 q1.2).bind (fun q2 => if q2.1 = 0 then (bX11_giveAll_34 n k2 l1 l2 q2.2) else ((gX11_ofInode n l1 l2 q2.2).bind (fun q3 => (gX11_giveBack n q3.1 q3.2).bind (fun q4 => bX11_giveAll_34 n k2 l1 l2 q4))))) else (bX11_giveAll_40 n l1 q1.2)))) (bX11_giveAll_2 n fu)
theorem tX11_giveAll_2 {G : am_G} (hG : am_okM G) {d : Nat} : ∀ {fu : Nat} {l1 : Int32} {l2 : Int32} {I : am_I} {r : am_I}, bX11_giveAll_2 G.2.2.2.1 fu l1 l2 I = some r → am_J G (d + 3) mX11_giveAll am_no (am_E none r) 2 [some (.inr (0, 60)), some (.inl l1), some (.inl l2), none] [] I := by
  intro fu
  induction fu with
  | zero => intro l1 l2 I r h; cases h
  | succ fu ih =>
    intro l1 l2 I r h
    have hk2 : ∀ (l1 : Int32) (l2 : Int32) (I : am_I) (r : am_I), bX11_giveAll_2 G.2.2.2.1 fu l1 l2 I = some r → am_J G (d + 3) mX11_giveAll am_no (am_E none r) 2 [some (.inr (0, 60)), some (.inl l1), some (.inl l2), none] [] I := fun l1 l2 I r h => ih h
    unfold bX11_giveAll_2 at h
    generalize bX11_giveAll_2 G.2.2.2.1 fu = k2 at hk2 h
    dsimp only at h
    refine am_iload_n dX11_giveAll_2 rfl ?_
    refine am_bipush (v := nI 11) dX11_giveAll_3 (by decide) ?_
    refine am_icmp_ge (tgt := 40) dX11_giveAll_5 rfl (fun c => ?_) (fun c => ?_)
    · rw [if_pos c] at h
      exact am_lwJ (lo' := [some (.inr (0, 60)), some (.inl l1), none, none]) ⟨rfl, rfl, trivial⟩ (tX11_giveAll_40 hG h)
    · rw [if_neg c] at h
      refine am_aload_n dX11_giveAll_8 rfl ?_
      obtain ⟨q1, hq1, h⟩ := am_bd h
      refine am_callVx (i := 0) (j := 60) (as := []) (rest := []) dX11_giveAll_9 lkX11_isOver ml_X11_322 imX11_isOver seX11_isOver rfl rfl (hG.m0 (by decide)) rfl (Nat.le_of_ble_eq_true rfl) rfl (sX11_isOver hG hq1) ?_
      refine am_if_ne (tgt := 40) dX11_giveAll_12 rfl (fun c => ?_) (fun c => ?_)
      · rw [if_neg c] at h
        exact am_lwJ (lo' := [some (.inr (0, 60)), some (.inl l1), none, none]) ⟨rfl, rfl, trivial⟩ (tX11_giveAll_40 hG h)
      · rw [if_pos c] at h
        refine am_aload_n dX11_giveAll_15 rfl ?_
        refine am_iload_n dX11_giveAll_16 rfl ?_
        refine am_iload_n dX11_giveAll_17 rfl ?_
        obtain ⟨q2, hq2, h⟩ := am_bd h
        refine am_callVx (i := 0) (j := 60) (as := [.inl l1, .inl l2]) (rest := []) dX11_giveAll_18 lkX11_ofInode ml_X11_351 imX11_ofInode seX11_ofInode rfl rfl (hG.m0 (by decide)) rfl (Nat.le_of_ble_eq_true rfl) rfl (sX11_ofInode hG hq2) ?_
        refine am_if_eq (tgt := 34) dX11_giveAll_21 rfl (fun c => ?_) (fun c => ?_)
        · rw [if_pos c] at h
          exact am_lwJ (lo' := [some (.inr (0, 60)), some (.inl l1), some (.inl l2), none]) ⟨rfl, rfl, rfl, trivial⟩ (tX11_giveAll_34 hG hk2 h)
        · rw [if_neg c] at h
          refine am_aload_n dX11_giveAll_24 rfl ?_
          refine am_aload_n dX11_giveAll_25 rfl ?_
          refine am_iload_n dX11_giveAll_26 rfl ?_
          refine am_iload_n dX11_giveAll_27 rfl ?_
          obtain ⟨q3, hq3, h⟩ := am_bd h
          refine am_callVx (i := 0) (j := 60) (as := [.inl l1, .inl l2]) (rest := [.inr (0, 60)]) dX11_giveAll_28 lkX11_ofInode ml_X11_351 imX11_ofInode seX11_ofInode rfl rfl (hG.m0 (by decide)) rfl (Nat.le_of_ble_eq_true rfl) rfl (sX11_ofInode hG hq3) ?_
          obtain ⟨q4, hq4, h⟩ := am_bd h
          refine am_callVe (i := 0) (j := 60) (as := [.inl q3.1]) (rest := []) dX11_giveAll_31 lkX11_giveBack ml_X11_428 imX11_giveBack seX11_giveBack rfl rfl (hG.m0 (by decide)) rfl (Nat.le_of_ble_eq_true rfl) rfl (sX11_giveBack hG hq4) ?_
          exact am_lwJ (lo' := [some (.inr (0, 60)), some (.inl l1), some (.inl l2), none]) ⟨rfl, rfl, rfl, trivial⟩ (tX11_giveAll_34 hG hk2 h)
def bX11_giveAll_0 (n : Nat) (l1 : Int32) (I : am_I) : Option (am_I) := bX11_giveAll_2 n am_fu l1 (nI 3) I
theorem tX11_giveAll_0 {G : am_G} (hG : am_okM G) {d : Nat} {l1 : Int32} {I : am_I} {r : am_I} (h : bX11_giveAll_0 G.2.2.2.1 l1  I = some r) : am_J G (d + 3) mX11_giveAll am_no (am_E none r) 0 [some (.inr (0, 60)), some (.inl l1), none, none] [] I := by
  unfold bX11_giveAll_0 at h
  refine am_iconst (v := nI 3) dX11_giveAll_0 (by decide) ?_
  refine am_istore_n dX11_giveAll_1 (by decide) ?_
  exact am_lwJ (lo' := [some (.inr (0, 60)), some (.inl l1), some (.inl (nI 3)), none]) ⟨rfl, rfl, rfl, trivial⟩ (tX11_giveAll_2 hG h)
def gX11_giveAll (n : Nat) (l1 : Int32) (I : am_I) : Option (am_I) := bX11_giveAll_0 n l1 I
theorem sX11_giveAll {G : am_G} (hG : am_okM G) {d : Nat} {l1 : Int32} {I : am_I} {r : am_I} (h : gX11_giveAll G.2.2.2.1 l1 I = some r) : am_C G (d + 3) mX11_giveAll [.inr (0, 60), .inl l1] I (am_E none r) :=
  am_of (by decide +kernel) hG.nd (Nat.le_of_ble_eq_true rfl) (am_lwJ (lo' := [some (.inr (0, 60)), some (.inl l1), none, none]) ⟨rfl, rfl, trivial⟩ (tX11_giveAll_0 hG h))
def bX11_tryRemove_120 (n : Nat) (I : am_I) : Option (am_I) := some I
theorem tX11_tryRemove_120 {G : am_G} (hG : am_okM G) {d : Nat} {I : am_I} {r : am_I} (h : bX11_tryRemove_120 G.2.2.2.1  I = some r) : am_J G (d + 6) mX11_tryRemove am_no (am_E none r) 120 [none, none, none, none, none] [] I := by
  unfold bX11_tryRemove_120 at h
  cases h
  exact am_vret dX11_tryRemove_120 rfl ⟨rfl, rfl⟩
def bX11_tryRemove_80 (n : Nat) (l1 : Int32) (l3 : Int32) (l4 : Int32) (I : am_I) : Option (am_I) := (gX11_setEntry n l1 l3 (nI 0) (nI 0) I).bind (fun q1 => (gX11_ofInode n l4 (nI 1) q1).bind (fun q2 => (gX11_setInode n l4 (nI 1) (q2.1 - (nI 1)) q2.2).bind (fun q3 => (gX11_ofInode n l4 (nI 1) q3).bind (fun q4 => if q4.1 = 0 then ((gX11_giveAll n l4 q4.2).bind (fun q5 => bX11_tryRemove_120 n q5)) else (bX11_tryRemove_120 n q4.2)))))
theorem tX11_tryRemove_80 {G : am_G} (hG : am_okM G) {d : Nat} {l1 : Int32} {l3 : Int32} {l4 : Int32} {I : am_I} {r : am_I} (h : bX11_tryRemove_80 G.2.2.2.1 l1 l3 l4  I = some r) : am_J G (d + 6) mX11_tryRemove am_no (am_E none r) 80 [some (.inr (0, 60)), some (.inl l1), none, some (.inl l3), some (.inl l4)] [] I := by
  unfold bX11_tryRemove_80 at h
  refine am_aload_n dX11_tryRemove_80 rfl ?_
  refine am_iload_n dX11_tryRemove_81 rfl ?_
  refine am_iload_n dX11_tryRemove_82 rfl ?_
  refine am_iconst (v := nI 0) dX11_tryRemove_83 (by decide) ?_
  refine am_iconst (v := nI 0) dX11_tryRemove_84 (by decide) ?_
  obtain ⟨q1, hq1, h⟩ := am_bd h
  refine am_callVe (i := 0) (j := 60) (as := [.inl l1, .inl l3, .inl (nI 0), .inl (nI 0)]) (rest := []) dX11_tryRemove_85 lkX11_setEntry ml_X11_372 imX11_setEntry seX11_setEntry rfl rfl (hG.m0 (by decide)) rfl (Nat.le_of_ble_eq_true rfl) rfl (sX11_setEntry hG hq1) ?_
  refine am_aload_n dX11_tryRemove_88 rfl ?_
  refine am_iload dX11_tryRemove_89 rfl ?_
  refine am_iconst (v := nI 1) dX11_tryRemove_91 (by decide) ?_
  refine am_aload_n dX11_tryRemove_92 rfl ?_
  refine am_iload dX11_tryRemove_93 rfl ?_
  refine am_iconst (v := nI 1) dX11_tryRemove_95 (by decide) ?_
  obtain ⟨q2, hq2, h⟩ := am_bd h
  refine am_callVx (i := 0) (j := 60) (as := [.inl l4, .inl (nI 1)]) (rest := [.inl (nI 1), .inl l4, .inr (0, 60)]) dX11_tryRemove_96 lkX11_ofInode ml_X11_351 imX11_ofInode seX11_ofInode rfl rfl (hG.m0 (by decide)) rfl (Nat.le_of_ble_eq_true rfl) rfl (sX11_ofInode hG hq2) ?_
  refine am_iconst (v := nI 1) dX11_tryRemove_99 (by decide) ?_
  refine am_isub dX11_tryRemove_100 ?_
  obtain ⟨q3, hq3, h⟩ := am_bd h
  refine am_callVe (i := 0) (j := 60) (as := [.inl l4, .inl (nI 1), .inl (q2.1 - (nI 1))]) (rest := []) dX11_tryRemove_101 lkX11_setInode ml_X11_360 imX11_setInode seX11_setInode rfl rfl (hG.m0 (by decide)) rfl (Nat.le_of_ble_eq_true rfl) rfl (sX11_setInode hG hq3) ?_
  refine am_aload_n dX11_tryRemove_104 rfl ?_
  refine am_iload dX11_tryRemove_105 rfl ?_
  refine am_iconst (v := nI 1) dX11_tryRemove_107 (by decide) ?_
  obtain ⟨q4, hq4, h⟩ := am_bd h
  refine am_callVx (i := 0) (j := 60) (as := [.inl l4, .inl (nI 1)]) (rest := []) dX11_tryRemove_108 lkX11_ofInode ml_X11_351 imX11_ofInode seX11_ofInode rfl rfl (hG.m0 (by decide)) rfl (Nat.le_of_ble_eq_true rfl) rfl (sX11_ofInode hG hq4) ?_
  refine am_if_ne (tgt := 120) dX11_tryRemove_111 rfl (fun c => ?_) (fun c => ?_)
  · rw [if_neg c] at h
    exact am_lwJ (lo' := [none, none, none, none, none]) trivial (tX11_tryRemove_120 hG h)
  · rw [if_pos c] at h
    refine am_aload_n dX11_tryRemove_114 rfl ?_
    refine am_iload dX11_tryRemove_115 rfl ?_
    obtain ⟨q5, hq5, h⟩ := am_bd h
    refine am_callVe (i := 0) (j := 60) (as := [.inl l4]) (rest := []) dX11_tryRemove_117 lkX11_giveAll ml_X11_425 imX11_giveAll seX11_giveAll rfl rfl (hG.m0 (by decide)) rfl (Nat.le_of_ble_eq_true rfl) rfl (sX11_giveAll hG hq5) ?_
    exact am_lwJ (lo' := [none, none, none, none, none]) trivial (tX11_tryRemove_120 hG h)
def bX11_tryRemove_0 (n : Nat) (l1 : Int32) (l2 : Int32) (I : am_I) : Option (am_I) := (gX11_isOf n l1 (nI 2) (nI 2) (-2 : Int32) I).bind (fun q1 => if q1.1 = 0 then (some q1.2) else ((gX11_find n l1 l2 q1.2).bind (fun q2 => if q2.1 = (-1 : Int32) then ((gX11_fail n (-3 : Int32) q2.2).bind (fun q8 => some q8)) else ((gX11_wordOf n l1 (q2.1 + (nI 1)) q2.2).bind (fun q3 => (gX11_meets n q3.1 (nI 2) q3.2).bind (fun q4 => if q4.1 = 0 then (some q4.2) else ((gX11_ofInode n q3.1 (nI 0) q4.2).bind (fun q5 => if q5.1 = (nI 2) then ((gX11_hasEntry n q3.1 q5.2).bind (fun q6 => if q6.1 = 0 then (bX11_tryRemove_80 n l1 q2.1 q3.1 q6.2) else ((gX11_fail n (-8 : Int32) q6.2).bind (fun q7 => some q7)))) else (bX11_tryRemove_80 n l1 q2.1 q3.1 q5.2)))))))))
theorem tX11_tryRemove_0 {G : am_G} (hG : am_okM G) {d : Nat} {l1 : Int32} {l2 : Int32} {I : am_I} {r : am_I} (h : bX11_tryRemove_0 G.2.2.2.1 l1 l2  I = some r) : am_J G (d + 6) mX11_tryRemove am_no (am_E none r) 0 [some (.inr (0, 60)), some (.inl l1), some (.inl l2), none, none] [] I := by
  unfold bX11_tryRemove_0 at h
  refine am_aload_n dX11_tryRemove_0 rfl ?_
  refine am_iload_n dX11_tryRemove_1 rfl ?_
  refine am_iconst (v := nI 2) dX11_tryRemove_2 (by decide) ?_
  refine am_iconst (v := nI 2) dX11_tryRemove_3 (by decide) ?_
  refine am_bipush (v := (-2 : Int32)) dX11_tryRemove_4 (by decide) ?_
  obtain ⟨q1, hq1, h⟩ := am_bd h
  refine am_callVx (i := 0) (j := 60) (as := [.inl l1, .inl (nI 2), .inl (nI 2), .inl (-2 : Int32)]) (rest := []) dX11_tryRemove_6 lkX11_isOf ml_X11_390 imX11_isOf seX11_isOf rfl rfl (hG.m0 (by decide)) rfl (Nat.le_of_ble_eq_true rfl) rfl (sX11_isOf hG hq1) ?_
  refine am_if_ne (tgt := 13) dX11_tryRemove_9 rfl (fun c => ?_) (fun c => ?_)
  · rw [if_neg c] at h
    refine am_aload_n dX11_tryRemove_13 rfl ?_
    refine am_iload_n dX11_tryRemove_14 rfl ?_
    refine am_iload_n dX11_tryRemove_15 rfl ?_
    obtain ⟨q2, hq2, h⟩ := am_bd h
    refine am_callVx (i := 0) (j := 60) (as := [.inl l1, .inl l2]) (rest := []) dX11_tryRemove_16 lkX11_find ml_X11_369 imX11_find seX11_find rfl rfl (hG.m0 (by decide)) rfl (Nat.le_of_ble_eq_true rfl) rfl (sX11_find hG hq2) ?_
    refine am_istore_n dX11_tryRemove_19 (by decide) ?_
    refine am_iload_n dX11_tryRemove_20 rfl ?_
    refine am_iconst (v := (-1 : Int32)) dX11_tryRemove_21 (by decide) ?_
    refine am_icmp_ne (tgt := 32) dX11_tryRemove_22 rfl (fun c => ?_) (fun c => ?_)
    · rw [if_neg c] at h
      refine am_aload_n dX11_tryRemove_32 rfl ?_
      refine am_iload_n dX11_tryRemove_33 rfl ?_
      refine am_iload_n dX11_tryRemove_34 rfl ?_
      refine am_iconst (v := nI 1) dX11_tryRemove_35 (by decide) ?_
      refine am_iadd dX11_tryRemove_36 ?_
      obtain ⟨q3, hq3, h⟩ := am_bd h
      refine am_callVx (i := 0) (j := 60) (as := [.inl l1, .inl (q2.1 + (nI 1))]) (rest := []) dX11_tryRemove_37 lkX11_wordOf ml_X11_363 imX11_wordOf seX11_wordOf rfl rfl (hG.m0 (by decide)) rfl (Nat.le_of_ble_eq_true rfl) rfl (sX11_wordOf hG hq3) ?_
      refine am_istore dX11_tryRemove_40 (by decide) ?_
      refine am_aload_n dX11_tryRemove_42 rfl ?_
      refine am_iload dX11_tryRemove_43 rfl ?_
      refine am_iconst (v := nI 2) dX11_tryRemove_45 (by decide) ?_
      obtain ⟨q4, hq4, h⟩ := am_bd h
      refine am_callVx (i := 0) (j := 60) (as := [.inl q3.1, .inl (nI 2)]) (rest := []) dX11_tryRemove_46 lkX11_meets ml_X11_338 imX11_meets seX11_meets rfl rfl (hG.m0 (by decide)) rfl (Nat.le_of_ble_eq_true rfl) rfl (sX11_meets hG hq4) ?_
      refine am_if_ne (tgt := 53) dX11_tryRemove_49 rfl (fun c => ?_) (fun c => ?_)
      · rw [if_neg c] at h
        refine am_aload_n dX11_tryRemove_53 rfl ?_
        refine am_iload dX11_tryRemove_54 rfl ?_
        refine am_iconst (v := nI 0) dX11_tryRemove_56 (by decide) ?_
        obtain ⟨q5, hq5, h⟩ := am_bd h
        refine am_callVx (i := 0) (j := 60) (as := [.inl q3.1, .inl (nI 0)]) (rest := []) dX11_tryRemove_57 lkX11_ofInode ml_X11_351 imX11_ofInode seX11_ofInode rfl rfl (hG.m0 (by decide)) rfl (Nat.le_of_ble_eq_true rfl) rfl (sX11_ofInode hG hq5) ?_
        refine am_iconst (v := nI 2) dX11_tryRemove_60 (by decide) ?_
        refine am_icmp_ne (tgt := 80) dX11_tryRemove_61 rfl (fun c => ?_) (fun c => ?_)
        · rw [if_neg c] at h
          exact am_lwJ (lo' := [some (.inr (0, 60)), some (.inl l1), none, some (.inl q2.1), some (.inl q3.1)]) ⟨rfl, rfl, rfl, rfl, trivial⟩ (tX11_tryRemove_80 hG h)
        · rw [if_pos c] at h
          refine am_aload_n dX11_tryRemove_64 rfl ?_
          refine am_iload dX11_tryRemove_65 rfl ?_
          obtain ⟨q6, hq6, h⟩ := am_bd h
          refine am_callVx (i := 0) (j := 60) (as := [.inl q3.1]) (rest := []) dX11_tryRemove_67 lkX11_hasEntry ml_X11_422 imX11_hasEntry seX11_hasEntry rfl rfl (hG.m0 (by decide)) rfl (Nat.le_of_ble_eq_true rfl) rfl (sX11_hasEntry hG hq6) ?_
          refine am_if_eq (tgt := 80) dX11_tryRemove_70 rfl (fun c => ?_) (fun c => ?_)
          · rw [if_pos c] at h
            exact am_lwJ (lo' := [some (.inr (0, 60)), some (.inl l1), none, some (.inl q2.1), some (.inl q3.1)]) ⟨rfl, rfl, rfl, rfl, trivial⟩ (tX11_tryRemove_80 hG h)
          · rw [if_neg c] at h
            refine am_aload_n dX11_tryRemove_73 rfl ?_
            refine am_bipush (v := (-8 : Int32)) dX11_tryRemove_74 (by decide) ?_
            obtain ⟨q7, hq7, h⟩ := am_bd h
            refine am_callVe (i := 0) (j := 60) (as := [.inl (-8 : Int32)]) (rest := []) dX11_tryRemove_76 lkX11_fail ml_X11_348 imX11_fail seX11_fail rfl rfl (hG.m0 (by decide)) rfl (Nat.le_of_ble_eq_true rfl) rfl (sX11_fail hG hq7) ?_
            cases h
            exact am_vret dX11_tryRemove_79 rfl ⟨rfl, rfl⟩
      · rw [if_pos c] at h
        cases h
        exact am_vret dX11_tryRemove_52 rfl ⟨rfl, rfl⟩
    · rw [if_pos c] at h
      refine am_aload_n dX11_tryRemove_25 rfl ?_
      refine am_bipush (v := (-3 : Int32)) dX11_tryRemove_26 (by decide) ?_
      obtain ⟨q8, hq8, h⟩ := am_bd h
      refine am_callVe (i := 0) (j := 60) (as := [.inl (-3 : Int32)]) (rest := []) dX11_tryRemove_28 lkX11_fail ml_X11_348 imX11_fail seX11_fail rfl rfl (hG.m0 (by decide)) rfl (Nat.le_of_ble_eq_true rfl) rfl (sX11_fail hG hq8) ?_
      cases h
      exact am_vret dX11_tryRemove_31 rfl ⟨rfl, rfl⟩
  · rw [if_pos c] at h
    cases h
    exact am_vret dX11_tryRemove_12 rfl ⟨rfl, rfl⟩
def gX11_tryRemove (n : Nat) (l1 : Int32) (l2 : Int32) (I : am_I) : Option (am_I) := bX11_tryRemove_0 n l1 l2 I
theorem sX11_tryRemove {G : am_G} (hG : am_okM G) {d : Nat} {l1 : Int32} {l2 : Int32} {I : am_I} {r : am_I} (h : gX11_tryRemove G.2.2.2.1 l1 l2 I = some r) : am_C G (d + 6) mX11_tryRemove [.inr (0, 60), .inl l1, .inl l2] I (am_E none r) :=
  am_of (by decide +kernel) hG.nd (Nat.le_of_ble_eq_true rfl) (am_lwJ (lo' := [some (.inr (0, 60)), some (.inl l1), some (.inl l2), none, none]) ⟨rfl, rfl, rfl, trivial⟩ (tX11_tryRemove_0 hG h))
def bX11_tryLink_0 (n : Nat) (l1 : Int32) (l2 : Int32) (l3 : Int32) (I : am_I) : Option (am_I) := (gX11_isOf n l1 (nI 2) (nI 2) (-2 : Int32) I).bind (fun q1 => if q1.1 = 0 then (some q1.2) else ((gX11_find n l1 l2 q1.2).bind (fun q2 => if q2.1 = (-1 : Int32) then ((gX11_isOf n l3 (nI 2) (nI 1) (-4 : Int32) q2.2).bind (fun q3 => if q3.1 = 0 then (some q3.2) else ((gX11_ofInode n l3 (nI 1) q3.2).bind (fun q4 => (gX11_setInode n l3 (nI 1) (q4.1 + (nI 1)) q4.2).bind (fun q5 => (gX11_putEntry n l1 l2 l3 q5).bind (fun q6 => (gX11_ofInode n l3 (nI 1) q6).bind (fun q7 => am_lt (am_up q7.2 0 60 55 q7.1) (fun I8 => some I8)))))))) else ((gX11_fail n (-6 : Int32) q2.2).bind (fun q9 => some q9)))))
theorem tX11_tryLink_0 {G : am_G} (hG : am_okM G) {d : Nat} {l1 : Int32} {l2 : Int32} {l3 : Int32} {I : am_I} {r : am_I} (h : bX11_tryLink_0 G.2.2.2.1 l1 l2 l3  I = some r) : am_J G (d + 7) mX11_tryLink am_no (am_E none r) 0 [some (.inr (0, 60)), some (.inl l1), some (.inl l2), some (.inl l3)] [] I := by
  unfold bX11_tryLink_0 at h
  refine am_aload_n dX11_tryLink_0 rfl ?_
  refine am_iload_n dX11_tryLink_1 rfl ?_
  refine am_iconst (v := nI 2) dX11_tryLink_2 (by decide) ?_
  refine am_iconst (v := nI 2) dX11_tryLink_3 (by decide) ?_
  refine am_bipush (v := (-2 : Int32)) dX11_tryLink_4 (by decide) ?_
  obtain ⟨q1, hq1, h⟩ := am_bd h
  refine am_callVx (i := 0) (j := 60) (as := [.inl l1, .inl (nI 2), .inl (nI 2), .inl (-2 : Int32)]) (rest := []) dX11_tryLink_6 lkX11_isOf ml_X11_390 imX11_isOf seX11_isOf rfl rfl (hG.m0 (by decide)) rfl (Nat.le_of_ble_eq_true rfl) rfl (sX11_isOf hG hq1) ?_
  refine am_if_ne (tgt := 13) dX11_tryLink_9 rfl (fun c => ?_) (fun c => ?_)
  · rw [if_neg c] at h
    refine am_aload_n dX11_tryLink_13 rfl ?_
    refine am_iload_n dX11_tryLink_14 rfl ?_
    refine am_iload_n dX11_tryLink_15 rfl ?_
    obtain ⟨q2, hq2, h⟩ := am_bd h
    refine am_callVx (i := 0) (j := 60) (as := [.inl l1, .inl l2]) (rest := []) dX11_tryLink_16 lkX11_find ml_X11_369 imX11_find seX11_find rfl rfl (hG.m0 (by decide)) rfl (Nat.le_of_ble_eq_true rfl) rfl (sX11_find hG hq2) ?_
    refine am_iconst (v := (-1 : Int32)) dX11_tryLink_19 (by decide) ?_
    refine am_icmp_eq (tgt := 30) dX11_tryLink_20 rfl (fun c => ?_) (fun c => ?_)
    · rw [if_pos c] at h
      refine am_aload_n dX11_tryLink_30 rfl ?_
      refine am_iload_n dX11_tryLink_31 rfl ?_
      refine am_iconst (v := nI 2) dX11_tryLink_32 (by decide) ?_
      refine am_iconst (v := nI 1) dX11_tryLink_33 (by decide) ?_
      refine am_bipush (v := (-4 : Int32)) dX11_tryLink_34 (by decide) ?_
      obtain ⟨q3, hq3, h⟩ := am_bd h
      refine am_callVx (i := 0) (j := 60) (as := [.inl l3, .inl (nI 2), .inl (nI 1), .inl (-4 : Int32)]) (rest := []) dX11_tryLink_36 lkX11_isOf ml_X11_390 imX11_isOf seX11_isOf rfl rfl (hG.m0 (by decide)) rfl (Nat.le_of_ble_eq_true rfl) rfl (sX11_isOf hG hq3) ?_
      refine am_if_ne (tgt := 43) dX11_tryLink_39 rfl (fun c => ?_) (fun c => ?_)
      · rw [if_neg c] at h
        refine am_aload_n dX11_tryLink_43 rfl ?_
        refine am_iload_n dX11_tryLink_44 rfl ?_
        refine am_iconst (v := nI 1) dX11_tryLink_45 (by decide) ?_
        refine am_aload_n dX11_tryLink_46 rfl ?_
        refine am_iload_n dX11_tryLink_47 rfl ?_
        refine am_iconst (v := nI 1) dX11_tryLink_48 (by decide) ?_
        obtain ⟨q4, hq4, h⟩ := am_bd h
        refine am_callVx (i := 0) (j := 60) (as := [.inl l3, .inl (nI 1)]) (rest := [.inl (nI 1), .inl l3, .inr (0, 60)]) dX11_tryLink_49 lkX11_ofInode ml_X11_351 imX11_ofInode seX11_ofInode rfl rfl (hG.m0 (by decide)) rfl (Nat.le_of_ble_eq_true rfl) rfl (sX11_ofInode hG hq4) ?_
        refine am_iconst (v := nI 1) dX11_tryLink_52 (by decide) ?_
        refine am_iadd dX11_tryLink_53 ?_
        obtain ⟨q5, hq5, h⟩ := am_bd h
        refine am_callVe (i := 0) (j := 60) (as := [.inl l3, .inl (nI 1), .inl (q4.1 + (nI 1))]) (rest := []) dX11_tryLink_54 lkX11_setInode ml_X11_360 imX11_setInode seX11_setInode rfl rfl (hG.m0 (by decide)) rfl (Nat.le_of_ble_eq_true rfl) rfl (sX11_setInode hG hq5) ?_
        refine am_aload_n dX11_tryLink_57 rfl ?_
        refine am_iload_n dX11_tryLink_58 rfl ?_
        refine am_iload_n dX11_tryLink_59 rfl ?_
        refine am_iload_n dX11_tryLink_60 rfl ?_
        obtain ⟨q6, hq6, h⟩ := am_bd h
        refine am_callVe (i := 0) (j := 60) (as := [.inl l1, .inl l2, .inl l3]) (rest := []) dX11_tryLink_61 lkX11_putEntry ml_X11_419 imX11_putEntry seX11_putEntry rfl rfl (hG.m0 (by decide)) rfl (Nat.le_of_ble_eq_true rfl) rfl (sX11_putEntry hG hq6) ?_
        refine am_aload_n dX11_tryLink_64 rfl ?_
        refine am_aload_n dX11_tryLink_65 rfl ?_
        refine am_iload_n dX11_tryLink_66 rfl ?_
        refine am_iconst (v := nI 1) dX11_tryLink_67 (by decide) ?_
        obtain ⟨q7, hq7, h⟩ := am_bd h
        refine am_callVx (i := 0) (j := 60) (as := [.inl l3, .inl (nI 1)]) (rest := [.inr (0, 60)]) dX11_tryLink_68 lkX11_ofInode ml_X11_351 imX11_ofInode seX11_ofInode rfl rfl (hG.m0 (by decide)) rfl (Nat.le_of_ble_eq_true rfl) rfl (sX11_ofInode hG hq7) ?_
        refine am_put (x := q7.1) dX11_tryLink_71 fp_11_316 (hG.m0 (by decide)) (Nat.le_of_ble_eq_true rfl) rfl ?_
        obtain ⟨I8, hI8, h⟩ := am_lt_some h
        refine am_st10 hI8 ?_
        cases h
        exact am_vret dX11_tryLink_74 rfl ⟨rfl, rfl⟩
      · rw [if_pos c] at h
        cases h
        exact am_vret dX11_tryLink_42 rfl ⟨rfl, rfl⟩
    · rw [if_neg c] at h
      refine am_aload_n dX11_tryLink_23 rfl ?_
      refine am_bipush (v := (-6 : Int32)) dX11_tryLink_24 (by decide) ?_
      obtain ⟨q9, hq9, h⟩ := am_bd h
      refine am_callVe (i := 0) (j := 60) (as := [.inl (-6 : Int32)]) (rest := []) dX11_tryLink_26 lkX11_fail ml_X11_348 imX11_fail seX11_fail rfl rfl (hG.m0 (by decide)) rfl (Nat.le_of_ble_eq_true rfl) rfl (sX11_fail hG hq9) ?_
      cases h
      exact am_vret dX11_tryLink_29 rfl ⟨rfl, rfl⟩
  · rw [if_pos c] at h
    cases h
    exact am_vret dX11_tryLink_12 rfl ⟨rfl, rfl⟩
def gX11_tryLink (n : Nat) (l1 : Int32) (l2 : Int32) (l3 : Int32) (I : am_I) : Option (am_I) := bX11_tryLink_0 n l1 l2 l3 I
theorem sX11_tryLink {G : am_G} (hG : am_okM G) {d : Nat} {l1 : Int32} {l2 : Int32} {l3 : Int32} {I : am_I} {r : am_I} (h : gX11_tryLink G.2.2.2.1 l1 l2 l3 I = some r) : am_C G (d + 7) mX11_tryLink [.inr (0, 60), .inl l1, .inl l2, .inl l3] I (am_E none r) :=
  am_of (by decide +kernel) hG.nd (Nat.le_of_ble_eq_true rfl) (am_lwJ (lo' := [some (.inr (0, 60)), some (.inl l1), some (.inl l2), some (.inl l3)]) ⟨rfl, rfl, rfl, rfl, trivial⟩ (tX11_tryLink_0 hG h))
def bX11_tryRename_24 (n : Nat) (I : am_I) : Option (am_I) := some I
theorem tX11_tryRename_24 {G : am_G} (hG : am_okM G) {d : Nat} {I : am_I} {r : am_I} (h : bX11_tryRename_24 G.2.2.2.1  I = some r) : am_J G (d + 7) mX11_tryRename am_no (am_E none r) 24 [none, none, none, none, none, none, none] [] I := by
  unfold bX11_tryRename_24 at h
  cases h
  exact am_vret dX11_tryRename_24 rfl ⟨rfl, rfl⟩
def bX11_tryRename_98 (n : Nat) (l1 : Int32) (l3 : Int32) (l4 : Int32) (l5 : Int32) (l6 : Int32) (I : am_I) : Option (am_I) := (gX11_find n l3 l4 I).bind (fun q1 => if q1.1 = (-1 : Int32) then ((gX11_setEntry n l1 l5 (nI 0) (nI 0) q1.2).bind (fun q2 => (gX11_putEntry n l3 l4 l6 q2).bind (fun q3 => some q3))) else ((gX11_fail n (-6 : Int32) q1.2).bind (fun q4 => some q4)))
theorem tX11_tryRename_98 {G : am_G} (hG : am_okM G) {d : Nat} {l1 : Int32} {l3 : Int32} {l4 : Int32} {l5 : Int32} {l6 : Int32} {I : am_I} {r : am_I} (h : bX11_tryRename_98 G.2.2.2.1 l1 l3 l4 l5 l6  I = some r) : am_J G (d + 7) mX11_tryRename am_no (am_E none r) 98 [some (.inr (0, 60)), some (.inl l1), none, some (.inl l3), some (.inl l4), some (.inl l5), some (.inl l6)] [] I := by
  unfold bX11_tryRename_98 at h
  refine am_aload_n dX11_tryRename_98 rfl ?_
  refine am_iload_n dX11_tryRename_99 rfl ?_
  refine am_iload dX11_tryRename_100 rfl ?_
  obtain ⟨q1, hq1, h⟩ := am_bd h
  refine am_callVx (i := 0) (j := 60) (as := [.inl l3, .inl l4]) (rest := []) dX11_tryRename_102 lkX11_find ml_X11_369 imX11_find seX11_find rfl rfl (hG.m0 (by decide)) rfl (Nat.le_of_ble_eq_true rfl) rfl (sX11_find hG hq1) ?_
  refine am_iconst (v := (-1 : Int32)) dX11_tryRename_105 (by decide) ?_
  refine am_icmp_eq (tgt := 116) dX11_tryRename_106 rfl (fun c => ?_) (fun c => ?_)
  · rw [if_pos c] at h
    refine am_aload_n dX11_tryRename_116 rfl ?_
    refine am_iload_n dX11_tryRename_117 rfl ?_
    refine am_iload dX11_tryRename_118 rfl ?_
    refine am_iconst (v := nI 0) dX11_tryRename_120 (by decide) ?_
    refine am_iconst (v := nI 0) dX11_tryRename_121 (by decide) ?_
    obtain ⟨q2, hq2, h⟩ := am_bd h
    refine am_callVe (i := 0) (j := 60) (as := [.inl l1, .inl l5, .inl (nI 0), .inl (nI 0)]) (rest := []) dX11_tryRename_122 lkX11_setEntry ml_X11_372 imX11_setEntry seX11_setEntry rfl rfl (hG.m0 (by decide)) rfl (Nat.le_of_ble_eq_true rfl) rfl (sX11_setEntry hG hq2) ?_
    refine am_aload_n dX11_tryRename_125 rfl ?_
    refine am_iload_n dX11_tryRename_126 rfl ?_
    refine am_iload dX11_tryRename_127 rfl ?_
    refine am_iload dX11_tryRename_129 rfl ?_
    obtain ⟨q3, hq3, h⟩ := am_bd h
    refine am_callVe (i := 0) (j := 60) (as := [.inl l3, .inl l4, .inl l6]) (rest := []) dX11_tryRename_131 lkX11_putEntry ml_X11_419 imX11_putEntry seX11_putEntry rfl rfl (hG.m0 (by decide)) rfl (Nat.le_of_ble_eq_true rfl) rfl (sX11_putEntry hG hq3) ?_
    cases h
    exact am_vret dX11_tryRename_134 rfl ⟨rfl, rfl⟩
  · rw [if_neg c] at h
    refine am_aload_n dX11_tryRename_109 rfl ?_
    refine am_bipush (v := (-6 : Int32)) dX11_tryRename_110 (by decide) ?_
    obtain ⟨q4, hq4, h⟩ := am_bd h
    refine am_callVe (i := 0) (j := 60) (as := [.inl (-6 : Int32)]) (rest := []) dX11_tryRename_112 lkX11_fail ml_X11_348 imX11_fail seX11_fail rfl rfl (hG.m0 (by decide)) rfl (Nat.le_of_ble_eq_true rfl) rfl (sX11_fail hG hq4) ?_
    cases h
    exact am_vret dX11_tryRename_115 rfl ⟨rfl, rfl⟩
def bX11_tryRename_0 (n : Nat) (l1 : Int32) (l2 : Int32) (l3 : Int32) (l4 : Int32) (I : am_I) : Option (am_I) := (gX11_isOf n l1 (nI 2) (nI 2) (-2 : Int32) I).bind (fun q1 => if q1.1 = 0 then (bX11_tryRename_24 n q1.2) else ((gX11_isOf n l3 (nI 2) (nI 2) (-2 : Int32) q1.2).bind (fun q2 => if q2.1 = 0 then (bX11_tryRename_24 n q2.2) else ((gX11_find n l1 l2 q2.2).bind (fun q3 => if q3.1 = (-1 : Int32) then ((gX11_fail n (-3 : Int32) q3.2).bind (fun q8 => some q8)) else ((gX11_wordOf n l1 (q3.1 + (nI 1)) q3.2).bind (fun q4 => if l1 = l3 then (if l2 = l4 then (some q4.2) else (bX11_tryRename_98 n l1 l3 l4 q3.1 q4.1 q4.2)) else ((gX11_meets n q4.1 (nI 1) q4.2).bind (fun q5 => if q5.1 = 0 then (some q5.2) else ((gX11_ofInode n q4.1 (nI 0) q5.2).bind (fun q6 => if q6.1 = (nI 2) then ((gX11_fail n (-9 : Int32) q6.2).bind (fun q7 => some q7)) else (bX11_tryRename_98 n l1 l3 l4 q3.1 q4.1 q6.2))))))))))))
theorem tX11_tryRename_0 {G : am_G} (hG : am_okM G) {d : Nat} {l1 : Int32} {l2 : Int32} {l3 : Int32} {l4 : Int32} {I : am_I} {r : am_I} (h : bX11_tryRename_0 G.2.2.2.1 l1 l2 l3 l4  I = some r) : am_J G (d + 7) mX11_tryRename am_no (am_E none r) 0 [some (.inr (0, 60)), some (.inl l1), some (.inl l2), some (.inl l3), some (.inl l4), none, none] [] I := by
  unfold bX11_tryRename_0 at h
  refine am_aload_n dX11_tryRename_0 rfl ?_
  refine am_iload_n dX11_tryRename_1 rfl ?_
  refine am_iconst (v := nI 2) dX11_tryRename_2 (by decide) ?_
  refine am_iconst (v := nI 2) dX11_tryRename_3 (by decide) ?_
  refine am_bipush (v := (-2 : Int32)) dX11_tryRename_4 (by decide) ?_
  obtain ⟨q1, hq1, h⟩ := am_bd h
  refine am_callVx (i := 0) (j := 60) (as := [.inl l1, .inl (nI 2), .inl (nI 2), .inl (-2 : Int32)]) (rest := []) dX11_tryRename_6 lkX11_isOf ml_X11_390 imX11_isOf seX11_isOf rfl rfl (hG.m0 (by decide)) rfl (Nat.le_of_ble_eq_true rfl) rfl (sX11_isOf hG hq1) ?_
  refine am_if_eq (tgt := 24) dX11_tryRename_9 rfl (fun c => ?_) (fun c => ?_)
  · rw [if_pos c] at h
    exact am_lwJ (lo' := [none, none, none, none, none, none, none]) trivial (tX11_tryRename_24 hG h)
  · rw [if_neg c] at h
    refine am_aload_n dX11_tryRename_12 rfl ?_
    refine am_iload_n dX11_tryRename_13 rfl ?_
    refine am_iconst (v := nI 2) dX11_tryRename_14 (by decide) ?_
    refine am_iconst (v := nI 2) dX11_tryRename_15 (by decide) ?_
    refine am_bipush (v := (-2 : Int32)) dX11_tryRename_16 (by decide) ?_
    obtain ⟨q2, hq2, h⟩ := am_bd h
    refine am_callVx (i := 0) (j := 60) (as := [.inl l3, .inl (nI 2), .inl (nI 2), .inl (-2 : Int32)]) (rest := []) dX11_tryRename_18 lkX11_isOf ml_X11_390 imX11_isOf seX11_isOf rfl rfl (hG.m0 (by decide)) rfl (Nat.le_of_ble_eq_true rfl) rfl (sX11_isOf hG hq2) ?_
    refine am_if_ne (tgt := 25) dX11_tryRename_21 rfl (fun c => ?_) (fun c => ?_)
    · rw [if_neg c] at h
      refine am_aload_n dX11_tryRename_25 rfl ?_
      refine am_iload_n dX11_tryRename_26 rfl ?_
      refine am_iload_n dX11_tryRename_27 rfl ?_
      obtain ⟨q3, hq3, h⟩ := am_bd h
      refine am_callVx (i := 0) (j := 60) (as := [.inl l1, .inl l2]) (rest := []) dX11_tryRename_28 lkX11_find ml_X11_369 imX11_find seX11_find rfl rfl (hG.m0 (by decide)) rfl (Nat.le_of_ble_eq_true rfl) rfl (sX11_find hG hq3) ?_
      refine am_istore dX11_tryRename_31 (by decide) ?_
      refine am_iload dX11_tryRename_33 rfl ?_
      refine am_iconst (v := (-1 : Int32)) dX11_tryRename_35 (by decide) ?_
      refine am_icmp_ne (tgt := 46) dX11_tryRename_36 rfl (fun c => ?_) (fun c => ?_)
      · rw [if_neg c] at h
        refine am_aload_n dX11_tryRename_46 rfl ?_
        refine am_iload_n dX11_tryRename_47 rfl ?_
        refine am_iload dX11_tryRename_48 rfl ?_
        refine am_iconst (v := nI 1) dX11_tryRename_50 (by decide) ?_
        refine am_iadd dX11_tryRename_51 ?_
        obtain ⟨q4, hq4, h⟩ := am_bd h
        refine am_callVx (i := 0) (j := 60) (as := [.inl l1, .inl (q3.1 + (nI 1))]) (rest := []) dX11_tryRename_52 lkX11_wordOf ml_X11_363 imX11_wordOf seX11_wordOf rfl rfl (hG.m0 (by decide)) rfl (Nat.le_of_ble_eq_true rfl) rfl (sX11_wordOf hG hq4) ?_
        refine am_istore dX11_tryRename_55 (by decide) ?_
        refine am_iload_n dX11_tryRename_57 rfl ?_
        refine am_iload_n dX11_tryRename_58 rfl ?_
        refine am_icmp_eq (tgt := 91) dX11_tryRename_59 rfl (fun c => ?_) (fun c => ?_)
        · rw [if_pos c] at h
          refine am_iload_n dX11_tryRename_91 rfl ?_
          refine am_iload dX11_tryRename_92 rfl ?_
          refine am_icmp_ne (tgt := 98) dX11_tryRename_94 rfl (fun c => ?_) (fun c => ?_)
          · rw [if_neg c] at h
            exact am_lwJ (lo' := [some (.inr (0, 60)), some (.inl l1), none, some (.inl l3), some (.inl l4), some (.inl q3.1), some (.inl q4.1)]) ⟨rfl, rfl, rfl, rfl, rfl, rfl, trivial⟩ (tX11_tryRename_98 hG h)
          · rw [if_pos c] at h
            cases h
            exact am_vret dX11_tryRename_97 rfl ⟨rfl, rfl⟩
        · rw [if_neg c] at h
          refine am_aload_n dX11_tryRename_62 rfl ?_
          refine am_iload dX11_tryRename_63 rfl ?_
          refine am_iconst (v := nI 1) dX11_tryRename_65 (by decide) ?_
          obtain ⟨q5, hq5, h⟩ := am_bd h
          refine am_callVx (i := 0) (j := 60) (as := [.inl q4.1, .inl (nI 1)]) (rest := []) dX11_tryRename_66 lkX11_meets ml_X11_338 imX11_meets seX11_meets rfl rfl (hG.m0 (by decide)) rfl (Nat.le_of_ble_eq_true rfl) rfl (sX11_meets hG hq5) ?_
          refine am_if_ne (tgt := 73) dX11_tryRename_69 rfl (fun c => ?_) (fun c => ?_)
          · rw [if_neg c] at h
            refine am_aload_n dX11_tryRename_73 rfl ?_
            refine am_iload dX11_tryRename_74 rfl ?_
            refine am_iconst (v := nI 0) dX11_tryRename_76 (by decide) ?_
            obtain ⟨q6, hq6, h⟩ := am_bd h
            refine am_callVx (i := 0) (j := 60) (as := [.inl q4.1, .inl (nI 0)]) (rest := []) dX11_tryRename_77 lkX11_ofInode ml_X11_351 imX11_ofInode seX11_ofInode rfl rfl (hG.m0 (by decide)) rfl (Nat.le_of_ble_eq_true rfl) rfl (sX11_ofInode hG hq6) ?_
            refine am_iconst (v := nI 2) dX11_tryRename_80 (by decide) ?_
            refine am_icmp_ne (tgt := 98) dX11_tryRename_81 rfl (fun c => ?_) (fun c => ?_)
            · rw [if_neg c] at h
              exact am_lwJ (lo' := [some (.inr (0, 60)), some (.inl l1), none, some (.inl l3), some (.inl l4), some (.inl q3.1), some (.inl q4.1)]) ⟨rfl, rfl, rfl, rfl, rfl, rfl, trivial⟩ (tX11_tryRename_98 hG h)
            · rw [if_pos c] at h
              refine am_aload_n dX11_tryRename_84 rfl ?_
              refine am_bipush (v := (-9 : Int32)) dX11_tryRename_85 (by decide) ?_
              obtain ⟨q7, hq7, h⟩ := am_bd h
              refine am_callVe (i := 0) (j := 60) (as := [.inl (-9 : Int32)]) (rest := []) dX11_tryRename_87 lkX11_fail ml_X11_348 imX11_fail seX11_fail rfl rfl (hG.m0 (by decide)) rfl (Nat.le_of_ble_eq_true rfl) rfl (sX11_fail hG hq7) ?_
              cases h
              exact am_vret dX11_tryRename_90 rfl ⟨rfl, rfl⟩
          · rw [if_pos c] at h
            cases h
            exact am_vret dX11_tryRename_72 rfl ⟨rfl, rfl⟩
      · rw [if_pos c] at h
        refine am_aload_n dX11_tryRename_39 rfl ?_
        refine am_bipush (v := (-3 : Int32)) dX11_tryRename_40 (by decide) ?_
        obtain ⟨q8, hq8, h⟩ := am_bd h
        refine am_callVe (i := 0) (j := 60) (as := [.inl (-3 : Int32)]) (rest := []) dX11_tryRename_42 lkX11_fail ml_X11_348 imX11_fail seX11_fail rfl rfl (hG.m0 (by decide)) rfl (Nat.le_of_ble_eq_true rfl) rfl (sX11_fail hG hq8) ?_
        cases h
        exact am_vret dX11_tryRename_45 rfl ⟨rfl, rfl⟩
    · rw [if_pos c] at h
      exact am_lwJ (lo' := [none, none, none, none, none, none, none]) trivial (tX11_tryRename_24 hG h)
def gX11_tryRename (n : Nat) (l1 : Int32) (l2 : Int32) (l3 : Int32) (l4 : Int32) (I : am_I) : Option (am_I) := bX11_tryRename_0 n l1 l2 l3 l4 I
theorem sX11_tryRename {G : am_G} (hG : am_okM G) {d : Nat} {l1 : Int32} {l2 : Int32} {l3 : Int32} {l4 : Int32} {I : am_I} {r : am_I} (h : gX11_tryRename G.2.2.2.1 l1 l2 l3 l4 I = some r) : am_C G (d + 7) mX11_tryRename [.inr (0, 60), .inl l1, .inl l2, .inl l3, .inl l4] I (am_E none r) :=
  am_of (by decide +kernel) hG.nd (Nat.le_of_ble_eq_true rfl) (am_lwJ (lo' := [some (.inr (0, 60)), some (.inl l1), some (.inl l2), some (.inl l3), some (.inl l4), none, none]) ⟨rfl, rfl, rfl, rfl, rfl, trivial⟩ (tX11_tryRename_0 hG h))
def bX11_tryWrite_83 (n : Nat) (l6 : Int32) (I : am_I) : Option (am_I) := am_lt (am_up I 0 60 55 l6) (fun I1 => some I1)
theorem tX11_tryWrite_83 {G : am_G} (hG : am_okM G) {d : Nat} {l6 : Int32} {I : am_I} {r : am_I} (h : bX11_tryWrite_83 G.2.2.2.1 l6  I = some r) : am_J G (d + 5) mX11_tryWrite am_no (am_E none r) 83 [some (.inr (0, 60)), none, none, none, none, none, some (.inl l6)] [] I := by
  unfold bX11_tryWrite_83 at h
  refine am_aload_n dX11_tryWrite_83 rfl ?_
  refine am_iload dX11_tryWrite_84 rfl ?_
  refine am_put (x := l6) dX11_tryWrite_86 fp_11_316 (hG.m0 (by decide)) (Nat.le_of_ble_eq_true rfl) rfl ?_
  obtain ⟨I1, hI1, h⟩ := am_lt_some h
  refine am_st10 hI1 ?_
  cases h
  exact am_vret dX11_tryWrite_89 rfl ⟨rfl, rfl⟩
def bX11_tryWrite_50 (n : Nat) (l1 : Int32) (l2 : Int32) (l5 : Int32) (s0 : Int32) (I : am_I) : Option (am_I) := (gX11_set n l5 (l2 - l2 / (nI 16) * (nI 16)) s0 I).bind (fun q1 => (gX11_ofInode n l1 (nI 2) q1).bind (fun q2 => if l2 < q2.1 then (bX11_tryWrite_83 n s0 q2.2) else ((gX11_setInode n l1 (nI 2) (l2 + (nI 1)) q2.2).bind (fun q3 => bX11_tryWrite_83 n s0 q3))))
theorem tX11_tryWrite_50 {G : am_G} (hG : am_okM G) {d : Nat} {l1 : Int32} {l2 : Int32} {l5 : Int32} {s0 : Int32} {I : am_I} {r : am_I} (h : bX11_tryWrite_50 G.2.2.2.1 l1 l2 l5 s0  I = some r) : am_J G (d + 5) mX11_tryWrite am_no (am_E none r) 50 [some (.inr (0, 60)), some (.inl l1), some (.inl l2), none, none, some (.inl l5), none] [.inl s0] I := by
  unfold bX11_tryWrite_50 at h
  refine am_istore dX11_tryWrite_50 (by decide) ?_
  refine am_aload_n dX11_tryWrite_52 rfl ?_
  refine am_iload dX11_tryWrite_53 rfl ?_
  refine am_iload_n dX11_tryWrite_55 rfl ?_
  refine am_bipush (v := nI 16) dX11_tryWrite_56 (by decide) ?_
  refine am_irem dX11_tryWrite_58 (by decide) ?_
  refine am_iload dX11_tryWrite_59 rfl ?_
  obtain ⟨q1, hq1, h⟩ := am_bd h
  refine am_callVe (i := 0) (j := 60) (as := [.inl l5, .inl (l2 - l2 / (nI 16) * (nI 16)), .inl s0]) (rest := []) dX11_tryWrite_61 lkX11_set ml_X11_335 imX11_set seX11_set rfl rfl (hG.m0 (by decide)) rfl (Nat.le_of_ble_eq_true rfl) rfl (sX11_set hG hq1) ?_
  refine am_aload_n dX11_tryWrite_64 rfl ?_
  refine am_iload_n dX11_tryWrite_65 rfl ?_
  refine am_iconst (v := nI 2) dX11_tryWrite_66 (by decide) ?_
  obtain ⟨q2, hq2, h⟩ := am_bd h
  refine am_callVx (i := 0) (j := 60) (as := [.inl l1, .inl (nI 2)]) (rest := []) dX11_tryWrite_67 lkX11_ofInode ml_X11_351 imX11_ofInode seX11_ofInode rfl rfl (hG.m0 (by decide)) rfl (Nat.le_of_ble_eq_true rfl) rfl (sX11_ofInode hG hq2) ?_
  refine am_iload_n dX11_tryWrite_70 rfl ?_
  refine am_icmp_gt (tgt := 83) dX11_tryWrite_71 rfl (fun c => ?_) (fun c => ?_)
  · rw [if_pos c] at h
    exact am_lwJ (lo' := [some (.inr (0, 60)), none, none, none, none, none, some (.inl s0)]) ⟨rfl, rfl, trivial⟩ (tX11_tryWrite_83 hG h)
  · rw [if_neg c] at h
    refine am_aload_n dX11_tryWrite_74 rfl ?_
    refine am_iload_n dX11_tryWrite_75 rfl ?_
    refine am_iconst (v := nI 2) dX11_tryWrite_76 (by decide) ?_
    refine am_iload_n dX11_tryWrite_77 rfl ?_
    refine am_iconst (v := nI 1) dX11_tryWrite_78 (by decide) ?_
    refine am_iadd dX11_tryWrite_79 ?_
    obtain ⟨q3, hq3, h⟩ := am_bd h
    refine am_callVe (i := 0) (j := 60) (as := [.inl l1, .inl (nI 2), .inl (l2 + (nI 1))]) (rest := []) dX11_tryWrite_80 lkX11_setInode ml_X11_360 imX11_setInode seX11_setInode rfl rfl (hG.m0 (by decide)) rfl (Nat.le_of_ble_eq_true rfl) rfl (sX11_setInode hG hq3) ?_
    exact am_lwJ (lo' := [some (.inr (0, 60)), none, none, none, none, none, some (.inl s0)]) ⟨rfl, rfl, trivial⟩ (tX11_tryWrite_83 hG h)
def bX11_tryWrite_0 (n : Nat) (l1 : Int32) (l2 : Int32) (l3 : Int32) (l4 : Int32) (I : am_I) : Option (am_I) := (gX11_isOf n l1 (nI 2) (nI 1) (-4 : Int32) I).bind (fun q1 => if q1.1 = 0 then (some q1.2) else ((gX11_blockFor n l1 l2 q1.2).bind (fun q2 => (gX11_isOver n q2.2).bind (fun q3 => if q3.1 = 0 then (if l4 = 0 then (bX11_tryWrite_50 n l1 l2 q2.1 l3 q3.2) else ((gX11_get n q2.1 (l2 - l2 / (nI 16) * (nI 16)) q3.2).bind (fun q4 => bX11_tryWrite_50 n l1 l2 q2.1 (q4.1 + l3) q4.2))) else (some q3.2)))))
theorem tX11_tryWrite_0 {G : am_G} (hG : am_okM G) {d : Nat} {l1 : Int32} {l2 : Int32} {l3 : Int32} {l4 : Int32} {I : am_I} {r : am_I} (h : bX11_tryWrite_0 G.2.2.2.1 l1 l2 l3 l4  I = some r) : am_J G (d + 5) mX11_tryWrite am_no (am_E none r) 0 [some (.inr (0, 60)), some (.inl l1), some (.inl l2), some (.inl l3), some (.inl l4), none, none] [] I := by
  unfold bX11_tryWrite_0 at h
  refine am_aload_n dX11_tryWrite_0 rfl ?_
  refine am_iload_n dX11_tryWrite_1 rfl ?_
  refine am_iconst (v := nI 2) dX11_tryWrite_2 (by decide) ?_
  refine am_iconst (v := nI 1) dX11_tryWrite_3 (by decide) ?_
  refine am_bipush (v := (-4 : Int32)) dX11_tryWrite_4 (by decide) ?_
  obtain ⟨q1, hq1, h⟩ := am_bd h
  refine am_callVx (i := 0) (j := 60) (as := [.inl l1, .inl (nI 2), .inl (nI 1), .inl (-4 : Int32)]) (rest := []) dX11_tryWrite_6 lkX11_isOf ml_X11_390 imX11_isOf seX11_isOf rfl rfl (hG.m0 (by decide)) rfl (Nat.le_of_ble_eq_true rfl) rfl (sX11_isOf hG hq1) ?_
  refine am_if_ne (tgt := 13) dX11_tryWrite_9 rfl (fun c => ?_) (fun c => ?_)
  · rw [if_neg c] at h
    refine am_aload_n dX11_tryWrite_13 rfl ?_
    refine am_iload_n dX11_tryWrite_14 rfl ?_
    refine am_iload_n dX11_tryWrite_15 rfl ?_
    obtain ⟨q2, hq2, h⟩ := am_bd h
    refine am_callVx (i := 0) (j := 60) (as := [.inl l1, .inl l2]) (rest := []) dX11_tryWrite_16 lkX11_blockFor ml_X11_366 imX11_blockFor seX11_blockFor rfl rfl (hG.m0 (by decide)) rfl (Nat.le_of_ble_eq_true rfl) rfl (sX11_blockFor hG hq2) ?_
    refine am_istore dX11_tryWrite_19 (by decide) ?_
    refine am_aload_n dX11_tryWrite_21 rfl ?_
    obtain ⟨q3, hq3, h⟩ := am_bd h
    refine am_callVx (i := 0) (j := 60) (as := []) (rest := []) dX11_tryWrite_22 lkX11_isOver ml_X11_322 imX11_isOver seX11_isOver rfl rfl (hG.m0 (by decide)) rfl (Nat.le_of_ble_eq_true rfl) rfl (sX11_isOver hG hq3) ?_
    refine am_if_eq (tgt := 29) dX11_tryWrite_25 rfl (fun c => ?_) (fun c => ?_)
    · rw [if_pos c] at h
      refine am_iload dX11_tryWrite_29 rfl ?_
      refine am_if_eq (tgt := 49) dX11_tryWrite_31 rfl (fun c => ?_) (fun c => ?_)
      · rw [if_pos c] at h
        refine am_iload_n dX11_tryWrite_49 rfl ?_
        exact am_lwJ (lo' := [some (.inr (0, 60)), some (.inl l1), some (.inl l2), none, none, some (.inl q2.1), none]) ⟨rfl, rfl, rfl, rfl, trivial⟩ (tX11_tryWrite_50 hG h)
      · rw [if_neg c] at h
        refine am_aload_n dX11_tryWrite_34 rfl ?_
        refine am_iload dX11_tryWrite_35 rfl ?_
        refine am_iload_n dX11_tryWrite_37 rfl ?_
        refine am_bipush (v := nI 16) dX11_tryWrite_38 (by decide) ?_
        refine am_irem dX11_tryWrite_40 (by decide) ?_
        obtain ⟨q4, hq4, h⟩ := am_bd h
        refine am_callVx (i := 0) (j := 60) (as := [.inl q2.1, .inl (l2 - l2 / (nI 16) * (nI 16))]) (rest := []) dX11_tryWrite_41 lkX11_get ml_X11_332 imX11_get seX11_get rfl rfl (hG.m0 (by decide)) rfl (Nat.le_of_ble_eq_true rfl) rfl (sX11_get hG hq4) ?_
        refine am_iload_n dX11_tryWrite_44 rfl ?_
        refine am_iadd dX11_tryWrite_45 ?_
        refine am_goto (tgt := 50) dX11_tryWrite_46 rfl ?_
        exact am_lwJ (lo' := [some (.inr (0, 60)), some (.inl l1), some (.inl l2), none, none, some (.inl q2.1), none]) ⟨rfl, rfl, rfl, rfl, trivial⟩ (tX11_tryWrite_50 hG h)
    · rw [if_neg c] at h
      cases h
      exact am_vret dX11_tryWrite_28 rfl ⟨rfl, rfl⟩
  · rw [if_pos c] at h
    cases h
    exact am_vret dX11_tryWrite_12 rfl ⟨rfl, rfl⟩
def gX11_tryWrite (n : Nat) (l1 : Int32) (l2 : Int32) (l3 : Int32) (l4 : Int32) (I : am_I) : Option (am_I) := bX11_tryWrite_0 n l1 l2 l3 l4 I
theorem sX11_tryWrite {G : am_G} (hG : am_okM G) {d : Nat} {l1 : Int32} {l2 : Int32} {l3 : Int32} {l4 : Int32} {I : am_I} {r : am_I} (h : gX11_tryWrite G.2.2.2.1 l1 l2 l3 l4 I = some r) : am_C G (d + 5) mX11_tryWrite [.inr (0, 60), .inl l1, .inl l2, .inl l3, .inl l4] I (am_E none r) :=
  am_of (by decide +kernel) hG.nd (Nat.le_of_ble_eq_true rfl) (am_lwJ (lo' := [some (.inr (0, 60)), some (.inl l1), some (.inl l2), some (.inl l3), some (.inl l4), none, none]) ⟨rfl, rfl, rfl, rfl, rfl, trivial⟩ (tX11_tryWrite_0 hG h))
def bX11_tryAppend_0 (n : Nat) (l1 : Int32) (l2 : Int32) (I : am_I) : Option (am_I) := (gX11_isOf n l1 (nI 2) (nI 1) (-4 : Int32) I).bind (fun q1 => if q1.1 = 0 then (some q1.2) else ((gX11_ofInode n l1 (nI 2) q1.2).bind (fun q2 => if q2.1 = (nI 384) then ((gX11_fail n (-7 : Int32) q2.2).bind (fun q5 => some q5)) else ((gX11_tryWrite n l1 q2.1 l2 (nI 0) q2.2).bind (fun q3 => am_lt (am_up q3 0 60 55 q2.1) (fun I4 => some I4))))))
theorem tX11_tryAppend_0 {G : am_G} (hG : am_okM G) {d : Nat} {l1 : Int32} {l2 : Int32} {I : am_I} {r : am_I} (h : bX11_tryAppend_0 G.2.2.2.1 l1 l2  I = some r) : am_J G (d + 6) mX11_tryAppend am_no (am_E none r) 0 [some (.inr (0, 60)), some (.inl l1), some (.inl l2), none] [] I := by
  unfold bX11_tryAppend_0 at h
  refine am_aload_n dX11_tryAppend_0 rfl ?_
  refine am_iload_n dX11_tryAppend_1 rfl ?_
  refine am_iconst (v := nI 2) dX11_tryAppend_2 (by decide) ?_
  refine am_iconst (v := nI 1) dX11_tryAppend_3 (by decide) ?_
  refine am_bipush (v := (-4 : Int32)) dX11_tryAppend_4 (by decide) ?_
  obtain ⟨q1, hq1, h⟩ := am_bd h
  refine am_callVx (i := 0) (j := 60) (as := [.inl l1, .inl (nI 2), .inl (nI 1), .inl (-4 : Int32)]) (rest := []) dX11_tryAppend_6 lkX11_isOf ml_X11_390 imX11_isOf seX11_isOf rfl rfl (hG.m0 (by decide)) rfl (Nat.le_of_ble_eq_true rfl) rfl (sX11_isOf hG hq1) ?_
  refine am_if_ne (tgt := 13) dX11_tryAppend_9 rfl (fun c => ?_) (fun c => ?_)
  · rw [if_neg c] at h
    refine am_aload_n dX11_tryAppend_13 rfl ?_
    refine am_iload_n dX11_tryAppend_14 rfl ?_
    refine am_iconst (v := nI 2) dX11_tryAppend_15 (by decide) ?_
    obtain ⟨q2, hq2, h⟩ := am_bd h
    refine am_callVx (i := 0) (j := 60) (as := [.inl l1, .inl (nI 2)]) (rest := []) dX11_tryAppend_16 lkX11_ofInode ml_X11_351 imX11_ofInode seX11_ofInode rfl rfl (hG.m0 (by decide)) rfl (Nat.le_of_ble_eq_true rfl) rfl (sX11_ofInode hG hq2) ?_
    refine am_istore_n dX11_tryAppend_19 (by decide) ?_
    refine am_iload_n dX11_tryAppend_20 rfl ?_
    refine am_sipush (v := nI 384) dX11_tryAppend_21 (by decide) ?_
    refine am_icmp_ne (tgt := 34) dX11_tryAppend_24 rfl (fun c => ?_) (fun c => ?_)
    · rw [if_neg c] at h
      refine am_aload_n dX11_tryAppend_34 rfl ?_
      refine am_iload_n dX11_tryAppend_35 rfl ?_
      refine am_iload_n dX11_tryAppend_36 rfl ?_
      refine am_iload_n dX11_tryAppend_37 rfl ?_
      refine am_iconst (v := nI 0) dX11_tryAppend_38 (by decide) ?_
      obtain ⟨q3, hq3, h⟩ := am_bd h
      refine am_callVe (i := 0) (j := 60) (as := [.inl l1, .inl q2.1, .inl l2, .inl (nI 0)]) (rest := []) dX11_tryAppend_39 lkX11_tryWrite ml_X11_394 imX11_tryWrite seX11_tryWrite rfl rfl (hG.m0 (by decide)) rfl (Nat.le_of_ble_eq_true rfl) rfl (sX11_tryWrite hG hq3) ?_
      refine am_aload_n dX11_tryAppend_42 rfl ?_
      refine am_iload_n dX11_tryAppend_43 rfl ?_
      refine am_put (x := q2.1) dX11_tryAppend_44 fp_11_316 (hG.m0 (by decide)) (Nat.le_of_ble_eq_true rfl) rfl ?_
      obtain ⟨I4, hI4, h⟩ := am_lt_some h
      refine am_st10 hI4 ?_
      cases h
      exact am_vret dX11_tryAppend_47 rfl ⟨rfl, rfl⟩
    · rw [if_pos c] at h
      refine am_aload_n dX11_tryAppend_27 rfl ?_
      refine am_bipush (v := (-7 : Int32)) dX11_tryAppend_28 (by decide) ?_
      obtain ⟨q5, hq5, h⟩ := am_bd h
      refine am_callVe (i := 0) (j := 60) (as := [.inl (-7 : Int32)]) (rest := []) dX11_tryAppend_30 lkX11_fail ml_X11_348 imX11_fail seX11_fail rfl rfl (hG.m0 (by decide)) rfl (Nat.le_of_ble_eq_true rfl) rfl (sX11_fail hG hq5) ?_
      cases h
      exact am_vret dX11_tryAppend_33 rfl ⟨rfl, rfl⟩
  · rw [if_pos c] at h
    cases h
    exact am_vret dX11_tryAppend_12 rfl ⟨rfl, rfl⟩
def gX11_tryAppend (n : Nat) (l1 : Int32) (l2 : Int32) (I : am_I) : Option (am_I) := bX11_tryAppend_0 n l1 l2 I
theorem sX11_tryAppend {G : am_G} (hG : am_okM G) {d : Nat} {l1 : Int32} {l2 : Int32} {I : am_I} {r : am_I} (h : gX11_tryAppend G.2.2.2.1 l1 l2 I = some r) : am_C G (d + 6) mX11_tryAppend [.inr (0, 60), .inl l1, .inl l2] I (am_E none r) :=
  am_of (by decide +kernel) hG.nd (Nat.le_of_ble_eq_true rfl) (am_lwJ (lo' := [some (.inr (0, 60)), some (.inl l1), some (.inl l2), none]) ⟨rfl, rfl, rfl, trivial⟩ (tX11_tryAppend_0 hG h))
def bX11_tryCount_50 (n : Nat) (k22 : Int32 → Int32 → Int32 → am_I → Option (am_I)) (l1 : Int32) (l2 : Int32) (l3 : Int32) (s0 : Int32) (I : am_I) : Option (am_I) := am_lt (am_up I 0 60 55 s0) (fun I1 => k22 l1 l2 (l3 + nI 2) I1)
theorem tX11_tryCount_50 {G : am_G} (hG : am_okM G) {d : Nat} {k22 : Int32 → Int32 → Int32 → am_I → Option (am_I)} (hk22 : ∀ (l1 : Int32) (l2 : Int32) (l3 : Int32) (I : am_I) (r : am_I), k22 l1 l2 l3 I = some r → am_J G (d + 5) mX11_tryCount am_no (am_E none r) 22 [some (.inr (0, 60)), some (.inl l1), some (.inl l2), some (.inl l3)] [] I) {l1 : Int32} {l2 : Int32} {l3 : Int32} {s0 : Int32} {I : am_I} {r : am_I} (h : bX11_tryCount_50 G.2.2.2.1 k22 l1 l2 l3 s0  I = some r) : am_J G (d + 5) mX11_tryCount am_no (am_E none r) 50 [some (.inr (0, 60)), some (.inl l1), some (.inl l2), some (.inl l3)] [.inl s0, .inr (0, 60)] I := by
  unfold bX11_tryCount_50 at h
  refine am_put (x := s0) dX11_tryCount_50 fp_11_316 (hG.m0 (by decide)) (Nat.le_of_ble_eq_true rfl) rfl ?_
  obtain ⟨I1, hI1, h⟩ := am_lt_some h
  refine am_st10 hI1 ?_
  refine am_iinc (v := l3 + nI 2) dX11_tryCount_53 rfl rfl ?_
  refine am_goto (tgt := 22) dX11_tryCount_56 rfl ?_
  exact am_lwJ (lo' := [some (.inr (0, 60)), some (.inl l1), some (.inl l2), some (.inl (l3 + nI 2))]) ⟨rfl, rfl, rfl, rfl, trivial⟩ (hk22 l1 l2 (l3 + nI 2) _ _ h)
def bX11_tryCount_22 (n : Nat) : Nat → Int32 → Int32 → Int32 → am_I → Option (am_I)
  | 0, _, _, _, _ => none
  | fu + 1, l1, l2, l3, I => (fun k22 => if l2 ≤ l3 then (some I) else ((gX11_wordOf n l1 l3 I).bind (fun q1 => if q1.1 = 0 then (bX11_tryCount_50 n k22 l1 l2 l3 (q1.2 0 60 55) q1.2) else (bX11_tryCount_50 n k22 l1 l2 l3 ((q1.2 0 60 55) + (nI 1)) q1.2)))) (bX11_tryCount_22 n fu)
theorem tX11_tryCount_22 {G : am_G} (hG : am_okM G) {d : Nat} : ∀ {fu : Nat} {l1 : Int32} {l2 : Int32} {l3 : Int32} {I : am_I} {r : am_I}, bX11_tryCount_22 G.2.2.2.1 fu l1 l2 l3 I = some r → am_J G (d + 5) mX11_tryCount am_no (am_E none r) 22 [some (.inr (0, 60)), some (.inl l1), some (.inl l2), some (.inl l3)] [] I := by
  intro fu
  induction fu with
  | zero => intro l1 l2 l3 I r h; cases h
  | succ fu ih =>
    intro l1 l2 l3 I r h
    have hk22 : ∀ (l1 : Int32) (l2 : Int32) (l3 : Int32) (I : am_I) (r : am_I), bX11_tryCount_22 G.2.2.2.1 fu l1 l2 l3 I = some r → am_J G (d + 5) mX11_tryCount am_no (am_E none r) 22 [some (.inr (0, 60)), some (.inl l1), some (.inl l2), some (.inl l3)] [] I := fun l1 l2 l3 I r h => ih h
    unfold bX11_tryCount_22 at h
    generalize bX11_tryCount_22 G.2.2.2.1 fu = k22 at hk22 h
    dsimp only at h
    refine am_iload_n dX11_tryCount_22 rfl ?_
    refine am_iload_n dX11_tryCount_23 rfl ?_
    refine am_icmp_ge (tgt := 59) dX11_tryCount_24 rfl (fun c => ?_) (fun c => ?_)
    · rw [if_pos c] at h
      cases h
      exact am_vret dX11_tryCount_59 rfl ⟨rfl, rfl⟩
    · rw [if_neg c] at h
      refine am_aload_n dX11_tryCount_27 rfl ?_
      refine am_aload_n dX11_tryCount_28 rfl ?_
      refine am_iload_n dX11_tryCount_29 rfl ?_
      refine am_iload_n dX11_tryCount_30 rfl ?_
      obtain ⟨q1, hq1, h⟩ := am_bd h
      refine am_callVx (i := 0) (j := 60) (as := [.inl l1, .inl l3]) (rest := [.inr (0, 60)]) dX11_tryCount_31 lkX11_wordOf ml_X11_363 imX11_wordOf seX11_wordOf rfl rfl (hG.m0 (by decide)) rfl (Nat.le_of_ble_eq_true rfl) rfl (sX11_wordOf hG hq1) ?_
      refine am_if_eq (tgt := 46) dX11_tryCount_34 rfl (fun c => ?_) (fun c => ?_)
      · rw [if_pos c] at h
        refine am_aload_n dX11_tryCount_46 rfl ?_
        refine am_get (v := .inl (q1.2 0 60 55)) dX11_tryCount_47 fl_11_316 (hG.m0 (by decide)) rfl ?_
        exact am_lwJ (lo' := [some (.inr (0, 60)), some (.inl l1), some (.inl l2), some (.inl l3)]) ⟨rfl, rfl, rfl, rfl, trivial⟩ (tX11_tryCount_50 hG hk22 h)
      · rw [if_neg c] at h
        refine am_aload_n dX11_tryCount_37 rfl ?_
        refine am_get (v := .inl (q1.2 0 60 55)) dX11_tryCount_38 fl_11_316 (hG.m0 (by decide)) rfl ?_
        refine am_iconst (v := nI 1) dX11_tryCount_41 (by decide) ?_
        refine am_iadd dX11_tryCount_42 ?_
        refine am_goto (tgt := 50) dX11_tryCount_43 rfl ?_
        exact am_lwJ (lo' := [some (.inr (0, 60)), some (.inl l1), some (.inl l2), some (.inl l3)]) ⟨rfl, rfl, rfl, rfl, trivial⟩ (tX11_tryCount_50 hG hk22 h)
def bX11_tryCount_0 (n : Nat) (l1 : Int32) (I : am_I) : Option (am_I) := (gX11_isOf n l1 (nI 1) (nI 2) (-2 : Int32) I).bind (fun q1 => if q1.1 = 0 then (some q1.2) else ((gX11_ofInode n l1 (nI 2) q1.2).bind (fun q2 => bX11_tryCount_22 n am_fu l1 q2.1 (nI 0) q2.2)))
theorem tX11_tryCount_0 {G : am_G} (hG : am_okM G) {d : Nat} {l1 : Int32} {I : am_I} {r : am_I} (h : bX11_tryCount_0 G.2.2.2.1 l1  I = some r) : am_J G (d + 5) mX11_tryCount am_no (am_E none r) 0 [some (.inr (0, 60)), some (.inl l1), none, none] [] I := by
  unfold bX11_tryCount_0 at h
  refine am_aload_n dX11_tryCount_0 rfl ?_
  refine am_iload_n dX11_tryCount_1 rfl ?_
  refine am_iconst (v := nI 1) dX11_tryCount_2 (by decide) ?_
  refine am_iconst (v := nI 2) dX11_tryCount_3 (by decide) ?_
  refine am_bipush (v := (-2 : Int32)) dX11_tryCount_4 (by decide) ?_
  obtain ⟨q1, hq1, h⟩ := am_bd h
  refine am_callVx (i := 0) (j := 60) (as := [.inl l1, .inl (nI 1), .inl (nI 2), .inl (-2 : Int32)]) (rest := []) dX11_tryCount_6 lkX11_isOf ml_X11_390 imX11_isOf seX11_isOf rfl rfl (hG.m0 (by decide)) rfl (Nat.le_of_ble_eq_true rfl) rfl (sX11_isOf hG hq1) ?_
  refine am_if_ne (tgt := 13) dX11_tryCount_9 rfl (fun c => ?_) (fun c => ?_)
  · rw [if_neg c] at h
    refine am_aload_n dX11_tryCount_13 rfl ?_
    refine am_iload_n dX11_tryCount_14 rfl ?_
    refine am_iconst (v := nI 2) dX11_tryCount_15 (by decide) ?_
    obtain ⟨q2, hq2, h⟩ := am_bd h
    refine am_callVx (i := 0) (j := 60) (as := [.inl l1, .inl (nI 2)]) (rest := []) dX11_tryCount_16 lkX11_ofInode ml_X11_351 imX11_ofInode seX11_ofInode rfl rfl (hG.m0 (by decide)) rfl (Nat.le_of_ble_eq_true rfl) rfl (sX11_ofInode hG hq2) ?_
    refine am_istore_n dX11_tryCount_19 (by decide) ?_
    refine am_iconst (v := nI 0) dX11_tryCount_20 (by decide) ?_
    refine am_istore_n dX11_tryCount_21 (by decide) ?_
    exact am_lwJ (lo' := [some (.inr (0, 60)), some (.inl l1), some (.inl q2.1), some (.inl (nI 0))]) ⟨rfl, rfl, rfl, rfl, trivial⟩ (tX11_tryCount_22 hG h)
  · rw [if_pos c] at h
    cases h
    exact am_vret dX11_tryCount_12 rfl ⟨rfl, rfl⟩
def gX11_tryCount (n : Nat) (l1 : Int32) (I : am_I) : Option (am_I) := bX11_tryCount_0 n l1 I
theorem sX11_tryCount {G : am_G} (hG : am_okM G) {d : Nat} {l1 : Int32} {I : am_I} {r : am_I} (h : gX11_tryCount G.2.2.2.1 l1 I = some r) : am_C G (d + 5) mX11_tryCount [.inr (0, 60), .inl l1] I (am_E none r) :=
  am_of (by decide +kernel) hG.nd (Nat.le_of_ble_eq_true rfl) (am_lwJ (lo' := [some (.inr (0, 60)), some (.inl l1), none, none]) ⟨rfl, rfl, trivial⟩ (tX11_tryCount_0 hG h))
