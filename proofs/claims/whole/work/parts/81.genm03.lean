def bX11_against_45 (n : Nat) (s0 : Int32) (I : am_I) : Option (Int32 × am_I) := am_gd (am_01 s0) (some (s0, I))
theorem tX11_against_45 {G : am_G} (hG : am_okM G) {d : Nat} {s0 : Int32} {I : am_I} {r : Int32 × am_I} (h : bX11_against_45 G.2.2.2.1 s0  I = some r) : am_J G d mX11_against am_no (am_E (some r.1) r.2) 45 [none, none, none, none] [.inl s0] I := by
  unfold bX11_against_45 at h
  obtain ⟨g1, h⟩ := am_gd_some h
  cases h
  exact am_iret dX11_against_45 rfl (am_nz (am_01_of g1)).1 ⟨rfl, rfl⟩
def bX11_against_0 (n : Nat) (l1 : Int32) (l2 : Int32) (l3 : Int32) (I : am_I) : Option (Int32 × am_I) := if l3 = (nI 2) then (am_gd (am_inb (((nI 4) * l1) + l2) 544) (if (I 0 94 ((((nI 4) * l1) + l2).toNatClampNeg)) ≤ 0 then (bX11_against_45 n (nI 0) I) else (bX11_against_45 n (nI 1) I))) else (am_gd (am_inb (((nI 4) * l1) + l2) 544) (if (I 0 94 ((((nI 4) * l1) + l2).toNatClampNeg)) = (nI 2) then (bX11_against_45 n (nI 1) I) else (bX11_against_45 n (nI 0) I)))
theorem tX11_against_0 {G : am_G} (hG : am_okM G) {d : Nat} {l1 : Int32} {l2 : Int32} {l3 : Int32} {I : am_I} {r : Int32 × am_I} (h : bX11_against_0 G.2.2.2.1 l1 l2 l3  I = some r) : am_J G d mX11_against am_no (am_E (some r.1) r.2) 0 [some (.inr (0, 60)), some (.inl l1), some (.inl l2), some (.inl l3)] [] I := by
  unfold bX11_against_0 at h
  refine am_iload_n dX11_against_0 rfl ?_
  refine am_iconst (v := nI 2) dX11_against_1 (by decide) ?_
  refine am_icmp_ne (tgt := 26) dX11_against_2 rfl (fun c => ?_) (fun c => ?_)
  · rw [if_neg c] at h
    refine am_aload_n dX11_against_26 rfl ?_
    refine am_get (v := .inr (0, 94)) dX11_against_27 fl_11_102 (hG.m0 (by decide)) rfl ?_
    refine am_iconst (v := nI 4) dX11_against_30 (by decide) ?_
    refine am_iload_n dX11_against_31 rfl ?_
    refine am_imul dX11_against_32 ?_
    refine am_iload_n dX11_against_33 rfl ?_
    refine am_iadd dX11_against_34 ?_
    obtain ⟨g1, h⟩ := am_gd_some h
    refine am_ialdG dX11_against_35 (hG.m0 (by decide)) rfl g1 (show 544 < 2 ^ 31 by decide) ?_
    refine am_iconst (v := nI 2) dX11_against_36 (by decide) ?_
    refine am_icmp_ne (tgt := 44) dX11_against_37 rfl (fun c => ?_) (fun c => ?_)
    · rw [if_neg c] at h
      refine am_iconst (v := nI 0) dX11_against_44 (by decide) ?_
      exact am_lwJ (lo' := [none, none, none, none]) trivial (tX11_against_45 hG h)
    · rw [if_pos c] at h
      refine am_iconst (v := nI 1) dX11_against_40 (by decide) ?_
      refine am_goto (tgt := 45) dX11_against_41 rfl ?_
      exact am_lwJ (lo' := [none, none, none, none]) trivial (tX11_against_45 hG h)
  · rw [if_pos c] at h
    refine am_aload_n dX11_against_5 rfl ?_
    refine am_get (v := .inr (0, 94)) dX11_against_6 fl_11_102 (hG.m0 (by decide)) rfl ?_
    refine am_iconst (v := nI 4) dX11_against_9 (by decide) ?_
    refine am_iload_n dX11_against_10 rfl ?_
    refine am_imul dX11_against_11 ?_
    refine am_iload_n dX11_against_12 rfl ?_
    refine am_iadd dX11_against_13 ?_
    obtain ⟨g2, h⟩ := am_gd_some h
    refine am_ialdG dX11_against_14 (hG.m0 (by decide)) rfl g2 (show 544 < 2 ^ 31 by decide) ?_
    refine am_if_le (tgt := 22) dX11_against_15 rfl (fun c => ?_) (fun c => ?_)
    · rw [if_pos c] at h
      refine am_iconst (v := nI 0) dX11_against_22 (by decide) ?_
      refine am_goto (tgt := 45) dX11_against_23 rfl ?_
      exact am_lwJ (lo' := [none, none, none, none]) trivial (tX11_against_45 hG h)
    · rw [if_neg c] at h
      refine am_iconst (v := nI 1) dX11_against_18 (by decide) ?_
      refine am_goto (tgt := 45) dX11_against_19 rfl ?_
      exact am_lwJ (lo' := [none, none, none, none]) trivial (tX11_against_45 hG h)
def gX11_against (n : Nat) (l1 : Int32) (l2 : Int32) (l3 : Int32) (I : am_I) : Option (Int32 × am_I) := bX11_against_0 n l1 l2 l3 I
theorem sX11_against {G : am_G} (hG : am_okM G) {d : Nat} {l1 : Int32} {l2 : Int32} {l3 : Int32} {I : am_I} {r : Int32 × am_I} (h : gX11_against G.2.2.2.1 l1 l2 l3 I = some r) : am_C G d mX11_against [.inr (0, 60), .inl l1, .inl l2, .inl l3] I (am_E (some r.1) r.2) :=
  am_of (by decide +kernel) hG.nd (Nat.le_of_ble_eq_true rfl) (am_lwJ (lo' := [some (.inr (0, 60)), some (.inl l1), some (.inl l2), some (.inl l3)]) ⟨rfl, rfl, rfl, rfl, trivial⟩ (tX11_against_0 hG h))
def bX11_askBack_108 (n : Nat) (k15 : Int32 → Int32 → Int32 → Int32 → Int32 → am_I → Option (am_I)) (l1 : Int32) (l2 : Int32) (l3 : Int32) (l4 : Int32) (l5 : Int32) (I : am_I) : Option (am_I) := k15 l1 l2 l3 l4 (l5 + nI 1) I
theorem tX11_askBack_108 {G : am_G} (hG : am_okM G) {d : Nat} {k15 : Int32 → Int32 → Int32 → Int32 → Int32 → am_I → Option (am_I)} (hk15 : ∀ (l1 : Int32) (l2 : Int32) (l3 : Int32) (l4 : Int32) (l5 : Int32) (I : am_I) (r : am_I), k15 l1 l2 l3 l4 l5 I = some r → am_J G (d + 1) mX11_askBack am_no (am_E none r) 15 [some (.inr (0, 60)), some (.inl l1), some (.inl l2), some (.inl l3), some (.inl l4), some (.inl l5), none, none] [] I) {l1 : Int32} {l2 : Int32} {l3 : Int32} {l4 : Int32} {l5 : Int32} {I : am_I} {r : am_I} (h : bX11_askBack_108 G.2.2.2.1 k15 l1 l2 l3 l4 l5  I = some r) : am_J G (d + 1) mX11_askBack am_no (am_E none r) 108 [some (.inr (0, 60)), some (.inl l1), some (.inl l2), some (.inl l3), some (.inl l4), some (.inl l5), none, none] [] I := by
  unfold bX11_askBack_108 at h
  refine am_iinc (v := l5 + nI 1) dX11_askBack_108 rfl rfl ?_
  refine am_goto (tgt := 15) dX11_askBack_111 rfl ?_
  exact am_lwJ (lo' := [some (.inr (0, 60)), some (.inl l1), some (.inl l2), some (.inl l3), some (.inl l4), some (.inl (l5 + nI 1)), none, none]) ⟨rfl, rfl, rfl, rfl, rfl, rfl, trivial⟩ (hk15 l1 l2 l3 l4 (l5 + nI 1) _ _ h)
def bX11_askBack_60 (n : Nat) (k15 : Int32 → Int32 → Int32 → Int32 → Int32 → am_I → Option (am_I)) (l1 : Int32) (l2 : Int32) (l3 : Int32) (l4 : Int32) (l5 : Int32) (l6 : Int32) (s0 : Int32) (I : am_I) : Option (am_I) := if l5 = l2 then (bX11_askBack_108 n k15 l1 l2 l3 l4 l5 I) else ((gX11_against n l1 l5 l3 I).bind (fun q1 => if q1.1 = 0 then (bX11_askBack_108 n k15 l1 l2 l3 l4 l5 q1.2) else (if s0 = 0 then (am_gd (am_inb l6 544) (am_lt (am_up q1.2 0 95 l6.toNatClampNeg l4) (fun I3 => (gX11_masterOf n l1 I3).bind (fun q4 => (gX11_send n q4.1 l5 (nI 2) l1 l4 q4.2).bind (fun q5 => bX11_askBack_108 n k15 l1 l2 l3 l4 l5 q5))))) else (bX11_askBack_108 n k15 l1 l2 l3 l4 l5 q1.2))))
theorem tX11_askBack_60 {G : am_G} (hG : am_okM G) {d : Nat} {k15 : Int32 → Int32 → Int32 → Int32 → Int32 → am_I → Option (am_I)} (hk15 : ∀ (l1 : Int32) (l2 : Int32) (l3 : Int32) (l4 : Int32) (l5 : Int32) (I : am_I) (r : am_I), k15 l1 l2 l3 l4 l5 I = some r → am_J G (d + 1) mX11_askBack am_no (am_E none r) 15 [some (.inr (0, 60)), some (.inl l1), some (.inl l2), some (.inl l3), some (.inl l4), some (.inl l5), none, none] [] I) {l1 : Int32} {l2 : Int32} {l3 : Int32} {l4 : Int32} {l5 : Int32} {l6 : Int32} {s0 : Int32} {I : am_I} {r : am_I} (h : bX11_askBack_60 G.2.2.2.1 k15 l1 l2 l3 l4 l5 l6 s0  I = some r) : am_J G (d + 1) mX11_askBack am_no (am_E none r) 60 [some (.inr (0, 60)), some (.inl l1), some (.inl l2), some (.inl l3), some (.inl l4), some (.inl l5), some (.inl l6), none] [.inl s0] I := by
  unfold bX11_askBack_60 at h
  refine am_istore dX11_askBack_60 (by decide) ?_
  refine am_iload dX11_askBack_62 rfl ?_
  refine am_iload_n dX11_askBack_64 rfl ?_
  refine am_icmp_eq (tgt := 108) dX11_askBack_65 rfl (fun c => ?_) (fun c => ?_)
  · rw [if_pos c] at h
    exact am_lwJ (lo' := [some (.inr (0, 60)), some (.inl l1), some (.inl l2), some (.inl l3), some (.inl l4), some (.inl l5), none, none]) ⟨rfl, rfl, rfl, rfl, rfl, rfl, trivial⟩ (tX11_askBack_108 hG hk15 h)
  · rw [if_neg c] at h
    refine am_aload_n dX11_askBack_68 rfl ?_
    refine am_iload_n dX11_askBack_69 rfl ?_
    refine am_iload dX11_askBack_70 rfl ?_
    refine am_iload_n dX11_askBack_72 rfl ?_
    obtain ⟨q1, hq1, h⟩ := am_bd h
    refine am_callVx (i := 0) (j := 60) (as := [.inl l1, .inl l5, .inl l3]) (rest := []) dX11_askBack_73 lkX11_against ml_X11_219 imX11_against seX11_against rfl rfl (hG.m0 (by decide)) rfl (Nat.le_of_ble_eq_true rfl) rfl (sX11_against hG hq1) ?_
    refine am_if_eq (tgt := 108) dX11_askBack_76 rfl (fun c => ?_) (fun c => ?_)
    · rw [if_pos c] at h
      exact am_lwJ (lo' := [some (.inr (0, 60)), some (.inl l1), some (.inl l2), some (.inl l3), some (.inl l4), some (.inl l5), none, none]) ⟨rfl, rfl, rfl, rfl, rfl, rfl, trivial⟩ (tX11_askBack_108 hG hk15 h)
    · rw [if_neg c] at h
      refine am_iload dX11_askBack_79 rfl ?_
      refine am_if_ne (tgt := 108) dX11_askBack_81 rfl (fun c => ?_) (fun c => ?_)
      · rw [if_neg c] at h
        exact am_lwJ (lo' := [some (.inr (0, 60)), some (.inl l1), some (.inl l2), some (.inl l3), some (.inl l4), some (.inl l5), none, none]) ⟨rfl, rfl, rfl, rfl, rfl, rfl, trivial⟩ (tX11_askBack_108 hG hk15 h)
      · rw [if_pos c] at h
        refine am_aload_n dX11_askBack_84 rfl ?_
        refine am_get (v := .inr (0, 95)) dX11_askBack_85 fl_11_105 (hG.m0 (by decide)) rfl ?_
        refine am_iload dX11_askBack_88 rfl ?_
        refine am_iload dX11_askBack_90 rfl ?_
        obtain ⟨g2, h⟩ := am_gd_some h
        refine am_iastG dX11_askBack_92 (hG.m0 (by decide)) rfl g2 (show 544 < 2 ^ 31 by decide) ?_
        obtain ⟨I3, hI3, h⟩ := am_lt_some h
        refine am_st10 hI3 ?_
        refine am_aload_n dX11_askBack_93 rfl ?_
        refine am_aload_n dX11_askBack_94 rfl ?_
        refine am_iload_n dX11_askBack_95 rfl ?_
        obtain ⟨q4, hq4, h⟩ := am_bd h
        refine am_callVx (i := 0) (j := 60) (as := [.inl l1]) (rest := [.inr (0, 60)]) dX11_askBack_96 lkX11_masterOf ml_X11_226 imX11_masterOf seX11_masterOf rfl rfl (hG.m0 (by decide)) rfl (Nat.le_of_ble_eq_true rfl) rfl (sX11_masterOf hG hq4) ?_
        refine am_iload dX11_askBack_99 rfl ?_
        refine am_iconst (v := nI 2) dX11_askBack_101 (by decide) ?_
        refine am_iload_n dX11_askBack_102 rfl ?_
        refine am_iload dX11_askBack_103 rfl ?_
        obtain ⟨q5, hq5, h⟩ := am_bd h
        refine am_callVe (i := 0) (j := 60) (as := [.inl q4.1, .inl l5, .inl (nI 2), .inl l1, .inl l4]) (rest := []) dX11_askBack_105 lkX11_send ml_X11_229 imX11_send seX11_send rfl rfl (hG.m0 (by decide)) rfl (Nat.le_of_ble_eq_true rfl) rfl (sX11_send hG hq5) ?_
        exact am_lwJ (lo' := [some (.inr (0, 60)), some (.inl l1), some (.inl l2), some (.inl l3), some (.inl l4), some (.inl l5), none, none]) ⟨rfl, rfl, rfl, rfl, rfl, rfl, trivial⟩ (tX11_askBack_108 hG hk15 h)
def bX11_askBack_59 (n : Nat) (k15 : Int32 → Int32 → Int32 → Int32 → Int32 → am_I → Option (am_I)) (l1 : Int32) (l2 : Int32) (l3 : Int32) (l4 : Int32) (l5 : Int32) (l6 : Int32) (I : am_I) : Option (am_I) := bX11_askBack_60 n k15 l1 l2 l3 l4 l5 l6 (nI 0) I
theorem tX11_askBack_59 {G : am_G} (hG : am_okM G) {d : Nat} {k15 : Int32 → Int32 → Int32 → Int32 → Int32 → am_I → Option (am_I)} (hk15 : ∀ (l1 : Int32) (l2 : Int32) (l3 : Int32) (l4 : Int32) (l5 : Int32) (I : am_I) (r : am_I), k15 l1 l2 l3 l4 l5 I = some r → am_J G (d + 1) mX11_askBack am_no (am_E none r) 15 [some (.inr (0, 60)), some (.inl l1), some (.inl l2), some (.inl l3), some (.inl l4), some (.inl l5), none, none] [] I) {l1 : Int32} {l2 : Int32} {l3 : Int32} {l4 : Int32} {l5 : Int32} {l6 : Int32} {I : am_I} {r : am_I} (h : bX11_askBack_59 G.2.2.2.1 k15 l1 l2 l3 l4 l5 l6  I = some r) : am_J G (d + 1) mX11_askBack am_no (am_E none r) 59 [some (.inr (0, 60)), some (.inl l1), some (.inl l2), some (.inl l3), some (.inl l4), some (.inl l5), some (.inl l6), none] [] I := by
  unfold bX11_askBack_59 at h
  refine am_iconst (v := nI 0) dX11_askBack_59 (by decide) ?_
  exact am_lwJ (lo' := [some (.inr (0, 60)), some (.inl l1), some (.inl l2), some (.inl l3), some (.inl l4), some (.inl l5), some (.inl l6), none]) ⟨rfl, rfl, rfl, rfl, rfl, rfl, rfl, trivial⟩ (tX11_askBack_60 hG hk15 h)
def bX11_askBack_15 (n : Nat) : Nat → Int32 → Int32 → Int32 → Int32 → Int32 → am_I → Option (am_I)
  | 0, _, _, _, _, _, _ => none
  | fu + 1, l1, l2, l3, l4, l5, I => (fun k15 => if (I 0 60 1) ≤ l5 then (some I) else (am_gd (am_inb (((nI 4) * l1) + l5) 544) (if (I 0 95 ((((nI 4) * l1) + l5).toNatClampNeg)) = (-1 : Int32) then (bX11_askBack_59 n k15 l1 l2 l3 l4 l5 (((nI 4) * l1) + l5) I) else (am_gd (am_inb (((nI 4) * l1) + l5) 544) (if l4 < (I 0 95 ((((nI 4) * l1) + l5).toNatClampNeg)) then (bX11_askBack_59 n k15 l1 l2 l3 l4 l5 (((nI 4) * l1) + l5) I) else (bX11_askBack_60 n k15 l1 l2 l3 l4 l5 (((nI 4) * l1) + l5) (nI 1) I)))))) (bX11_askBack_15 n fu)
theorem tX11_askBack_15 {G : am_G} (hG : am_okM G) {d : Nat} : ∀ {fu : Nat} {l1 : Int32} {l2 : Int32} {l3 : Int32} {l4 : Int32} {l5 : Int32} {I : am_I} {r : am_I}, bX11_askBack_15 G.2.2.2.1 fu l1 l2 l3 l4 l5 I = some r → am_J G (d + 1) mX11_askBack am_no (am_E none r) 15 [some (.inr (0, 60)), some (.inl l1), some (.inl l2), some (.inl l3), some (.inl l4), some (.inl l5), none, none] [] I := by
  intro fu
  induction fu with
  | zero => intro l1 l2 l3 l4 l5 I r h; cases h
  | succ fu ih =>
    intro l1 l2 l3 l4 l5 I r h
    have hk15 : ∀ (l1 : Int32) (l2 : Int32) (l3 : Int32) (l4 : Int32) (l5 : Int32) (I : am_I) (r : am_I), bX11_askBack_15 G.2.2.2.1 fu l1 l2 l3 l4 l5 I = some r → am_J G (d + 1) mX11_askBack am_no (am_E none r) 15 [some (.inr (0, 60)), some (.inl l1), some (.inl l2), some (.inl l3), some (.inl l4), some (.inl l5), none, none] [] I := fun l1 l2 l3 l4 l5 I r h => ih h
    unfold bX11_askBack_15 at h
    generalize bX11_askBack_15 G.2.2.2.1 fu = k15 at hk15 h
    dsimp only at h
    refine am_iload dX11_askBack_15 rfl ?_
    refine am_aload_n dX11_askBack_17 rfl ?_
    refine am_get (v := .inl (I 0 60 1)) dX11_askBack_18 fl_11_177 (hG.m0 (by decide)) rfl ?_
    refine am_icmp_ge (tgt := 114) dX11_askBack_21 rfl (fun c => ?_) (fun c => ?_)
    · rw [if_pos c] at h
      cases h
      exact am_vret dX11_askBack_114 rfl ⟨rfl, rfl⟩
    · rw [if_neg c] at h
      refine am_iconst (v := nI 4) dX11_askBack_24 (by decide) ?_
      refine am_iload_n dX11_askBack_25 rfl ?_
      refine am_imul dX11_askBack_26 ?_
      refine am_iload dX11_askBack_27 rfl ?_
      refine am_iadd dX11_askBack_29 ?_
      refine am_istore dX11_askBack_30 (by decide) ?_
      refine am_aload_n dX11_askBack_32 rfl ?_
      refine am_get (v := .inr (0, 95)) dX11_askBack_33 fl_11_105 (hG.m0 (by decide)) rfl ?_
      refine am_iload dX11_askBack_36 rfl ?_
      obtain ⟨g1, h⟩ := am_gd_some h
      refine am_ialdG dX11_askBack_38 (hG.m0 (by decide)) rfl g1 (show 544 < 2 ^ 31 by decide) ?_
      refine am_iconst (v := (-1 : Int32)) dX11_askBack_39 (by decide) ?_
      refine am_icmp_eq (tgt := 59) dX11_askBack_40 rfl (fun c => ?_) (fun c => ?_)
      · rw [if_pos c] at h
        exact am_lwJ (lo' := [some (.inr (0, 60)), some (.inl l1), some (.inl l2), some (.inl l3), some (.inl l4), some (.inl l5), some (.inl (((nI 4) * l1) + l5)), none]) ⟨rfl, rfl, rfl, rfl, rfl, rfl, rfl, trivial⟩ (tX11_askBack_59 hG hk15 h)
      · rw [if_neg c] at h
        refine am_aload_n dX11_askBack_43 rfl ?_
        refine am_get (v := .inr (0, 95)) dX11_askBack_44 fl_11_105 (hG.m0 (by decide)) rfl ?_
        refine am_iload dX11_askBack_47 rfl ?_
        obtain ⟨g2, h⟩ := am_gd_some h
        refine am_ialdG dX11_askBack_49 (hG.m0 (by decide)) rfl g2 (show 544 < 2 ^ 31 by decide) ?_
        refine am_iload dX11_askBack_50 rfl ?_
        refine am_icmp_gt (tgt := 59) dX11_askBack_52 rfl (fun c => ?_) (fun c => ?_)
        · rw [if_pos c] at h
          exact am_lwJ (lo' := [some (.inr (0, 60)), some (.inl l1), some (.inl l2), some (.inl l3), some (.inl l4), some (.inl l5), some (.inl (((nI 4) * l1) + l5)), none]) ⟨rfl, rfl, rfl, rfl, rfl, rfl, rfl, trivial⟩ (tX11_askBack_59 hG hk15 h)
        · rw [if_neg c] at h
          refine am_iconst (v := nI 1) dX11_askBack_55 (by decide) ?_
          refine am_goto (tgt := 60) dX11_askBack_56 rfl ?_
          exact am_lwJ (lo' := [some (.inr (0, 60)), some (.inl l1), some (.inl l2), some (.inl l3), some (.inl l4), some (.inl l5), some (.inl (((nI 4) * l1) + l5)), none]) ⟨rfl, rfl, rfl, rfl, rfl, rfl, rfl, trivial⟩ (tX11_askBack_60 hG hk15 h)
def bX11_askBack_10 (n : Nat) (l1 : Int32) (l2 : Int32) (l3 : Int32) (s0 : Int32) (I : am_I) : Option (am_I) := bX11_askBack_15 n am_fu l1 l2 l3 s0 (nI 0) I
theorem tX11_askBack_10 {G : am_G} (hG : am_okM G) {d : Nat} {l1 : Int32} {l2 : Int32} {l3 : Int32} {s0 : Int32} {I : am_I} {r : am_I} (h : bX11_askBack_10 G.2.2.2.1 l1 l2 l3 s0  I = some r) : am_J G (d + 1) mX11_askBack am_no (am_E none r) 10 [some (.inr (0, 60)), some (.inl l1), some (.inl l2), some (.inl l3), none, none, none, none] [.inl s0] I := by
  unfold bX11_askBack_10 at h
  refine am_istore dX11_askBack_10 (by decide) ?_
  refine am_iconst (v := nI 0) dX11_askBack_12 (by decide) ?_
  refine am_istore dX11_askBack_13 (by decide) ?_
  exact am_lwJ (lo' := [some (.inr (0, 60)), some (.inl l1), some (.inl l2), some (.inl l3), some (.inl s0), some (.inl (nI 0)), none, none]) ⟨rfl, rfl, rfl, rfl, rfl, rfl, trivial⟩ (tX11_askBack_15 hG h)
def bX11_askBack_0 (n : Nat) (l1 : Int32) (l2 : Int32) (l3 : Int32) (I : am_I) : Option (am_I) := if l3 = (nI 2) then (bX11_askBack_10 n l1 l2 l3 (nI 0) I) else (bX11_askBack_10 n l1 l2 l3 (nI 1) I)
theorem tX11_askBack_0 {G : am_G} (hG : am_okM G) {d : Nat} {l1 : Int32} {l2 : Int32} {l3 : Int32} {I : am_I} {r : am_I} (h : bX11_askBack_0 G.2.2.2.1 l1 l2 l3  I = some r) : am_J G (d + 1) mX11_askBack am_no (am_E none r) 0 [some (.inr (0, 60)), some (.inl l1), some (.inl l2), some (.inl l3), none, none, none, none] [] I := by
  unfold bX11_askBack_0 at h
  refine am_iload_n dX11_askBack_0 rfl ?_
  refine am_iconst (v := nI 2) dX11_askBack_1 (by decide) ?_
  refine am_icmp_ne (tgt := 9) dX11_askBack_2 rfl (fun c => ?_) (fun c => ?_)
  · rw [if_neg c] at h
    refine am_iconst (v := nI 1) dX11_askBack_9 (by decide) ?_
    exact am_lwJ (lo' := [some (.inr (0, 60)), some (.inl l1), some (.inl l2), some (.inl l3), none, none, none, none]) ⟨rfl, rfl, rfl, rfl, trivial⟩ (tX11_askBack_10 hG h)
  · rw [if_pos c] at h
    refine am_iconst (v := nI 0) dX11_askBack_5 (by decide) ?_
    refine am_goto (tgt := 10) dX11_askBack_6 rfl ?_
    exact am_lwJ (lo' := [some (.inr (0, 60)), some (.inl l1), some (.inl l2), some (.inl l3), none, none, none, none]) ⟨rfl, rfl, rfl, rfl, trivial⟩ (tX11_askBack_10 hG h)
def gX11_askBack (n : Nat) (l1 : Int32) (l2 : Int32) (l3 : Int32) (I : am_I) : Option (am_I) := bX11_askBack_0 n l1 l2 l3 I
theorem sX11_askBack {G : am_G} (hG : am_okM G) {d : Nat} {l1 : Int32} {l2 : Int32} {l3 : Int32} {I : am_I} {r : am_I} (h : gX11_askBack G.2.2.2.1 l1 l2 l3 I = some r) : am_C G (d + 1) mX11_askBack [.inr (0, 60), .inl l1, .inl l2, .inl l3] I (am_E none r) :=
  am_of (by decide +kernel) hG.nd (Nat.le_of_ble_eq_true rfl) (am_lwJ (lo' := [some (.inr (0, 60)), some (.inl l1), some (.inl l2), some (.inl l3), none, none, none, none]) ⟨rfl, rfl, rfl, rfl, trivial⟩ (tX11_askBack_0 hG h))
def bX11_serve_159 (n : Nat) (k0 : Int32 → am_I → Option (am_I)) : Nat → Int32 → Int32 → am_I → Option (am_I)
  | 0, _, _, _ => none
  | fu + 1, l1, l5, I => (fun k159 => am_gd (am_inb l1 136) (if (((nI 16) * l1) + (I 0 96 l1.toNatClampNeg)) ≤ l5 then (k0 l1 I) else (am_gd (am_inb (l5 + (nI 1)) 2176) (am_gd (am_inb l5 2176) (am_lt (am_up I 0 97 l5.toNatClampNeg (I 0 97 ((l5 + (nI 1)).toNatClampNeg))) (fun I4 => am_gd (am_inb (l5 + (nI 1)) 2176) (am_gd (am_inb l5 2176) (am_lt (am_up I4 0 98 l5.toNatClampNeg (I4 0 98 ((l5 + (nI 1)).toNatClampNeg))) (fun I7 => k159 l1 (l5 + nI 1) I7))))))))) (bX11_serve_159 n k0 fu)
theorem tX11_serve_159 {G : am_G} (hG : am_okM G) {d : Nat} {k0 : Int32 → am_I → Option (am_I)} (hk0 : ∀ (l1 : Int32) (I : am_I) (r : am_I), k0 l1 I = some r → am_J G (d + 2) mX11_serve am_no (am_E none r) 0 [some (.inr (0, 60)), some (.inl l1), none, none, none, none] [] I) : ∀ {fu : Nat} {l1 : Int32} {l5 : Int32} {I : am_I} {r : am_I}, bX11_serve_159 G.2.2.2.1 k0 fu l1 l5 I = some r → am_J G (d + 2) mX11_serve am_no (am_E none r) 159 [some (.inr (0, 60)), some (.inl l1), none, none, none, some (.inl l5)] [] I := by
  intro fu
  induction fu with
  | zero => intro l1 l5 I r h; cases h
  | succ fu ih =>
    intro l1 l5 I r h
    have hk159 : ∀ (l1 : Int32) (l5 : Int32) (I : am_I) (r : am_I), bX11_serve_159 G.2.2.2.1 k0 fu l1 l5 I = some r → am_J G (d + 2) mX11_serve am_no (am_E none r) 159 [some (.inr (0, 60)), some (.inl l1), none, none, none, some (.inl l5)] [] I := fun l1 l5 I r h => ih h
    unfold bX11_serve_159 at h
    generalize bX11_serve_159 G.2.2.2.1 k0 fu = k159 at hk159 h
    dsimp only at h
    refine am_iload dX11_serve_159 rfl ?_
    refine am_bipush (v := nI 16) dX11_serve_161 (by decide) ?_
    refine am_iload_n dX11_serve_163 rfl ?_
    refine am_imul dX11_serve_164 ?_
    refine am_aload_n dX11_serve_165 rfl ?_
    refine am_get (v := .inr (0, 96)) dX11_serve_166 fl_11_108 (hG.m0 (by decide)) rfl ?_
    refine am_iload_n dX11_serve_169 rfl ?_
    obtain ⟨g1, h⟩ := am_gd_some h
    refine am_ialdG dX11_serve_170 (hG.m0 (by decide)) rfl g1 (show 136 < 2 ^ 31 by decide) ?_
    refine am_iadd dX11_serve_171 ?_
    refine am_icmp_ge (tgt := 213) dX11_serve_172 rfl (fun c => ?_) (fun c => ?_)
    · rw [if_pos c] at h
      refine am_goto (tgt := 0) dX11_serve_213 rfl ?_
      exact am_lwJ (lo' := [some (.inr (0, 60)), some (.inl l1), none, none, none, none]) ⟨rfl, rfl, trivial⟩ (hk0 l1 _ _ h)
    · rw [if_neg c] at h
      refine am_aload_n dX11_serve_175 rfl ?_
      refine am_get (v := .inr (0, 97)) dX11_serve_176 fl_11_111 (hG.m0 (by decide)) rfl ?_
      refine am_iload dX11_serve_179 rfl ?_
      refine am_aload_n dX11_serve_181 rfl ?_
      refine am_get (v := .inr (0, 97)) dX11_serve_182 fl_11_111 (hG.m0 (by decide)) rfl ?_
      refine am_iload dX11_serve_185 rfl ?_
      refine am_iconst (v := nI 1) dX11_serve_187 (by decide) ?_
      refine am_iadd dX11_serve_188 ?_
      obtain ⟨g2, h⟩ := am_gd_some h
      refine am_ialdG dX11_serve_189 (hG.m0 (by decide)) rfl g2 (show 2176 < 2 ^ 31 by decide) ?_
      obtain ⟨g3, h⟩ := am_gd_some h
      refine am_iastG dX11_serve_190 (hG.m0 (by decide)) rfl g3 (show 2176 < 2 ^ 31 by decide) ?_
      obtain ⟨I4, hI4, h⟩ := am_lt_some h
      refine am_st10 hI4 ?_
      refine am_aload_n dX11_serve_191 rfl ?_
      refine am_get (v := .inr (0, 98)) dX11_serve_192 fl_11_114 (hG.m0 (by decide)) rfl ?_
      refine am_iload dX11_serve_195 rfl ?_
      refine am_aload_n dX11_serve_197 rfl ?_
      refine am_get (v := .inr (0, 98)) dX11_serve_198 fl_11_114 (hG.m0 (by decide)) rfl ?_
      refine am_iload dX11_serve_201 rfl ?_
      refine am_iconst (v := nI 1) dX11_serve_203 (by decide) ?_
      refine am_iadd dX11_serve_204 ?_
      obtain ⟨g5, h⟩ := am_gd_some h
      refine am_ialdG dX11_serve_205 (hG.m0 (by decide)) rfl g5 (show 2176 < 2 ^ 31 by decide) ?_
      obtain ⟨g6, h⟩ := am_gd_some h
      refine am_iastG dX11_serve_206 (hG.m0 (by decide)) rfl g6 (show 2176 < 2 ^ 31 by decide) ?_
      obtain ⟨I7, hI7, h⟩ := am_lt_some h
      refine am_st10 hI7 ?_
      refine am_iinc (v := l5 + nI 1) dX11_serve_207 rfl rfl ?_
      refine am_goto (tgt := 159) dX11_serve_210 rfl ?_
      exact am_lwJ (lo' := [some (.inr (0, 60)), some (.inl l1), none, none, none, some (.inl (l5 + nI 1))]) ⟨rfl, rfl, rfl, trivial⟩ (hk159 l1 (l5 + nI 1) _ _ h)
def bX11_serve_129 (n : Nat) (k0 : Int32 → am_I → Option (am_I)) (l1 : Int32) (l2 : Int32) (l3 : Int32) (s0 : Int32) (s1 : Int32) (I : am_I) : Option (am_I) := am_gd (am_inb s1 544) (am_lt (am_up I 0 94 s1.toNatClampNeg s0) (fun I2 => (gX11_masterOf n l1 I2).bind (fun q3 => (gX11_send n q3.1 l2 (nI 1) l1 l3 q3.2).bind (fun q4 => am_gd (am_inb l1 136) (am_gd (am_inb l1 136) (am_lt (am_up q4 0 96 l1.toNatClampNeg ((q4 0 96 l1.toNatClampNeg) - (nI 1))) (fun I7 => bX11_serve_159 n k0 am_fu l1 ((nI 16) * l1) I7)))))))
theorem tX11_serve_129 {G : am_G} (hG : am_okM G) {d : Nat} {k0 : Int32 → am_I → Option (am_I)} (hk0 : ∀ (l1 : Int32) (I : am_I) (r : am_I), k0 l1 I = some r → am_J G (d + 2) mX11_serve am_no (am_E none r) 0 [some (.inr (0, 60)), some (.inl l1), none, none, none, none] [] I) {l1 : Int32} {l2 : Int32} {l3 : Int32} {s0 : Int32} {s1 : Int32} {I : am_I} {r : am_I} (h : bX11_serve_129 G.2.2.2.1 k0 l1 l2 l3 s0 s1  I = some r) : am_J G (d + 2) mX11_serve am_no (am_E none r) 129 [some (.inr (0, 60)), some (.inl l1), some (.inl l2), some (.inl l3), none, none] [.inl s0, .inl s1, .inr (0, 94)] I := by
  unfold bX11_serve_129 at h
  obtain ⟨g1, h⟩ := am_gd_some h
  refine am_iastG dX11_serve_129 (hG.m0 (by decide)) rfl g1 (show 544 < 2 ^ 31 by decide) ?_
  obtain ⟨I2, hI2, h⟩ := am_lt_some h
  refine am_st10 hI2 ?_
  refine am_aload_n dX11_serve_130 rfl ?_
  refine am_aload_n dX11_serve_131 rfl ?_
  refine am_iload_n dX11_serve_132 rfl ?_
  obtain ⟨q3, hq3, h⟩ := am_bd h
  refine am_callVx (i := 0) (j := 60) (as := [.inl l1]) (rest := [.inr (0, 60)]) dX11_serve_133 lkX11_masterOf ml_X11_226 imX11_masterOf seX11_masterOf rfl rfl (hG.m0 (by decide)) rfl (Nat.le_of_ble_eq_true rfl) rfl (sX11_masterOf hG hq3) ?_
  refine am_iload_n dX11_serve_136 rfl ?_
  refine am_iconst (v := nI 1) dX11_serve_137 (by decide) ?_
  refine am_iload_n dX11_serve_138 rfl ?_
  refine am_iload_n dX11_serve_139 rfl ?_
  obtain ⟨q4, hq4, h⟩ := am_bd h
  refine am_callVe (i := 0) (j := 60) (as := [.inl q3.1, .inl l2, .inl (nI 1), .inl l1, .inl l3]) (rest := []) dX11_serve_140 lkX11_send ml_X11_229 imX11_send seX11_send rfl rfl (hG.m0 (by decide)) rfl (Nat.le_of_ble_eq_true rfl) rfl (sX11_send hG hq4) ?_
  refine am_aload_n dX11_serve_143 rfl ?_
  refine am_get (v := .inr (0, 96)) dX11_serve_144 fl_11_108 (hG.m0 (by decide)) rfl ?_
  refine am_iload_n dX11_serve_147 rfl ?_
  refine am_dup2 dX11_serve_148 ?_
  obtain ⟨g5, h⟩ := am_gd_some h
  refine am_ialdG dX11_serve_149 (hG.m0 (by decide)) rfl g5 (show 136 < 2 ^ 31 by decide) ?_
  refine am_iconst (v := nI 1) dX11_serve_150 (by decide) ?_
  refine am_isub dX11_serve_151 ?_
  obtain ⟨g6, h⟩ := am_gd_some h
  refine am_iastG dX11_serve_152 (hG.m0 (by decide)) rfl g6 (show 136 < 2 ^ 31 by decide) ?_
  obtain ⟨I7, hI7, h⟩ := am_lt_some h
  refine am_st10 hI7 ?_
  refine am_bipush (v := nI 16) dX11_serve_153 (by decide) ?_
  refine am_iload_n dX11_serve_155 rfl ?_
  refine am_imul dX11_serve_156 ?_
  refine am_istore dX11_serve_157 (by decide) ?_
  exact am_lwJ (lo' := [some (.inr (0, 60)), some (.inl l1), none, none, none, some (.inl ((nI 16) * l1))]) ⟨rfl, rfl, rfl, trivial⟩ (tX11_serve_159 hG hk0 h)
def bX11_serve_71 (n : Nat) (k0 : Int32 → am_I → Option (am_I)) (k35 : Int32 → Int32 → Int32 → Int32 → Int32 → am_I → Option (am_I)) (l1 : Int32) (l2 : Int32) (l3 : Int32) (l5 : Int32) (s0 : Int32) (I : am_I) : Option (am_I) := k35 l1 l2 l3 s0 (l5 + nI 1) I
theorem tX11_serve_71 {G : am_G} (hG : am_okM G) {d : Nat} {k0 : Int32 → am_I → Option (am_I)} {k35 : Int32 → Int32 → Int32 → Int32 → Int32 → am_I → Option (am_I)} (hk0 : ∀ (l1 : Int32) (I : am_I) (r : am_I), k0 l1 I = some r → am_J G (d + 2) mX11_serve am_no (am_E none r) 0 [some (.inr (0, 60)), some (.inl l1), none, none, none, none] [] I) (hk35 : ∀ (l1 : Int32) (l2 : Int32) (l3 : Int32) (l4 : Int32) (l5 : Int32) (I : am_I) (r : am_I), k35 l1 l2 l3 l4 l5 I = some r → am_J G (d + 2) mX11_serve am_no (am_E none r) 35 [some (.inr (0, 60)), some (.inl l1), some (.inl l2), some (.inl l3), some (.inl l4), some (.inl l5)] [] I) {l1 : Int32} {l2 : Int32} {l3 : Int32} {l5 : Int32} {s0 : Int32} {I : am_I} {r : am_I} (h : bX11_serve_71 G.2.2.2.1 k0 k35 l1 l2 l3 l5 s0  I = some r) : am_J G (d + 2) mX11_serve am_no (am_E none r) 71 [some (.inr (0, 60)), some (.inl l1), some (.inl l2), some (.inl l3), none, some (.inl l5)] [.inl s0] I := by
  unfold bX11_serve_71 at h
  refine am_istore dX11_serve_71 (by decide) ?_
  refine am_iinc (v := l5 + nI 1) dX11_serve_73 rfl rfl ?_
  refine am_goto (tgt := 35) dX11_serve_76 rfl ?_
  exact am_lwJ (lo' := [some (.inr (0, 60)), some (.inl l1), some (.inl l2), some (.inl l3), some (.inl s0), some (.inl (l5 + nI 1))]) ⟨rfl, rfl, rfl, rfl, rfl, rfl, trivial⟩ (hk35 l1 l2 l3 s0 (l5 + nI 1) _ _ h)
def bX11_serve_70 (n : Nat) (k0 : Int32 → am_I → Option (am_I)) (k35 : Int32 → Int32 → Int32 → Int32 → Int32 → am_I → Option (am_I)) (l1 : Int32) (l2 : Int32) (l3 : Int32) (l5 : Int32) (I : am_I) : Option (am_I) := bX11_serve_71 n k0 k35 l1 l2 l3 l5 (nI 0) I
theorem tX11_serve_70 {G : am_G} (hG : am_okM G) {d : Nat} {k0 : Int32 → am_I → Option (am_I)} {k35 : Int32 → Int32 → Int32 → Int32 → Int32 → am_I → Option (am_I)} (hk0 : ∀ (l1 : Int32) (I : am_I) (r : am_I), k0 l1 I = some r → am_J G (d + 2) mX11_serve am_no (am_E none r) 0 [some (.inr (0, 60)), some (.inl l1), none, none, none, none] [] I) (hk35 : ∀ (l1 : Int32) (l2 : Int32) (l3 : Int32) (l4 : Int32) (l5 : Int32) (I : am_I) (r : am_I), k35 l1 l2 l3 l4 l5 I = some r → am_J G (d + 2) mX11_serve am_no (am_E none r) 35 [some (.inr (0, 60)), some (.inl l1), some (.inl l2), some (.inl l3), some (.inl l4), some (.inl l5)] [] I) {l1 : Int32} {l2 : Int32} {l3 : Int32} {l5 : Int32} {I : am_I} {r : am_I} (h : bX11_serve_70 G.2.2.2.1 k0 k35 l1 l2 l3 l5  I = some r) : am_J G (d + 2) mX11_serve am_no (am_E none r) 70 [some (.inr (0, 60)), some (.inl l1), some (.inl l2), some (.inl l3), none, some (.inl l5)] [] I := by
  unfold bX11_serve_70 at h
  refine am_iconst (v := nI 0) dX11_serve_70 (by decide) ?_
  exact am_lwJ (lo' := [some (.inr (0, 60)), some (.inl l1), some (.inl l2), some (.inl l3), none, some (.inl l5)]) ⟨rfl, rfl, rfl, rfl, rfl, trivial⟩ (tX11_serve_71 hG hk0 hk35 h)
def bX11_serve_66 (n : Nat) (k0 : Int32 → am_I → Option (am_I)) (k35 : Int32 → Int32 → Int32 → Int32 → Int32 → am_I → Option (am_I)) (l1 : Int32) (l2 : Int32) (l3 : Int32) (l5 : Int32) (I : am_I) : Option (am_I) := bX11_serve_71 n k0 k35 l1 l2 l3 l5 (nI 1) I
theorem tX11_serve_66 {G : am_G} (hG : am_okM G) {d : Nat} {k0 : Int32 → am_I → Option (am_I)} {k35 : Int32 → Int32 → Int32 → Int32 → Int32 → am_I → Option (am_I)} (hk0 : ∀ (l1 : Int32) (I : am_I) (r : am_I), k0 l1 I = some r → am_J G (d + 2) mX11_serve am_no (am_E none r) 0 [some (.inr (0, 60)), some (.inl l1), none, none, none, none] [] I) (hk35 : ∀ (l1 : Int32) (l2 : Int32) (l3 : Int32) (l4 : Int32) (l5 : Int32) (I : am_I) (r : am_I), k35 l1 l2 l3 l4 l5 I = some r → am_J G (d + 2) mX11_serve am_no (am_E none r) 35 [some (.inr (0, 60)), some (.inl l1), some (.inl l2), some (.inl l3), some (.inl l4), some (.inl l5)] [] I) {l1 : Int32} {l2 : Int32} {l3 : Int32} {l5 : Int32} {I : am_I} {r : am_I} (h : bX11_serve_66 G.2.2.2.1 k0 k35 l1 l2 l3 l5  I = some r) : am_J G (d + 2) mX11_serve am_no (am_E none r) 66 [some (.inr (0, 60)), some (.inl l1), some (.inl l2), some (.inl l3), none, some (.inl l5)] [] I := by
  unfold bX11_serve_66 at h
  refine am_iconst (v := nI 1) dX11_serve_66 (by decide) ?_
  refine am_goto (tgt := 71) dX11_serve_67 rfl ?_
  exact am_lwJ (lo' := [some (.inr (0, 60)), some (.inl l1), some (.inl l2), some (.inl l3), none, some (.inl l5)]) ⟨rfl, rfl, rfl, rfl, rfl, trivial⟩ (tX11_serve_71 hG hk0 hk35 h)
def bX11_serve_35 (n : Nat) (k0 : Int32 → am_I → Option (am_I)) : Nat → Int32 → Int32 → Int32 → Int32 → Int32 → am_I → Option (am_I)
  | 0, _, _, _, _, _, _ => none
  | fu + 1, l1, l2, l3, l4, l5, I => (fun k35 => if (I 0 60 1) ≤ l5 then (if l4 = 0 then ((gX11_askBack n l1 l2 l3 I).bind (fun q3 => some q3)) else (am_gd (am_inb (((nI 4) * l1) + l2) 544) (if (I 0 94 ((((nI 4) * l1) + l2).toNatClampNeg)) ≤ l3 then (bX11_serve_129 n k0 l1 l2 l3 l3 (((nI 4) * l1) + l2) I) else (am_gd (am_inb (((nI 4) * l1) + l2) 544) (bX11_serve_129 n k0 l1 l2 l3 (I 0 94 ((((nI 4) * l1) + l2).toNatClampNeg)) (((nI 4) * l1) + l2) I))))) else (if l4 = 0 then (bX11_serve_70 n k0 k35 l1 l2 l3 l5 I) else (if l5 = l2 then (bX11_serve_66 n k0 k35 l1 l2 l3 l5 I) else ((gX11_against n l1 l5 l3 I).bind (fun q4 => if q4.1 = 0 then (bX11_serve_66 n k0 k35 l1 l2 l3 l5 q4.2) else (bX11_serve_70 n k0 k35 l1 l2 l3 l5 q4.2)))))) (bX11_serve_35 n k0 fu)
theorem tX11_serve_35 {G : am_G} (hG : am_okM G) {d : Nat} {k0 : Int32 → am_I → Option (am_I)} (hk0 : ∀ (l1 : Int32) (I : am_I) (r : am_I), k0 l1 I = some r → am_J G (d + 2) mX11_serve am_no (am_E none r) 0 [some (.inr (0, 60)), some (.inl l1), none, none, none, none] [] I) : ∀ {fu : Nat} {l1 : Int32} {l2 : Int32} {l3 : Int32} {l4 : Int32} {l5 : Int32} {I : am_I} {r : am_I}, bX11_serve_35 G.2.2.2.1 k0 fu l1 l2 l3 l4 l5 I = some r → am_J G (d + 2) mX11_serve am_no (am_E none r) 35 [some (.inr (0, 60)), some (.inl l1), some (.inl l2), some (.inl l3), some (.inl l4), some (.inl l5)] [] I := by
  intro fu
  induction fu with
  | zero => intro l1 l2 l3 l4 l5 I r h; cases h
  | succ fu ih =>
    intro l1 l2 l3 l4 l5 I r h
    have hk35 : ∀ (l1 : Int32) (l2 : Int32) (l3 : Int32) (l4 : Int32) (l5 : Int32) (I : am_I) (r : am_I), bX11_serve_35 G.2.2.2.1 k0 fu l1 l2 l3 l4 l5 I = some r → am_J G (d + 2) mX11_serve am_no (am_E none r) 35 [some (.inr (0, 60)), some (.inl l1), some (.inl l2), some (.inl l3), some (.inl l4), some (.inl l5)] [] I := fun l1 l2 l3 l4 l5 I r h => ih h
    unfold bX11_serve_35 at h
    generalize bX11_serve_35 G.2.2.2.1 k0 fu = k35 at hk35 h
    dsimp only at h
    refine am_iload dX11_serve_35 rfl ?_
    refine am_aload_n dX11_serve_37 rfl ?_
    refine am_get (v := .inl (I 0 60 1)) dX11_serve_38 fl_11_177 (hG.m0 (by decide)) rfl ?_
    refine am_icmp_ge (tgt := 79) dX11_serve_41 rfl (fun c => ?_) (fun c => ?_)
    · rw [if_pos c] at h
      refine am_iload dX11_serve_79 rfl ?_
      refine am_if_ne (tgt := 92) dX11_serve_81 rfl (fun c => ?_) (fun c => ?_)
      · rw [if_neg c] at h
        refine am_aload_n dX11_serve_92 rfl ?_
        refine am_get (v := .inr (0, 94)) dX11_serve_93 fl_11_102 (hG.m0 (by decide)) rfl ?_
        refine am_iconst (v := nI 4) dX11_serve_96 (by decide) ?_
        refine am_iload_n dX11_serve_97 rfl ?_
        refine am_imul dX11_serve_98 ?_
        refine am_iload_n dX11_serve_99 rfl ?_
        refine am_iadd dX11_serve_100 ?_
        refine am_aload_n dX11_serve_101 rfl ?_
        refine am_get (v := .inr (0, 94)) dX11_serve_102 fl_11_102 (hG.m0 (by decide)) rfl ?_
        refine am_iconst (v := nI 4) dX11_serve_105 (by decide) ?_
        refine am_iload_n dX11_serve_106 rfl ?_
        refine am_imul dX11_serve_107 ?_
        refine am_iload_n dX11_serve_108 rfl ?_
        refine am_iadd dX11_serve_109 ?_
        obtain ⟨g1, h⟩ := am_gd_some h
        refine am_ialdG dX11_serve_110 (hG.m0 (by decide)) rfl g1 (show 544 < 2 ^ 31 by decide) ?_
        refine am_iload_n dX11_serve_111 rfl ?_
        refine am_icmp_le (tgt := 128) dX11_serve_112 rfl (fun c => ?_) (fun c => ?_)
        · rw [if_pos c] at h
          refine am_iload_n dX11_serve_128 rfl ?_
          exact am_lwJ (lo' := [some (.inr (0, 60)), some (.inl l1), some (.inl l2), some (.inl l3), none, none]) ⟨rfl, rfl, rfl, rfl, trivial⟩ (tX11_serve_129 hG hk0 h)
        · rw [if_neg c] at h
          refine am_aload_n dX11_serve_115 rfl ?_
          refine am_get (v := .inr (0, 94)) dX11_serve_116 fl_11_102 (hG.m0 (by decide)) rfl ?_
          refine am_iconst (v := nI 4) dX11_serve_119 (by decide) ?_
          refine am_iload_n dX11_serve_120 rfl ?_
          refine am_imul dX11_serve_121 ?_
          refine am_iload_n dX11_serve_122 rfl ?_
          refine am_iadd dX11_serve_123 ?_
          obtain ⟨g2, h⟩ := am_gd_some h
          refine am_ialdG dX11_serve_124 (hG.m0 (by decide)) rfl g2 (show 544 < 2 ^ 31 by decide) ?_
          refine am_goto (tgt := 129) dX11_serve_125 rfl ?_
          exact am_lwJ (lo' := [some (.inr (0, 60)), some (.inl l1), some (.inl l2), some (.inl l3), none, none]) ⟨rfl, rfl, rfl, rfl, trivial⟩ (tX11_serve_129 hG hk0 h)
      · rw [if_pos c] at h
        refine am_aload_n dX11_serve_84 rfl ?_
        refine am_iload_n dX11_serve_85 rfl ?_
        refine am_iload_n dX11_serve_86 rfl ?_
        refine am_iload_n dX11_serve_87 rfl ?_
        obtain ⟨q3, hq3, h⟩ := am_bd h
        refine am_callVe (i := 0) (j := 60) (as := [.inl l1, .inl l2, .inl l3]) (rest := []) dX11_serve_88 lkX11_askBack ml_X11_223 imX11_askBack seX11_askBack rfl rfl (hG.m0 (by decide)) rfl (Nat.le_of_ble_eq_true rfl) rfl (sX11_askBack hG hq3) ?_
        cases h
        exact am_vret dX11_serve_91 rfl ⟨rfl, rfl⟩
    · rw [if_neg c] at h
      refine am_iload dX11_serve_44 rfl ?_
      refine am_if_eq (tgt := 70) dX11_serve_46 rfl (fun c => ?_) (fun c => ?_)
      · rw [if_pos c] at h
        exact am_lwJ (lo' := [some (.inr (0, 60)), some (.inl l1), some (.inl l2), some (.inl l3), none, some (.inl l5)]) ⟨rfl, rfl, rfl, rfl, rfl, trivial⟩ (tX11_serve_70 hG hk0 hk35 h)
      · rw [if_neg c] at h
        refine am_iload dX11_serve_49 rfl ?_
        refine am_iload_n dX11_serve_51 rfl ?_
        refine am_icmp_eq (tgt := 66) dX11_serve_52 rfl (fun c => ?_) (fun c => ?_)
        · rw [if_pos c] at h
          exact am_lwJ (lo' := [some (.inr (0, 60)), some (.inl l1), some (.inl l2), some (.inl l3), none, some (.inl l5)]) ⟨rfl, rfl, rfl, rfl, rfl, trivial⟩ (tX11_serve_66 hG hk0 hk35 h)
        · rw [if_neg c] at h
          refine am_aload_n dX11_serve_55 rfl ?_
          refine am_iload_n dX11_serve_56 rfl ?_
          refine am_iload dX11_serve_57 rfl ?_
          refine am_iload_n dX11_serve_59 rfl ?_
          obtain ⟨q4, hq4, h⟩ := am_bd h
          refine am_callVx (i := 0) (j := 60) (as := [.inl l1, .inl l5, .inl l3]) (rest := []) dX11_serve_60 lkX11_against ml_X11_219 imX11_against seX11_against rfl rfl (hG.m0 (by decide)) rfl (Nat.le_of_ble_eq_true rfl) rfl (sX11_against hG hq4) ?_
          refine am_if_ne (tgt := 70) dX11_serve_63 rfl (fun c => ?_) (fun c => ?_)
          · rw [if_neg c] at h
            exact am_lwJ (lo' := [some (.inr (0, 60)), some (.inl l1), some (.inl l2), some (.inl l3), none, some (.inl l5)]) ⟨rfl, rfl, rfl, rfl, rfl, trivial⟩ (tX11_serve_70 hG hk0 hk35 h)
          · rw [if_pos c] at h
            exact am_lwJ (lo' := [some (.inr (0, 60)), some (.inl l1), some (.inl l2), some (.inl l3), none, some (.inl l5)]) ⟨rfl, rfl, rfl, rfl, rfl, trivial⟩ (tX11_serve_66 hG hk0 hk35 h)
def bX11_serve_0 (n : Nat) : Nat → Int32 → am_I → Option (am_I)
  | 0, _, _ => none
  | fu + 1, l1, I => (fun k0 => am_gd (am_inb l1 136) (if (I 0 96 l1.toNatClampNeg) ≤ 0 then (some I) else (am_gd (am_inb ((nI 16) * l1) 2176) (am_gd (am_inb ((nI 16) * l1) 2176) (bX11_serve_35 n k0 am_fu l1 (I 0 97 (((nI 16) * l1).toNatClampNeg)) (I 0 98 (((nI 16) * l1).toNatClampNeg)) (nI 1) (nI 0) I))))) (bX11_serve_0 n fu)
theorem tX11_serve_0 {G : am_G} (hG : am_okM G) {d : Nat} : ∀ {fu : Nat} {l1 : Int32} {I : am_I} {r : am_I}, bX11_serve_0 G.2.2.2.1 fu l1 I = some r → am_J G (d + 2) mX11_serve am_no (am_E none r) 0 [some (.inr (0, 60)), some (.inl l1), none, none, none, none] [] I := by
  intro fu
  induction fu with
  | zero => intro l1 I r h; cases h
  | succ fu ih =>
    intro l1 I r h
    have hk0 : ∀ (l1 : Int32) (I : am_I) (r : am_I), bX11_serve_0 G.2.2.2.1 fu l1 I = some r → am_J G (d + 2) mX11_serve am_no (am_E none r) 0 [some (.inr (0, 60)), some (.inl l1), none, none, none, none] [] I := fun l1 I r h => ih h
    unfold bX11_serve_0 at h
    generalize bX11_serve_0 G.2.2.2.1 fu = k0 at hk0 h
    dsimp only at h
    refine am_aload_n dX11_serve_0 rfl ?_
    refine am_get (v := .inr (0, 96)) dX11_serve_1 fl_11_108 (hG.m0 (by decide)) rfl ?_
    refine am_iload_n dX11_serve_4 rfl ?_
    obtain ⟨g1, h⟩ := am_gd_some h
    refine am_ialdG dX11_serve_5 (hG.m0 (by decide)) rfl g1 (show 136 < 2 ^ 31 by decide) ?_
    refine am_if_le (tgt := 216) dX11_serve_6 rfl (fun c => ?_) (fun c => ?_)
    · rw [if_pos c] at h
      cases h
      exact am_vret dX11_serve_216 rfl ⟨rfl, rfl⟩
    · rw [if_neg c] at h
      refine am_aload_n dX11_serve_9 rfl ?_
      refine am_get (v := .inr (0, 97)) dX11_serve_10 fl_11_111 (hG.m0 (by decide)) rfl ?_
      refine am_bipush (v := nI 16) dX11_serve_13 (by decide) ?_
      refine am_iload_n dX11_serve_15 rfl ?_
      refine am_imul dX11_serve_16 ?_
      obtain ⟨g2, h⟩ := am_gd_some h
      refine am_ialdG dX11_serve_17 (hG.m0 (by decide)) rfl g2 (show 2176 < 2 ^ 31 by decide) ?_
      refine am_istore_n dX11_serve_18 (by decide) ?_
      refine am_aload_n dX11_serve_19 rfl ?_
      refine am_get (v := .inr (0, 98)) dX11_serve_20 fl_11_114 (hG.m0 (by decide)) rfl ?_
      refine am_bipush (v := nI 16) dX11_serve_23 (by decide) ?_
      refine am_iload_n dX11_serve_25 rfl ?_
      refine am_imul dX11_serve_26 ?_
      obtain ⟨g3, h⟩ := am_gd_some h
      refine am_ialdG dX11_serve_27 (hG.m0 (by decide)) rfl g3 (show 2176 < 2 ^ 31 by decide) ?_
      refine am_istore_n dX11_serve_28 (by decide) ?_
      refine am_iconst (v := nI 1) dX11_serve_29 (by decide) ?_
      refine am_istore dX11_serve_30 (by decide) ?_
      refine am_iconst (v := nI 0) dX11_serve_32 (by decide) ?_
      refine am_istore dX11_serve_33 (by decide) ?_
      exact am_lwJ (lo' := [some (.inr (0, 60)), some (.inl l1), some (.inl (I 0 97 (((nI 16) * l1).toNatClampNeg))), some (.inl (I 0 98 (((nI 16) * l1).toNatClampNeg))), some (.inl (nI 1)), some (.inl (nI 0))]) ⟨rfl, rfl, rfl, rfl, rfl, rfl, trivial⟩ (tX11_serve_35 hG hk0 h)
def gX11_serve (n : Nat) (l1 : Int32) (I : am_I) : Option (am_I) := bX11_serve_0 n am_fu l1 I
theorem sX11_serve {G : am_G} (hG : am_okM G) {d : Nat} {l1 : Int32} {I : am_I} {r : am_I} (h : gX11_serve G.2.2.2.1 l1 I = some r) : am_C G (d + 2) mX11_serve [.inr (0, 60), .inl l1] I (am_E none r) :=
  am_of (by decide +kernel) hG.nd (Nat.le_of_ble_eq_true rfl) (am_lwJ (lo' := [some (.inr (0, 60)), some (.inl l1), none, none, none, none]) ⟨rfl, rfl, trivial⟩ (tX11_serve_0 hG h))
def bX11_callBack_93 (n : Nat) (I : am_I) : Option (am_I) := some I
theorem tX11_callBack_93 {G : am_G} (hG : am_okM G) {d : Nat} {I : am_I} {r : am_I} (h : bX11_callBack_93 G.2.2.2.1  I = some r) : am_J G (d + 4) mX11_callBack am_no (am_E none r) 93 [none, none, none, none, none, none] [] I := by
  unfold bX11_callBack_93 at h
  cases h
  exact am_vret dX11_callBack_93 rfl ⟨rfl, rfl⟩
def bX11_callBack_76 (n : Nat) (l2 : Int32) (l3 : Int32) (l5 : Int32) (s0 : Int32) (s1 : Int32) (I : am_I) : Option (am_I) := am_gd (am_inb s1 544) (am_lt (am_up I 0 78 s1.toNatClampNeg s0) (fun I2 => am_gd (am_inb l5 544) (if (I2 0 79 l5.toNatClampNeg) = 0 then ((gX11_goDown n l2 l3 I2).bind (fun q4 => bX11_callBack_93 n q4)) else (bX11_callBack_93 n I2))))
theorem tX11_callBack_76 {G : am_G} (hG : am_okM G) {d : Nat} {l2 : Int32} {l3 : Int32} {l5 : Int32} {s0 : Int32} {s1 : Int32} {I : am_I} {r : am_I} (h : bX11_callBack_76 G.2.2.2.1 l2 l3 l5 s0 s1  I = some r) : am_J G (d + 4) mX11_callBack am_no (am_E none r) 76 [some (.inr (0, 60)), none, some (.inl l2), some (.inl l3), none, some (.inl l5)] [.inl s0, .inl s1, .inr (0, 78)] I := by
  unfold bX11_callBack_76 at h
  obtain ⟨g1, h⟩ := am_gd_some h
  refine am_iastG dX11_callBack_76 (hG.m0 (by decide)) rfl g1 (show 544 < 2 ^ 31 by decide) ?_
  obtain ⟨I2, hI2, h⟩ := am_lt_some h
  refine am_st10 hI2 ?_
  refine am_aload_n dX11_callBack_77 rfl ?_
  refine am_get (v := .inr (0, 79)) dX11_callBack_78 fl_11_57 (hG.m0 (by decide)) rfl ?_
  refine am_iload dX11_callBack_81 rfl ?_
  obtain ⟨g3, h⟩ := am_gd_some h
  refine am_zaldG dX11_callBack_83 (hG.m0 (by decide)) rfl g3 (show 544 < 2 ^ 31 by decide) ?_
  refine am_if_ne (tgt := 93) dX11_callBack_84 rfl (fun c => ?_) (fun c => ?_)
  · rw [if_neg c] at h
    exact am_lwJ (lo' := [none, none, none, none, none, none]) trivial (tX11_callBack_93 hG h)
  · rw [if_pos c] at h
    refine am_aload_n dX11_callBack_87 rfl ?_
    refine am_iload_n dX11_callBack_88 rfl ?_
    refine am_iload_n dX11_callBack_89 rfl ?_
    obtain ⟨q4, hq4, h⟩ := am_bd h
    refine am_callVe (i := 0) (j := 60) (as := [.inl l2, .inl l3]) (rest := []) dX11_callBack_90 lkX11_goDown ml_X11_233 imX11_goDown seX11_goDown rfl rfl (hG.m0 (by decide)) rfl (Nat.le_of_ble_eq_true rfl) rfl (sX11_goDown hG hq4) ?_
    exact am_lwJ (lo' := [none, none, none, none, none, none]) trivial (tX11_callBack_93 hG h)
def bX11_callBack_64 (n : Nat) (l2 : Int32) (l3 : Int32) (l4 : Int32) (l5 : Int32) (s0 : Int32) (I : am_I) : Option (am_I) := bX11_callBack_76 n l2 l3 l5 l4 s0 I
theorem tX11_callBack_64 {G : am_G} (hG : am_okM G) {d : Nat} {l2 : Int32} {l3 : Int32} {l4 : Int32} {l5 : Int32} {s0 : Int32} {I : am_I} {r : am_I} (h : bX11_callBack_64 G.2.2.2.1 l2 l3 l4 l5 s0  I = some r) : am_J G (d + 4) mX11_callBack am_no (am_E none r) 64 [some (.inr (0, 60)), none, some (.inl l2), some (.inl l3), some (.inl l4), some (.inl l5)] [.inl s0, .inr (0, 78)] I := by
  unfold bX11_callBack_64 at h
  refine am_iload dX11_callBack_64 rfl ?_
  refine am_goto (tgt := 76) dX11_callBack_66 rfl ?_
  exact am_lwJ (lo' := [some (.inr (0, 60)), none, some (.inl l2), some (.inl l3), none, some (.inl l5)]) ⟨rfl, rfl, rfl, rfl, trivial⟩ (tX11_callBack_76 hG h)
def bX11_callBack_0 (n : Nat) (l1 : Int32) (l2 : Int32) (l3 : Int32) (l4 : Int32) (I : am_I) : Option (am_I) := (gX11_at n l2 l3 I).bind (fun q1 => am_gd (am_inb q1.1 544) (if l4 < (q1.2 0 76 q1.1.toNatClampNeg) then (am_gd (am_inb q1.1 544) (if (q1.2 0 78 q1.1.toNatClampNeg) = (-1 : Int32) then (bX11_callBack_64 n l2 l3 l4 q1.1 q1.1 q1.2) else (am_gd (am_inb q1.1 544) (if (q1.2 0 78 q1.1.toNatClampNeg) ≤ l4 then (am_gd (am_inb q1.1 544) (bX11_callBack_76 n l2 l3 q1.1 (q1.2 0 78 q1.1.toNatClampNeg) q1.1 q1.2)) else (bX11_callBack_64 n l2 l3 l4 q1.1 q1.1 q1.2))))) else (am_gd (am_inb q1.1 544) ((gX11_send n l2 l1 (nI 3) l3 (q1.2 0 76 q1.1.toNatClampNeg) q1.2).bind (fun q7 => some q7)))))
theorem tX11_callBack_0 {G : am_G} (hG : am_okM G) {d : Nat} {l1 : Int32} {l2 : Int32} {l3 : Int32} {l4 : Int32} {I : am_I} {r : am_I} (h : bX11_callBack_0 G.2.2.2.1 l1 l2 l3 l4  I = some r) : am_J G (d + 4) mX11_callBack am_no (am_E none r) 0 [some (.inr (0, 60)), some (.inl l1), some (.inl l2), some (.inl l3), some (.inl l4), none] [] I := by
  unfold bX11_callBack_0 at h
  refine am_iload_n dX11_callBack_0 rfl ?_
  refine am_iload_n dX11_callBack_1 rfl ?_
  obtain ⟨q1, hq1, h⟩ := am_bd h
  refine am_callSx (as := [.inl l2, .inl l3]) (rest := []) dX11_callBack_2 lkX11_at ml_X11_208 isX11_at rfl (Nat.le_of_ble_eq_true rfl) rfl (sX11_at hG hq1) ?_
  refine am_istore dX11_callBack_5 (by decide) ?_
  refine am_aload_n dX11_callBack_7 rfl ?_
  refine am_get (v := .inr (0, 76)) dX11_callBack_8 fl_11_48 (hG.m0 (by decide)) rfl ?_
  refine am_iload dX11_callBack_11 rfl ?_
  obtain ⟨g2, h⟩ := am_gd_some h
  refine am_ialdG dX11_callBack_13 (hG.m0 (by decide)) rfl g2 (show 544 < 2 ^ 31 by decide) ?_
  refine am_iload dX11_callBack_14 rfl ?_
  refine am_icmp_gt (tgt := 35) dX11_callBack_16 rfl (fun c => ?_) (fun c => ?_)
  · rw [if_pos c] at h
    refine am_aload_n dX11_callBack_35 rfl ?_
    refine am_get (v := .inr (0, 78)) dX11_callBack_36 fl_11_54 (hG.m0 (by decide)) rfl ?_
    refine am_iload dX11_callBack_39 rfl ?_
    refine am_aload_n dX11_callBack_41 rfl ?_
    refine am_get (v := .inr (0, 78)) dX11_callBack_42 fl_11_54 (hG.m0 (by decide)) rfl ?_
    refine am_iload dX11_callBack_45 rfl ?_
    obtain ⟨g3, h⟩ := am_gd_some h
    refine am_ialdG dX11_callBack_47 (hG.m0 (by decide)) rfl g3 (show 544 < 2 ^ 31 by decide) ?_
    refine am_iconst (v := (-1 : Int32)) dX11_callBack_48 (by decide) ?_
    refine am_icmp_eq (tgt := 64) dX11_callBack_49 rfl (fun c => ?_) (fun c => ?_)
    · rw [if_pos c] at h
      exact am_lwJ (lo' := [some (.inr (0, 60)), none, some (.inl l2), some (.inl l3), some (.inl l4), some (.inl q1.1)]) ⟨rfl, rfl, rfl, rfl, rfl, trivial⟩ (tX11_callBack_64 hG h)
    · rw [if_neg c] at h
      refine am_iload dX11_callBack_52 rfl ?_
      refine am_aload_n dX11_callBack_54 rfl ?_
      refine am_get (v := .inr (0, 78)) dX11_callBack_55 fl_11_54 (hG.m0 (by decide)) rfl ?_
      refine am_iload dX11_callBack_58 rfl ?_
      obtain ⟨g4, h⟩ := am_gd_some h
      refine am_ialdG dX11_callBack_60 (hG.m0 (by decide)) rfl g4 (show 544 < 2 ^ 31 by decide) ?_
      refine am_icmp_ge (tgt := 69) dX11_callBack_61 rfl (fun c => ?_) (fun c => ?_)
      · rw [if_pos c] at h
        refine am_aload_n dX11_callBack_69 rfl ?_
        refine am_get (v := .inr (0, 78)) dX11_callBack_70 fl_11_54 (hG.m0 (by decide)) rfl ?_
        refine am_iload dX11_callBack_73 rfl ?_
        obtain ⟨g5, h⟩ := am_gd_some h
        refine am_ialdG dX11_callBack_75 (hG.m0 (by decide)) rfl g5 (show 544 < 2 ^ 31 by decide) ?_
        exact am_lwJ (lo' := [some (.inr (0, 60)), none, some (.inl l2), some (.inl l3), none, some (.inl q1.1)]) ⟨rfl, rfl, rfl, rfl, trivial⟩ (tX11_callBack_76 hG h)
      · rw [if_neg c] at h
        exact am_lwJ (lo' := [some (.inr (0, 60)), none, some (.inl l2), some (.inl l3), some (.inl l4), some (.inl q1.1)]) ⟨rfl, rfl, rfl, rfl, rfl, trivial⟩ (tX11_callBack_64 hG h)
  · rw [if_neg c] at h
    refine am_aload_n dX11_callBack_19 rfl ?_
    refine am_iload_n dX11_callBack_20 rfl ?_
    refine am_iload_n dX11_callBack_21 rfl ?_
    refine am_iconst (v := nI 3) dX11_callBack_22 (by decide) ?_
    refine am_iload_n dX11_callBack_23 rfl ?_
    refine am_aload_n dX11_callBack_24 rfl ?_
    refine am_get (v := .inr (0, 76)) dX11_callBack_25 fl_11_48 (hG.m0 (by decide)) rfl ?_
    refine am_iload dX11_callBack_28 rfl ?_
    obtain ⟨g6, h⟩ := am_gd_some h
    refine am_ialdG dX11_callBack_30 (hG.m0 (by decide)) rfl g6 (show 544 < 2 ^ 31 by decide) ?_
    obtain ⟨q7, hq7, h⟩ := am_bd h
    refine am_callVe (i := 0) (j := 60) (as := [.inl l2, .inl l1, .inl (nI 3), .inl l3, .inl (q1.2 0 76 q1.1.toNatClampNeg)]) (rest := []) dX11_callBack_31 lkX11_send ml_X11_229 imX11_send seX11_send rfl rfl (hG.m0 (by decide)) rfl (Nat.le_of_ble_eq_true rfl) rfl (sX11_send hG hq7) ?_
    cases h
    exact am_vret dX11_callBack_34 rfl ⟨rfl, rfl⟩
def gX11_callBack (n : Nat) (l1 : Int32) (l2 : Int32) (l3 : Int32) (l4 : Int32) (I : am_I) : Option (am_I) := bX11_callBack_0 n l1 l2 l3 l4 I
theorem sX11_callBack {G : am_G} (hG : am_okM G) {d : Nat} {l1 : Int32} {l2 : Int32} {l3 : Int32} {l4 : Int32} {I : am_I} {r : am_I} (h : gX11_callBack G.2.2.2.1 l1 l2 l3 l4 I = some r) : am_C G (d + 4) mX11_callBack [.inr (0, 60), .inl l1, .inl l2, .inl l3, .inl l4] I (am_E none r) :=
  am_of (by decide +kernel) hG.nd (Nat.le_of_ble_eq_true rfl) (am_lwJ (lo' := [some (.inr (0, 60)), some (.inl l1), some (.inl l2), some (.inl l3), some (.inl l4), none]) ⟨rfl, rfl, rfl, rfl, rfl, trivial⟩ (tX11_callBack_0 hG h))
def bX11_deliver_157 (n : Nat) (I : am_I) : Option (am_I) := some I
theorem tX11_deliver_157 {G : am_G} (hG : am_okM G) {d : Nat} {I : am_I} {r : am_I} (h : bX11_deliver_157 G.2.2.2.1  I = some r) : am_J G (d + 11) mX11_deliver am_no (am_E none r) 157 [none, none, none, none, none, none, none] [] I := by
  unfold bX11_deliver_157 at h
  cases h
  exact am_vret dX11_deliver_157 rfl ⟨rfl, rfl⟩
def bX11_deliver_126 (n : Nat) (l2 : Int32) (l4 : Int32) (s0 : Int32) (s1 : Int32) (I : am_I) : Option (am_I) := am_gd (am_inb s1 544) (am_lt (am_up I 0 76 s1.toNatClampNeg s0) (fun I2 => (gX11_at n l2 l4 I2).bind (fun q3 => am_gd (am_inb q3.1 544) (am_lt (am_up q3.2 0 77 q3.1.toNatClampNeg (nI 0)) (fun I5 => (gX11_goOn n l2 I5).bind (fun q6 => bX11_deliver_157 n q6))))))
theorem tX11_deliver_126 {G : am_G} (hG : am_okM G) {d : Nat} {l2 : Int32} {l4 : Int32} {s0 : Int32} {s1 : Int32} {I : am_I} {r : am_I} (h : bX11_deliver_126 G.2.2.2.1 l2 l4 s0 s1  I = some r) : am_J G (d + 11) mX11_deliver am_no (am_E none r) 126 [some (.inr (0, 60)), none, some (.inl l2), none, some (.inl l4), none, none] [.inl s0, .inl s1, .inr (0, 76)] I := by
  unfold bX11_deliver_126 at h
  obtain ⟨g1, h⟩ := am_gd_some h
  refine am_iastG dX11_deliver_126 (hG.m0 (by decide)) rfl g1 (show 544 < 2 ^ 31 by decide) ?_
  obtain ⟨I2, hI2, h⟩ := am_lt_some h
  refine am_st10 hI2 ?_
  refine am_aload_n dX11_deliver_127 rfl ?_
  refine am_get (v := .inr (0, 77)) dX11_deliver_128 fl_11_51 (hG.m0 (by decide)) rfl ?_
  refine am_iload_n dX11_deliver_131 rfl ?_
  refine am_iload dX11_deliver_132 rfl ?_
  obtain ⟨q3, hq3, h⟩ := am_bd h
  refine am_callSx (as := [.inl l2, .inl l4]) (rest := [.inr (0, 77)]) dX11_deliver_134 lkX11_at ml_X11_208 isX11_at rfl (Nat.le_of_ble_eq_true rfl) rfl (sX11_at hG hq3) ?_
  refine am_iconst (v := nI 0) dX11_deliver_137 (by decide) ?_
  obtain ⟨g4, h⟩ := am_gd_some h
  refine am_iastG dX11_deliver_138 (hG.m0 (by decide)) rfl g4 (show 544 < 2 ^ 31 by decide) ?_
  obtain ⟨I5, hI5, h⟩ := am_lt_some h
  refine am_st10 hI5 ?_
  refine am_aload_n dX11_deliver_139 rfl ?_
  refine am_iload_n dX11_deliver_140 rfl ?_
  obtain ⟨q6, hq6, h⟩ := am_bd h
  refine am_callVe (i := 0) (j := 60) (as := [.inl l2]) (rest := []) dX11_deliver_141 lkX11_goOn ml_X11_212 imX11_goOn seX11_goOn rfl rfl (hG.m0 (by decide)) rfl (Nat.le_of_ble_eq_true rfl) rfl (sX11_goOn hG hq6) ?_
  refine am_goto (tgt := 157) dX11_deliver_144 rfl ?_
  exact am_lwJ (lo' := [none, none, none, none, none, none, none]) trivial (tX11_deliver_157 hG h)
def bX11_deliver_0 (n : Nat) (l1 : Int32) (l2 : Int32) (l3 : Int32) (l4 : Int32) (l5 : Int32) (I : am_I) : Option (am_I) := if l3 = nI 0 then ((gX11_addRequest n l4 l1 l5 I).bind (fun q1 => (gX11_serve n l4 q1).bind (fun q2 => bX11_deliver_157 n q2))) else (if l3 = nI 1 then ((gX11_at n l2 l4 I).bind (fun q3 => (gX11_at n l2 l4 q3.2).bind (fun q4 => am_gd (am_inb q4.1 544) (if l5 ≤ (q4.2 0 76 q4.1.toNatClampNeg) then ((gX11_at n l2 l4 q4.2).bind (fun q6 => am_gd (am_inb q6.1 544) (bX11_deliver_126 n l2 l4 (q6.2 0 76 q6.1.toNatClampNeg) q3.1 q6.2))) else (bX11_deliver_126 n l2 l4 l5 q3.1 q4.2))))) else (if l3 = nI 2 then ((gX11_callBack n l1 l2 l4 l5 I).bind (fun q8 => bX11_deliver_157 n q8)) else (if l3 = nI 3 then (am_gd (am_inb (((nI 4) * l4) + l1) 544) (am_lt (am_up I 0 94 (((nI 4) * l4) + l1).toNatClampNeg l5) (fun I10 => am_gd (am_inb (((nI 4) * l4) + l1) 544) (am_lt (am_up I10 0 95 (((nI 4) * l4) + l1).toNatClampNeg (-1 : Int32)) (fun I12 => (gX11_serve n l4 I12).bind (fun q13 => bX11_deliver_157 n q13)))))) else ((gX11_callBack n l1 l2 l4 l5 I).bind (fun q14 => bX11_deliver_157 n q14)))))
theorem tX11_deliver_0 {G : am_G} (hG : am_okM G) {d : Nat} {l1 : Int32} {l2 : Int32} {l3 : Int32} {l4 : Int32} {l5 : Int32} {I : am_I} {r : am_I} (h : bX11_deliver_0 G.2.2.2.1 l1 l2 l3 l4 l5  I = some r) : am_J G (d + 11) mX11_deliver am_no (am_E none r) 0 [some (.inr (0, 60)), some (.inl l1), some (.inl l2), some (.inl l3), some (.inl l4), some (.inl l5), none] [] I := by
  unfold bX11_deliver_0 at h
  refine am_iconst (v := nI 4) dX11_deliver_0 (by decide) ?_
  refine am_iload dX11_deliver_1 rfl ?_
  refine am_imul dX11_deliver_3 ?_
  refine am_iload_n dX11_deliver_4 rfl ?_
  refine am_iadd dX11_deliver_5 ?_
  refine am_istore dX11_deliver_6 (by decide) ?_
  refine am_iload_n dX11_deliver_8 rfl ?_
  rcases am_sw 3 l3 with ⟨m, hm, hx⟩ | hx
  · match m, hm, hx with
    | 0, _, hx =>
      rw [if_pos hx] at h
      refine am_tabIn (off := 31) (tgt := 40) dX11_deliver_9 (by rw [hx]; decide) (by rw [hx]; decide) (by rw [hx]; rfl) rfl ?_
      refine am_aload_n dX11_deliver_40 rfl ?_
      refine am_iload dX11_deliver_41 rfl ?_
      refine am_iload_n dX11_deliver_43 rfl ?_
      refine am_iload dX11_deliver_44 rfl ?_
      obtain ⟨q1, hq1, h⟩ := am_bd h
      refine am_callVe (i := 0) (j := 60) (as := [.inl l4, .inl l1, .inl l5]) (rest := []) dX11_deliver_46 lkX11_addRequest ml_X11_200 imX11_addRequest seX11_addRequest rfl rfl (hG.m0 (by decide)) rfl (Nat.le_of_ble_eq_true rfl) rfl (sX11_addRequest hG hq1) ?_
      refine am_aload_n dX11_deliver_49 rfl ?_
      refine am_iload dX11_deliver_50 rfl ?_
      obtain ⟨q2, hq2, h⟩ := am_bd h
      refine am_callVe (i := 0) (j := 60) (as := [.inl l4]) (rest := []) dX11_deliver_52 lkX11_serve ml_X11_204 imX11_serve seX11_serve rfl rfl (hG.m0 (by decide)) rfl (Nat.le_of_ble_eq_true rfl) rfl (sX11_serve hG hq2) ?_
      refine am_goto (tgt := 157) dX11_deliver_55 rfl ?_
      exact am_lwJ (lo' := [none, none, none, none, none, none, none]) trivial (tX11_deliver_157 hG h)
    | 1, _, hx =>
      rw [if_neg (show ¬ l3 = nI 0 by rw [hx]; decide)] at h
      rw [if_pos hx] at h
      refine am_tabIn (off := 75) (tgt := 84) dX11_deliver_9 (by rw [hx]; decide) (by rw [hx]; decide) (by rw [hx]; rfl) rfl ?_
      refine am_aload_n dX11_deliver_84 rfl ?_
      refine am_get (v := .inr (0, 76)) dX11_deliver_85 fl_11_48 (hG.m0 (by decide)) rfl ?_
      refine am_iload_n dX11_deliver_88 rfl ?_
      refine am_iload dX11_deliver_89 rfl ?_
      obtain ⟨q3, hq3, h⟩ := am_bd h
      refine am_callSx (as := [.inl l2, .inl l4]) (rest := [.inr (0, 76)]) dX11_deliver_91 lkX11_at ml_X11_208 isX11_at rfl (Nat.le_of_ble_eq_true rfl) rfl (sX11_at hG hq3) ?_
      refine am_iload dX11_deliver_94 rfl ?_
      refine am_aload_n dX11_deliver_96 rfl ?_
      refine am_get (v := .inr (0, 76)) dX11_deliver_97 fl_11_48 (hG.m0 (by decide)) rfl ?_
      refine am_iload_n dX11_deliver_100 rfl ?_
      refine am_iload dX11_deliver_101 rfl ?_
      obtain ⟨q4, hq4, h⟩ := am_bd h
      refine am_callSx (as := [.inl l2, .inl l4]) (rest := [.inr (0, 76), .inl l5, .inl q3.1, .inr (0, 76)]) dX11_deliver_103 lkX11_at ml_X11_208 isX11_at rfl (Nat.le_of_ble_eq_true rfl) rfl (sX11_at hG hq4) ?_
      obtain ⟨g5, h⟩ := am_gd_some h
      refine am_ialdG dX11_deliver_106 (hG.m0 (by decide)) rfl g5 (show 544 < 2 ^ 31 by decide) ?_
      refine am_icmp_le (tgt := 115) dX11_deliver_107 rfl (fun c => ?_) (fun c => ?_)
      · rw [if_pos c] at h
        refine am_aload_n dX11_deliver_115 rfl ?_
        refine am_get (v := .inr (0, 76)) dX11_deliver_116 fl_11_48 (hG.m0 (by decide)) rfl ?_
        refine am_iload_n dX11_deliver_119 rfl ?_
        refine am_iload dX11_deliver_120 rfl ?_
        obtain ⟨q6, hq6, h⟩ := am_bd h
        refine am_callSx (as := [.inl l2, .inl l4]) (rest := [.inr (0, 76), .inl q3.1, .inr (0, 76)]) dX11_deliver_122 lkX11_at ml_X11_208 isX11_at rfl (Nat.le_of_ble_eq_true rfl) rfl (sX11_at hG hq6) ?_
        obtain ⟨g7, h⟩ := am_gd_some h
        refine am_ialdG dX11_deliver_125 (hG.m0 (by decide)) rfl g7 (show 544 < 2 ^ 31 by decide) ?_
        exact am_lwJ (lo' := [some (.inr (0, 60)), none, some (.inl l2), none, some (.inl l4), none, none]) ⟨rfl, rfl, rfl, trivial⟩ (tX11_deliver_126 hG h)
      · rw [if_neg c] at h
        refine am_iload dX11_deliver_110 rfl ?_
        refine am_goto (tgt := 126) dX11_deliver_112 rfl ?_
        exact am_lwJ (lo' := [some (.inr (0, 60)), none, some (.inl l2), none, some (.inl l4), none, none]) ⟨rfl, rfl, rfl, trivial⟩ (tX11_deliver_126 hG h)
    | 2, _, hx =>
      rw [if_neg (show ¬ l3 = nI 0 by rw [hx]; decide), if_neg (show ¬ l3 = nI 1 by rw [hx]; decide)] at h
      rw [if_pos hx] at h
      refine am_tabIn (off := 138) (tgt := 147) dX11_deliver_9 (by rw [hx]; decide) (by rw [hx]; decide) (by rw [hx]; rfl) rfl ?_
      refine am_aload_n dX11_deliver_147 rfl ?_
      refine am_iload_n dX11_deliver_148 rfl ?_
      refine am_iload_n dX11_deliver_149 rfl ?_
      refine am_iload dX11_deliver_150 rfl ?_
      refine am_iload dX11_deliver_152 rfl ?_
      obtain ⟨q8, hq8, h⟩ := am_bd h
      refine am_callVe (i := 0) (j := 60) (as := [.inl l1, .inl l2, .inl l4, .inl l5]) (rest := []) dX11_deliver_154 lkX11_callBack ml_X11_215 imX11_callBack seX11_callBack rfl rfl (hG.m0 (by decide)) rfl (Nat.le_of_ble_eq_true rfl) rfl (sX11_callBack hG hq8) ?_
      exact am_lwJ (lo' := [none, none, none, none, none, none, none]) trivial (tX11_deliver_157 hG h)
    | 3, _, hx =>
      rw [if_neg (show ¬ l3 = nI 0 by rw [hx]; decide), if_neg (show ¬ l3 = nI 1 by rw [hx]; decide), if_neg (show ¬ l3 = nI 2 by rw [hx]; decide)] at h
      rw [if_pos hx] at h
      refine am_tabIn (off := 49) (tgt := 58) dX11_deliver_9 (by rw [hx]; decide) (by rw [hx]; decide) (by rw [hx]; rfl) rfl ?_
      refine am_aload_n dX11_deliver_58 rfl ?_
      refine am_get (v := .inr (0, 94)) dX11_deliver_59 fl_11_102 (hG.m0 (by decide)) rfl ?_
      refine am_iload dX11_deliver_62 rfl ?_
      refine am_iload dX11_deliver_64 rfl ?_
      obtain ⟨g9, h⟩ := am_gd_some h
      refine am_iastG dX11_deliver_66 (hG.m0 (by decide)) rfl g9 (show 544 < 2 ^ 31 by decide) ?_
      obtain ⟨I10, hI10, h⟩ := am_lt_some h
      refine am_st10 hI10 ?_
      refine am_aload_n dX11_deliver_67 rfl ?_
      refine am_get (v := .inr (0, 95)) dX11_deliver_68 fl_11_105 (hG.m0 (by decide)) rfl ?_
      refine am_iload dX11_deliver_71 rfl ?_
      refine am_iconst (v := (-1 : Int32)) dX11_deliver_73 (by decide) ?_
      obtain ⟨g11, h⟩ := am_gd_some h
      refine am_iastG dX11_deliver_74 (hG.m0 (by decide)) rfl g11 (show 544 < 2 ^ 31 by decide) ?_
      obtain ⟨I12, hI12, h⟩ := am_lt_some h
      refine am_st10 hI12 ?_
      refine am_aload_n dX11_deliver_75 rfl ?_
      refine am_iload dX11_deliver_76 rfl ?_
      obtain ⟨q13, hq13, h⟩ := am_bd h
      refine am_callVe (i := 0) (j := 60) (as := [.inl l4]) (rest := []) dX11_deliver_78 lkX11_serve ml_X11_204 imX11_serve seX11_serve rfl rfl (hG.m0 (by decide)) rfl (Nat.le_of_ble_eq_true rfl) rfl (sX11_serve hG hq13) ?_
      refine am_goto (tgt := 157) dX11_deliver_81 rfl ?_
      exact am_lwJ (lo' := [none, none, none, none, none, none, none]) trivial (tX11_deliver_157 hG h)
    | m + 4, hm, _ => exact absurd hm (by omega)
  · rw [if_neg (am_swd (k := 0) hx (by decide) (by decide)), if_neg (am_swd (k := 1) hx (by decide) (by decide)), if_neg (am_swd (k := 2) hx (by decide) (by decide)), if_neg (am_swd (k := 3) hx (by decide) (by decide))] at h
    refine am_tabOut (tgt := 147) dX11_deliver_9 (by omega) rfl ?_
    refine am_aload_n dX11_deliver_147 rfl ?_
    refine am_iload_n dX11_deliver_148 rfl ?_
    refine am_iload_n dX11_deliver_149 rfl ?_
    refine am_iload dX11_deliver_150 rfl ?_
    refine am_iload dX11_deliver_152 rfl ?_
    obtain ⟨q14, hq14, h⟩ := am_bd h
    refine am_callVe (i := 0) (j := 60) (as := [.inl l1, .inl l2, .inl l4, .inl l5]) (rest := []) dX11_deliver_154 lkX11_callBack ml_X11_215 imX11_callBack seX11_callBack rfl rfl (hG.m0 (by decide)) rfl (Nat.le_of_ble_eq_true rfl) rfl (sX11_callBack hG hq14) ?_
    exact am_lwJ (lo' := [none, none, none, none, none, none, none]) trivial (tX11_deliver_157 hG h)
def gX11_deliver (n : Nat) (l1 : Int32) (l2 : Int32) (l3 : Int32) (l4 : Int32) (l5 : Int32) (I : am_I) : Option (am_I) := bX11_deliver_0 n l1 l2 l3 l4 l5 I
theorem sX11_deliver {G : am_G} (hG : am_okM G) {d : Nat} {l1 : Int32} {l2 : Int32} {l3 : Int32} {l4 : Int32} {l5 : Int32} {I : am_I} {r : am_I} (h : gX11_deliver G.2.2.2.1 l1 l2 l3 l4 l5 I = some r) : am_C G (d + 11) mX11_deliver [.inr (0, 60), .inl l1, .inl l2, .inl l3, .inl l4, .inl l5] I (am_E none r) :=
  am_of (by decide +kernel) hG.nd (Nat.le_of_ble_eq_true rfl) (am_lwJ (lo' := [some (.inr (0, 60)), some (.inl l1), some (.inl l2), some (.inl l3), some (.inl l4), some (.inl l5), none]) ⟨rfl, rfl, rfl, rfl, rfl, rfl, trivial⟩ (tX11_deliver_0 hG h))
def bX11_putWords_3 (n : Nat) : Nat → Int32 → Int32 → Int32 → Int32 → am_I → Option (am_I)
  | 0, _, _, _, _, _ => none
  | fu + 1, l1, l2, l3, l4, I => (fun k3 => if l3 ≤ l4 then (some I) else (am_gd (am_inb (l2 + l4) 2304) (am_gd (am_inb (((nI 16) * l1) + l4) 10240) (am_lt (am_up I 0 64 (((nI 16) * l1) + l4).toNatClampNeg (I 0 75 ((l2 + l4).toNatClampNeg))) (fun I3 => k3 l1 l2 l3 (l4 + nI 1) I3))))) (bX11_putWords_3 n fu)
theorem tX11_putWords_3 {G : am_G} (hG : am_okM G) {d : Nat} : ∀ {fu : Nat} {l1 : Int32} {l2 : Int32} {l3 : Int32} {l4 : Int32} {I : am_I} {r : am_I}, bX11_putWords_3 G.2.2.2.1 fu l1 l2 l3 l4 I = some r → am_J G d mX11_putWords am_no (am_E none r) 3 [some (.inr (0, 60)), some (.inl l1), some (.inl l2), some (.inl l3), some (.inl l4)] [] I := by
  intro fu
  induction fu with
  | zero => intro l1 l2 l3 l4 I r h; cases h
  | succ fu ih =>
    intro l1 l2 l3 l4 I r h
    have hk3 : ∀ (l1 : Int32) (l2 : Int32) (l3 : Int32) (l4 : Int32) (I : am_I) (r : am_I), bX11_putWords_3 G.2.2.2.1 fu l1 l2 l3 l4 I = some r → am_J G d mX11_putWords am_no (am_E none r) 3 [some (.inr (0, 60)), some (.inl l1), some (.inl l2), some (.inl l3), some (.inl l4)] [] I := fun l1 l2 l3 l4 I r h => ih h
    unfold bX11_putWords_3 at h
    generalize bX11_putWords_3 G.2.2.2.1 fu = k3 at hk3 h
    dsimp only at h
    refine am_iload dX11_putWords_3 rfl ?_
    refine am_iload_n dX11_putWords_5 rfl ?_
    refine am_icmp_ge (tgt := 36) dX11_putWords_6 rfl (fun c => ?_) (fun c => ?_)
    · rw [if_pos c] at h
      cases h
      exact am_vret dX11_putWords_36 rfl ⟨rfl, rfl⟩
    · rw [if_neg c] at h
      refine am_aload_n dX11_putWords_9 rfl ?_
      refine am_get (v := .inr (0, 64)) dX11_putWords_10 fl_11_7 (hG.m0 (by decide)) rfl ?_
      refine am_bipush (v := nI 16) dX11_putWords_13 (by decide) ?_
      refine am_iload_n dX11_putWords_15 rfl ?_
      refine am_imul dX11_putWords_16 ?_
      refine am_iload dX11_putWords_17 rfl ?_
      refine am_iadd dX11_putWords_19 ?_
      refine am_aload_n dX11_putWords_20 rfl ?_
      refine am_get (v := .inr (0, 75)) dX11_putWords_21 fl_11_45 (hG.m0 (by decide)) rfl ?_
      refine am_iload_n dX11_putWords_24 rfl ?_
      refine am_iload dX11_putWords_25 rfl ?_
      refine am_iadd dX11_putWords_27 ?_
      obtain ⟨g1, h⟩ := am_gd_some h
      refine am_ialdG dX11_putWords_28 (hG.m0 (by decide)) rfl g1 (show 2304 < 2 ^ 31 by decide) ?_
      obtain ⟨g2, h⟩ := am_gd_some h
      refine am_iastG dX11_putWords_29 (hG.m0 (by decide)) rfl g2 (show 10240 < 2 ^ 31 by decide) ?_
      obtain ⟨I3, hI3, h⟩ := am_lt_some h
      refine am_st10 hI3 ?_
      refine am_iinc (v := l4 + nI 1) dX11_putWords_30 rfl rfl ?_
      refine am_goto (tgt := 3) dX11_putWords_33 rfl ?_
      exact am_lwJ (lo' := [some (.inr (0, 60)), some (.inl l1), some (.inl l2), some (.inl l3), some (.inl (l4 + nI 1))]) ⟨rfl, rfl, rfl, rfl, rfl, trivial⟩ (hk3 l1 l2 l3 (l4 + nI 1) _ _ h)
def bX11_putWords_0 (n : Nat) (l1 : Int32) (l2 : Int32) (l3 : Int32) (I : am_I) : Option (am_I) := bX11_putWords_3 n am_fu l1 l2 l3 (nI 0) I
theorem tX11_putWords_0 {G : am_G} (hG : am_okM G) {d : Nat} {l1 : Int32} {l2 : Int32} {l3 : Int32} {I : am_I} {r : am_I} (h : bX11_putWords_0 G.2.2.2.1 l1 l2 l3  I = some r) : am_J G d mX11_putWords am_no (am_E none r) 0 [some (.inr (0, 60)), some (.inl l1), some (.inl l2), some (.inl l3), none] [] I := by
  unfold bX11_putWords_0 at h
  refine am_iconst (v := nI 0) dX11_putWords_0 (by decide) ?_
  refine am_istore dX11_putWords_1 (by decide) ?_
  exact am_lwJ (lo' := [some (.inr (0, 60)), some (.inl l1), some (.inl l2), some (.inl l3), some (.inl (nI 0))]) ⟨rfl, rfl, rfl, rfl, rfl, trivial⟩ (tX11_putWords_3 hG h)
def gX11_putWords (n : Nat) (l1 : Int32) (l2 : Int32) (l3 : Int32) (I : am_I) : Option (am_I) := bX11_putWords_0 n l1 l2 l3 I
theorem sX11_putWords {G : am_G} (hG : am_okM G) {d : Nat} {l1 : Int32} {l2 : Int32} {l3 : Int32} {I : am_I} {r : am_I} (h : gX11_putWords G.2.2.2.1 l1 l2 l3 I = some r) : am_C G d mX11_putWords [.inr (0, 60), .inl l1, .inl l2, .inl l3] I (am_E none r) :=
  am_of (by decide +kernel) hG.nd (Nat.le_of_ble_eq_true rfl) (am_lwJ (lo' := [some (.inr (0, 60)), some (.inl l1), some (.inl l2), some (.inl l3), none]) ⟨rfl, rfl, rfl, rfl, trivial⟩ (tX11_putWords_0 hG h))
def bX11_isCounting_24 (n : Nat) (s0 : Int32) (I : am_I) : Option (Int32 × am_I) := am_gd (am_01 s0) (some (s0, I))
theorem tX11_isCounting_24 {G : am_G} (hG : am_okM G) {d : Nat} {s0 : Int32} {I : am_I} {r : Int32 × am_I} (h : bX11_isCounting_24 G.2.2.2.1 s0  I = some r) : am_J G d mX11_isCounting am_no (am_E (some r.1) r.2) 24 [none, none] [.inl s0] I := by
  unfold bX11_isCounting_24 at h
  obtain ⟨g1, h⟩ := am_gd_some h
  cases h
  exact am_iret dX11_isCounting_24 rfl (am_nz (am_01_of g1)).1 ⟨rfl, rfl⟩
def bX11_isCounting_0 (n : Nat) (l1 : Int32) (I : am_I) : Option (Int32 × am_I) := am_gd (am_inb l1 4) (am_gd (am_inb l1 4) (if (((nI 2) * (I 0 73 l1.toNatClampNeg)) + (nI 1)) = (I 0 72 l1.toNatClampNeg) then (bX11_isCounting_24 n (nI 1) I) else (bX11_isCounting_24 n (nI 0) I)))
theorem tX11_isCounting_0 {G : am_G} (hG : am_okM G) {d : Nat} {l1 : Int32} {I : am_I} {r : Int32 × am_I} (h : bX11_isCounting_0 G.2.2.2.1 l1  I = some r) : am_J G d mX11_isCounting am_no (am_E (some r.1) r.2) 0 [some (.inr (0, 60)), some (.inl l1)] [] I := by
  unfold bX11_isCounting_0 at h
  refine am_iconst (v := nI 2) dX11_isCounting_0 (by decide) ?_
  refine am_aload_n dX11_isCounting_1 rfl ?_
  refine am_get (v := .inr (0, 73)) dX11_isCounting_2 fl_11_39 (hG.m0 (by decide)) rfl ?_
  refine am_iload_n dX11_isCounting_5 rfl ?_
  obtain ⟨g1, h⟩ := am_gd_some h
  refine am_ialdG dX11_isCounting_6 (hG.m0 (by decide)) rfl g1 (show 4 < 2 ^ 31 by decide) ?_
  refine am_imul dX11_isCounting_7 ?_
  refine am_iconst (v := nI 1) dX11_isCounting_8 (by decide) ?_
  refine am_iadd dX11_isCounting_9 ?_
  refine am_aload_n dX11_isCounting_10 rfl ?_
  refine am_get (v := .inr (0, 72)) dX11_isCounting_11 fl_11_36 (hG.m0 (by decide)) rfl ?_
  refine am_iload_n dX11_isCounting_14 rfl ?_
  obtain ⟨g2, h⟩ := am_gd_some h
  refine am_ialdG dX11_isCounting_15 (hG.m0 (by decide)) rfl g2 (show 4 < 2 ^ 31 by decide) ?_
  refine am_icmp_ne (tgt := 23) dX11_isCounting_16 rfl (fun c => ?_) (fun c => ?_)
  · rw [if_neg c] at h
    refine am_iconst (v := nI 0) dX11_isCounting_23 (by decide) ?_
    exact am_lwJ (lo' := [none, none]) trivial (tX11_isCounting_24 hG h)
  · rw [if_pos c] at h
    refine am_iconst (v := nI 1) dX11_isCounting_19 (by decide) ?_
    refine am_goto (tgt := 24) dX11_isCounting_20 rfl ?_
    exact am_lwJ (lo' := [none, none]) trivial (tX11_isCounting_24 hG h)
def gX11_isCounting (n : Nat) (l1 : Int32) (I : am_I) : Option (Int32 × am_I) := bX11_isCounting_0 n l1 I
theorem sX11_isCounting {G : am_G} (hG : am_okM G) {d : Nat} {l1 : Int32} {I : am_I} {r : Int32 × am_I} (h : gX11_isCounting G.2.2.2.1 l1 I = some r) : am_C G d mX11_isCounting [.inr (0, 60), .inl l1] I (am_E (some r.1) r.2) :=
  am_of (by decide +kernel) hG.nd (Nat.le_of_ble_eq_true rfl) (am_lwJ (lo' := [some (.inr (0, 60)), some (.inl l1)]) ⟨rfl, rfl, trivial⟩ (tX11_isCounting_0 hG h))
def bX11_noteSafe_61 (n : Nat) (k2 : Int32 → Int32 → am_I → Option (am_I)) (l1 : Int32) (l2 : Int32) (I : am_I) : Option (am_I) := k2 l1 (l2 + nI 1) I
theorem tX11_noteSafe_61 {G : am_G} (hG : am_okM G) {d : Nat} {k2 : Int32 → Int32 → am_I → Option (am_I)} (hk2 : ∀ (l1 : Int32) (l2 : Int32) (I : am_I) (r : am_I), k2 l1 l2 I = some r → am_J G d mX11_noteSafe am_no (am_E none r) 2 [some (.inr (0, 60)), some (.inl l1), some (.inl l2)] [] I) {l1 : Int32} {l2 : Int32} {I : am_I} {r : am_I} (h : bX11_noteSafe_61 G.2.2.2.1 k2 l1 l2  I = some r) : am_J G d mX11_noteSafe am_no (am_E none r) 61 [some (.inr (0, 60)), some (.inl l1), some (.inl l2)] [] I := by
  unfold bX11_noteSafe_61 at h
  refine am_iinc (v := l2 + nI 1) dX11_noteSafe_61 rfl rfl ?_
  refine am_goto (tgt := 2) dX11_noteSafe_64 rfl ?_
  exact am_lwJ (lo' := [some (.inr (0, 60)), some (.inl l1), some (.inl (l2 + nI 1))]) ⟨rfl, rfl, rfl, trivial⟩ (hk2 l1 (l2 + nI 1) _ _ h)
def bX11_noteSafe_2 (n : Nat) : Nat → Int32 → Int32 → am_I → Option (am_I)
  | 0, _, _, _ => none
  | fu + 1, l1, l2, I => (fun k2 => if (I 0 60 63) ≤ l2 then (some I) else (am_gd (am_inb ((nI 10) * l2) 4000) (if (I 0 125 (((nI 10) * l2).toNatClampNeg)) = l1 then (am_gd (am_inb (((nI 10) * l2) + (nI 9)) 4000) (if (I 0 125 ((((nI 10) * l2) + (nI 9)).toNatClampNeg)) = (nI 1) then (am_gd (am_inb l2 400) (if (I 0 126 l2.toNatClampNeg) = 0 then (bX11_noteSafe_61 n k2 l1 l2 I) else (am_gd (am_inb (((nI 10) * l2) + (nI 9)) 4000) (am_lt (am_up I 0 125 (((nI 10) * l2) + (nI 9)).toNatClampNeg (nI 2)) (fun I5 => bX11_noteSafe_61 n k2 l1 l2 I5))))) else (bX11_noteSafe_61 n k2 l1 l2 I))) else (bX11_noteSafe_61 n k2 l1 l2 I)))) (bX11_noteSafe_2 n fu)
theorem tX11_noteSafe_2 {G : am_G} (hG : am_okM G) {d : Nat} : ∀ {fu : Nat} {l1 : Int32} {l2 : Int32} {I : am_I} {r : am_I}, bX11_noteSafe_2 G.2.2.2.1 fu l1 l2 I = some r → am_J G d mX11_noteSafe am_no (am_E none r) 2 [some (.inr (0, 60)), some (.inl l1), some (.inl l2)] [] I := by
  intro fu
  induction fu with
  | zero => intro l1 l2 I r h; cases h
  | succ fu ih =>
    intro l1 l2 I r h
    have hk2 : ∀ (l1 : Int32) (l2 : Int32) (I : am_I) (r : am_I), bX11_noteSafe_2 G.2.2.2.1 fu l1 l2 I = some r → am_J G d mX11_noteSafe am_no (am_E none r) 2 [some (.inr (0, 60)), some (.inl l1), some (.inl l2)] [] I := fun l1 l2 I r h => ih h
    unfold bX11_noteSafe_2 at h
    generalize bX11_noteSafe_2 G.2.2.2.1 fu = k2 at hk2 h
    dsimp only at h
    refine am_iload_n dX11_noteSafe_2 rfl ?_
    refine am_aload_n dX11_noteSafe_3 rfl ?_
    refine am_get (v := .inl (I 0 60 63)) dX11_noteSafe_4 fl_11_274 (hG.m0 (by decide)) rfl ?_
    refine am_icmp_ge (tgt := 67) dX11_noteSafe_7 rfl (fun c => ?_) (fun c => ?_)
    · rw [if_pos c] at h
      cases h
      exact am_vret dX11_noteSafe_67 rfl ⟨rfl, rfl⟩
    · rw [if_neg c] at h
      refine am_aload_n dX11_noteSafe_10 rfl ?_
      refine am_get (v := .inr (0, 125)) dX11_noteSafe_11 fl_11_156 (hG.m0 (by decide)) rfl ?_
      refine am_bipush (v := nI 10) dX11_noteSafe_14 (by decide) ?_
      refine am_iload_n dX11_noteSafe_16 rfl ?_
      refine am_imul dX11_noteSafe_17 ?_
      obtain ⟨g1, h⟩ := am_gd_some h
      refine am_ialdG dX11_noteSafe_18 (hG.m0 (by decide)) rfl g1 (show 4000 < 2 ^ 31 by decide) ?_
      refine am_iload_n dX11_noteSafe_19 rfl ?_
      refine am_icmp_ne (tgt := 61) dX11_noteSafe_20 rfl (fun c => ?_) (fun c => ?_)
      · rw [if_neg c] at h
        exact am_lwJ (lo' := [some (.inr (0, 60)), some (.inl l1), some (.inl l2)]) ⟨rfl, rfl, rfl, trivial⟩ (tX11_noteSafe_61 hG hk2 h)
      · rw [if_pos c] at h
        refine am_aload_n dX11_noteSafe_23 rfl ?_
        refine am_get (v := .inr (0, 125)) dX11_noteSafe_24 fl_11_156 (hG.m0 (by decide)) rfl ?_
        refine am_bipush (v := nI 10) dX11_noteSafe_27 (by decide) ?_
        refine am_iload_n dX11_noteSafe_29 rfl ?_
        refine am_imul dX11_noteSafe_30 ?_
        refine am_bipush (v := nI 9) dX11_noteSafe_31 (by decide) ?_
        refine am_iadd dX11_noteSafe_33 ?_
        obtain ⟨g2, h⟩ := am_gd_some h
        refine am_ialdG dX11_noteSafe_34 (hG.m0 (by decide)) rfl g2 (show 4000 < 2 ^ 31 by decide) ?_
        refine am_iconst (v := nI 1) dX11_noteSafe_35 (by decide) ?_
        refine am_icmp_ne (tgt := 61) dX11_noteSafe_36 rfl (fun c => ?_) (fun c => ?_)
        · rw [if_neg c] at h
          exact am_lwJ (lo' := [some (.inr (0, 60)), some (.inl l1), some (.inl l2)]) ⟨rfl, rfl, rfl, trivial⟩ (tX11_noteSafe_61 hG hk2 h)
        · rw [if_pos c] at h
          refine am_aload_n dX11_noteSafe_39 rfl ?_
          refine am_get (v := .inr (0, 126)) dX11_noteSafe_40 fl_11_159 (hG.m0 (by decide)) rfl ?_
          refine am_iload_n dX11_noteSafe_43 rfl ?_
          obtain ⟨g3, h⟩ := am_gd_some h
          refine am_zaldG dX11_noteSafe_44 (hG.m0 (by decide)) rfl g3 (show 400 < 2 ^ 31 by decide) ?_
          refine am_if_eq (tgt := 61) dX11_noteSafe_45 rfl (fun c => ?_) (fun c => ?_)
          · rw [if_pos c] at h
            exact am_lwJ (lo' := [some (.inr (0, 60)), some (.inl l1), some (.inl l2)]) ⟨rfl, rfl, rfl, trivial⟩ (tX11_noteSafe_61 hG hk2 h)
          · rw [if_neg c] at h
            refine am_aload_n dX11_noteSafe_48 rfl ?_
            refine am_get (v := .inr (0, 125)) dX11_noteSafe_49 fl_11_156 (hG.m0 (by decide)) rfl ?_
            refine am_bipush (v := nI 10) dX11_noteSafe_52 (by decide) ?_
            refine am_iload_n dX11_noteSafe_54 rfl ?_
            refine am_imul dX11_noteSafe_55 ?_
            refine am_bipush (v := nI 9) dX11_noteSafe_56 (by decide) ?_
            refine am_iadd dX11_noteSafe_58 ?_
            refine am_iconst (v := nI 2) dX11_noteSafe_59 (by decide) ?_
            obtain ⟨g4, h⟩ := am_gd_some h
            refine am_iastG dX11_noteSafe_60 (hG.m0 (by decide)) rfl g4 (show 4000 < 2 ^ 31 by decide) ?_
            obtain ⟨I5, hI5, h⟩ := am_lt_some h
            refine am_st10 hI5 ?_
            exact am_lwJ (lo' := [some (.inr (0, 60)), some (.inl l1), some (.inl l2)]) ⟨rfl, rfl, rfl, trivial⟩ (tX11_noteSafe_61 hG hk2 h)
def bX11_noteSafe_0 (n : Nat) (l1 : Int32) (I : am_I) : Option (am_I) := bX11_noteSafe_2 n am_fu l1 (nI 0) I
theorem tX11_noteSafe_0 {G : am_G} (hG : am_okM G) {d : Nat} {l1 : Int32} {I : am_I} {r : am_I} (h : bX11_noteSafe_0 G.2.2.2.1 l1  I = some r) : am_J G d mX11_noteSafe am_no (am_E none r) 0 [some (.inr (0, 60)), some (.inl l1), none] [] I := by
  unfold bX11_noteSafe_0 at h
  refine am_iconst (v := nI 0) dX11_noteSafe_0 (by decide) ?_
  refine am_istore_n dX11_noteSafe_1 (by decide) ?_
  exact am_lwJ (lo' := [some (.inr (0, 60)), some (.inl l1), some (.inl (nI 0))]) ⟨rfl, rfl, rfl, trivial⟩ (tX11_noteSafe_2 hG h)
def gX11_noteSafe (n : Nat) (l1 : Int32) (I : am_I) : Option (am_I) := bX11_noteSafe_0 n l1 I
theorem sX11_noteSafe {G : am_G} (hG : am_okM G) {d : Nat} {l1 : Int32} {I : am_I} {r : am_I} (h : gX11_noteSafe G.2.2.2.1 l1 I = some r) : am_C G d mX11_noteSafe [.inr (0, 60), .inl l1] I (am_E none r) :=
  am_of (by decide +kernel) hG.nd (Nat.le_of_ble_eq_true rfl) (am_lwJ (lo' := [some (.inr (0, 60)), some (.inl l1), none]) ⟨rfl, rfl, trivial⟩ (tX11_noteSafe_0 hG h))
def bX11_flushOver_133 (n : Nat) (k107 : Int32 → Int32 → am_I → Option (am_I)) (l1 : Int32) (l3 : Int32) (I : am_I) : Option (am_I) := k107 l1 (l3 + nI 1) I
theorem tX11_flushOver_133 {G : am_G} (hG : am_okM G) {d : Nat} {k107 : Int32 → Int32 → am_I → Option (am_I)} (hk107 : ∀ (l1 : Int32) (l3 : Int32) (I : am_I) (r : am_I), k107 l1 l3 I = some r → am_J G (d + 11) mX11_flushOver am_no (am_E none r) 107 [some (.inr (0, 60)), some (.inl l1), none, some (.inl l3)] [] I) {l1 : Int32} {l3 : Int32} {I : am_I} {r : am_I} (h : bX11_flushOver_133 G.2.2.2.1 k107 l1 l3  I = some r) : am_J G (d + 11) mX11_flushOver am_no (am_E none r) 133 [some (.inr (0, 60)), some (.inl l1), none, some (.inl l3)] [] I := by
  unfold bX11_flushOver_133 at h
  refine am_iinc (v := l3 + nI 1) dX11_flushOver_133 rfl rfl ?_
  refine am_goto (tgt := 107) dX11_flushOver_136 rfl ?_
  exact am_lwJ (lo' := [some (.inr (0, 60)), some (.inl l1), none, some (.inl (l3 + nI 1))]) ⟨rfl, rfl, rfl, trivial⟩ (hk107 l1 (l3 + nI 1) _ _ h)
def bX11_flushOver_107 (n : Nat) : Nat → Int32 → Int32 → am_I → Option (am_I)
  | 0, _, _, _ => none
  | fu + 1, l1, l3, I => (fun k107 => if (nI 136) ≤ l3 then ((gX11_goOn n l1 I).bind (fun q1 => some q1)) else ((gX11_at n l1 l3 I).bind (fun q2 => am_gd (am_inb q2.1 544) (if (q2.2 0 80 q2.1.toNatClampNeg) = 0 then (bX11_flushOver_133 n k107 l1 l3 q2.2) else ((gX11_goDown n l1 l3 q2.2).bind (fun q4 => bX11_flushOver_133 n k107 l1 l3 q4)))))) (bX11_flushOver_107 n fu)
theorem tX11_flushOver_107 {G : am_G} (hG : am_okM G) {d : Nat} : ∀ {fu : Nat} {l1 : Int32} {l3 : Int32} {I : am_I} {r : am_I}, bX11_flushOver_107 G.2.2.2.1 fu l1 l3 I = some r → am_J G (d + 11) mX11_flushOver am_no (am_E none r) 107 [some (.inr (0, 60)), some (.inl l1), none, some (.inl l3)] [] I := by
  intro fu
  induction fu with
  | zero => intro l1 l3 I r h; cases h
  | succ fu ih =>
    intro l1 l3 I r h
    have hk107 : ∀ (l1 : Int32) (l3 : Int32) (I : am_I) (r : am_I), bX11_flushOver_107 G.2.2.2.1 fu l1 l3 I = some r → am_J G (d + 11) mX11_flushOver am_no (am_E none r) 107 [some (.inr (0, 60)), some (.inl l1), none, some (.inl l3)] [] I := fun l1 l3 I r h => ih h
    unfold bX11_flushOver_107 at h
    generalize bX11_flushOver_107 G.2.2.2.1 fu = k107 at hk107 h
    dsimp only at h
    refine am_iload_n dX11_flushOver_107 rfl ?_
    refine am_sipush (v := nI 136) dX11_flushOver_108 (by decide) ?_
    refine am_icmp_ge (tgt := 139) dX11_flushOver_111 rfl (fun c => ?_) (fun c => ?_)
    · rw [if_pos c] at h
      refine am_aload_n dX11_flushOver_139 rfl ?_
      refine am_iload_n dX11_flushOver_140 rfl ?_
      obtain ⟨q1, hq1, h⟩ := am_bd h
      refine am_callVe (i := 0) (j := 60) (as := [.inl l1]) (rest := []) dX11_flushOver_141 lkX11_goOn ml_X11_212 imX11_goOn seX11_goOn rfl rfl (hG.m0 (by decide)) rfl (Nat.le_of_ble_eq_true rfl) rfl (sX11_goOn hG hq1) ?_
      cases h
      exact am_vret dX11_flushOver_144 rfl ⟨rfl, rfl⟩
    · rw [if_neg c] at h
      refine am_aload_n dX11_flushOver_114 rfl ?_
      refine am_get (v := .inr (0, 80)) dX11_flushOver_115 fl_11_60 (hG.m0 (by decide)) rfl ?_
      refine am_iload_n dX11_flushOver_118 rfl ?_
      refine am_iload_n dX11_flushOver_119 rfl ?_
      obtain ⟨q2, hq2, h⟩ := am_bd h
      refine am_callSx (as := [.inl l1, .inl l3]) (rest := [.inr (0, 80)]) dX11_flushOver_120 lkX11_at ml_X11_208 isX11_at rfl (Nat.le_of_ble_eq_true rfl) rfl (sX11_at hG hq2) ?_
      obtain ⟨g3, h⟩ := am_gd_some h
      refine am_zaldG dX11_flushOver_123 (hG.m0 (by decide)) rfl g3 (show 544 < 2 ^ 31 by decide) ?_
      refine am_if_eq (tgt := 133) dX11_flushOver_124 rfl (fun c => ?_) (fun c => ?_)
      · rw [if_pos c] at h
        exact am_lwJ (lo' := [some (.inr (0, 60)), some (.inl l1), none, some (.inl l3)]) ⟨rfl, rfl, rfl, trivial⟩ (tX11_flushOver_133 hG hk107 h)
      · rw [if_neg c] at h
        refine am_aload_n dX11_flushOver_127 rfl ?_
        refine am_iload_n dX11_flushOver_128 rfl ?_
        refine am_iload_n dX11_flushOver_129 rfl ?_
        obtain ⟨q4, hq4, h⟩ := am_bd h
        refine am_callVe (i := 0) (j := 60) (as := [.inl l1, .inl l3]) (rest := []) dX11_flushOver_130 lkX11_goDown ml_X11_233 imX11_goDown seX11_goDown rfl rfl (hG.m0 (by decide)) rfl (Nat.le_of_ble_eq_true rfl) rfl (sX11_goDown hG hq4) ?_
        exact am_lwJ (lo' := [some (.inr (0, 60)), some (.inl l1), none, some (.inl l3)]) ⟨rfl, rfl, rfl, trivial⟩ (tX11_flushOver_133 hG hk107 h)
def bX11_flushOver_105 (n : Nat) (l1 : Int32) (I : am_I) : Option (am_I) := bX11_flushOver_107 n am_fu l1 (nI 0) I
theorem tX11_flushOver_105 {G : am_G} (hG : am_okM G) {d : Nat} {l1 : Int32} {I : am_I} {r : am_I} (h : bX11_flushOver_105 G.2.2.2.1 l1  I = some r) : am_J G (d + 11) mX11_flushOver am_no (am_E none r) 105 [some (.inr (0, 60)), some (.inl l1), none, none] [] I := by
  unfold bX11_flushOver_105 at h
  refine am_iconst (v := nI 0) dX11_flushOver_105 (by decide) ?_
  refine am_istore_n dX11_flushOver_106 (by decide) ?_
  exact am_lwJ (lo' := [some (.inr (0, 60)), some (.inl l1), none, some (.inl (nI 0))]) ⟨rfl, rfl, rfl, trivial⟩ (tX11_flushOver_107 hG h)
def bX11_flushOver_79 (n : Nat) (k50 : Int32 → Int32 → Int32 → am_I → Option (am_I)) (l1 : Int32) (l3 : Int32) (s0 : Int32) (I : am_I) : Option (am_I) := k50 l1 s0 (l3 + nI 1) I
theorem tX11_flushOver_79 {G : am_G} (hG : am_okM G) {d : Nat} {k50 : Int32 → Int32 → Int32 → am_I → Option (am_I)} (hk50 : ∀ (l1 : Int32) (l2 : Int32) (l3 : Int32) (I : am_I) (r : am_I), k50 l1 l2 l3 I = some r → am_J G (d + 11) mX11_flushOver am_no (am_E none r) 50 [some (.inr (0, 60)), some (.inl l1), some (.inl l2), some (.inl l3)] [] I) {l1 : Int32} {l3 : Int32} {s0 : Int32} {I : am_I} {r : am_I} (h : bX11_flushOver_79 G.2.2.2.1 k50 l1 l3 s0  I = some r) : am_J G (d + 11) mX11_flushOver am_no (am_E none r) 79 [some (.inr (0, 60)), some (.inl l1), none, some (.inl l3)] [.inl s0] I := by
  unfold bX11_flushOver_79 at h
  refine am_istore_n dX11_flushOver_79 (by decide) ?_
  refine am_iinc (v := l3 + nI 1) dX11_flushOver_80 rfl rfl ?_
  refine am_goto (tgt := 50) dX11_flushOver_83 rfl ?_
  exact am_lwJ (lo' := [some (.inr (0, 60)), some (.inl l1), some (.inl s0), some (.inl (l3 + nI 1))]) ⟨rfl, rfl, rfl, rfl, trivial⟩ (hk50 l1 s0 (l3 + nI 1) _ _ h)
def bX11_flushOver_74 (n : Nat) (k50 : Int32 → Int32 → Int32 → am_I → Option (am_I)) (l1 : Int32) (l3 : Int32) (I : am_I) : Option (am_I) := bX11_flushOver_79 n k50 l1 l3 (nI 1) I
theorem tX11_flushOver_74 {G : am_G} (hG : am_okM G) {d : Nat} {k50 : Int32 → Int32 → Int32 → am_I → Option (am_I)} (hk50 : ∀ (l1 : Int32) (l2 : Int32) (l3 : Int32) (I : am_I) (r : am_I), k50 l1 l2 l3 I = some r → am_J G (d + 11) mX11_flushOver am_no (am_E none r) 50 [some (.inr (0, 60)), some (.inl l1), some (.inl l2), some (.inl l3)] [] I) {l1 : Int32} {l3 : Int32} {I : am_I} {r : am_I} (h : bX11_flushOver_74 G.2.2.2.1 k50 l1 l3  I = some r) : am_J G (d + 11) mX11_flushOver am_no (am_E none r) 74 [some (.inr (0, 60)), some (.inl l1), none, some (.inl l3)] [] I := by
  unfold bX11_flushOver_74 at h
  refine am_iconst (v := nI 1) dX11_flushOver_74 (by decide) ?_
  refine am_goto (tgt := 79) dX11_flushOver_75 rfl ?_
  exact am_lwJ (lo' := [some (.inr (0, 60)), some (.inl l1), none, some (.inl l3)]) ⟨rfl, rfl, rfl, trivial⟩ (tX11_flushOver_79 hG hk50 h)
def bX11_flushOver_50 (n : Nat) : Nat → Int32 → Int32 → Int32 → am_I → Option (am_I)
  | 0, _, _, _, _ => none
  | fu + 1, l1, l2, l3, I => (fun k50 => if (nI 136) ≤ l3 then (am_gd (am_inb l1 4) (if (I 0 70 l1.toNatClampNeg) ≤ 0 then (bX11_flushOver_105 n l1 I) else (if l2 = 0 then (bX11_flushOver_105 n l1 I) else ((gX11_beginFlush n l1 I).bind (fun q2 => some q2))))) else (if l2 = 0 then ((gX11_at n l1 l3 I).bind (fun q3 => am_gd (am_inb q3.1 544) (if (q3.2 0 80 q3.1.toNatClampNeg) = 0 then (bX11_flushOver_79 n k50 l1 l3 (nI 0) q3.2) else (bX11_flushOver_74 n k50 l1 l3 q3.2)))) else (bX11_flushOver_74 n k50 l1 l3 I))) (bX11_flushOver_50 n fu)
theorem tX11_flushOver_50 {G : am_G} (hG : am_okM G) {d : Nat} : ∀ {fu : Nat} {l1 : Int32} {l2 : Int32} {l3 : Int32} {I : am_I} {r : am_I}, bX11_flushOver_50 G.2.2.2.1 fu l1 l2 l3 I = some r → am_J G (d + 11) mX11_flushOver am_no (am_E none r) 50 [some (.inr (0, 60)), some (.inl l1), some (.inl l2), some (.inl l3)] [] I := by
  intro fu
  induction fu with
  | zero => intro l1 l2 l3 I r h; cases h
  | succ fu ih =>
    intro l1 l2 l3 I r h
    have hk50 : ∀ (l1 : Int32) (l2 : Int32) (l3 : Int32) (I : am_I) (r : am_I), bX11_flushOver_50 G.2.2.2.1 fu l1 l2 l3 I = some r → am_J G (d + 11) mX11_flushOver am_no (am_E none r) 50 [some (.inr (0, 60)), some (.inl l1), some (.inl l2), some (.inl l3)] [] I := fun l1 l2 l3 I r h => ih h
    unfold bX11_flushOver_50 at h
    generalize bX11_flushOver_50 G.2.2.2.1 fu = k50 at hk50 h
    dsimp only at h
    refine am_iload_n dX11_flushOver_50 rfl ?_
    refine am_sipush (v := nI 136) dX11_flushOver_51 (by decide) ?_
    refine am_icmp_ge (tgt := 86) dX11_flushOver_54 rfl (fun c => ?_) (fun c => ?_)
    · rw [if_pos c] at h
      refine am_aload_n dX11_flushOver_86 rfl ?_
      refine am_get (v := .inr (0, 70)) dX11_flushOver_87 fl_11_30 (hG.m0 (by decide)) rfl ?_
      refine am_iload_n dX11_flushOver_90 rfl ?_
      obtain ⟨g1, h⟩ := am_gd_some h
      refine am_ialdG dX11_flushOver_91 (hG.m0 (by decide)) rfl g1 (show 4 < 2 ^ 31 by decide) ?_
      refine am_if_le (tgt := 105) dX11_flushOver_92 rfl (fun c => ?_) (fun c => ?_)
      · rw [if_pos c] at h
        exact am_lwJ (lo' := [some (.inr (0, 60)), some (.inl l1), none, none]) ⟨rfl, rfl, trivial⟩ (tX11_flushOver_105 hG h)
      · rw [if_neg c] at h
        refine am_iload_n dX11_flushOver_95 rfl ?_
        refine am_if_eq (tgt := 105) dX11_flushOver_96 rfl (fun c => ?_) (fun c => ?_)
        · rw [if_pos c] at h
          exact am_lwJ (lo' := [some (.inr (0, 60)), some (.inl l1), none, none]) ⟨rfl, rfl, trivial⟩ (tX11_flushOver_105 hG h)
        · rw [if_neg c] at h
          refine am_aload_n dX11_flushOver_99 rfl ?_
          refine am_iload_n dX11_flushOver_100 rfl ?_
          obtain ⟨q2, hq2, h⟩ := am_bd h
          refine am_callVe (i := 0) (j := 60) (as := [.inl l1]) (rest := []) dX11_flushOver_101 lkX11_beginFlush ml_X11_237 imX11_beginFlush seX11_beginFlush rfl rfl (hG.m0 (by decide)) rfl (Nat.le_of_ble_eq_true rfl) rfl (sX11_beginFlush hG hq2) ?_
          cases h
          exact am_vret dX11_flushOver_104 rfl ⟨rfl, rfl⟩
    · rw [if_neg c] at h
      refine am_iload_n dX11_flushOver_57 rfl ?_
      refine am_if_ne (tgt := 74) dX11_flushOver_58 rfl (fun c => ?_) (fun c => ?_)
      · rw [if_neg c] at h
        exact am_lwJ (lo' := [some (.inr (0, 60)), some (.inl l1), none, some (.inl l3)]) ⟨rfl, rfl, rfl, trivial⟩ (tX11_flushOver_74 hG hk50 h)
      · rw [if_pos c] at h
        refine am_aload_n dX11_flushOver_61 rfl ?_
        refine am_get (v := .inr (0, 80)) dX11_flushOver_62 fl_11_60 (hG.m0 (by decide)) rfl ?_
        refine am_iload_n dX11_flushOver_65 rfl ?_
        refine am_iload_n dX11_flushOver_66 rfl ?_
        obtain ⟨q3, hq3, h⟩ := am_bd h
        refine am_callSx (as := [.inl l1, .inl l3]) (rest := [.inr (0, 80)]) dX11_flushOver_67 lkX11_at ml_X11_208 isX11_at rfl (Nat.le_of_ble_eq_true rfl) rfl (sX11_at hG hq3) ?_
        obtain ⟨g4, h⟩ := am_gd_some h
        refine am_zaldG dX11_flushOver_70 (hG.m0 (by decide)) rfl g4 (show 544 < 2 ^ 31 by decide) ?_
        refine am_if_eq (tgt := 78) dX11_flushOver_71 rfl (fun c => ?_) (fun c => ?_)
        · rw [if_pos c] at h
          refine am_iconst (v := nI 0) dX11_flushOver_78 (by decide) ?_
          exact am_lwJ (lo' := [some (.inr (0, 60)), some (.inl l1), none, some (.inl l3)]) ⟨rfl, rfl, rfl, trivial⟩ (tX11_flushOver_79 hG hk50 h)
        · rw [if_neg c] at h
          exact am_lwJ (lo' := [some (.inr (0, 60)), some (.inl l1), none, some (.inl l3)]) ⟨rfl, rfl, rfl, trivial⟩ (tX11_flushOver_74 hG hk50 h)
def bX11_flushOver_47 (n : Nat) (l1 : Int32) (s0 : Int32) (I : am_I) : Option (am_I) := bX11_flushOver_50 n am_fu l1 s0 (nI 0) I
theorem tX11_flushOver_47 {G : am_G} (hG : am_okM G) {d : Nat} {l1 : Int32} {s0 : Int32} {I : am_I} {r : am_I} (h : bX11_flushOver_47 G.2.2.2.1 l1 s0  I = some r) : am_J G (d + 11) mX11_flushOver am_no (am_E none r) 47 [some (.inr (0, 60)), some (.inl l1), none, none] [.inl s0] I := by
  unfold bX11_flushOver_47 at h
  refine am_istore_n dX11_flushOver_47 (by decide) ?_
  refine am_iconst (v := nI 0) dX11_flushOver_48 (by decide) ?_
  refine am_istore_n dX11_flushOver_49 (by decide) ?_
  exact am_lwJ (lo' := [some (.inr (0, 60)), some (.inl l1), some (.inl s0), some (.inl (nI 0))]) ⟨rfl, rfl, rfl, rfl, trivial⟩ (tX11_flushOver_50 hG h)
def bX11_flushOver_46 (n : Nat) (l1 : Int32) (I : am_I) : Option (am_I) := bX11_flushOver_47 n l1 (nI 0) I
theorem tX11_flushOver_46 {G : am_G} (hG : am_okM G) {d : Nat} {l1 : Int32} {I : am_I} {r : am_I} (h : bX11_flushOver_46 G.2.2.2.1 l1  I = some r) : am_J G (d + 11) mX11_flushOver am_no (am_E none r) 46 [some (.inr (0, 60)), some (.inl l1), none, none] [] I := by
  unfold bX11_flushOver_46 at h
  refine am_iconst (v := nI 0) dX11_flushOver_46 (by decide) ?_
  exact am_lwJ (lo' := [some (.inr (0, 60)), some (.inl l1), none, none]) ⟨rfl, rfl, trivial⟩ (tX11_flushOver_47 hG h)
def bX11_flushOver_42 (n : Nat) (l1 : Int32) (I : am_I) : Option (am_I) := bX11_flushOver_47 n l1 (nI 1) I
theorem tX11_flushOver_42 {G : am_G} (hG : am_okM G) {d : Nat} {l1 : Int32} {I : am_I} {r : am_I} (h : bX11_flushOver_42 G.2.2.2.1 l1  I = some r) : am_J G (d + 11) mX11_flushOver am_no (am_E none r) 42 [some (.inr (0, 60)), some (.inl l1), none, none] [] I := by
  unfold bX11_flushOver_42 at h
  refine am_iconst (v := nI 1) dX11_flushOver_42 (by decide) ?_
  refine am_goto (tgt := 47) dX11_flushOver_43 rfl ?_
  exact am_lwJ (lo' := [some (.inr (0, 60)), some (.inl l1), none, none]) ⟨rfl, rfl, trivial⟩ (tX11_flushOver_47 hG h)
def bX11_flushOver_0 (n : Nat) (l1 : Int32) (I : am_I) : Option (am_I) := am_gd (am_inb l1 4) (am_lt (am_up I 0 72 l1.toNatClampNeg (nI 0)) (fun I2 => am_gd (am_inb l1 4) (am_lt (am_up I2 0 73 l1.toNatClampNeg (nI 0)) (fun I4 => (gX11_isCalling n l1 I4).bind (fun q5 => if q5.1 = 0 then (bX11_flushOver_46 n l1 q5.2) else (am_gd (am_inb l1 4) (if (q5.2 0 82 l1.toNatClampNeg) = (nI 10) then (bX11_flushOver_42 n l1 q5.2) else (am_gd (am_inb l1 4) (if (q5.2 0 93 l1.toNatClampNeg) = 0 then (bX11_flushOver_46 n l1 q5.2) else (bX11_flushOver_42 n l1 q5.2))))))))))
theorem tX11_flushOver_0 {G : am_G} (hG : am_okM G) {d : Nat} {l1 : Int32} {I : am_I} {r : am_I} (h : bX11_flushOver_0 G.2.2.2.1 l1  I = some r) : am_J G (d + 11) mX11_flushOver am_no (am_E none r) 0 [some (.inr (0, 60)), some (.inl l1), none, none] [] I := by
  unfold bX11_flushOver_0 at h
  refine am_aload_n dX11_flushOver_0 rfl ?_
  refine am_get (v := .inr (0, 72)) dX11_flushOver_1 fl_11_36 (hG.m0 (by decide)) rfl ?_
  refine am_iload_n dX11_flushOver_4 rfl ?_
  refine am_iconst (v := nI 0) dX11_flushOver_5 (by decide) ?_
  obtain ⟨g1, h⟩ := am_gd_some h
  refine am_iastG dX11_flushOver_6 (hG.m0 (by decide)) rfl g1 (show 4 < 2 ^ 31 by decide) ?_
  obtain ⟨I2, hI2, h⟩ := am_lt_some h
  refine am_st10 hI2 ?_
  refine am_aload_n dX11_flushOver_7 rfl ?_
  refine am_get (v := .inr (0, 73)) dX11_flushOver_8 fl_11_39 (hG.m0 (by decide)) rfl ?_
  refine am_iload_n dX11_flushOver_11 rfl ?_
  refine am_iconst (v := nI 0) dX11_flushOver_12 (by decide) ?_
  obtain ⟨g3, h⟩ := am_gd_some h
  refine am_iastG dX11_flushOver_13 (hG.m0 (by decide)) rfl g3 (show 4 < 2 ^ 31 by decide) ?_
  obtain ⟨I4, hI4, h⟩ := am_lt_some h
  refine am_st10 hI4 ?_
  refine am_aload_n dX11_flushOver_14 rfl ?_
  refine am_iload_n dX11_flushOver_15 rfl ?_
  obtain ⟨q5, hq5, h⟩ := am_bd h
  refine am_callVx (i := 0) (j := 60) (as := [.inl l1]) (rest := []) dX11_flushOver_16 lkX11_isCalling ml_X11_264 imX11_isCalling seX11_isCalling rfl rfl (hG.m0 (by decide)) rfl (Nat.le_of_ble_eq_true rfl) rfl (sX11_isCalling hG hq5) ?_
  refine am_if_eq (tgt := 46) dX11_flushOver_19 rfl (fun c => ?_) (fun c => ?_)
  · rw [if_pos c] at h
    exact am_lwJ (lo' := [some (.inr (0, 60)), some (.inl l1), none, none]) ⟨rfl, rfl, trivial⟩ (tX11_flushOver_46 hG h)
  · rw [if_neg c] at h
    refine am_aload_n dX11_flushOver_22 rfl ?_
    refine am_get (v := .inr (0, 82)) dX11_flushOver_23 fl_11_66 (hG.m0 (by decide)) rfl ?_
    refine am_iload_n dX11_flushOver_26 rfl ?_
    obtain ⟨g6, h⟩ := am_gd_some h
    refine am_ialdG dX11_flushOver_27 (hG.m0 (by decide)) rfl g6 (show 4 < 2 ^ 31 by decide) ?_
    refine am_bipush (v := nI 10) dX11_flushOver_28 (by decide) ?_
    refine am_icmp_eq (tgt := 42) dX11_flushOver_30 rfl (fun c => ?_) (fun c => ?_)
    · rw [if_pos c] at h
      exact am_lwJ (lo' := [some (.inr (0, 60)), some (.inl l1), none, none]) ⟨rfl, rfl, trivial⟩ (tX11_flushOver_42 hG h)
    · rw [if_neg c] at h
      refine am_aload_n dX11_flushOver_33 rfl ?_
      refine am_get (v := .inr (0, 93)) dX11_flushOver_34 fl_11_99 (hG.m0 (by decide)) rfl ?_
      refine am_iload_n dX11_flushOver_37 rfl ?_
      obtain ⟨g7, h⟩ := am_gd_some h
      refine am_zaldG dX11_flushOver_38 (hG.m0 (by decide)) rfl g7 (show 4 < 2 ^ 31 by decide) ?_
      refine am_if_eq (tgt := 46) dX11_flushOver_39 rfl (fun c => ?_) (fun c => ?_)
      · rw [if_pos c] at h
        exact am_lwJ (lo' := [some (.inr (0, 60)), some (.inl l1), none, none]) ⟨rfl, rfl, trivial⟩ (tX11_flushOver_46 hG h)
      · rw [if_neg c] at h
        exact am_lwJ (lo' := [some (.inr (0, 60)), some (.inl l1), none, none]) ⟨rfl, rfl, trivial⟩ (tX11_flushOver_42 hG h)
def gX11_flushOver (n : Nat) (l1 : Int32) (I : am_I) : Option (am_I) := bX11_flushOver_0 n l1 I
theorem sX11_flushOver {G : am_G} (hG : am_okM G) {d : Nat} {l1 : Int32} {I : am_I} {r : am_I} (h : gX11_flushOver G.2.2.2.1 l1 I = some r) : am_C G (d + 11) mX11_flushOver [.inr (0, 60), .inl l1] I (am_E none r) :=
  am_of (by decide +kernel) hG.nd (Nat.le_of_ble_eq_true rfl) (am_lwJ (lo' := [some (.inr (0, 60)), some (.inl l1), none, none]) ⟨rfl, rfl, trivial⟩ (tX11_flushOver_0 hG h))
def bX11_oneTick_209 (n : Nat) (k99 : Int32 → am_I → Option (am_I)) (l2 : Int32) (I : am_I) : Option (am_I) := k99 (l2 + nI 1) I
theorem tX11_oneTick_209 {G : am_G} (hG : am_okM G) {d : Nat} {k99 : Int32 → am_I → Option (am_I)} (hk99 : ∀ (l2 : Int32) (I : am_I) (r : am_I), k99 l2 I = some r → am_J G (d + 12) mX11_oneTick am_no (am_E none r) 99 [some (.inr (0, 60)), none, some (.inl l2), none, none, none, none] [] I) {l2 : Int32} {I : am_I} {r : am_I} (h : bX11_oneTick_209 G.2.2.2.1 k99 l2  I = some r) : am_J G (d + 12) mX11_oneTick am_no (am_E none r) 209 [some (.inr (0, 60)), none, some (.inl l2), none, none, none, none] [] I := by
  unfold bX11_oneTick_209 at h
  refine am_iinc (v := l2 + nI 1) dX11_oneTick_209 rfl rfl ?_
  refine am_goto (tgt := 99) dX11_oneTick_212 rfl ?_
  exact am_lwJ (lo' := [some (.inr (0, 60)), none, some (.inl (l2 + nI 1)), none, none, none, none]) ⟨rfl, rfl, trivial⟩ (hk99 (l2 + nI 1) _ _ h)
def bX11_oneTick_179 (n : Nat) (k99 : Int32 → am_I → Option (am_I)) (l2 : Int32) (I : am_I) : Option (am_I) := am_gd (am_inb l2 4) (am_gd (am_inb l2 4) (am_lt (am_up I 0 73 l2.toNatClampNeg ((I 0 73 l2.toNatClampNeg) + (nI 1))) (fun I3 => am_gd (am_inb l2 4) (am_gd (am_inb l2 4) (if (I3 0 73 l2.toNatClampNeg) = (I3 0 72 l2.toNatClampNeg) then ((gX11_flushOver n l2 I3).bind (fun q6 => bX11_oneTick_209 n k99 l2 q6)) else (bX11_oneTick_209 n k99 l2 I3))))))
theorem tX11_oneTick_179 {G : am_G} (hG : am_okM G) {d : Nat} {k99 : Int32 → am_I → Option (am_I)} (hk99 : ∀ (l2 : Int32) (I : am_I) (r : am_I), k99 l2 I = some r → am_J G (d + 12) mX11_oneTick am_no (am_E none r) 99 [some (.inr (0, 60)), none, some (.inl l2), none, none, none, none] [] I) {l2 : Int32} {I : am_I} {r : am_I} (h : bX11_oneTick_179 G.2.2.2.1 k99 l2  I = some r) : am_J G (d + 12) mX11_oneTick am_no (am_E none r) 179 [some (.inr (0, 60)), none, some (.inl l2), none, none, none, none] [] I := by
  unfold bX11_oneTick_179 at h
  refine am_aload_n dX11_oneTick_179 rfl ?_
  refine am_get (v := .inr (0, 73)) dX11_oneTick_180 fl_11_39 (hG.m0 (by decide)) rfl ?_
  refine am_iload_n dX11_oneTick_183 rfl ?_
  refine am_dup2 dX11_oneTick_184 ?_
  obtain ⟨g1, h⟩ := am_gd_some h
  refine am_ialdG dX11_oneTick_185 (hG.m0 (by decide)) rfl g1 (show 4 < 2 ^ 31 by decide) ?_
  refine am_iconst (v := nI 1) dX11_oneTick_186 (by decide) ?_
  refine am_iadd dX11_oneTick_187 ?_
  obtain ⟨g2, h⟩ := am_gd_some h
  refine am_iastG dX11_oneTick_188 (hG.m0 (by decide)) rfl g2 (show 4 < 2 ^ 31 by decide) ?_
  obtain ⟨I3, hI3, h⟩ := am_lt_some h
  refine am_st10 hI3 ?_
  refine am_aload_n dX11_oneTick_189 rfl ?_
  refine am_get (v := .inr (0, 73)) dX11_oneTick_190 fl_11_39 (hG.m0 (by decide)) rfl ?_
  refine am_iload_n dX11_oneTick_193 rfl ?_
  obtain ⟨g4, h⟩ := am_gd_some h
  refine am_ialdG dX11_oneTick_194 (hG.m0 (by decide)) rfl g4 (show 4 < 2 ^ 31 by decide) ?_
  refine am_aload_n dX11_oneTick_195 rfl ?_
  refine am_get (v := .inr (0, 72)) dX11_oneTick_196 fl_11_36 (hG.m0 (by decide)) rfl ?_
  refine am_iload_n dX11_oneTick_199 rfl ?_
  obtain ⟨g5, h⟩ := am_gd_some h
  refine am_ialdG dX11_oneTick_200 (hG.m0 (by decide)) rfl g5 (show 4 < 2 ^ 31 by decide) ?_
  refine am_icmp_ne (tgt := 209) dX11_oneTick_201 rfl (fun c => ?_) (fun c => ?_)
  · rw [if_neg c] at h
    exact am_lwJ (lo' := [some (.inr (0, 60)), none, some (.inl l2), none, none, none, none]) ⟨rfl, rfl, trivial⟩ (tX11_oneTick_209 hG hk99 h)
  · rw [if_pos c] at h
    refine am_aload_n dX11_oneTick_204 rfl ?_
    refine am_iload_n dX11_oneTick_205 rfl ?_
    obtain ⟨q6, hq6, h⟩ := am_bd h
    refine am_callVe (i := 0) (j := 60) (as := [.inl l2]) (rest := []) dX11_oneTick_206 lkX11_flushOver ml_X11_463 imX11_flushOver seX11_flushOver rfl rfl (hG.m0 (by decide)) rfl (Nat.le_of_ble_eq_true rfl) rfl (sX11_flushOver hG hq6) ?_
    exact am_lwJ (lo' := [some (.inr (0, 60)), none, some (.inl l2), none, none, none, none]) ⟨rfl, rfl, trivial⟩ (tX11_oneTick_209 hG hk99 h)
def bX11_oneTick_99 (n : Nat) : Nat → Int32 → am_I → Option (am_I)
  | 0, _, _ => none
  | fu + 1, l2, I => (fun k99 => if (I 0 60 1) ≤ l2 then (some I) else (am_gd (am_inb l2 4) (if (I 0 65 l2.toNatClampNeg) = 0 then (bX11_oneTick_209 n k99 l2 I) else (am_gd (am_inb l2 4) (if (I 0 72 l2.toNatClampNeg) = 0 then (bX11_oneTick_209 n k99 l2 I) else (am_gd (am_inb l2 4) (am_gd (am_inb (((nI 36) * l2) + (I 0 73 l2.toNatClampNeg)) 144) ((gX11_putWords n (I 0 74 ((((nI 36) * l2) + (I 0 73 l2.toNatClampNeg)).toNatClampNeg)) ((nI 16) * (((nI 36) * l2) + (I 0 73 l2.toNatClampNeg))) (nI 16) I).bind (fun q5 => am_lt (am_up q5 0 60 48 ((q5 0 60 48) + (nI 1))) (fun I6 => (gX11_isCounting n l2 I6).bind (fun q7 => if q7.1 = 0 then (bX11_oneTick_179 n k99 l2 q7.2) else ((gX11_noteSafe n l2 q7.2).bind (fun q8 => bX11_oneTick_179 n k99 l2 q8))))))))))))) (bX11_oneTick_99 n fu)
theorem tX11_oneTick_99 {G : am_G} (hG : am_okM G) {d : Nat} : ∀ {fu : Nat} {l2 : Int32} {I : am_I} {r : am_I}, bX11_oneTick_99 G.2.2.2.1 fu l2 I = some r → am_J G (d + 12) mX11_oneTick am_no (am_E none r) 99 [some (.inr (0, 60)), none, some (.inl l2), none, none, none, none] [] I := by
  intro fu
  induction fu with
  | zero => intro l2 I r h; cases h
  | succ fu ih =>
    intro l2 I r h
    have hk99 : ∀ (l2 : Int32) (I : am_I) (r : am_I), bX11_oneTick_99 G.2.2.2.1 fu l2 I = some r → am_J G (d + 12) mX11_oneTick am_no (am_E none r) 99 [some (.inr (0, 60)), none, some (.inl l2), none, none, none, none] [] I := fun l2 I r h => ih h
    unfold bX11_oneTick_99 at h
    generalize bX11_oneTick_99 G.2.2.2.1 fu = k99 at hk99 h
    dsimp only at h
    refine am_iload_n dX11_oneTick_99 rfl ?_
    refine am_aload_n dX11_oneTick_100 rfl ?_
    refine am_get (v := .inl (I 0 60 1)) dX11_oneTick_101 fl_11_177 (hG.m0 (by decide)) rfl ?_
    refine am_icmp_ge (tgt := 215) dX11_oneTick_104 rfl (fun c => ?_) (fun c => ?_)
    · rw [if_pos c] at h
      cases h
      exact am_vret dX11_oneTick_215 rfl ⟨rfl, rfl⟩
    · rw [if_neg c] at h
      refine am_aload_n dX11_oneTick_107 rfl ?_
      refine am_get (v := .inr (0, 65)) dX11_oneTick_108 fl_11_13 (hG.m0 (by decide)) rfl ?_
      refine am_iload_n dX11_oneTick_111 rfl ?_
      obtain ⟨g1, h⟩ := am_gd_some h
      refine am_zaldG dX11_oneTick_112 (hG.m0 (by decide)) rfl g1 (show 4 < 2 ^ 31 by decide) ?_
      refine am_if_eq (tgt := 209) dX11_oneTick_113 rfl (fun c => ?_) (fun c => ?_)
      · rw [if_pos c] at h
        exact am_lwJ (lo' := [some (.inr (0, 60)), none, some (.inl l2), none, none, none, none]) ⟨rfl, rfl, trivial⟩ (tX11_oneTick_209 hG hk99 h)
      · rw [if_neg c] at h
        refine am_aload_n dX11_oneTick_116 rfl ?_
        refine am_get (v := .inr (0, 72)) dX11_oneTick_117 fl_11_36 (hG.m0 (by decide)) rfl ?_
        refine am_iload_n dX11_oneTick_120 rfl ?_
        obtain ⟨g2, h⟩ := am_gd_some h
        refine am_ialdG dX11_oneTick_121 (hG.m0 (by decide)) rfl g2 (show 4 < 2 ^ 31 by decide) ?_
        refine am_if_ne (tgt := 128) dX11_oneTick_122 rfl (fun c => ?_) (fun c => ?_)
        · rw [if_neg c] at h
          refine am_bipush (v := nI 36) dX11_oneTick_128 (by decide) ?_
          refine am_iload_n dX11_oneTick_130 rfl ?_
          refine am_imul dX11_oneTick_131 ?_
          refine am_aload_n dX11_oneTick_132 rfl ?_
          refine am_get (v := .inr (0, 73)) dX11_oneTick_133 fl_11_39 (hG.m0 (by decide)) rfl ?_
          refine am_iload_n dX11_oneTick_136 rfl ?_
          obtain ⟨g3, h⟩ := am_gd_some h
          refine am_ialdG dX11_oneTick_137 (hG.m0 (by decide)) rfl g3 (show 4 < 2 ^ 31 by decide) ?_
          refine am_iadd dX11_oneTick_138 ?_
          refine am_istore_n dX11_oneTick_139 (by decide) ?_
          refine am_aload_n dX11_oneTick_140 rfl ?_
          refine am_aload_n dX11_oneTick_141 rfl ?_
          refine am_get (v := .inr (0, 74)) dX11_oneTick_142 fl_11_42 (hG.m0 (by decide)) rfl ?_
          refine am_iload_n dX11_oneTick_145 rfl ?_
          obtain ⟨g4, h⟩ := am_gd_some h
          refine am_ialdG dX11_oneTick_146 (hG.m0 (by decide)) rfl g4 (show 144 < 2 ^ 31 by decide) ?_
          refine am_bipush (v := nI 16) dX11_oneTick_147 (by decide) ?_
          refine am_iload_n dX11_oneTick_149 rfl ?_
          refine am_imul dX11_oneTick_150 ?_
          refine am_bipush (v := nI 16) dX11_oneTick_151 (by decide) ?_
          obtain ⟨q5, hq5, h⟩ := am_bd h
          refine am_callVe (i := 0) (j := 60) (as := [.inl (I 0 74 ((((nI 36) * l2) + (I 0 73 l2.toNatClampNeg)).toNatClampNeg)), .inl ((nI 16) * (((nI 36) * l2) + (I 0 73 l2.toNatClampNeg))), .inl (nI 16)]) (rest := []) dX11_oneTick_153 lkX11_putWords ml_X11_451 imX11_putWords seX11_putWords rfl rfl (hG.m0 (by decide)) rfl (Nat.le_of_ble_eq_true rfl) rfl (sX11_putWords hG hq5) ?_
          refine am_aload_n dX11_oneTick_156 rfl ?_
          refine am_dup dX11_oneTick_157 ?_
          refine am_get (v := .inl (q5 0 60 48)) dX11_oneTick_158 fl_11_454 (hG.m0 (by decide)) rfl ?_
          refine am_iconst (v := nI 1) dX11_oneTick_161 (by decide) ?_
          refine am_iadd dX11_oneTick_162 ?_
          refine am_put (x := (q5 0 60 48) + (nI 1)) dX11_oneTick_163 fp_11_454 (hG.m0 (by decide)) (Nat.le_of_ble_eq_true rfl) rfl ?_
          obtain ⟨I6, hI6, h⟩ := am_lt_some h
          refine am_st10 hI6 ?_
          refine am_aload_n dX11_oneTick_166 rfl ?_
          refine am_iload_n dX11_oneTick_167 rfl ?_
          obtain ⟨q7, hq7, h⟩ := am_bd h
          refine am_callVx (i := 0) (j := 60) (as := [.inl l2]) (rest := []) dX11_oneTick_168 lkX11_isCounting ml_X11_457 imX11_isCounting seX11_isCounting rfl rfl (hG.m0 (by decide)) rfl (Nat.le_of_ble_eq_true rfl) rfl (sX11_isCounting hG hq7) ?_
          refine am_if_eq (tgt := 179) dX11_oneTick_171 rfl (fun c => ?_) (fun c => ?_)
          · rw [if_pos c] at h
            exact am_lwJ (lo' := [some (.inr (0, 60)), none, some (.inl l2), none, none, none, none]) ⟨rfl, rfl, trivial⟩ (tX11_oneTick_179 hG hk99 h)
          · rw [if_neg c] at h
            refine am_aload_n dX11_oneTick_174 rfl ?_
            refine am_iload_n dX11_oneTick_175 rfl ?_
            obtain ⟨q8, hq8, h⟩ := am_bd h
            refine am_callVe (i := 0) (j := 60) (as := [.inl l2]) (rest := []) dX11_oneTick_176 lkX11_noteSafe ml_X11_460 imX11_noteSafe seX11_noteSafe rfl rfl (hG.m0 (by decide)) rfl (Nat.le_of_ble_eq_true rfl) rfl (sX11_noteSafe hG hq8) ?_
            exact am_lwJ (lo' := [some (.inr (0, 60)), none, some (.inl l2), none, none, none, none]) ⟨rfl, rfl, trivial⟩ (tX11_oneTick_179 hG hk99 h)
        · rw [if_pos c] at h
          refine am_goto (tgt := 209) dX11_oneTick_125 rfl ?_
          exact am_lwJ (lo' := [some (.inr (0, 60)), none, some (.inl l2), none, none, none, none]) ⟨rfl, rfl, trivial⟩ (tX11_oneTick_209 hG hk99 h)
def bX11_oneTick_12 (n : Nat) : Nat → Int32 → am_I → Option (am_I)
  | 0, _, _ => none
  | fu + 1, l1, I => (fun k12 => if (I 0 60 38) ≤ l1 then (bX11_oneTick_99 n am_fu (nI 0) I) else (am_gd (am_inb l1 4096) (if (I 0 106 l1.toNatClampNeg) ≤ (I 0 60 2) then (am_gd (am_inb l1 4096) (am_gd (am_inb l1 4096) (am_gd (am_inb l1 4096) (am_gd (am_inb l1 4096) (am_gd (am_inb l1 4096) ((gX11_removeMessage n l1 I).bind (fun q7 => (gX11_deliver n (I 0 101 l1.toNatClampNeg) (I 0 102 l1.toNatClampNeg) (I 0 103 l1.toNatClampNeg) (I 0 104 l1.toNatClampNeg) (I 0 105 l1.toNatClampNeg) q7).bind (fun q8 => k12 l1 q8)))))))) else (k12 (l1 + nI 1) I)))) (bX11_oneTick_12 n fu)
theorem tX11_oneTick_12 {G : am_G} (hG : am_okM G) {d : Nat} : ∀ {fu : Nat} {l1 : Int32} {I : am_I} {r : am_I}, bX11_oneTick_12 G.2.2.2.1 fu l1 I = some r → am_J G (d + 12) mX11_oneTick am_no (am_E none r) 12 [some (.inr (0, 60)), some (.inl l1), none, none, none, none, none] [] I := by
  intro fu
  induction fu with
  | zero => intro l1 I r h; cases h
  | succ fu ih =>
    intro l1 I r h
    have hk12 : ∀ (l1 : Int32) (I : am_I) (r : am_I), bX11_oneTick_12 G.2.2.2.1 fu l1 I = some r → am_J G (d + 12) mX11_oneTick am_no (am_E none r) 12 [some (.inr (0, 60)), some (.inl l1), none, none, none, none, none] [] I := fun l1 I r h => ih h
    unfold bX11_oneTick_12 at h
    generalize bX11_oneTick_12 G.2.2.2.1 fu = k12 at hk12 h
    dsimp only at h
    refine am_iload_n dX11_oneTick_12 rfl ?_
    refine am_aload_n dX11_oneTick_13 rfl ?_
    refine am_get (v := .inl (I 0 60 38)) dX11_oneTick_14 fl_11_197 (hG.m0 (by decide)) rfl ?_
    refine am_icmp_ge (tgt := 97) dX11_oneTick_17 rfl (fun c => ?_) (fun c => ?_)
    · rw [if_pos c] at h
      refine am_iconst (v := nI 0) dX11_oneTick_97 (by decide) ?_
      refine am_istore_n dX11_oneTick_98 (by decide) ?_
      exact am_lwJ (lo' := [some (.inr (0, 60)), none, some (.inl (nI 0)), none, none, none, none]) ⟨rfl, rfl, trivial⟩ (tX11_oneTick_99 hG h)
    · rw [if_neg c] at h
      refine am_aload_n dX11_oneTick_20 rfl ?_
      refine am_get (v := .inr (0, 106)) dX11_oneTick_21 fl_11_132 (hG.m0 (by decide)) rfl ?_
      refine am_iload_n dX11_oneTick_24 rfl ?_
      obtain ⟨g1, h⟩ := am_gd_some h
      refine am_ialdG dX11_oneTick_25 (hG.m0 (by decide)) rfl g1 (show 4096 < 2 ^ 31 by decide) ?_
      refine am_aload_n dX11_oneTick_26 rfl ?_
      refine am_get (v := .inl (I 0 60 2)) dX11_oneTick_27 fl_11_194 (hG.m0 (by decide)) rfl ?_
      refine am_icmp_le (tgt := 39) dX11_oneTick_30 rfl (fun c => ?_) (fun c => ?_)
      · rw [if_pos c] at h
        refine am_aload_n dX11_oneTick_39 rfl ?_
        refine am_get (v := .inr (0, 101)) dX11_oneTick_40 fl_11_117 (hG.m0 (by decide)) rfl ?_
        refine am_iload_n dX11_oneTick_43 rfl ?_
        obtain ⟨g2, h⟩ := am_gd_some h
        refine am_ialdG dX11_oneTick_44 (hG.m0 (by decide)) rfl g2 (show 4096 < 2 ^ 31 by decide) ?_
        refine am_istore_n dX11_oneTick_45 (by decide) ?_
        refine am_aload_n dX11_oneTick_46 rfl ?_
        refine am_get (v := .inr (0, 102)) dX11_oneTick_47 fl_11_120 (hG.m0 (by decide)) rfl ?_
        refine am_iload_n dX11_oneTick_50 rfl ?_
        obtain ⟨g3, h⟩ := am_gd_some h
        refine am_ialdG dX11_oneTick_51 (hG.m0 (by decide)) rfl g3 (show 4096 < 2 ^ 31 by decide) ?_
        refine am_istore_n dX11_oneTick_52 (by decide) ?_
        refine am_aload_n dX11_oneTick_53 rfl ?_
        refine am_get (v := .inr (0, 103)) dX11_oneTick_54 fl_11_123 (hG.m0 (by decide)) rfl ?_
        refine am_iload_n dX11_oneTick_57 rfl ?_
        obtain ⟨g4, h⟩ := am_gd_some h
        refine am_ialdG dX11_oneTick_58 (hG.m0 (by decide)) rfl g4 (show 4096 < 2 ^ 31 by decide) ?_
        refine am_istore dX11_oneTick_59 (by decide) ?_
        refine am_aload_n dX11_oneTick_61 rfl ?_
        refine am_get (v := .inr (0, 104)) dX11_oneTick_62 fl_11_126 (hG.m0 (by decide)) rfl ?_
        refine am_iload_n dX11_oneTick_65 rfl ?_
        obtain ⟨g5, h⟩ := am_gd_some h
        refine am_ialdG dX11_oneTick_66 (hG.m0 (by decide)) rfl g5 (show 4096 < 2 ^ 31 by decide) ?_
        refine am_istore dX11_oneTick_67 (by decide) ?_
        refine am_aload_n dX11_oneTick_69 rfl ?_
        refine am_get (v := .inr (0, 105)) dX11_oneTick_70 fl_11_129 (hG.m0 (by decide)) rfl ?_
        refine am_iload_n dX11_oneTick_73 rfl ?_
        obtain ⟨g6, h⟩ := am_gd_some h
        refine am_ialdG dX11_oneTick_74 (hG.m0 (by decide)) rfl g6 (show 4096 < 2 ^ 31 by decide) ?_
        refine am_istore dX11_oneTick_75 (by decide) ?_
        refine am_aload_n dX11_oneTick_77 rfl ?_
        refine am_iload_n dX11_oneTick_78 rfl ?_
        obtain ⟨q7, hq7, h⟩ := am_bd h
        refine am_callVe (i := 0) (j := 60) (as := [.inl l1]) (rest := []) dX11_oneTick_79 lkX11_removeMessage ml_X11_445 imX11_removeMessage seX11_removeMessage rfl rfl (hG.m0 (by decide)) rfl (Nat.le_of_ble_eq_true rfl) rfl (sX11_removeMessage hG hq7) ?_
        refine am_aload_n dX11_oneTick_82 rfl ?_
        refine am_iload_n dX11_oneTick_83 rfl ?_
        refine am_iload_n dX11_oneTick_84 rfl ?_
        refine am_iload dX11_oneTick_85 rfl ?_
        refine am_iload dX11_oneTick_87 rfl ?_
        refine am_iload dX11_oneTick_89 rfl ?_
        obtain ⟨q8, hq8, h⟩ := am_bd h
        refine am_callVe (i := 0) (j := 60) (as := [.inl (I 0 101 l1.toNatClampNeg), .inl (I 0 102 l1.toNatClampNeg), .inl (I 0 103 l1.toNatClampNeg), .inl (I 0 104 l1.toNatClampNeg), .inl (I 0 105 l1.toNatClampNeg)]) (rest := []) dX11_oneTick_91 lkX11_deliver ml_X11_448 imX11_deliver seX11_deliver rfl rfl (hG.m0 (by decide)) rfl (Nat.le_of_ble_eq_true rfl) rfl (sX11_deliver hG hq8) ?_
        refine am_goto (tgt := 12) dX11_oneTick_94 rfl ?_
        exact am_lwJ (lo' := [some (.inr (0, 60)), some (.inl l1), none, none, none, none, none]) ⟨rfl, rfl, trivial⟩ (hk12 l1 _ _ h)
      · rw [if_neg c] at h
        refine am_iinc (v := l1 + nI 1) dX11_oneTick_33 rfl rfl ?_
        refine am_goto (tgt := 12) dX11_oneTick_36 rfl ?_
        exact am_lwJ (lo' := [some (.inr (0, 60)), some (.inl (l1 + nI 1)), none, none, none, none, none]) ⟨rfl, rfl, trivial⟩ (hk12 (l1 + nI 1) _ _ h)
def bX11_oneTick_0 (n : Nat) (I : am_I) : Option (am_I) := am_lt (am_up I 0 60 2 ((I 0 60 2) + (nI 1))) (fun I1 => bX11_oneTick_12 n am_fu (nI 0) I1)
theorem tX11_oneTick_0 {G : am_G} (hG : am_okM G) {d : Nat} {I : am_I} {r : am_I} (h : bX11_oneTick_0 G.2.2.2.1  I = some r) : am_J G (d + 12) mX11_oneTick am_no (am_E none r) 0 [some (.inr (0, 60)), none, none, none, none, none, none] [] I := by
  unfold bX11_oneTick_0 at h
  refine am_aload_n dX11_oneTick_0 rfl ?_
  refine am_dup dX11_oneTick_1 ?_
  refine am_get (v := .inl (I 0 60 2)) dX11_oneTick_2 fl_11_194 (hG.m0 (by decide)) rfl ?_
  refine am_iconst (v := nI 1) dX11_oneTick_5 (by decide) ?_
  refine am_iadd dX11_oneTick_6 ?_
  refine am_put (x := (I 0 60 2) + (nI 1)) dX11_oneTick_7 fp_11_194 (hG.m0 (by decide)) (Nat.le_of_ble_eq_true rfl) rfl ?_
  obtain ⟨I1, hI1, h⟩ := am_lt_some h
  refine am_st10 hI1 ?_
  refine am_iconst (v := nI 0) dX11_oneTick_10 (by decide) ?_
  refine am_istore_n dX11_oneTick_11 (by decide) ?_
  exact am_lwJ (lo' := [some (.inr (0, 60)), some (.inl (nI 0)), none, none, none, none, none]) ⟨rfl, rfl, trivial⟩ (tX11_oneTick_12 hG h)
def gX11_oneTick (n : Nat) (I : am_I) : Option (am_I) := bX11_oneTick_0 n I
theorem sX11_oneTick {G : am_G} (hG : am_okM G) {d : Nat} {I : am_I} {r : am_I} (h : gX11_oneTick G.2.2.2.1 I = some r) : am_C G (d + 12) mX11_oneTick [.inr (0, 60)] I (am_E none r) :=
  am_of (by decide +kernel) hG.nd (Nat.le_of_ble_eq_true rfl) (am_lwJ (lo' := [some (.inr (0, 60)), none, none, none, none, none, none]) ⟨rfl, trivial⟩ (tX11_oneTick_0 hG h))
def bX11_tick_33 (n : Nat) : Nat → Int32 → Int32 → Int32 → am_I → Option (Int32 × am_I)
  | 0, _, _, _, _ => none
  | fu + 1, l1, l2, l3, I => (fun k33 => if l1 ≤ l3 then (some ((I 0 60 49) - l2, I)) else ((gX11_oneTick n I).bind (fun q1 => k33 l1 l2 (l3 + nI 1) q1))) (bX11_tick_33 n fu)
theorem tX11_tick_33 {G : am_G} (hG : am_okM G) {d : Nat} : ∀ {fu : Nat} {l1 : Int32} {l2 : Int32} {l3 : Int32} {I : am_I} {r : Int32 × am_I}, bX11_tick_33 G.2.2.2.1 fu l1 l2 l3 I = some r → am_J G (d + 13) mX11_tick am_no (am_E (some r.1) r.2) 33 [some (.inr (0, 60)), some (.inl l1), some (.inl l2), some (.inl l3)] [] I := by
  intro fu
  induction fu with
  | zero => intro l1 l2 l3 I r h; cases h
  | succ fu ih =>
    intro l1 l2 l3 I r h
    have hk33 : ∀ (l1 : Int32) (l2 : Int32) (l3 : Int32) (I : am_I) (r : Int32 × am_I), bX11_tick_33 G.2.2.2.1 fu l1 l2 l3 I = some r → am_J G (d + 13) mX11_tick am_no (am_E (some r.1) r.2) 33 [some (.inr (0, 60)), some (.inl l1), some (.inl l2), some (.inl l3)] [] I := fun l1 l2 l3 I r h => ih h
    unfold bX11_tick_33 at h
    generalize bX11_tick_33 G.2.2.2.1 fu = k33 at hk33 h
    dsimp only at h
    refine am_iload_n dX11_tick_33 rfl ?_
    refine am_iload_n dX11_tick_34 rfl ?_
    refine am_icmp_ge (tgt := 48) dX11_tick_35 rfl (fun c => ?_) (fun c => ?_)
    · rw [if_pos c] at h
      refine am_aload_n dX11_tick_48 rfl ?_
      refine am_get (v := .inl (I 0 60 49)) dX11_tick_49 fl_11_268 (hG.m0 (by decide)) rfl ?_
      refine am_iload_n dX11_tick_52 rfl ?_
      refine am_isub dX11_tick_53 ?_
      cases h
      exact am_iret dX11_tick_54 rfl rfl ⟨rfl, rfl⟩
    · rw [if_neg c] at h
      refine am_aload_n dX11_tick_38 rfl ?_
      obtain ⟨q1, hq1, h⟩ := am_bd h
      refine am_callVe (i := 0) (j := 60) (as := []) (rest := []) dX11_tick_39 lkX11_oneTick ml_X11_466 imX11_oneTick seX11_oneTick rfl rfl (hG.m0 (by decide)) rfl (Nat.le_of_ble_eq_true rfl) rfl (sX11_oneTick hG hq1) ?_
      refine am_iinc (v := l3 + nI 1) dX11_tick_42 rfl rfl ?_
      refine am_goto (tgt := 33) dX11_tick_45 rfl ?_
      exact am_lwJ (lo' := [some (.inr (0, 60)), some (.inl l1), some (.inl l2), some (.inl (l3 + nI 1))]) ⟨rfl, rfl, rfl, rfl, trivial⟩ (hk33 l1 l2 (l3 + nI 1) _ _ h)
def bX11_tick_16 (n : Nat) (l1 : Int32) (s0 : Int32) (I : am_I) : Option (Int32 × am_I) := (gX11_refuse n s0 (nI 0) (nI 0) I).bind (fun q1 => if q1.1 = 0 then (bX11_tick_33 n am_fu l1 (q1.2 0 60 49) (nI 0) q1.2) else (some (nI 0, q1.2)))
theorem tX11_tick_16 {G : am_G} (hG : am_okM G) {d : Nat} {l1 : Int32} {s0 : Int32} {I : am_I} {r : Int32 × am_I} (h : bX11_tick_16 G.2.2.2.1 l1 s0  I = some r) : am_J G (d + 13) mX11_tick am_no (am_E (some r.1) r.2) 16 [some (.inr (0, 60)), some (.inl l1), none, none] [.inl s0, .inr (0, 60)] I := by
  unfold bX11_tick_16 at h
  refine am_iconst (v := nI 0) dX11_tick_16 (by decide) ?_
  refine am_iconst (v := nI 0) dX11_tick_17 (by decide) ?_
  obtain ⟨q1, hq1, h⟩ := am_bd h
  refine am_callVx (i := 0) (j := 60) (as := [.inl s0, .inl (nI 0), .inl (nI 0)]) (rest := []) dX11_tick_18 lkX11_refuse ml_X11_441 imX11_refuse seX11_refuse rfl rfl (hG.m0 (by decide)) rfl (Nat.le_of_ble_eq_true rfl) rfl (sX11_refuse hG hq1) ?_
  refine am_if_eq (tgt := 26) dX11_tick_21 rfl (fun c => ?_) (fun c => ?_)
  · rw [if_pos c] at h
    refine am_aload_n dX11_tick_26 rfl ?_
    refine am_get (v := .inl (q1.2 0 60 49)) dX11_tick_27 fl_11_268 (hG.m0 (by decide)) rfl ?_
    refine am_istore_n dX11_tick_30 (by decide) ?_
    refine am_iconst (v := nI 0) dX11_tick_31 (by decide) ?_
    refine am_istore_n dX11_tick_32 (by decide) ?_
    exact am_lwJ (lo' := [some (.inr (0, 60)), some (.inl l1), some (.inl (q1.2 0 60 49)), some (.inl (nI 0))]) ⟨rfl, rfl, rfl, rfl, trivial⟩ (tX11_tick_33 hG h)
  · rw [if_neg c] at h
    refine am_iconst (v := nI 0) dX11_tick_24 (by decide) ?_
    cases h
    exact am_iret dX11_tick_25 rfl rfl ⟨rfl, rfl⟩
def bX11_tick_0 (n : Nat) (l1 : Int32) (I : am_I) : Option (Int32 × am_I) := (gX11_in n l1 (nI 0) (nI 100) I).bind (fun q1 => if q1.1 = 0 then (bX11_tick_16 n l1 (nI 1) q1.2) else (bX11_tick_16 n l1 (nI 0) q1.2))
theorem tX11_tick_0 {G : am_G} (hG : am_okM G) {d : Nat} {l1 : Int32} {I : am_I} {r : Int32 × am_I} (h : bX11_tick_0 G.2.2.2.1 l1  I = some r) : am_J G (d + 13) mX11_tick am_no (am_E (some r.1) r.2) 0 [some (.inr (0, 60)), some (.inl l1), none, none] [] I := by
  unfold bX11_tick_0 at h
  refine am_aload_n dX11_tick_0 rfl ?_
  refine am_iload_n dX11_tick_1 rfl ?_
  refine am_iconst (v := nI 0) dX11_tick_2 (by decide) ?_
  refine am_bipush (v := nI 100) dX11_tick_3 (by decide) ?_
  obtain ⟨q1, hq1, h⟩ := am_bd h
  refine am_callSx (as := [.inl l1, .inl (nI 0), .inl (nI 100)]) (rest := [.inr (0, 60)]) dX11_tick_5 lkX11_in ml_X11_243 isX11_in rfl (Nat.le_of_ble_eq_true rfl) rfl (sX11_in hG hq1) ?_
  refine am_if_ne (tgt := 15) dX11_tick_8 rfl (fun c => ?_) (fun c => ?_)
  · rw [if_neg c] at h
    refine am_iconst (v := nI 0) dX11_tick_15 (by decide) ?_
    exact am_lwJ (lo' := [some (.inr (0, 60)), some (.inl l1), none, none]) ⟨rfl, rfl, trivial⟩ (tX11_tick_16 hG h)
  · rw [if_pos c] at h
    refine am_iconst (v := nI 1) dX11_tick_11 (by decide) ?_
    refine am_goto (tgt := 16) dX11_tick_12 rfl ?_
    exact am_lwJ (lo' := [some (.inr (0, 60)), some (.inl l1), none, none]) ⟨rfl, rfl, trivial⟩ (tX11_tick_16 hG h)
def gX11_tick (n : Nat) (l1 : Int32) (I : am_I) : Option (Int32 × am_I) := bX11_tick_0 n l1 I
theorem sX11_tick {G : am_G} (hG : am_okM G) {d : Nat} {l1 : Int32} {I : am_I} {r : Int32 × am_I} (h : gX11_tick G.2.2.2.1 l1 I = some r) : am_C G (d + 13) mX11_tick [.inr (0, 60), .inl l1] I (am_E (some r.1) r.2) :=
  am_of (by decide +kernel) hG.nd (Nat.le_of_ble_eq_true rfl) (am_lwJ (lo' := [some (.inr (0, 60)), some (.inl l1), none, none]) ⟨rfl, rfl, trivial⟩ (tX11_tick_0 hG h))
def bX11_noteGone_52 (n : Nat) (k2 : Int32 → Int32 → am_I → Option (am_I)) (l1 : Int32) (l2 : Int32) (I : am_I) : Option (am_I) := k2 l1 (l2 + nI 1) I
theorem tX11_noteGone_52 {G : am_G} (hG : am_okM G) {d : Nat} {k2 : Int32 → Int32 → am_I → Option (am_I)} (hk2 : ∀ (l1 : Int32) (l2 : Int32) (I : am_I) (r : am_I), k2 l1 l2 I = some r → am_J G d mX11_noteGone am_no (am_E none r) 2 [some (.inr (0, 60)), some (.inl l1), some (.inl l2)] [] I) {l1 : Int32} {l2 : Int32} {I : am_I} {r : am_I} (h : bX11_noteGone_52 G.2.2.2.1 k2 l1 l2  I = some r) : am_J G d mX11_noteGone am_no (am_E none r) 52 [some (.inr (0, 60)), some (.inl l1), some (.inl l2)] [] I := by
  unfold bX11_noteGone_52 at h
  refine am_iinc (v := l2 + nI 1) dX11_noteGone_52 rfl rfl ?_
  refine am_goto (tgt := 2) dX11_noteGone_55 rfl ?_
  exact am_lwJ (lo' := [some (.inr (0, 60)), some (.inl l1), some (.inl (l2 + nI 1))]) ⟨rfl, rfl, rfl, trivial⟩ (hk2 l1 (l2 + nI 1) _ _ h)
def bX11_noteGone_2 (n : Nat) : Nat → Int32 → Int32 → am_I → Option (am_I)
  | 0, _, _, _ => none
  | fu + 1, l1, l2, I => (fun k2 => if (I 0 60 63) ≤ l2 then (some I) else (am_gd (am_inb ((nI 10) * l2) 4000) (if (I 0 125 (((nI 10) * l2).toNatClampNeg)) = l1 then (am_gd (am_inb (((nI 10) * l2) + (nI 9)) 4000) (if (I 0 125 ((((nI 10) * l2) + (nI 9)).toNatClampNeg)) = (nI 1) then (am_gd (am_inb (((nI 10) * l2) + (nI 9)) 4000) (am_lt (am_up I 0 125 (((nI 10) * l2) + (nI 9)).toNatClampNeg (nI 3)) (fun I4 => bX11_noteGone_52 n k2 l1 l2 I4))) else (bX11_noteGone_52 n k2 l1 l2 I))) else (bX11_noteGone_52 n k2 l1 l2 I)))) (bX11_noteGone_2 n fu)
theorem tX11_noteGone_2 {G : am_G} (hG : am_okM G) {d : Nat} : ∀ {fu : Nat} {l1 : Int32} {l2 : Int32} {I : am_I} {r : am_I}, bX11_noteGone_2 G.2.2.2.1 fu l1 l2 I = some r → am_J G d mX11_noteGone am_no (am_E none r) 2 [some (.inr (0, 60)), some (.inl l1), some (.inl l2)] [] I := by
  intro fu
  induction fu with
  | zero => intro l1 l2 I r h; cases h
  | succ fu ih =>
    intro l1 l2 I r h
    have hk2 : ∀ (l1 : Int32) (l2 : Int32) (I : am_I) (r : am_I), bX11_noteGone_2 G.2.2.2.1 fu l1 l2 I = some r → am_J G d mX11_noteGone am_no (am_E none r) 2 [some (.inr (0, 60)), some (.inl l1), some (.inl l2)] [] I := fun l1 l2 I r h => ih h
    unfold bX11_noteGone_2 at h
    generalize bX11_noteGone_2 G.2.2.2.1 fu = k2 at hk2 h
    dsimp only at h
    refine am_iload_n dX11_noteGone_2 rfl ?_
    refine am_aload_n dX11_noteGone_3 rfl ?_
    refine am_get (v := .inl (I 0 60 63)) dX11_noteGone_4 fl_11_274 (hG.m0 (by decide)) rfl ?_
    refine am_icmp_ge (tgt := 58) dX11_noteGone_7 rfl (fun c => ?_) (fun c => ?_)
    · rw [if_pos c] at h
      cases h
      exact am_vret dX11_noteGone_58 rfl ⟨rfl, rfl⟩
    · rw [if_neg c] at h
      refine am_aload_n dX11_noteGone_10 rfl ?_
      refine am_get (v := .inr (0, 125)) dX11_noteGone_11 fl_11_156 (hG.m0 (by decide)) rfl ?_
      refine am_bipush (v := nI 10) dX11_noteGone_14 (by decide) ?_
      refine am_iload_n dX11_noteGone_16 rfl ?_
      refine am_imul dX11_noteGone_17 ?_
      obtain ⟨g1, h⟩ := am_gd_some h
      refine am_ialdG dX11_noteGone_18 (hG.m0 (by decide)) rfl g1 (show 4000 < 2 ^ 31 by decide) ?_
      refine am_iload_n dX11_noteGone_19 rfl ?_
      refine am_icmp_ne (tgt := 52) dX11_noteGone_20 rfl (fun c => ?_) (fun c => ?_)
      · rw [if_neg c] at h
        exact am_lwJ (lo' := [some (.inr (0, 60)), some (.inl l1), some (.inl l2)]) ⟨rfl, rfl, rfl, trivial⟩ (tX11_noteGone_52 hG hk2 h)
      · rw [if_pos c] at h
        refine am_aload_n dX11_noteGone_23 rfl ?_
        refine am_get (v := .inr (0, 125)) dX11_noteGone_24 fl_11_156 (hG.m0 (by decide)) rfl ?_
        refine am_bipush (v := nI 10) dX11_noteGone_27 (by decide) ?_
        refine am_iload_n dX11_noteGone_29 rfl ?_
        refine am_imul dX11_noteGone_30 ?_
        refine am_bipush (v := nI 9) dX11_noteGone_31 (by decide) ?_
        refine am_iadd dX11_noteGone_33 ?_
        obtain ⟨g2, h⟩ := am_gd_some h
        refine am_ialdG dX11_noteGone_34 (hG.m0 (by decide)) rfl g2 (show 4000 < 2 ^ 31 by decide) ?_
        refine am_iconst (v := nI 1) dX11_noteGone_35 (by decide) ?_
        refine am_icmp_ne (tgt := 52) dX11_noteGone_36 rfl (fun c => ?_) (fun c => ?_)
        · rw [if_neg c] at h
          exact am_lwJ (lo' := [some (.inr (0, 60)), some (.inl l1), some (.inl l2)]) ⟨rfl, rfl, rfl, trivial⟩ (tX11_noteGone_52 hG hk2 h)
        · rw [if_pos c] at h
          refine am_aload_n dX11_noteGone_39 rfl ?_
          refine am_get (v := .inr (0, 125)) dX11_noteGone_40 fl_11_156 (hG.m0 (by decide)) rfl ?_
          refine am_bipush (v := nI 10) dX11_noteGone_43 (by decide) ?_
          refine am_iload_n dX11_noteGone_45 rfl ?_
          refine am_imul dX11_noteGone_46 ?_
          refine am_bipush (v := nI 9) dX11_noteGone_47 (by decide) ?_
          refine am_iadd dX11_noteGone_49 ?_
          refine am_iconst (v := nI 3) dX11_noteGone_50 (by decide) ?_
          obtain ⟨g3, h⟩ := am_gd_some h
          refine am_iastG dX11_noteGone_51 (hG.m0 (by decide)) rfl g3 (show 4000 < 2 ^ 31 by decide) ?_
          obtain ⟨I4, hI4, h⟩ := am_lt_some h
          refine am_st10 hI4 ?_
          exact am_lwJ (lo' := [some (.inr (0, 60)), some (.inl l1), some (.inl l2)]) ⟨rfl, rfl, rfl, trivial⟩ (tX11_noteGone_52 hG hk2 h)
def bX11_noteGone_0 (n : Nat) (l1 : Int32) (I : am_I) : Option (am_I) := bX11_noteGone_2 n am_fu l1 (nI 0) I
theorem tX11_noteGone_0 {G : am_G} (hG : am_okM G) {d : Nat} {l1 : Int32} {I : am_I} {r : am_I} (h : bX11_noteGone_0 G.2.2.2.1 l1  I = some r) : am_J G d mX11_noteGone am_no (am_E none r) 0 [some (.inr (0, 60)), some (.inl l1), none] [] I := by
  unfold bX11_noteGone_0 at h
  refine am_iconst (v := nI 0) dX11_noteGone_0 (by decide) ?_
  refine am_istore_n dX11_noteGone_1 (by decide) ?_
  exact am_lwJ (lo' := [some (.inr (0, 60)), some (.inl l1), some (.inl (nI 0))]) ⟨rfl, rfl, rfl, trivial⟩ (tX11_noteGone_2 hG h)
def gX11_noteGone (n : Nat) (l1 : Int32) (I : am_I) : Option (am_I) := bX11_noteGone_0 n l1 I
theorem sX11_noteGone {G : am_G} (hG : am_okM G) {d : Nat} {l1 : Int32} {I : am_I} {r : am_I} (h : gX11_noteGone G.2.2.2.1 l1 I = some r) : am_C G d mX11_noteGone [.inr (0, 60), .inl l1] I (am_E none r) :=
  am_of (by decide +kernel) hG.nd (Nat.le_of_ble_eq_true rfl) (am_lwJ (lo' := [some (.inr (0, 60)), some (.inl l1), none]) ⟨rfl, rfl, trivial⟩ (tX11_noteGone_0 hG h))
def bX11_noneOf_71 (n : Nat) : Nat → Int32 → Int32 → am_I → Option (am_I)
  | 0, _, _, _ => none
  | fu + 1, l1, l2, I => (fun k71 => if (nI 136) ≤ l2 then (some I) else ((gX11_at n l1 l2 I).bind (fun q1 => am_gd (am_inb q1.1 544) (am_lt (am_up q1.2 0 76 q1.1.toNatClampNeg (nI 0)) (fun I3 => am_gd (am_inb q1.1 544) (am_lt (am_up I3 0 77 q1.1.toNatClampNeg (nI 0)) (fun I5 => am_gd (am_inb q1.1 544) (am_lt (am_up I5 0 78 q1.1.toNatClampNeg (-1 : Int32)) (fun I7 => am_gd (am_inb q1.1 544) (am_lt (am_up I7 0 79 q1.1.toNatClampNeg (nI 0)) (fun I9 => am_gd (am_inb q1.1 544) (am_lt (am_up I9 0 80 q1.1.toNatClampNeg (nI 0)) (fun I11 => k71 l1 (l2 + nI 1) I11))))))))))))) (bX11_noneOf_71 n fu)
theorem tX11_noneOf_71 {G : am_G} (hG : am_okM G) {d : Nat} : ∀ {fu : Nat} {l1 : Int32} {l2 : Int32} {I : am_I} {r : am_I}, bX11_noneOf_71 G.2.2.2.1 fu l1 l2 I = some r → am_J G (d + 1) mX11_noneOf am_no (am_E none r) 71 [some (.inr (0, 60)), some (.inl l1), some (.inl l2), none] [] I := by
  intro fu
  induction fu with
  | zero => intro l1 l2 I r h; cases h
  | succ fu ih =>
    intro l1 l2 I r h
    have hk71 : ∀ (l1 : Int32) (l2 : Int32) (I : am_I) (r : am_I), bX11_noneOf_71 G.2.2.2.1 fu l1 l2 I = some r → am_J G (d + 1) mX11_noneOf am_no (am_E none r) 71 [some (.inr (0, 60)), some (.inl l1), some (.inl l2), none] [] I := fun l1 l2 I r h => ih h
    unfold bX11_noneOf_71 at h
    generalize bX11_noneOf_71 G.2.2.2.1 fu = k71 at hk71 h
    dsimp only at h
    refine am_iload_n dX11_noneOf_71 rfl ?_
    refine am_sipush (v := nI 136) dX11_noneOf_72 (by decide) ?_
    refine am_icmp_ge (tgt := 125) dX11_noneOf_75 rfl (fun c => ?_) (fun c => ?_)
    · rw [if_pos c] at h
      cases h
      exact am_vret dX11_noneOf_125 rfl ⟨rfl, rfl⟩
    · rw [if_neg c] at h
      refine am_iload_n dX11_noneOf_78 rfl ?_
      refine am_iload_n dX11_noneOf_79 rfl ?_
      obtain ⟨q1, hq1, h⟩ := am_bd h
      refine am_callSx (as := [.inl l1, .inl l2]) (rest := []) dX11_noneOf_80 lkX11_at ml_X11_208 isX11_at rfl (Nat.le_of_ble_eq_true rfl) rfl (sX11_at hG hq1) ?_
      refine am_istore_n dX11_noneOf_83 (by decide) ?_
      refine am_aload_n dX11_noneOf_84 rfl ?_
      refine am_get (v := .inr (0, 76)) dX11_noneOf_85 fl_11_48 (hG.m0 (by decide)) rfl ?_
      refine am_iload_n dX11_noneOf_88 rfl ?_
      refine am_iconst (v := nI 0) dX11_noneOf_89 (by decide) ?_
      obtain ⟨g2, h⟩ := am_gd_some h
      refine am_iastG dX11_noneOf_90 (hG.m0 (by decide)) rfl g2 (show 544 < 2 ^ 31 by decide) ?_
      obtain ⟨I3, hI3, h⟩ := am_lt_some h
      refine am_st10 hI3 ?_
      refine am_aload_n dX11_noneOf_91 rfl ?_
      refine am_get (v := .inr (0, 77)) dX11_noneOf_92 fl_11_51 (hG.m0 (by decide)) rfl ?_
      refine am_iload_n dX11_noneOf_95 rfl ?_
      refine am_iconst (v := nI 0) dX11_noneOf_96 (by decide) ?_
      obtain ⟨g4, h⟩ := am_gd_some h
      refine am_iastG dX11_noneOf_97 (hG.m0 (by decide)) rfl g4 (show 544 < 2 ^ 31 by decide) ?_
      obtain ⟨I5, hI5, h⟩ := am_lt_some h
      refine am_st10 hI5 ?_
      refine am_aload_n dX11_noneOf_98 rfl ?_
      refine am_get (v := .inr (0, 78)) dX11_noneOf_99 fl_11_54 (hG.m0 (by decide)) rfl ?_
      refine am_iload_n dX11_noneOf_102 rfl ?_
      refine am_iconst (v := (-1 : Int32)) dX11_noneOf_103 (by decide) ?_
      obtain ⟨g6, h⟩ := am_gd_some h
      refine am_iastG dX11_noneOf_104 (hG.m0 (by decide)) rfl g6 (show 544 < 2 ^ 31 by decide) ?_
      obtain ⟨I7, hI7, h⟩ := am_lt_some h
      refine am_st10 hI7 ?_
      refine am_aload_n dX11_noneOf_105 rfl ?_
      refine am_get (v := .inr (0, 79)) dX11_noneOf_106 fl_11_57 (hG.m0 (by decide)) rfl ?_
      refine am_iload_n dX11_noneOf_109 rfl ?_
      refine am_iconst (v := nI 0) dX11_noneOf_110 (by decide) ?_
      obtain ⟨g8, h⟩ := am_gd_some h
      refine am_zastG dX11_noneOf_111 (hG.m0 (by decide)) rfl (by decide) g8 (show 544 < 2 ^ 31 by decide) ?_
      obtain ⟨I9, hI9, h⟩ := am_lt_some h
      refine am_st10 hI9 ?_
      refine am_aload_n dX11_noneOf_112 rfl ?_
      refine am_get (v := .inr (0, 80)) dX11_noneOf_113 fl_11_60 (hG.m0 (by decide)) rfl ?_
      refine am_iload_n dX11_noneOf_116 rfl ?_
      refine am_iconst (v := nI 0) dX11_noneOf_117 (by decide) ?_
      obtain ⟨g10, h⟩ := am_gd_some h
      refine am_zastG dX11_noneOf_118 (hG.m0 (by decide)) rfl (by decide) g10 (show 544 < 2 ^ 31 by decide) ?_
      obtain ⟨I11, hI11, h⟩ := am_lt_some h
      refine am_st10 hI11 ?_
      refine am_iinc (v := l2 + nI 1) dX11_noneOf_119 rfl rfl ?_
      refine am_goto (tgt := 71) dX11_noneOf_122 rfl ?_
      exact am_lwJ (lo' := [some (.inr (0, 60)), some (.inl l1), some (.inl (l2 + nI 1)), none]) ⟨rfl, rfl, rfl, trivial⟩ (hk71 l1 (l2 + nI 1) _ _ h)
def bX11_noneOf_2 (n : Nat) : Nat → Int32 → Int32 → am_I → Option (am_I)
  | 0, _, _, _ => none
  | fu + 1, l1, l2, I => (fun k2 => if (nI 640) ≤ l2 then (am_gd (am_inb l1 4) (am_lt (am_up I 0 70 l1.toNatClampNeg (nI 0)) (fun I2 => am_gd (am_inb l1 4) (am_lt (am_up I2 0 72 l1.toNatClampNeg (nI 0)) (fun I4 => am_gd (am_inb l1 4) (am_lt (am_up I4 0 73 l1.toNatClampNeg (nI 0)) (fun I6 => am_gd (am_inb l1 4) (am_lt (am_up I6 0 93 l1.toNatClampNeg (nI 0)) (fun I8 => bX11_noneOf_71 n am_fu l1 (nI 0) I8))))))))) else (am_gd (am_inb (((nI 640) * l1) + l2) 2560) (am_lt (am_up I 0 68 (((nI 640) * l1) + l2).toNatClampNeg (nI 0)) (fun I10 => am_gd (am_inb (((nI 640) * l1) + l2) 2560) (am_lt (am_up I10 0 69 (((nI 640) * l1) + l2).toNatClampNeg (nI 0)) (fun I12 => k2 l1 (l2 + nI 1) I12)))))) (bX11_noneOf_2 n fu)
theorem tX11_noneOf_2 {G : am_G} (hG : am_okM G) {d : Nat} : ∀ {fu : Nat} {l1 : Int32} {l2 : Int32} {I : am_I} {r : am_I}, bX11_noneOf_2 G.2.2.2.1 fu l1 l2 I = some r → am_J G (d + 1) mX11_noneOf am_no (am_E none r) 2 [some (.inr (0, 60)), some (.inl l1), some (.inl l2), none] [] I := by
  intro fu
  induction fu with
  | zero => intro l1 l2 I r h; cases h
  | succ fu ih =>
    intro l1 l2 I r h
    have hk2 : ∀ (l1 : Int32) (l2 : Int32) (I : am_I) (r : am_I), bX11_noneOf_2 G.2.2.2.1 fu l1 l2 I = some r → am_J G (d + 1) mX11_noneOf am_no (am_E none r) 2 [some (.inr (0, 60)), some (.inl l1), some (.inl l2), none] [] I := fun l1 l2 I r h => ih h
    unfold bX11_noneOf_2 at h
    generalize bX11_noneOf_2 G.2.2.2.1 fu = k2 at hk2 h
    dsimp only at h
    refine am_iload_n dX11_noneOf_2 rfl ?_
    refine am_sipush (v := nI 640) dX11_noneOf_3 (by decide) ?_
    refine am_icmp_ge (tgt := 41) dX11_noneOf_6 rfl (fun c => ?_) (fun c => ?_)
    · rw [if_pos c] at h
      refine am_aload_n dX11_noneOf_41 rfl ?_
      refine am_get (v := .inr (0, 70)) dX11_noneOf_42 fl_11_30 (hG.m0 (by decide)) rfl ?_
      refine am_iload_n dX11_noneOf_45 rfl ?_
      refine am_iconst (v := nI 0) dX11_noneOf_46 (by decide) ?_
      obtain ⟨g1, h⟩ := am_gd_some h
      refine am_iastG dX11_noneOf_47 (hG.m0 (by decide)) rfl g1 (show 4 < 2 ^ 31 by decide) ?_
      obtain ⟨I2, hI2, h⟩ := am_lt_some h
      refine am_st10 hI2 ?_
      refine am_aload_n dX11_noneOf_48 rfl ?_
      refine am_get (v := .inr (0, 72)) dX11_noneOf_49 fl_11_36 (hG.m0 (by decide)) rfl ?_
      refine am_iload_n dX11_noneOf_52 rfl ?_
      refine am_iconst (v := nI 0) dX11_noneOf_53 (by decide) ?_
      obtain ⟨g3, h⟩ := am_gd_some h
      refine am_iastG dX11_noneOf_54 (hG.m0 (by decide)) rfl g3 (show 4 < 2 ^ 31 by decide) ?_
      obtain ⟨I4, hI4, h⟩ := am_lt_some h
      refine am_st10 hI4 ?_
      refine am_aload_n dX11_noneOf_55 rfl ?_
      refine am_get (v := .inr (0, 73)) dX11_noneOf_56 fl_11_39 (hG.m0 (by decide)) rfl ?_
      refine am_iload_n dX11_noneOf_59 rfl ?_
      refine am_iconst (v := nI 0) dX11_noneOf_60 (by decide) ?_
      obtain ⟨g5, h⟩ := am_gd_some h
      refine am_iastG dX11_noneOf_61 (hG.m0 (by decide)) rfl g5 (show 4 < 2 ^ 31 by decide) ?_
      obtain ⟨I6, hI6, h⟩ := am_lt_some h
      refine am_st10 hI6 ?_
      refine am_aload_n dX11_noneOf_62 rfl ?_
      refine am_get (v := .inr (0, 93)) dX11_noneOf_63 fl_11_99 (hG.m0 (by decide)) rfl ?_
      refine am_iload_n dX11_noneOf_66 rfl ?_
      refine am_iconst (v := nI 0) dX11_noneOf_67 (by decide) ?_
      obtain ⟨g7, h⟩ := am_gd_some h
      refine am_zastG dX11_noneOf_68 (hG.m0 (by decide)) rfl (by decide) g7 (show 4 < 2 ^ 31 by decide) ?_
      obtain ⟨I8, hI8, h⟩ := am_lt_some h
      refine am_st10 hI8 ?_
      refine am_iconst (v := nI 0) dX11_noneOf_69 (by decide) ?_
      refine am_istore_n dX11_noneOf_70 (by decide) ?_
      exact am_lwJ (lo' := [some (.inr (0, 60)), some (.inl l1), some (.inl (nI 0)), none]) ⟨rfl, rfl, rfl, trivial⟩ (tX11_noneOf_71 hG h)
    · rw [if_neg c] at h
      refine am_aload_n dX11_noneOf_9 rfl ?_
      refine am_get (v := .inr (0, 68)) dX11_noneOf_10 fl_11_24 (hG.m0 (by decide)) rfl ?_
      refine am_sipush (v := nI 640) dX11_noneOf_13 (by decide) ?_
      refine am_iload_n dX11_noneOf_16 rfl ?_
      refine am_imul dX11_noneOf_17 ?_
      refine am_iload_n dX11_noneOf_18 rfl ?_
      refine am_iadd dX11_noneOf_19 ?_
      refine am_iconst (v := nI 0) dX11_noneOf_20 (by decide) ?_
      obtain ⟨g9, h⟩ := am_gd_some h
      refine am_zastG dX11_noneOf_21 (hG.m0 (by decide)) rfl (by decide) g9 (show 2560 < 2 ^ 31 by decide) ?_
      obtain ⟨I10, hI10, h⟩ := am_lt_some h
      refine am_st10 hI10 ?_
      refine am_aload_n dX11_noneOf_22 rfl ?_
      refine am_get (v := .inr (0, 69)) dX11_noneOf_23 fl_11_27 (hG.m0 (by decide)) rfl ?_
      refine am_sipush (v := nI 640) dX11_noneOf_26 (by decide) ?_
      refine am_iload_n dX11_noneOf_29 rfl ?_
      refine am_imul dX11_noneOf_30 ?_
      refine am_iload_n dX11_noneOf_31 rfl ?_
      refine am_iadd dX11_noneOf_32 ?_
      refine am_iconst (v := nI 0) dX11_noneOf_33 (by decide) ?_
      obtain ⟨g11, h⟩ := am_gd_some h
      refine am_zastG dX11_noneOf_34 (hG.m0 (by decide)) rfl (by decide) g11 (show 2560 < 2 ^ 31 by decide) ?_
      obtain ⟨I12, hI12, h⟩ := am_lt_some h
      refine am_st10 hI12 ?_
      refine am_iinc (v := l2 + nI 1) dX11_noneOf_35 rfl rfl ?_
      refine am_goto (tgt := 2) dX11_noneOf_38 rfl ?_
      exact am_lwJ (lo' := [some (.inr (0, 60)), some (.inl l1), some (.inl (l2 + nI 1)), none]) ⟨rfl, rfl, rfl, trivial⟩ (hk2 l1 (l2 + nI 1) _ _ h)
def bX11_noneOf_0 (n : Nat) (l1 : Int32) (I : am_I) : Option (am_I) := bX11_noneOf_2 n am_fu l1 (nI 0) I
theorem tX11_noneOf_0 {G : am_G} (hG : am_okM G) {d : Nat} {l1 : Int32} {I : am_I} {r : am_I} (h : bX11_noneOf_0 G.2.2.2.1 l1  I = some r) : am_J G (d + 1) mX11_noneOf am_no (am_E none r) 0 [some (.inr (0, 60)), some (.inl l1), none, none] [] I := by
  unfold bX11_noneOf_0 at h
  refine am_iconst (v := nI 0) dX11_noneOf_0 (by decide) ?_
  refine am_istore_n dX11_noneOf_1 (by decide) ?_
  exact am_lwJ (lo' := [some (.inr (0, 60)), some (.inl l1), some (.inl (nI 0)), none]) ⟨rfl, rfl, rfl, trivial⟩ (tX11_noneOf_2 hG h)
def gX11_noneOf (n : Nat) (l1 : Int32) (I : am_I) : Option (am_I) := bX11_noneOf_0 n l1 I
theorem sX11_noneOf {G : am_G} (hG : am_okM G) {d : Nat} {l1 : Int32} {I : am_I} {r : am_I} (h : gX11_noneOf G.2.2.2.1 l1 I = some r) : am_C G (d + 1) mX11_noneOf [.inr (0, 60), .inl l1] I (am_E none r) :=
  am_of (by decide +kernel) hG.nd (Nat.le_of_ble_eq_true rfl) (am_lwJ (lo' := [some (.inr (0, 60)), some (.inl l1), none, none]) ⟨rfl, rfl, trivial⟩ (tX11_noneOf_0 hG h))
def bX11_noMaster_9 (n : Nat) : Nat → Int32 → Int32 → am_I → Option (am_I)
  | 0, _, _, _ => none
  | fu + 1, l1, l2, I => (fun k9 => if (nI 4) ≤ l2 then (some I) else (am_gd (am_inb (((nI 4) * l1) + l2) 544) (am_lt (am_up I 0 94 (((nI 4) * l1) + l2).toNatClampNeg (nI 0)) (fun I2 => am_gd (am_inb (((nI 4) * l1) + l2) 544) (am_lt (am_up I2 0 95 (((nI 4) * l1) + l2).toNatClampNeg (-1 : Int32)) (fun I4 => k9 l1 (l2 + nI 1) I4)))))) (bX11_noMaster_9 n fu)
theorem tX11_noMaster_9 {G : am_G} (hG : am_okM G) {d : Nat} : ∀ {fu : Nat} {l1 : Int32} {l2 : Int32} {I : am_I} {r : am_I}, bX11_noMaster_9 G.2.2.2.1 fu l1 l2 I = some r → am_J G d mX11_noMaster am_no (am_E none r) 9 [some (.inr (0, 60)), some (.inl l1), some (.inl l2)] [] I := by
  intro fu
  induction fu with
  | zero => intro l1 l2 I r h; cases h
  | succ fu ih =>
    intro l1 l2 I r h
    have hk9 : ∀ (l1 : Int32) (l2 : Int32) (I : am_I) (r : am_I), bX11_noMaster_9 G.2.2.2.1 fu l1 l2 I = some r → am_J G d mX11_noMaster am_no (am_E none r) 9 [some (.inr (0, 60)), some (.inl l1), some (.inl l2)] [] I := fun l1 l2 I r h => ih h
    unfold bX11_noMaster_9 at h
    generalize bX11_noMaster_9 G.2.2.2.1 fu = k9 at hk9 h
    dsimp only at h
    refine am_iload_n dX11_noMaster_9 rfl ?_
    refine am_iconst (v := nI 4) dX11_noMaster_10 (by decide) ?_
    refine am_icmp_ge (tgt := 42) dX11_noMaster_11 rfl (fun c => ?_) (fun c => ?_)
    · rw [if_pos c] at h
      cases h
      exact am_vret dX11_noMaster_42 rfl ⟨rfl, rfl⟩
    · rw [if_neg c] at h
      refine am_aload_n dX11_noMaster_14 rfl ?_
      refine am_get (v := .inr (0, 94)) dX11_noMaster_15 fl_11_102 (hG.m0 (by decide)) rfl ?_
      refine am_iconst (v := nI 4) dX11_noMaster_18 (by decide) ?_
      refine am_iload_n dX11_noMaster_19 rfl ?_
      refine am_imul dX11_noMaster_20 ?_
      refine am_iload_n dX11_noMaster_21 rfl ?_
      refine am_iadd dX11_noMaster_22 ?_
      refine am_iconst (v := nI 0) dX11_noMaster_23 (by decide) ?_
      obtain ⟨g1, h⟩ := am_gd_some h
      refine am_iastG dX11_noMaster_24 (hG.m0 (by decide)) rfl g1 (show 544 < 2 ^ 31 by decide) ?_
      obtain ⟨I2, hI2, h⟩ := am_lt_some h
      refine am_st10 hI2 ?_
      refine am_aload_n dX11_noMaster_25 rfl ?_
      refine am_get (v := .inr (0, 95)) dX11_noMaster_26 fl_11_105 (hG.m0 (by decide)) rfl ?_
      refine am_iconst (v := nI 4) dX11_noMaster_29 (by decide) ?_
      refine am_iload_n dX11_noMaster_30 rfl ?_
      refine am_imul dX11_noMaster_31 ?_
      refine am_iload_n dX11_noMaster_32 rfl ?_
      refine am_iadd dX11_noMaster_33 ?_
      refine am_iconst (v := (-1 : Int32)) dX11_noMaster_34 (by decide) ?_
      obtain ⟨g3, h⟩ := am_gd_some h
      refine am_iastG dX11_noMaster_35 (hG.m0 (by decide)) rfl g3 (show 544 < 2 ^ 31 by decide) ?_
      obtain ⟨I4, hI4, h⟩ := am_lt_some h
      refine am_st10 hI4 ?_
      refine am_iinc (v := l2 + nI 1) dX11_noMaster_36 rfl rfl ?_
      refine am_goto (tgt := 9) dX11_noMaster_39 rfl ?_
      exact am_lwJ (lo' := [some (.inr (0, 60)), some (.inl l1), some (.inl (l2 + nI 1))]) ⟨rfl, rfl, rfl, trivial⟩ (hk9 l1 (l2 + nI 1) _ _ h)
def bX11_noMaster_0 (n : Nat) (l1 : Int32) (I : am_I) : Option (am_I) := am_gd (am_inb l1 136) (am_lt (am_up I 0 96 l1.toNatClampNeg (nI 0)) (fun I2 => bX11_noMaster_9 n am_fu l1 (nI 0) I2))
theorem tX11_noMaster_0 {G : am_G} (hG : am_okM G) {d : Nat} {l1 : Int32} {I : am_I} {r : am_I} (h : bX11_noMaster_0 G.2.2.2.1 l1  I = some r) : am_J G d mX11_noMaster am_no (am_E none r) 0 [some (.inr (0, 60)), some (.inl l1), none] [] I := by
  unfold bX11_noMaster_0 at h
  refine am_aload_n dX11_noMaster_0 rfl ?_
  refine am_get (v := .inr (0, 96)) dX11_noMaster_1 fl_11_108 (hG.m0 (by decide)) rfl ?_
  refine am_iload_n dX11_noMaster_4 rfl ?_
  refine am_iconst (v := nI 0) dX11_noMaster_5 (by decide) ?_
  obtain ⟨g1, h⟩ := am_gd_some h
  refine am_iastG dX11_noMaster_6 (hG.m0 (by decide)) rfl g1 (show 136 < 2 ^ 31 by decide) ?_
  obtain ⟨I2, hI2, h⟩ := am_lt_some h
  refine am_st10 hI2 ?_
  refine am_iconst (v := nI 0) dX11_noMaster_7 (by decide) ?_
  refine am_istore_n dX11_noMaster_8 (by decide) ?_
  exact am_lwJ (lo' := [some (.inr (0, 60)), some (.inl l1), some (.inl (nI 0))]) ⟨rfl, rfl, rfl, trivial⟩ (tX11_noMaster_9 hG h)
def gX11_noMaster (n : Nat) (l1 : Int32) (I : am_I) : Option (am_I) := bX11_noMaster_0 n l1 I
theorem sX11_noMaster {G : am_G} (hG : am_okM G) {d : Nat} {l1 : Int32} {I : am_I} {r : am_I} (h : gX11_noMaster G.2.2.2.1 l1 I = some r) : am_C G d mX11_noMaster [.inr (0, 60), .inl l1] I (am_E none r) :=
  am_of (by decide +kernel) hG.nd (Nat.le_of_ble_eq_true rfl) (am_lwJ (lo' := [some (.inr (0, 60)), some (.inl l1), none]) ⟨rfl, rfl, trivial⟩ (tX11_noMaster_0 hG h))
def bX11_crash_275 (n : Nat) : Nat → Int32 → Int32 → am_I → Option (am_I)
  | 0, _, _, _ => none
  | fu + 1, l1, l5, I => (fun k275 => if (nI 4) ≤ l5 then (some I) else (am_gd (am_inb (((nI 4) * l1) + l5) 16) (am_lt (am_up I 0 108 (((nI 4) * l1) + l5).toNatClampNeg (nI 0)) (fun I2 => am_gd (am_inb (((nI 4) * l5) + l1) 16) (am_lt (am_up I2 0 108 (((nI 4) * l5) + l1).toNatClampNeg (nI 0)) (fun I4 => k275 l1 (l5 + nI 1) I4)))))) (bX11_crash_275 n fu)
theorem tX11_crash_275 {G : am_G} (hG : am_okM G) {d : Nat} : ∀ {fu : Nat} {l1 : Int32} {l5 : Int32} {I : am_I} {r : am_I}, bX11_crash_275 G.2.2.2.1 fu l1 l5 I = some r → am_J G (d + 2) mX11_crash am_no (am_E none r) 275 [some (.inr (0, 60)), some (.inl l1), none, none, none, some (.inl l5)] [] I := by
  intro fu
  induction fu with
  | zero => intro l1 l5 I r h; cases h
  | succ fu ih =>
    intro l1 l5 I r h
    have hk275 : ∀ (l1 : Int32) (l5 : Int32) (I : am_I) (r : am_I), bX11_crash_275 G.2.2.2.1 fu l1 l5 I = some r → am_J G (d + 2) mX11_crash am_no (am_E none r) 275 [some (.inr (0, 60)), some (.inl l1), none, none, none, some (.inl l5)] [] I := fun l1 l5 I r h => ih h
    unfold bX11_crash_275 at h
    generalize bX11_crash_275 G.2.2.2.1 fu = k275 at hk275 h
    dsimp only at h
    refine am_iload dX11_crash_275 rfl ?_
    refine am_iconst (v := nI 4) dX11_crash_277 (by decide) ?_
    refine am_icmp_ge (tgt := 311) dX11_crash_278 rfl (fun c => ?_) (fun c => ?_)
    · rw [if_pos c] at h
      cases h
      exact am_vret dX11_crash_311 rfl ⟨rfl, rfl⟩
    · rw [if_neg c] at h
      refine am_aload_n dX11_crash_281 rfl ?_
      refine am_get (v := .inr (0, 108)) dX11_crash_282 fl_11_138 (hG.m0 (by decide)) rfl ?_
      refine am_iconst (v := nI 4) dX11_crash_285 (by decide) ?_
      refine am_iload_n dX11_crash_286 rfl ?_
      refine am_imul dX11_crash_287 ?_
      refine am_iload dX11_crash_288 rfl ?_
      refine am_iadd dX11_crash_290 ?_
      refine am_iconst (v := nI 0) dX11_crash_291 (by decide) ?_
      obtain ⟨g1, h⟩ := am_gd_some h
      refine am_iastG dX11_crash_292 (hG.m0 (by decide)) rfl g1 (show 16 < 2 ^ 31 by decide) ?_
      obtain ⟨I2, hI2, h⟩ := am_lt_some h
      refine am_st10 hI2 ?_
      refine am_aload_n dX11_crash_293 rfl ?_
      refine am_get (v := .inr (0, 108)) dX11_crash_294 fl_11_138 (hG.m0 (by decide)) rfl ?_
      refine am_iconst (v := nI 4) dX11_crash_297 (by decide) ?_
      refine am_iload dX11_crash_298 rfl ?_
      refine am_imul dX11_crash_300 ?_
      refine am_iload_n dX11_crash_301 rfl ?_
      refine am_iadd dX11_crash_302 ?_
      refine am_iconst (v := nI 0) dX11_crash_303 (by decide) ?_
      obtain ⟨g3, h⟩ := am_gd_some h
      refine am_iastG dX11_crash_304 (hG.m0 (by decide)) rfl g3 (show 16 < 2 ^ 31 by decide) ?_
      obtain ⟨I4, hI4, h⟩ := am_lt_some h
      refine am_st10 hI4 ?_
      refine am_iinc (v := l5 + nI 1) dX11_crash_305 rfl rfl ?_
      refine am_goto (tgt := 275) dX11_crash_308 rfl ?_
      exact am_lwJ (lo' := [some (.inr (0, 60)), some (.inl l1), none, none, none, some (.inl (l5 + nI 1))]) ⟨rfl, rfl, rfl, trivial⟩ (hk275 l1 (l5 + nI 1) _ _ h)
def bX11_crash_257 (n : Nat) (k226 : Int32 → Int32 → am_I → Option (am_I)) (l1 : Int32) (l4 : Int32) (I : am_I) : Option (am_I) := (gX11_removeMessage n l4 I).bind (fun q1 => k226 l1 l4 q1)
theorem tX11_crash_257 {G : am_G} (hG : am_okM G) {d : Nat} {k226 : Int32 → Int32 → am_I → Option (am_I)} (hk226 : ∀ (l1 : Int32) (l4 : Int32) (I : am_I) (r : am_I), k226 l1 l4 I = some r → am_J G (d + 2) mX11_crash am_no (am_E none r) 226 [some (.inr (0, 60)), some (.inl l1), none, none, some (.inl l4), none] [] I) {l1 : Int32} {l4 : Int32} {I : am_I} {r : am_I} (h : bX11_crash_257 G.2.2.2.1 k226 l1 l4  I = some r) : am_J G (d + 2) mX11_crash am_no (am_E none r) 257 [some (.inr (0, 60)), some (.inl l1), none, none, some (.inl l4), none] [] I := by
  unfold bX11_crash_257 at h
  refine am_aload_n dX11_crash_257 rfl ?_
  refine am_iload dX11_crash_258 rfl ?_
  obtain ⟨q1, hq1, h⟩ := am_bd h
  refine am_callVe (i := 0) (j := 60) (as := [.inl l4]) (rest := []) dX11_crash_260 lkX11_removeMessage ml_X11_445 imX11_removeMessage seX11_removeMessage rfl rfl (hG.m0 (by decide)) rfl (Nat.le_of_ble_eq_true rfl) rfl (sX11_removeMessage hG hq1) ?_
  refine am_goto (tgt := 226) dX11_crash_263 rfl ?_
  exact am_lwJ (lo' := [some (.inr (0, 60)), some (.inl l1), none, none, some (.inl l4), none]) ⟨rfl, rfl, rfl, trivial⟩ (hk226 l1 l4 _ _ h)
def bX11_crash_226 (n : Nat) : Nat → Int32 → Int32 → am_I → Option (am_I)
  | 0, _, _, _ => none
  | fu + 1, l1, l4, I => (fun k226 => if (I 0 60 38) ≤ l4 then (bX11_crash_275 n am_fu l1 (nI 0) I) else (am_gd (am_inb l4 4096) (if (I 0 101 l4.toNatClampNeg) = l1 then (bX11_crash_257 n k226 l1 l4 I) else (am_gd (am_inb l4 4096) (if (I 0 102 l4.toNatClampNeg) = l1 then (bX11_crash_257 n k226 l1 l4 I) else (k226 l1 (l4 + nI 1) I)))))) (bX11_crash_226 n fu)
theorem tX11_crash_226 {G : am_G} (hG : am_okM G) {d : Nat} : ∀ {fu : Nat} {l1 : Int32} {l4 : Int32} {I : am_I} {r : am_I}, bX11_crash_226 G.2.2.2.1 fu l1 l4 I = some r → am_J G (d + 2) mX11_crash am_no (am_E none r) 226 [some (.inr (0, 60)), some (.inl l1), none, none, some (.inl l4), none] [] I := by
  intro fu
  induction fu with
  | zero => intro l1 l4 I r h; cases h
  | succ fu ih =>
    intro l1 l4 I r h
    have hk226 : ∀ (l1 : Int32) (l4 : Int32) (I : am_I) (r : am_I), bX11_crash_226 G.2.2.2.1 fu l1 l4 I = some r → am_J G (d + 2) mX11_crash am_no (am_E none r) 226 [some (.inr (0, 60)), some (.inl l1), none, none, some (.inl l4), none] [] I := fun l1 l4 I r h => ih h
    unfold bX11_crash_226 at h
    generalize bX11_crash_226 G.2.2.2.1 fu = k226 at hk226 h
    dsimp only at h
    refine am_iload dX11_crash_226 rfl ?_
    refine am_aload_n dX11_crash_228 rfl ?_
    refine am_get (v := .inl (I 0 60 38)) dX11_crash_229 fl_11_197 (hG.m0 (by decide)) rfl ?_
    refine am_icmp_ge (tgt := 272) dX11_crash_232 rfl (fun c => ?_) (fun c => ?_)
    · rw [if_pos c] at h
      refine am_iconst (v := nI 0) dX11_crash_272 (by decide) ?_
      refine am_istore dX11_crash_273 (by decide) ?_
      exact am_lwJ (lo' := [some (.inr (0, 60)), some (.inl l1), none, none, none, some (.inl (nI 0))]) ⟨rfl, rfl, rfl, trivial⟩ (tX11_crash_275 hG h)
    · rw [if_neg c] at h
      refine am_aload_n dX11_crash_235 rfl ?_
      refine am_get (v := .inr (0, 101)) dX11_crash_236 fl_11_117 (hG.m0 (by decide)) rfl ?_
      refine am_iload dX11_crash_239 rfl ?_
      obtain ⟨g1, h⟩ := am_gd_some h
      refine am_ialdG dX11_crash_241 (hG.m0 (by decide)) rfl g1 (show 4096 < 2 ^ 31 by decide) ?_
      refine am_iload_n dX11_crash_242 rfl ?_
      refine am_icmp_eq (tgt := 257) dX11_crash_243 rfl (fun c => ?_) (fun c => ?_)
      · rw [if_pos c] at h
        exact am_lwJ (lo' := [some (.inr (0, 60)), some (.inl l1), none, none, some (.inl l4), none]) ⟨rfl, rfl, rfl, trivial⟩ (tX11_crash_257 hG hk226 h)
      · rw [if_neg c] at h
        refine am_aload_n dX11_crash_246 rfl ?_
        refine am_get (v := .inr (0, 102)) dX11_crash_247 fl_11_120 (hG.m0 (by decide)) rfl ?_
        refine am_iload dX11_crash_250 rfl ?_
        obtain ⟨g2, h⟩ := am_gd_some h
        refine am_ialdG dX11_crash_252 (hG.m0 (by decide)) rfl g2 (show 4096 < 2 ^ 31 by decide) ?_
        refine am_iload_n dX11_crash_253 rfl ?_
        refine am_icmp_ne (tgt := 266) dX11_crash_254 rfl (fun c => ?_) (fun c => ?_)
        · rw [if_neg c] at h
          refine am_iinc (v := l4 + nI 1) dX11_crash_266 rfl rfl ?_
          refine am_goto (tgt := 226) dX11_crash_269 rfl ?_
          exact am_lwJ (lo' := [some (.inr (0, 60)), some (.inl l1), none, none, some (.inl (l4 + nI 1)), none]) ⟨rfl, rfl, rfl, trivial⟩ (hk226 l1 (l4 + nI 1) _ _ h)
        · rw [if_pos c] at h
          exact am_lwJ (lo' := [some (.inr (0, 60)), some (.inl l1), none, none, some (.inl l4), none]) ⟨rfl, rfl, rfl, trivial⟩ (tX11_crash_257 hG hk226 h)
def bX11_crash_217 (n : Nat) (k193 : Int32 → Int32 → am_I → Option (am_I)) (l1 : Int32) (l4 : Int32) (I : am_I) : Option (am_I) := k193 l1 (l4 + nI 1) I
theorem tX11_crash_217 {G : am_G} (hG : am_okM G) {d : Nat} {k193 : Int32 → Int32 → am_I → Option (am_I)} (hk193 : ∀ (l1 : Int32) (l4 : Int32) (I : am_I) (r : am_I), k193 l1 l4 I = some r → am_J G (d + 2) mX11_crash am_no (am_E none r) 193 [some (.inr (0, 60)), some (.inl l1), none, none, some (.inl l4), none] [] I) {l1 : Int32} {l4 : Int32} {I : am_I} {r : am_I} (h : bX11_crash_217 G.2.2.2.1 k193 l1 l4  I = some r) : am_J G (d + 2) mX11_crash am_no (am_E none r) 217 [some (.inr (0, 60)), some (.inl l1), none, none, some (.inl l4), none] [] I := by
  unfold bX11_crash_217 at h
  refine am_iinc (v := l4 + nI 1) dX11_crash_217 rfl rfl ?_
  refine am_goto (tgt := 193) dX11_crash_220 rfl ?_
  exact am_lwJ (lo' := [some (.inr (0, 60)), some (.inl l1), none, none, some (.inl (l4 + nI 1)), none]) ⟨rfl, rfl, rfl, trivial⟩ (hk193 l1 (l4 + nI 1) _ _ h)
def bX11_crash_193 (n : Nat) : Nat → Int32 → Int32 → am_I → Option (am_I)
  | 0, _, _, _ => none
  | fu + 1, l1, l4, I => (fun k193 => if (nI 136) ≤ l4 then (bX11_crash_226 n am_fu l1 (nI 0) I) else ((gX11_masterOf n l4 I).bind (fun q1 => if q1.1 = l1 then ((gX11_noMaster n l4 q1.2).bind (fun q2 => bX11_crash_217 n k193 l1 l4 q2)) else (bX11_crash_217 n k193 l1 l4 q1.2)))) (bX11_crash_193 n fu)
theorem tX11_crash_193 {G : am_G} (hG : am_okM G) {d : Nat} : ∀ {fu : Nat} {l1 : Int32} {l4 : Int32} {I : am_I} {r : am_I}, bX11_crash_193 G.2.2.2.1 fu l1 l4 I = some r → am_J G (d + 2) mX11_crash am_no (am_E none r) 193 [some (.inr (0, 60)), some (.inl l1), none, none, some (.inl l4), none] [] I := by
  intro fu
  induction fu with
  | zero => intro l1 l4 I r h; cases h
  | succ fu ih =>
    intro l1 l4 I r h
    have hk193 : ∀ (l1 : Int32) (l4 : Int32) (I : am_I) (r : am_I), bX11_crash_193 G.2.2.2.1 fu l1 l4 I = some r → am_J G (d + 2) mX11_crash am_no (am_E none r) 193 [some (.inr (0, 60)), some (.inl l1), none, none, some (.inl l4), none] [] I := fun l1 l4 I r h => ih h
    unfold bX11_crash_193 at h
    generalize bX11_crash_193 G.2.2.2.1 fu = k193 at hk193 h
    dsimp only at h
    refine am_iload dX11_crash_193 rfl ?_
    refine am_sipush (v := nI 136) dX11_crash_195 (by decide) ?_
    refine am_icmp_ge (tgt := 223) dX11_crash_198 rfl (fun c => ?_) (fun c => ?_)
    · rw [if_pos c] at h
      refine am_iconst (v := nI 0) dX11_crash_223 (by decide) ?_
      refine am_istore dX11_crash_224 (by decide) ?_
      exact am_lwJ (lo' := [some (.inr (0, 60)), some (.inl l1), none, none, some (.inl (nI 0)), none]) ⟨rfl, rfl, rfl, trivial⟩ (tX11_crash_226 hG h)
    · rw [if_neg c] at h
      refine am_aload_n dX11_crash_201 rfl ?_
      refine am_iload dX11_crash_202 rfl ?_
      obtain ⟨q1, hq1, h⟩ := am_bd h
      refine am_callVx (i := 0) (j := 60) (as := [.inl l4]) (rest := []) dX11_crash_204 lkX11_masterOf ml_X11_226 imX11_masterOf seX11_masterOf rfl rfl (hG.m0 (by decide)) rfl (Nat.le_of_ble_eq_true rfl) rfl (sX11_masterOf hG hq1) ?_
      refine am_iload_n dX11_crash_207 rfl ?_
      refine am_icmp_ne (tgt := 217) dX11_crash_208 rfl (fun c => ?_) (fun c => ?_)
      · rw [if_neg c] at h
        exact am_lwJ (lo' := [some (.inr (0, 60)), some (.inl l1), none, none, some (.inl l4), none]) ⟨rfl, rfl, rfl, trivial⟩ (tX11_crash_217 hG hk193 h)
      · rw [if_pos c] at h
        refine am_aload_n dX11_crash_211 rfl ?_
        refine am_iload dX11_crash_212 rfl ?_
        obtain ⟨q2, hq2, h⟩ := am_bd h
        refine am_callVe (i := 0) (j := 60) (as := [.inl l4]) (rest := []) dX11_crash_214 lkX11_noMaster ml_X11_478 imX11_noMaster seX11_noMaster rfl rfl (hG.m0 (by decide)) rfl (Nat.le_of_ble_eq_true rfl) rfl (sX11_noMaster hG hq2) ?_
        exact am_lwJ (lo' := [some (.inr (0, 60)), some (.inl l1), none, none, some (.inl l4), none]) ⟨rfl, rfl, rfl, trivial⟩ (tX11_crash_217 hG hk193 h)
def bX11_crash_185 (n : Nat) (l1 : Int32) (I : am_I) : Option (am_I) := (gX11_noneOf n l1 I).bind (fun q1 => bX11_crash_193 n am_fu l1 (nI 0) q1)
theorem tX11_crash_185 {G : am_G} (hG : am_okM G) {d : Nat} {l1 : Int32} {I : am_I} {r : am_I} (h : bX11_crash_185 G.2.2.2.1 l1  I = some r) : am_J G (d + 2) mX11_crash am_no (am_E none r) 185 [some (.inr (0, 60)), some (.inl l1), none, none, none, none] [] I := by
  unfold bX11_crash_185 at h
  refine am_aload_n dX11_crash_185 rfl ?_
  refine am_iload_n dX11_crash_186 rfl ?_
  obtain ⟨q1, hq1, h⟩ := am_bd h
  refine am_callVe (i := 0) (j := 60) (as := [.inl l1]) (rest := []) dX11_crash_187 lkX11_noneOf ml_X11_475 imX11_noneOf seX11_noneOf rfl rfl (hG.m0 (by decide)) rfl (Nat.le_of_ble_eq_true rfl) rfl (sX11_noneOf hG hq1) ?_
  refine am_iconst (v := nI 0) dX11_crash_190 (by decide) ?_
  refine am_istore dX11_crash_191 (by decide) ?_
  exact am_lwJ (lo' := [some (.inr (0, 60)), some (.inl l1), none, none, some (.inl (nI 0)), none]) ⟨rfl, rfl, rfl, trivial⟩ (tX11_crash_193 hG h)
def bX11_crash_117 (n : Nat) (l1 : Int32) (I : am_I) : Option (am_I) := (gX11_noteGone n l1 I).bind (fun q1 => am_gd (am_inb l1 4) (am_lt (am_up q1 0 71 l1.toNatClampNeg (nI 0)) (fun I3 => am_gd (am_inb l1 4) (am_lt (am_up I3 0 65 l1.toNatClampNeg (nI 0)) (fun I5 => (gX11_isCalling n l1 I5).bind (fun q6 => if q6.1 = 0 then (bX11_crash_185 n l1 q6.2) else (am_gd (am_inb l1 4) (am_lt (am_up q6.2 0 87 l1.toNatClampNeg (nI 4)) (fun I8 => am_gd (am_inb l1 4) (am_lt (am_up I8 0 88 l1.toNatClampNeg (nI 0)) (fun I10 => am_gd (am_inb l1 4) (am_gd (am_inb l1 4) (am_lt (am_up I10 0 90 l1.toNatClampNeg ((I10 0 60 2) - (I10 0 89 l1.toNatClampNeg))) (fun I13 => am_lt (am_up I13 0 60 50 ((I13 0 60 50) + (nI 1))) (fun I14 => bX11_crash_185 n l1 I14)))))))))))))))
theorem tX11_crash_117 {G : am_G} (hG : am_okM G) {d : Nat} {l1 : Int32} {I : am_I} {r : am_I} (h : bX11_crash_117 G.2.2.2.1 l1  I = some r) : am_J G (d + 2) mX11_crash am_no (am_E none r) 117 [some (.inr (0, 60)), some (.inl l1), none, none, none, none] [] I := by
  unfold bX11_crash_117 at h
  refine am_aload_n dX11_crash_117 rfl ?_
  refine am_iload_n dX11_crash_118 rfl ?_
  obtain ⟨q1, hq1, h⟩ := am_bd h
  refine am_callVe (i := 0) (j := 60) (as := [.inl l1]) (rest := []) dX11_crash_119 lkX11_noteGone ml_X11_469 imX11_noteGone seX11_noteGone rfl rfl (hG.m0 (by decide)) rfl (Nat.le_of_ble_eq_true rfl) rfl (sX11_noteGone hG hq1) ?_
  refine am_aload_n dX11_crash_122 rfl ?_
  refine am_get (v := .inr (0, 71)) dX11_crash_123 fl_11_33 (hG.m0 (by decide)) rfl ?_
  refine am_iload_n dX11_crash_126 rfl ?_
  refine am_iconst (v := nI 0) dX11_crash_127 (by decide) ?_
  obtain ⟨g2, h⟩ := am_gd_some h
  refine am_iastG dX11_crash_128 (hG.m0 (by decide)) rfl g2 (show 4 < 2 ^ 31 by decide) ?_
  obtain ⟨I3, hI3, h⟩ := am_lt_some h
  refine am_st10 hI3 ?_
  refine am_aload_n dX11_crash_129 rfl ?_
  refine am_get (v := .inr (0, 65)) dX11_crash_130 fl_11_13 (hG.m0 (by decide)) rfl ?_
  refine am_iload_n dX11_crash_133 rfl ?_
  refine am_iconst (v := nI 0) dX11_crash_134 (by decide) ?_
  obtain ⟨g4, h⟩ := am_gd_some h
  refine am_zastG dX11_crash_135 (hG.m0 (by decide)) rfl (by decide) g4 (show 4 < 2 ^ 31 by decide) ?_
  obtain ⟨I5, hI5, h⟩ := am_lt_some h
  refine am_st10 hI5 ?_
  refine am_aload_n dX11_crash_136 rfl ?_
  refine am_iload_n dX11_crash_137 rfl ?_
  obtain ⟨q6, hq6, h⟩ := am_bd h
  refine am_callVx (i := 0) (j := 60) (as := [.inl l1]) (rest := []) dX11_crash_138 lkX11_isCalling ml_X11_264 imX11_isCalling seX11_isCalling rfl rfl (hG.m0 (by decide)) rfl (Nat.le_of_ble_eq_true rfl) rfl (sX11_isCalling hG hq6) ?_
  refine am_if_eq (tgt := 185) dX11_crash_141 rfl (fun c => ?_) (fun c => ?_)
  · rw [if_pos c] at h
    exact am_lwJ (lo' := [some (.inr (0, 60)), some (.inl l1), none, none, none, none]) ⟨rfl, rfl, trivial⟩ (tX11_crash_185 hG h)
  · rw [if_neg c] at h
    refine am_aload_n dX11_crash_144 rfl ?_
    refine am_get (v := .inr (0, 87)) dX11_crash_145 fl_11_81 (hG.m0 (by decide)) rfl ?_
    refine am_iload_n dX11_crash_148 rfl ?_
    refine am_iconst (v := nI 4) dX11_crash_149 (by decide) ?_
    obtain ⟨g7, h⟩ := am_gd_some h
    refine am_iastG dX11_crash_150 (hG.m0 (by decide)) rfl g7 (show 4 < 2 ^ 31 by decide) ?_
    obtain ⟨I8, hI8, h⟩ := am_lt_some h
    refine am_st10 hI8 ?_
    refine am_aload_n dX11_crash_151 rfl ?_
    refine am_get (v := .inr (0, 88)) dX11_crash_152 fl_11_84 (hG.m0 (by decide)) rfl ?_
    refine am_iload_n dX11_crash_155 rfl ?_
    refine am_iconst (v := nI 0) dX11_crash_156 (by decide) ?_
    obtain ⟨g9, h⟩ := am_gd_some h
    refine am_iastG dX11_crash_157 (hG.m0 (by decide)) rfl g9 (show 4 < 2 ^ 31 by decide) ?_
    obtain ⟨I10, hI10, h⟩ := am_lt_some h
    refine am_st10 hI10 ?_
    refine am_aload_n dX11_crash_158 rfl ?_
    refine am_get (v := .inr (0, 90)) dX11_crash_159 fl_11_90 (hG.m0 (by decide)) rfl ?_
    refine am_iload_n dX11_crash_162 rfl ?_
    refine am_aload_n dX11_crash_163 rfl ?_
    refine am_get (v := .inl (I10 0 60 2)) dX11_crash_164 fl_11_194 (hG.m0 (by decide)) rfl ?_
    refine am_aload_n dX11_crash_167 rfl ?_
    refine am_get (v := .inr (0, 89)) dX11_crash_168 fl_11_87 (hG.m0 (by decide)) rfl ?_
    refine am_iload_n dX11_crash_171 rfl ?_
    obtain ⟨g11, h⟩ := am_gd_some h
    refine am_ialdG dX11_crash_172 (hG.m0 (by decide)) rfl g11 (show 4 < 2 ^ 31 by decide) ?_
    refine am_isub dX11_crash_173 ?_
    obtain ⟨g12, h⟩ := am_gd_some h
    refine am_iastG dX11_crash_174 (hG.m0 (by decide)) rfl g12 (show 4 < 2 ^ 31 by decide) ?_
    obtain ⟨I13, hI13, h⟩ := am_lt_some h
    refine am_st10 hI13 ?_
    refine am_aload_n dX11_crash_175 rfl ?_
    refine am_dup dX11_crash_176 ?_
    refine am_get (v := .inl (I13 0 60 50)) dX11_crash_177 fl_11_472 (hG.m0 (by decide)) rfl ?_
    refine am_iconst (v := nI 1) dX11_crash_180 (by decide) ?_
    refine am_iadd dX11_crash_181 ?_
    refine am_put (x := (I13 0 60 50) + (nI 1)) dX11_crash_182 fp_11_472 (hG.m0 (by decide)) (Nat.le_of_ble_eq_true rfl) rfl ?_
    obtain ⟨I14, hI14, h⟩ := am_lt_some h
    refine am_st10 hI14 ?_
    exact am_lwJ (lo' := [some (.inr (0, 60)), some (.inl l1), none, none, none, none]) ⟨rfl, rfl, trivial⟩ (tX11_crash_185 hG h)
def bX11_crash_52 (n : Nat) (l1 : Int32) (l2 : Int32) (s0 : Int32) (s1 : Int32) (I : am_I) : Option (am_I) := (gX11_refuse n s1 s0 (nI 0) I).bind (fun q1 => if q1.1 = 0 then (am_gd (am_inb l1 4) (if (q1.2 0 72 l1.toNatClampNeg) ≤ 0 then (bX11_crash_117 n l1 q1.2) else (am_gd (am_inb l1 4) (am_gd (am_inb (((nI 36) * l1) + (q1.2 0 73 l1.toNatClampNeg)) 144) ((gX11_putWords n (q1.2 0 74 ((((nI 36) * l1) + (q1.2 0 73 l1.toNatClampNeg)).toNatClampNeg)) ((nI 16) * (((nI 36) * l1) + (q1.2 0 73 l1.toNatClampNeg))) l2 q1.2).bind (fun q5 => (gX11_isCounting n l1 q5).bind (fun q6 => if q6.1 = 0 then (bX11_crash_117 n l1 q6.2) else (if l2 ≤ (nI 2) then (bX11_crash_117 n l1 q6.2) else ((gX11_noteSafe n l1 q6.2).bind (fun q7 => bX11_crash_117 n l1 q7)))))))))) else (some q1.2))
theorem tX11_crash_52 {G : am_G} (hG : am_okM G) {d : Nat} {l1 : Int32} {l2 : Int32} {s0 : Int32} {s1 : Int32} {I : am_I} {r : am_I} (h : bX11_crash_52 G.2.2.2.1 l1 l2 s0 s1  I = some r) : am_J G (d + 2) mX11_crash am_no (am_E none r) 52 [some (.inr (0, 60)), some (.inl l1), some (.inl l2), none, none, none] [.inl s0, .inl s1, .inr (0, 60)] I := by
  unfold bX11_crash_52 at h
  refine am_iconst (v := nI 0) dX11_crash_52 (by decide) ?_
  obtain ⟨q1, hq1, h⟩ := am_bd h
  refine am_callVx (i := 0) (j := 60) (as := [.inl s1, .inl s0, .inl (nI 0)]) (rest := []) dX11_crash_53 lkX11_refuse ml_X11_441 imX11_refuse seX11_refuse rfl rfl (hG.m0 (by decide)) rfl (Nat.le_of_ble_eq_true rfl) rfl (sX11_refuse hG hq1) ?_
  refine am_if_eq (tgt := 60) dX11_crash_56 rfl (fun c => ?_) (fun c => ?_)
  · rw [if_pos c] at h
    refine am_aload_n dX11_crash_60 rfl ?_
    refine am_get (v := .inr (0, 72)) dX11_crash_61 fl_11_36 (hG.m0 (by decide)) rfl ?_
    refine am_iload_n dX11_crash_64 rfl ?_
    obtain ⟨g2, h⟩ := am_gd_some h
    refine am_ialdG dX11_crash_65 (hG.m0 (by decide)) rfl g2 (show 4 < 2 ^ 31 by decide) ?_
    refine am_if_le (tgt := 117) dX11_crash_66 rfl (fun c => ?_) (fun c => ?_)
    · rw [if_pos c] at h
      exact am_lwJ (lo' := [some (.inr (0, 60)), some (.inl l1), none, none, none, none]) ⟨rfl, rfl, trivial⟩ (tX11_crash_117 hG h)
    · rw [if_neg c] at h
      refine am_bipush (v := nI 36) dX11_crash_69 (by decide) ?_
      refine am_iload_n dX11_crash_71 rfl ?_
      refine am_imul dX11_crash_72 ?_
      refine am_aload_n dX11_crash_73 rfl ?_
      refine am_get (v := .inr (0, 73)) dX11_crash_74 fl_11_39 (hG.m0 (by decide)) rfl ?_
      refine am_iload_n dX11_crash_77 rfl ?_
      obtain ⟨g3, h⟩ := am_gd_some h
      refine am_ialdG dX11_crash_78 (hG.m0 (by decide)) rfl g3 (show 4 < 2 ^ 31 by decide) ?_
      refine am_iadd dX11_crash_79 ?_
      refine am_istore dX11_crash_80 (by decide) ?_
      refine am_aload_n dX11_crash_82 rfl ?_
      refine am_aload_n dX11_crash_83 rfl ?_
      refine am_get (v := .inr (0, 74)) dX11_crash_84 fl_11_42 (hG.m0 (by decide)) rfl ?_
      refine am_iload dX11_crash_87 rfl ?_
      obtain ⟨g4, h⟩ := am_gd_some h
      refine am_ialdG dX11_crash_89 (hG.m0 (by decide)) rfl g4 (show 144 < 2 ^ 31 by decide) ?_
      refine am_bipush (v := nI 16) dX11_crash_90 (by decide) ?_
      refine am_iload dX11_crash_92 rfl ?_
      refine am_imul dX11_crash_94 ?_
      refine am_iload_n dX11_crash_95 rfl ?_
      obtain ⟨q5, hq5, h⟩ := am_bd h
      refine am_callVe (i := 0) (j := 60) (as := [.inl (q1.2 0 74 ((((nI 36) * l1) + (q1.2 0 73 l1.toNatClampNeg)).toNatClampNeg)), .inl ((nI 16) * (((nI 36) * l1) + (q1.2 0 73 l1.toNatClampNeg))), .inl l2]) (rest := []) dX11_crash_96 lkX11_putWords ml_X11_451 imX11_putWords seX11_putWords rfl rfl (hG.m0 (by decide)) rfl (Nat.le_of_ble_eq_true rfl) rfl (sX11_putWords hG hq5) ?_
      refine am_aload_n dX11_crash_99 rfl ?_
      refine am_iload_n dX11_crash_100 rfl ?_
      obtain ⟨q6, hq6, h⟩ := am_bd h
      refine am_callVx (i := 0) (j := 60) (as := [.inl l1]) (rest := []) dX11_crash_101 lkX11_isCounting ml_X11_457 imX11_isCounting seX11_isCounting rfl rfl (hG.m0 (by decide)) rfl (Nat.le_of_ble_eq_true rfl) rfl (sX11_isCounting hG hq6) ?_
      refine am_if_eq (tgt := 117) dX11_crash_104 rfl (fun c => ?_) (fun c => ?_)
      · rw [if_pos c] at h
        exact am_lwJ (lo' := [some (.inr (0, 60)), some (.inl l1), none, none, none, none]) ⟨rfl, rfl, trivial⟩ (tX11_crash_117 hG h)
      · rw [if_neg c] at h
        refine am_iload_n dX11_crash_107 rfl ?_
        refine am_iconst (v := nI 2) dX11_crash_108 (by decide) ?_
        refine am_icmp_le (tgt := 117) dX11_crash_109 rfl (fun c => ?_) (fun c => ?_)
        · rw [if_pos c] at h
          exact am_lwJ (lo' := [some (.inr (0, 60)), some (.inl l1), none, none, none, none]) ⟨rfl, rfl, trivial⟩ (tX11_crash_117 hG h)
        · rw [if_neg c] at h
          refine am_aload_n dX11_crash_112 rfl ?_
          refine am_iload_n dX11_crash_113 rfl ?_
          obtain ⟨q7, hq7, h⟩ := am_bd h
          refine am_callVe (i := 0) (j := 60) (as := [.inl l1]) (rest := []) dX11_crash_114 lkX11_noteSafe ml_X11_460 imX11_noteSafe seX11_noteSafe rfl rfl (hG.m0 (by decide)) rfl (Nat.le_of_ble_eq_true rfl) rfl (sX11_noteSafe hG hq7) ?_
          exact am_lwJ (lo' := [some (.inr (0, 60)), some (.inl l1), none, none, none, none]) ⟨rfl, rfl, trivial⟩ (tX11_crash_117 hG h)
  · rw [if_neg c] at h
    cases h
    exact am_vret dX11_crash_59 rfl ⟨rfl, rfl⟩
def bX11_crash_51 (n : Nat) (l1 : Int32) (l2 : Int32) (s0 : Int32) (I : am_I) : Option (am_I) := bX11_crash_52 n l1 l2 (nI 0) s0 I
theorem tX11_crash_51 {G : am_G} (hG : am_okM G) {d : Nat} {l1 : Int32} {l2 : Int32} {s0 : Int32} {I : am_I} {r : am_I} (h : bX11_crash_51 G.2.2.2.1 l1 l2 s0  I = some r) : am_J G (d + 2) mX11_crash am_no (am_E none r) 51 [some (.inr (0, 60)), some (.inl l1), some (.inl l2), none, none, none] [.inl s0, .inr (0, 60)] I := by
  unfold bX11_crash_51 at h
  refine am_iconst (v := nI 0) dX11_crash_51 (by decide) ?_
  exact am_lwJ (lo' := [some (.inr (0, 60)), some (.inl l1), some (.inl l2), none, none, none]) ⟨rfl, rfl, rfl, trivial⟩ (tX11_crash_52 hG h)
def bX11_crash_34 (n : Nat) (l1 : Int32) (l2 : Int32) (l3 : Int32) (s0 : Int32) (I : am_I) : Option (am_I) := if l3 = 0 then (bX11_crash_51 n l1 l2 s0 I) else (am_gd (am_inb l1 4) (if (I 0 65 l1.toNatClampNeg) = 0 then (bX11_crash_52 n l1 l2 (nI 1) s0 I) else (bX11_crash_51 n l1 l2 s0 I)))
theorem tX11_crash_34 {G : am_G} (hG : am_okM G) {d : Nat} {l1 : Int32} {l2 : Int32} {l3 : Int32} {s0 : Int32} {I : am_I} {r : am_I} (h : bX11_crash_34 G.2.2.2.1 l1 l2 l3 s0  I = some r) : am_J G (d + 2) mX11_crash am_no (am_E none r) 34 [some (.inr (0, 60)), some (.inl l1), some (.inl l2), some (.inl l3), none, none] [.inl s0, .inr (0, 60)] I := by
  unfold bX11_crash_34 at h
  refine am_iload_n dX11_crash_34 rfl ?_
  refine am_if_eq (tgt := 51) dX11_crash_35 rfl (fun c => ?_) (fun c => ?_)
  · rw [if_pos c] at h
    exact am_lwJ (lo' := [some (.inr (0, 60)), some (.inl l1), some (.inl l2), none, none, none]) ⟨rfl, rfl, rfl, trivial⟩ (tX11_crash_51 hG h)
  · rw [if_neg c] at h
    refine am_aload_n dX11_crash_38 rfl ?_
    refine am_get (v := .inr (0, 65)) dX11_crash_39 fl_11_13 (hG.m0 (by decide)) rfl ?_
    refine am_iload_n dX11_crash_42 rfl ?_
    obtain ⟨g1, h⟩ := am_gd_some h
    refine am_zaldG dX11_crash_43 (hG.m0 (by decide)) rfl g1 (show 4 < 2 ^ 31 by decide) ?_
    refine am_if_ne (tgt := 51) dX11_crash_44 rfl (fun c => ?_) (fun c => ?_)
    · rw [if_neg c] at h
      exact am_lwJ (lo' := [some (.inr (0, 60)), some (.inl l1), some (.inl l2), none, none, none]) ⟨rfl, rfl, rfl, trivial⟩ (tX11_crash_51 hG h)
    · rw [if_pos c] at h
      refine am_iconst (v := nI 1) dX11_crash_47 (by decide) ?_
      refine am_goto (tgt := 52) dX11_crash_48 rfl ?_
      exact am_lwJ (lo' := [some (.inr (0, 60)), some (.inl l1), some (.inl l2), none, none, none]) ⟨rfl, rfl, rfl, trivial⟩ (tX11_crash_52 hG h)
def bX11_crash_23 (n : Nat) (l1 : Int32) (l2 : Int32) (s0 : Int32) (I : am_I) : Option (am_I) := if s0 = 0 then (bX11_crash_34 n l1 l2 s0 (nI 1) I) else (bX11_crash_34 n l1 l2 s0 (nI 0) I)
theorem tX11_crash_23 {G : am_G} (hG : am_okM G) {d : Nat} {l1 : Int32} {l2 : Int32} {s0 : Int32} {I : am_I} {r : am_I} (h : bX11_crash_23 G.2.2.2.1 l1 l2 s0  I = some r) : am_J G (d + 2) mX11_crash am_no (am_E none r) 23 [some (.inr (0, 60)), some (.inl l1), some (.inl l2), none, none, none] [.inl s0] I := by
  unfold bX11_crash_23 at h
  refine am_istore_n dX11_crash_23 (by decide) ?_
  refine am_aload_n dX11_crash_24 rfl ?_
  refine am_iload_n dX11_crash_25 rfl ?_
  refine am_if_ne (tgt := 33) dX11_crash_26 rfl (fun c => ?_) (fun c => ?_)
  · rw [if_neg c] at h
    refine am_iconst (v := nI 0) dX11_crash_33 (by decide) ?_
    exact am_lwJ (lo' := [some (.inr (0, 60)), some (.inl l1), some (.inl l2), some (.inl s0), none, none]) ⟨rfl, rfl, rfl, rfl, trivial⟩ (tX11_crash_34 hG h)
  · rw [if_pos c] at h
    refine am_iconst (v := nI 1) dX11_crash_29 (by decide) ?_
    refine am_goto (tgt := 34) dX11_crash_30 rfl ?_
    exact am_lwJ (lo' := [some (.inr (0, 60)), some (.inl l1), some (.inl l2), some (.inl s0), none, none]) ⟨rfl, rfl, rfl, rfl, trivial⟩ (tX11_crash_34 hG h)
def bX11_crash_22 (n : Nat) (l1 : Int32) (l2 : Int32) (I : am_I) : Option (am_I) := bX11_crash_23 n l1 l2 (nI 0) I
theorem tX11_crash_22 {G : am_G} (hG : am_okM G) {d : Nat} {l1 : Int32} {l2 : Int32} {I : am_I} {r : am_I} (h : bX11_crash_22 G.2.2.2.1 l1 l2  I = some r) : am_J G (d + 2) mX11_crash am_no (am_E none r) 22 [some (.inr (0, 60)), some (.inl l1), some (.inl l2), none, none, none] [] I := by
  unfold bX11_crash_22 at h
  refine am_iconst (v := nI 0) dX11_crash_22 (by decide) ?_
  exact am_lwJ (lo' := [some (.inr (0, 60)), some (.inl l1), some (.inl l2), none, none, none]) ⟨rfl, rfl, rfl, trivial⟩ (tX11_crash_23 hG h)
def bX11_crash_0 (n : Nat) (l1 : Int32) (l2 : Int32) (I : am_I) : Option (am_I) := (gX11_isNode n l1 I).bind (fun q1 => if q1.1 = 0 then (bX11_crash_22 n l1 l2 q1.2) else ((gX11_in n l2 (nI 0) (nI 15) q1.2).bind (fun q2 => if q2.1 = 0 then (bX11_crash_22 n l1 l2 q2.2) else (bX11_crash_23 n l1 l2 (nI 1) q2.2))))
theorem tX11_crash_0 {G : am_G} (hG : am_okM G) {d : Nat} {l1 : Int32} {l2 : Int32} {I : am_I} {r : am_I} (h : bX11_crash_0 G.2.2.2.1 l1 l2  I = some r) : am_J G (d + 2) mX11_crash am_no (am_E none r) 0 [some (.inr (0, 60)), some (.inl l1), some (.inl l2), none, none, none] [] I := by
  unfold bX11_crash_0 at h
  refine am_aload_n dX11_crash_0 rfl ?_
  refine am_iload_n dX11_crash_1 rfl ?_
  obtain ⟨q1, hq1, h⟩ := am_bd h
  refine am_callVx (i := 0) (j := 60) (as := [.inl l1]) (rest := []) dX11_crash_2 lkX11_isNode ml_X11_434 imX11_isNode seX11_isNode rfl rfl (hG.m0 (by decide)) rfl (Nat.le_of_ble_eq_true rfl) rfl (sX11_isNode hG hq1) ?_
  refine am_if_eq (tgt := 22) dX11_crash_5 rfl (fun c => ?_) (fun c => ?_)
  · rw [if_pos c] at h
    exact am_lwJ (lo' := [some (.inr (0, 60)), some (.inl l1), some (.inl l2), none, none, none]) ⟨rfl, rfl, rfl, trivial⟩ (tX11_crash_22 hG h)
  · rw [if_neg c] at h
    refine am_iload_n dX11_crash_8 rfl ?_
    refine am_iconst (v := nI 0) dX11_crash_9 (by decide) ?_
    refine am_bipush (v := nI 15) dX11_crash_10 (by decide) ?_
    obtain ⟨q2, hq2, h⟩ := am_bd h
    refine am_callSx (as := [.inl l2, .inl (nI 0), .inl (nI 15)]) (rest := []) dX11_crash_12 lkX11_in ml_X11_243 isX11_in rfl (Nat.le_of_ble_eq_true rfl) rfl (sX11_in hG hq2) ?_
    refine am_if_eq (tgt := 22) dX11_crash_15 rfl (fun c => ?_) (fun c => ?_)
    · rw [if_pos c] at h
      exact am_lwJ (lo' := [some (.inr (0, 60)), some (.inl l1), some (.inl l2), none, none, none]) ⟨rfl, rfl, rfl, trivial⟩ (tX11_crash_22 hG h)
    · rw [if_neg c] at h
      refine am_iconst (v := nI 1) dX11_crash_18 (by decide) ?_
      refine am_goto (tgt := 23) dX11_crash_19 rfl ?_
      exact am_lwJ (lo' := [some (.inr (0, 60)), some (.inl l1), some (.inl l2), none, none, none]) ⟨rfl, rfl, rfl, trivial⟩ (tX11_crash_23 hG h)
def gX11_crash (n : Nat) (l1 : Int32) (l2 : Int32) (I : am_I) : Option (am_I) := bX11_crash_0 n l1 l2 I
theorem sX11_crash {G : am_G} (hG : am_okM G) {d : Nat} {l1 : Int32} {l2 : Int32} {I : am_I} {r : am_I} (h : gX11_crash G.2.2.2.1 l1 l2 I = some r) : am_C G (d + 2) mX11_crash [.inr (0, 60), .inl l1, .inl l2] I (am_E none r) :=
  am_of (by decide +kernel) hG.nd (Nat.le_of_ble_eq_true rfl) (am_lwJ (lo' := [some (.inr (0, 60)), some (.inl l1), some (.inl l2), none, none, none]) ⟨rfl, rfl, rfl, trivial⟩ (tX11_crash_0 hG h))
def bX11_isDead_23 (n : Nat) (s0 : Int32) (I : am_I) : Option (Int32 × am_I) := am_gd (am_01 s0) (some (s0, I))
theorem tX11_isDead_23 {G : am_G} (hG : am_okM G) {d : Nat} {s0 : Int32} {I : am_I} {r : Int32 × am_I} (h : bX11_isDead_23 G.2.2.2.1 s0  I = some r) : am_J G d mX11_isDead am_no (am_E (some r.1) r.2) 23 [none, none] [.inl s0] I := by
  unfold bX11_isDead_23 at h
  obtain ⟨g1, h⟩ := am_gd_some h
  cases h
  exact am_iret dX11_isDead_23 rfl (am_nz (am_01_of g1)).1 ⟨rfl, rfl⟩
def bX11_isDead_22 (n : Nat) (I : am_I) : Option (Int32 × am_I) := bX11_isDead_23 n (nI 0) I
theorem tX11_isDead_22 {G : am_G} (hG : am_okM G) {d : Nat} {I : am_I} {r : Int32 × am_I} (h : bX11_isDead_22 G.2.2.2.1  I = some r) : am_J G d mX11_isDead am_no (am_E (some r.1) r.2) 22 [none, none] [] I := by
  unfold bX11_isDead_22 at h
  refine am_iconst (v := nI 0) dX11_isDead_22 (by decide) ?_
  exact am_lwJ (lo' := [none, none]) trivial (tX11_isDead_23 hG h)
def bX11_isDead_0 (n : Nat) (l1 : Int32) (I : am_I) : Option (Int32 × am_I) := am_gd (am_inb l1 4) (if (I 0 65 l1.toNatClampNeg) = 0 then (am_gd (am_inb l1 4) (if (I 0 66 l1.toNatClampNeg) = 0 then (bX11_isDead_22 n I) else (bX11_isDead_23 n (nI 1) I))) else (bX11_isDead_22 n I))
theorem tX11_isDead_0 {G : am_G} (hG : am_okM G) {d : Nat} {l1 : Int32} {I : am_I} {r : Int32 × am_I} (h : bX11_isDead_0 G.2.2.2.1 l1  I = some r) : am_J G d mX11_isDead am_no (am_E (some r.1) r.2) 0 [some (.inr (0, 60)), some (.inl l1)] [] I := by
  unfold bX11_isDead_0 at h
  refine am_aload_n dX11_isDead_0 rfl ?_
  refine am_get (v := .inr (0, 65)) dX11_isDead_1 fl_11_13 (hG.m0 (by decide)) rfl ?_
  refine am_iload_n dX11_isDead_4 rfl ?_
  obtain ⟨g1, h⟩ := am_gd_some h
  refine am_zaldG dX11_isDead_5 (hG.m0 (by decide)) rfl g1 (show 4 < 2 ^ 31 by decide) ?_
  refine am_if_ne (tgt := 22) dX11_isDead_6 rfl (fun c => ?_) (fun c => ?_)
  · rw [if_neg c] at h
    exact am_lwJ (lo' := [none, none]) trivial (tX11_isDead_22 hG h)
  · rw [if_pos c] at h
    refine am_aload_n dX11_isDead_9 rfl ?_
    refine am_get (v := .inr (0, 66)) dX11_isDead_10 fl_11_17 (hG.m0 (by decide)) rfl ?_
    refine am_iload_n dX11_isDead_13 rfl ?_
    obtain ⟨g2, h⟩ := am_gd_some h
    refine am_zaldG dX11_isDead_14 (hG.m0 (by decide)) rfl g2 (show 4 < 2 ^ 31 by decide) ?_
    refine am_if_eq (tgt := 22) dX11_isDead_15 rfl (fun c => ?_) (fun c => ?_)
    · rw [if_pos c] at h
      exact am_lwJ (lo' := [none, none]) trivial (tX11_isDead_22 hG h)
    · rw [if_neg c] at h
      refine am_iconst (v := nI 1) dX11_isDead_18 (by decide) ?_
      refine am_goto (tgt := 23) dX11_isDead_19 rfl ?_
      exact am_lwJ (lo' := [none, none]) trivial (tX11_isDead_23 hG h)
def gX11_isDead (n : Nat) (l1 : Int32) (I : am_I) : Option (Int32 × am_I) := bX11_isDead_0 n l1 I
theorem sX11_isDead {G : am_G} (hG : am_okM G) {d : Nat} {l1 : Int32} {I : am_I} {r : Int32 × am_I} (h : gX11_isDead G.2.2.2.1 l1 I = some r) : am_C G d mX11_isDead [.inr (0, 60), .inl l1] I (am_E (some r.1) r.2) :=
  am_of (by decide +kernel) hG.nd (Nat.le_of_ble_eq_true rfl) (am_lwJ (lo' := [some (.inr (0, 60)), some (.inl l1)]) ⟨rfl, rfl, trivial⟩ (tX11_isDead_0 hG h))
def bX11_play_66 (n : Nat) (k41 : Int32 → Int32 → Int32 → Int32 → am_I → Option (Int32 × am_I)) : Nat → Int32 → Int32 → Int32 → Int32 → Int32 → Int32 → am_I → Option (Int32 × am_I)
  | 0, _, _, _, _, _, _, _ => none
  | fu + 1, l1, l2, l3, l4, l5, l6, I => (fun k66 => if (nI 16) ≤ l6 then (k41 l1 l2 l3 (l4 + nI 1) I) else (am_gd (am_inb (((nI 16) * ((l2 + (nI 2)) + l4)) + l6) 10240) (am_gd (am_inb (((nI 16) * l5) + l6) 10240) (am_lt (am_up I 0 64 (((nI 16) * l5) + l6).toNatClampNeg (I 0 64 ((((nI 16) * ((l2 + (nI 2)) + l4)) + l6).toNatClampNeg))) (fun I3 => k66 l1 l2 l3 l4 l5 (l6 + nI 1) I3))))) (bX11_play_66 n k41 fu)
theorem tX11_play_66 {G : am_G} (hG : am_okM G) {d : Nat} {k41 : Int32 → Int32 → Int32 → Int32 → am_I → Option (Int32 × am_I)} (hk41 : ∀ (l1 : Int32) (l2 : Int32) (l3 : Int32) (l4 : Int32) (I : am_I) (r : Int32 × am_I), k41 l1 l2 l3 l4 I = some r → am_J G d mX11_play am_no (am_E (some r.1) r.2) 41 [some (.inr (0, 60)), some (.inl l1), some (.inl l2), some (.inl l3), some (.inl l4), none, none] [] I) : ∀ {fu : Nat} {l1 : Int32} {l2 : Int32} {l3 : Int32} {l4 : Int32} {l5 : Int32} {l6 : Int32} {I : am_I} {r : Int32 × am_I}, bX11_play_66 G.2.2.2.1 k41 fu l1 l2 l3 l4 l5 l6 I = some r → am_J G d mX11_play am_no (am_E (some r.1) r.2) 66 [some (.inr (0, 60)), some (.inl l1), some (.inl l2), some (.inl l3), some (.inl l4), some (.inl l5), some (.inl l6)] [] I := by
  intro fu
  induction fu with
  | zero => intro l1 l2 l3 l4 l5 l6 I r h; cases h
  | succ fu ih =>
    intro l1 l2 l3 l4 l5 l6 I r h
    have hk66 : ∀ (l1 : Int32) (l2 : Int32) (l3 : Int32) (l4 : Int32) (l5 : Int32) (l6 : Int32) (I : am_I) (r : Int32 × am_I), bX11_play_66 G.2.2.2.1 k41 fu l1 l2 l3 l4 l5 l6 I = some r → am_J G d mX11_play am_no (am_E (some r.1) r.2) 66 [some (.inr (0, 60)), some (.inl l1), some (.inl l2), some (.inl l3), some (.inl l4), some (.inl l5), some (.inl l6)] [] I := fun l1 l2 l3 l4 l5 l6 I r h => ih h
    unfold bX11_play_66 at h
    generalize bX11_play_66 G.2.2.2.1 k41 fu = k66 at hk66 h
    dsimp only at h
    refine am_iload dX11_play_66 rfl ?_
    refine am_bipush (v := nI 16) dX11_play_68 (by decide) ?_
    refine am_icmp_ge (tgt := 109) dX11_play_70 rfl (fun c => ?_) (fun c => ?_)
    · rw [if_pos c] at h
      refine am_iinc (v := l4 + nI 1) dX11_play_109 rfl rfl ?_
      refine am_goto (tgt := 41) dX11_play_112 rfl ?_
      exact am_lwJ (lo' := [some (.inr (0, 60)), some (.inl l1), some (.inl l2), some (.inl l3), some (.inl (l4 + nI 1)), none, none]) ⟨rfl, rfl, rfl, rfl, rfl, trivial⟩ (hk41 l1 l2 l3 (l4 + nI 1) _ _ h)
    · rw [if_neg c] at h
      refine am_aload_n dX11_play_73 rfl ?_
      refine am_get (v := .inr (0, 64)) dX11_play_74 fl_11_7 (hG.m0 (by decide)) rfl ?_
      refine am_bipush (v := nI 16) dX11_play_77 (by decide) ?_
      refine am_iload dX11_play_79 rfl ?_
      refine am_imul dX11_play_81 ?_
      refine am_iload dX11_play_82 rfl ?_
      refine am_iadd dX11_play_84 ?_
      refine am_aload_n dX11_play_85 rfl ?_
      refine am_get (v := .inr (0, 64)) dX11_play_86 fl_11_7 (hG.m0 (by decide)) rfl ?_
      refine am_bipush (v := nI 16) dX11_play_89 (by decide) ?_
      refine am_iload_n dX11_play_91 rfl ?_
      refine am_iconst (v := nI 2) dX11_play_92 (by decide) ?_
      refine am_iadd dX11_play_93 ?_
      refine am_iload dX11_play_94 rfl ?_
      refine am_iadd dX11_play_96 ?_
      refine am_imul dX11_play_97 ?_
      refine am_iload dX11_play_98 rfl ?_
      refine am_iadd dX11_play_100 ?_
      obtain ⟨g1, h⟩ := am_gd_some h
      refine am_ialdG dX11_play_101 (hG.m0 (by decide)) rfl g1 (show 10240 < 2 ^ 31 by decide) ?_
      obtain ⟨g2, h⟩ := am_gd_some h
      refine am_iastG dX11_play_102 (hG.m0 (by decide)) rfl g2 (show 10240 < 2 ^ 31 by decide) ?_
      obtain ⟨I3, hI3, h⟩ := am_lt_some h
      refine am_st10 hI3 ?_
      refine am_iinc (v := l6 + nI 1) dX11_play_103 rfl rfl ?_
      refine am_goto (tgt := 66) dX11_play_106 rfl ?_
      exact am_lwJ (lo' := [some (.inr (0, 60)), some (.inl l1), some (.inl l2), some (.inl l3), some (.inl l4), some (.inl l5), some (.inl (l6 + nI 1))]) ⟨rfl, rfl, rfl, rfl, rfl, rfl, rfl, trivial⟩ (hk66 l1 l2 l3 l4 l5 (l6 + nI 1) _ _ h)
def bX11_play_41 (n : Nat) : Nat → Int32 → Int32 → Int32 → Int32 → am_I → Option (Int32 × am_I)
  | 0, _, _, _, _, _ => none
  | fu + 1, l1, l2, l3, l4, I => (fun k41 => if l3 ≤ l4 then (am_gd (am_inb (((nI 16) * l2) + (nI 2)) 10240) (am_lt (am_up I 0 64 (((nI 16) * l2) + (nI 2)).toNatClampNeg (nI 0)) (fun I2 => am_gd (am_inb l1 4) (am_lt (am_up I2 0 66 l1.toNatClampNeg (nI 0)) (fun I4 => some (l3, I4)))))) else (am_gd (am_inb (((nI 16) * (l2 + (nI 1))) + l4) 10240) (bX11_play_66 n k41 am_fu l1 l2 l3 l4 (I 0 64 ((((nI 16) * (l2 + (nI 1))) + l4).toNatClampNeg)) (nI 0) I))) (bX11_play_41 n fu)
theorem tX11_play_41 {G : am_G} (hG : am_okM G) {d : Nat} : ∀ {fu : Nat} {l1 : Int32} {l2 : Int32} {l3 : Int32} {l4 : Int32} {I : am_I} {r : Int32 × am_I}, bX11_play_41 G.2.2.2.1 fu l1 l2 l3 l4 I = some r → am_J G d mX11_play am_no (am_E (some r.1) r.2) 41 [some (.inr (0, 60)), some (.inl l1), some (.inl l2), some (.inl l3), some (.inl l4), none, none] [] I := by
  intro fu
  induction fu with
  | zero => intro l1 l2 l3 l4 I r h; cases h
  | succ fu ih =>
    intro l1 l2 l3 l4 I r h
    have hk41 : ∀ (l1 : Int32) (l2 : Int32) (l3 : Int32) (l4 : Int32) (I : am_I) (r : Int32 × am_I), bX11_play_41 G.2.2.2.1 fu l1 l2 l3 l4 I = some r → am_J G d mX11_play am_no (am_E (some r.1) r.2) 41 [some (.inr (0, 60)), some (.inl l1), some (.inl l2), some (.inl l3), some (.inl l4), none, none] [] I := fun l1 l2 l3 l4 I r h => ih h
    unfold bX11_play_41 at h
    generalize bX11_play_41 G.2.2.2.1 fu = k41 at hk41 h
    dsimp only at h
    refine am_iload dX11_play_41 rfl ?_
    refine am_iload_n dX11_play_43 rfl ?_
    refine am_icmp_ge (tgt := 115) dX11_play_44 rfl (fun c => ?_) (fun c => ?_)
    · rw [if_pos c] at h
      refine am_aload_n dX11_play_115 rfl ?_
      refine am_get (v := .inr (0, 64)) dX11_play_116 fl_11_7 (hG.m0 (by decide)) rfl ?_
      refine am_bipush (v := nI 16) dX11_play_119 (by decide) ?_
      refine am_iload_n dX11_play_121 rfl ?_
      refine am_imul dX11_play_122 ?_
      refine am_iconst (v := nI 2) dX11_play_123 (by decide) ?_
      refine am_iadd dX11_play_124 ?_
      refine am_iconst (v := nI 0) dX11_play_125 (by decide) ?_
      obtain ⟨g1, h⟩ := am_gd_some h
      refine am_iastG dX11_play_126 (hG.m0 (by decide)) rfl g1 (show 10240 < 2 ^ 31 by decide) ?_
      obtain ⟨I2, hI2, h⟩ := am_lt_some h
      refine am_st10 hI2 ?_
      refine am_aload_n dX11_play_127 rfl ?_
      refine am_get (v := .inr (0, 66)) dX11_play_128 fl_11_17 (hG.m0 (by decide)) rfl ?_
      refine am_iload_n dX11_play_131 rfl ?_
      refine am_iconst (v := nI 0) dX11_play_132 (by decide) ?_
      obtain ⟨g3, h⟩ := am_gd_some h
      refine am_zastG dX11_play_133 (hG.m0 (by decide)) rfl (by decide) g3 (show 4 < 2 ^ 31 by decide) ?_
      obtain ⟨I4, hI4, h⟩ := am_lt_some h
      refine am_st10 hI4 ?_
      refine am_iload_n dX11_play_134 rfl ?_
      cases h
      exact am_iret dX11_play_135 rfl rfl ⟨rfl, rfl⟩
    · rw [if_neg c] at h
      refine am_aload_n dX11_play_47 rfl ?_
      refine am_get (v := .inr (0, 64)) dX11_play_48 fl_11_7 (hG.m0 (by decide)) rfl ?_
      refine am_bipush (v := nI 16) dX11_play_51 (by decide) ?_
      refine am_iload_n dX11_play_53 rfl ?_
      refine am_iconst (v := nI 1) dX11_play_54 (by decide) ?_
      refine am_iadd dX11_play_55 ?_
      refine am_imul dX11_play_56 ?_
      refine am_iload dX11_play_57 rfl ?_
      refine am_iadd dX11_play_59 ?_
      obtain ⟨g5, h⟩ := am_gd_some h
      refine am_ialdG dX11_play_60 (hG.m0 (by decide)) rfl g5 (show 10240 < 2 ^ 31 by decide) ?_
      refine am_istore dX11_play_61 (by decide) ?_
      refine am_iconst (v := nI 0) dX11_play_63 (by decide) ?_
      refine am_istore dX11_play_64 (by decide) ?_
      exact am_lwJ (lo' := [some (.inr (0, 60)), some (.inl l1), some (.inl l2), some (.inl l3), some (.inl l4), some (.inl (I 0 64 ((((nI 16) * (l2 + (nI 1))) + l4).toNatClampNeg))), some (.inl (nI 0))]) ⟨rfl, rfl, rfl, rfl, rfl, rfl, rfl, trivial⟩ (tX11_play_66 hG hk41 h)
def bX11_play_37 (n : Nat) (l1 : Int32) (l2 : Int32) (s0 : Int32) (I : am_I) : Option (Int32 × am_I) := bX11_play_41 n am_fu l1 l2 s0 (nI 0) I
theorem tX11_play_37 {G : am_G} (hG : am_okM G) {d : Nat} {l1 : Int32} {l2 : Int32} {s0 : Int32} {I : am_I} {r : Int32 × am_I} (h : bX11_play_37 G.2.2.2.1 l1 l2 s0  I = some r) : am_J G d mX11_play am_no (am_E (some r.1) r.2) 37 [some (.inr (0, 60)), some (.inl l1), some (.inl l2), none, none, none, none] [.inl s0] I := by
  unfold bX11_play_37 at h
  refine am_istore_n dX11_play_37 (by decide) ?_
  refine am_iconst (v := nI 0) dX11_play_38 (by decide) ?_
  refine am_istore dX11_play_39 (by decide) ?_
  exact am_lwJ (lo' := [some (.inr (0, 60)), some (.inl l1), some (.inl l2), some (.inl s0), some (.inl (nI 0)), none, none]) ⟨rfl, rfl, rfl, rfl, rfl, trivial⟩ (tX11_play_41 hG h)
def bX11_play_0 (n : Nat) (l1 : Int32) (I : am_I) : Option (Int32 × am_I) := am_gd (am_inb (((nI 16) * ((nI 1) + ((nI 24) * l1))) + (nI 2)) 10240) (if (I 0 64 ((((nI 16) * ((nI 1) + ((nI 24) * l1))) + (nI 2)).toNatClampNeg)) = (nI 1) then (am_gd (am_inb (((nI 16) * ((nI 1) + ((nI 24) * l1))) + (nI 1)) 10240) (bX11_play_37 n l1 ((nI 1) + ((nI 24) * l1)) (I 0 64 ((((nI 16) * ((nI 1) + ((nI 24) * l1))) + (nI 1)).toNatClampNeg)) I)) else (bX11_play_37 n l1 ((nI 1) + ((nI 24) * l1)) (nI 0) I))
theorem tX11_play_0 {G : am_G} (hG : am_okM G) {d : Nat} {l1 : Int32} {I : am_I} {r : Int32 × am_I} (h : bX11_play_0 G.2.2.2.1 l1  I = some r) : am_J G d mX11_play am_no (am_E (some r.1) r.2) 0 [some (.inr (0, 60)), some (.inl l1), none, none, none, none, none] [] I := by
  unfold bX11_play_0 at h
  refine am_iconst (v := nI 1) dX11_play_0 (by decide) ?_
  refine am_bipush (v := nI 24) dX11_play_1 (by decide) ?_
  refine am_iload_n dX11_play_3 rfl ?_
  refine am_imul dX11_play_4 ?_
  refine am_iadd dX11_play_5 ?_
  refine am_istore_n dX11_play_6 (by decide) ?_
  refine am_aload_n dX11_play_7 rfl ?_
  refine am_get (v := .inr (0, 64)) dX11_play_8 fl_11_7 (hG.m0 (by decide)) rfl ?_
  refine am_bipush (v := nI 16) dX11_play_11 (by decide) ?_
  refine am_iload_n dX11_play_13 rfl ?_
  refine am_imul dX11_play_14 ?_
  refine am_iconst (v := nI 2) dX11_play_15 (by decide) ?_
  refine am_iadd dX11_play_16 ?_
  obtain ⟨g1, h⟩ := am_gd_some h
  refine am_ialdG dX11_play_17 (hG.m0 (by decide)) rfl g1 (show 10240 < 2 ^ 31 by decide) ?_
  refine am_iconst (v := nI 1) dX11_play_18 (by decide) ?_
  refine am_icmp_ne (tgt := 36) dX11_play_19 rfl (fun c => ?_) (fun c => ?_)
  · rw [if_neg c] at h
    refine am_iconst (v := nI 0) dX11_play_36 (by decide) ?_
    exact am_lwJ (lo' := [some (.inr (0, 60)), some (.inl l1), some (.inl ((nI 1) + ((nI 24) * l1))), none, none, none, none]) ⟨rfl, rfl, rfl, trivial⟩ (tX11_play_37 hG h)
  · rw [if_pos c] at h
    refine am_aload_n dX11_play_22 rfl ?_
    refine am_get (v := .inr (0, 64)) dX11_play_23 fl_11_7 (hG.m0 (by decide)) rfl ?_
    refine am_bipush (v := nI 16) dX11_play_26 (by decide) ?_
    refine am_iload_n dX11_play_28 rfl ?_
    refine am_imul dX11_play_29 ?_
    refine am_iconst (v := nI 1) dX11_play_30 (by decide) ?_
    refine am_iadd dX11_play_31 ?_
    obtain ⟨g2, h⟩ := am_gd_some h
    refine am_ialdG dX11_play_32 (hG.m0 (by decide)) rfl g2 (show 10240 < 2 ^ 31 by decide) ?_
    refine am_goto (tgt := 37) dX11_play_33 rfl ?_
    exact am_lwJ (lo' := [some (.inr (0, 60)), some (.inl l1), some (.inl ((nI 1) + ((nI 24) * l1))), none, none, none, none]) ⟨rfl, rfl, rfl, trivial⟩ (tX11_play_37 hG h)
def gX11_play (n : Nat) (l1 : Int32) (I : am_I) : Option (Int32 × am_I) := bX11_play_0 n l1 I
theorem sX11_play {G : am_G} (hG : am_okM G) {d : Nat} {l1 : Int32} {I : am_I} {r : Int32 × am_I} (h : gX11_play G.2.2.2.1 l1 I = some r) : am_C G d mX11_play [.inr (0, 60), .inl l1] I (am_E (some r.1) r.2) :=
  am_of (by decide +kernel) hG.nd (Nat.le_of_ble_eq_true rfl) (am_lwJ (lo' := [some (.inr (0, 60)), some (.inl l1), none, none, none, none, none]) ⟨rfl, rfl, trivial⟩ (tX11_play_0 hG h))
def bX11_noMessages_7 (n : Nat) : Nat → Int32 → am_I → Option (am_I)
  | 0, _, _ => none
  | fu + 1, l1, I => (fun k7 => if (nI 16) ≤ l1 then (some I) else (am_gd (am_inb l1 16) (am_lt (am_up I 0 108 l1.toNatClampNeg (nI 0)) (fun I2 => k7 (l1 + nI 1) I2)))) (bX11_noMessages_7 n fu)
theorem tX11_noMessages_7 {G : am_G} (hG : am_okM G) {d : Nat} : ∀ {fu : Nat} {l1 : Int32} {I : am_I} {r : am_I}, bX11_noMessages_7 G.2.2.2.1 fu l1 I = some r → am_J G d mX11_noMessages am_no (am_E none r) 7 [some (.inr (0, 60)), some (.inl l1)] [] I := by
  intro fu
  induction fu with
  | zero => intro l1 I r h; cases h
  | succ fu ih =>
    intro l1 I r h
    have hk7 : ∀ (l1 : Int32) (I : am_I) (r : am_I), bX11_noMessages_7 G.2.2.2.1 fu l1 I = some r → am_J G d mX11_noMessages am_no (am_E none r) 7 [some (.inr (0, 60)), some (.inl l1)] [] I := fun l1 I r h => ih h
    unfold bX11_noMessages_7 at h
    generalize bX11_noMessages_7 G.2.2.2.1 fu = k7 at hk7 h
    dsimp only at h
    refine am_iload_n dX11_noMessages_7 rfl ?_
    refine am_bipush (v := nI 16) dX11_noMessages_8 (by decide) ?_
    refine am_icmp_ge (tgt := 26) dX11_noMessages_10 rfl (fun c => ?_) (fun c => ?_)
    · rw [if_pos c] at h
      cases h
      exact am_vret dX11_noMessages_26 rfl ⟨rfl, rfl⟩
    · rw [if_neg c] at h
      refine am_aload_n dX11_noMessages_13 rfl ?_
      refine am_get (v := .inr (0, 108)) dX11_noMessages_14 fl_11_138 (hG.m0 (by decide)) rfl ?_
      refine am_iload_n dX11_noMessages_17 rfl ?_
      refine am_iconst (v := nI 0) dX11_noMessages_18 (by decide) ?_
      obtain ⟨g1, h⟩ := am_gd_some h
      refine am_iastG dX11_noMessages_19 (hG.m0 (by decide)) rfl g1 (show 16 < 2 ^ 31 by decide) ?_
      obtain ⟨I2, hI2, h⟩ := am_lt_some h
      refine am_st10 hI2 ?_
      refine am_iinc (v := l1 + nI 1) dX11_noMessages_20 rfl rfl ?_
      refine am_goto (tgt := 7) dX11_noMessages_23 rfl ?_
      exact am_lwJ (lo' := [some (.inr (0, 60)), some (.inl (l1 + nI 1))]) ⟨rfl, rfl, trivial⟩ (hk7 (l1 + nI 1) _ _ h)
def bX11_noMessages_0 (n : Nat) (I : am_I) : Option (am_I) := am_lt (am_up I 0 60 38 (nI 0)) (fun I1 => bX11_noMessages_7 n am_fu (nI 0) I1)
theorem tX11_noMessages_0 {G : am_G} (hG : am_okM G) {d : Nat} {I : am_I} {r : am_I} (h : bX11_noMessages_0 G.2.2.2.1  I = some r) : am_J G d mX11_noMessages am_no (am_E none r) 0 [some (.inr (0, 60)), none] [] I := by
  unfold bX11_noMessages_0 at h
  refine am_aload_n dX11_noMessages_0 rfl ?_
  refine am_iconst (v := nI 0) dX11_noMessages_1 (by decide) ?_
  refine am_put (x := nI 0) dX11_noMessages_2 fp_11_197 (hG.m0 (by decide)) (Nat.le_of_ble_eq_true rfl) rfl ?_
  obtain ⟨I1, hI1, h⟩ := am_lt_some h
  refine am_st10 hI1 ?_
  refine am_iconst (v := nI 0) dX11_noMessages_5 (by decide) ?_
  refine am_istore_n dX11_noMessages_6 (by decide) ?_
  exact am_lwJ (lo' := [some (.inr (0, 60)), some (.inl (nI 0))]) ⟨rfl, rfl, trivial⟩ (tX11_noMessages_7 hG h)
def gX11_noMessages (n : Nat) (I : am_I) : Option (am_I) := bX11_noMessages_0 n I
theorem sX11_noMessages {G : am_G} (hG : am_okM G) {d : Nat} {I : am_I} {r : am_I} (h : gX11_noMessages G.2.2.2.1 I = some r) : am_C G d mX11_noMessages [.inr (0, 60)] I (am_E none r) :=
  am_of (by decide +kernel) hG.nd (Nat.le_of_ble_eq_true rfl) (am_lwJ (lo' := [some (.inr (0, 60)), none]) ⟨rfl, trivial⟩ (tX11_noMessages_0 hG h))
