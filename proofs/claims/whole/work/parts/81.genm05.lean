def bX11_reach_195 (n : Nat) (k49 : Int32 → Int32 → Int32 → am_I → Option (Int32 × am_I)) (l1 : Int32) (l2 : Int32) (l3 : Int32) (I : am_I) : Option (Int32 × am_I) := k49 l1 l2 (l3 + nI 1) I
theorem tX11_reach_195 {G : am_G} (hG : am_okM G) {d : Nat} {k49 : Int32 → Int32 → Int32 → am_I → Option (Int32 × am_I)} (hk49 : ∀ (l1 : Int32) (l2 : Int32) (l3 : Int32) (I : am_I) (r : Int32 × am_I), k49 l1 l2 l3 I = some r → am_J G (d + 3) mX11_reach am_no (am_E (some r.1) r.2) 49 [some (.inr (0, 60)), some (.inl l1), some (.inl l2), some (.inl l3), none, none, none, none] [] I) {l1 : Int32} {l2 : Int32} {l3 : Int32} {I : am_I} {r : Int32 × am_I} (h : bX11_reach_195 G.2.2.2.1 k49 l1 l2 l3  I = some r) : am_J G (d + 3) mX11_reach am_no (am_E (some r.1) r.2) 195 [some (.inr (0, 60)), some (.inl l1), some (.inl l2), some (.inl l3), none, none, none, none] [] I := by
  unfold bX11_reach_195 at h
  refine am_iinc (v := l3 + nI 1) dX11_reach_195 rfl rfl ?_
  refine am_goto (tgt := 49) dX11_reach_198 rfl ?_
  exact am_lwJ (lo' := [some (.inr (0, 60)), some (.inl l1), some (.inl l2), some (.inl (l3 + nI 1)), none, none, none, none]) ⟨rfl, rfl, rfl, rfl, trivial⟩ (hk49 l1 l2 (l3 + nI 1) _ _ h)
def bX11_reach_189 (n : Nat) (k49 : Int32 → Int32 → Int32 → am_I → Option (Int32 × am_I)) (k74 : Int32 → Int32 → Int32 → Int32 → Int32 → Int32 → am_I → Option (Int32 × am_I)) (l1 : Int32) (l2 : Int32) (l3 : Int32) (l4 : Int32) (l5 : Int32) (l6 : Int32) (I : am_I) : Option (Int32 × am_I) := k74 l1 l2 l3 l4 l5 (l6 + nI 2) I
theorem tX11_reach_189 {G : am_G} (hG : am_okM G) {d : Nat} {k49 : Int32 → Int32 → Int32 → am_I → Option (Int32 × am_I)} {k74 : Int32 → Int32 → Int32 → Int32 → Int32 → Int32 → am_I → Option (Int32 × am_I)} (hk49 : ∀ (l1 : Int32) (l2 : Int32) (l3 : Int32) (I : am_I) (r : Int32 × am_I), k49 l1 l2 l3 I = some r → am_J G (d + 3) mX11_reach am_no (am_E (some r.1) r.2) 49 [some (.inr (0, 60)), some (.inl l1), some (.inl l2), some (.inl l3), none, none, none, none] [] I) (hk74 : ∀ (l1 : Int32) (l2 : Int32) (l3 : Int32) (l4 : Int32) (l5 : Int32) (l6 : Int32) (I : am_I) (r : Int32 × am_I), k74 l1 l2 l3 l4 l5 l6 I = some r → am_J G (d + 3) mX11_reach am_no (am_E (some r.1) r.2) 74 [some (.inr (0, 60)), some (.inl l1), some (.inl l2), some (.inl l3), some (.inl l4), some (.inl l5), some (.inl l6), none] [] I) {l1 : Int32} {l2 : Int32} {l3 : Int32} {l4 : Int32} {l5 : Int32} {l6 : Int32} {I : am_I} {r : Int32 × am_I} (h : bX11_reach_189 G.2.2.2.1 k49 k74 l1 l2 l3 l4 l5 l6  I = some r) : am_J G (d + 3) mX11_reach am_no (am_E (some r.1) r.2) 189 [some (.inr (0, 60)), some (.inl l1), some (.inl l2), some (.inl l3), some (.inl l4), some (.inl l5), some (.inl l6), none] [] I := by
  unfold bX11_reach_189 at h
  refine am_iinc (v := l6 + nI 2) dX11_reach_189 rfl rfl ?_
  refine am_goto (tgt := 74) dX11_reach_192 rfl ?_
  exact am_lwJ (lo' := [some (.inr (0, 60)), some (.inl l1), some (.inl l2), some (.inl l3), some (.inl l4), some (.inl l5), some (.inl (l6 + nI 2)), none]) ⟨rfl, rfl, rfl, rfl, rfl, rfl, rfl, trivial⟩ (hk74 l1 l2 l3 l4 l5 (l6 + nI 2) _ _ h)
def bX11_reach_144 (n : Nat) (k49 : Int32 → Int32 → Int32 → am_I → Option (Int32 × am_I)) (k74 : Int32 → Int32 → Int32 → Int32 → Int32 → Int32 → am_I → Option (Int32 × am_I)) (l2 : Int32) (l3 : Int32) (l4 : Int32) (l5 : Int32) (l6 : Int32) (I : am_I) : Option (Int32 × am_I) := bX11_reach_189 n k49 k74 (nI 1) l2 l3 l4 l5 l6 I
theorem tX11_reach_144 {G : am_G} (hG : am_okM G) {d : Nat} {k49 : Int32 → Int32 → Int32 → am_I → Option (Int32 × am_I)} {k74 : Int32 → Int32 → Int32 → Int32 → Int32 → Int32 → am_I → Option (Int32 × am_I)} (hk49 : ∀ (l1 : Int32) (l2 : Int32) (l3 : Int32) (I : am_I) (r : Int32 × am_I), k49 l1 l2 l3 I = some r → am_J G (d + 3) mX11_reach am_no (am_E (some r.1) r.2) 49 [some (.inr (0, 60)), some (.inl l1), some (.inl l2), some (.inl l3), none, none, none, none] [] I) (hk74 : ∀ (l1 : Int32) (l2 : Int32) (l3 : Int32) (l4 : Int32) (l5 : Int32) (l6 : Int32) (I : am_I) (r : Int32 × am_I), k74 l1 l2 l3 l4 l5 l6 I = some r → am_J G (d + 3) mX11_reach am_no (am_E (some r.1) r.2) 74 [some (.inr (0, 60)), some (.inl l1), some (.inl l2), some (.inl l3), some (.inl l4), some (.inl l5), some (.inl l6), none] [] I) {l2 : Int32} {l3 : Int32} {l4 : Int32} {l5 : Int32} {l6 : Int32} {I : am_I} {r : Int32 × am_I} (h : bX11_reach_144 G.2.2.2.1 k49 k74 l2 l3 l4 l5 l6  I = some r) : am_J G (d + 3) mX11_reach am_no (am_E (some r.1) r.2) 144 [some (.inr (0, 60)), none, some (.inl l2), some (.inl l3), some (.inl l4), some (.inl l5), some (.inl l6), none] [] I := by
  unfold bX11_reach_144 at h
  refine am_iconst (v := nI 1) dX11_reach_144 (by decide) ?_
  refine am_istore_n dX11_reach_145 (by decide) ?_
  refine am_goto (tgt := 189) dX11_reach_146 rfl ?_
  exact am_lwJ (lo' := [some (.inr (0, 60)), some (.inl (nI 1)), some (.inl l2), some (.inl l3), some (.inl l4), some (.inl l5), some (.inl l6), none]) ⟨rfl, rfl, rfl, rfl, rfl, rfl, rfl, trivial⟩ (tX11_reach_189 hG hk49 hk74 h)
def bX11_reach_74 (n : Nat) (k49 : Int32 → Int32 → Int32 → am_I → Option (Int32 × am_I)) : Nat → Int32 → Int32 → Int32 → Int32 → Int32 → Int32 → am_I → Option (Int32 × am_I)
  | 0, _, _, _, _, _, _, _ => none
  | fu + 1, l1, l2, l3, l4, l5, l6, I => (fun k74 => (gX11_allInode n l4 (nI 0) I).bind (fun q1 => if q1.1 = (nI 2) then (if l5 ≤ l6 then (bX11_reach_195 n k49 l1 l2 l3 q1.2) else (if (nI 384) ≤ l6 then (bX11_reach_195 n k49 l1 l2 l3 q1.2) else ((gX11_allWord n l4 l6 q1.2).bind (fun q2 => if q2.1 = 0 then (bX11_reach_189 n k49 k74 l1 l2 l3 l4 l5 l6 q2.2) else ((gX11_allWord n l4 (l6 + (nI 1)) q2.2).bind (fun q3 => (gX11_isInode n q3.1 q3.2).bind (fun q4 => if q4.1 = 0 then (bX11_reach_144 n k49 k74 l2 l3 l4 l5 l6 q4.2) else ((gX11_allInode n q3.1 (nI 0) q4.2).bind (fun q5 => if q5.1 = 0 then (bX11_reach_144 n k49 k74 l2 l3 l4 l5 l6 q5.2) else (am_gd (am_inb q3.1 128) (am_gd (am_inb q3.1 128) (am_lt (am_up q5.2 0 129 q3.1.toNatClampNeg ((q5.2 0 129 q3.1.toNatClampNeg) + (nI 1))) (fun I8 => am_gd (am_inb q3.1 128) (if (I8 0 128 q3.1.toNatClampNeg) = 0 then (am_gd (am_inb q3.1 128) (am_lt (am_up I8 0 128 q3.1.toNatClampNeg (nI 1)) (fun I11 => am_gd (am_inb l2 128) (am_lt (am_up I11 0 130 l2.toNatClampNeg q3.1) (fun I13 => bX11_reach_189 n k49 k74 l1 (l2 + nI 1) l3 l4 l5 l6 I13))))) else (bX11_reach_189 n k49 k74 l1 l2 l3 l4 l5 l6 I8))))))))))))))) else (bX11_reach_195 n k49 l1 l2 l3 q1.2))) (bX11_reach_74 n k49 fu)
theorem tX11_reach_74 {G : am_G} (hG : am_okM G) {d : Nat} {k49 : Int32 → Int32 → Int32 → am_I → Option (Int32 × am_I)} (hk49 : ∀ (l1 : Int32) (l2 : Int32) (l3 : Int32) (I : am_I) (r : Int32 × am_I), k49 l1 l2 l3 I = some r → am_J G (d + 3) mX11_reach am_no (am_E (some r.1) r.2) 49 [some (.inr (0, 60)), some (.inl l1), some (.inl l2), some (.inl l3), none, none, none, none] [] I) : ∀ {fu : Nat} {l1 : Int32} {l2 : Int32} {l3 : Int32} {l4 : Int32} {l5 : Int32} {l6 : Int32} {I : am_I} {r : Int32 × am_I}, bX11_reach_74 G.2.2.2.1 k49 fu l1 l2 l3 l4 l5 l6 I = some r → am_J G (d + 3) mX11_reach am_no (am_E (some r.1) r.2) 74 [some (.inr (0, 60)), some (.inl l1), some (.inl l2), some (.inl l3), some (.inl l4), some (.inl l5), some (.inl l6), none] [] I := by
  intro fu
  induction fu with
  | zero => intro l1 l2 l3 l4 l5 l6 I r h; cases h
  | succ fu ih =>
    intro l1 l2 l3 l4 l5 l6 I r h
    have hk74 : ∀ (l1 : Int32) (l2 : Int32) (l3 : Int32) (l4 : Int32) (l5 : Int32) (l6 : Int32) (I : am_I) (r : Int32 × am_I), bX11_reach_74 G.2.2.2.1 k49 fu l1 l2 l3 l4 l5 l6 I = some r → am_J G (d + 3) mX11_reach am_no (am_E (some r.1) r.2) 74 [some (.inr (0, 60)), some (.inl l1), some (.inl l2), some (.inl l3), some (.inl l4), some (.inl l5), some (.inl l6), none] [] I := fun l1 l2 l3 l4 l5 l6 I r h => ih h
    unfold bX11_reach_74 at h
    generalize bX11_reach_74 G.2.2.2.1 k49 fu = k74 at hk74 h
    dsimp only at h
    refine am_aload_n dX11_reach_74 rfl ?_
    refine am_iload dX11_reach_75 rfl ?_
    refine am_iconst (v := nI 0) dX11_reach_77 (by decide) ?_
    obtain ⟨q1, hq1, h⟩ := am_bd h
    refine am_callVx (i := 0) (j := 60) (as := [.inl l4, .inl (nI 0)]) (rest := []) dX11_reach_78 lkX11_allInode ml_X11_496 imX11_allInode seX11_allInode rfl rfl (hG.m0 (by decide)) rfl (Nat.le_of_ble_eq_true rfl) rfl (sX11_allInode hG hq1) ?_
    refine am_iconst (v := nI 2) dX11_reach_81 (by decide) ?_
    refine am_icmp_ne (tgt := 195) dX11_reach_82 rfl (fun c => ?_) (fun c => ?_)
    · rw [if_neg c] at h
      exact am_lwJ (lo' := [some (.inr (0, 60)), some (.inl l1), some (.inl l2), some (.inl l3), none, none, none, none]) ⟨rfl, rfl, rfl, rfl, trivial⟩ (tX11_reach_195 hG hk49 h)
    · rw [if_pos c] at h
      refine am_iload dX11_reach_85 rfl ?_
      refine am_iload dX11_reach_87 rfl ?_
      refine am_icmp_ge (tgt := 195) dX11_reach_89 rfl (fun c => ?_) (fun c => ?_)
      · rw [if_pos c] at h
        exact am_lwJ (lo' := [some (.inr (0, 60)), some (.inl l1), some (.inl l2), some (.inl l3), none, none, none, none]) ⟨rfl, rfl, rfl, rfl, trivial⟩ (tX11_reach_195 hG hk49 h)
      · rw [if_neg c] at h
        refine am_iload dX11_reach_92 rfl ?_
        refine am_sipush (v := nI 384) dX11_reach_94 (by decide) ?_
        refine am_icmp_ge (tgt := 195) dX11_reach_97 rfl (fun c => ?_) (fun c => ?_)
        · rw [if_pos c] at h
          exact am_lwJ (lo' := [some (.inr (0, 60)), some (.inl l1), some (.inl l2), some (.inl l3), none, none, none, none]) ⟨rfl, rfl, rfl, rfl, trivial⟩ (tX11_reach_195 hG hk49 h)
        · rw [if_neg c] at h
          refine am_aload_n dX11_reach_100 rfl ?_
          refine am_iload dX11_reach_101 rfl ?_
          refine am_iload dX11_reach_103 rfl ?_
          obtain ⟨q2, hq2, h⟩ := am_bd h
          refine am_callVx (i := 0) (j := 60) (as := [.inl l4, .inl l6]) (rest := []) dX11_reach_105 lkX11_allWord ml_X11_502 imX11_allWord seX11_allWord rfl rfl (hG.m0 (by decide)) rfl (Nat.le_of_ble_eq_true rfl) rfl (sX11_allWord hG hq2) ?_
          refine am_if_ne (tgt := 114) dX11_reach_108 rfl (fun c => ?_) (fun c => ?_)
          · rw [if_neg c] at h
            refine am_aload_n dX11_reach_114 rfl ?_
            refine am_iload dX11_reach_115 rfl ?_
            refine am_iload dX11_reach_117 rfl ?_
            refine am_iconst (v := nI 1) dX11_reach_119 (by decide) ?_
            refine am_iadd dX11_reach_120 ?_
            obtain ⟨q3, hq3, h⟩ := am_bd h
            refine am_callVx (i := 0) (j := 60) (as := [.inl l4, .inl (l6 + (nI 1))]) (rest := []) dX11_reach_121 lkX11_allWord ml_X11_502 imX11_allWord seX11_allWord rfl rfl (hG.m0 (by decide)) rfl (Nat.le_of_ble_eq_true rfl) rfl (sX11_allWord hG hq3) ?_
            refine am_istore dX11_reach_124 (by decide) ?_
            refine am_iload dX11_reach_126 rfl ?_
            obtain ⟨q4, hq4, h⟩ := am_bd h
            refine am_callSx (as := [.inl q3.1]) (rest := []) dX11_reach_128 lkX11_isInode ml_X11_431 isX11_isInode rfl (Nat.le_of_ble_eq_true rfl) rfl (sX11_isInode hG hq4) ?_
            refine am_if_eq (tgt := 144) dX11_reach_131 rfl (fun c => ?_) (fun c => ?_)
            · rw [if_pos c] at h
              exact am_lwJ (lo' := [some (.inr (0, 60)), none, some (.inl l2), some (.inl l3), some (.inl l4), some (.inl l5), some (.inl l6), none]) ⟨rfl, rfl, rfl, rfl, rfl, rfl, trivial⟩ (tX11_reach_144 hG hk49 hk74 h)
            · rw [if_neg c] at h
              refine am_aload_n dX11_reach_134 rfl ?_
              refine am_iload dX11_reach_135 rfl ?_
              refine am_iconst (v := nI 0) dX11_reach_137 (by decide) ?_
              obtain ⟨q5, hq5, h⟩ := am_bd h
              refine am_callVx (i := 0) (j := 60) (as := [.inl q3.1, .inl (nI 0)]) (rest := []) dX11_reach_138 lkX11_allInode ml_X11_496 imX11_allInode seX11_allInode rfl rfl (hG.m0 (by decide)) rfl (Nat.le_of_ble_eq_true rfl) rfl (sX11_allInode hG hq5) ?_
              refine am_if_ne (tgt := 149) dX11_reach_141 rfl (fun c => ?_) (fun c => ?_)
              · rw [if_neg c] at h
                refine am_aload_n dX11_reach_149 rfl ?_
                refine am_get (v := .inr (0, 129)) dX11_reach_150 fl_11_168 (hG.m0 (by decide)) rfl ?_
                refine am_iload dX11_reach_153 rfl ?_
                refine am_dup2 dX11_reach_155 ?_
                obtain ⟨g6, h⟩ := am_gd_some h
                refine am_ialdG dX11_reach_156 (hG.m0 (by decide)) rfl g6 (show 128 < 2 ^ 31 by decide) ?_
                refine am_iconst (v := nI 1) dX11_reach_157 (by decide) ?_
                refine am_iadd dX11_reach_158 ?_
                obtain ⟨g7, h⟩ := am_gd_some h
                refine am_iastG dX11_reach_159 (hG.m0 (by decide)) rfl g7 (show 128 < 2 ^ 31 by decide) ?_
                obtain ⟨I8, hI8, h⟩ := am_lt_some h
                refine am_st10 hI8 ?_
                refine am_aload_n dX11_reach_160 rfl ?_
                refine am_get (v := .inr (0, 128)) dX11_reach_161 fl_11_165 (hG.m0 (by decide)) rfl ?_
                refine am_iload dX11_reach_164 rfl ?_
                obtain ⟨g9, h⟩ := am_gd_some h
                refine am_zaldG dX11_reach_166 (hG.m0 (by decide)) rfl g9 (show 128 < 2 ^ 31 by decide) ?_
                refine am_if_ne (tgt := 189) dX11_reach_167 rfl (fun c => ?_) (fun c => ?_)
                · rw [if_neg c] at h
                  exact am_lwJ (lo' := [some (.inr (0, 60)), some (.inl l1), some (.inl l2), some (.inl l3), some (.inl l4), some (.inl l5), some (.inl l6), none]) ⟨rfl, rfl, rfl, rfl, rfl, rfl, rfl, trivial⟩ (tX11_reach_189 hG hk49 hk74 h)
                · rw [if_pos c] at h
                  refine am_aload_n dX11_reach_170 rfl ?_
                  refine am_get (v := .inr (0, 128)) dX11_reach_171 fl_11_165 (hG.m0 (by decide)) rfl ?_
                  refine am_iload dX11_reach_174 rfl ?_
                  refine am_iconst (v := nI 1) dX11_reach_176 (by decide) ?_
                  obtain ⟨g10, h⟩ := am_gd_some h
                  refine am_zastG dX11_reach_177 (hG.m0 (by decide)) rfl (by decide) g10 (show 128 < 2 ^ 31 by decide) ?_
                  obtain ⟨I11, hI11, h⟩ := am_lt_some h
                  refine am_st10 hI11 ?_
                  refine am_aload_n dX11_reach_178 rfl ?_
                  refine am_get (v := .inr (0, 130)) dX11_reach_179 fl_11_171 (hG.m0 (by decide)) rfl ?_
                  refine am_iload_n dX11_reach_182 rfl ?_
                  refine am_iload dX11_reach_183 rfl ?_
                  obtain ⟨g12, h⟩ := am_gd_some h
                  refine am_iastG dX11_reach_185 (hG.m0 (by decide)) rfl g12 (show 128 < 2 ^ 31 by decide) ?_
                  obtain ⟨I13, hI13, h⟩ := am_lt_some h
                  refine am_st10 hI13 ?_
                  refine am_iinc (v := l2 + nI 1) dX11_reach_186 rfl rfl ?_
                  exact am_lwJ (lo' := [some (.inr (0, 60)), some (.inl l1), some (.inl (l2 + nI 1)), some (.inl l3), some (.inl l4), some (.inl l5), some (.inl l6), none]) ⟨rfl, rfl, rfl, rfl, rfl, rfl, rfl, trivial⟩ (tX11_reach_189 hG hk49 hk74 h)
              · rw [if_pos c] at h
                exact am_lwJ (lo' := [some (.inr (0, 60)), none, some (.inl l2), some (.inl l3), some (.inl l4), some (.inl l5), some (.inl l6), none]) ⟨rfl, rfl, rfl, rfl, rfl, rfl, trivial⟩ (tX11_reach_144 hG hk49 hk74 h)
          · rw [if_pos c] at h
            refine am_goto (tgt := 189) dX11_reach_111 rfl ?_
            exact am_lwJ (lo' := [some (.inr (0, 60)), some (.inl l1), some (.inl l2), some (.inl l3), some (.inl l4), some (.inl l5), some (.inl l6), none]) ⟨rfl, rfl, rfl, rfl, rfl, rfl, rfl, trivial⟩ (tX11_reach_189 hG hk49 hk74 h)
def bX11_reach_49 (n : Nat) : Nat → Int32 → Int32 → Int32 → am_I → Option (Int32 × am_I)
  | 0, _, _, _, _ => none
  | fu + 1, l1, l2, l3, I => (fun k49 => if l2 ≤ l3 then (am_gd (am_01 l1) (some (l1, I))) else (am_gd (am_inb l3 128) ((gX11_allInode n (I 0 130 l3.toNatClampNeg) (nI 2) I).bind (fun q3 => bX11_reach_74 n k49 am_fu l1 l2 l3 (I 0 130 l3.toNatClampNeg) q3.1 (nI 0) q3.2)))) (bX11_reach_49 n fu)
theorem tX11_reach_49 {G : am_G} (hG : am_okM G) {d : Nat} : ∀ {fu : Nat} {l1 : Int32} {l2 : Int32} {l3 : Int32} {I : am_I} {r : Int32 × am_I}, bX11_reach_49 G.2.2.2.1 fu l1 l2 l3 I = some r → am_J G (d + 3) mX11_reach am_no (am_E (some r.1) r.2) 49 [some (.inr (0, 60)), some (.inl l1), some (.inl l2), some (.inl l3), none, none, none, none] [] I := by
  intro fu
  induction fu with
  | zero => intro l1 l2 l3 I r h; cases h
  | succ fu ih =>
    intro l1 l2 l3 I r h
    have hk49 : ∀ (l1 : Int32) (l2 : Int32) (l3 : Int32) (I : am_I) (r : Int32 × am_I), bX11_reach_49 G.2.2.2.1 fu l1 l2 l3 I = some r → am_J G (d + 3) mX11_reach am_no (am_E (some r.1) r.2) 49 [some (.inr (0, 60)), some (.inl l1), some (.inl l2), some (.inl l3), none, none, none, none] [] I := fun l1 l2 l3 I r h => ih h
    unfold bX11_reach_49 at h
    generalize bX11_reach_49 G.2.2.2.1 fu = k49 at hk49 h
    dsimp only at h
    refine am_iload_n dX11_reach_49 rfl ?_
    refine am_iload_n dX11_reach_50 rfl ?_
    refine am_icmp_ge (tgt := 201) dX11_reach_51 rfl (fun c => ?_) (fun c => ?_)
    · rw [if_pos c] at h
      refine am_iload_n dX11_reach_201 rfl ?_
      obtain ⟨g1, h⟩ := am_gd_some h
      cases h
      exact am_iret dX11_reach_202 rfl (am_nz (am_01_of g1)).1 ⟨rfl, rfl⟩
    · rw [if_neg c] at h
      refine am_aload_n dX11_reach_54 rfl ?_
      refine am_get (v := .inr (0, 130)) dX11_reach_55 fl_11_171 (hG.m0 (by decide)) rfl ?_
      refine am_iload_n dX11_reach_58 rfl ?_
      obtain ⟨g2, h⟩ := am_gd_some h
      refine am_ialdG dX11_reach_59 (hG.m0 (by decide)) rfl g2 (show 128 < 2 ^ 31 by decide) ?_
      refine am_istore dX11_reach_60 (by decide) ?_
      refine am_aload_n dX11_reach_62 rfl ?_
      refine am_iload dX11_reach_63 rfl ?_
      refine am_iconst (v := nI 2) dX11_reach_65 (by decide) ?_
      obtain ⟨q3, hq3, h⟩ := am_bd h
      refine am_callVx (i := 0) (j := 60) (as := [.inl (I 0 130 l3.toNatClampNeg), .inl (nI 2)]) (rest := []) dX11_reach_66 lkX11_allInode ml_X11_496 imX11_allInode seX11_allInode rfl rfl (hG.m0 (by decide)) rfl (Nat.le_of_ble_eq_true rfl) rfl (sX11_allInode hG hq3) ?_
      refine am_istore dX11_reach_69 (by decide) ?_
      refine am_iconst (v := nI 0) dX11_reach_71 (by decide) ?_
      refine am_istore dX11_reach_72 (by decide) ?_
      exact am_lwJ (lo' := [some (.inr (0, 60)), some (.inl l1), some (.inl l2), some (.inl l3), some (.inl (I 0 130 l3.toNatClampNeg)), some (.inl q3.1), some (.inl (nI 0)), none]) ⟨rfl, rfl, rfl, rfl, rfl, rfl, rfl, trivial⟩ (tX11_reach_74 hG hk49 h)
def bX11_reach_2 (n : Nat) : Nat → Int32 → am_I → Option (Int32 × am_I)
  | 0, _, _ => none
  | fu + 1, l1, I => (fun k2 => if (nI 128) ≤ l1 then (am_gd (am_inb (nI 0) 128) (am_lt (am_up I 0 130 (nI 0).toNatClampNeg (nI 0)) (fun I2 => am_gd (am_inb (nI 0) 128) (am_lt (am_up I2 0 128 (nI 0).toNatClampNeg (nI 1)) (fun I4 => bX11_reach_49 n am_fu (nI 0) (nI 1) (nI 0) I4))))) else (am_gd (am_inb l1 128) (am_lt (am_up I 0 128 l1.toNatClampNeg (nI 0)) (fun I6 => am_gd (am_inb l1 128) (am_lt (am_up I6 0 129 l1.toNatClampNeg (nI 0)) (fun I8 => k2 (l1 + nI 1) I8)))))) (bX11_reach_2 n fu)
theorem tX11_reach_2 {G : am_G} (hG : am_okM G) {d : Nat} : ∀ {fu : Nat} {l1 : Int32} {I : am_I} {r : Int32 × am_I}, bX11_reach_2 G.2.2.2.1 fu l1 I = some r → am_J G (d + 3) mX11_reach am_no (am_E (some r.1) r.2) 2 [some (.inr (0, 60)), some (.inl l1), none, none, none, none, none, none] [] I := by
  intro fu
  induction fu with
  | zero => intro l1 I r h; cases h
  | succ fu ih =>
    intro l1 I r h
    have hk2 : ∀ (l1 : Int32) (I : am_I) (r : Int32 × am_I), bX11_reach_2 G.2.2.2.1 fu l1 I = some r → am_J G (d + 3) mX11_reach am_no (am_E (some r.1) r.2) 2 [some (.inr (0, 60)), some (.inl l1), none, none, none, none, none, none] [] I := fun l1 I r h => ih h
    unfold bX11_reach_2 at h
    generalize bX11_reach_2 G.2.2.2.1 fu = k2 at hk2 h
    dsimp only at h
    refine am_iload_n dX11_reach_2 rfl ?_
    refine am_sipush (v := nI 128) dX11_reach_3 (by decide) ?_
    refine am_icmp_ge (tgt := 29) dX11_reach_6 rfl (fun c => ?_) (fun c => ?_)
    · rw [if_pos c] at h
      refine am_iconst (v := nI 0) dX11_reach_29 (by decide) ?_
      refine am_istore_n dX11_reach_30 (by decide) ?_
      refine am_iconst (v := nI 1) dX11_reach_31 (by decide) ?_
      refine am_istore_n dX11_reach_32 (by decide) ?_
      refine am_aload_n dX11_reach_33 rfl ?_
      refine am_get (v := .inr (0, 130)) dX11_reach_34 fl_11_171 (hG.m0 (by decide)) rfl ?_
      refine am_iconst (v := nI 0) dX11_reach_37 (by decide) ?_
      refine am_iconst (v := nI 0) dX11_reach_38 (by decide) ?_
      obtain ⟨g1, h⟩ := am_gd_some h
      refine am_iastG dX11_reach_39 (hG.m0 (by decide)) rfl g1 (show 128 < 2 ^ 31 by decide) ?_
      obtain ⟨I2, hI2, h⟩ := am_lt_some h
      refine am_st10 hI2 ?_
      refine am_aload_n dX11_reach_40 rfl ?_
      refine am_get (v := .inr (0, 128)) dX11_reach_41 fl_11_165 (hG.m0 (by decide)) rfl ?_
      refine am_iconst (v := nI 0) dX11_reach_44 (by decide) ?_
      refine am_iconst (v := nI 1) dX11_reach_45 (by decide) ?_
      obtain ⟨g3, h⟩ := am_gd_some h
      refine am_zastG dX11_reach_46 (hG.m0 (by decide)) rfl (by decide) g3 (show 128 < 2 ^ 31 by decide) ?_
      obtain ⟨I4, hI4, h⟩ := am_lt_some h
      refine am_st10 hI4 ?_
      refine am_iconst (v := nI 0) dX11_reach_47 (by decide) ?_
      refine am_istore_n dX11_reach_48 (by decide) ?_
      exact am_lwJ (lo' := [some (.inr (0, 60)), some (.inl (nI 0)), some (.inl (nI 1)), some (.inl (nI 0)), none, none, none, none]) ⟨rfl, rfl, rfl, rfl, trivial⟩ (tX11_reach_49 hG h)
    · rw [if_neg c] at h
      refine am_aload_n dX11_reach_9 rfl ?_
      refine am_get (v := .inr (0, 128)) dX11_reach_10 fl_11_165 (hG.m0 (by decide)) rfl ?_
      refine am_iload_n dX11_reach_13 rfl ?_
      refine am_iconst (v := nI 0) dX11_reach_14 (by decide) ?_
      obtain ⟨g5, h⟩ := am_gd_some h
      refine am_zastG dX11_reach_15 (hG.m0 (by decide)) rfl (by decide) g5 (show 128 < 2 ^ 31 by decide) ?_
      obtain ⟨I6, hI6, h⟩ := am_lt_some h
      refine am_st10 hI6 ?_
      refine am_aload_n dX11_reach_16 rfl ?_
      refine am_get (v := .inr (0, 129)) dX11_reach_17 fl_11_168 (hG.m0 (by decide)) rfl ?_
      refine am_iload_n dX11_reach_20 rfl ?_
      refine am_iconst (v := nI 0) dX11_reach_21 (by decide) ?_
      obtain ⟨g7, h⟩ := am_gd_some h
      refine am_iastG dX11_reach_22 (hG.m0 (by decide)) rfl g7 (show 128 < 2 ^ 31 by decide) ?_
      obtain ⟨I8, hI8, h⟩ := am_lt_some h
      refine am_st10 hI8 ?_
      refine am_iinc (v := l1 + nI 1) dX11_reach_23 rfl rfl ?_
      refine am_goto (tgt := 2) dX11_reach_26 rfl ?_
      exact am_lwJ (lo' := [some (.inr (0, 60)), some (.inl (l1 + nI 1)), none, none, none, none, none, none]) ⟨rfl, rfl, trivial⟩ (hk2 (l1 + nI 1) _ _ h)
def bX11_reach_0 (n : Nat) (I : am_I) : Option (Int32 × am_I) := bX11_reach_2 n am_fu (nI 0) I
theorem tX11_reach_0 {G : am_G} (hG : am_okM G) {d : Nat} {I : am_I} {r : Int32 × am_I} (h : bX11_reach_0 G.2.2.2.1  I = some r) : am_J G (d + 3) mX11_reach am_no (am_E (some r.1) r.2) 0 [some (.inr (0, 60)), none, none, none, none, none, none, none] [] I := by
  unfold bX11_reach_0 at h
  refine am_iconst (v := nI 0) dX11_reach_0 (by decide) ?_
  refine am_istore_n dX11_reach_1 (by decide) ?_
  exact am_lwJ (lo' := [some (.inr (0, 60)), some (.inl (nI 0)), none, none, none, none, none, none]) ⟨rfl, rfl, trivial⟩ (tX11_reach_2 hG h)
def gX11_reach (n : Nat) (I : am_I) : Option (Int32 × am_I) := bX11_reach_0 n I
theorem sX11_reach {G : am_G} (hG : am_okM G) {d : Nat} {I : am_I} {r : Int32 × am_I} (h : gX11_reach G.2.2.2.1 I = some r) : am_C G (d + 3) mX11_reach [.inr (0, 60)] I (am_E (some r.1) r.2) :=
  am_of (by decide +kernel) hG.nd (Nat.le_of_ble_eq_true rfl) (am_lwJ (lo' := [some (.inr (0, 60)), none, none, none, none, none, none, none]) ⟨rfl, trivial⟩ (tX11_reach_0 hG h))
def bX11_hold_34 (n : Nat) (I : am_I) : Option (am_I) := some I
theorem tX11_hold_34 {G : am_G} (hG : am_okM G) {d : Nat} {I : am_I} {r : am_I} (h : bX11_hold_34 G.2.2.2.1  I = some r) : am_J G (d + 2) mX11_hold am_no (am_E none r) 34 [none, none] [] I := by
  unfold bX11_hold_34 at h
  cases h
  exact am_vret dX11_hold_34 rfl ⟨rfl, rfl⟩
def bX11_hold_0 (n : Nat) (l1 : Int32) (I : am_I) : Option (am_I) := (gX11_isData n l1 I).bind (fun q1 => if q1.1 = 0 then (if l1 = 0 then (bX11_hold_34 n q1.2) else (am_gd (am_inb (nI 0) 640) (am_gd (am_inb (nI 0) 640) (am_lt (am_up q1.2 0 131 (nI 0).toNatClampNeg ((q1.2 0 131 ((nI 0).toNatClampNeg)) + (nI 1))) (fun I4 => bX11_hold_34 n I4))))) else (am_gd (am_inb l1 640) (am_gd (am_inb l1 640) (am_lt (am_up q1.2 0 131 l1.toNatClampNeg ((q1.2 0 131 l1.toNatClampNeg) + (nI 1))) (fun I7 => bX11_hold_34 n I7)))))
theorem tX11_hold_0 {G : am_G} (hG : am_okM G) {d : Nat} {l1 : Int32} {I : am_I} {r : am_I} (h : bX11_hold_0 G.2.2.2.1 l1  I = some r) : am_J G (d + 2) mX11_hold am_no (am_E none r) 0 [some (.inr (0, 60)), some (.inl l1)] [] I := by
  unfold bX11_hold_0 at h
  refine am_iload_n dX11_hold_0 rfl ?_
  obtain ⟨q1, hq1, h⟩ := am_bd h
  refine am_callSx (as := [.inl l1]) (rest := []) dX11_hold_1 lkX11_isData ml_X11_499 isX11_isData rfl (Nat.le_of_ble_eq_true rfl) rfl (sX11_isData hG hq1) ?_
  refine am_if_eq (tgt := 20) dX11_hold_4 rfl (fun c => ?_) (fun c => ?_)
  · rw [if_pos c] at h
    refine am_iload_n dX11_hold_20 rfl ?_
    refine am_if_eq (tgt := 34) dX11_hold_21 rfl (fun c => ?_) (fun c => ?_)
    · rw [if_pos c] at h
      exact am_lwJ (lo' := [none, none]) trivial (tX11_hold_34 hG h)
    · rw [if_neg c] at h
      refine am_aload_n dX11_hold_24 rfl ?_
      refine am_get (v := .inr (0, 131)) dX11_hold_25 fl_11_174 (hG.m0 (by decide)) rfl ?_
      refine am_iconst (v := nI 0) dX11_hold_28 (by decide) ?_
      refine am_dup2 dX11_hold_29 ?_
      obtain ⟨g2, h⟩ := am_gd_some h
      refine am_ialdG dX11_hold_30 (hG.m0 (by decide)) rfl g2 (show 640 < 2 ^ 31 by decide) ?_
      refine am_iconst (v := nI 1) dX11_hold_31 (by decide) ?_
      refine am_iadd dX11_hold_32 ?_
      obtain ⟨g3, h⟩ := am_gd_some h
      refine am_iastG dX11_hold_33 (hG.m0 (by decide)) rfl g3 (show 640 < 2 ^ 31 by decide) ?_
      obtain ⟨I4, hI4, h⟩ := am_lt_some h
      refine am_st10 hI4 ?_
      exact am_lwJ (lo' := [none, none]) trivial (tX11_hold_34 hG h)
  · rw [if_neg c] at h
    refine am_aload_n dX11_hold_7 rfl ?_
    refine am_get (v := .inr (0, 131)) dX11_hold_8 fl_11_174 (hG.m0 (by decide)) rfl ?_
    refine am_iload_n dX11_hold_11 rfl ?_
    refine am_dup2 dX11_hold_12 ?_
    obtain ⟨g5, h⟩ := am_gd_some h
    refine am_ialdG dX11_hold_13 (hG.m0 (by decide)) rfl g5 (show 640 < 2 ^ 31 by decide) ?_
    refine am_iconst (v := nI 1) dX11_hold_14 (by decide) ?_
    refine am_iadd dX11_hold_15 ?_
    obtain ⟨g6, h⟩ := am_gd_some h
    refine am_iastG dX11_hold_16 (hG.m0 (by decide)) rfl g6 (show 640 < 2 ^ 31 by decide) ?_
    obtain ⟨I7, hI7, h⟩ := am_lt_some h
    refine am_st10 hI7 ?_
    refine am_goto (tgt := 34) dX11_hold_17 rfl ?_
    exact am_lwJ (lo' := [none, none]) trivial (tX11_hold_34 hG h)
def gX11_hold (n : Nat) (l1 : Int32) (I : am_I) : Option (am_I) := bX11_hold_0 n l1 I
theorem sX11_hold {G : am_G} (hG : am_okM G) {d : Nat} {l1 : Int32} {I : am_I} {r : am_I} (h : gX11_hold G.2.2.2.1 l1 I = some r) : am_C G (d + 2) mX11_hold [.inr (0, 60), .inl l1] I (am_E none r) :=
  am_of (by decide +kernel) hG.nd (Nat.le_of_ble_eq_true rfl) (am_lwJ (lo' := [some (.inr (0, 60)), some (.inl l1)]) ⟨rfl, rfl, trivial⟩ (tX11_hold_0 hG h))
def bX11_findHolders_111 (n : Nat) (k24 : Int32 → am_I → Option (am_I)) (l1 : Int32) (I : am_I) : Option (am_I) := k24 (l1 + nI 1) I
theorem tX11_findHolders_111 {G : am_G} (hG : am_okM G) {d : Nat} {k24 : Int32 → am_I → Option (am_I)} (hk24 : ∀ (l1 : Int32) (I : am_I) (r : am_I), k24 l1 I = some r → am_J G (d + 3) mX11_findHolders am_no (am_E none r) 24 [some (.inr (0, 60)), some (.inl l1), none, none] [] I) {l1 : Int32} {I : am_I} {r : am_I} (h : bX11_findHolders_111 G.2.2.2.1 k24 l1  I = some r) : am_J G (d + 3) mX11_findHolders am_no (am_E none r) 111 [some (.inr (0, 60)), some (.inl l1), none, none] [] I := by
  unfold bX11_findHolders_111 at h
  refine am_iinc (v := l1 + nI 1) dX11_findHolders_111 rfl rfl ?_
  refine am_goto (tgt := 24) dX11_findHolders_114 rfl ?_
  exact am_lwJ (lo' := [some (.inr (0, 60)), some (.inl (l1 + nI 1)), none, none]) ⟨rfl, rfl, trivial⟩ (hk24 (l1 + nI 1) _ _ h)
def bX11_findHolders_77 (n : Nat) (k24 : Int32 → am_I → Option (am_I)) : Nat → Int32 → Int32 → Int32 → am_I → Option (am_I)
  | 0, _, _, _, _ => none
  | fu + 1, l1, l2, l3, I => (fun k77 => (gX11_isData n l2 I).bind (fun q1 => if q1.1 = 0 then (bX11_findHolders_111 n k24 l1 q1.2) else (if (nI 16) ≤ l3 then (bX11_findHolders_111 n k24 l1 q1.2) else (am_gd (am_inb (((nI 16) * l2) + l3) 10240) ((gX11_hold n (q1.2 0 127 ((((nI 16) * l2) + l3).toNatClampNeg)) q1.2).bind (fun q3 => k77 l1 l2 (l3 + nI 1) q3)))))) (bX11_findHolders_77 n k24 fu)
theorem tX11_findHolders_77 {G : am_G} (hG : am_okM G) {d : Nat} {k24 : Int32 → am_I → Option (am_I)} (hk24 : ∀ (l1 : Int32) (I : am_I) (r : am_I), k24 l1 I = some r → am_J G (d + 3) mX11_findHolders am_no (am_E none r) 24 [some (.inr (0, 60)), some (.inl l1), none, none] [] I) : ∀ {fu : Nat} {l1 : Int32} {l2 : Int32} {l3 : Int32} {I : am_I} {r : am_I}, bX11_findHolders_77 G.2.2.2.1 k24 fu l1 l2 l3 I = some r → am_J G (d + 3) mX11_findHolders am_no (am_E none r) 77 [some (.inr (0, 60)), some (.inl l1), some (.inl l2), some (.inl l3)] [] I := by
  intro fu
  induction fu with
  | zero => intro l1 l2 l3 I r h; cases h
  | succ fu ih =>
    intro l1 l2 l3 I r h
    have hk77 : ∀ (l1 : Int32) (l2 : Int32) (l3 : Int32) (I : am_I) (r : am_I), bX11_findHolders_77 G.2.2.2.1 k24 fu l1 l2 l3 I = some r → am_J G (d + 3) mX11_findHolders am_no (am_E none r) 77 [some (.inr (0, 60)), some (.inl l1), some (.inl l2), some (.inl l3)] [] I := fun l1 l2 l3 I r h => ih h
    unfold bX11_findHolders_77 at h
    generalize bX11_findHolders_77 G.2.2.2.1 k24 fu = k77 at hk77 h
    dsimp only at h
    refine am_iload_n dX11_findHolders_77 rfl ?_
    obtain ⟨q1, hq1, h⟩ := am_bd h
    refine am_callSx (as := [.inl l2]) (rest := []) dX11_findHolders_78 lkX11_isData ml_X11_499 isX11_isData rfl (Nat.le_of_ble_eq_true rfl) rfl (sX11_isData hG hq1) ?_
    refine am_if_eq (tgt := 111) dX11_findHolders_81 rfl (fun c => ?_) (fun c => ?_)
    · rw [if_pos c] at h
      exact am_lwJ (lo' := [some (.inr (0, 60)), some (.inl l1), none, none]) ⟨rfl, rfl, trivial⟩ (tX11_findHolders_111 hG hk24 h)
    · rw [if_neg c] at h
      refine am_iload_n dX11_findHolders_84 rfl ?_
      refine am_bipush (v := nI 16) dX11_findHolders_85 (by decide) ?_
      refine am_icmp_ge (tgt := 111) dX11_findHolders_87 rfl (fun c => ?_) (fun c => ?_)
      · rw [if_pos c] at h
        exact am_lwJ (lo' := [some (.inr (0, 60)), some (.inl l1), none, none]) ⟨rfl, rfl, trivial⟩ (tX11_findHolders_111 hG hk24 h)
      · rw [if_neg c] at h
        refine am_aload_n dX11_findHolders_90 rfl ?_
        refine am_aload_n dX11_findHolders_91 rfl ?_
        refine am_get (v := .inr (0, 127)) dX11_findHolders_92 fl_11_162 (hG.m0 (by decide)) rfl ?_
        refine am_bipush (v := nI 16) dX11_findHolders_95 (by decide) ?_
        refine am_iload_n dX11_findHolders_97 rfl ?_
        refine am_imul dX11_findHolders_98 ?_
        refine am_iload_n dX11_findHolders_99 rfl ?_
        refine am_iadd dX11_findHolders_100 ?_
        obtain ⟨g2, h⟩ := am_gd_some h
        refine am_ialdG dX11_findHolders_101 (hG.m0 (by decide)) rfl g2 (show 10240 < 2 ^ 31 by decide) ?_
        obtain ⟨q3, hq3, h⟩ := am_bd h
        refine am_callVe (i := 0) (j := 60) (as := [.inl (q1.2 0 127 ((((nI 16) * l2) + l3).toNatClampNeg))]) (rest := []) dX11_findHolders_102 lkX11_hold ml_X11_505 imX11_hold seX11_hold rfl rfl (hG.m0 (by decide)) rfl (Nat.le_of_ble_eq_true rfl) rfl (sX11_hold hG hq3) ?_
        refine am_iinc (v := l3 + nI 1) dX11_findHolders_105 rfl rfl ?_
        refine am_goto (tgt := 77) dX11_findHolders_108 rfl ?_
        exact am_lwJ (lo' := [some (.inr (0, 60)), some (.inl l1), some (.inl l2), some (.inl (l3 + nI 1))]) ⟨rfl, rfl, rfl, rfl, trivial⟩ (hk77 l1 l2 (l3 + nI 1) _ _ h)
def bX11_findHolders_45 (n : Nat) (k24 : Int32 → am_I → Option (am_I)) : Nat → Int32 → Int32 → am_I → Option (am_I)
  | 0, _, _, _ => none
  | fu + 1, l1, l2, I => (fun k45 => if (nI 11) < l2 then ((gX11_allInode n l1 (nI 11) I).bind (fun q1 => bX11_findHolders_77 n k24 am_fu l1 q1.1 (nI 0) q1.2)) else ((gX11_allInode n l1 l2 I).bind (fun q2 => (gX11_hold n q2.1 q2.2).bind (fun q3 => k45 l1 (l2 + nI 1) q3)))) (bX11_findHolders_45 n k24 fu)
theorem tX11_findHolders_45 {G : am_G} (hG : am_okM G) {d : Nat} {k24 : Int32 → am_I → Option (am_I)} (hk24 : ∀ (l1 : Int32) (I : am_I) (r : am_I), k24 l1 I = some r → am_J G (d + 3) mX11_findHolders am_no (am_E none r) 24 [some (.inr (0, 60)), some (.inl l1), none, none] [] I) : ∀ {fu : Nat} {l1 : Int32} {l2 : Int32} {I : am_I} {r : am_I}, bX11_findHolders_45 G.2.2.2.1 k24 fu l1 l2 I = some r → am_J G (d + 3) mX11_findHolders am_no (am_E none r) 45 [some (.inr (0, 60)), some (.inl l1), some (.inl l2), none] [] I := by
  intro fu
  induction fu with
  | zero => intro l1 l2 I r h; cases h
  | succ fu ih =>
    intro l1 l2 I r h
    have hk45 : ∀ (l1 : Int32) (l2 : Int32) (I : am_I) (r : am_I), bX11_findHolders_45 G.2.2.2.1 k24 fu l1 l2 I = some r → am_J G (d + 3) mX11_findHolders am_no (am_E none r) 45 [some (.inr (0, 60)), some (.inl l1), some (.inl l2), none] [] I := fun l1 l2 I r h => ih h
    unfold bX11_findHolders_45 at h
    generalize bX11_findHolders_45 G.2.2.2.1 k24 fu = k45 at hk45 h
    dsimp only at h
    refine am_iload_n dX11_findHolders_45 rfl ?_
    refine am_bipush (v := nI 11) dX11_findHolders_46 (by decide) ?_
    refine am_icmp_gt (tgt := 67) dX11_findHolders_48 rfl (fun c => ?_) (fun c => ?_)
    · rw [if_pos c] at h
      refine am_aload_n dX11_findHolders_67 rfl ?_
      refine am_iload_n dX11_findHolders_68 rfl ?_
      refine am_bipush (v := nI 11) dX11_findHolders_69 (by decide) ?_
      obtain ⟨q1, hq1, h⟩ := am_bd h
      refine am_callVx (i := 0) (j := 60) (as := [.inl l1, .inl (nI 11)]) (rest := []) dX11_findHolders_71 lkX11_allInode ml_X11_496 imX11_allInode seX11_allInode rfl rfl (hG.m0 (by decide)) rfl (Nat.le_of_ble_eq_true rfl) rfl (sX11_allInode hG hq1) ?_
      refine am_istore_n dX11_findHolders_74 (by decide) ?_
      refine am_iconst (v := nI 0) dX11_findHolders_75 (by decide) ?_
      refine am_istore_n dX11_findHolders_76 (by decide) ?_
      exact am_lwJ (lo' := [some (.inr (0, 60)), some (.inl l1), some (.inl q1.1), some (.inl (nI 0))]) ⟨rfl, rfl, rfl, rfl, trivial⟩ (tX11_findHolders_77 hG hk24 h)
    · rw [if_neg c] at h
      refine am_aload_n dX11_findHolders_51 rfl ?_
      refine am_aload_n dX11_findHolders_52 rfl ?_
      refine am_iload_n dX11_findHolders_53 rfl ?_
      refine am_iload_n dX11_findHolders_54 rfl ?_
      obtain ⟨q2, hq2, h⟩ := am_bd h
      refine am_callVx (i := 0) (j := 60) (as := [.inl l1, .inl l2]) (rest := [.inr (0, 60)]) dX11_findHolders_55 lkX11_allInode ml_X11_496 imX11_allInode seX11_allInode rfl rfl (hG.m0 (by decide)) rfl (Nat.le_of_ble_eq_true rfl) rfl (sX11_allInode hG hq2) ?_
      obtain ⟨q3, hq3, h⟩ := am_bd h
      refine am_callVe (i := 0) (j := 60) (as := [.inl q2.1]) (rest := []) dX11_findHolders_58 lkX11_hold ml_X11_505 imX11_hold seX11_hold rfl rfl (hG.m0 (by decide)) rfl (Nat.le_of_ble_eq_true rfl) rfl (sX11_hold hG hq3) ?_
      refine am_iinc (v := l2 + nI 1) dX11_findHolders_61 rfl rfl ?_
      refine am_goto (tgt := 45) dX11_findHolders_64 rfl ?_
      exact am_lwJ (lo' := [some (.inr (0, 60)), some (.inl l1), some (.inl (l2 + nI 1)), none]) ⟨rfl, rfl, rfl, trivial⟩ (hk45 l1 (l2 + nI 1) _ _ h)
def bX11_findHolders_24 (n : Nat) : Nat → Int32 → am_I → Option (am_I)
  | 0, _, _ => none
  | fu + 1, l1, I => (fun k24 => if (nI 128) ≤ l1 then (some I) else ((gX11_allInode n l1 (nI 0) I).bind (fun q1 => if q1.1 = 0 then (bX11_findHolders_111 n k24 l1 q1.2) else (bX11_findHolders_45 n k24 am_fu l1 (nI 3) q1.2)))) (bX11_findHolders_24 n fu)
theorem tX11_findHolders_24 {G : am_G} (hG : am_okM G) {d : Nat} : ∀ {fu : Nat} {l1 : Int32} {I : am_I} {r : am_I}, bX11_findHolders_24 G.2.2.2.1 fu l1 I = some r → am_J G (d + 3) mX11_findHolders am_no (am_E none r) 24 [some (.inr (0, 60)), some (.inl l1), none, none] [] I := by
  intro fu
  induction fu with
  | zero => intro l1 I r h; cases h
  | succ fu ih =>
    intro l1 I r h
    have hk24 : ∀ (l1 : Int32) (I : am_I) (r : am_I), bX11_findHolders_24 G.2.2.2.1 fu l1 I = some r → am_J G (d + 3) mX11_findHolders am_no (am_E none r) 24 [some (.inr (0, 60)), some (.inl l1), none, none] [] I := fun l1 I r h => ih h
    unfold bX11_findHolders_24 at h
    generalize bX11_findHolders_24 G.2.2.2.1 fu = k24 at hk24 h
    dsimp only at h
    refine am_iload_n dX11_findHolders_24 rfl ?_
    refine am_sipush (v := nI 128) dX11_findHolders_25 (by decide) ?_
    refine am_icmp_ge (tgt := 117) dX11_findHolders_28 rfl (fun c => ?_) (fun c => ?_)
    · rw [if_pos c] at h
      cases h
      exact am_vret dX11_findHolders_117 rfl ⟨rfl, rfl⟩
    · rw [if_neg c] at h
      refine am_aload_n dX11_findHolders_31 rfl ?_
      refine am_iload_n dX11_findHolders_32 rfl ?_
      refine am_iconst (v := nI 0) dX11_findHolders_33 (by decide) ?_
      obtain ⟨q1, hq1, h⟩ := am_bd h
      refine am_callVx (i := 0) (j := 60) (as := [.inl l1, .inl (nI 0)]) (rest := []) dX11_findHolders_34 lkX11_allInode ml_X11_496 imX11_allInode seX11_allInode rfl rfl (hG.m0 (by decide)) rfl (Nat.le_of_ble_eq_true rfl) rfl (sX11_allInode hG hq1) ?_
      refine am_if_ne (tgt := 43) dX11_findHolders_37 rfl (fun c => ?_) (fun c => ?_)
      · rw [if_neg c] at h
        refine am_iconst (v := nI 3) dX11_findHolders_43 (by decide) ?_
        refine am_istore_n dX11_findHolders_44 (by decide) ?_
        exact am_lwJ (lo' := [some (.inr (0, 60)), some (.inl l1), some (.inl (nI 3)), none]) ⟨rfl, rfl, rfl, trivial⟩ (tX11_findHolders_45 hG hk24 h)
      · rw [if_pos c] at h
        refine am_goto (tgt := 111) dX11_findHolders_40 rfl ?_
        exact am_lwJ (lo' := [some (.inr (0, 60)), some (.inl l1), none, none]) ⟨rfl, rfl, trivial⟩ (tX11_findHolders_111 hG hk24 h)
def bX11_findHolders_2 (n : Nat) : Nat → Int32 → am_I → Option (am_I)
  | 0, _, _ => none
  | fu + 1, l1, I => (fun k2 => if (nI 640) ≤ l1 then (bX11_findHolders_24 n am_fu (nI 0) I) else (am_gd (am_inb l1 640) (am_lt (am_up I 0 131 l1.toNatClampNeg (nI 0)) (fun I2 => k2 (l1 + nI 1) I2)))) (bX11_findHolders_2 n fu)
theorem tX11_findHolders_2 {G : am_G} (hG : am_okM G) {d : Nat} : ∀ {fu : Nat} {l1 : Int32} {I : am_I} {r : am_I}, bX11_findHolders_2 G.2.2.2.1 fu l1 I = some r → am_J G (d + 3) mX11_findHolders am_no (am_E none r) 2 [some (.inr (0, 60)), some (.inl l1), none, none] [] I := by
  intro fu
  induction fu with
  | zero => intro l1 I r h; cases h
  | succ fu ih =>
    intro l1 I r h
    have hk2 : ∀ (l1 : Int32) (I : am_I) (r : am_I), bX11_findHolders_2 G.2.2.2.1 fu l1 I = some r → am_J G (d + 3) mX11_findHolders am_no (am_E none r) 2 [some (.inr (0, 60)), some (.inl l1), none, none] [] I := fun l1 I r h => ih h
    unfold bX11_findHolders_2 at h
    generalize bX11_findHolders_2 G.2.2.2.1 fu = k2 at hk2 h
    dsimp only at h
    refine am_iload_n dX11_findHolders_2 rfl ?_
    refine am_sipush (v := nI 640) dX11_findHolders_3 (by decide) ?_
    refine am_icmp_ge (tgt := 22) dX11_findHolders_6 rfl (fun c => ?_) (fun c => ?_)
    · rw [if_pos c] at h
      refine am_iconst (v := nI 0) dX11_findHolders_22 (by decide) ?_
      refine am_istore_n dX11_findHolders_23 (by decide) ?_
      exact am_lwJ (lo' := [some (.inr (0, 60)), some (.inl (nI 0)), none, none]) ⟨rfl, rfl, trivial⟩ (tX11_findHolders_24 hG h)
    · rw [if_neg c] at h
      refine am_aload_n dX11_findHolders_9 rfl ?_
      refine am_get (v := .inr (0, 131)) dX11_findHolders_10 fl_11_174 (hG.m0 (by decide)) rfl ?_
      refine am_iload_n dX11_findHolders_13 rfl ?_
      refine am_iconst (v := nI 0) dX11_findHolders_14 (by decide) ?_
      obtain ⟨g1, h⟩ := am_gd_some h
      refine am_iastG dX11_findHolders_15 (hG.m0 (by decide)) rfl g1 (show 640 < 2 ^ 31 by decide) ?_
      obtain ⟨I2, hI2, h⟩ := am_lt_some h
      refine am_st10 hI2 ?_
      refine am_iinc (v := l1 + nI 1) dX11_findHolders_16 rfl rfl ?_
      refine am_goto (tgt := 2) dX11_findHolders_19 rfl ?_
      exact am_lwJ (lo' := [some (.inr (0, 60)), some (.inl (l1 + nI 1)), none, none]) ⟨rfl, rfl, trivial⟩ (hk2 (l1 + nI 1) _ _ h)
def bX11_findHolders_0 (n : Nat) (I : am_I) : Option (am_I) := bX11_findHolders_2 n am_fu (nI 0) I
theorem tX11_findHolders_0 {G : am_G} (hG : am_okM G) {d : Nat} {I : am_I} {r : am_I} (h : bX11_findHolders_0 G.2.2.2.1  I = some r) : am_J G (d + 3) mX11_findHolders am_no (am_E none r) 0 [some (.inr (0, 60)), none, none, none] [] I := by
  unfold bX11_findHolders_0 at h
  refine am_iconst (v := nI 0) dX11_findHolders_0 (by decide) ?_
  refine am_istore_n dX11_findHolders_1 (by decide) ?_
  exact am_lwJ (lo' := [some (.inr (0, 60)), some (.inl (nI 0)), none, none]) ⟨rfl, rfl, trivial⟩ (tX11_findHolders_2 hG h)
def gX11_findHolders (n : Nat) (I : am_I) : Option (am_I) := bX11_findHolders_0 n I
theorem sX11_findHolders {G : am_G} (hG : am_okM G) {d : Nat} {I : am_I} {r : am_I} (h : gX11_findHolders G.2.2.2.1 I = some r) : am_C G (d + 3) mX11_findHolders [.inr (0, 60)] I (am_E none r) :=
  am_of (by decide +kernel) hG.nd (Nat.le_of_ble_eq_true rfl) (am_lwJ (lo' := [some (.inr (0, 60)), none, none, none]) ⟨rfl, trivial⟩ (tX11_findHolders_0 hG h))
def bX11_areMapsWrong_162 (n : Nat) (k4 : Int32 → Int32 → am_I → Option (Int32 × am_I)) (k87 : Int32 → Int32 → Int32 → am_I → Option (Int32 × am_I)) (l2 : Int32) (l3 : Int32) (s0 : Int32) (I : am_I) : Option (Int32 × am_I) := k87 s0 l2 (l3 + nI 1) I
theorem tX11_areMapsWrong_162 {G : am_G} (hG : am_okM G) {d : Nat} {k4 : Int32 → Int32 → am_I → Option (Int32 × am_I)} {k87 : Int32 → Int32 → Int32 → am_I → Option (Int32 × am_I)} (hk4 : ∀ (l1 : Int32) (l2 : Int32) (I : am_I) (r : Int32 × am_I), k4 l1 l2 I = some r → am_J G (d + 2) mX11_areMapsWrong am_no (am_E (some r.1) r.2) 4 [some (.inr (0, 60)), some (.inl l1), some (.inl l2), none, none] [] I) (hk87 : ∀ (l1 : Int32) (l2 : Int32) (l3 : Int32) (I : am_I) (r : Int32 × am_I), k87 l1 l2 l3 I = some r → am_J G (d + 2) mX11_areMapsWrong am_no (am_E (some r.1) r.2) 87 [some (.inr (0, 60)), some (.inl l1), some (.inl l2), some (.inl l3), none] [] I) {l2 : Int32} {l3 : Int32} {s0 : Int32} {I : am_I} {r : Int32 × am_I} (h : bX11_areMapsWrong_162 G.2.2.2.1 k4 k87 l2 l3 s0  I = some r) : am_J G (d + 2) mX11_areMapsWrong am_no (am_E (some r.1) r.2) 162 [some (.inr (0, 60)), none, some (.inl l2), some (.inl l3), none] [.inl s0] I := by
  unfold bX11_areMapsWrong_162 at h
  refine am_istore_n dX11_areMapsWrong_162 (by decide) ?_
  refine am_iinc (v := l3 + nI 1) dX11_areMapsWrong_163 rfl rfl ?_
  refine am_goto (tgt := 87) dX11_areMapsWrong_166 rfl ?_
  exact am_lwJ (lo' := [some (.inr (0, 60)), some (.inl s0), some (.inl l2), some (.inl (l3 + nI 1)), none]) ⟨rfl, rfl, rfl, rfl, trivial⟩ (hk87 s0 l2 (l3 + nI 1) _ _ h)
def bX11_areMapsWrong_157 (n : Nat) (k4 : Int32 → Int32 → am_I → Option (Int32 × am_I)) (k87 : Int32 → Int32 → Int32 → am_I → Option (Int32 × am_I)) (l2 : Int32) (l3 : Int32) (I : am_I) : Option (Int32 × am_I) := bX11_areMapsWrong_162 n k4 k87 l2 l3 (nI 1) I
theorem tX11_areMapsWrong_157 {G : am_G} (hG : am_okM G) {d : Nat} {k4 : Int32 → Int32 → am_I → Option (Int32 × am_I)} {k87 : Int32 → Int32 → Int32 → am_I → Option (Int32 × am_I)} (hk4 : ∀ (l1 : Int32) (l2 : Int32) (I : am_I) (r : Int32 × am_I), k4 l1 l2 I = some r → am_J G (d + 2) mX11_areMapsWrong am_no (am_E (some r.1) r.2) 4 [some (.inr (0, 60)), some (.inl l1), some (.inl l2), none, none] [] I) (hk87 : ∀ (l1 : Int32) (l2 : Int32) (l3 : Int32) (I : am_I) (r : Int32 × am_I), k87 l1 l2 l3 I = some r → am_J G (d + 2) mX11_areMapsWrong am_no (am_E (some r.1) r.2) 87 [some (.inr (0, 60)), some (.inl l1), some (.inl l2), some (.inl l3), none] [] I) {l2 : Int32} {l3 : Int32} {I : am_I} {r : Int32 × am_I} (h : bX11_areMapsWrong_157 G.2.2.2.1 k4 k87 l2 l3  I = some r) : am_J G (d + 2) mX11_areMapsWrong am_no (am_E (some r.1) r.2) 157 [some (.inr (0, 60)), none, some (.inl l2), some (.inl l3), none] [] I := by
  unfold bX11_areMapsWrong_157 at h
  refine am_iconst (v := nI 1) dX11_areMapsWrong_157 (by decide) ?_
  refine am_goto (tgt := 162) dX11_areMapsWrong_158 rfl ?_
  exact am_lwJ (lo' := [some (.inr (0, 60)), none, some (.inl l2), some (.inl l3), none]) ⟨rfl, rfl, rfl, trivial⟩ (tX11_areMapsWrong_162 hG hk4 hk87 h)
def bX11_areMapsWrong_154 (n : Nat) (k4 : Int32 → Int32 → am_I → Option (Int32 × am_I)) (k87 : Int32 → Int32 → Int32 → am_I → Option (Int32 × am_I)) (l2 : Int32) (l3 : Int32) (s0 : Int32) (s1 : Int32) (I : am_I) : Option (Int32 × am_I) := if s1 = s0 then (bX11_areMapsWrong_162 n k4 k87 l2 l3 (nI 0) I) else (bX11_areMapsWrong_157 n k4 k87 l2 l3 I)
theorem tX11_areMapsWrong_154 {G : am_G} (hG : am_okM G) {d : Nat} {k4 : Int32 → Int32 → am_I → Option (Int32 × am_I)} {k87 : Int32 → Int32 → Int32 → am_I → Option (Int32 × am_I)} (hk4 : ∀ (l1 : Int32) (l2 : Int32) (I : am_I) (r : Int32 × am_I), k4 l1 l2 I = some r → am_J G (d + 2) mX11_areMapsWrong am_no (am_E (some r.1) r.2) 4 [some (.inr (0, 60)), some (.inl l1), some (.inl l2), none, none] [] I) (hk87 : ∀ (l1 : Int32) (l2 : Int32) (l3 : Int32) (I : am_I) (r : Int32 × am_I), k87 l1 l2 l3 I = some r → am_J G (d + 2) mX11_areMapsWrong am_no (am_E (some r.1) r.2) 87 [some (.inr (0, 60)), some (.inl l1), some (.inl l2), some (.inl l3), none] [] I) {l2 : Int32} {l3 : Int32} {s0 : Int32} {s1 : Int32} {I : am_I} {r : Int32 × am_I} (h : bX11_areMapsWrong_154 G.2.2.2.1 k4 k87 l2 l3 s0 s1  I = some r) : am_J G (d + 2) mX11_areMapsWrong am_no (am_E (some r.1) r.2) 154 [some (.inr (0, 60)), none, some (.inl l2), some (.inl l3), none] [.inl s0, .inl s1] I := by
  unfold bX11_areMapsWrong_154 at h
  refine am_icmp_eq (tgt := 161) dX11_areMapsWrong_154 rfl (fun c => ?_) (fun c => ?_)
  · rw [if_pos c] at h
    refine am_iconst (v := nI 0) dX11_areMapsWrong_161 (by decide) ?_
    exact am_lwJ (lo' := [some (.inr (0, 60)), none, some (.inl l2), some (.inl l3), none]) ⟨rfl, rfl, rfl, trivial⟩ (tX11_areMapsWrong_162 hG hk4 hk87 h)
  · rw [if_neg c] at h
    exact am_lwJ (lo' := [some (.inr (0, 60)), none, some (.inl l2), some (.inl l3), none]) ⟨rfl, rfl, rfl, trivial⟩ (tX11_areMapsWrong_157 hG hk4 hk87 h)
def bX11_areMapsWrong_128 (n : Nat) (k4 : Int32 → Int32 → am_I → Option (Int32 × am_I)) (k87 : Int32 → Int32 → Int32 → am_I → Option (Int32 × am_I)) (l1 : Int32) (l2 : Int32) (l3 : Int32) (s0 : Int32) (I : am_I) : Option (Int32 × am_I) := if l1 = 0 then ((gX11_dataBlock n l2 l3 I).bind (fun q1 => am_gd (am_inb q1.1 640) (if (q1.2 0 131 q1.1.toNatClampNeg) ≤ 0 then (bX11_areMapsWrong_154 n k4 k87 l2 l3 (nI 0) s0 q1.2) else (bX11_areMapsWrong_154 n k4 k87 l2 l3 (nI 1) s0 q1.2)))) else (bX11_areMapsWrong_157 n k4 k87 l2 l3 I)
theorem tX11_areMapsWrong_128 {G : am_G} (hG : am_okM G) {d : Nat} {k4 : Int32 → Int32 → am_I → Option (Int32 × am_I)} {k87 : Int32 → Int32 → Int32 → am_I → Option (Int32 × am_I)} (hk4 : ∀ (l1 : Int32) (l2 : Int32) (I : am_I) (r : Int32 × am_I), k4 l1 l2 I = some r → am_J G (d + 2) mX11_areMapsWrong am_no (am_E (some r.1) r.2) 4 [some (.inr (0, 60)), some (.inl l1), some (.inl l2), none, none] [] I) (hk87 : ∀ (l1 : Int32) (l2 : Int32) (l3 : Int32) (I : am_I) (r : Int32 × am_I), k87 l1 l2 l3 I = some r → am_J G (d + 2) mX11_areMapsWrong am_no (am_E (some r.1) r.2) 87 [some (.inr (0, 60)), some (.inl l1), some (.inl l2), some (.inl l3), none] [] I) {l1 : Int32} {l2 : Int32} {l3 : Int32} {s0 : Int32} {I : am_I} {r : Int32 × am_I} (h : bX11_areMapsWrong_128 G.2.2.2.1 k4 k87 l1 l2 l3 s0  I = some r) : am_J G (d + 2) mX11_areMapsWrong am_no (am_E (some r.1) r.2) 128 [some (.inr (0, 60)), some (.inl l1), some (.inl l2), some (.inl l3), none] [.inl s0] I := by
  unfold bX11_areMapsWrong_128 at h
  refine am_istore dX11_areMapsWrong_128 (by decide) ?_
  refine am_iload_n dX11_areMapsWrong_130 rfl ?_
  refine am_if_ne (tgt := 157) dX11_areMapsWrong_131 rfl (fun c => ?_) (fun c => ?_)
  · rw [if_neg c] at h
    exact am_lwJ (lo' := [some (.inr (0, 60)), none, some (.inl l2), some (.inl l3), none]) ⟨rfl, rfl, rfl, trivial⟩ (tX11_areMapsWrong_157 hG hk4 hk87 h)
  · rw [if_pos c] at h
    refine am_iload dX11_areMapsWrong_134 rfl ?_
    refine am_aload_n dX11_areMapsWrong_136 rfl ?_
    refine am_get (v := .inr (0, 131)) dX11_areMapsWrong_137 fl_11_174 (hG.m0 (by decide)) rfl ?_
    refine am_iload_n dX11_areMapsWrong_140 rfl ?_
    refine am_iload_n dX11_areMapsWrong_141 rfl ?_
    obtain ⟨q1, hq1, h⟩ := am_bd h
    refine am_callSx (as := [.inl l2, .inl l3]) (rest := [.inr (0, 131), .inl s0]) dX11_areMapsWrong_142 lkX11_dataBlock ml_X11_342 isX11_dataBlock rfl (Nat.le_of_ble_eq_true rfl) rfl (sX11_dataBlock hG hq1) ?_
    obtain ⟨g2, h⟩ := am_gd_some h
    refine am_ialdG dX11_areMapsWrong_145 (hG.m0 (by decide)) rfl g2 (show 640 < 2 ^ 31 by decide) ?_
    refine am_if_le (tgt := 153) dX11_areMapsWrong_146 rfl (fun c => ?_) (fun c => ?_)
    · rw [if_pos c] at h
      refine am_iconst (v := nI 0) dX11_areMapsWrong_153 (by decide) ?_
      exact am_lwJ (lo' := [some (.inr (0, 60)), none, some (.inl l2), some (.inl l3), none]) ⟨rfl, rfl, rfl, trivial⟩ (tX11_areMapsWrong_154 hG hk4 hk87 h)
    · rw [if_neg c] at h
      refine am_iconst (v := nI 1) dX11_areMapsWrong_149 (by decide) ?_
      refine am_goto (tgt := 154) dX11_areMapsWrong_150 rfl ?_
      exact am_lwJ (lo' := [some (.inr (0, 60)), none, some (.inl l2), some (.inl l3), none]) ⟨rfl, rfl, rfl, trivial⟩ (tX11_areMapsWrong_154 hG hk4 hk87 h)
def bX11_areMapsWrong_87 (n : Nat) (k4 : Int32 → Int32 → am_I → Option (Int32 × am_I)) : Nat → Int32 → Int32 → Int32 → am_I → Option (Int32 × am_I)
  | 0, _, _, _, _ => none
  | fu + 1, l1, l2, l3, I => (fun k87 => if (nI 47) ≤ l3 then (k4 l1 (l2 + nI 1) I) else ((gX11_mapOf n l2 I).bind (fun q1 => am_gd (am_inb ((((nI 16) * q1.1) + (nI 1)) + (l3 / (nI 32))) 10240) (if (((q1.2 0 127 (((((nI 16) * q1.1) + (nI 1)) + (l3 / (nI 32))).toNatClampNeg)) >>> ((l3 - l3 / (nI 32) * (nI 32)) &&& 31)) &&& (nI 1)) = (nI 1) then (bX11_areMapsWrong_128 n k4 k87 l1 l2 l3 (nI 1) q1.2) else (bX11_areMapsWrong_128 n k4 k87 l1 l2 l3 (nI 0) q1.2))))) (bX11_areMapsWrong_87 n k4 fu)
theorem tX11_areMapsWrong_87 {G : am_G} (hG : am_okM G) {d : Nat} {k4 : Int32 → Int32 → am_I → Option (Int32 × am_I)} (hk4 : ∀ (l1 : Int32) (l2 : Int32) (I : am_I) (r : Int32 × am_I), k4 l1 l2 I = some r → am_J G (d + 2) mX11_areMapsWrong am_no (am_E (some r.1) r.2) 4 [some (.inr (0, 60)), some (.inl l1), some (.inl l2), none, none] [] I) : ∀ {fu : Nat} {l1 : Int32} {l2 : Int32} {l3 : Int32} {I : am_I} {r : Int32 × am_I}, bX11_areMapsWrong_87 G.2.2.2.1 k4 fu l1 l2 l3 I = some r → am_J G (d + 2) mX11_areMapsWrong am_no (am_E (some r.1) r.2) 87 [some (.inr (0, 60)), some (.inl l1), some (.inl l2), some (.inl l3), none] [] I := by
  intro fu
  induction fu with
  | zero => intro l1 l2 l3 I r h; cases h
  | succ fu ih =>
    intro l1 l2 l3 I r h
    have hk87 : ∀ (l1 : Int32) (l2 : Int32) (l3 : Int32) (I : am_I) (r : Int32 × am_I), bX11_areMapsWrong_87 G.2.2.2.1 k4 fu l1 l2 l3 I = some r → am_J G (d + 2) mX11_areMapsWrong am_no (am_E (some r.1) r.2) 87 [some (.inr (0, 60)), some (.inl l1), some (.inl l2), some (.inl l3), none] [] I := fun l1 l2 l3 I r h => ih h
    unfold bX11_areMapsWrong_87 at h
    generalize bX11_areMapsWrong_87 G.2.2.2.1 k4 fu = k87 at hk87 h
    dsimp only at h
    refine am_iload_n dX11_areMapsWrong_87 rfl ?_
    refine am_bipush (v := nI 47) dX11_areMapsWrong_88 (by decide) ?_
    refine am_icmp_ge (tgt := 169) dX11_areMapsWrong_90 rfl (fun c => ?_) (fun c => ?_)
    · rw [if_pos c] at h
      refine am_iinc (v := l2 + nI 1) dX11_areMapsWrong_169 rfl rfl ?_
      refine am_goto (tgt := 4) dX11_areMapsWrong_172 rfl ?_
      exact am_lwJ (lo' := [some (.inr (0, 60)), some (.inl l1), some (.inl (l2 + nI 1)), none, none]) ⟨rfl, rfl, rfl, trivial⟩ (hk4 l1 (l2 + nI 1) _ _ h)
    · rw [if_neg c] at h
      refine am_aload_n dX11_areMapsWrong_93 rfl ?_
      refine am_get (v := .inr (0, 127)) dX11_areMapsWrong_94 fl_11_162 (hG.m0 (by decide)) rfl ?_
      refine am_bipush (v := nI 16) dX11_areMapsWrong_97 (by decide) ?_
      refine am_iload_n dX11_areMapsWrong_99 rfl ?_
      obtain ⟨q1, hq1, h⟩ := am_bd h
      refine am_callSx (as := [.inl l2]) (rest := [.inl (nI 16), .inr (0, 127)]) dX11_areMapsWrong_100 lkX11_mapOf ml_X11_181 isX11_mapOf rfl (Nat.le_of_ble_eq_true rfl) rfl (sX11_mapOf hG hq1) ?_
      refine am_imul dX11_areMapsWrong_103 ?_
      refine am_iconst (v := nI 1) dX11_areMapsWrong_104 (by decide) ?_
      refine am_iadd dX11_areMapsWrong_105 ?_
      refine am_iload_n dX11_areMapsWrong_106 rfl ?_
      refine am_bipush (v := nI 32) dX11_areMapsWrong_107 (by decide) ?_
      refine am_idiv dX11_areMapsWrong_109 (by decide) ?_
      refine am_iadd dX11_areMapsWrong_110 ?_
      obtain ⟨g2, h⟩ := am_gd_some h
      refine am_ialdG dX11_areMapsWrong_111 (hG.m0 (by decide)) rfl g2 (show 10240 < 2 ^ 31 by decide) ?_
      refine am_iload_n dX11_areMapsWrong_112 rfl ?_
      refine am_bipush (v := nI 32) dX11_areMapsWrong_113 (by decide) ?_
      refine am_irem dX11_areMapsWrong_115 (by decide) ?_
      refine am_ishr dX11_areMapsWrong_116 ?_
      refine am_iconst (v := nI 1) dX11_areMapsWrong_117 (by decide) ?_
      refine am_iand dX11_areMapsWrong_118 ?_
      refine am_iconst (v := nI 1) dX11_areMapsWrong_119 (by decide) ?_
      refine am_icmp_ne (tgt := 127) dX11_areMapsWrong_120 rfl (fun c => ?_) (fun c => ?_)
      · rw [if_neg c] at h
        refine am_iconst (v := nI 0) dX11_areMapsWrong_127 (by decide) ?_
        exact am_lwJ (lo' := [some (.inr (0, 60)), some (.inl l1), some (.inl l2), some (.inl l3), none]) ⟨rfl, rfl, rfl, rfl, trivial⟩ (tX11_areMapsWrong_128 hG hk4 hk87 h)
      · rw [if_pos c] at h
        refine am_iconst (v := nI 1) dX11_areMapsWrong_123 (by decide) ?_
        refine am_goto (tgt := 128) dX11_areMapsWrong_124 rfl ?_
        exact am_lwJ (lo' := [some (.inr (0, 60)), some (.inl l1), some (.inl l2), some (.inl l3), none]) ⟨rfl, rfl, rfl, rfl, trivial⟩ (tX11_areMapsWrong_128 hG hk4 hk87 h)
def bX11_areMapsWrong_78 (n : Nat) (k4 : Int32 → Int32 → am_I → Option (Int32 × am_I)) (k12 : Int32 → Int32 → Int32 → am_I → Option (Int32 × am_I)) (l2 : Int32) (l3 : Int32) (s0 : Int32) (I : am_I) : Option (Int32 × am_I) := k12 s0 l2 (l3 + nI 1) I
theorem tX11_areMapsWrong_78 {G : am_G} (hG : am_okM G) {d : Nat} {k4 : Int32 → Int32 → am_I → Option (Int32 × am_I)} {k12 : Int32 → Int32 → Int32 → am_I → Option (Int32 × am_I)} (hk4 : ∀ (l1 : Int32) (l2 : Int32) (I : am_I) (r : Int32 × am_I), k4 l1 l2 I = some r → am_J G (d + 2) mX11_areMapsWrong am_no (am_E (some r.1) r.2) 4 [some (.inr (0, 60)), some (.inl l1), some (.inl l2), none, none] [] I) (hk12 : ∀ (l1 : Int32) (l2 : Int32) (l3 : Int32) (I : am_I) (r : Int32 × am_I), k12 l1 l2 l3 I = some r → am_J G (d + 2) mX11_areMapsWrong am_no (am_E (some r.1) r.2) 12 [some (.inr (0, 60)), some (.inl l1), some (.inl l2), some (.inl l3), none] [] I) {l2 : Int32} {l3 : Int32} {s0 : Int32} {I : am_I} {r : Int32 × am_I} (h : bX11_areMapsWrong_78 G.2.2.2.1 k4 k12 l2 l3 s0  I = some r) : am_J G (d + 2) mX11_areMapsWrong am_no (am_E (some r.1) r.2) 78 [some (.inr (0, 60)), none, some (.inl l2), some (.inl l3), none] [.inl s0] I := by
  unfold bX11_areMapsWrong_78 at h
  refine am_istore_n dX11_areMapsWrong_78 (by decide) ?_
  refine am_iinc (v := l3 + nI 1) dX11_areMapsWrong_79 rfl rfl ?_
  refine am_goto (tgt := 12) dX11_areMapsWrong_82 rfl ?_
  exact am_lwJ (lo' := [some (.inr (0, 60)), some (.inl s0), some (.inl l2), some (.inl (l3 + nI 1)), none]) ⟨rfl, rfl, rfl, rfl, trivial⟩ (hk12 s0 l2 (l3 + nI 1) _ _ h)
def bX11_areMapsWrong_73 (n : Nat) (k4 : Int32 → Int32 → am_I → Option (Int32 × am_I)) (k12 : Int32 → Int32 → Int32 → am_I → Option (Int32 × am_I)) (l2 : Int32) (l3 : Int32) (I : am_I) : Option (Int32 × am_I) := bX11_areMapsWrong_78 n k4 k12 l2 l3 (nI 1) I
theorem tX11_areMapsWrong_73 {G : am_G} (hG : am_okM G) {d : Nat} {k4 : Int32 → Int32 → am_I → Option (Int32 × am_I)} {k12 : Int32 → Int32 → Int32 → am_I → Option (Int32 × am_I)} (hk4 : ∀ (l1 : Int32) (l2 : Int32) (I : am_I) (r : Int32 × am_I), k4 l1 l2 I = some r → am_J G (d + 2) mX11_areMapsWrong am_no (am_E (some r.1) r.2) 4 [some (.inr (0, 60)), some (.inl l1), some (.inl l2), none, none] [] I) (hk12 : ∀ (l1 : Int32) (l2 : Int32) (l3 : Int32) (I : am_I) (r : Int32 × am_I), k12 l1 l2 l3 I = some r → am_J G (d + 2) mX11_areMapsWrong am_no (am_E (some r.1) r.2) 12 [some (.inr (0, 60)), some (.inl l1), some (.inl l2), some (.inl l3), none] [] I) {l2 : Int32} {l3 : Int32} {I : am_I} {r : Int32 × am_I} (h : bX11_areMapsWrong_73 G.2.2.2.1 k4 k12 l2 l3  I = some r) : am_J G (d + 2) mX11_areMapsWrong am_no (am_E (some r.1) r.2) 73 [some (.inr (0, 60)), none, some (.inl l2), some (.inl l3), none] [] I := by
  unfold bX11_areMapsWrong_73 at h
  refine am_iconst (v := nI 1) dX11_areMapsWrong_73 (by decide) ?_
  refine am_goto (tgt := 78) dX11_areMapsWrong_74 rfl ?_
  exact am_lwJ (lo' := [some (.inr (0, 60)), none, some (.inl l2), some (.inl l3), none]) ⟨rfl, rfl, rfl, trivial⟩ (tX11_areMapsWrong_78 hG hk4 hk12 h)
def bX11_areMapsWrong_70 (n : Nat) (k4 : Int32 → Int32 → am_I → Option (Int32 × am_I)) (k12 : Int32 → Int32 → Int32 → am_I → Option (Int32 × am_I)) (l2 : Int32) (l3 : Int32) (s0 : Int32) (s1 : Int32) (I : am_I) : Option (Int32 × am_I) := if s1 = s0 then (bX11_areMapsWrong_78 n k4 k12 l2 l3 (nI 0) I) else (bX11_areMapsWrong_73 n k4 k12 l2 l3 I)
theorem tX11_areMapsWrong_70 {G : am_G} (hG : am_okM G) {d : Nat} {k4 : Int32 → Int32 → am_I → Option (Int32 × am_I)} {k12 : Int32 → Int32 → Int32 → am_I → Option (Int32 × am_I)} (hk4 : ∀ (l1 : Int32) (l2 : Int32) (I : am_I) (r : Int32 × am_I), k4 l1 l2 I = some r → am_J G (d + 2) mX11_areMapsWrong am_no (am_E (some r.1) r.2) 4 [some (.inr (0, 60)), some (.inl l1), some (.inl l2), none, none] [] I) (hk12 : ∀ (l1 : Int32) (l2 : Int32) (l3 : Int32) (I : am_I) (r : Int32 × am_I), k12 l1 l2 l3 I = some r → am_J G (d + 2) mX11_areMapsWrong am_no (am_E (some r.1) r.2) 12 [some (.inr (0, 60)), some (.inl l1), some (.inl l2), some (.inl l3), none] [] I) {l2 : Int32} {l3 : Int32} {s0 : Int32} {s1 : Int32} {I : am_I} {r : Int32 × am_I} (h : bX11_areMapsWrong_70 G.2.2.2.1 k4 k12 l2 l3 s0 s1  I = some r) : am_J G (d + 2) mX11_areMapsWrong am_no (am_E (some r.1) r.2) 70 [some (.inr (0, 60)), none, some (.inl l2), some (.inl l3), none] [.inl s0, .inl s1] I := by
  unfold bX11_areMapsWrong_70 at h
  refine am_icmp_eq (tgt := 77) dX11_areMapsWrong_70 rfl (fun c => ?_) (fun c => ?_)
  · rw [if_pos c] at h
    refine am_iconst (v := nI 0) dX11_areMapsWrong_77 (by decide) ?_
    exact am_lwJ (lo' := [some (.inr (0, 60)), none, some (.inl l2), some (.inl l3), none]) ⟨rfl, rfl, rfl, trivial⟩ (tX11_areMapsWrong_78 hG hk4 hk12 h)
  · rw [if_neg c] at h
    exact am_lwJ (lo' := [some (.inr (0, 60)), none, some (.inl l2), some (.inl l3), none]) ⟨rfl, rfl, rfl, trivial⟩ (tX11_areMapsWrong_73 hG hk4 hk12 h)
def bX11_areMapsWrong_43 (n : Nat) (k4 : Int32 → Int32 → am_I → Option (Int32 × am_I)) (k12 : Int32 → Int32 → Int32 → am_I → Option (Int32 × am_I)) (l1 : Int32) (l2 : Int32) (l3 : Int32) (s0 : Int32) (I : am_I) : Option (Int32 × am_I) := if l1 = 0 then ((gX11_allInode n (((nI 16) * l2) + l3) (nI 0) I).bind (fun q1 => if q1.1 = 0 then (bX11_areMapsWrong_70 n k4 k12 l2 l3 (nI 0) s0 q1.2) else (bX11_areMapsWrong_70 n k4 k12 l2 l3 (nI 1) s0 q1.2))) else (bX11_areMapsWrong_73 n k4 k12 l2 l3 I)
theorem tX11_areMapsWrong_43 {G : am_G} (hG : am_okM G) {d : Nat} {k4 : Int32 → Int32 → am_I → Option (Int32 × am_I)} {k12 : Int32 → Int32 → Int32 → am_I → Option (Int32 × am_I)} (hk4 : ∀ (l1 : Int32) (l2 : Int32) (I : am_I) (r : Int32 × am_I), k4 l1 l2 I = some r → am_J G (d + 2) mX11_areMapsWrong am_no (am_E (some r.1) r.2) 4 [some (.inr (0, 60)), some (.inl l1), some (.inl l2), none, none] [] I) (hk12 : ∀ (l1 : Int32) (l2 : Int32) (l3 : Int32) (I : am_I) (r : Int32 × am_I), k12 l1 l2 l3 I = some r → am_J G (d + 2) mX11_areMapsWrong am_no (am_E (some r.1) r.2) 12 [some (.inr (0, 60)), some (.inl l1), some (.inl l2), some (.inl l3), none] [] I) {l1 : Int32} {l2 : Int32} {l3 : Int32} {s0 : Int32} {I : am_I} {r : Int32 × am_I} (h : bX11_areMapsWrong_43 G.2.2.2.1 k4 k12 l1 l2 l3 s0  I = some r) : am_J G (d + 2) mX11_areMapsWrong am_no (am_E (some r.1) r.2) 43 [some (.inr (0, 60)), some (.inl l1), some (.inl l2), some (.inl l3), none] [.inl s0] I := by
  unfold bX11_areMapsWrong_43 at h
  refine am_istore dX11_areMapsWrong_43 (by decide) ?_
  refine am_iload_n dX11_areMapsWrong_45 rfl ?_
  refine am_if_ne (tgt := 73) dX11_areMapsWrong_46 rfl (fun c => ?_) (fun c => ?_)
  · rw [if_neg c] at h
    exact am_lwJ (lo' := [some (.inr (0, 60)), none, some (.inl l2), some (.inl l3), none]) ⟨rfl, rfl, rfl, trivial⟩ (tX11_areMapsWrong_73 hG hk4 hk12 h)
  · rw [if_pos c] at h
    refine am_iload dX11_areMapsWrong_49 rfl ?_
    refine am_aload_n dX11_areMapsWrong_51 rfl ?_
    refine am_bipush (v := nI 16) dX11_areMapsWrong_52 (by decide) ?_
    refine am_iload_n dX11_areMapsWrong_54 rfl ?_
    refine am_imul dX11_areMapsWrong_55 ?_
    refine am_iload_n dX11_areMapsWrong_56 rfl ?_
    refine am_iadd dX11_areMapsWrong_57 ?_
    refine am_iconst (v := nI 0) dX11_areMapsWrong_58 (by decide) ?_
    obtain ⟨q1, hq1, h⟩ := am_bd h
    refine am_callVx (i := 0) (j := 60) (as := [.inl (((nI 16) * l2) + l3), .inl (nI 0)]) (rest := [.inl s0]) dX11_areMapsWrong_59 lkX11_allInode ml_X11_496 imX11_allInode seX11_allInode rfl rfl (hG.m0 (by decide)) rfl (Nat.le_of_ble_eq_true rfl) rfl (sX11_allInode hG hq1) ?_
    refine am_if_eq (tgt := 69) dX11_areMapsWrong_62 rfl (fun c => ?_) (fun c => ?_)
    · rw [if_pos c] at h
      refine am_iconst (v := nI 0) dX11_areMapsWrong_69 (by decide) ?_
      exact am_lwJ (lo' := [some (.inr (0, 60)), none, some (.inl l2), some (.inl l3), none]) ⟨rfl, rfl, rfl, trivial⟩ (tX11_areMapsWrong_70 hG hk4 hk12 h)
    · rw [if_neg c] at h
      refine am_iconst (v := nI 1) dX11_areMapsWrong_65 (by decide) ?_
      refine am_goto (tgt := 70) dX11_areMapsWrong_66 rfl ?_
      exact am_lwJ (lo' := [some (.inr (0, 60)), none, some (.inl l2), some (.inl l3), none]) ⟨rfl, rfl, rfl, trivial⟩ (tX11_areMapsWrong_70 hG hk4 hk12 h)
def bX11_areMapsWrong_12 (n : Nat) (k4 : Int32 → Int32 → am_I → Option (Int32 × am_I)) : Nat → Int32 → Int32 → Int32 → am_I → Option (Int32 × am_I)
  | 0, _, _, _, _ => none
  | fu + 1, l1, l2, l3, I => (fun k12 => if (nI 16) ≤ l3 then (bX11_areMapsWrong_87 n k4 am_fu l1 l2 (nI 0) I) else ((gX11_mapOf n l2 I).bind (fun q1 => am_gd (am_inb ((nI 16) * q1.1) 10240) (if (((q1.2 0 127 (((nI 16) * q1.1).toNatClampNeg)) >>> (l3 &&& 31)) &&& (nI 1)) = (nI 1) then (bX11_areMapsWrong_43 n k4 k12 l1 l2 l3 (nI 1) q1.2) else (bX11_areMapsWrong_43 n k4 k12 l1 l2 l3 (nI 0) q1.2))))) (bX11_areMapsWrong_12 n k4 fu)
theorem tX11_areMapsWrong_12 {G : am_G} (hG : am_okM G) {d : Nat} {k4 : Int32 → Int32 → am_I → Option (Int32 × am_I)} (hk4 : ∀ (l1 : Int32) (l2 : Int32) (I : am_I) (r : Int32 × am_I), k4 l1 l2 I = some r → am_J G (d + 2) mX11_areMapsWrong am_no (am_E (some r.1) r.2) 4 [some (.inr (0, 60)), some (.inl l1), some (.inl l2), none, none] [] I) : ∀ {fu : Nat} {l1 : Int32} {l2 : Int32} {l3 : Int32} {I : am_I} {r : Int32 × am_I}, bX11_areMapsWrong_12 G.2.2.2.1 k4 fu l1 l2 l3 I = some r → am_J G (d + 2) mX11_areMapsWrong am_no (am_E (some r.1) r.2) 12 [some (.inr (0, 60)), some (.inl l1), some (.inl l2), some (.inl l3), none] [] I := by
  intro fu
  induction fu with
  | zero => intro l1 l2 l3 I r h; cases h
  | succ fu ih =>
    intro l1 l2 l3 I r h
    have hk12 : ∀ (l1 : Int32) (l2 : Int32) (l3 : Int32) (I : am_I) (r : Int32 × am_I), bX11_areMapsWrong_12 G.2.2.2.1 k4 fu l1 l2 l3 I = some r → am_J G (d + 2) mX11_areMapsWrong am_no (am_E (some r.1) r.2) 12 [some (.inr (0, 60)), some (.inl l1), some (.inl l2), some (.inl l3), none] [] I := fun l1 l2 l3 I r h => ih h
    unfold bX11_areMapsWrong_12 at h
    generalize bX11_areMapsWrong_12 G.2.2.2.1 k4 fu = k12 at hk12 h
    dsimp only at h
    refine am_iload_n dX11_areMapsWrong_12 rfl ?_
    refine am_bipush (v := nI 16) dX11_areMapsWrong_13 (by decide) ?_
    refine am_icmp_ge (tgt := 85) dX11_areMapsWrong_15 rfl (fun c => ?_) (fun c => ?_)
    · rw [if_pos c] at h
      refine am_iconst (v := nI 0) dX11_areMapsWrong_85 (by decide) ?_
      refine am_istore_n dX11_areMapsWrong_86 (by decide) ?_
      exact am_lwJ (lo' := [some (.inr (0, 60)), some (.inl l1), some (.inl l2), some (.inl (nI 0)), none]) ⟨rfl, rfl, rfl, rfl, trivial⟩ (tX11_areMapsWrong_87 hG hk4 h)
    · rw [if_neg c] at h
      refine am_aload_n dX11_areMapsWrong_18 rfl ?_
      refine am_get (v := .inr (0, 127)) dX11_areMapsWrong_19 fl_11_162 (hG.m0 (by decide)) rfl ?_
      refine am_bipush (v := nI 16) dX11_areMapsWrong_22 (by decide) ?_
      refine am_iload_n dX11_areMapsWrong_24 rfl ?_
      obtain ⟨q1, hq1, h⟩ := am_bd h
      refine am_callSx (as := [.inl l2]) (rest := [.inl (nI 16), .inr (0, 127)]) dX11_areMapsWrong_25 lkX11_mapOf ml_X11_181 isX11_mapOf rfl (Nat.le_of_ble_eq_true rfl) rfl (sX11_mapOf hG hq1) ?_
      refine am_imul dX11_areMapsWrong_28 ?_
      obtain ⟨g2, h⟩ := am_gd_some h
      refine am_ialdG dX11_areMapsWrong_29 (hG.m0 (by decide)) rfl g2 (show 10240 < 2 ^ 31 by decide) ?_
      refine am_iload_n dX11_areMapsWrong_30 rfl ?_
      refine am_ishr dX11_areMapsWrong_31 ?_
      refine am_iconst (v := nI 1) dX11_areMapsWrong_32 (by decide) ?_
      refine am_iand dX11_areMapsWrong_33 ?_
      refine am_iconst (v := nI 1) dX11_areMapsWrong_34 (by decide) ?_
      refine am_icmp_ne (tgt := 42) dX11_areMapsWrong_35 rfl (fun c => ?_) (fun c => ?_)
      · rw [if_neg c] at h
        refine am_iconst (v := nI 0) dX11_areMapsWrong_42 (by decide) ?_
        exact am_lwJ (lo' := [some (.inr (0, 60)), some (.inl l1), some (.inl l2), some (.inl l3), none]) ⟨rfl, rfl, rfl, rfl, trivial⟩ (tX11_areMapsWrong_43 hG hk4 hk12 h)
      · rw [if_pos c] at h
        refine am_iconst (v := nI 1) dX11_areMapsWrong_38 (by decide) ?_
        refine am_goto (tgt := 43) dX11_areMapsWrong_39 rfl ?_
        exact am_lwJ (lo' := [some (.inr (0, 60)), some (.inl l1), some (.inl l2), some (.inl l3), none]) ⟨rfl, rfl, rfl, rfl, trivial⟩ (tX11_areMapsWrong_43 hG hk4 hk12 h)
def bX11_areMapsWrong_4 (n : Nat) : Nat → Int32 → Int32 → am_I → Option (Int32 × am_I)
  | 0, _, _, _ => none
  | fu + 1, l1, l2, I => (fun k4 => if (nI 8) ≤ l2 then (am_gd (am_01 l1) (some (l1, I))) else (bX11_areMapsWrong_12 n k4 am_fu l1 l2 (nI 0) I)) (bX11_areMapsWrong_4 n fu)
theorem tX11_areMapsWrong_4 {G : am_G} (hG : am_okM G) {d : Nat} : ∀ {fu : Nat} {l1 : Int32} {l2 : Int32} {I : am_I} {r : Int32 × am_I}, bX11_areMapsWrong_4 G.2.2.2.1 fu l1 l2 I = some r → am_J G (d + 2) mX11_areMapsWrong am_no (am_E (some r.1) r.2) 4 [some (.inr (0, 60)), some (.inl l1), some (.inl l2), none, none] [] I := by
  intro fu
  induction fu with
  | zero => intro l1 l2 I r h; cases h
  | succ fu ih =>
    intro l1 l2 I r h
    have hk4 : ∀ (l1 : Int32) (l2 : Int32) (I : am_I) (r : Int32 × am_I), bX11_areMapsWrong_4 G.2.2.2.1 fu l1 l2 I = some r → am_J G (d + 2) mX11_areMapsWrong am_no (am_E (some r.1) r.2) 4 [some (.inr (0, 60)), some (.inl l1), some (.inl l2), none, none] [] I := fun l1 l2 I r h => ih h
    unfold bX11_areMapsWrong_4 at h
    generalize bX11_areMapsWrong_4 G.2.2.2.1 fu = k4 at hk4 h
    dsimp only at h
    refine am_iload_n dX11_areMapsWrong_4 rfl ?_
    refine am_bipush (v := nI 8) dX11_areMapsWrong_5 (by decide) ?_
    refine am_icmp_ge (tgt := 175) dX11_areMapsWrong_7 rfl (fun c => ?_) (fun c => ?_)
    · rw [if_pos c] at h
      refine am_iload_n dX11_areMapsWrong_175 rfl ?_
      obtain ⟨g1, h⟩ := am_gd_some h
      cases h
      exact am_iret dX11_areMapsWrong_176 rfl (am_nz (am_01_of g1)).1 ⟨rfl, rfl⟩
    · rw [if_neg c] at h
      refine am_iconst (v := nI 0) dX11_areMapsWrong_10 (by decide) ?_
      refine am_istore_n dX11_areMapsWrong_11 (by decide) ?_
      exact am_lwJ (lo' := [some (.inr (0, 60)), some (.inl l1), some (.inl l2), some (.inl (nI 0)), none]) ⟨rfl, rfl, rfl, rfl, trivial⟩ (tX11_areMapsWrong_12 hG hk4 h)
def bX11_areMapsWrong_0 (n : Nat) (I : am_I) : Option (Int32 × am_I) := bX11_areMapsWrong_4 n am_fu (nI 0) (nI 0) I
theorem tX11_areMapsWrong_0 {G : am_G} (hG : am_okM G) {d : Nat} {I : am_I} {r : Int32 × am_I} (h : bX11_areMapsWrong_0 G.2.2.2.1  I = some r) : am_J G (d + 2) mX11_areMapsWrong am_no (am_E (some r.1) r.2) 0 [some (.inr (0, 60)), none, none, none, none] [] I := by
  unfold bX11_areMapsWrong_0 at h
  refine am_iconst (v := nI 0) dX11_areMapsWrong_0 (by decide) ?_
  refine am_istore_n dX11_areMapsWrong_1 (by decide) ?_
  refine am_iconst (v := nI 0) dX11_areMapsWrong_2 (by decide) ?_
  refine am_istore_n dX11_areMapsWrong_3 (by decide) ?_
  exact am_lwJ (lo' := [some (.inr (0, 60)), some (.inl (nI 0)), some (.inl (nI 0)), none, none]) ⟨rfl, rfl, rfl, trivial⟩ (tX11_areMapsWrong_4 hG h)
def gX11_areMapsWrong (n : Nat) (I : am_I) : Option (Int32 × am_I) := bX11_areMapsWrong_0 n I
theorem sX11_areMapsWrong {G : am_G} (hG : am_okM G) {d : Nat} {I : am_I} {r : Int32 × am_I} (h : gX11_areMapsWrong G.2.2.2.1 I = some r) : am_C G (d + 2) mX11_areMapsWrong [.inr (0, 60)] I (am_E (some r.1) r.2) :=
  am_of (by decide +kernel) hG.nd (Nat.le_of_ble_eq_true rfl) (am_lwJ (lo' := [some (.inr (0, 60)), none, none, none, none]) ⟨rfl, trivial⟩ (tX11_areMapsWrong_0 hG h))
def bX11_whole_191 (n : Nat) (s0 : Int32) (I : am_I) : Option (Int32 × am_I) := some (s0, I)
theorem tX11_whole_191 {G : am_G} (hG : am_okM G) {d : Nat} {s0 : Int32} {I : am_I} {r : Int32 × am_I} (h : bX11_whole_191 G.2.2.2.1 s0  I = some r) : am_J G (d + 4) mX11_whole am_no (am_E (some r.1) r.2) 191 [none, none, none, none, none, none] [.inl s0] I := by
  unfold bX11_whole_191 at h
  cases h
  exact am_iret dX11_whole_191 rfl rfl ⟨rfl, rfl⟩
def bX11_whole_174 (n : Nat) (l1 : Int32) (l2 : Int32) (I : am_I) : Option (Int32 × am_I) := if l1 = 0 then (if l2 = 0 then (bX11_whole_191 n (nI 4) I) else (bX11_whole_191 n (nI 3) I)) else (bX11_whole_191 n (nI 2) I)
theorem tX11_whole_174 {G : am_G} (hG : am_okM G) {d : Nat} {l1 : Int32} {l2 : Int32} {I : am_I} {r : Int32 × am_I} (h : bX11_whole_174 G.2.2.2.1 l1 l2  I = some r) : am_J G (d + 4) mX11_whole am_no (am_E (some r.1) r.2) 174 [none, some (.inl l1), some (.inl l2), none, none, none] [] I := by
  unfold bX11_whole_174 at h
  refine am_iload_n dX11_whole_174 rfl ?_
  refine am_if_eq (tgt := 182) dX11_whole_175 rfl (fun c => ?_) (fun c => ?_)
  · rw [if_pos c] at h
    refine am_iload_n dX11_whole_182 rfl ?_
    refine am_if_eq (tgt := 190) dX11_whole_183 rfl (fun c => ?_) (fun c => ?_)
    · rw [if_pos c] at h
      refine am_iconst (v := nI 4) dX11_whole_190 (by decide) ?_
      exact am_lwJ (lo' := [none, none, none, none, none, none]) trivial (tX11_whole_191 hG h)
    · rw [if_neg c] at h
      refine am_iconst (v := nI 3) dX11_whole_186 (by decide) ?_
      refine am_goto (tgt := 191) dX11_whole_187 rfl ?_
      exact am_lwJ (lo' := [none, none, none, none, none, none]) trivial (tX11_whole_191 hG h)
  · rw [if_neg c] at h
    refine am_iconst (v := nI 2) dX11_whole_178 (by decide) ?_
    refine am_goto (tgt := 191) dX11_whole_179 rfl ?_
    exact am_lwJ (lo' := [none, none, none, none, none, none]) trivial (tX11_whole_191 hG h)
def bX11_whole_274 (n : Nat) (s0 : Int32) (I : am_I) : Option (Int32 × am_I) := some (s0, I)
theorem tX11_whole_274 {G : am_G} (hG : am_okM G) {d : Nat} {s0 : Int32} {I : am_I} {r : Int32 × am_I} (h : bX11_whole_274 G.2.2.2.1 s0  I = some r) : am_J G (d + 4) mX11_whole am_no (am_E (some r.1) r.2) 274 [none, none, none, none, none, none] [.inl s0] I := by
  unfold bX11_whole_274 at h
  cases h
  exact am_iret dX11_whole_274 rfl rfl ⟨rfl, rfl⟩
def bX11_whole_244 (n : Nat) (k215 : Int32 → Int32 → am_I → Option (Int32 × am_I)) (l5 : Int32) (s0 : Int32) (I : am_I) : Option (Int32 × am_I) := k215 s0 (l5 + nI 1) I
theorem tX11_whole_244 {G : am_G} (hG : am_okM G) {d : Nat} {k215 : Int32 → Int32 → am_I → Option (Int32 × am_I)} (hk215 : ∀ (l4 : Int32) (l5 : Int32) (I : am_I) (r : Int32 × am_I), k215 l4 l5 I = some r → am_J G (d + 4) mX11_whole am_no (am_E (some r.1) r.2) 215 [some (.inr (0, 60)), none, none, none, some (.inl l4), some (.inl l5)] [] I) {l5 : Int32} {s0 : Int32} {I : am_I} {r : Int32 × am_I} (h : bX11_whole_244 G.2.2.2.1 k215 l5 s0  I = some r) : am_J G (d + 4) mX11_whole am_no (am_E (some r.1) r.2) 244 [some (.inr (0, 60)), none, none, none, none, some (.inl l5)] [.inl s0] I := by
  unfold bX11_whole_244 at h
  refine am_istore dX11_whole_244 (by decide) ?_
  refine am_iinc (v := l5 + nI 1) dX11_whole_246 rfl rfl ?_
  refine am_goto (tgt := 215) dX11_whole_249 rfl ?_
  exact am_lwJ (lo' := [some (.inr (0, 60)), none, none, none, some (.inl s0), some (.inl (l5 + nI 1))]) ⟨rfl, rfl, rfl, trivial⟩ (hk215 s0 (l5 + nI 1) _ _ h)
def bX11_whole_239 (n : Nat) (k215 : Int32 → Int32 → am_I → Option (Int32 × am_I)) (l5 : Int32) (I : am_I) : Option (Int32 × am_I) := bX11_whole_244 n k215 l5 (nI 1) I
theorem tX11_whole_239 {G : am_G} (hG : am_okM G) {d : Nat} {k215 : Int32 → Int32 → am_I → Option (Int32 × am_I)} (hk215 : ∀ (l4 : Int32) (l5 : Int32) (I : am_I) (r : Int32 × am_I), k215 l4 l5 I = some r → am_J G (d + 4) mX11_whole am_no (am_E (some r.1) r.2) 215 [some (.inr (0, 60)), none, none, none, some (.inl l4), some (.inl l5)] [] I) {l5 : Int32} {I : am_I} {r : Int32 × am_I} (h : bX11_whole_239 G.2.2.2.1 k215 l5  I = some r) : am_J G (d + 4) mX11_whole am_no (am_E (some r.1) r.2) 239 [some (.inr (0, 60)), none, none, none, none, some (.inl l5)] [] I := by
  unfold bX11_whole_239 at h
  refine am_iconst (v := nI 1) dX11_whole_239 (by decide) ?_
  refine am_goto (tgt := 244) dX11_whole_240 rfl ?_
  exact am_lwJ (lo' := [some (.inr (0, 60)), none, none, none, none, some (.inl l5)]) ⟨rfl, rfl, trivial⟩ (tX11_whole_244 hG hk215 h)
def bX11_whole_215 (n : Nat) : Nat → Int32 → Int32 → am_I → Option (Int32 × am_I)
  | 0, _, _, _ => none
  | fu + 1, l4, l5, I => (fun k215 => if (nI 640) ≤ l5 then (if l4 = 0 then ((gX11_areMapsWrong n I).bind (fun q1 => if q1.1 = 0 then (bX11_whole_274 n (nI 0) q1.2) else (bX11_whole_274 n (nI 6) q1.2))) else (bX11_whole_274 n (nI 5) I)) else (if l4 = 0 then (am_gd (am_inb l5 640) (if (I 0 131 l5.toNatClampNeg) ≤ (nI 1) then (bX11_whole_244 n k215 l5 (nI 0) I) else (bX11_whole_239 n k215 l5 I))) else (bX11_whole_239 n k215 l5 I))) (bX11_whole_215 n fu)
theorem tX11_whole_215 {G : am_G} (hG : am_okM G) {d : Nat} : ∀ {fu : Nat} {l4 : Int32} {l5 : Int32} {I : am_I} {r : Int32 × am_I}, bX11_whole_215 G.2.2.2.1 fu l4 l5 I = some r → am_J G (d + 4) mX11_whole am_no (am_E (some r.1) r.2) 215 [some (.inr (0, 60)), none, none, none, some (.inl l4), some (.inl l5)] [] I := by
  intro fu
  induction fu with
  | zero => intro l4 l5 I r h; cases h
  | succ fu ih =>
    intro l4 l5 I r h
    have hk215 : ∀ (l4 : Int32) (l5 : Int32) (I : am_I) (r : Int32 × am_I), bX11_whole_215 G.2.2.2.1 fu l4 l5 I = some r → am_J G (d + 4) mX11_whole am_no (am_E (some r.1) r.2) 215 [some (.inr (0, 60)), none, none, none, some (.inl l4), some (.inl l5)] [] I := fun l4 l5 I r h => ih h
    unfold bX11_whole_215 at h
    generalize bX11_whole_215 G.2.2.2.1 fu = k215 at hk215 h
    dsimp only at h
    refine am_iload dX11_whole_215 rfl ?_
    refine am_sipush (v := nI 640) dX11_whole_217 (by decide) ?_
    refine am_icmp_ge (tgt := 252) dX11_whole_220 rfl (fun c => ?_) (fun c => ?_)
    · rw [if_pos c] at h
      refine am_iload dX11_whole_252 rfl ?_
      refine am_if_eq (tgt := 261) dX11_whole_254 rfl (fun c => ?_) (fun c => ?_)
      · rw [if_pos c] at h
        refine am_aload_n dX11_whole_261 rfl ?_
        obtain ⟨q1, hq1, h⟩ := am_bd h
        refine am_callVx (i := 0) (j := 60) (as := []) (rest := []) dX11_whole_262 lkX11_areMapsWrong ml_X11_517 imX11_areMapsWrong seX11_areMapsWrong rfl rfl (hG.m0 (by decide)) rfl (Nat.le_of_ble_eq_true rfl) rfl (sX11_areMapsWrong hG hq1) ?_
        refine am_if_eq (tgt := 273) dX11_whole_265 rfl (fun c => ?_) (fun c => ?_)
        · rw [if_pos c] at h
          refine am_iconst (v := nI 0) dX11_whole_273 (by decide) ?_
          exact am_lwJ (lo' := [none, none, none, none, none, none]) trivial (tX11_whole_274 hG h)
        · rw [if_neg c] at h
          refine am_bipush (v := nI 6) dX11_whole_268 (by decide) ?_
          refine am_goto (tgt := 274) dX11_whole_270 rfl ?_
          exact am_lwJ (lo' := [none, none, none, none, none, none]) trivial (tX11_whole_274 hG h)
      · rw [if_neg c] at h
        refine am_iconst (v := nI 5) dX11_whole_257 (by decide) ?_
        refine am_goto (tgt := 274) dX11_whole_258 rfl ?_
        exact am_lwJ (lo' := [none, none, none, none, none, none]) trivial (tX11_whole_274 hG h)
    · rw [if_neg c] at h
      refine am_iload dX11_whole_223 rfl ?_
      refine am_if_ne (tgt := 239) dX11_whole_225 rfl (fun c => ?_) (fun c => ?_)
      · rw [if_neg c] at h
        exact am_lwJ (lo' := [some (.inr (0, 60)), none, none, none, none, some (.inl l5)]) ⟨rfl, rfl, trivial⟩ (tX11_whole_239 hG hk215 h)
      · rw [if_pos c] at h
        refine am_aload_n dX11_whole_228 rfl ?_
        refine am_get (v := .inr (0, 131)) dX11_whole_229 fl_11_174 (hG.m0 (by decide)) rfl ?_
        refine am_iload dX11_whole_232 rfl ?_
        obtain ⟨g2, h⟩ := am_gd_some h
        refine am_ialdG dX11_whole_234 (hG.m0 (by decide)) rfl g2 (show 640 < 2 ^ 31 by decide) ?_
        refine am_iconst (v := nI 1) dX11_whole_235 (by decide) ?_
        refine am_icmp_le (tgt := 243) dX11_whole_236 rfl (fun c => ?_) (fun c => ?_)
        · rw [if_pos c] at h
          refine am_iconst (v := nI 0) dX11_whole_243 (by decide) ?_
          exact am_lwJ (lo' := [some (.inr (0, 60)), none, none, none, none, some (.inl l5)]) ⟨rfl, rfl, trivial⟩ (tX11_whole_244 hG hk215 h)
        · rw [if_neg c] at h
          exact am_lwJ (lo' := [some (.inr (0, 60)), none, none, none, none, some (.inl l5)]) ⟨rfl, rfl, trivial⟩ (tX11_whole_239 hG hk215 h)
def bX11_whole_210 (n : Nat) (s0 : Int32) (I : am_I) : Option (Int32 × am_I) := bX11_whole_215 n am_fu s0 (nI 1) I
theorem tX11_whole_210 {G : am_G} (hG : am_okM G) {d : Nat} {s0 : Int32} {I : am_I} {r : Int32 × am_I} (h : bX11_whole_210 G.2.2.2.1 s0  I = some r) : am_J G (d + 4) mX11_whole am_no (am_E (some r.1) r.2) 210 [some (.inr (0, 60)), none, none, none, none, none] [.inl s0] I := by
  unfold bX11_whole_210 at h
  refine am_istore dX11_whole_210 (by decide) ?_
  refine am_iconst (v := nI 1) dX11_whole_212 (by decide) ?_
  refine am_istore dX11_whole_213 (by decide) ?_
  exact am_lwJ (lo' := [some (.inr (0, 60)), none, none, none, some (.inl s0), some (.inl (nI 1))]) ⟨rfl, rfl, rfl, trivial⟩ (tX11_whole_215 hG h)
def bX11_whole_155 (n : Nat) (k49 : Int32 → Int32 → Int32 → Int32 → am_I → Option (Int32 × am_I)) (l1 : Int32) (l2 : Int32) (l4 : Int32) (s0 : Int32) (I : am_I) : Option (Int32 × am_I) := k49 l1 l2 s0 (l4 + nI 1) I
theorem tX11_whole_155 {G : am_G} (hG : am_okM G) {d : Nat} {k49 : Int32 → Int32 → Int32 → Int32 → am_I → Option (Int32 × am_I)} (hk49 : ∀ (l1 : Int32) (l2 : Int32) (l3 : Int32) (l4 : Int32) (I : am_I) (r : Int32 × am_I), k49 l1 l2 l3 l4 I = some r → am_J G (d + 4) mX11_whole am_no (am_E (some r.1) r.2) 49 [some (.inr (0, 60)), some (.inl l1), some (.inl l2), some (.inl l3), some (.inl l4), none] [] I) {l1 : Int32} {l2 : Int32} {l4 : Int32} {s0 : Int32} {I : am_I} {r : Int32 × am_I} (h : bX11_whole_155 G.2.2.2.1 k49 l1 l2 l4 s0  I = some r) : am_J G (d + 4) mX11_whole am_no (am_E (some r.1) r.2) 155 [some (.inr (0, 60)), some (.inl l1), some (.inl l2), none, some (.inl l4), none] [.inl s0] I := by
  unfold bX11_whole_155 at h
  refine am_istore_n dX11_whole_155 (by decide) ?_
  refine am_iinc (v := l4 + nI 1) dX11_whole_156 rfl rfl ?_
  refine am_goto (tgt := 49) dX11_whole_159 rfl ?_
  exact am_lwJ (lo' := [some (.inr (0, 60)), some (.inl l1), some (.inl l2), some (.inl s0), some (.inl (l4 + nI 1)), none]) ⟨rfl, rfl, rfl, rfl, rfl, trivial⟩ (hk49 l1 l2 s0 (l4 + nI 1) _ _ h)
def bX11_whole_150 (n : Nat) (k49 : Int32 → Int32 → Int32 → Int32 → am_I → Option (Int32 × am_I)) (l1 : Int32) (l2 : Int32) (l4 : Int32) (I : am_I) : Option (Int32 × am_I) := bX11_whole_155 n k49 l1 l2 l4 (nI 1) I
theorem tX11_whole_150 {G : am_G} (hG : am_okM G) {d : Nat} {k49 : Int32 → Int32 → Int32 → Int32 → am_I → Option (Int32 × am_I)} (hk49 : ∀ (l1 : Int32) (l2 : Int32) (l3 : Int32) (l4 : Int32) (I : am_I) (r : Int32 × am_I), k49 l1 l2 l3 l4 I = some r → am_J G (d + 4) mX11_whole am_no (am_E (some r.1) r.2) 49 [some (.inr (0, 60)), some (.inl l1), some (.inl l2), some (.inl l3), some (.inl l4), none] [] I) {l1 : Int32} {l2 : Int32} {l4 : Int32} {I : am_I} {r : Int32 × am_I} (h : bX11_whole_150 G.2.2.2.1 k49 l1 l2 l4  I = some r) : am_J G (d + 4) mX11_whole am_no (am_E (some r.1) r.2) 150 [some (.inr (0, 60)), some (.inl l1), some (.inl l2), none, some (.inl l4), none] [] I := by
  unfold bX11_whole_150 at h
  refine am_iconst (v := nI 1) dX11_whole_150 (by decide) ?_
  refine am_goto (tgt := 155) dX11_whole_151 rfl ?_
  exact am_lwJ (lo' := [some (.inr (0, 60)), some (.inl l1), some (.inl l2), none, some (.inl l4), none]) ⟨rfl, rfl, rfl, rfl, trivial⟩ (tX11_whole_155 hG hk49 h)
def bX11_whole_154 (n : Nat) (k49 : Int32 → Int32 → Int32 → Int32 → am_I → Option (Int32 × am_I)) (l1 : Int32) (l2 : Int32) (l4 : Int32) (I : am_I) : Option (Int32 × am_I) := bX11_whole_155 n k49 l1 l2 l4 (nI 0) I
theorem tX11_whole_154 {G : am_G} (hG : am_okM G) {d : Nat} {k49 : Int32 → Int32 → Int32 → Int32 → am_I → Option (Int32 × am_I)} (hk49 : ∀ (l1 : Int32) (l2 : Int32) (l3 : Int32) (l4 : Int32) (I : am_I) (r : Int32 × am_I), k49 l1 l2 l3 l4 I = some r → am_J G (d + 4) mX11_whole am_no (am_E (some r.1) r.2) 49 [some (.inr (0, 60)), some (.inl l1), some (.inl l2), some (.inl l3), some (.inl l4), none] [] I) {l1 : Int32} {l2 : Int32} {l4 : Int32} {I : am_I} {r : Int32 × am_I} (h : bX11_whole_154 G.2.2.2.1 k49 l1 l2 l4  I = some r) : am_J G (d + 4) mX11_whole am_no (am_E (some r.1) r.2) 154 [some (.inr (0, 60)), some (.inl l1), some (.inl l2), none, some (.inl l4), none] [] I := by
  unfold bX11_whole_154 at h
  refine am_iconst (v := nI 0) dX11_whole_154 (by decide) ?_
  exact am_lwJ (lo' := [some (.inr (0, 60)), some (.inl l1), some (.inl l2), none, some (.inl l4), none]) ⟨rfl, rfl, rfl, rfl, trivial⟩ (tX11_whole_155 hG hk49 h)
def bX11_whole_118 (n : Nat) (k49 : Int32 → Int32 → Int32 → Int32 → am_I → Option (Int32 × am_I)) (l1 : Int32) (l3 : Int32) (l4 : Int32) (s0 : Int32) (I : am_I) : Option (Int32 × am_I) := if l3 = 0 then ((gX11_allInode n l4 (nI 0) I).bind (fun q1 => if q1.1 = 0 then (bX11_whole_154 n k49 l1 s0 l4 q1.2) else ((gX11_allInode n l4 (nI 1) q1.2).bind (fun q2 => am_gd (am_inb l4 128) (if q2.1 = (q2.2 0 129 l4.toNatClampNeg) then (bX11_whole_154 n k49 l1 s0 l4 q2.2) else (bX11_whole_150 n k49 l1 s0 l4 q2.2)))))) else (bX11_whole_150 n k49 l1 s0 l4 I)
theorem tX11_whole_118 {G : am_G} (hG : am_okM G) {d : Nat} {k49 : Int32 → Int32 → Int32 → Int32 → am_I → Option (Int32 × am_I)} (hk49 : ∀ (l1 : Int32) (l2 : Int32) (l3 : Int32) (l4 : Int32) (I : am_I) (r : Int32 × am_I), k49 l1 l2 l3 l4 I = some r → am_J G (d + 4) mX11_whole am_no (am_E (some r.1) r.2) 49 [some (.inr (0, 60)), some (.inl l1), some (.inl l2), some (.inl l3), some (.inl l4), none] [] I) {l1 : Int32} {l3 : Int32} {l4 : Int32} {s0 : Int32} {I : am_I} {r : Int32 × am_I} (h : bX11_whole_118 G.2.2.2.1 k49 l1 l3 l4 s0  I = some r) : am_J G (d + 4) mX11_whole am_no (am_E (some r.1) r.2) 118 [some (.inr (0, 60)), some (.inl l1), none, some (.inl l3), some (.inl l4), none] [.inl s0] I := by
  unfold bX11_whole_118 at h
  refine am_istore_n dX11_whole_118 (by decide) ?_
  refine am_iload_n dX11_whole_119 rfl ?_
  refine am_if_ne (tgt := 150) dX11_whole_120 rfl (fun c => ?_) (fun c => ?_)
  · rw [if_neg c] at h
    exact am_lwJ (lo' := [some (.inr (0, 60)), some (.inl l1), some (.inl s0), none, some (.inl l4), none]) ⟨rfl, rfl, rfl, rfl, trivial⟩ (tX11_whole_150 hG hk49 h)
  · rw [if_pos c] at h
    refine am_aload_n dX11_whole_123 rfl ?_
    refine am_iload dX11_whole_124 rfl ?_
    refine am_iconst (v := nI 0) dX11_whole_126 (by decide) ?_
    obtain ⟨q1, hq1, h⟩ := am_bd h
    refine am_callVx (i := 0) (j := 60) (as := [.inl l4, .inl (nI 0)]) (rest := []) dX11_whole_127 lkX11_allInode ml_X11_496 imX11_allInode seX11_allInode rfl rfl (hG.m0 (by decide)) rfl (Nat.le_of_ble_eq_true rfl) rfl (sX11_allInode hG hq1) ?_
    refine am_if_eq (tgt := 154) dX11_whole_130 rfl (fun c => ?_) (fun c => ?_)
    · rw [if_pos c] at h
      exact am_lwJ (lo' := [some (.inr (0, 60)), some (.inl l1), some (.inl s0), none, some (.inl l4), none]) ⟨rfl, rfl, rfl, rfl, trivial⟩ (tX11_whole_154 hG hk49 h)
    · rw [if_neg c] at h
      refine am_aload_n dX11_whole_133 rfl ?_
      refine am_iload dX11_whole_134 rfl ?_
      refine am_iconst (v := nI 1) dX11_whole_136 (by decide) ?_
      obtain ⟨q2, hq2, h⟩ := am_bd h
      refine am_callVx (i := 0) (j := 60) (as := [.inl l4, .inl (nI 1)]) (rest := []) dX11_whole_137 lkX11_allInode ml_X11_496 imX11_allInode seX11_allInode rfl rfl (hG.m0 (by decide)) rfl (Nat.le_of_ble_eq_true rfl) rfl (sX11_allInode hG hq2) ?_
      refine am_aload_n dX11_whole_140 rfl ?_
      refine am_get (v := .inr (0, 129)) dX11_whole_141 fl_11_168 (hG.m0 (by decide)) rfl ?_
      refine am_iload dX11_whole_144 rfl ?_
      obtain ⟨g3, h⟩ := am_gd_some h
      refine am_ialdG dX11_whole_146 (hG.m0 (by decide)) rfl g3 (show 128 < 2 ^ 31 by decide) ?_
      refine am_icmp_eq (tgt := 154) dX11_whole_147 rfl (fun c => ?_) (fun c => ?_)
      · rw [if_pos c] at h
        exact am_lwJ (lo' := [some (.inr (0, 60)), some (.inl l1), some (.inl s0), none, some (.inl l4), none]) ⟨rfl, rfl, rfl, rfl, trivial⟩ (tX11_whole_154 hG hk49 h)
      · rw [if_neg c] at h
        exact am_lwJ (lo' := [some (.inr (0, 60)), some (.inl l1), some (.inl s0), none, some (.inl l4), none]) ⟨rfl, rfl, rfl, rfl, trivial⟩ (tX11_whole_150 hG hk49 h)
def bX11_whole_113 (n : Nat) (k49 : Int32 → Int32 → Int32 → Int32 → am_I → Option (Int32 × am_I)) (l1 : Int32) (l3 : Int32) (l4 : Int32) (I : am_I) : Option (Int32 × am_I) := bX11_whole_118 n k49 l1 l3 l4 (nI 1) I
theorem tX11_whole_113 {G : am_G} (hG : am_okM G) {d : Nat} {k49 : Int32 → Int32 → Int32 → Int32 → am_I → Option (Int32 × am_I)} (hk49 : ∀ (l1 : Int32) (l2 : Int32) (l3 : Int32) (l4 : Int32) (I : am_I) (r : Int32 × am_I), k49 l1 l2 l3 l4 I = some r → am_J G (d + 4) mX11_whole am_no (am_E (some r.1) r.2) 49 [some (.inr (0, 60)), some (.inl l1), some (.inl l2), some (.inl l3), some (.inl l4), none] [] I) {l1 : Int32} {l3 : Int32} {l4 : Int32} {I : am_I} {r : Int32 × am_I} (h : bX11_whole_113 G.2.2.2.1 k49 l1 l3 l4  I = some r) : am_J G (d + 4) mX11_whole am_no (am_E (some r.1) r.2) 113 [some (.inr (0, 60)), some (.inl l1), none, some (.inl l3), some (.inl l4), none] [] I := by
  unfold bX11_whole_113 at h
  refine am_iconst (v := nI 1) dX11_whole_113 (by decide) ?_
  refine am_goto (tgt := 118) dX11_whole_114 rfl ?_
  exact am_lwJ (lo' := [some (.inr (0, 60)), some (.inl l1), none, some (.inl l3), some (.inl l4), none]) ⟨rfl, rfl, rfl, rfl, trivial⟩ (tX11_whole_118 hG hk49 h)
def bX11_whole_117 (n : Nat) (k49 : Int32 → Int32 → Int32 → Int32 → am_I → Option (Int32 × am_I)) (l1 : Int32) (l3 : Int32) (l4 : Int32) (I : am_I) : Option (Int32 × am_I) := bX11_whole_118 n k49 l1 l3 l4 (nI 0) I
theorem tX11_whole_117 {G : am_G} (hG : am_okM G) {d : Nat} {k49 : Int32 → Int32 → Int32 → Int32 → am_I → Option (Int32 × am_I)} (hk49 : ∀ (l1 : Int32) (l2 : Int32) (l3 : Int32) (l4 : Int32) (I : am_I) (r : Int32 × am_I), k49 l1 l2 l3 l4 I = some r → am_J G (d + 4) mX11_whole am_no (am_E (some r.1) r.2) 49 [some (.inr (0, 60)), some (.inl l1), some (.inl l2), some (.inl l3), some (.inl l4), none] [] I) {l1 : Int32} {l3 : Int32} {l4 : Int32} {I : am_I} {r : Int32 × am_I} (h : bX11_whole_117 G.2.2.2.1 k49 l1 l3 l4  I = some r) : am_J G (d + 4) mX11_whole am_no (am_E (some r.1) r.2) 117 [some (.inr (0, 60)), some (.inl l1), none, some (.inl l3), some (.inl l4), none] [] I := by
  unfold bX11_whole_117 at h
  refine am_iconst (v := nI 0) dX11_whole_117 (by decide) ?_
  exact am_lwJ (lo' := [some (.inr (0, 60)), some (.inl l1), none, some (.inl l3), some (.inl l4), none]) ⟨rfl, rfl, rfl, rfl, trivial⟩ (tX11_whole_118 hG hk49 h)
def bX11_whole_88 (n : Nat) (k49 : Int32 → Int32 → Int32 → Int32 → am_I → Option (Int32 × am_I)) (l2 : Int32) (l3 : Int32) (l4 : Int32) (s0 : Int32) (I : am_I) : Option (Int32 × am_I) := if l2 = 0 then ((gX11_allInode n l4 (nI 0) I).bind (fun q1 => if q1.1 = 0 then (bX11_whole_117 n k49 s0 l3 l4 q1.2) else (am_gd (am_inb l4 128) (if (q1.2 0 128 l4.toNatClampNeg) = 0 then (bX11_whole_113 n k49 s0 l3 l4 q1.2) else (bX11_whole_117 n k49 s0 l3 l4 q1.2))))) else (bX11_whole_113 n k49 s0 l3 l4 I)
theorem tX11_whole_88 {G : am_G} (hG : am_okM G) {d : Nat} {k49 : Int32 → Int32 → Int32 → Int32 → am_I → Option (Int32 × am_I)} (hk49 : ∀ (l1 : Int32) (l2 : Int32) (l3 : Int32) (l4 : Int32) (I : am_I) (r : Int32 × am_I), k49 l1 l2 l3 l4 I = some r → am_J G (d + 4) mX11_whole am_no (am_E (some r.1) r.2) 49 [some (.inr (0, 60)), some (.inl l1), some (.inl l2), some (.inl l3), some (.inl l4), none] [] I) {l2 : Int32} {l3 : Int32} {l4 : Int32} {s0 : Int32} {I : am_I} {r : Int32 × am_I} (h : bX11_whole_88 G.2.2.2.1 k49 l2 l3 l4 s0  I = some r) : am_J G (d + 4) mX11_whole am_no (am_E (some r.1) r.2) 88 [some (.inr (0, 60)), none, some (.inl l2), some (.inl l3), some (.inl l4), none] [.inl s0] I := by
  unfold bX11_whole_88 at h
  refine am_istore_n dX11_whole_88 (by decide) ?_
  refine am_iload_n dX11_whole_89 rfl ?_
  refine am_if_ne (tgt := 113) dX11_whole_90 rfl (fun c => ?_) (fun c => ?_)
  · rw [if_neg c] at h
    exact am_lwJ (lo' := [some (.inr (0, 60)), some (.inl s0), none, some (.inl l3), some (.inl l4), none]) ⟨rfl, rfl, rfl, rfl, trivial⟩ (tX11_whole_113 hG hk49 h)
  · rw [if_pos c] at h
    refine am_aload_n dX11_whole_93 rfl ?_
    refine am_iload dX11_whole_94 rfl ?_
    refine am_iconst (v := nI 0) dX11_whole_96 (by decide) ?_
    obtain ⟨q1, hq1, h⟩ := am_bd h
    refine am_callVx (i := 0) (j := 60) (as := [.inl l4, .inl (nI 0)]) (rest := []) dX11_whole_97 lkX11_allInode ml_X11_496 imX11_allInode seX11_allInode rfl rfl (hG.m0 (by decide)) rfl (Nat.le_of_ble_eq_true rfl) rfl (sX11_allInode hG hq1) ?_
    refine am_if_eq (tgt := 117) dX11_whole_100 rfl (fun c => ?_) (fun c => ?_)
    · rw [if_pos c] at h
      exact am_lwJ (lo' := [some (.inr (0, 60)), some (.inl s0), none, some (.inl l3), some (.inl l4), none]) ⟨rfl, rfl, rfl, rfl, trivial⟩ (tX11_whole_117 hG hk49 h)
    · rw [if_neg c] at h
      refine am_aload_n dX11_whole_103 rfl ?_
      refine am_get (v := .inr (0, 128)) dX11_whole_104 fl_11_165 (hG.m0 (by decide)) rfl ?_
      refine am_iload dX11_whole_107 rfl ?_
      obtain ⟨g2, h⟩ := am_gd_some h
      refine am_zaldG dX11_whole_109 (hG.m0 (by decide)) rfl g2 (show 128 < 2 ^ 31 by decide) ?_
      refine am_if_ne (tgt := 117) dX11_whole_110 rfl (fun c => ?_) (fun c => ?_)
      · rw [if_neg c] at h
        exact am_lwJ (lo' := [some (.inr (0, 60)), some (.inl s0), none, some (.inl l3), some (.inl l4), none]) ⟨rfl, rfl, rfl, rfl, trivial⟩ (tX11_whole_117 hG hk49 h)
      · rw [if_pos c] at h
        exact am_lwJ (lo' := [some (.inr (0, 60)), some (.inl s0), none, some (.inl l3), some (.inl l4), none]) ⟨rfl, rfl, rfl, rfl, trivial⟩ (tX11_whole_113 hG hk49 h)
def bX11_whole_83 (n : Nat) (k49 : Int32 → Int32 → Int32 → Int32 → am_I → Option (Int32 × am_I)) (l2 : Int32) (l3 : Int32) (l4 : Int32) (I : am_I) : Option (Int32 × am_I) := bX11_whole_88 n k49 l2 l3 l4 (nI 1) I
theorem tX11_whole_83 {G : am_G} (hG : am_okM G) {d : Nat} {k49 : Int32 → Int32 → Int32 → Int32 → am_I → Option (Int32 × am_I)} (hk49 : ∀ (l1 : Int32) (l2 : Int32) (l3 : Int32) (l4 : Int32) (I : am_I) (r : Int32 × am_I), k49 l1 l2 l3 l4 I = some r → am_J G (d + 4) mX11_whole am_no (am_E (some r.1) r.2) 49 [some (.inr (0, 60)), some (.inl l1), some (.inl l2), some (.inl l3), some (.inl l4), none] [] I) {l2 : Int32} {l3 : Int32} {l4 : Int32} {I : am_I} {r : Int32 × am_I} (h : bX11_whole_83 G.2.2.2.1 k49 l2 l3 l4  I = some r) : am_J G (d + 4) mX11_whole am_no (am_E (some r.1) r.2) 83 [some (.inr (0, 60)), none, some (.inl l2), some (.inl l3), some (.inl l4), none] [] I := by
  unfold bX11_whole_83 at h
  refine am_iconst (v := nI 1) dX11_whole_83 (by decide) ?_
  refine am_goto (tgt := 88) dX11_whole_84 rfl ?_
  exact am_lwJ (lo' := [some (.inr (0, 60)), none, some (.inl l2), some (.inl l3), some (.inl l4), none]) ⟨rfl, rfl, rfl, rfl, trivial⟩ (tX11_whole_88 hG hk49 h)
def bX11_whole_87 (n : Nat) (k49 : Int32 → Int32 → Int32 → Int32 → am_I → Option (Int32 × am_I)) (l2 : Int32) (l3 : Int32) (l4 : Int32) (I : am_I) : Option (Int32 × am_I) := bX11_whole_88 n k49 l2 l3 l4 (nI 0) I
theorem tX11_whole_87 {G : am_G} (hG : am_okM G) {d : Nat} {k49 : Int32 → Int32 → Int32 → Int32 → am_I → Option (Int32 × am_I)} (hk49 : ∀ (l1 : Int32) (l2 : Int32) (l3 : Int32) (l4 : Int32) (I : am_I) (r : Int32 × am_I), k49 l1 l2 l3 l4 I = some r → am_J G (d + 4) mX11_whole am_no (am_E (some r.1) r.2) 49 [some (.inr (0, 60)), some (.inl l1), some (.inl l2), some (.inl l3), some (.inl l4), none] [] I) {l2 : Int32} {l3 : Int32} {l4 : Int32} {I : am_I} {r : Int32 × am_I} (h : bX11_whole_87 G.2.2.2.1 k49 l2 l3 l4  I = some r) : am_J G (d + 4) mX11_whole am_no (am_E (some r.1) r.2) 87 [some (.inr (0, 60)), none, some (.inl l2), some (.inl l3), some (.inl l4), none] [] I := by
  unfold bX11_whole_87 at h
  refine am_iconst (v := nI 0) dX11_whole_87 (by decide) ?_
  exact am_lwJ (lo' := [some (.inr (0, 60)), none, some (.inl l2), some (.inl l3), some (.inl l4), none]) ⟨rfl, rfl, rfl, rfl, trivial⟩ (tX11_whole_88 hG hk49 h)
def bX11_whole_49 (n : Nat) : Nat → Int32 → Int32 → Int32 → Int32 → am_I → Option (Int32 × am_I)
  | 0, _, _, _, _, _ => none
  | fu + 1, l1, l2, l3, l4, I => (fun k49 => if (nI 128) ≤ l4 then (if l1 = 0 then (if l2 = 0 then (if l3 = 0 then ((gX11_findHolders n I).bind (fun q1 => am_gd (am_inb (nI 0) 640) (if (q1 0 131 ((nI 0).toNatClampNeg)) ≤ 0 then (bX11_whole_210 n (nI 0) q1) else (bX11_whole_210 n (nI 1) q1)))) else (bX11_whole_174 n l1 l2 I)) else (bX11_whole_174 n l1 l2 I)) else (bX11_whole_174 n l1 l2 I)) else (if l1 = 0 then ((gX11_allInode n l4 (nI 0) I).bind (fun q3 => if q3.1 = (nI 2) then (am_gd (am_inb l4 128) (if (q3.2 0 129 l4.toNatClampNeg) ≤ (nI 1) then (bX11_whole_87 n k49 l2 l3 l4 q3.2) else (bX11_whole_83 n k49 l2 l3 l4 q3.2))) else (bX11_whole_87 n k49 l2 l3 l4 q3.2))) else (bX11_whole_83 n k49 l2 l3 l4 I))) (bX11_whole_49 n fu)
theorem tX11_whole_49 {G : am_G} (hG : am_okM G) {d : Nat} : ∀ {fu : Nat} {l1 : Int32} {l2 : Int32} {l3 : Int32} {l4 : Int32} {I : am_I} {r : Int32 × am_I}, bX11_whole_49 G.2.2.2.1 fu l1 l2 l3 l4 I = some r → am_J G (d + 4) mX11_whole am_no (am_E (some r.1) r.2) 49 [some (.inr (0, 60)), some (.inl l1), some (.inl l2), some (.inl l3), some (.inl l4), none] [] I := by
  intro fu
  induction fu with
  | zero => intro l1 l2 l3 l4 I r h; cases h
  | succ fu ih =>
    intro l1 l2 l3 l4 I r h
    have hk49 : ∀ (l1 : Int32) (l2 : Int32) (l3 : Int32) (l4 : Int32) (I : am_I) (r : Int32 × am_I), bX11_whole_49 G.2.2.2.1 fu l1 l2 l3 l4 I = some r → am_J G (d + 4) mX11_whole am_no (am_E (some r.1) r.2) 49 [some (.inr (0, 60)), some (.inl l1), some (.inl l2), some (.inl l3), some (.inl l4), none] [] I := fun l1 l2 l3 l4 I r h => ih h
    unfold bX11_whole_49 at h
    generalize bX11_whole_49 G.2.2.2.1 fu = k49 at hk49 h
    dsimp only at h
    refine am_iload dX11_whole_49 rfl ?_
    refine am_sipush (v := nI 128) dX11_whole_51 (by decide) ?_
    refine am_icmp_ge (tgt := 162) dX11_whole_54 rfl (fun c => ?_) (fun c => ?_)
    · rw [if_pos c] at h
      refine am_iload_n dX11_whole_162 rfl ?_
      refine am_if_ne (tgt := 174) dX11_whole_163 rfl (fun c => ?_) (fun c => ?_)
      · rw [if_neg c] at h
        exact am_lwJ (lo' := [none, some (.inl l1), some (.inl l2), none, none, none]) ⟨rfl, rfl, trivial⟩ (tX11_whole_174 hG h)
      · rw [if_pos c] at h
        refine am_iload_n dX11_whole_166 rfl ?_
        refine am_if_ne (tgt := 174) dX11_whole_167 rfl (fun c => ?_) (fun c => ?_)
        · rw [if_neg c] at h
          exact am_lwJ (lo' := [none, some (.inl l1), some (.inl l2), none, none, none]) ⟨rfl, rfl, trivial⟩ (tX11_whole_174 hG h)
        · rw [if_pos c] at h
          refine am_iload_n dX11_whole_170 rfl ?_
          refine am_if_eq (tgt := 192) dX11_whole_171 rfl (fun c => ?_) (fun c => ?_)
          · rw [if_pos c] at h
            refine am_aload_n dX11_whole_192 rfl ?_
            obtain ⟨q1, hq1, h⟩ := am_bd h
            refine am_callVe (i := 0) (j := 60) (as := []) (rest := []) dX11_whole_193 lkX11_findHolders ml_X11_514 imX11_findHolders seX11_findHolders rfl rfl (hG.m0 (by decide)) rfl (Nat.le_of_ble_eq_true rfl) rfl (sX11_findHolders hG hq1) ?_
            refine am_aload_n dX11_whole_196 rfl ?_
            refine am_get (v := .inr (0, 131)) dX11_whole_197 fl_11_174 (hG.m0 (by decide)) rfl ?_
            refine am_iconst (v := nI 0) dX11_whole_200 (by decide) ?_
            obtain ⟨g2, h⟩ := am_gd_some h
            refine am_ialdG dX11_whole_201 (hG.m0 (by decide)) rfl g2 (show 640 < 2 ^ 31 by decide) ?_
            refine am_if_le (tgt := 209) dX11_whole_202 rfl (fun c => ?_) (fun c => ?_)
            · rw [if_pos c] at h
              refine am_iconst (v := nI 0) dX11_whole_209 (by decide) ?_
              exact am_lwJ (lo' := [some (.inr (0, 60)), none, none, none, none, none]) ⟨rfl, trivial⟩ (tX11_whole_210 hG h)
            · rw [if_neg c] at h
              refine am_iconst (v := nI 1) dX11_whole_205 (by decide) ?_
              refine am_goto (tgt := 210) dX11_whole_206 rfl ?_
              exact am_lwJ (lo' := [some (.inr (0, 60)), none, none, none, none, none]) ⟨rfl, trivial⟩ (tX11_whole_210 hG h)
          · rw [if_neg c] at h
            exact am_lwJ (lo' := [none, some (.inl l1), some (.inl l2), none, none, none]) ⟨rfl, rfl, trivial⟩ (tX11_whole_174 hG h)
    · rw [if_neg c] at h
      refine am_iload_n dX11_whole_57 rfl ?_
      refine am_if_ne (tgt := 83) dX11_whole_58 rfl (fun c => ?_) (fun c => ?_)
      · rw [if_neg c] at h
        exact am_lwJ (lo' := [some (.inr (0, 60)), none, some (.inl l2), some (.inl l3), some (.inl l4), none]) ⟨rfl, rfl, rfl, rfl, trivial⟩ (tX11_whole_83 hG hk49 h)
      · rw [if_pos c] at h
        refine am_aload_n dX11_whole_61 rfl ?_
        refine am_iload dX11_whole_62 rfl ?_
        refine am_iconst (v := nI 0) dX11_whole_64 (by decide) ?_
        obtain ⟨q3, hq3, h⟩ := am_bd h
        refine am_callVx (i := 0) (j := 60) (as := [.inl l4, .inl (nI 0)]) (rest := []) dX11_whole_65 lkX11_allInode ml_X11_496 imX11_allInode seX11_allInode rfl rfl (hG.m0 (by decide)) rfl (Nat.le_of_ble_eq_true rfl) rfl (sX11_allInode hG hq3) ?_
        refine am_iconst (v := nI 2) dX11_whole_68 (by decide) ?_
        refine am_icmp_ne (tgt := 87) dX11_whole_69 rfl (fun c => ?_) (fun c => ?_)
        · rw [if_neg c] at h
          exact am_lwJ (lo' := [some (.inr (0, 60)), none, some (.inl l2), some (.inl l3), some (.inl l4), none]) ⟨rfl, rfl, rfl, rfl, trivial⟩ (tX11_whole_87 hG hk49 h)
        · rw [if_pos c] at h
          refine am_aload_n dX11_whole_72 rfl ?_
          refine am_get (v := .inr (0, 129)) dX11_whole_73 fl_11_168 (hG.m0 (by decide)) rfl ?_
          refine am_iload dX11_whole_76 rfl ?_
          obtain ⟨g4, h⟩ := am_gd_some h
          refine am_ialdG dX11_whole_78 (hG.m0 (by decide)) rfl g4 (show 128 < 2 ^ 31 by decide) ?_
          refine am_iconst (v := nI 1) dX11_whole_79 (by decide) ?_
          refine am_icmp_le (tgt := 87) dX11_whole_80 rfl (fun c => ?_) (fun c => ?_)
          · rw [if_pos c] at h
            exact am_lwJ (lo' := [some (.inr (0, 60)), none, some (.inl l2), some (.inl l3), some (.inl l4), none]) ⟨rfl, rfl, rfl, rfl, trivial⟩ (tX11_whole_87 hG hk49 h)
          · rw [if_neg c] at h
            exact am_lwJ (lo' := [some (.inr (0, 60)), none, some (.inl l2), some (.inl l3), some (.inl l4), none]) ⟨rfl, rfl, rfl, rfl, trivial⟩ (tX11_whole_83 hG hk49 h)
def bX11_whole_45 (n : Nat) (l1 : Int32) (l2 : Int32) (s0 : Int32) (I : am_I) : Option (Int32 × am_I) := bX11_whole_49 n am_fu l1 l2 s0 (nI 1) I
theorem tX11_whole_45 {G : am_G} (hG : am_okM G) {d : Nat} {l1 : Int32} {l2 : Int32} {s0 : Int32} {I : am_I} {r : Int32 × am_I} (h : bX11_whole_45 G.2.2.2.1 l1 l2 s0  I = some r) : am_J G (d + 4) mX11_whole am_no (am_E (some r.1) r.2) 45 [some (.inr (0, 60)), some (.inl l1), some (.inl l2), none, none, none] [.inl s0] I := by
  unfold bX11_whole_45 at h
  refine am_istore_n dX11_whole_45 (by decide) ?_
  refine am_iconst (v := nI 1) dX11_whole_46 (by decide) ?_
  refine am_istore dX11_whole_47 (by decide) ?_
  exact am_lwJ (lo' := [some (.inr (0, 60)), some (.inl l1), some (.inl l2), some (.inl s0), some (.inl (nI 1)), none]) ⟨rfl, rfl, rfl, rfl, rfl, trivial⟩ (tX11_whole_49 hG h)
def bX11_whole_27 (n : Nat) (s0 : Int32) (I : am_I) : Option (Int32 × am_I) := (gX11_allInode n (nI 0) (nI 1) I).bind (fun q1 => if q1.1 = (nI 1) then (bX11_whole_45 n s0 (nI 0) (nI 0) q1.2) else (bX11_whole_45 n s0 (nI 0) (nI 1) q1.2))
theorem tX11_whole_27 {G : am_G} (hG : am_okM G) {d : Nat} {s0 : Int32} {I : am_I} {r : Int32 × am_I} (h : bX11_whole_27 G.2.2.2.1 s0  I = some r) : am_J G (d + 4) mX11_whole am_no (am_E (some r.1) r.2) 27 [some (.inr (0, 60)), none, none, none, none, none] [.inl s0] I := by
  unfold bX11_whole_27 at h
  refine am_istore_n dX11_whole_27 (by decide) ?_
  refine am_iconst (v := nI 0) dX11_whole_28 (by decide) ?_
  refine am_istore_n dX11_whole_29 (by decide) ?_
  refine am_aload_n dX11_whole_30 rfl ?_
  refine am_iconst (v := nI 0) dX11_whole_31 (by decide) ?_
  refine am_iconst (v := nI 1) dX11_whole_32 (by decide) ?_
  obtain ⟨q1, hq1, h⟩ := am_bd h
  refine am_callVx (i := 0) (j := 60) (as := [.inl (nI 0), .inl (nI 1)]) (rest := []) dX11_whole_33 lkX11_allInode ml_X11_496 imX11_allInode seX11_allInode rfl rfl (hG.m0 (by decide)) rfl (Nat.le_of_ble_eq_true rfl) rfl (sX11_allInode hG hq1) ?_
  refine am_iconst (v := nI 1) dX11_whole_36 (by decide) ?_
  refine am_icmp_eq (tgt := 44) dX11_whole_37 rfl (fun c => ?_) (fun c => ?_)
  · rw [if_pos c] at h
    refine am_iconst (v := nI 0) dX11_whole_44 (by decide) ?_
    exact am_lwJ (lo' := [some (.inr (0, 60)), some (.inl s0), some (.inl (nI 0)), none, none, none]) ⟨rfl, rfl, rfl, trivial⟩ (tX11_whole_45 hG h)
  · rw [if_neg c] at h
    refine am_iconst (v := nI 1) dX11_whole_40 (by decide) ?_
    refine am_goto (tgt := 45) dX11_whole_41 rfl ?_
    exact am_lwJ (lo' := [some (.inr (0, 60)), some (.inl s0), some (.inl (nI 0)), none, none, none]) ⟨rfl, rfl, rfl, trivial⟩ (tX11_whole_45 hG h)
def bX11_whole_0 (n : Nat) (I : am_I) : Option (Int32 × am_I) := (gX11_asRecovered n I).bind (fun q1 => (gX11_reach n q1).bind (fun q2 => if q2.1 = 0 then (am_gd (am_inb (nI 0) 128) (if (q2.2 0 129 ((nI 0).toNatClampNeg)) ≤ 0 then (bX11_whole_27 n (nI 0) q2.2) else (bX11_whole_27 n (nI 1) q2.2))) else (some (nI 1, q2.2))))
theorem tX11_whole_0 {G : am_G} (hG : am_okM G) {d : Nat} {I : am_I} {r : Int32 × am_I} (h : bX11_whole_0 G.2.2.2.1  I = some r) : am_J G (d + 4) mX11_whole am_no (am_E (some r.1) r.2) 0 [some (.inr (0, 60)), none, none, none, none, none] [] I := by
  unfold bX11_whole_0 at h
  refine am_aload_n dX11_whole_0 rfl ?_
  obtain ⟨q1, hq1, h⟩ := am_bd h
  refine am_callVe (i := 0) (j := 60) (as := []) (rest := []) dX11_whole_1 lkX11_asRecovered ml_X11_508 imX11_asRecovered seX11_asRecovered rfl rfl (hG.m0 (by decide)) rfl (Nat.le_of_ble_eq_true rfl) rfl (sX11_asRecovered hG hq1) ?_
  refine am_aload_n dX11_whole_4 rfl ?_
  obtain ⟨q2, hq2, h⟩ := am_bd h
  refine am_callVx (i := 0) (j := 60) (as := []) (rest := []) dX11_whole_5 lkX11_reach ml_X11_511 imX11_reach seX11_reach rfl rfl (hG.m0 (by decide)) rfl (Nat.le_of_ble_eq_true rfl) rfl (sX11_reach hG hq2) ?_
  refine am_if_eq (tgt := 13) dX11_whole_8 rfl (fun c => ?_) (fun c => ?_)
  · rw [if_pos c] at h
    refine am_aload_n dX11_whole_13 rfl ?_
    refine am_get (v := .inr (0, 129)) dX11_whole_14 fl_11_168 (hG.m0 (by decide)) rfl ?_
    refine am_iconst (v := nI 0) dX11_whole_17 (by decide) ?_
    obtain ⟨g3, h⟩ := am_gd_some h
    refine am_ialdG dX11_whole_18 (hG.m0 (by decide)) rfl g3 (show 128 < 2 ^ 31 by decide) ?_
    refine am_if_le (tgt := 26) dX11_whole_19 rfl (fun c => ?_) (fun c => ?_)
    · rw [if_pos c] at h
      refine am_iconst (v := nI 0) dX11_whole_26 (by decide) ?_
      exact am_lwJ (lo' := [some (.inr (0, 60)), none, none, none, none, none]) ⟨rfl, trivial⟩ (tX11_whole_27 hG h)
    · rw [if_neg c] at h
      refine am_iconst (v := nI 1) dX11_whole_22 (by decide) ?_
      refine am_goto (tgt := 27) dX11_whole_23 rfl ?_
      exact am_lwJ (lo' := [some (.inr (0, 60)), none, none, none, none, none]) ⟨rfl, trivial⟩ (tX11_whole_27 hG h)
  · rw [if_neg c] at h
    refine am_iconst (v := nI 1) dX11_whole_11 (by decide) ?_
    cases h
    exact am_iret dX11_whole_12 rfl rfl ⟨rfl, rfl⟩
def gX11_whole (n : Nat) (I : am_I) : Option (Int32 × am_I) := bX11_whole_0 n I
theorem sX11_whole {G : am_G} (hG : am_okM G) {d : Nat} {I : am_I} {r : Int32 × am_I} (h : gX11_whole G.2.2.2.1 I = some r) : am_C G (d + 4) mX11_whole [.inr (0, 60)] I (am_E (some r.1) r.2) :=
  am_of (by decide +kernel) hG.nd (Nat.le_of_ble_eq_true rfl) (am_lwJ (lo' := [some (.inr (0, 60)), none, none, none, none, none]) ⟨rfl, trivial⟩ (tX11_whole_0 hG h))
def bX11_about_16 (n : Nat) (l1 : Int32) (s0 : Int32) (I : am_I) : Option (Int32 × am_I) := (gX11_refuse n s0 (nI 0) (nI 0) I).bind (fun q1 => if q1.1 = 0 then (if l1 = nI 0 then (some (q1.2 0 60 2, q1.2)) else (if l1 = nI 1 then (some (q1.2 0 60 38, q1.2)) else (if l1 = nI 2 then (some (q1.2 0 60 39, q1.2)) else (if l1 = nI 3 then (some (q1.2 0 60 48, q1.2)) else (if l1 = nI 4 then (some (q1.2 0 60 49, q1.2)) else (if l1 = nI 5 then (some (q1.2 0 60 50, q1.2)) else (if l1 = nI 6 then (some (q1.2 0 60 1, q1.2)) else (if l1 = nI 7 then ((gX11_used n (nI 0) q1.2).bind (fun q2 => some (q2.1, q2.2))) else (if l1 = nI 8 then ((gX11_used n (nI 1) q1.2).bind (fun q3 => some (q3.1, q3.2))) else ((gX11_whole n q1.2).bind (fun q4 => some (q4.1, q4.2)))))))))))) else (some (nI 0, q1.2)))
theorem tX11_about_16 {G : am_G} (hG : am_okM G) {d : Nat} {l1 : Int32} {s0 : Int32} {I : am_I} {r : Int32 × am_I} (h : bX11_about_16 G.2.2.2.1 l1 s0  I = some r) : am_J G (d + 5) mX11_about am_no (am_E (some r.1) r.2) 16 [some (.inr (0, 60)), some (.inl l1)] [.inl s0, .inr (0, 60)] I := by
  unfold bX11_about_16 at h
  refine am_iconst (v := nI 0) dX11_about_16 (by decide) ?_
  refine am_iconst (v := nI 0) dX11_about_17 (by decide) ?_
  obtain ⟨q1, hq1, h⟩ := am_bd h
  refine am_callVx (i := 0) (j := 60) (as := [.inl s0, .inl (nI 0), .inl (nI 0)]) (rest := []) dX11_about_18 lkX11_refuse ml_X11_441 imX11_refuse seX11_refuse rfl rfl (hG.m0 (by decide)) rfl (Nat.le_of_ble_eq_true rfl) rfl (sX11_refuse hG hq1) ?_
  refine am_if_eq (tgt := 26) dX11_about_21 rfl (fun c => ?_) (fun c => ?_)
  · rw [if_pos c] at h
    refine am_iload_n dX11_about_26 rfl ?_
    rcases am_sw 8 l1 with ⟨m, hm, hx⟩ | hx
    · match m, hm, hx with
      | 0, _, hx =>
        rw [if_pos hx] at h
        refine am_tabIn (off := 49) (tgt := 76) dX11_about_27 (by rw [hx]; decide) (by rw [hx]; decide) (by rw [hx]; rfl) rfl ?_
        refine am_aload_n dX11_about_76 rfl ?_
        refine am_get (v := .inl (q1.2 0 60 2)) dX11_about_77 fl_11_194 (hG.m0 (by decide)) rfl ?_
        cases h
        exact am_iret dX11_about_80 rfl rfl ⟨rfl, rfl⟩
      | 1, _, hx =>
        rw [if_neg (show ¬ l1 = nI 0 by rw [hx]; decide)] at h
        rw [if_pos hx] at h
        refine am_tabIn (off := 54) (tgt := 81) dX11_about_27 (by rw [hx]; decide) (by rw [hx]; decide) (by rw [hx]; rfl) rfl ?_
        refine am_aload_n dX11_about_81 rfl ?_
        refine am_get (v := .inl (q1.2 0 60 38)) dX11_about_82 fl_11_197 (hG.m0 (by decide)) rfl ?_
        cases h
        exact am_iret dX11_about_85 rfl rfl ⟨rfl, rfl⟩
      | 2, _, hx =>
        rw [if_neg (show ¬ l1 = nI 0 by rw [hx]; decide), if_neg (show ¬ l1 = nI 1 by rw [hx]; decide)] at h
        rw [if_pos hx] at h
        refine am_tabIn (off := 59) (tgt := 86) dX11_about_27 (by rw [hx]; decide) (by rw [hx]; decide) (by rw [hx]; rfl) rfl ?_
        refine am_aload_n dX11_about_86 rfl ?_
        refine am_get (v := .inl (q1.2 0 60 39)) dX11_about_87 fl_11_191 (hG.m0 (by decide)) rfl ?_
        cases h
        exact am_iret dX11_about_90 rfl rfl ⟨rfl, rfl⟩
      | 3, _, hx =>
        rw [if_neg (show ¬ l1 = nI 0 by rw [hx]; decide), if_neg (show ¬ l1 = nI 1 by rw [hx]; decide), if_neg (show ¬ l1 = nI 2 by rw [hx]; decide)] at h
        rw [if_pos hx] at h
        refine am_tabIn (off := 64) (tgt := 91) dX11_about_27 (by rw [hx]; decide) (by rw [hx]; decide) (by rw [hx]; rfl) rfl ?_
        refine am_aload_n dX11_about_91 rfl ?_
        refine am_get (v := .inl (q1.2 0 60 48)) dX11_about_92 fl_11_454 (hG.m0 (by decide)) rfl ?_
        cases h
        exact am_iret dX11_about_95 rfl rfl ⟨rfl, rfl⟩
      | 4, _, hx =>
        rw [if_neg (show ¬ l1 = nI 0 by rw [hx]; decide), if_neg (show ¬ l1 = nI 1 by rw [hx]; decide), if_neg (show ¬ l1 = nI 2 by rw [hx]; decide), if_neg (show ¬ l1 = nI 3 by rw [hx]; decide)] at h
        rw [if_pos hx] at h
        refine am_tabIn (off := 69) (tgt := 96) dX11_about_27 (by rw [hx]; decide) (by rw [hx]; decide) (by rw [hx]; rfl) rfl ?_
        refine am_aload_n dX11_about_96 rfl ?_
        refine am_get (v := .inl (q1.2 0 60 49)) dX11_about_97 fl_11_268 (hG.m0 (by decide)) rfl ?_
        cases h
        exact am_iret dX11_about_100 rfl rfl ⟨rfl, rfl⟩
      | 5, _, hx =>
        rw [if_neg (show ¬ l1 = nI 0 by rw [hx]; decide), if_neg (show ¬ l1 = nI 1 by rw [hx]; decide), if_neg (show ¬ l1 = nI 2 by rw [hx]; decide), if_neg (show ¬ l1 = nI 3 by rw [hx]; decide), if_neg (show ¬ l1 = nI 4 by rw [hx]; decide)] at h
        rw [if_pos hx] at h
        refine am_tabIn (off := 74) (tgt := 101) dX11_about_27 (by rw [hx]; decide) (by rw [hx]; decide) (by rw [hx]; rfl) rfl ?_
        refine am_aload_n dX11_about_101 rfl ?_
        refine am_get (v := .inl (q1.2 0 60 50)) dX11_about_102 fl_11_472 (hG.m0 (by decide)) rfl ?_
        cases h
        exact am_iret dX11_about_105 rfl rfl ⟨rfl, rfl⟩
      | 6, _, hx =>
        rw [if_neg (show ¬ l1 = nI 0 by rw [hx]; decide), if_neg (show ¬ l1 = nI 1 by rw [hx]; decide), if_neg (show ¬ l1 = nI 2 by rw [hx]; decide), if_neg (show ¬ l1 = nI 3 by rw [hx]; decide), if_neg (show ¬ l1 = nI 4 by rw [hx]; decide), if_neg (show ¬ l1 = nI 5 by rw [hx]; decide)] at h
        rw [if_pos hx] at h
        refine am_tabIn (off := 79) (tgt := 106) dX11_about_27 (by rw [hx]; decide) (by rw [hx]; decide) (by rw [hx]; rfl) rfl ?_
        refine am_aload_n dX11_about_106 rfl ?_
        refine am_get (v := .inl (q1.2 0 60 1)) dX11_about_107 fl_11_177 (hG.m0 (by decide)) rfl ?_
        cases h
        exact am_iret dX11_about_110 rfl rfl ⟨rfl, rfl⟩
      | 7, _, hx =>
        rw [if_neg (show ¬ l1 = nI 0 by rw [hx]; decide), if_neg (show ¬ l1 = nI 1 by rw [hx]; decide), if_neg (show ¬ l1 = nI 2 by rw [hx]; decide), if_neg (show ¬ l1 = nI 3 by rw [hx]; decide), if_neg (show ¬ l1 = nI 4 by rw [hx]; decide), if_neg (show ¬ l1 = nI 5 by rw [hx]; decide), if_neg (show ¬ l1 = nI 6 by rw [hx]; decide)] at h
        rw [if_pos hx] at h
        refine am_tabIn (off := 84) (tgt := 111) dX11_about_27 (by rw [hx]; decide) (by rw [hx]; decide) (by rw [hx]; rfl) rfl ?_
        refine am_aload_n dX11_about_111 rfl ?_
        refine am_iconst (v := nI 0) dX11_about_112 (by decide) ?_
        obtain ⟨q2, hq2, h⟩ := am_bd h
        refine am_callVx (i := 0) (j := 60) (as := [.inl (nI 0)]) (rest := []) dX11_about_113 lkX11_used ml_X11_520 imX11_used seX11_used rfl rfl (hG.m0 (by decide)) rfl (Nat.le_of_ble_eq_true rfl) rfl (sX11_used hG hq2) ?_
        cases h
        exact am_iret dX11_about_116 rfl rfl ⟨rfl, rfl⟩
      | 8, _, hx =>
        rw [if_neg (show ¬ l1 = nI 0 by rw [hx]; decide), if_neg (show ¬ l1 = nI 1 by rw [hx]; decide), if_neg (show ¬ l1 = nI 2 by rw [hx]; decide), if_neg (show ¬ l1 = nI 3 by rw [hx]; decide), if_neg (show ¬ l1 = nI 4 by rw [hx]; decide), if_neg (show ¬ l1 = nI 5 by rw [hx]; decide), if_neg (show ¬ l1 = nI 6 by rw [hx]; decide), if_neg (show ¬ l1 = nI 7 by rw [hx]; decide)] at h
        rw [if_pos hx] at h
        refine am_tabIn (off := 90) (tgt := 117) dX11_about_27 (by rw [hx]; decide) (by rw [hx]; decide) (by rw [hx]; rfl) rfl ?_
        refine am_aload_n dX11_about_117 rfl ?_
        refine am_iconst (v := nI 1) dX11_about_118 (by decide) ?_
        obtain ⟨q3, hq3, h⟩ := am_bd h
        refine am_callVx (i := 0) (j := 60) (as := [.inl (nI 1)]) (rest := []) dX11_about_119 lkX11_used ml_X11_520 imX11_used seX11_used rfl rfl (hG.m0 (by decide)) rfl (Nat.le_of_ble_eq_true rfl) rfl (sX11_used hG hq3) ?_
        cases h
        exact am_iret dX11_about_122 rfl rfl ⟨rfl, rfl⟩
      | m + 9, hm, _ => exact absurd hm (by omega)
    · rw [if_neg (am_swd (k := 0) hx (by decide) (by decide)), if_neg (am_swd (k := 1) hx (by decide) (by decide)), if_neg (am_swd (k := 2) hx (by decide) (by decide)), if_neg (am_swd (k := 3) hx (by decide) (by decide)), if_neg (am_swd (k := 4) hx (by decide) (by decide)), if_neg (am_swd (k := 5) hx (by decide) (by decide)), if_neg (am_swd (k := 6) hx (by decide) (by decide)), if_neg (am_swd (k := 7) hx (by decide) (by decide)), if_neg (am_swd (k := 8) hx (by decide) (by decide))] at h
      refine am_tabOut (tgt := 123) dX11_about_27 (by omega) rfl ?_
      refine am_aload_n dX11_about_123 rfl ?_
      obtain ⟨q4, hq4, h⟩ := am_bd h
      refine am_callVx (i := 0) (j := 60) (as := []) (rest := []) dX11_about_124 lkX11_whole ml_X11_524 imX11_whole seX11_whole rfl rfl (hG.m0 (by decide)) rfl (Nat.le_of_ble_eq_true rfl) rfl (sX11_whole hG hq4) ?_
      cases h
      exact am_iret dX11_about_127 rfl rfl ⟨rfl, rfl⟩
  · rw [if_neg c] at h
    refine am_iconst (v := nI 0) dX11_about_24 (by decide) ?_
    cases h
    exact am_iret dX11_about_25 rfl rfl ⟨rfl, rfl⟩
def bX11_about_0 (n : Nat) (l1 : Int32) (I : am_I) : Option (Int32 × am_I) := (gX11_in n l1 (nI 0) (nI 9) I).bind (fun q1 => if q1.1 = 0 then (bX11_about_16 n l1 (nI 1) q1.2) else (bX11_about_16 n l1 (nI 0) q1.2))
theorem tX11_about_0 {G : am_G} (hG : am_okM G) {d : Nat} {l1 : Int32} {I : am_I} {r : Int32 × am_I} (h : bX11_about_0 G.2.2.2.1 l1  I = some r) : am_J G (d + 5) mX11_about am_no (am_E (some r.1) r.2) 0 [some (.inr (0, 60)), some (.inl l1)] [] I := by
  unfold bX11_about_0 at h
  refine am_aload_n dX11_about_0 rfl ?_
  refine am_iload_n dX11_about_1 rfl ?_
  refine am_iconst (v := nI 0) dX11_about_2 (by decide) ?_
  refine am_bipush (v := nI 9) dX11_about_3 (by decide) ?_
  obtain ⟨q1, hq1, h⟩ := am_bd h
  refine am_callSx (as := [.inl l1, .inl (nI 0), .inl (nI 9)]) (rest := [.inr (0, 60)]) dX11_about_5 lkX11_in ml_X11_243 isX11_in rfl (Nat.le_of_ble_eq_true rfl) rfl (sX11_in hG hq1) ?_
  refine am_if_ne (tgt := 15) dX11_about_8 rfl (fun c => ?_) (fun c => ?_)
  · rw [if_neg c] at h
    refine am_iconst (v := nI 0) dX11_about_15 (by decide) ?_
    exact am_lwJ (lo' := [some (.inr (0, 60)), some (.inl l1)]) ⟨rfl, rfl, trivial⟩ (tX11_about_16 hG h)
  · rw [if_pos c] at h
    refine am_iconst (v := nI 1) dX11_about_11 (by decide) ?_
    refine am_goto (tgt := 16) dX11_about_12 rfl ?_
    exact am_lwJ (lo' := [some (.inr (0, 60)), some (.inl l1)]) ⟨rfl, rfl, trivial⟩ (tX11_about_16 hG h)
def gX11_about (n : Nat) (l1 : Int32) (I : am_I) : Option (Int32 × am_I) := bX11_about_0 n l1 I
theorem sX11_about {G : am_G} (hG : am_okM G) {d : Nat} {l1 : Int32} {I : am_I} {r : Int32 × am_I} (h : gX11_about G.2.2.2.1 l1 I = some r) : am_C G (d + 5) mX11_about [.inr (0, 60), .inl l1] I (am_E (some r.1) r.2) :=
  am_of (by decide +kernel) hG.nd (Nat.le_of_ble_eq_true rfl) (am_lwJ (lo' := [some (.inr (0, 60)), some (.inl l1)]) ⟨rfl, rfl, trivial⟩ (tX11_about_0 hG h))
