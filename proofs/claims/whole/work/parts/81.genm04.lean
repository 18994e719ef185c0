def bX11_layAnew_211 (n : Nat) (k189 : Int32 → am_I → Option (am_I)) (l1 : Int32) (I : am_I) : Option (am_I) := k189 (l1 + nI 1) I
theorem tX11_layAnew_211 {G : am_G} (hG : am_okM G) {d : Nat} {k189 : Int32 → am_I → Option (am_I)} (hk189 : ∀ (l1 : Int32) (I : am_I) (r : am_I), k189 l1 I = some r → am_J G (d + 11) mX11_layAnew am_no (am_E none r) 189 [some (.inr (0, 60)), some (.inl l1), none, none] [] I) {l1 : Int32} {I : am_I} {r : am_I} (h : bX11_layAnew_211 G.2.2.2.1 k189 l1  I = some r) : am_J G (d + 11) mX11_layAnew am_no (am_E none r) 211 [some (.inr (0, 60)), some (.inl l1), none, none] [] I := by
  unfold bX11_layAnew_211 at h
  refine am_iinc (v := l1 + nI 1) dX11_layAnew_211 rfl rfl ?_
  refine am_goto (tgt := 189) dX11_layAnew_214 rfl ?_
  exact am_lwJ (lo' := [some (.inr (0, 60)), some (.inl (l1 + nI 1)), none, none]) ⟨rfl, rfl, trivial⟩ (hk189 (l1 + nI 1) _ _ h)
def bX11_layAnew_189 (n : Nat) : Nat → Int32 → am_I → Option (am_I)
  | 0, _, _ => none
  | fu + 1, l1, I => (fun k189 => if (I 0 60 1) ≤ l1 then (some I) else (am_gd (am_inb l1 4) (if (I 0 65 l1.toNatClampNeg) = 0 then (bX11_layAnew_211 n k189 l1 I) else ((gX11_goOn n l1 I).bind (fun q2 => bX11_layAnew_211 n k189 l1 q2))))) (bX11_layAnew_189 n fu)
theorem tX11_layAnew_189 {G : am_G} (hG : am_okM G) {d : Nat} : ∀ {fu : Nat} {l1 : Int32} {I : am_I} {r : am_I}, bX11_layAnew_189 G.2.2.2.1 fu l1 I = some r → am_J G (d + 11) mX11_layAnew am_no (am_E none r) 189 [some (.inr (0, 60)), some (.inl l1), none, none] [] I := by
  intro fu
  induction fu with
  | zero => intro l1 I r h; cases h
  | succ fu ih =>
    intro l1 I r h
    have hk189 : ∀ (l1 : Int32) (I : am_I) (r : am_I), bX11_layAnew_189 G.2.2.2.1 fu l1 I = some r → am_J G (d + 11) mX11_layAnew am_no (am_E none r) 189 [some (.inr (0, 60)), some (.inl l1), none, none] [] I := fun l1 I r h => ih h
    unfold bX11_layAnew_189 at h
    generalize bX11_layAnew_189 G.2.2.2.1 fu = k189 at hk189 h
    dsimp only at h
    refine am_iload_n dX11_layAnew_189 rfl ?_
    refine am_aload_n dX11_layAnew_190 rfl ?_
    refine am_get (v := .inl (I 0 60 1)) dX11_layAnew_191 fl_11_177 (hG.m0 (by decide)) rfl ?_
    refine am_icmp_ge (tgt := 217) dX11_layAnew_194 rfl (fun c => ?_) (fun c => ?_)
    · rw [if_pos c] at h
      cases h
      exact am_vret dX11_layAnew_217 rfl ⟨rfl, rfl⟩
    · rw [if_neg c] at h
      refine am_aload_n dX11_layAnew_197 rfl ?_
      refine am_get (v := .inr (0, 65)) dX11_layAnew_198 fl_11_13 (hG.m0 (by decide)) rfl ?_
      refine am_iload_n dX11_layAnew_201 rfl ?_
      obtain ⟨g1, h⟩ := am_gd_some h
      refine am_zaldG dX11_layAnew_202 (hG.m0 (by decide)) rfl g1 (show 4 < 2 ^ 31 by decide) ?_
      refine am_if_eq (tgt := 211) dX11_layAnew_203 rfl (fun c => ?_) (fun c => ?_)
      · rw [if_pos c] at h
        exact am_lwJ (lo' := [some (.inr (0, 60)), some (.inl l1), none, none]) ⟨rfl, rfl, trivial⟩ (tX11_layAnew_211 hG hk189 h)
      · rw [if_neg c] at h
        refine am_aload_n dX11_layAnew_206 rfl ?_
        refine am_iload_n dX11_layAnew_207 rfl ?_
        obtain ⟨q2, hq2, h⟩ := am_bd h
        refine am_callVe (i := 0) (j := 60) (as := [.inl l1]) (rest := []) dX11_layAnew_208 lkX11_goOn ml_X11_212 imX11_goOn seX11_goOn rfl rfl (hG.m0 (by decide)) rfl (Nat.le_of_ble_eq_true rfl) rfl (sX11_goOn hG hq2) ?_
        exact am_lwJ (lo' := [some (.inr (0, 60)), some (.inl l1), none, none]) ⟨rfl, rfl, trivial⟩ (tX11_layAnew_211 hG hk189 h)
def bX11_layAnew_169 (n : Nat) : Nat → Int32 → am_I → Option (am_I)
  | 0, _, _ => none
  | fu + 1, l1, I => (fun k169 => if (nI 136) ≤ l1 then (bX11_layAnew_189 n am_fu (nI 0) I) else ((gX11_serve n l1 I).bind (fun q1 => k169 (l1 + nI 1) q1))) (bX11_layAnew_169 n fu)
theorem tX11_layAnew_169 {G : am_G} (hG : am_okM G) {d : Nat} : ∀ {fu : Nat} {l1 : Int32} {I : am_I} {r : am_I}, bX11_layAnew_169 G.2.2.2.1 fu l1 I = some r → am_J G (d + 11) mX11_layAnew am_no (am_E none r) 169 [some (.inr (0, 60)), some (.inl l1), none, none] [] I := by
  intro fu
  induction fu with
  | zero => intro l1 I r h; cases h
  | succ fu ih =>
    intro l1 I r h
    have hk169 : ∀ (l1 : Int32) (I : am_I) (r : am_I), bX11_layAnew_169 G.2.2.2.1 fu l1 I = some r → am_J G (d + 11) mX11_layAnew am_no (am_E none r) 169 [some (.inr (0, 60)), some (.inl l1), none, none] [] I := fun l1 I r h => ih h
    unfold bX11_layAnew_169 at h
    generalize bX11_layAnew_169 G.2.2.2.1 fu = k169 at hk169 h
    dsimp only at h
    refine am_iload_n dX11_layAnew_169 rfl ?_
    refine am_sipush (v := nI 136) dX11_layAnew_170 (by decide) ?_
    refine am_icmp_ge (tgt := 187) dX11_layAnew_173 rfl (fun c => ?_) (fun c => ?_)
    · rw [if_pos c] at h
      refine am_iconst (v := nI 0) dX11_layAnew_187 (by decide) ?_
      refine am_istore_n dX11_layAnew_188 (by decide) ?_
      exact am_lwJ (lo' := [some (.inr (0, 60)), some (.inl (nI 0)), none, none]) ⟨rfl, rfl, trivial⟩ (tX11_layAnew_189 hG h)
    · rw [if_neg c] at h
      refine am_aload_n dX11_layAnew_176 rfl ?_
      refine am_iload_n dX11_layAnew_177 rfl ?_
      obtain ⟨q1, hq1, h⟩ := am_bd h
      refine am_callVe (i := 0) (j := 60) (as := [.inl l1]) (rest := []) dX11_layAnew_178 lkX11_serve ml_X11_204 imX11_serve seX11_serve rfl rfl (hG.m0 (by decide)) rfl (Nat.le_of_ble_eq_true rfl) rfl (sX11_serve hG hq1) ?_
      refine am_iinc (v := l1 + nI 1) dX11_layAnew_181 rfl rfl ?_
      refine am_goto (tgt := 169) dX11_layAnew_184 rfl ?_
      exact am_lwJ (lo' := [some (.inr (0, 60)), some (.inl (l1 + nI 1)), none, none]) ⟨rfl, rfl, trivial⟩ (hk169 (l1 + nI 1) _ _ h)
def bX11_layAnew_155 (n : Nat) (k6 : Int32 → am_I → Option (am_I)) (k26 : Int32 → Int32 → Int32 → am_I → Option (am_I)) (l1 : Int32) (l2 : Int32) (l3 : Int32) (I : am_I) : Option (am_I) := k26 l1 l2 (l3 + nI 1) I
theorem tX11_layAnew_155 {G : am_G} (hG : am_okM G) {d : Nat} {k6 : Int32 → am_I → Option (am_I)} {k26 : Int32 → Int32 → Int32 → am_I → Option (am_I)} (hk6 : ∀ (l1 : Int32) (I : am_I) (r : am_I), k6 l1 I = some r → am_J G (d + 11) mX11_layAnew am_no (am_E none r) 6 [some (.inr (0, 60)), some (.inl l1), none, none] [] I) (hk26 : ∀ (l1 : Int32) (l2 : Int32) (l3 : Int32) (I : am_I) (r : am_I), k26 l1 l2 l3 I = some r → am_J G (d + 11) mX11_layAnew am_no (am_E none r) 26 [some (.inr (0, 60)), some (.inl l1), some (.inl l2), some (.inl l3)] [] I) {l1 : Int32} {l2 : Int32} {l3 : Int32} {I : am_I} {r : am_I} (h : bX11_layAnew_155 G.2.2.2.1 k6 k26 l1 l2 l3  I = some r) : am_J G (d + 11) mX11_layAnew am_no (am_E none r) 155 [some (.inr (0, 60)), some (.inl l1), some (.inl l2), some (.inl l3)] [] I := by
  unfold bX11_layAnew_155 at h
  refine am_iinc (v := l3 + nI 1) dX11_layAnew_155 rfl rfl ?_
  refine am_goto (tgt := 26) dX11_layAnew_158 rfl ?_
  exact am_lwJ (lo' := [some (.inr (0, 60)), some (.inl l1), some (.inl l2), some (.inl (l3 + nI 1))]) ⟨rfl, rfl, rfl, rfl, trivial⟩ (hk26 l1 l2 (l3 + nI 1) _ _ h)
def bX11_layAnew_102 (n : Nat) (k6 : Int32 → am_I → Option (am_I)) (k26 : Int32 → Int32 → Int32 → am_I → Option (am_I)) (l1 : Int32) (l2 : Int32) (l3 : Int32) (s0 : Int32) (s1 : Int32) (I : am_I) : Option (am_I) := am_gd (am_inb s1 544) (am_lt (am_up I 0 94 s1.toNatClampNeg s0) (fun I2 => if l2 = (-1 : Int32) then (bX11_layAnew_155 n k6 k26 l1 l2 l3 I2) else (am_gd (am_inb l2 4) (if (I2 0 65 l2.toNatClampNeg) = 0 then (bX11_layAnew_155 n k6 k26 l1 l2 l3 I2) else (am_gd (am_inb l3 4) (if (I2 0 65 l3.toNatClampNeg) = 0 then (bX11_layAnew_155 n k6 k26 l1 l2 l3 I2) else ((gX11_at n l3 l1 I2).bind (fun q5 => am_gd (am_inb q5.1 544) (if (q5.2 0 77 q5.1.toNatClampNeg) ≤ 0 then (bX11_layAnew_155 n k6 k26 l1 l2 l3 q5.2) else ((gX11_at n l3 l1 q5.2).bind (fun q7 => am_gd (am_inb q7.1 544) ((gX11_addRequest n l1 l3 (q7.2 0 77 q7.1.toNatClampNeg) q7.2).bind (fun q9 => bX11_layAnew_155 n k6 k26 l1 l2 l3 q9)))))))))))))
theorem tX11_layAnew_102 {G : am_G} (hG : am_okM G) {d : Nat} {k6 : Int32 → am_I → Option (am_I)} {k26 : Int32 → Int32 → Int32 → am_I → Option (am_I)} (hk6 : ∀ (l1 : Int32) (I : am_I) (r : am_I), k6 l1 I = some r → am_J G (d + 11) mX11_layAnew am_no (am_E none r) 6 [some (.inr (0, 60)), some (.inl l1), none, none] [] I) (hk26 : ∀ (l1 : Int32) (l2 : Int32) (l3 : Int32) (I : am_I) (r : am_I), k26 l1 l2 l3 I = some r → am_J G (d + 11) mX11_layAnew am_no (am_E none r) 26 [some (.inr (0, 60)), some (.inl l1), some (.inl l2), some (.inl l3)] [] I) {l1 : Int32} {l2 : Int32} {l3 : Int32} {s0 : Int32} {s1 : Int32} {I : am_I} {r : am_I} (h : bX11_layAnew_102 G.2.2.2.1 k6 k26 l1 l2 l3 s0 s1  I = some r) : am_J G (d + 11) mX11_layAnew am_no (am_E none r) 102 [some (.inr (0, 60)), some (.inl l1), some (.inl l2), some (.inl l3)] [.inl s0, .inl s1, .inr (0, 94)] I := by
  unfold bX11_layAnew_102 at h
  obtain ⟨g1, h⟩ := am_gd_some h
  refine am_iastG dX11_layAnew_102 (hG.m0 (by decide)) rfl g1 (show 544 < 2 ^ 31 by decide) ?_
  obtain ⟨I2, hI2, h⟩ := am_lt_some h
  refine am_st10 hI2 ?_
  refine am_iload_n dX11_layAnew_103 rfl ?_
  refine am_iconst (v := (-1 : Int32)) dX11_layAnew_104 (by decide) ?_
  refine am_icmp_eq (tgt := 155) dX11_layAnew_105 rfl (fun c => ?_) (fun c => ?_)
  · rw [if_pos c] at h
    exact am_lwJ (lo' := [some (.inr (0, 60)), some (.inl l1), some (.inl l2), some (.inl l3)]) ⟨rfl, rfl, rfl, rfl, trivial⟩ (tX11_layAnew_155 hG hk6 hk26 h)
  · rw [if_neg c] at h
    refine am_aload_n dX11_layAnew_108 rfl ?_
    refine am_get (v := .inr (0, 65)) dX11_layAnew_109 fl_11_13 (hG.m0 (by decide)) rfl ?_
    refine am_iload_n dX11_layAnew_112 rfl ?_
    obtain ⟨g3, h⟩ := am_gd_some h
    refine am_zaldG dX11_layAnew_113 (hG.m0 (by decide)) rfl g3 (show 4 < 2 ^ 31 by decide) ?_
    refine am_if_eq (tgt := 155) dX11_layAnew_114 rfl (fun c => ?_) (fun c => ?_)
    · rw [if_pos c] at h
      exact am_lwJ (lo' := [some (.inr (0, 60)), some (.inl l1), some (.inl l2), some (.inl l3)]) ⟨rfl, rfl, rfl, rfl, trivial⟩ (tX11_layAnew_155 hG hk6 hk26 h)
    · rw [if_neg c] at h
      refine am_aload_n dX11_layAnew_117 rfl ?_
      refine am_get (v := .inr (0, 65)) dX11_layAnew_118 fl_11_13 (hG.m0 (by decide)) rfl ?_
      refine am_iload_n dX11_layAnew_121 rfl ?_
      obtain ⟨g4, h⟩ := am_gd_some h
      refine am_zaldG dX11_layAnew_122 (hG.m0 (by decide)) rfl g4 (show 4 < 2 ^ 31 by decide) ?_
      refine am_if_eq (tgt := 155) dX11_layAnew_123 rfl (fun c => ?_) (fun c => ?_)
      · rw [if_pos c] at h
        exact am_lwJ (lo' := [some (.inr (0, 60)), some (.inl l1), some (.inl l2), some (.inl l3)]) ⟨rfl, rfl, rfl, rfl, trivial⟩ (tX11_layAnew_155 hG hk6 hk26 h)
      · rw [if_neg c] at h
        refine am_aload_n dX11_layAnew_126 rfl ?_
        refine am_get (v := .inr (0, 77)) dX11_layAnew_127 fl_11_51 (hG.m0 (by decide)) rfl ?_
        refine am_iload_n dX11_layAnew_130 rfl ?_
        refine am_iload_n dX11_layAnew_131 rfl ?_
        obtain ⟨q5, hq5, h⟩ := am_bd h
        refine am_callSx (as := [.inl l3, .inl l1]) (rest := [.inr (0, 77)]) dX11_layAnew_132 lkX11_at ml_X11_208 isX11_at rfl (Nat.le_of_ble_eq_true rfl) rfl (sX11_at hG hq5) ?_
        obtain ⟨g6, h⟩ := am_gd_some h
        refine am_ialdG dX11_layAnew_135 (hG.m0 (by decide)) rfl g6 (show 544 < 2 ^ 31 by decide) ?_
        refine am_if_le (tgt := 155) dX11_layAnew_136 rfl (fun c => ?_) (fun c => ?_)
        · rw [if_pos c] at h
          exact am_lwJ (lo' := [some (.inr (0, 60)), some (.inl l1), some (.inl l2), some (.inl l3)]) ⟨rfl, rfl, rfl, rfl, trivial⟩ (tX11_layAnew_155 hG hk6 hk26 h)
        · rw [if_neg c] at h
          refine am_aload_n dX11_layAnew_139 rfl ?_
          refine am_iload_n dX11_layAnew_140 rfl ?_
          refine am_iload_n dX11_layAnew_141 rfl ?_
          refine am_aload_n dX11_layAnew_142 rfl ?_
          refine am_get (v := .inr (0, 77)) dX11_layAnew_143 fl_11_51 (hG.m0 (by decide)) rfl ?_
          refine am_iload_n dX11_layAnew_146 rfl ?_
          refine am_iload_n dX11_layAnew_147 rfl ?_
          obtain ⟨q7, hq7, h⟩ := am_bd h
          refine am_callSx (as := [.inl l3, .inl l1]) (rest := [.inr (0, 77), .inl l3, .inl l1, .inr (0, 60)]) dX11_layAnew_148 lkX11_at ml_X11_208 isX11_at rfl (Nat.le_of_ble_eq_true rfl) rfl (sX11_at hG hq7) ?_
          obtain ⟨g8, h⟩ := am_gd_some h
          refine am_ialdG dX11_layAnew_151 (hG.m0 (by decide)) rfl g8 (show 544 < 2 ^ 31 by decide) ?_
          obtain ⟨q9, hq9, h⟩ := am_bd h
          refine am_callVe (i := 0) (j := 60) (as := [.inl l1, .inl l3, .inl (q7.2 0 77 q7.1.toNatClampNeg)]) (rest := []) dX11_layAnew_152 lkX11_addRequest ml_X11_200 imX11_addRequest seX11_addRequest rfl rfl (hG.m0 (by decide)) rfl (Nat.le_of_ble_eq_true rfl) rfl (sX11_addRequest hG hq9) ?_
          exact am_lwJ (lo' := [some (.inr (0, 60)), some (.inl l1), some (.inl l2), some (.inl l3)]) ⟨rfl, rfl, rfl, rfl, trivial⟩ (tX11_layAnew_155 hG hk6 hk26 h)
def bX11_layAnew_101 (n : Nat) (k6 : Int32 → am_I → Option (am_I)) (k26 : Int32 → Int32 → Int32 → am_I → Option (am_I)) (l1 : Int32) (l2 : Int32) (l3 : Int32) (s0 : Int32) (I : am_I) : Option (am_I) := bX11_layAnew_102 n k6 k26 l1 l2 l3 (nI 0) s0 I
theorem tX11_layAnew_101 {G : am_G} (hG : am_okM G) {d : Nat} {k6 : Int32 → am_I → Option (am_I)} {k26 : Int32 → Int32 → Int32 → am_I → Option (am_I)} (hk6 : ∀ (l1 : Int32) (I : am_I) (r : am_I), k6 l1 I = some r → am_J G (d + 11) mX11_layAnew am_no (am_E none r) 6 [some (.inr (0, 60)), some (.inl l1), none, none] [] I) (hk26 : ∀ (l1 : Int32) (l2 : Int32) (l3 : Int32) (I : am_I) (r : am_I), k26 l1 l2 l3 I = some r → am_J G (d + 11) mX11_layAnew am_no (am_E none r) 26 [some (.inr (0, 60)), some (.inl l1), some (.inl l2), some (.inl l3)] [] I) {l1 : Int32} {l2 : Int32} {l3 : Int32} {s0 : Int32} {I : am_I} {r : am_I} (h : bX11_layAnew_101 G.2.2.2.1 k6 k26 l1 l2 l3 s0  I = some r) : am_J G (d + 11) mX11_layAnew am_no (am_E none r) 101 [some (.inr (0, 60)), some (.inl l1), some (.inl l2), some (.inl l3)] [.inl s0, .inr (0, 94)] I := by
  unfold bX11_layAnew_101 at h
  refine am_iconst (v := nI 0) dX11_layAnew_101 (by decide) ?_
  exact am_lwJ (lo' := [some (.inr (0, 60)), some (.inl l1), some (.inl l2), some (.inl l3)]) ⟨rfl, rfl, rfl, rfl, trivial⟩ (tX11_layAnew_102 hG hk6 hk26 h)
def bX11_layAnew_26 (n : Nat) (k6 : Int32 → am_I → Option (am_I)) : Nat → Int32 → Int32 → Int32 → am_I → Option (am_I)
  | 0, _, _, _, _ => none
  | fu + 1, l1, l2, l3, I => (fun k26 => if (I 0 60 1) ≤ l3 then (k6 (l1 + nI 1) I) else ((gX11_at n l3 l1 I).bind (fun q1 => am_gd (am_inb q1.1 544) (am_lt (am_up q1.2 0 78 q1.1.toNatClampNeg (-1 : Int32)) (fun I3 => (gX11_at n l3 l1 I3).bind (fun q4 => am_gd (am_inb q4.1 544) (am_lt (am_up q4.2 0 80 q4.1.toNatClampNeg (nI 0)) (fun I6 => if l2 = (-1 : Int32) then (bX11_layAnew_101 n k6 k26 l1 l2 l3 (((nI 4) * l1) + l3) I6) else (am_gd (am_inb l2 4) (if (I6 0 65 l2.toNatClampNeg) = 0 then (bX11_layAnew_101 n k6 k26 l1 l2 l3 (((nI 4) * l1) + l3) I6) else (am_gd (am_inb l3 4) (if (I6 0 65 l3.toNatClampNeg) = 0 then (bX11_layAnew_101 n k6 k26 l1 l2 l3 (((nI 4) * l1) + l3) I6) else ((gX11_at n l3 l1 I6).bind (fun q9 => am_gd (am_inb q9.1 544) (bX11_layAnew_102 n k6 k26 l1 l2 l3 (q9.2 0 76 q9.1.toNatClampNeg) (((nI 4) * l1) + l3) q9.2))))))))))))))) (bX11_layAnew_26 n k6 fu)
theorem tX11_layAnew_26 {G : am_G} (hG : am_okM G) {d : Nat} {k6 : Int32 → am_I → Option (am_I)} (hk6 : ∀ (l1 : Int32) (I : am_I) (r : am_I), k6 l1 I = some r → am_J G (d + 11) mX11_layAnew am_no (am_E none r) 6 [some (.inr (0, 60)), some (.inl l1), none, none] [] I) : ∀ {fu : Nat} {l1 : Int32} {l2 : Int32} {l3 : Int32} {I : am_I} {r : am_I}, bX11_layAnew_26 G.2.2.2.1 k6 fu l1 l2 l3 I = some r → am_J G (d + 11) mX11_layAnew am_no (am_E none r) 26 [some (.inr (0, 60)), some (.inl l1), some (.inl l2), some (.inl l3)] [] I := by
  intro fu
  induction fu with
  | zero => intro l1 l2 l3 I r h; cases h
  | succ fu ih =>
    intro l1 l2 l3 I r h
    have hk26 : ∀ (l1 : Int32) (l2 : Int32) (l3 : Int32) (I : am_I) (r : am_I), bX11_layAnew_26 G.2.2.2.1 k6 fu l1 l2 l3 I = some r → am_J G (d + 11) mX11_layAnew am_no (am_E none r) 26 [some (.inr (0, 60)), some (.inl l1), some (.inl l2), some (.inl l3)] [] I := fun l1 l2 l3 I r h => ih h
    unfold bX11_layAnew_26 at h
    generalize bX11_layAnew_26 G.2.2.2.1 k6 fu = k26 at hk26 h
    dsimp only at h
    refine am_iload_n dX11_layAnew_26 rfl ?_
    refine am_aload_n dX11_layAnew_27 rfl ?_
    refine am_get (v := .inl (I 0 60 1)) dX11_layAnew_28 fl_11_177 (hG.m0 (by decide)) rfl ?_
    refine am_icmp_ge (tgt := 161) dX11_layAnew_31 rfl (fun c => ?_) (fun c => ?_)
    · rw [if_pos c] at h
      refine am_iinc (v := l1 + nI 1) dX11_layAnew_161 rfl rfl ?_
      refine am_goto (tgt := 6) dX11_layAnew_164 rfl ?_
      exact am_lwJ (lo' := [some (.inr (0, 60)), some (.inl (l1 + nI 1)), none, none]) ⟨rfl, rfl, trivial⟩ (hk6 (l1 + nI 1) _ _ h)
    · rw [if_neg c] at h
      refine am_aload_n dX11_layAnew_34 rfl ?_
      refine am_get (v := .inr (0, 78)) dX11_layAnew_35 fl_11_54 (hG.m0 (by decide)) rfl ?_
      refine am_iload_n dX11_layAnew_38 rfl ?_
      refine am_iload_n dX11_layAnew_39 rfl ?_
      obtain ⟨q1, hq1, h⟩ := am_bd h
      refine am_callSx (as := [.inl l3, .inl l1]) (rest := [.inr (0, 78)]) dX11_layAnew_40 lkX11_at ml_X11_208 isX11_at rfl (Nat.le_of_ble_eq_true rfl) rfl (sX11_at hG hq1) ?_
      refine am_iconst (v := (-1 : Int32)) dX11_layAnew_43 (by decide) ?_
      obtain ⟨g2, h⟩ := am_gd_some h
      refine am_iastG dX11_layAnew_44 (hG.m0 (by decide)) rfl g2 (show 544 < 2 ^ 31 by decide) ?_
      obtain ⟨I3, hI3, h⟩ := am_lt_some h
      refine am_st10 hI3 ?_
      refine am_aload_n dX11_layAnew_45 rfl ?_
      refine am_get (v := .inr (0, 80)) dX11_layAnew_46 fl_11_60 (hG.m0 (by decide)) rfl ?_
      refine am_iload_n dX11_layAnew_49 rfl ?_
      refine am_iload_n dX11_layAnew_50 rfl ?_
      obtain ⟨q4, hq4, h⟩ := am_bd h
      refine am_callSx (as := [.inl l3, .inl l1]) (rest := [.inr (0, 80)]) dX11_layAnew_51 lkX11_at ml_X11_208 isX11_at rfl (Nat.le_of_ble_eq_true rfl) rfl (sX11_at hG hq4) ?_
      refine am_iconst (v := nI 0) dX11_layAnew_54 (by decide) ?_
      obtain ⟨g5, h⟩ := am_gd_some h
      refine am_zastG dX11_layAnew_55 (hG.m0 (by decide)) rfl (by decide) g5 (show 544 < 2 ^ 31 by decide) ?_
      obtain ⟨I6, hI6, h⟩ := am_lt_some h
      refine am_st10 hI6 ?_
      refine am_aload_n dX11_layAnew_56 rfl ?_
      refine am_get (v := .inr (0, 94)) dX11_layAnew_57 fl_11_102 (hG.m0 (by decide)) rfl ?_
      refine am_iconst (v := nI 4) dX11_layAnew_60 (by decide) ?_
      refine am_iload_n dX11_layAnew_61 rfl ?_
      refine am_imul dX11_layAnew_62 ?_
      refine am_iload_n dX11_layAnew_63 rfl ?_
      refine am_iadd dX11_layAnew_64 ?_
      refine am_iload_n dX11_layAnew_65 rfl ?_
      refine am_iconst (v := (-1 : Int32)) dX11_layAnew_66 (by decide) ?_
      refine am_icmp_eq (tgt := 101) dX11_layAnew_67 rfl (fun c => ?_) (fun c => ?_)
      · rw [if_pos c] at h
        exact am_lwJ (lo' := [some (.inr (0, 60)), some (.inl l1), some (.inl l2), some (.inl l3)]) ⟨rfl, rfl, rfl, rfl, trivial⟩ (tX11_layAnew_101 hG hk6 hk26 h)
      · rw [if_neg c] at h
        refine am_aload_n dX11_layAnew_70 rfl ?_
        refine am_get (v := .inr (0, 65)) dX11_layAnew_71 fl_11_13 (hG.m0 (by decide)) rfl ?_
        refine am_iload_n dX11_layAnew_74 rfl ?_
        obtain ⟨g7, h⟩ := am_gd_some h
        refine am_zaldG dX11_layAnew_75 (hG.m0 (by decide)) rfl g7 (show 4 < 2 ^ 31 by decide) ?_
        refine am_if_eq (tgt := 101) dX11_layAnew_76 rfl (fun c => ?_) (fun c => ?_)
        · rw [if_pos c] at h
          exact am_lwJ (lo' := [some (.inr (0, 60)), some (.inl l1), some (.inl l2), some (.inl l3)]) ⟨rfl, rfl, rfl, rfl, trivial⟩ (tX11_layAnew_101 hG hk6 hk26 h)
        · rw [if_neg c] at h
          refine am_aload_n dX11_layAnew_79 rfl ?_
          refine am_get (v := .inr (0, 65)) dX11_layAnew_80 fl_11_13 (hG.m0 (by decide)) rfl ?_
          refine am_iload_n dX11_layAnew_83 rfl ?_
          obtain ⟨g8, h⟩ := am_gd_some h
          refine am_zaldG dX11_layAnew_84 (hG.m0 (by decide)) rfl g8 (show 4 < 2 ^ 31 by decide) ?_
          refine am_if_eq (tgt := 101) dX11_layAnew_85 rfl (fun c => ?_) (fun c => ?_)
          · rw [if_pos c] at h
            exact am_lwJ (lo' := [some (.inr (0, 60)), some (.inl l1), some (.inl l2), some (.inl l3)]) ⟨rfl, rfl, rfl, rfl, trivial⟩ (tX11_layAnew_101 hG hk6 hk26 h)
          · rw [if_neg c] at h
            refine am_aload_n dX11_layAnew_88 rfl ?_
            refine am_get (v := .inr (0, 76)) dX11_layAnew_89 fl_11_48 (hG.m0 (by decide)) rfl ?_
            refine am_iload_n dX11_layAnew_92 rfl ?_
            refine am_iload_n dX11_layAnew_93 rfl ?_
            obtain ⟨q9, hq9, h⟩ := am_bd h
            refine am_callSx (as := [.inl l3, .inl l1]) (rest := [.inr (0, 76), .inl (((nI 4) * l1) + l3), .inr (0, 94)]) dX11_layAnew_94 lkX11_at ml_X11_208 isX11_at rfl (Nat.le_of_ble_eq_true rfl) rfl (sX11_at hG hq9) ?_
            obtain ⟨g10, h⟩ := am_gd_some h
            refine am_ialdG dX11_layAnew_97 (hG.m0 (by decide)) rfl g10 (show 544 < 2 ^ 31 by decide) ?_
            refine am_goto (tgt := 102) dX11_layAnew_98 rfl ?_
            exact am_lwJ (lo' := [some (.inr (0, 60)), some (.inl l1), some (.inl l2), some (.inl l3)]) ⟨rfl, rfl, rfl, rfl, trivial⟩ (tX11_layAnew_102 hG hk6 hk26 h)
def bX11_layAnew_6 (n : Nat) : Nat → Int32 → am_I → Option (am_I)
  | 0, _, _ => none
  | fu + 1, l1, I => (fun k6 => if (nI 136) ≤ l1 then (bX11_layAnew_169 n am_fu (nI 0) I) else ((gX11_noMaster n l1 I).bind (fun q1 => (gX11_masterOf n l1 q1).bind (fun q2 => bX11_layAnew_26 n k6 am_fu l1 q2.1 (nI 0) q2.2)))) (bX11_layAnew_6 n fu)
theorem tX11_layAnew_6 {G : am_G} (hG : am_okM G) {d : Nat} : ∀ {fu : Nat} {l1 : Int32} {I : am_I} {r : am_I}, bX11_layAnew_6 G.2.2.2.1 fu l1 I = some r → am_J G (d + 11) mX11_layAnew am_no (am_E none r) 6 [some (.inr (0, 60)), some (.inl l1), none, none] [] I := by
  intro fu
  induction fu with
  | zero => intro l1 I r h; cases h
  | succ fu ih =>
    intro l1 I r h
    have hk6 : ∀ (l1 : Int32) (I : am_I) (r : am_I), bX11_layAnew_6 G.2.2.2.1 fu l1 I = some r → am_J G (d + 11) mX11_layAnew am_no (am_E none r) 6 [some (.inr (0, 60)), some (.inl l1), none, none] [] I := fun l1 I r h => ih h
    unfold bX11_layAnew_6 at h
    generalize bX11_layAnew_6 G.2.2.2.1 fu = k6 at hk6 h
    dsimp only at h
    refine am_iload_n dX11_layAnew_6 rfl ?_
    refine am_sipush (v := nI 136) dX11_layAnew_7 (by decide) ?_
    refine am_icmp_ge (tgt := 167) dX11_layAnew_10 rfl (fun c => ?_) (fun c => ?_)
    · rw [if_pos c] at h
      refine am_iconst (v := nI 0) dX11_layAnew_167 (by decide) ?_
      refine am_istore_n dX11_layAnew_168 (by decide) ?_
      exact am_lwJ (lo' := [some (.inr (0, 60)), some (.inl (nI 0)), none, none]) ⟨rfl, rfl, trivial⟩ (tX11_layAnew_169 hG h)
    · rw [if_neg c] at h
      refine am_aload_n dX11_layAnew_13 rfl ?_
      refine am_iload_n dX11_layAnew_14 rfl ?_
      obtain ⟨q1, hq1, h⟩ := am_bd h
      refine am_callVe (i := 0) (j := 60) (as := [.inl l1]) (rest := []) dX11_layAnew_15 lkX11_noMaster ml_X11_478 imX11_noMaster seX11_noMaster rfl rfl (hG.m0 (by decide)) rfl (Nat.le_of_ble_eq_true rfl) rfl (sX11_noMaster hG hq1) ?_
      refine am_aload_n dX11_layAnew_18 rfl ?_
      refine am_iload_n dX11_layAnew_19 rfl ?_
      obtain ⟨q2, hq2, h⟩ := am_bd h
      refine am_callVx (i := 0) (j := 60) (as := [.inl l1]) (rest := []) dX11_layAnew_20 lkX11_masterOf ml_X11_226 imX11_masterOf seX11_masterOf rfl rfl (hG.m0 (by decide)) rfl (Nat.le_of_ble_eq_true rfl) rfl (sX11_masterOf hG hq2) ?_
      refine am_istore_n dX11_layAnew_23 (by decide) ?_
      refine am_iconst (v := nI 0) dX11_layAnew_24 (by decide) ?_
      refine am_istore_n dX11_layAnew_25 (by decide) ?_
      exact am_lwJ (lo' := [some (.inr (0, 60)), some (.inl l1), some (.inl q2.1), some (.inl (nI 0))]) ⟨rfl, rfl, rfl, rfl, trivial⟩ (tX11_layAnew_26 hG hk6 h)
def bX11_layAnew_0 (n : Nat) (I : am_I) : Option (am_I) := (gX11_noMessages n I).bind (fun q1 => bX11_layAnew_6 n am_fu (nI 0) q1)
theorem tX11_layAnew_0 {G : am_G} (hG : am_okM G) {d : Nat} {I : am_I} {r : am_I} (h : bX11_layAnew_0 G.2.2.2.1  I = some r) : am_J G (d + 11) mX11_layAnew am_no (am_E none r) 0 [some (.inr (0, 60)), none, none, none] [] I := by
  unfold bX11_layAnew_0 at h
  refine am_aload_n dX11_layAnew_0 rfl ?_
  obtain ⟨q1, hq1, h⟩ := am_bd h
  refine am_callVe (i := 0) (j := 60) (as := []) (rest := []) dX11_layAnew_1 lkX11_noMessages ml_X11_481 imX11_noMessages seX11_noMessages rfl rfl (hG.m0 (by decide)) rfl (Nat.le_of_ble_eq_true rfl) rfl (sX11_noMessages hG hq1) ?_
  refine am_iconst (v := nI 0) dX11_layAnew_4 (by decide) ?_
  refine am_istore_n dX11_layAnew_5 (by decide) ?_
  exact am_lwJ (lo' := [some (.inr (0, 60)), some (.inl (nI 0)), none, none]) ⟨rfl, rfl, trivial⟩ (tX11_layAnew_6 hG h)
def gX11_layAnew (n : Nat) (I : am_I) : Option (am_I) := bX11_layAnew_0 n I
theorem sX11_layAnew {G : am_G} (hG : am_okM G) {d : Nat} {I : am_I} {r : am_I} (h : gX11_layAnew G.2.2.2.1 I = some r) : am_C G (d + 11) mX11_layAnew [.inr (0, 60)] I (am_E none r) :=
  am_of (by decide +kernel) hG.nd (Nat.le_of_ble_eq_true rfl) (am_lwJ (lo' := [some (.inr (0, 60)), none, none, none]) ⟨rfl, trivial⟩ (tX11_layAnew_0 hG h))
def bX11_recover_77 (n : Nat) (k47 : Int32 → Int32 → am_I → Option (Int32 × am_I)) (l4 : Int32) (s0 : Int32) (I : am_I) : Option (Int32 × am_I) := k47 s0 (l4 + nI 1) I
theorem tX11_recover_77 {G : am_G} (hG : am_okM G) {d : Nat} {k47 : Int32 → Int32 → am_I → Option (Int32 × am_I)} (hk47 : ∀ (l3 : Int32) (l4 : Int32) (I : am_I) (r : Int32 × am_I), k47 l3 l4 I = some r → am_J G (d + 12) mX11_recover am_no (am_E (some r.1) r.2) 47 [some (.inr (0, 60)), none, none, some (.inl l3), some (.inl l4)] [] I) {l4 : Int32} {s0 : Int32} {I : am_I} {r : Int32 × am_I} (h : bX11_recover_77 G.2.2.2.1 k47 l4 s0  I = some r) : am_J G (d + 12) mX11_recover am_no (am_E (some r.1) r.2) 77 [some (.inr (0, 60)), none, none, none, some (.inl l4)] [.inl s0] I := by
  unfold bX11_recover_77 at h
  refine am_istore_n dX11_recover_77 (by decide) ?_
  refine am_iinc (v := l4 + nI 1) dX11_recover_78 rfl rfl ?_
  refine am_goto (tgt := 47) dX11_recover_81 rfl ?_
  exact am_lwJ (lo' := [some (.inr (0, 60)), none, none, some (.inl s0), some (.inl (l4 + nI 1))]) ⟨rfl, rfl, rfl, trivial⟩ (hk47 s0 (l4 + nI 1) _ _ h)
def bX11_recover_47 (n : Nat) : Nat → Int32 → Int32 → am_I → Option (Int32 × am_I)
  | 0, _, _, _ => none
  | fu + 1, l3, l4, I => (fun k47 => if (I 0 60 1) ≤ l4 then ((gX11_layAnew n I).bind (fun q1 => some (l3, q1))) else ((gX11_isDead n l4 I).bind (fun q2 => if q2.1 = 0 then (bX11_recover_77 n k47 l4 l3 q2.2) else ((gX11_play n l4 q2.2).bind (fun q3 => bX11_recover_77 n k47 l4 (l3 + q3.1) q3.2))))) (bX11_recover_47 n fu)
theorem tX11_recover_47 {G : am_G} (hG : am_okM G) {d : Nat} : ∀ {fu : Nat} {l3 : Int32} {l4 : Int32} {I : am_I} {r : Int32 × am_I}, bX11_recover_47 G.2.2.2.1 fu l3 l4 I = some r → am_J G (d + 12) mX11_recover am_no (am_E (some r.1) r.2) 47 [some (.inr (0, 60)), none, none, some (.inl l3), some (.inl l4)] [] I := by
  intro fu
  induction fu with
  | zero => intro l3 l4 I r h; cases h
  | succ fu ih =>
    intro l3 l4 I r h
    have hk47 : ∀ (l3 : Int32) (l4 : Int32) (I : am_I) (r : Int32 × am_I), bX11_recover_47 G.2.2.2.1 fu l3 l4 I = some r → am_J G (d + 12) mX11_recover am_no (am_E (some r.1) r.2) 47 [some (.inr (0, 60)), none, none, some (.inl l3), some (.inl l4)] [] I := fun l3 l4 I r h => ih h
    unfold bX11_recover_47 at h
    generalize bX11_recover_47 G.2.2.2.1 fu = k47 at hk47 h
    dsimp only at h
    refine am_iload dX11_recover_47 rfl ?_
    refine am_aload_n dX11_recover_49 rfl ?_
    refine am_get (v := .inl (I 0 60 1)) dX11_recover_50 fl_11_177 (hG.m0 (by decide)) rfl ?_
    refine am_icmp_ge (tgt := 84) dX11_recover_53 rfl (fun c => ?_) (fun c => ?_)
    · rw [if_pos c] at h
      refine am_aload_n dX11_recover_84 rfl ?_
      obtain ⟨q1, hq1, h⟩ := am_bd h
      refine am_callVe (i := 0) (j := 60) (as := []) (rest := []) dX11_recover_85 lkX11_layAnew ml_X11_490 imX11_layAnew seX11_layAnew rfl rfl (hG.m0 (by decide)) rfl (Nat.le_of_ble_eq_true rfl) rfl (sX11_layAnew hG hq1) ?_
      refine am_iload_n dX11_recover_88 rfl ?_
      cases h
      exact am_iret dX11_recover_89 rfl rfl ⟨rfl, rfl⟩
    · rw [if_neg c] at h
      refine am_aload_n dX11_recover_56 rfl ?_
      refine am_iload dX11_recover_57 rfl ?_
      obtain ⟨q2, hq2, h⟩ := am_bd h
      refine am_callVx (i := 0) (j := 60) (as := [.inl l4]) (rest := []) dX11_recover_59 lkX11_isDead ml_X11_484 imX11_isDead seX11_isDead rfl rfl (hG.m0 (by decide)) rfl (Nat.le_of_ble_eq_true rfl) rfl (sX11_isDead hG hq2) ?_
      refine am_if_eq (tgt := 76) dX11_recover_62 rfl (fun c => ?_) (fun c => ?_)
      · rw [if_pos c] at h
        refine am_iload_n dX11_recover_76 rfl ?_
        exact am_lwJ (lo' := [some (.inr (0, 60)), none, none, none, some (.inl l4)]) ⟨rfl, rfl, trivial⟩ (tX11_recover_77 hG hk47 h)
      · rw [if_neg c] at h
        refine am_iload_n dX11_recover_65 rfl ?_
        refine am_aload_n dX11_recover_66 rfl ?_
        refine am_iload dX11_recover_67 rfl ?_
        obtain ⟨q3, hq3, h⟩ := am_bd h
        refine am_callVx (i := 0) (j := 60) (as := [.inl l4]) (rest := [.inl l3]) dX11_recover_69 lkX11_play ml_X11_487 imX11_play seX11_play rfl rfl (hG.m0 (by decide)) rfl (Nat.le_of_ble_eq_true rfl) rfl (sX11_play hG hq3) ?_
        refine am_iadd dX11_recover_72 ?_
        refine am_goto (tgt := 77) dX11_recover_73 rfl ?_
        exact am_lwJ (lo' := [some (.inr (0, 60)), none, none, none, some (.inl l4)]) ⟨rfl, rfl, trivial⟩ (tX11_recover_77 hG hk47 h)
def bX11_recover_33 (n : Nat) (s0 : Int32) (s1 : Int32) (I : am_I) : Option (Int32 × am_I) := (gX11_refuse n s1 s0 (nI 0) I).bind (fun q1 => if q1.1 = 0 then (bX11_recover_47 n am_fu (nI 0) (nI 0) q1.2) else (some (nI 0, q1.2)))
theorem tX11_recover_33 {G : am_G} (hG : am_okM G) {d : Nat} {s0 : Int32} {s1 : Int32} {I : am_I} {r : Int32 × am_I} (h : bX11_recover_33 G.2.2.2.1 s0 s1  I = some r) : am_J G (d + 12) mX11_recover am_no (am_E (some r.1) r.2) 33 [some (.inr (0, 60)), none, none, none, none] [.inl s0, .inl s1, .inr (0, 60)] I := by
  unfold bX11_recover_33 at h
  refine am_iconst (v := nI 0) dX11_recover_33 (by decide) ?_
  obtain ⟨q1, hq1, h⟩ := am_bd h
  refine am_callVx (i := 0) (j := 60) (as := [.inl s1, .inl s0, .inl (nI 0)]) (rest := []) dX11_recover_34 lkX11_refuse ml_X11_441 imX11_refuse seX11_refuse rfl rfl (hG.m0 (by decide)) rfl (Nat.le_of_ble_eq_true rfl) rfl (sX11_refuse hG hq1) ?_
  refine am_if_eq (tgt := 42) dX11_recover_37 rfl (fun c => ?_) (fun c => ?_)
  · rw [if_pos c] at h
    refine am_iconst (v := nI 0) dX11_recover_42 (by decide) ?_
    refine am_istore_n dX11_recover_43 (by decide) ?_
    refine am_iconst (v := nI 0) dX11_recover_44 (by decide) ?_
    refine am_istore dX11_recover_45 (by decide) ?_
    exact am_lwJ (lo' := [some (.inr (0, 60)), none, none, some (.inl (nI 0)), some (.inl (nI 0))]) ⟨rfl, rfl, rfl, trivial⟩ (tX11_recover_47 hG h)
  · rw [if_neg c] at h
    refine am_iconst (v := nI 0) dX11_recover_40 (by decide) ?_
    cases h
    exact am_iret dX11_recover_41 rfl rfl ⟨rfl, rfl⟩
def bX11_recover_32 (n : Nat) (s0 : Int32) (I : am_I) : Option (Int32 × am_I) := bX11_recover_33 n (nI 0) s0 I
theorem tX11_recover_32 {G : am_G} (hG : am_okM G) {d : Nat} {s0 : Int32} {I : am_I} {r : Int32 × am_I} (h : bX11_recover_32 G.2.2.2.1 s0  I = some r) : am_J G (d + 12) mX11_recover am_no (am_E (some r.1) r.2) 32 [some (.inr (0, 60)), none, none, none, none] [.inl s0, .inr (0, 60)] I := by
  unfold bX11_recover_32 at h
  refine am_iconst (v := nI 0) dX11_recover_32 (by decide) ?_
  exact am_lwJ (lo' := [some (.inr (0, 60)), none, none, none, none]) ⟨rfl, trivial⟩ (tX11_recover_33 hG h)
def bX11_recover_16 (n : Nat) (l1 : Int32) (l2 : Int32) (s0 : Int32) (I : am_I) : Option (Int32 × am_I) := if l2 = 0 then (bX11_recover_32 n s0 I) else ((gX11_isDead n l1 I).bind (fun q1 => if q1.1 = 0 then (bX11_recover_33 n (nI 1) s0 q1.2) else (bX11_recover_32 n s0 q1.2)))
theorem tX11_recover_16 {G : am_G} (hG : am_okM G) {d : Nat} {l1 : Int32} {l2 : Int32} {s0 : Int32} {I : am_I} {r : Int32 × am_I} (h : bX11_recover_16 G.2.2.2.1 l1 l2 s0  I = some r) : am_J G (d + 12) mX11_recover am_no (am_E (some r.1) r.2) 16 [some (.inr (0, 60)), some (.inl l1), some (.inl l2), none, none] [.inl s0, .inr (0, 60)] I := by
  unfold bX11_recover_16 at h
  refine am_iload_n dX11_recover_16 rfl ?_
  refine am_if_eq (tgt := 32) dX11_recover_17 rfl (fun c => ?_) (fun c => ?_)
  · rw [if_pos c] at h
    exact am_lwJ (lo' := [some (.inr (0, 60)), none, none, none, none]) ⟨rfl, trivial⟩ (tX11_recover_32 hG h)
  · rw [if_neg c] at h
    refine am_aload_n dX11_recover_20 rfl ?_
    refine am_iload_n dX11_recover_21 rfl ?_
    obtain ⟨q1, hq1, h⟩ := am_bd h
    refine am_callVx (i := 0) (j := 60) (as := [.inl l1]) (rest := [.inl s0, .inr (0, 60)]) dX11_recover_22 lkX11_isDead ml_X11_484 imX11_isDead seX11_isDead rfl rfl (hG.m0 (by decide)) rfl (Nat.le_of_ble_eq_true rfl) rfl (sX11_isDead hG hq1) ?_
    refine am_if_ne (tgt := 32) dX11_recover_25 rfl (fun c => ?_) (fun c => ?_)
    · rw [if_neg c] at h
      exact am_lwJ (lo' := [some (.inr (0, 60)), none, none, none, none]) ⟨rfl, trivial⟩ (tX11_recover_32 hG h)
    · rw [if_pos c] at h
      refine am_iconst (v := nI 1) dX11_recover_28 (by decide) ?_
      refine am_goto (tgt := 33) dX11_recover_29 rfl ?_
      exact am_lwJ (lo' := [some (.inr (0, 60)), none, none, none, none]) ⟨rfl, trivial⟩ (tX11_recover_33 hG h)
def bX11_recover_0 (n : Nat) (l1 : Int32) (I : am_I) : Option (Int32 × am_I) := (gX11_isNode n l1 I).bind (fun q1 => if q1.1 = 0 then (bX11_recover_16 n l1 q1.1 (nI 1) q1.2) else (bX11_recover_16 n l1 q1.1 (nI 0) q1.2))
theorem tX11_recover_0 {G : am_G} (hG : am_okM G) {d : Nat} {l1 : Int32} {I : am_I} {r : Int32 × am_I} (h : bX11_recover_0 G.2.2.2.1 l1  I = some r) : am_J G (d + 12) mX11_recover am_no (am_E (some r.1) r.2) 0 [some (.inr (0, 60)), some (.inl l1), none, none, none] [] I := by
  unfold bX11_recover_0 at h
  refine am_aload_n dX11_recover_0 rfl ?_
  refine am_iload_n dX11_recover_1 rfl ?_
  obtain ⟨q1, hq1, h⟩ := am_bd h
  refine am_callVx (i := 0) (j := 60) (as := [.inl l1]) (rest := []) dX11_recover_2 lkX11_isNode ml_X11_434 imX11_isNode seX11_isNode rfl rfl (hG.m0 (by decide)) rfl (Nat.le_of_ble_eq_true rfl) rfl (sX11_isNode hG hq1) ?_
  refine am_istore_n dX11_recover_5 (by decide) ?_
  refine am_aload_n dX11_recover_6 rfl ?_
  refine am_iload_n dX11_recover_7 rfl ?_
  refine am_if_ne (tgt := 15) dX11_recover_8 rfl (fun c => ?_) (fun c => ?_)
  · rw [if_neg c] at h
    refine am_iconst (v := nI 0) dX11_recover_15 (by decide) ?_
    exact am_lwJ (lo' := [some (.inr (0, 60)), some (.inl l1), some (.inl q1.1), none, none]) ⟨rfl, rfl, rfl, trivial⟩ (tX11_recover_16 hG h)
  · rw [if_pos c] at h
    refine am_iconst (v := nI 1) dX11_recover_11 (by decide) ?_
    refine am_goto (tgt := 16) dX11_recover_12 rfl ?_
    exact am_lwJ (lo' := [some (.inr (0, 60)), some (.inl l1), some (.inl q1.1), none, none]) ⟨rfl, rfl, rfl, trivial⟩ (tX11_recover_16 hG h)
def gX11_recover (n : Nat) (l1 : Int32) (I : am_I) : Option (Int32 × am_I) := bX11_recover_0 n l1 I
theorem sX11_recover {G : am_G} (hG : am_okM G) {d : Nat} {l1 : Int32} {I : am_I} {r : Int32 × am_I} (h : gX11_recover G.2.2.2.1 l1 I = some r) : am_C G (d + 12) mX11_recover [.inr (0, 60), .inl l1] I (am_E (some r.1) r.2) :=
  am_of (by decide +kernel) hG.nd (Nat.le_of_ble_eq_true rfl) (am_lwJ (lo' := [some (.inr (0, 60)), some (.inl l1), none, none, none]) ⟨rfl, rfl, trivial⟩ (tX11_recover_0 hG h))
def bX11_start_77 (n : Nat) (l1 : Int32) (s0 : Int32) (s1 : Int32) (I : am_I) : Option (am_I) := (gX11_refuse n s1 s0 (nI 0) I).bind (fun q1 => if q1.1 = 0 then (am_gd (am_inb l1 4) (am_lt (am_up q1.2 0 65 l1.toNatClampNeg (nI 1)) (fun I3 => am_gd (am_inb l1 4) (am_lt (am_up I3 0 66 l1.toNatClampNeg (nI 1)) (fun I5 => am_gd (am_inb l1 4) (am_lt (am_up I5 0 71 l1.toNatClampNeg (nI 0)) (fun I7 => (gX11_noneOf n l1 I7).bind (fun q8 => (gX11_layAnew n q8).bind (fun q9 => some q9))))))))) else (some q1.2))
theorem tX11_start_77 {G : am_G} (hG : am_okM G) {d : Nat} {l1 : Int32} {s0 : Int32} {s1 : Int32} {I : am_I} {r : am_I} (h : bX11_start_77 G.2.2.2.1 l1 s0 s1  I = some r) : am_J G (d + 12) mX11_start am_no (am_E none r) 77 [some (.inr (0, 60)), some (.inl l1), none, none, none] [.inl s0, .inl s1, .inr (0, 60)] I := by
  unfold bX11_start_77 at h
  refine am_iconst (v := nI 0) dX11_start_77 (by decide) ?_
  obtain ⟨q1, hq1, h⟩ := am_bd h
  refine am_callVx (i := 0) (j := 60) (as := [.inl s1, .inl s0, .inl (nI 0)]) (rest := []) dX11_start_78 lkX11_refuse ml_X11_441 imX11_refuse seX11_refuse rfl rfl (hG.m0 (by decide)) rfl (Nat.le_of_ble_eq_true rfl) rfl (sX11_refuse hG hq1) ?_
  refine am_if_eq (tgt := 85) dX11_start_81 rfl (fun c => ?_) (fun c => ?_)
  · rw [if_pos c] at h
    refine am_aload_n dX11_start_85 rfl ?_
    refine am_get (v := .inr (0, 65)) dX11_start_86 fl_11_13 (hG.m0 (by decide)) rfl ?_
    refine am_iload_n dX11_start_89 rfl ?_
    refine am_iconst (v := nI 1) dX11_start_90 (by decide) ?_
    obtain ⟨g2, h⟩ := am_gd_some h
    refine am_zastG dX11_start_91 (hG.m0 (by decide)) rfl (by decide) g2 (show 4 < 2 ^ 31 by decide) ?_
    obtain ⟨I3, hI3, h⟩ := am_lt_some h
    refine am_st10 hI3 ?_
    refine am_aload_n dX11_start_92 rfl ?_
    refine am_get (v := .inr (0, 66)) dX11_start_93 fl_11_17 (hG.m0 (by decide)) rfl ?_
    refine am_iload_n dX11_start_96 rfl ?_
    refine am_iconst (v := nI 1) dX11_start_97 (by decide) ?_
    obtain ⟨g4, h⟩ := am_gd_some h
    refine am_zastG dX11_start_98 (hG.m0 (by decide)) rfl (by decide) g4 (show 4 < 2 ^ 31 by decide) ?_
    obtain ⟨I5, hI5, h⟩ := am_lt_some h
    refine am_st10 hI5 ?_
    refine am_aload_n dX11_start_99 rfl ?_
    refine am_get (v := .inr (0, 71)) dX11_start_100 fl_11_33 (hG.m0 (by decide)) rfl ?_
    refine am_iload_n dX11_start_103 rfl ?_
    refine am_iconst (v := nI 0) dX11_start_104 (by decide) ?_
    obtain ⟨g6, h⟩ := am_gd_some h
    refine am_iastG dX11_start_105 (hG.m0 (by decide)) rfl g6 (show 4 < 2 ^ 31 by decide) ?_
    obtain ⟨I7, hI7, h⟩ := am_lt_some h
    refine am_st10 hI7 ?_
    refine am_aload_n dX11_start_106 rfl ?_
    refine am_iload_n dX11_start_107 rfl ?_
    obtain ⟨q8, hq8, h⟩ := am_bd h
    refine am_callVe (i := 0) (j := 60) (as := [.inl l1]) (rest := []) dX11_start_108 lkX11_noneOf ml_X11_475 imX11_noneOf seX11_noneOf rfl rfl (hG.m0 (by decide)) rfl (Nat.le_of_ble_eq_true rfl) rfl (sX11_noneOf hG hq8) ?_
    refine am_aload_n dX11_start_111 rfl ?_
    obtain ⟨q9, hq9, h⟩ := am_bd h
    refine am_callVe (i := 0) (j := 60) (as := []) (rest := []) dX11_start_112 lkX11_layAnew ml_X11_490 imX11_layAnew seX11_layAnew rfl rfl (hG.m0 (by decide)) rfl (Nat.le_of_ble_eq_true rfl) rfl (sX11_layAnew hG hq9) ?_
    cases h
    exact am_vret dX11_start_115 rfl ⟨rfl, rfl⟩
  · rw [if_neg c] at h
    cases h
    exact am_vret dX11_start_84 rfl ⟨rfl, rfl⟩
def bX11_start_76 (n : Nat) (l1 : Int32) (s0 : Int32) (I : am_I) : Option (am_I) := bX11_start_77 n l1 (nI 0) s0 I
theorem tX11_start_76 {G : am_G} (hG : am_okM G) {d : Nat} {l1 : Int32} {s0 : Int32} {I : am_I} {r : am_I} (h : bX11_start_76 G.2.2.2.1 l1 s0  I = some r) : am_J G (d + 12) mX11_start am_no (am_E none r) 76 [some (.inr (0, 60)), some (.inl l1), none, none, none] [.inl s0, .inr (0, 60)] I := by
  unfold bX11_start_76 at h
  refine am_iconst (v := nI 0) dX11_start_76 (by decide) ?_
  exact am_lwJ (lo' := [some (.inr (0, 60)), some (.inl l1), none, none, none]) ⟨rfl, rfl, trivial⟩ (tX11_start_77 hG h)
def bX11_start_72 (n : Nat) (l1 : Int32) (s0 : Int32) (I : am_I) : Option (am_I) := bX11_start_77 n l1 (nI 1) s0 I
theorem tX11_start_72 {G : am_G} (hG : am_okM G) {d : Nat} {l1 : Int32} {s0 : Int32} {I : am_I} {r : am_I} (h : bX11_start_72 G.2.2.2.1 l1 s0  I = some r) : am_J G (d + 12) mX11_start am_no (am_E none r) 72 [some (.inr (0, 60)), some (.inl l1), none, none, none] [.inl s0, .inr (0, 60)] I := by
  unfold bX11_start_72 at h
  refine am_iconst (v := nI 1) dX11_start_72 (by decide) ?_
  refine am_goto (tgt := 77) dX11_start_73 rfl ?_
  exact am_lwJ (lo' := [some (.inr (0, 60)), some (.inl l1), none, none, none]) ⟨rfl, rfl, trivial⟩ (tX11_start_77 hG h)
def bX11_start_55 (n : Nat) (l1 : Int32) (l2 : Int32) (l3 : Int32) (s0 : Int32) (I : am_I) : Option (am_I) := if l2 = 0 then (bX11_start_76 n l1 s0 I) else (am_gd (am_inb l1 4) (if (I 0 65 l1.toNatClampNeg) = 0 then (if l3 = 0 then (bX11_start_76 n l1 s0 I) else (bX11_start_72 n l1 s0 I)) else (bX11_start_72 n l1 s0 I)))
theorem tX11_start_55 {G : am_G} (hG : am_okM G) {d : Nat} {l1 : Int32} {l2 : Int32} {l3 : Int32} {s0 : Int32} {I : am_I} {r : am_I} (h : bX11_start_55 G.2.2.2.1 l1 l2 l3 s0  I = some r) : am_J G (d + 12) mX11_start am_no (am_E none r) 55 [some (.inr (0, 60)), some (.inl l1), some (.inl l2), some (.inl l3), none] [.inl s0, .inr (0, 60)] I := by
  unfold bX11_start_55 at h
  refine am_iload_n dX11_start_55 rfl ?_
  refine am_if_eq (tgt := 76) dX11_start_56 rfl (fun c => ?_) (fun c => ?_)
  · rw [if_pos c] at h
    exact am_lwJ (lo' := [some (.inr (0, 60)), some (.inl l1), none, none, none]) ⟨rfl, rfl, trivial⟩ (tX11_start_76 hG h)
  · rw [if_neg c] at h
    refine am_aload_n dX11_start_59 rfl ?_
    refine am_get (v := .inr (0, 65)) dX11_start_60 fl_11_13 (hG.m0 (by decide)) rfl ?_
    refine am_iload_n dX11_start_63 rfl ?_
    obtain ⟨g1, h⟩ := am_gd_some h
    refine am_zaldG dX11_start_64 (hG.m0 (by decide)) rfl g1 (show 4 < 2 ^ 31 by decide) ?_
    refine am_if_ne (tgt := 72) dX11_start_65 rfl (fun c => ?_) (fun c => ?_)
    · rw [if_neg c] at h
      exact am_lwJ (lo' := [some (.inr (0, 60)), some (.inl l1), none, none, none]) ⟨rfl, rfl, trivial⟩ (tX11_start_72 hG h)
    · rw [if_pos c] at h
      refine am_iload_n dX11_start_68 rfl ?_
      refine am_if_eq (tgt := 76) dX11_start_69 rfl (fun c => ?_) (fun c => ?_)
      · rw [if_pos c] at h
        exact am_lwJ (lo' := [some (.inr (0, 60)), some (.inl l1), none, none, none]) ⟨rfl, rfl, trivial⟩ (tX11_start_76 hG h)
      · rw [if_neg c] at h
        exact am_lwJ (lo' := [some (.inr (0, 60)), some (.inl l1), none, none, none]) ⟨rfl, rfl, trivial⟩ (tX11_start_72 hG h)
def bX11_start_38 (n : Nat) (k11 : Int32 → Int32 → Int32 → Int32 → am_I → Option (am_I)) (l1 : Int32) (l2 : Int32) (l4 : Int32) (s0 : Int32) (I : am_I) : Option (am_I) := k11 l1 l2 s0 (l4 + nI 1) I
theorem tX11_start_38 {G : am_G} (hG : am_okM G) {d : Nat} {k11 : Int32 → Int32 → Int32 → Int32 → am_I → Option (am_I)} (hk11 : ∀ (l1 : Int32) (l2 : Int32) (l3 : Int32) (l4 : Int32) (I : am_I) (r : am_I), k11 l1 l2 l3 l4 I = some r → am_J G (d + 12) mX11_start am_no (am_E none r) 11 [some (.inr (0, 60)), some (.inl l1), some (.inl l2), some (.inl l3), some (.inl l4)] [] I) {l1 : Int32} {l2 : Int32} {l4 : Int32} {s0 : Int32} {I : am_I} {r : am_I} (h : bX11_start_38 G.2.2.2.1 k11 l1 l2 l4 s0  I = some r) : am_J G (d + 12) mX11_start am_no (am_E none r) 38 [some (.inr (0, 60)), some (.inl l1), some (.inl l2), none, some (.inl l4)] [.inl s0] I := by
  unfold bX11_start_38 at h
  refine am_istore_n dX11_start_38 (by decide) ?_
  refine am_iinc (v := l4 + nI 1) dX11_start_39 rfl rfl ?_
  refine am_goto (tgt := 11) dX11_start_42 rfl ?_
  exact am_lwJ (lo' := [some (.inr (0, 60)), some (.inl l1), some (.inl l2), some (.inl s0), some (.inl (l4 + nI 1))]) ⟨rfl, rfl, rfl, rfl, rfl, trivial⟩ (hk11 l1 l2 s0 (l4 + nI 1) _ _ h)
def bX11_start_33 (n : Nat) (k11 : Int32 → Int32 → Int32 → Int32 → am_I → Option (am_I)) (l1 : Int32) (l2 : Int32) (l4 : Int32) (I : am_I) : Option (am_I) := bX11_start_38 n k11 l1 l2 l4 (nI 1) I
theorem tX11_start_33 {G : am_G} (hG : am_okM G) {d : Nat} {k11 : Int32 → Int32 → Int32 → Int32 → am_I → Option (am_I)} (hk11 : ∀ (l1 : Int32) (l2 : Int32) (l3 : Int32) (l4 : Int32) (I : am_I) (r : am_I), k11 l1 l2 l3 l4 I = some r → am_J G (d + 12) mX11_start am_no (am_E none r) 11 [some (.inr (0, 60)), some (.inl l1), some (.inl l2), some (.inl l3), some (.inl l4)] [] I) {l1 : Int32} {l2 : Int32} {l4 : Int32} {I : am_I} {r : am_I} (h : bX11_start_33 G.2.2.2.1 k11 l1 l2 l4  I = some r) : am_J G (d + 12) mX11_start am_no (am_E none r) 33 [some (.inr (0, 60)), some (.inl l1), some (.inl l2), none, some (.inl l4)] [] I := by
  unfold bX11_start_33 at h
  refine am_iconst (v := nI 1) dX11_start_33 (by decide) ?_
  refine am_goto (tgt := 38) dX11_start_34 rfl ?_
  exact am_lwJ (lo' := [some (.inr (0, 60)), some (.inl l1), some (.inl l2), none, some (.inl l4)]) ⟨rfl, rfl, rfl, rfl, trivial⟩ (tX11_start_38 hG hk11 h)
def bX11_start_11 (n : Nat) : Nat → Int32 → Int32 → Int32 → Int32 → am_I → Option (am_I)
  | 0, _, _, _, _, _ => none
  | fu + 1, l1, l2, l3, l4, I => (fun k11 => if (I 0 60 1) ≤ l4 then (if l2 = 0 then (bX11_start_55 n l1 l2 l3 (nI 1) I) else (bX11_start_55 n l1 l2 l3 (nI 0) I)) else (if l3 = 0 then ((gX11_isDead n l4 I).bind (fun q1 => if q1.1 = 0 then (bX11_start_38 n k11 l1 l2 l4 (nI 0) q1.2) else (bX11_start_33 n k11 l1 l2 l4 q1.2))) else (bX11_start_33 n k11 l1 l2 l4 I))) (bX11_start_11 n fu)
theorem tX11_start_11 {G : am_G} (hG : am_okM G) {d : Nat} : ∀ {fu : Nat} {l1 : Int32} {l2 : Int32} {l3 : Int32} {l4 : Int32} {I : am_I} {r : am_I}, bX11_start_11 G.2.2.2.1 fu l1 l2 l3 l4 I = some r → am_J G (d + 12) mX11_start am_no (am_E none r) 11 [some (.inr (0, 60)), some (.inl l1), some (.inl l2), some (.inl l3), some (.inl l4)] [] I := by
  intro fu
  induction fu with
  | zero => intro l1 l2 l3 l4 I r h; cases h
  | succ fu ih =>
    intro l1 l2 l3 l4 I r h
    have hk11 : ∀ (l1 : Int32) (l2 : Int32) (l3 : Int32) (l4 : Int32) (I : am_I) (r : am_I), bX11_start_11 G.2.2.2.1 fu l1 l2 l3 l4 I = some r → am_J G (d + 12) mX11_start am_no (am_E none r) 11 [some (.inr (0, 60)), some (.inl l1), some (.inl l2), some (.inl l3), some (.inl l4)] [] I := fun l1 l2 l3 l4 I r h => ih h
    unfold bX11_start_11 at h
    generalize bX11_start_11 G.2.2.2.1 fu = k11 at hk11 h
    dsimp only at h
    refine am_iload dX11_start_11 rfl ?_
    refine am_aload_n dX11_start_13 rfl ?_
    refine am_get (v := .inl (I 0 60 1)) dX11_start_14 fl_11_177 (hG.m0 (by decide)) rfl ?_
    refine am_icmp_ge (tgt := 45) dX11_start_17 rfl (fun c => ?_) (fun c => ?_)
    · rw [if_pos c] at h
      refine am_aload_n dX11_start_45 rfl ?_
      refine am_iload_n dX11_start_46 rfl ?_
      refine am_if_ne (tgt := 54) dX11_start_47 rfl (fun c => ?_) (fun c => ?_)
      · rw [if_neg c] at h
        refine am_iconst (v := nI 0) dX11_start_54 (by decide) ?_
        exact am_lwJ (lo' := [some (.inr (0, 60)), some (.inl l1), some (.inl l2), some (.inl l3), none]) ⟨rfl, rfl, rfl, rfl, trivial⟩ (tX11_start_55 hG h)
      · rw [if_pos c] at h
        refine am_iconst (v := nI 1) dX11_start_50 (by decide) ?_
        refine am_goto (tgt := 55) dX11_start_51 rfl ?_
        exact am_lwJ (lo' := [some (.inr (0, 60)), some (.inl l1), some (.inl l2), some (.inl l3), none]) ⟨rfl, rfl, rfl, rfl, trivial⟩ (tX11_start_55 hG h)
    · rw [if_neg c] at h
      refine am_iload_n dX11_start_20 rfl ?_
      refine am_if_ne (tgt := 33) dX11_start_21 rfl (fun c => ?_) (fun c => ?_)
      · rw [if_neg c] at h
        exact am_lwJ (lo' := [some (.inr (0, 60)), some (.inl l1), some (.inl l2), none, some (.inl l4)]) ⟨rfl, rfl, rfl, rfl, trivial⟩ (tX11_start_33 hG hk11 h)
      · rw [if_pos c] at h
        refine am_aload_n dX11_start_24 rfl ?_
        refine am_iload dX11_start_25 rfl ?_
        obtain ⟨q1, hq1, h⟩ := am_bd h
        refine am_callVx (i := 0) (j := 60) (as := [.inl l4]) (rest := []) dX11_start_27 lkX11_isDead ml_X11_484 imX11_isDead seX11_isDead rfl rfl (hG.m0 (by decide)) rfl (Nat.le_of_ble_eq_true rfl) rfl (sX11_isDead hG hq1) ?_
        refine am_if_eq (tgt := 37) dX11_start_30 rfl (fun c => ?_) (fun c => ?_)
        · rw [if_pos c] at h
          refine am_iconst (v := nI 0) dX11_start_37 (by decide) ?_
          exact am_lwJ (lo' := [some (.inr (0, 60)), some (.inl l1), some (.inl l2), none, some (.inl l4)]) ⟨rfl, rfl, rfl, rfl, trivial⟩ (tX11_start_38 hG hk11 h)
        · rw [if_neg c] at h
          exact am_lwJ (lo' := [some (.inr (0, 60)), some (.inl l1), some (.inl l2), none, some (.inl l4)]) ⟨rfl, rfl, rfl, rfl, trivial⟩ (tX11_start_33 hG hk11 h)
def bX11_start_0 (n : Nat) (l1 : Int32) (I : am_I) : Option (am_I) := (gX11_isNode n l1 I).bind (fun q1 => bX11_start_11 n am_fu l1 q1.1 (nI 0) (nI 0) q1.2)
theorem tX11_start_0 {G : am_G} (hG : am_okM G) {d : Nat} {l1 : Int32} {I : am_I} {r : am_I} (h : bX11_start_0 G.2.2.2.1 l1  I = some r) : am_J G (d + 12) mX11_start am_no (am_E none r) 0 [some (.inr (0, 60)), some (.inl l1), none, none, none] [] I := by
  unfold bX11_start_0 at h
  refine am_aload_n dX11_start_0 rfl ?_
  refine am_iload_n dX11_start_1 rfl ?_
  obtain ⟨q1, hq1, h⟩ := am_bd h
  refine am_callVx (i := 0) (j := 60) (as := [.inl l1]) (rest := []) dX11_start_2 lkX11_isNode ml_X11_434 imX11_isNode seX11_isNode rfl rfl (hG.m0 (by decide)) rfl (Nat.le_of_ble_eq_true rfl) rfl (sX11_isNode hG hq1) ?_
  refine am_istore_n dX11_start_5 (by decide) ?_
  refine am_iconst (v := nI 0) dX11_start_6 (by decide) ?_
  refine am_istore_n dX11_start_7 (by decide) ?_
  refine am_iconst (v := nI 0) dX11_start_8 (by decide) ?_
  refine am_istore dX11_start_9 (by decide) ?_
  exact am_lwJ (lo' := [some (.inr (0, 60)), some (.inl l1), some (.inl q1.1), some (.inl (nI 0)), some (.inl (nI 0))]) ⟨rfl, rfl, rfl, rfl, rfl, trivial⟩ (tX11_start_11 hG h)
def gX11_start (n : Nat) (l1 : Int32) (I : am_I) : Option (am_I) := bX11_start_0 n l1 I
theorem sX11_start {G : am_G} (hG : am_okM G) {d : Nat} {l1 : Int32} {I : am_I} {r : am_I} (h : gX11_start G.2.2.2.1 l1 I = some r) : am_C G (d + 12) mX11_start [.inr (0, 60), .inl l1] I (am_E none r) :=
  am_of (by decide +kernel) hG.nd (Nat.le_of_ble_eq_true rfl) (am_lwJ (lo' := [some (.inr (0, 60)), some (.inl l1), none, none, none]) ⟨rfl, rfl, trivial⟩ (tX11_start_0 hG h))
def bX11_result_101 (n : Nat) (s0 : Int32) (I : am_I) : Option (Int32 × am_I) := some (s0, I)
theorem tX11_result_101 {G : am_G} (hG : am_okM G) {d : Nat} {s0 : Int32} {I : am_I} {r : Int32 × am_I} (h : bX11_result_101 G.2.2.2.1 s0  I = some r) : am_J G (d + 2) mX11_result am_no (am_E (some r.1) r.2) 101 [none, none, none] [.inl s0] I := by
  unfold bX11_result_101 at h
  cases h
  exact am_iret dX11_result_101 rfl rfl ⟨rfl, rfl⟩
def bX11_result_91 (n : Nat) (l1 : Int32) (I : am_I) : Option (Int32 × am_I) := am_gd (am_inb l1 4) (bX11_result_101 n (I 0 88 l1.toNatClampNeg) I)
theorem tX11_result_91 {G : am_G} (hG : am_okM G) {d : Nat} {l1 : Int32} {I : am_I} {r : Int32 × am_I} (h : bX11_result_91 G.2.2.2.1 l1  I = some r) : am_J G (d + 2) mX11_result am_no (am_E (some r.1) r.2) 91 [some (.inr (0, 60)), some (.inl l1), none] [] I := by
  unfold bX11_result_91 at h
  refine am_aload_n dX11_result_91 rfl ?_
  refine am_get (v := .inr (0, 88)) dX11_result_92 fl_11_84 (hG.m0 (by decide)) rfl ?_
  refine am_iload_n dX11_result_95 rfl ?_
  obtain ⟨g1, h⟩ := am_gd_some h
  refine am_ialdG dX11_result_96 (hG.m0 (by decide)) rfl g1 (show 4 < 2 ^ 31 by decide) ?_
  refine am_goto (tgt := 101) dX11_result_97 rfl ?_
  exact am_lwJ (lo' := [none, none, none]) trivial (tX11_result_101 hG h)
def bX11_result_132 (n : Nat) (s0 : Int32) (I : am_I) : Option (Int32 × am_I) := some (s0, I)
theorem tX11_result_132 {G : am_G} (hG : am_okM G) {d : Nat} {s0 : Int32} {I : am_I} {r : Int32 × am_I} (h : bX11_result_132 G.2.2.2.1 s0  I = some r) : am_J G (d + 2) mX11_result am_no (am_E (some r.1) r.2) 132 [none, none, none] [.inl s0] I := by
  unfold bX11_result_132 at h
  cases h
  exact am_iret dX11_result_132 rfl rfl ⟨rfl, rfl⟩
def bX11_result_23 (n : Nat) (l1 : Int32) (l2 : Int32) (s0 : Int32) (I : am_I) : Option (Int32 × am_I) := (gX11_refuse n s0 (nI 0) (nI 0) I).bind (fun q1 => if q1.1 = 0 then (if l2 = nI 0 then (am_gd (am_inb l1 4) (some (q1.2 0 87 l1.toNatClampNeg, q1.2))) else (if l2 = nI 1 then (am_gd (am_inb l1 4) (if (q1.2 0 87 l1.toNatClampNeg) = (nI 2) then (bX11_result_91 n l1 q1.2) else (am_gd (am_inb l1 4) (if (q1.2 0 87 l1.toNatClampNeg) = (nI 3) then (bX11_result_91 n l1 q1.2) else (bX11_result_101 n (nI 0) q1.2))))) else (if l2 = nI 2 then (am_gd (am_inb l1 4) (if (q1.2 0 87 l1.toNatClampNeg) = (nI 1) then (am_gd (am_inb l1 4) (bX11_result_132 n ((q1.2 0 60 2) - (q1.2 0 89 l1.toNatClampNeg)) q1.2)) else (am_gd (am_inb l1 4) (bX11_result_132 n (q1.2 0 90 l1.toNatClampNeg) q1.2)))) else (if l2 = nI 3 then (am_gd (am_inb l1 4) (some (q1.2 0 91 l1.toNatClampNeg, q1.2))) else (am_gd (am_inb l1 4) (some (q1.2 0 92 l1.toNatClampNeg, q1.2))))))) else (some (nI 0, q1.2)))
theorem tX11_result_23 {G : am_G} (hG : am_okM G) {d : Nat} {l1 : Int32} {l2 : Int32} {s0 : Int32} {I : am_I} {r : Int32 × am_I} (h : bX11_result_23 G.2.2.2.1 l1 l2 s0  I = some r) : am_J G (d + 2) mX11_result am_no (am_E (some r.1) r.2) 23 [some (.inr (0, 60)), some (.inl l1), some (.inl l2)] [.inl s0, .inr (0, 60)] I := by
  unfold bX11_result_23 at h
  refine am_iconst (v := nI 0) dX11_result_23 (by decide) ?_
  refine am_iconst (v := nI 0) dX11_result_24 (by decide) ?_
  obtain ⟨q1, hq1, h⟩ := am_bd h
  refine am_callVx (i := 0) (j := 60) (as := [.inl s0, .inl (nI 0), .inl (nI 0)]) (rest := []) dX11_result_25 lkX11_refuse ml_X11_441 imX11_refuse seX11_refuse rfl rfl (hG.m0 (by decide)) rfl (Nat.le_of_ble_eq_true rfl) rfl (sX11_refuse hG hq1) ?_
  refine am_if_eq (tgt := 33) dX11_result_28 rfl (fun c => ?_) (fun c => ?_)
  · rw [if_pos c] at h
    refine am_iload_n dX11_result_33 rfl ?_
    rcases am_sw 3 l2 with ⟨m, hm, hx⟩ | hx
    · match m, hm, hx with
      | 0, _, hx =>
        rw [if_pos hx] at h
        refine am_tabIn (off := 30) (tgt := 64) dX11_result_34 (by rw [hx]; decide) (by rw [hx]; decide) (by rw [hx]; rfl) rfl ?_
        refine am_aload_n dX11_result_64 rfl ?_
        refine am_get (v := .inr (0, 87)) dX11_result_65 fl_11_81 (hG.m0 (by decide)) rfl ?_
        refine am_iload_n dX11_result_68 rfl ?_
        obtain ⟨g2, h⟩ := am_gd_some h
        refine am_ialdG dX11_result_69 (hG.m0 (by decide)) rfl g2 (show 4 < 2 ^ 31 by decide) ?_
        cases h
        exact am_iret dX11_result_70 rfl rfl ⟨rfl, rfl⟩
      | 1, _, hx =>
        rw [if_neg (show ¬ l2 = nI 0 by rw [hx]; decide)] at h
        rw [if_pos hx] at h
        refine am_tabIn (off := 37) (tgt := 71) dX11_result_34 (by rw [hx]; decide) (by rw [hx]; decide) (by rw [hx]; rfl) rfl ?_
        refine am_aload_n dX11_result_71 rfl ?_
        refine am_get (v := .inr (0, 87)) dX11_result_72 fl_11_81 (hG.m0 (by decide)) rfl ?_
        refine am_iload_n dX11_result_75 rfl ?_
        obtain ⟨g3, h⟩ := am_gd_some h
        refine am_ialdG dX11_result_76 (hG.m0 (by decide)) rfl g3 (show 4 < 2 ^ 31 by decide) ?_
        refine am_iconst (v := nI 2) dX11_result_77 (by decide) ?_
        refine am_icmp_eq (tgt := 91) dX11_result_78 rfl (fun c => ?_) (fun c => ?_)
        · rw [if_pos c] at h
          exact am_lwJ (lo' := [some (.inr (0, 60)), some (.inl l1), none]) ⟨rfl, rfl, trivial⟩ (tX11_result_91 hG h)
        · rw [if_neg c] at h
          refine am_aload_n dX11_result_81 rfl ?_
          refine am_get (v := .inr (0, 87)) dX11_result_82 fl_11_81 (hG.m0 (by decide)) rfl ?_
          refine am_iload_n dX11_result_85 rfl ?_
          obtain ⟨g4, h⟩ := am_gd_some h
          refine am_ialdG dX11_result_86 (hG.m0 (by decide)) rfl g4 (show 4 < 2 ^ 31 by decide) ?_
          refine am_iconst (v := nI 3) dX11_result_87 (by decide) ?_
          refine am_icmp_ne (tgt := 100) dX11_result_88 rfl (fun c => ?_) (fun c => ?_)
          · rw [if_neg c] at h
            refine am_iconst (v := nI 0) dX11_result_100 (by decide) ?_
            exact am_lwJ (lo' := [none, none, none]) trivial (tX11_result_101 hG h)
          · rw [if_pos c] at h
            exact am_lwJ (lo' := [some (.inr (0, 60)), some (.inl l1), none]) ⟨rfl, rfl, trivial⟩ (tX11_result_91 hG h)
      | 2, _, hx =>
        rw [if_neg (show ¬ l2 = nI 0 by rw [hx]; decide), if_neg (show ¬ l2 = nI 1 by rw [hx]; decide)] at h
        rw [if_pos hx] at h
        refine am_tabIn (off := 68) (tgt := 102) dX11_result_34 (by rw [hx]; decide) (by rw [hx]; decide) (by rw [hx]; rfl) rfl ?_
        refine am_aload_n dX11_result_102 rfl ?_
        refine am_get (v := .inr (0, 87)) dX11_result_103 fl_11_81 (hG.m0 (by decide)) rfl ?_
        refine am_iload_n dX11_result_106 rfl ?_
        obtain ⟨g5, h⟩ := am_gd_some h
        refine am_ialdG dX11_result_107 (hG.m0 (by decide)) rfl g5 (show 4 < 2 ^ 31 by decide) ?_
        refine am_iconst (v := nI 1) dX11_result_108 (by decide) ?_
        refine am_icmp_ne (tgt := 126) dX11_result_109 rfl (fun c => ?_) (fun c => ?_)
        · rw [if_neg c] at h
          refine am_aload_n dX11_result_126 rfl ?_
          refine am_get (v := .inr (0, 90)) dX11_result_127 fl_11_90 (hG.m0 (by decide)) rfl ?_
          refine am_iload_n dX11_result_130 rfl ?_
          obtain ⟨g6, h⟩ := am_gd_some h
          refine am_ialdG dX11_result_131 (hG.m0 (by decide)) rfl g6 (show 4 < 2 ^ 31 by decide) ?_
          exact am_lwJ (lo' := [none, none, none]) trivial (tX11_result_132 hG h)
        · rw [if_pos c] at h
          refine am_aload_n dX11_result_112 rfl ?_
          refine am_get (v := .inl (q1.2 0 60 2)) dX11_result_113 fl_11_194 (hG.m0 (by decide)) rfl ?_
          refine am_aload_n dX11_result_116 rfl ?_
          refine am_get (v := .inr (0, 89)) dX11_result_117 fl_11_87 (hG.m0 (by decide)) rfl ?_
          refine am_iload_n dX11_result_120 rfl ?_
          obtain ⟨g7, h⟩ := am_gd_some h
          refine am_ialdG dX11_result_121 (hG.m0 (by decide)) rfl g7 (show 4 < 2 ^ 31 by decide) ?_
          refine am_isub dX11_result_122 ?_
          refine am_goto (tgt := 132) dX11_result_123 rfl ?_
          exact am_lwJ (lo' := [none, none, none]) trivial (tX11_result_132 hG h)
      | 3, _, hx =>
        rw [if_neg (show ¬ l2 = nI 0 by rw [hx]; decide), if_neg (show ¬ l2 = nI 1 by rw [hx]; decide), if_neg (show ¬ l2 = nI 2 by rw [hx]; decide)] at h
        rw [if_pos hx] at h
        refine am_tabIn (off := 99) (tgt := 133) dX11_result_34 (by rw [hx]; decide) (by rw [hx]; decide) (by rw [hx]; rfl) rfl ?_
        refine am_aload_n dX11_result_133 rfl ?_
        refine am_get (v := .inr (0, 91)) dX11_result_134 fl_11_93 (hG.m0 (by decide)) rfl ?_
        refine am_iload_n dX11_result_137 rfl ?_
        obtain ⟨g8, h⟩ := am_gd_some h
        refine am_ialdG dX11_result_138 (hG.m0 (by decide)) rfl g8 (show 4 < 2 ^ 31 by decide) ?_
        cases h
        exact am_iret dX11_result_139 rfl rfl ⟨rfl, rfl⟩
      | m + 4, hm, _ => exact absurd hm (by omega)
    · rw [if_neg (am_swd (k := 0) hx (by decide) (by decide)), if_neg (am_swd (k := 1) hx (by decide) (by decide)), if_neg (am_swd (k := 2) hx (by decide) (by decide)), if_neg (am_swd (k := 3) hx (by decide) (by decide))] at h
      refine am_tabOut (tgt := 140) dX11_result_34 (by omega) rfl ?_
      refine am_aload_n dX11_result_140 rfl ?_
      refine am_get (v := .inr (0, 92)) dX11_result_141 fl_11_96 (hG.m0 (by decide)) rfl ?_
      refine am_iload_n dX11_result_144 rfl ?_
      obtain ⟨g9, h⟩ := am_gd_some h
      refine am_ialdG dX11_result_145 (hG.m0 (by decide)) rfl g9 (show 4 < 2 ^ 31 by decide) ?_
      cases h
      exact am_iret dX11_result_146 rfl rfl ⟨rfl, rfl⟩
  · rw [if_neg c] at h
    refine am_iconst (v := nI 0) dX11_result_31 (by decide) ?_
    cases h
    exact am_iret dX11_result_32 rfl rfl ⟨rfl, rfl⟩
def bX11_result_18 (n : Nat) (l1 : Int32) (l2 : Int32) (I : am_I) : Option (Int32 × am_I) := bX11_result_23 n l1 l2 (nI 1) I
theorem tX11_result_18 {G : am_G} (hG : am_okM G) {d : Nat} {l1 : Int32} {l2 : Int32} {I : am_I} {r : Int32 × am_I} (h : bX11_result_18 G.2.2.2.1 l1 l2  I = some r) : am_J G (d + 2) mX11_result am_no (am_E (some r.1) r.2) 18 [some (.inr (0, 60)), some (.inl l1), some (.inl l2)] [.inr (0, 60)] I := by
  unfold bX11_result_18 at h
  refine am_iconst (v := nI 1) dX11_result_18 (by decide) ?_
  refine am_goto (tgt := 23) dX11_result_19 rfl ?_
  exact am_lwJ (lo' := [some (.inr (0, 60)), some (.inl l1), some (.inl l2)]) ⟨rfl, rfl, rfl, trivial⟩ (tX11_result_23 hG h)
def bX11_result_0 (n : Nat) (l1 : Int32) (l2 : Int32) (I : am_I) : Option (Int32 × am_I) := (gX11_isNode n l1 I).bind (fun q1 => if q1.1 = 0 then (bX11_result_18 n l1 l2 q1.2) else ((gX11_in n l2 (nI 0) (nI 4) q1.2).bind (fun q2 => if q2.1 = 0 then (bX11_result_18 n l1 l2 q2.2) else (bX11_result_23 n l1 l2 (nI 0) q2.2))))
theorem tX11_result_0 {G : am_G} (hG : am_okM G) {d : Nat} {l1 : Int32} {l2 : Int32} {I : am_I} {r : Int32 × am_I} (h : bX11_result_0 G.2.2.2.1 l1 l2  I = some r) : am_J G (d + 2) mX11_result am_no (am_E (some r.1) r.2) 0 [some (.inr (0, 60)), some (.inl l1), some (.inl l2)] [] I := by
  unfold bX11_result_0 at h
  refine am_aload_n dX11_result_0 rfl ?_
  refine am_aload_n dX11_result_1 rfl ?_
  refine am_iload_n dX11_result_2 rfl ?_
  obtain ⟨q1, hq1, h⟩ := am_bd h
  refine am_callVx (i := 0) (j := 60) (as := [.inl l1]) (rest := [.inr (0, 60)]) dX11_result_3 lkX11_isNode ml_X11_434 imX11_isNode seX11_isNode rfl rfl (hG.m0 (by decide)) rfl (Nat.le_of_ble_eq_true rfl) rfl (sX11_isNode hG hq1) ?_
  refine am_if_eq (tgt := 18) dX11_result_6 rfl (fun c => ?_) (fun c => ?_)
  · rw [if_pos c] at h
    exact am_lwJ (lo' := [some (.inr (0, 60)), some (.inl l1), some (.inl l2)]) ⟨rfl, rfl, rfl, trivial⟩ (tX11_result_18 hG h)
  · rw [if_neg c] at h
    refine am_iload_n dX11_result_9 rfl ?_
    refine am_iconst (v := nI 0) dX11_result_10 (by decide) ?_
    refine am_iconst (v := nI 4) dX11_result_11 (by decide) ?_
    obtain ⟨q2, hq2, h⟩ := am_bd h
    refine am_callSx (as := [.inl l2, .inl (nI 0), .inl (nI 4)]) (rest := [.inr (0, 60)]) dX11_result_12 lkX11_in ml_X11_243 isX11_in rfl (Nat.le_of_ble_eq_true rfl) rfl (sX11_in hG hq2) ?_
    refine am_if_ne (tgt := 22) dX11_result_15 rfl (fun c => ?_) (fun c => ?_)
    · rw [if_neg c] at h
      refine am_iconst (v := nI 0) dX11_result_22 (by decide) ?_
      exact am_lwJ (lo' := [some (.inr (0, 60)), some (.inl l1), some (.inl l2)]) ⟨rfl, rfl, rfl, trivial⟩ (tX11_result_23 hG h)
    · rw [if_pos c] at h
      exact am_lwJ (lo' := [some (.inr (0, 60)), some (.inl l1), some (.inl l2)]) ⟨rfl, rfl, rfl, trivial⟩ (tX11_result_18 hG h)
def gX11_result (n : Nat) (l1 : Int32) (l2 : Int32) (I : am_I) : Option (Int32 × am_I) := bX11_result_0 n l1 l2 I
theorem sX11_result {G : am_G} (hG : am_okM G) {d : Nat} {l1 : Int32} {l2 : Int32} {I : am_I} {r : Int32 × am_I} (h : gX11_result G.2.2.2.1 l1 l2 I = some r) : am_C G (d + 2) mX11_result [.inr (0, 60), .inl l1, .inl l2] I (am_E (some r.1) r.2) :=
  am_of (by decide +kernel) hG.nd (Nat.le_of_ble_eq_true rfl) (am_lwJ (lo' := [some (.inr (0, 60)), some (.inl l1), some (.inl l2)]) ⟨rfl, rfl, rfl, trivial⟩ (tX11_result_0 hG h))
def bX11_history_41 (n : Nat) (l1 : Int32) (l2 : Int32) (s0 : Int32) (s1 : Int32) (I : am_I) : Option (Int32 × am_I) := (gX11_refuse n s1 s0 (nI 0) I).bind (fun q1 => if q1.1 = 0 then (am_gd (am_inb (((nI 10) * l1) + l2) 4000) (some (q1.2 0 125 ((((nI 10) * l1) + l2).toNatClampNeg), q1.2))) else (some (nI 0, q1.2)))
theorem tX11_history_41 {G : am_G} (hG : am_okM G) {d : Nat} {l1 : Int32} {l2 : Int32} {s0 : Int32} {s1 : Int32} {I : am_I} {r : Int32 × am_I} (h : bX11_history_41 G.2.2.2.1 l1 l2 s0 s1  I = some r) : am_J G (d + 1) mX11_history am_no (am_E (some r.1) r.2) 41 [some (.inr (0, 60)), some (.inl l1), some (.inl l2), none] [.inl s0, .inl s1, .inr (0, 60)] I := by
  unfold bX11_history_41 at h
  refine am_iconst (v := nI 0) dX11_history_41 (by decide) ?_
  obtain ⟨q1, hq1, h⟩ := am_bd h
  refine am_callVx (i := 0) (j := 60) (as := [.inl s1, .inl s0, .inl (nI 0)]) (rest := []) dX11_history_42 lkX11_refuse ml_X11_441 imX11_refuse seX11_refuse rfl rfl (hG.m0 (by decide)) rfl (Nat.le_of_ble_eq_true rfl) rfl (sX11_refuse hG hq1) ?_
  refine am_if_eq (tgt := 50) dX11_history_45 rfl (fun c => ?_) (fun c => ?_)
  · rw [if_pos c] at h
    refine am_aload_n dX11_history_50 rfl ?_
    refine am_get (v := .inr (0, 125)) dX11_history_51 fl_11_156 (hG.m0 (by decide)) rfl ?_
    refine am_bipush (v := nI 10) dX11_history_54 (by decide) ?_
    refine am_iload_n dX11_history_56 rfl ?_
    refine am_imul dX11_history_57 ?_
    refine am_iload_n dX11_history_58 rfl ?_
    refine am_iadd dX11_history_59 ?_
    obtain ⟨g2, h⟩ := am_gd_some h
    refine am_ialdG dX11_history_60 (hG.m0 (by decide)) rfl g2 (show 4000 < 2 ^ 31 by decide) ?_
    cases h
    exact am_iret dX11_history_61 rfl rfl ⟨rfl, rfl⟩
  · rw [if_neg c] at h
    refine am_iconst (v := nI 0) dX11_history_48 (by decide) ?_
    cases h
    exact am_iret dX11_history_49 rfl rfl ⟨rfl, rfl⟩
def bX11_history_40 (n : Nat) (l1 : Int32) (l2 : Int32) (s0 : Int32) (I : am_I) : Option (Int32 × am_I) := bX11_history_41 n l1 l2 (nI 0) s0 I
theorem tX11_history_40 {G : am_G} (hG : am_okM G) {d : Nat} {l1 : Int32} {l2 : Int32} {s0 : Int32} {I : am_I} {r : Int32 × am_I} (h : bX11_history_40 G.2.2.2.1 l1 l2 s0  I = some r) : am_J G (d + 1) mX11_history am_no (am_E (some r.1) r.2) 40 [some (.inr (0, 60)), some (.inl l1), some (.inl l2), none] [.inl s0, .inr (0, 60)] I := by
  unfold bX11_history_40 at h
  refine am_iconst (v := nI 0) dX11_history_40 (by decide) ?_
  exact am_lwJ (lo' := [some (.inr (0, 60)), some (.inl l1), some (.inl l2), none]) ⟨rfl, rfl, rfl, trivial⟩ (tX11_history_41 hG h)
def bX11_history_22 (n : Nat) (l1 : Int32) (l2 : Int32) (l3 : Int32) (s0 : Int32) (I : am_I) : Option (Int32 × am_I) := if l3 = 0 then (bX11_history_40 n l1 l2 s0 I) else ((gX11_in n l2 (nI 0) (nI 9) I).bind (fun q1 => if q1.1 = 0 then (bX11_history_41 n l1 l2 (nI 1) s0 q1.2) else (bX11_history_40 n l1 l2 s0 q1.2)))
theorem tX11_history_22 {G : am_G} (hG : am_okM G) {d : Nat} {l1 : Int32} {l2 : Int32} {l3 : Int32} {s0 : Int32} {I : am_I} {r : Int32 × am_I} (h : bX11_history_22 G.2.2.2.1 l1 l2 l3 s0  I = some r) : am_J G (d + 1) mX11_history am_no (am_E (some r.1) r.2) 22 [some (.inr (0, 60)), some (.inl l1), some (.inl l2), some (.inl l3)] [.inl s0, .inr (0, 60)] I := by
  unfold bX11_history_22 at h
  refine am_iload_n dX11_history_22 rfl ?_
  refine am_if_eq (tgt := 40) dX11_history_23 rfl (fun c => ?_) (fun c => ?_)
  · rw [if_pos c] at h
    exact am_lwJ (lo' := [some (.inr (0, 60)), some (.inl l1), some (.inl l2), none]) ⟨rfl, rfl, rfl, trivial⟩ (tX11_history_40 hG h)
  · rw [if_neg c] at h
    refine am_iload_n dX11_history_26 rfl ?_
    refine am_iconst (v := nI 0) dX11_history_27 (by decide) ?_
    refine am_bipush (v := nI 9) dX11_history_28 (by decide) ?_
    obtain ⟨q1, hq1, h⟩ := am_bd h
    refine am_callSx (as := [.inl l2, .inl (nI 0), .inl (nI 9)]) (rest := [.inl s0, .inr (0, 60)]) dX11_history_30 lkX11_in ml_X11_243 isX11_in rfl (Nat.le_of_ble_eq_true rfl) rfl (sX11_in hG hq1) ?_
    refine am_if_ne (tgt := 40) dX11_history_33 rfl (fun c => ?_) (fun c => ?_)
    · rw [if_neg c] at h
      exact am_lwJ (lo' := [some (.inr (0, 60)), some (.inl l1), some (.inl l2), none]) ⟨rfl, rfl, rfl, trivial⟩ (tX11_history_40 hG h)
    · rw [if_pos c] at h
      refine am_iconst (v := nI 1) dX11_history_36 (by decide) ?_
      refine am_goto (tgt := 41) dX11_history_37 rfl ?_
      exact am_lwJ (lo' := [some (.inr (0, 60)), some (.inl l1), some (.inl l2), none]) ⟨rfl, rfl, rfl, trivial⟩ (tX11_history_41 hG h)
def bX11_history_0 (n : Nat) (l1 : Int32) (l2 : Int32) (I : am_I) : Option (Int32 × am_I) := (gX11_in n l1 (nI 0) ((I 0 60 63) - (nI 1)) I).bind (fun q1 => if q1.1 = 0 then (bX11_history_22 n l1 l2 q1.1 (nI 1) q1.2) else (bX11_history_22 n l1 l2 q1.1 (nI 0) q1.2))
theorem tX11_history_0 {G : am_G} (hG : am_okM G) {d : Nat} {l1 : Int32} {l2 : Int32} {I : am_I} {r : Int32 × am_I} (h : bX11_history_0 G.2.2.2.1 l1 l2  I = some r) : am_J G (d + 1) mX11_history am_no (am_E (some r.1) r.2) 0 [some (.inr (0, 60)), some (.inl l1), some (.inl l2), none] [] I := by
  unfold bX11_history_0 at h
  refine am_iload_n dX11_history_0 rfl ?_
  refine am_iconst (v := nI 0) dX11_history_1 (by decide) ?_
  refine am_aload_n dX11_history_2 rfl ?_
  refine am_get (v := .inl (I 0 60 63)) dX11_history_3 fl_11_274 (hG.m0 (by decide)) rfl ?_
  refine am_iconst (v := nI 1) dX11_history_6 (by decide) ?_
  refine am_isub dX11_history_7 ?_
  obtain ⟨q1, hq1, h⟩ := am_bd h
  refine am_callSx (as := [.inl l1, .inl (nI 0), .inl ((I 0 60 63) - (nI 1))]) (rest := []) dX11_history_8 lkX11_in ml_X11_243 isX11_in rfl (Nat.le_of_ble_eq_true rfl) rfl (sX11_in hG hq1) ?_
  refine am_istore_n dX11_history_11 (by decide) ?_
  refine am_aload_n dX11_history_12 rfl ?_
  refine am_iload_n dX11_history_13 rfl ?_
  refine am_if_ne (tgt := 21) dX11_history_14 rfl (fun c => ?_) (fun c => ?_)
  · rw [if_neg c] at h
    refine am_iconst (v := nI 0) dX11_history_21 (by decide) ?_
    exact am_lwJ (lo' := [some (.inr (0, 60)), some (.inl l1), some (.inl l2), some (.inl q1.1)]) ⟨rfl, rfl, rfl, rfl, trivial⟩ (tX11_history_22 hG h)
  · rw [if_pos c] at h
    refine am_iconst (v := nI 1) dX11_history_17 (by decide) ?_
    refine am_goto (tgt := 22) dX11_history_18 rfl ?_
    exact am_lwJ (lo' := [some (.inr (0, 60)), some (.inl l1), some (.inl l2), some (.inl q1.1)]) ⟨rfl, rfl, rfl, rfl, trivial⟩ (tX11_history_22 hG h)
def gX11_history (n : Nat) (l1 : Int32) (l2 : Int32) (I : am_I) : Option (Int32 × am_I) := bX11_history_0 n l1 l2 I
theorem sX11_history {G : am_G} (hG : am_okM G) {d : Nat} {l1 : Int32} {l2 : Int32} {I : am_I} {r : Int32 × am_I} (h : gX11_history G.2.2.2.1 l1 l2 I = some r) : am_C G (d + 1) mX11_history [.inr (0, 60), .inl l1, .inl l2] I (am_E (some r.1) r.2) :=
  am_of (by decide +kernel) hG.nd (Nat.le_of_ble_eq_true rfl) (am_lwJ (lo' := [some (.inr (0, 60)), some (.inl l1), some (.inl l2), none]) ⟨rfl, rfl, rfl, trivial⟩ (tX11_history_0 hG h))
def bX11_isWord_26 (n : Nat) (s0 : Int32) (I : am_I) : Option (Int32 × am_I) := am_gd (am_01 s0) (some (s0, I))
theorem tX11_isWord_26 {G : am_G} (hG : am_okM G) {d : Nat} {s0 : Int32} {I : am_I} {r : Int32 × am_I} (h : bX11_isWord_26 G.2.2.2.1 s0  I = some r) : am_J G (d + 1) mX11_isWord am_no (am_E (some r.1) r.2) 26 [none, none] [.inl s0] I := by
  unfold bX11_isWord_26 at h
  obtain ⟨g1, h⟩ := am_gd_some h
  cases h
  exact am_iret dX11_isWord_26 rfl (am_nz (am_01_of g1)).1 ⟨rfl, rfl⟩
def bX11_isWord_25 (n : Nat) (I : am_I) : Option (Int32 × am_I) := bX11_isWord_26 n (nI 0) I
theorem tX11_isWord_25 {G : am_G} (hG : am_okM G) {d : Nat} {I : am_I} {r : Int32 × am_I} (h : bX11_isWord_25 G.2.2.2.1  I = some r) : am_J G (d + 1) mX11_isWord am_no (am_E (some r.1) r.2) 25 [none, none] [] I := by
  unfold bX11_isWord_25 at h
  refine am_iconst (v := nI 0) dX11_isWord_25 (by decide) ?_
  exact am_lwJ (lo' := [none, none]) trivial (tX11_isWord_26 hG h)
def bX11_isWord_0 (n : Nat) (l0 : Int32) (l1 : Int32) (I : am_I) : Option (Int32 × am_I) := (gX11_in n l0 (nI 0) (nI 639) I).bind (fun q1 => if q1.1 = 0 then (bX11_isWord_25 n q1.2) else ((gX11_in n l1 (nI 0) (nI 15) q1.2).bind (fun q2 => if q2.1 = 0 then (bX11_isWord_25 n q2.2) else (bX11_isWord_26 n (nI 1) q2.2))))
theorem tX11_isWord_0 {G : am_G} (hG : am_okM G) {d : Nat} {l0 : Int32} {l1 : Int32} {I : am_I} {r : Int32 × am_I} (h : bX11_isWord_0 G.2.2.2.1 l0 l1  I = some r) : am_J G (d + 1) mX11_isWord am_no (am_E (some r.1) r.2) 0 [some (.inl l0), some (.inl l1)] [] I := by
  unfold bX11_isWord_0 at h
  refine am_iload_n dX11_isWord_0 rfl ?_
  refine am_iconst (v := nI 0) dX11_isWord_1 (by decide) ?_
  refine am_sipush (v := nI 639) dX11_isWord_2 (by decide) ?_
  obtain ⟨q1, hq1, h⟩ := am_bd h
  refine am_callSx (as := [.inl l0, .inl (nI 0), .inl (nI 639)]) (rest := []) dX11_isWord_5 lkX11_in ml_X11_243 isX11_in rfl (Nat.le_of_ble_eq_true rfl) rfl (sX11_in hG hq1) ?_
  refine am_if_eq (tgt := 25) dX11_isWord_8 rfl (fun c => ?_) (fun c => ?_)
  · rw [if_pos c] at h
    exact am_lwJ (lo' := [none, none]) trivial (tX11_isWord_25 hG h)
  · rw [if_neg c] at h
    refine am_iload_n dX11_isWord_11 rfl ?_
    refine am_iconst (v := nI 0) dX11_isWord_12 (by decide) ?_
    refine am_bipush (v := nI 15) dX11_isWord_13 (by decide) ?_
    obtain ⟨q2, hq2, h⟩ := am_bd h
    refine am_callSx (as := [.inl l1, .inl (nI 0), .inl (nI 15)]) (rest := []) dX11_isWord_15 lkX11_in ml_X11_243 isX11_in rfl (Nat.le_of_ble_eq_true rfl) rfl (sX11_in hG hq2) ?_
    refine am_if_eq (tgt := 25) dX11_isWord_18 rfl (fun c => ?_) (fun c => ?_)
    · rw [if_pos c] at h
      exact am_lwJ (lo' := [none, none]) trivial (tX11_isWord_25 hG h)
    · rw [if_neg c] at h
      refine am_iconst (v := nI 1) dX11_isWord_21 (by decide) ?_
      refine am_goto (tgt := 26) dX11_isWord_22 rfl ?_
      exact am_lwJ (lo' := [none, none]) trivial (tX11_isWord_26 hG h)
def gX11_isWord (n : Nat) (l0 : Int32) (l1 : Int32) (I : am_I) : Option (Int32 × am_I) := bX11_isWord_0 n l0 l1 I
theorem sX11_isWord {G : am_G} (hG : am_okM G) {d : Nat} {l0 : Int32} {l1 : Int32} {I : am_I} {r : Int32 × am_I} (h : gX11_isWord G.2.2.2.1 l0 l1 I = some r) : am_C G (d + 1) mX11_isWord [.inl l0, .inl l1] I (am_E (some r.1) r.2) :=
  am_of (by decide +kernel) hG.nd (Nat.le_of_ble_eq_true rfl) (am_lwJ (lo' := [some (.inl l0), some (.inl l1)]) ⟨rfl, rfl, trivial⟩ (tX11_isWord_0 hG h))
def bX11_word_37 (n : Nat) (s0 : Int32) (I : am_I) : Option (Int32 × am_I) := some (s0, I)
theorem tX11_word_37 {G : am_G} (hG : am_okM G) {d : Nat} {s0 : Int32} {I : am_I} {r : Int32 × am_I} (h : bX11_word_37 G.2.2.2.1 s0  I = some r) : am_J G (d + 2) mX11_word am_no (am_E (some r.1) r.2) 37 [none, none, none] [.inl s0] I := by
  unfold bX11_word_37 at h
  cases h
  exact am_iret dX11_word_37 rfl rfl ⟨rfl, rfl⟩
def bX11_word_14 (n : Nat) (l1 : Int32) (l2 : Int32) (s0 : Int32) (I : am_I) : Option (Int32 × am_I) := (gX11_refuse n s0 (nI 0) (nI 0) I).bind (fun q1 => if q1.1 = 0 then (am_gd (am_inb (((nI 16) * l1) + l2) 10240) (bX11_word_37 n (q1.2 0 64 ((((nI 16) * l1) + l2).toNatClampNeg)) q1.2)) else (bX11_word_37 n (nI 0) q1.2))
theorem tX11_word_14 {G : am_G} (hG : am_okM G) {d : Nat} {l1 : Int32} {l2 : Int32} {s0 : Int32} {I : am_I} {r : Int32 × am_I} (h : bX11_word_14 G.2.2.2.1 l1 l2 s0  I = some r) : am_J G (d + 2) mX11_word am_no (am_E (some r.1) r.2) 14 [some (.inr (0, 60)), some (.inl l1), some (.inl l2)] [.inl s0, .inr (0, 60)] I := by
  unfold bX11_word_14 at h
  refine am_iconst (v := nI 0) dX11_word_14 (by decide) ?_
  refine am_iconst (v := nI 0) dX11_word_15 (by decide) ?_
  obtain ⟨q1, hq1, h⟩ := am_bd h
  refine am_callVx (i := 0) (j := 60) (as := [.inl s0, .inl (nI 0), .inl (nI 0)]) (rest := []) dX11_word_16 lkX11_refuse ml_X11_441 imX11_refuse seX11_refuse rfl rfl (hG.m0 (by decide)) rfl (Nat.le_of_ble_eq_true rfl) rfl (sX11_refuse hG hq1) ?_
  refine am_if_eq (tgt := 26) dX11_word_19 rfl (fun c => ?_) (fun c => ?_)
  · rw [if_pos c] at h
    refine am_aload_n dX11_word_26 rfl ?_
    refine am_get (v := .inr (0, 64)) dX11_word_27 fl_11_7 (hG.m0 (by decide)) rfl ?_
    refine am_bipush (v := nI 16) dX11_word_30 (by decide) ?_
    refine am_iload_n dX11_word_32 rfl ?_
    refine am_imul dX11_word_33 ?_
    refine am_iload_n dX11_word_34 rfl ?_
    refine am_iadd dX11_word_35 ?_
    obtain ⟨g2, h⟩ := am_gd_some h
    refine am_ialdG dX11_word_36 (hG.m0 (by decide)) rfl g2 (show 10240 < 2 ^ 31 by decide) ?_
    exact am_lwJ (lo' := [none, none, none]) trivial (tX11_word_37 hG h)
  · rw [if_neg c] at h
    refine am_iconst (v := nI 0) dX11_word_22 (by decide) ?_
    refine am_goto (tgt := 37) dX11_word_23 rfl ?_
    exact am_lwJ (lo' := [none, none, none]) trivial (tX11_word_37 hG h)
def bX11_word_0 (n : Nat) (l1 : Int32) (l2 : Int32) (I : am_I) : Option (Int32 × am_I) := (gX11_isWord n l1 l2 I).bind (fun q1 => if q1.1 = 0 then (bX11_word_14 n l1 l2 (nI 1) q1.2) else (bX11_word_14 n l1 l2 (nI 0) q1.2))
theorem tX11_word_0 {G : am_G} (hG : am_okM G) {d : Nat} {l1 : Int32} {l2 : Int32} {I : am_I} {r : Int32 × am_I} (h : bX11_word_0 G.2.2.2.1 l1 l2  I = some r) : am_J G (d + 2) mX11_word am_no (am_E (some r.1) r.2) 0 [some (.inr (0, 60)), some (.inl l1), some (.inl l2)] [] I := by
  unfold bX11_word_0 at h
  refine am_aload_n dX11_word_0 rfl ?_
  refine am_iload_n dX11_word_1 rfl ?_
  refine am_iload_n dX11_word_2 rfl ?_
  obtain ⟨q1, hq1, h⟩ := am_bd h
  refine am_callSx (as := [.inl l1, .inl l2]) (rest := [.inr (0, 60)]) dX11_word_3 lkX11_isWord ml_X11_493 isX11_isWord rfl (Nat.le_of_ble_eq_true rfl) rfl (sX11_isWord hG hq1) ?_
  refine am_if_ne (tgt := 13) dX11_word_6 rfl (fun c => ?_) (fun c => ?_)
  · rw [if_neg c] at h
    refine am_iconst (v := nI 0) dX11_word_13 (by decide) ?_
    exact am_lwJ (lo' := [some (.inr (0, 60)), some (.inl l1), some (.inl l2)]) ⟨rfl, rfl, rfl, trivial⟩ (tX11_word_14 hG h)
  · rw [if_pos c] at h
    refine am_iconst (v := nI 1) dX11_word_9 (by decide) ?_
    refine am_goto (tgt := 14) dX11_word_10 rfl ?_
    exact am_lwJ (lo' := [some (.inr (0, 60)), some (.inl l1), some (.inl l2)]) ⟨rfl, rfl, rfl, trivial⟩ (tX11_word_14 hG h)
def gX11_word (n : Nat) (l1 : Int32) (l2 : Int32) (I : am_I) : Option (Int32 × am_I) := bX11_word_0 n l1 l2 I
theorem sX11_word {G : am_G} (hG : am_okM G) {d : Nat} {l1 : Int32} {l2 : Int32} {I : am_I} {r : Int32 × am_I} (h : gX11_word G.2.2.2.1 l1 l2 I = some r) : am_C G (d + 2) mX11_word [.inr (0, 60), .inl l1, .inl l2] I (am_E (some r.1) r.2) :=
  am_of (by decide +kernel) hG.nd (Nat.le_of_ble_eq_true rfl) (am_lwJ (lo' := [some (.inr (0, 60)), some (.inl l1), some (.inl l2)]) ⟨rfl, rfl, rfl, trivial⟩ (tX11_word_0 hG h))
def bX11_cached_84 (n : Nat) (l1 : Int32) (l2 : Int32) (l3 : Int32) (s0 : Int32) (s1 : Int32) (s2 : Int32) (I : am_I) : Option (Int32 × am_I) := (gX11_refuse n s2 s1 s0 I).bind (fun q1 => if q1.1 = 0 then (am_gd (am_inb (((nI 16) * (((nI 640) * l1) + l2)) + l3) 40960) (some (q1.2 0 67 ((((nI 16) * (((nI 640) * l1) + l2)) + l3).toNatClampNeg), q1.2))) else (some (nI 0, q1.2)))
theorem tX11_cached_84 {G : am_G} (hG : am_okM G) {d : Nat} {l1 : Int32} {l2 : Int32} {l3 : Int32} {s0 : Int32} {s1 : Int32} {s2 : Int32} {I : am_I} {r : Int32 × am_I} (h : bX11_cached_84 G.2.2.2.1 l1 l2 l3 s0 s1 s2  I = some r) : am_J G (d + 2) mX11_cached am_no (am_E (some r.1) r.2) 84 [some (.inr (0, 60)), some (.inl l1), some (.inl l2), some (.inl l3), none, none] [.inl s0, .inl s1, .inl s2, .inr (0, 60)] I := by
  unfold bX11_cached_84 at h
  obtain ⟨q1, hq1, h⟩ := am_bd h
  refine am_callVx (i := 0) (j := 60) (as := [.inl s2, .inl s1, .inl s0]) (rest := []) dX11_cached_84 lkX11_refuse ml_X11_441 imX11_refuse seX11_refuse rfl rfl (hG.m0 (by decide)) rfl (Nat.le_of_ble_eq_true rfl) rfl (sX11_refuse hG hq1) ?_
  refine am_if_eq (tgt := 92) dX11_cached_87 rfl (fun c => ?_) (fun c => ?_)
  · rw [if_pos c] at h
    refine am_aload_n dX11_cached_92 rfl ?_
    refine am_get (v := .inr (0, 67)) dX11_cached_93 fl_11_21 (hG.m0 (by decide)) rfl ?_
    refine am_bipush (v := nI 16) dX11_cached_96 (by decide) ?_
    refine am_sipush (v := nI 640) dX11_cached_98 (by decide) ?_
    refine am_iload_n dX11_cached_101 rfl ?_
    refine am_imul dX11_cached_102 ?_
    refine am_iload_n dX11_cached_103 rfl ?_
    refine am_iadd dX11_cached_104 ?_
    refine am_imul dX11_cached_105 ?_
    refine am_iload_n dX11_cached_106 rfl ?_
    refine am_iadd dX11_cached_107 ?_
    obtain ⟨g2, h⟩ := am_gd_some h
    refine am_ialdG dX11_cached_108 (hG.m0 (by decide)) rfl g2 (show 40960 < 2 ^ 31 by decide) ?_
    cases h
    exact am_iret dX11_cached_109 rfl rfl ⟨rfl, rfl⟩
  · rw [if_neg c] at h
    refine am_iconst (v := nI 0) dX11_cached_90 (by decide) ?_
    cases h
    exact am_iret dX11_cached_91 rfl rfl ⟨rfl, rfl⟩
def bX11_cached_83 (n : Nat) (l1 : Int32) (l2 : Int32) (l3 : Int32) (s0 : Int32) (s1 : Int32) (I : am_I) : Option (Int32 × am_I) := bX11_cached_84 n l1 l2 l3 (nI 0) s0 s1 I
theorem tX11_cached_83 {G : am_G} (hG : am_okM G) {d : Nat} {l1 : Int32} {l2 : Int32} {l3 : Int32} {s0 : Int32} {s1 : Int32} {I : am_I} {r : Int32 × am_I} (h : bX11_cached_83 G.2.2.2.1 l1 l2 l3 s0 s1  I = some r) : am_J G (d + 2) mX11_cached am_no (am_E (some r.1) r.2) 83 [some (.inr (0, 60)), some (.inl l1), some (.inl l2), some (.inl l3), none, none] [.inl s0, .inl s1, .inr (0, 60)] I := by
  unfold bX11_cached_83 at h
  refine am_iconst (v := nI 0) dX11_cached_83 (by decide) ?_
  exact am_lwJ (lo' := [some (.inr (0, 60)), some (.inl l1), some (.inl l2), some (.inl l3), none, none]) ⟨rfl, rfl, rfl, rfl, trivial⟩ (tX11_cached_84 hG h)
def bX11_cached_75 (n : Nat) (l1 : Int32) (l2 : Int32) (l3 : Int32) (s0 : Int32) (s2 : Int32) (s3 : Int32) (I : am_I) : Option (Int32 × am_I) := am_gd (am_inb s0 2560) (if (I 0 68 s0.toNatClampNeg) = 0 then (bX11_cached_84 n l1 l2 l3 (nI 1) s2 s3 I) else (bX11_cached_83 n l1 l2 l3 s2 s3 I))
theorem tX11_cached_75 {G : am_G} (hG : am_okM G) {d : Nat} {l1 : Int32} {l2 : Int32} {l3 : Int32} {s0 : Int32} {s2 : Int32} {s3 : Int32} {I : am_I} {r : Int32 × am_I} (h : bX11_cached_75 G.2.2.2.1 l1 l2 l3 s0 s2 s3  I = some r) : am_J G (d + 2) mX11_cached am_no (am_E (some r.1) r.2) 75 [some (.inr (0, 60)), some (.inl l1), some (.inl l2), some (.inl l3), none, none] [.inl s0, .inr (0, 68), .inl s2, .inl s3, .inr (0, 60)] I := by
  unfold bX11_cached_75 at h
  obtain ⟨g1, h⟩ := am_gd_some h
  refine am_zaldG dX11_cached_75 (hG.m0 (by decide)) rfl g1 (show 2560 < 2 ^ 31 by decide) ?_
  refine am_if_ne (tgt := 83) dX11_cached_76 rfl (fun c => ?_) (fun c => ?_)
  · rw [if_neg c] at h
    exact am_lwJ (lo' := [some (.inr (0, 60)), some (.inl l1), some (.inl l2), some (.inl l3), none, none]) ⟨rfl, rfl, rfl, rfl, trivial⟩ (tX11_cached_83 hG h)
  · rw [if_pos c] at h
    refine am_iconst (v := nI 1) dX11_cached_79 (by decide) ?_
    refine am_goto (tgt := 84) dX11_cached_80 rfl ?_
    exact am_lwJ (lo' := [some (.inr (0, 60)), some (.inl l1), some (.inl l2), some (.inl l3), none, none]) ⟨rfl, rfl, rfl, rfl, trivial⟩ (tX11_cached_84 hG h)
def bX11_cached_74 (n : Nat) (l1 : Int32) (l2 : Int32) (l3 : Int32) (s1 : Int32) (s2 : Int32) (I : am_I) : Option (Int32 × am_I) := bX11_cached_75 n l1 l2 l3 (nI 0) s1 s2 I
theorem tX11_cached_74 {G : am_G} (hG : am_okM G) {d : Nat} {l1 : Int32} {l2 : Int32} {l3 : Int32} {s1 : Int32} {s2 : Int32} {I : am_I} {r : Int32 × am_I} (h : bX11_cached_74 G.2.2.2.1 l1 l2 l3 s1 s2  I = some r) : am_J G (d + 2) mX11_cached am_no (am_E (some r.1) r.2) 74 [some (.inr (0, 60)), some (.inl l1), some (.inl l2), some (.inl l3), none, none] [.inr (0, 68), .inl s1, .inl s2, .inr (0, 60)] I := by
  unfold bX11_cached_74 at h
  refine am_iconst (v := nI 0) dX11_cached_74 (by decide) ?_
  exact am_lwJ (lo' := [some (.inr (0, 60)), some (.inl l1), some (.inl l2), some (.inl l3), none, none]) ⟨rfl, rfl, rfl, rfl, trivial⟩ (tX11_cached_75 hG h)
def bX11_cached_40 (n : Nat) (l1 : Int32) (l2 : Int32) (l3 : Int32) (l4 : Int32) (l5 : Int32) (s0 : Int32) (s1 : Int32) (I : am_I) : Option (Int32 × am_I) := if l4 = 0 then (bX11_cached_83 n l1 l2 l3 s0 s1 I) else (if l5 = 0 then (bX11_cached_83 n l1 l2 l3 s0 s1 I) else (if l4 = 0 then (bX11_cached_74 n l1 l2 l3 s0 s1 I) else (if l5 = 0 then (bX11_cached_74 n l1 l2 l3 s0 s1 I) else (bX11_cached_75 n l1 l2 l3 (((nI 640) * l1) + l2) s0 s1 I))))
theorem tX11_cached_40 {G : am_G} (hG : am_okM G) {d : Nat} {l1 : Int32} {l2 : Int32} {l3 : Int32} {l4 : Int32} {l5 : Int32} {s0 : Int32} {s1 : Int32} {I : am_I} {r : Int32 × am_I} (h : bX11_cached_40 G.2.2.2.1 l1 l2 l3 l4 l5 s0 s1  I = some r) : am_J G (d + 2) mX11_cached am_no (am_E (some r.1) r.2) 40 [some (.inr (0, 60)), some (.inl l1), some (.inl l2), some (.inl l3), some (.inl l4), some (.inl l5)] [.inl s0, .inl s1, .inr (0, 60)] I := by
  unfold bX11_cached_40 at h
  refine am_iload dX11_cached_40 rfl ?_
  refine am_if_eq (tgt := 83) dX11_cached_42 rfl (fun c => ?_) (fun c => ?_)
  · rw [if_pos c] at h
    exact am_lwJ (lo' := [some (.inr (0, 60)), some (.inl l1), some (.inl l2), some (.inl l3), none, none]) ⟨rfl, rfl, rfl, rfl, trivial⟩ (tX11_cached_83 hG h)
  · rw [if_neg c] at h
    refine am_iload dX11_cached_45 rfl ?_
    refine am_if_eq (tgt := 83) dX11_cached_47 rfl (fun c => ?_) (fun c => ?_)
    · rw [if_pos c] at h
      exact am_lwJ (lo' := [some (.inr (0, 60)), some (.inl l1), some (.inl l2), some (.inl l3), none, none]) ⟨rfl, rfl, rfl, rfl, trivial⟩ (tX11_cached_83 hG h)
    · rw [if_neg c] at h
      refine am_aload_n dX11_cached_50 rfl ?_
      refine am_get (v := .inr (0, 68)) dX11_cached_51 fl_11_24 (hG.m0 (by decide)) rfl ?_
      refine am_iload dX11_cached_54 rfl ?_
      refine am_if_eq (tgt := 74) dX11_cached_56 rfl (fun c => ?_) (fun c => ?_)
      · rw [if_pos c] at h
        exact am_lwJ (lo' := [some (.inr (0, 60)), some (.inl l1), some (.inl l2), some (.inl l3), none, none]) ⟨rfl, rfl, rfl, rfl, trivial⟩ (tX11_cached_74 hG h)
      · rw [if_neg c] at h
        refine am_iload dX11_cached_59 rfl ?_
        refine am_if_eq (tgt := 74) dX11_cached_61 rfl (fun c => ?_) (fun c => ?_)
        · rw [if_pos c] at h
          exact am_lwJ (lo' := [some (.inr (0, 60)), some (.inl l1), some (.inl l2), some (.inl l3), none, none]) ⟨rfl, rfl, rfl, rfl, trivial⟩ (tX11_cached_74 hG h)
        · rw [if_neg c] at h
          refine am_sipush (v := nI 640) dX11_cached_64 (by decide) ?_
          refine am_iload_n dX11_cached_67 rfl ?_
          refine am_imul dX11_cached_68 ?_
          refine am_iload_n dX11_cached_69 rfl ?_
          refine am_iadd dX11_cached_70 ?_
          refine am_goto (tgt := 75) dX11_cached_71 rfl ?_
          exact am_lwJ (lo' := [some (.inr (0, 60)), some (.inl l1), some (.inl l2), some (.inl l3), none, none]) ⟨rfl, rfl, rfl, rfl, trivial⟩ (tX11_cached_75 hG h)
def bX11_cached_39 (n : Nat) (l1 : Int32) (l2 : Int32) (l3 : Int32) (l4 : Int32) (l5 : Int32) (s0 : Int32) (I : am_I) : Option (Int32 × am_I) := bX11_cached_40 n l1 l2 l3 l4 l5 (nI 0) s0 I
theorem tX11_cached_39 {G : am_G} (hG : am_okM G) {d : Nat} {l1 : Int32} {l2 : Int32} {l3 : Int32} {l4 : Int32} {l5 : Int32} {s0 : Int32} {I : am_I} {r : Int32 × am_I} (h : bX11_cached_39 G.2.2.2.1 l1 l2 l3 l4 l5 s0  I = some r) : am_J G (d + 2) mX11_cached am_no (am_E (some r.1) r.2) 39 [some (.inr (0, 60)), some (.inl l1), some (.inl l2), some (.inl l3), some (.inl l4), some (.inl l5)] [.inl s0, .inr (0, 60)] I := by
  unfold bX11_cached_39 at h
  refine am_iconst (v := nI 0) dX11_cached_39 (by decide) ?_
  exact am_lwJ (lo' := [some (.inr (0, 60)), some (.inl l1), some (.inl l2), some (.inl l3), some (.inl l4), some (.inl l5)]) ⟨rfl, rfl, rfl, rfl, rfl, rfl, trivial⟩ (tX11_cached_40 hG h)
def bX11_cached_25 (n : Nat) (l1 : Int32) (l2 : Int32) (l3 : Int32) (l4 : Int32) (l5 : Int32) (s0 : Int32) (I : am_I) : Option (Int32 × am_I) := if l4 = 0 then (bX11_cached_39 n l1 l2 l3 l4 l5 s0 I) else (if l5 = 0 then (bX11_cached_40 n l1 l2 l3 l4 l5 (nI 1) s0 I) else (bX11_cached_39 n l1 l2 l3 l4 l5 s0 I))
theorem tX11_cached_25 {G : am_G} (hG : am_okM G) {d : Nat} {l1 : Int32} {l2 : Int32} {l3 : Int32} {l4 : Int32} {l5 : Int32} {s0 : Int32} {I : am_I} {r : Int32 × am_I} (h : bX11_cached_25 G.2.2.2.1 l1 l2 l3 l4 l5 s0  I = some r) : am_J G (d + 2) mX11_cached am_no (am_E (some r.1) r.2) 25 [some (.inr (0, 60)), some (.inl l1), some (.inl l2), some (.inl l3), some (.inl l4), some (.inl l5)] [.inl s0, .inr (0, 60)] I := by
  unfold bX11_cached_25 at h
  refine am_iload dX11_cached_25 rfl ?_
  refine am_if_eq (tgt := 39) dX11_cached_27 rfl (fun c => ?_) (fun c => ?_)
  · rw [if_pos c] at h
    exact am_lwJ (lo' := [some (.inr (0, 60)), some (.inl l1), some (.inl l2), some (.inl l3), some (.inl l4), some (.inl l5)]) ⟨rfl, rfl, rfl, rfl, rfl, rfl, trivial⟩ (tX11_cached_39 hG h)
  · rw [if_neg c] at h
    refine am_iload dX11_cached_30 rfl ?_
    refine am_if_ne (tgt := 39) dX11_cached_32 rfl (fun c => ?_) (fun c => ?_)
    · rw [if_neg c] at h
      exact am_lwJ (lo' := [some (.inr (0, 60)), some (.inl l1), some (.inl l2), some (.inl l3), some (.inl l4), some (.inl l5)]) ⟨rfl, rfl, rfl, rfl, rfl, rfl, trivial⟩ (tX11_cached_39 hG h)
    · rw [if_pos c] at h
      refine am_iconst (v := nI 1) dX11_cached_35 (by decide) ?_
      refine am_goto (tgt := 40) dX11_cached_36 rfl ?_
      exact am_lwJ (lo' := [some (.inr (0, 60)), some (.inl l1), some (.inl l2), some (.inl l3), some (.inl l4), some (.inl l5)]) ⟨rfl, rfl, rfl, rfl, rfl, rfl, trivial⟩ (tX11_cached_40 hG h)
def bX11_cached_0 (n : Nat) (l1 : Int32) (l2 : Int32) (l3 : Int32) (I : am_I) : Option (Int32 × am_I) := (gX11_isNode n l1 I).bind (fun q1 => (gX11_isWord n l2 l3 q1.2).bind (fun q2 => if q1.1 = 0 then (bX11_cached_25 n l1 l2 l3 q1.1 q2.1 (nI 1) q2.2) else (bX11_cached_25 n l1 l2 l3 q1.1 q2.1 (nI 0) q2.2)))
theorem tX11_cached_0 {G : am_G} (hG : am_okM G) {d : Nat} {l1 : Int32} {l2 : Int32} {l3 : Int32} {I : am_I} {r : Int32 × am_I} (h : bX11_cached_0 G.2.2.2.1 l1 l2 l3  I = some r) : am_J G (d + 2) mX11_cached am_no (am_E (some r.1) r.2) 0 [some (.inr (0, 60)), some (.inl l1), some (.inl l2), some (.inl l3), none, none] [] I := by
  unfold bX11_cached_0 at h
  refine am_aload_n dX11_cached_0 rfl ?_
  refine am_iload_n dX11_cached_1 rfl ?_
  obtain ⟨q1, hq1, h⟩ := am_bd h
  refine am_callVx (i := 0) (j := 60) (as := [.inl l1]) (rest := []) dX11_cached_2 lkX11_isNode ml_X11_434 imX11_isNode seX11_isNode rfl rfl (hG.m0 (by decide)) rfl (Nat.le_of_ble_eq_true rfl) rfl (sX11_isNode hG hq1) ?_
  refine am_istore dX11_cached_5 (by decide) ?_
  refine am_iload_n dX11_cached_7 rfl ?_
  refine am_iload_n dX11_cached_8 rfl ?_
  obtain ⟨q2, hq2, h⟩ := am_bd h
  refine am_callSx (as := [.inl l2, .inl l3]) (rest := []) dX11_cached_9 lkX11_isWord ml_X11_493 isX11_isWord rfl (Nat.le_of_ble_eq_true rfl) rfl (sX11_isWord hG hq2) ?_
  refine am_istore dX11_cached_12 (by decide) ?_
  refine am_aload_n dX11_cached_14 rfl ?_
  refine am_iload dX11_cached_15 rfl ?_
  refine am_if_ne (tgt := 24) dX11_cached_17 rfl (fun c => ?_) (fun c => ?_)
  · rw [if_neg c] at h
    refine am_iconst (v := nI 0) dX11_cached_24 (by decide) ?_
    exact am_lwJ (lo' := [some (.inr (0, 60)), some (.inl l1), some (.inl l2), some (.inl l3), some (.inl q1.1), some (.inl q2.1)]) ⟨rfl, rfl, rfl, rfl, rfl, rfl, trivial⟩ (tX11_cached_25 hG h)
  · rw [if_pos c] at h
    refine am_iconst (v := nI 1) dX11_cached_20 (by decide) ?_
    refine am_goto (tgt := 25) dX11_cached_21 rfl ?_
    exact am_lwJ (lo' := [some (.inr (0, 60)), some (.inl l1), some (.inl l2), some (.inl l3), some (.inl q1.1), some (.inl q2.1)]) ⟨rfl, rfl, rfl, rfl, rfl, rfl, trivial⟩ (tX11_cached_25 hG h)
def gX11_cached (n : Nat) (l1 : Int32) (l2 : Int32) (l3 : Int32) (I : am_I) : Option (Int32 × am_I) := bX11_cached_0 n l1 l2 l3 I
theorem sX11_cached {G : am_G} (hG : am_okM G) {d : Nat} {l1 : Int32} {l2 : Int32} {l3 : Int32} {I : am_I} {r : Int32 × am_I} (h : gX11_cached G.2.2.2.1 l1 l2 l3 I = some r) : am_C G (d + 2) mX11_cached [.inr (0, 60), .inl l1, .inl l2, .inl l3] I (am_E (some r.1) r.2) :=
  am_of (by decide +kernel) hG.nd (Nat.le_of_ble_eq_true rfl) (am_lwJ (lo' := [some (.inr (0, 60)), some (.inl l1), some (.inl l2), some (.inl l3), none, none]) ⟨rfl, rfl, rfl, rfl, trivial⟩ (tX11_cached_0 hG h))
def bX11_lock_127 (n : Nat) (s0 : Int32) (I : am_I) : Option (Int32 × am_I) := some (s0, I)
theorem tX11_lock_127 {G : am_G} (hG : am_okM G) {d : Nat} {s0 : Int32} {I : am_I} {r : Int32 × am_I} (h : bX11_lock_127 G.2.2.2.1 s0  I = some r) : am_J G (d + 2) mX11_lock am_no (am_E (some r.1) r.2) 127 [none, none, none, none, none] [.inl s0] I := by
  unfold bX11_lock_127 at h
  cases h
  exact am_iret dX11_lock_127 rfl rfl ⟨rfl, rfl⟩
def bX11_lock_34 (n : Nat) (l1 : Int32) (l2 : Int32) (l3 : Int32) (s0 : Int32) (I : am_I) : Option (Int32 × am_I) := (gX11_refuse n s0 (nI 0) (nI 0) I).bind (fun q1 => if q1.1 = 0 then ((gX11_at n l1 l2 q1.2).bind (fun q2 => if l3 = nI 0 then (am_gd (am_inb q2.1 544) (some (q2.2 0 76 q2.1.toNatClampNeg, q2.2))) else (if l3 = nI 1 then (am_gd (am_inb q2.1 544) (some (q2.2 0 77 q2.1.toNatClampNeg, q2.2))) else (if l3 = nI 2 then (am_gd (am_inb q2.1 544) (some (q2.2 0 78 q2.1.toNatClampNeg, q2.2))) else (if l3 = nI 3 then ((gX11_isCalling n l1 q2.2).bind (fun q6 => if q6.1 = 0 then (bX11_lock_127 n (nI 0) q6.2) else (am_gd (am_inb q2.1 544) (bX11_lock_127 n (q6.2 0 81 q2.1.toNatClampNeg) q6.2)))) else (am_gd (am_inb (((nI 4) * l2) + l1) 544) (some (q2.2 0 94 ((((nI 4) * l2) + l1).toNatClampNeg), q2.2)))))))) else (some (nI 0, q1.2)))
theorem tX11_lock_34 {G : am_G} (hG : am_okM G) {d : Nat} {l1 : Int32} {l2 : Int32} {l3 : Int32} {s0 : Int32} {I : am_I} {r : Int32 × am_I} (h : bX11_lock_34 G.2.2.2.1 l1 l2 l3 s0  I = some r) : am_J G (d + 2) mX11_lock am_no (am_E (some r.1) r.2) 34 [some (.inr (0, 60)), some (.inl l1), some (.inl l2), some (.inl l3), none] [.inl s0, .inr (0, 60)] I := by
  unfold bX11_lock_34 at h
  refine am_iconst (v := nI 0) dX11_lock_34 (by decide) ?_
  refine am_iconst (v := nI 0) dX11_lock_35 (by decide) ?_
  obtain ⟨q1, hq1, h⟩ := am_bd h
  refine am_callVx (i := 0) (j := 60) (as := [.inl s0, .inl (nI 0), .inl (nI 0)]) (rest := []) dX11_lock_36 lkX11_refuse ml_X11_441 imX11_refuse seX11_refuse rfl rfl (hG.m0 (by decide)) rfl (Nat.le_of_ble_eq_true rfl) rfl (sX11_refuse hG hq1) ?_
  refine am_if_eq (tgt := 44) dX11_lock_39 rfl (fun c => ?_) (fun c => ?_)
  · rw [if_pos c] at h
    refine am_iload_n dX11_lock_44 rfl ?_
    refine am_iload_n dX11_lock_45 rfl ?_
    obtain ⟨q2, hq2, h⟩ := am_bd h
    refine am_callSx (as := [.inl l1, .inl l2]) (rest := []) dX11_lock_46 lkX11_at ml_X11_208 isX11_at rfl (Nat.le_of_ble_eq_true rfl) rfl (sX11_at hG hq2) ?_
    refine am_istore dX11_lock_49 (by decide) ?_
    refine am_iload_n dX11_lock_51 rfl ?_
    rcases am_sw 3 l3 with ⟨m, hm, hx⟩ | hx
    · match m, hm, hx with
      | 0, _, hx =>
        rw [if_pos hx] at h
        refine am_tabIn (off := 32) (tgt := 84) dX11_lock_52 (by rw [hx]; decide) (by rw [hx]; decide) (by rw [hx]; rfl) rfl ?_
        refine am_aload_n dX11_lock_84 rfl ?_
        refine am_get (v := .inr (0, 76)) dX11_lock_85 fl_11_48 (hG.m0 (by decide)) rfl ?_
        refine am_iload dX11_lock_88 rfl ?_
        obtain ⟨g3, h⟩ := am_gd_some h
        refine am_ialdG dX11_lock_90 (hG.m0 (by decide)) rfl g3 (show 544 < 2 ^ 31 by decide) ?_
        cases h
        exact am_iret dX11_lock_91 rfl rfl ⟨rfl, rfl⟩
      | 1, _, hx =>
        rw [if_neg (show ¬ l3 = nI 0 by rw [hx]; decide)] at h
        rw [if_pos hx] at h
        refine am_tabIn (off := 40) (tgt := 92) dX11_lock_52 (by rw [hx]; decide) (by rw [hx]; decide) (by rw [hx]; rfl) rfl ?_
        refine am_aload_n dX11_lock_92 rfl ?_
        refine am_get (v := .inr (0, 77)) dX11_lock_93 fl_11_51 (hG.m0 (by decide)) rfl ?_
        refine am_iload dX11_lock_96 rfl ?_
        obtain ⟨g4, h⟩ := am_gd_some h
        refine am_ialdG dX11_lock_98 (hG.m0 (by decide)) rfl g4 (show 544 < 2 ^ 31 by decide) ?_
        cases h
        exact am_iret dX11_lock_99 rfl rfl ⟨rfl, rfl⟩
      | 2, _, hx =>
        rw [if_neg (show ¬ l3 = nI 0 by rw [hx]; decide), if_neg (show ¬ l3 = nI 1 by rw [hx]; decide)] at h
        rw [if_pos hx] at h
        refine am_tabIn (off := 48) (tgt := 100) dX11_lock_52 (by rw [hx]; decide) (by rw [hx]; decide) (by rw [hx]; rfl) rfl ?_
        refine am_aload_n dX11_lock_100 rfl ?_
        refine am_get (v := .inr (0, 78)) dX11_lock_101 fl_11_54 (hG.m0 (by decide)) rfl ?_
        refine am_iload dX11_lock_104 rfl ?_
        obtain ⟨g5, h⟩ := am_gd_some h
        refine am_ialdG dX11_lock_106 (hG.m0 (by decide)) rfl g5 (show 544 < 2 ^ 31 by decide) ?_
        cases h
        exact am_iret dX11_lock_107 rfl rfl ⟨rfl, rfl⟩
      | 3, _, hx =>
        rw [if_neg (show ¬ l3 = nI 0 by rw [hx]; decide), if_neg (show ¬ l3 = nI 1 by rw [hx]; decide), if_neg (show ¬ l3 = nI 2 by rw [hx]; decide)] at h
        rw [if_pos hx] at h
        refine am_tabIn (off := 56) (tgt := 108) dX11_lock_52 (by rw [hx]; decide) (by rw [hx]; decide) (by rw [hx]; rfl) rfl ?_
        refine am_aload_n dX11_lock_108 rfl ?_
        refine am_iload_n dX11_lock_109 rfl ?_
        obtain ⟨q6, hq6, h⟩ := am_bd h
        refine am_callVx (i := 0) (j := 60) (as := [.inl l1]) (rest := []) dX11_lock_110 lkX11_isCalling ml_X11_264 imX11_isCalling seX11_isCalling rfl rfl (hG.m0 (by decide)) rfl (Nat.le_of_ble_eq_true rfl) rfl (sX11_isCalling hG hq6) ?_
        refine am_if_eq (tgt := 126) dX11_lock_113 rfl (fun c => ?_) (fun c => ?_)
        · rw [if_pos c] at h
          refine am_iconst (v := nI 0) dX11_lock_126 (by decide) ?_
          exact am_lwJ (lo' := [none, none, none, none, none]) trivial (tX11_lock_127 hG h)
        · rw [if_neg c] at h
          refine am_aload_n dX11_lock_116 rfl ?_
          refine am_get (v := .inr (0, 81)) dX11_lock_117 fl_11_63 (hG.m0 (by decide)) rfl ?_
          refine am_iload dX11_lock_120 rfl ?_
          obtain ⟨g7, h⟩ := am_gd_some h
          refine am_ialdG dX11_lock_122 (hG.m0 (by decide)) rfl g7 (show 544 < 2 ^ 31 by decide) ?_
          refine am_goto (tgt := 127) dX11_lock_123 rfl ?_
          exact am_lwJ (lo' := [none, none, none, none, none]) trivial (tX11_lock_127 hG h)
      | m + 4, hm, _ => exact absurd hm (by omega)
    · rw [if_neg (am_swd (k := 0) hx (by decide) (by decide)), if_neg (am_swd (k := 1) hx (by decide) (by decide)), if_neg (am_swd (k := 2) hx (by decide) (by decide)), if_neg (am_swd (k := 3) hx (by decide) (by decide))] at h
      refine am_tabOut (tgt := 128) dX11_lock_52 (by omega) rfl ?_
      refine am_aload_n dX11_lock_128 rfl ?_
      refine am_get (v := .inr (0, 94)) dX11_lock_129 fl_11_102 (hG.m0 (by decide)) rfl ?_
      refine am_iconst (v := nI 4) dX11_lock_132 (by decide) ?_
      refine am_iload_n dX11_lock_133 rfl ?_
      refine am_imul dX11_lock_134 ?_
      refine am_iload_n dX11_lock_135 rfl ?_
      refine am_iadd dX11_lock_136 ?_
      obtain ⟨g8, h⟩ := am_gd_some h
      refine am_ialdG dX11_lock_137 (hG.m0 (by decide)) rfl g8 (show 544 < 2 ^ 31 by decide) ?_
      cases h
      exact am_iret dX11_lock_138 rfl rfl ⟨rfl, rfl⟩
  · rw [if_neg c] at h
    refine am_iconst (v := nI 0) dX11_lock_42 (by decide) ?_
    cases h
    exact am_iret dX11_lock_43 rfl rfl ⟨rfl, rfl⟩
def bX11_lock_29 (n : Nat) (l1 : Int32) (l2 : Int32) (l3 : Int32) (I : am_I) : Option (Int32 × am_I) := bX11_lock_34 n l1 l2 l3 (nI 1) I
theorem tX11_lock_29 {G : am_G} (hG : am_okM G) {d : Nat} {l1 : Int32} {l2 : Int32} {l3 : Int32} {I : am_I} {r : Int32 × am_I} (h : bX11_lock_29 G.2.2.2.1 l1 l2 l3  I = some r) : am_J G (d + 2) mX11_lock am_no (am_E (some r.1) r.2) 29 [some (.inr (0, 60)), some (.inl l1), some (.inl l2), some (.inl l3), none] [.inr (0, 60)] I := by
  unfold bX11_lock_29 at h
  refine am_iconst (v := nI 1) dX11_lock_29 (by decide) ?_
  refine am_goto (tgt := 34) dX11_lock_30 rfl ?_
  exact am_lwJ (lo' := [some (.inr (0, 60)), some (.inl l1), some (.inl l2), some (.inl l3), none]) ⟨rfl, rfl, rfl, rfl, trivial⟩ (tX11_lock_34 hG h)
def bX11_lock_0 (n : Nat) (l1 : Int32) (l2 : Int32) (l3 : Int32) (I : am_I) : Option (Int32 × am_I) := (gX11_isNode n l1 I).bind (fun q1 => if q1.1 = 0 then (bX11_lock_29 n l1 l2 l3 q1.2) else ((gX11_in n l2 (nI 0) (nI 135) q1.2).bind (fun q2 => if q2.1 = 0 then (bX11_lock_29 n l1 l2 l3 q2.2) else ((gX11_in n l3 (nI 0) (nI 4) q2.2).bind (fun q3 => if q3.1 = 0 then (bX11_lock_29 n l1 l2 l3 q3.2) else (bX11_lock_34 n l1 l2 l3 (nI 0) q3.2))))))
theorem tX11_lock_0 {G : am_G} (hG : am_okM G) {d : Nat} {l1 : Int32} {l2 : Int32} {l3 : Int32} {I : am_I} {r : Int32 × am_I} (h : bX11_lock_0 G.2.2.2.1 l1 l2 l3  I = some r) : am_J G (d + 2) mX11_lock am_no (am_E (some r.1) r.2) 0 [some (.inr (0, 60)), some (.inl l1), some (.inl l2), some (.inl l3), none] [] I := by
  unfold bX11_lock_0 at h
  refine am_aload_n dX11_lock_0 rfl ?_
  refine am_aload_n dX11_lock_1 rfl ?_
  refine am_iload_n dX11_lock_2 rfl ?_
  obtain ⟨q1, hq1, h⟩ := am_bd h
  refine am_callVx (i := 0) (j := 60) (as := [.inl l1]) (rest := [.inr (0, 60)]) dX11_lock_3 lkX11_isNode ml_X11_434 imX11_isNode seX11_isNode rfl rfl (hG.m0 (by decide)) rfl (Nat.le_of_ble_eq_true rfl) rfl (sX11_isNode hG hq1) ?_
  refine am_if_eq (tgt := 29) dX11_lock_6 rfl (fun c => ?_) (fun c => ?_)
  · rw [if_pos c] at h
    exact am_lwJ (lo' := [some (.inr (0, 60)), some (.inl l1), some (.inl l2), some (.inl l3), none]) ⟨rfl, rfl, rfl, rfl, trivial⟩ (tX11_lock_29 hG h)
  · rw [if_neg c] at h
    refine am_iload_n dX11_lock_9 rfl ?_
    refine am_iconst (v := nI 0) dX11_lock_10 (by decide) ?_
    refine am_sipush (v := nI 135) dX11_lock_11 (by decide) ?_
    obtain ⟨q2, hq2, h⟩ := am_bd h
    refine am_callSx (as := [.inl l2, .inl (nI 0), .inl (nI 135)]) (rest := [.inr (0, 60)]) dX11_lock_14 lkX11_in ml_X11_243 isX11_in rfl (Nat.le_of_ble_eq_true rfl) rfl (sX11_in hG hq2) ?_
    refine am_if_eq (tgt := 29) dX11_lock_17 rfl (fun c => ?_) (fun c => ?_)
    · rw [if_pos c] at h
      exact am_lwJ (lo' := [some (.inr (0, 60)), some (.inl l1), some (.inl l2), some (.inl l3), none]) ⟨rfl, rfl, rfl, rfl, trivial⟩ (tX11_lock_29 hG h)
    · rw [if_neg c] at h
      refine am_iload_n dX11_lock_20 rfl ?_
      refine am_iconst (v := nI 0) dX11_lock_21 (by decide) ?_
      refine am_iconst (v := nI 4) dX11_lock_22 (by decide) ?_
      obtain ⟨q3, hq3, h⟩ := am_bd h
      refine am_callSx (as := [.inl l3, .inl (nI 0), .inl (nI 4)]) (rest := [.inr (0, 60)]) dX11_lock_23 lkX11_in ml_X11_243 isX11_in rfl (Nat.le_of_ble_eq_true rfl) rfl (sX11_in hG hq3) ?_
      refine am_if_ne (tgt := 33) dX11_lock_26 rfl (fun c => ?_) (fun c => ?_)
      · rw [if_neg c] at h
        refine am_iconst (v := nI 0) dX11_lock_33 (by decide) ?_
        exact am_lwJ (lo' := [some (.inr (0, 60)), some (.inl l1), some (.inl l2), some (.inl l3), none]) ⟨rfl, rfl, rfl, rfl, trivial⟩ (tX11_lock_34 hG h)
      · rw [if_pos c] at h
        exact am_lwJ (lo' := [some (.inr (0, 60)), some (.inl l1), some (.inl l2), some (.inl l3), none]) ⟨rfl, rfl, rfl, rfl, trivial⟩ (tX11_lock_29 hG h)
def gX11_lock (n : Nat) (l1 : Int32) (l2 : Int32) (l3 : Int32) (I : am_I) : Option (Int32 × am_I) := bX11_lock_0 n l1 l2 l3 I
theorem sX11_lock {G : am_G} (hG : am_okM G) {d : Nat} {l1 : Int32} {l2 : Int32} {l3 : Int32} {I : am_I} {r : Int32 × am_I} (h : gX11_lock G.2.2.2.1 l1 l2 l3 I = some r) : am_C G (d + 2) mX11_lock [.inr (0, 60), .inl l1, .inl l2, .inl l3] I (am_E (some r.1) r.2) :=
  am_of (by decide +kernel) hG.nd (Nat.le_of_ble_eq_true rfl) (am_lwJ (lo' := [some (.inr (0, 60)), some (.inl l1), some (.inl l2), some (.inl l3), none]) ⟨rfl, rfl, rfl, rfl, trivial⟩ (tX11_lock_0 hG h))
def bX11_row_104 (n : Nat) (s0 : Int32) (I : am_I) : Option (Int32 × am_I) := some (s0, I)
theorem tX11_row_104 {G : am_G} (hG : am_okM G) {d : Nat} {s0 : Int32} {I : am_I} {r : Int32 × am_I} (h : bX11_row_104 G.2.2.2.1 s0  I = some r) : am_J G (d + 1) mX11_row am_no (am_E (some r.1) r.2) 104 [none, none, none, none] [.inl s0] I := by
  unfold bX11_row_104 at h
  cases h
  exact am_iret dX11_row_104 rfl rfl ⟨rfl, rfl⟩
def bX11_row_54 (n : Nat) (s0 : Int32) (I : am_I) : Option (Int32 × am_I) := some (s0, I)
theorem tX11_row_54 {G : am_G} (hG : am_okM G) {d : Nat} {s0 : Int32} {I : am_I} {r : Int32 × am_I} (h : bX11_row_54 G.2.2.2.1 s0  I = some r) : am_J G (d + 1) mX11_row am_no (am_E (some r.1) r.2) 54 [none, none, none, none] [.inl s0] I := by
  unfold bX11_row_54 at h
  cases h
  exact am_iret dX11_row_54 rfl rfl ⟨rfl, rfl⟩
def bX11_row_21 (n : Nat) (l1 : Int32) (l2 : Int32) (s0 : Int32) (I : am_I) : Option (Int32 × am_I) := (gX11_refuse n s0 (nI 0) (nI 0) I).bind (fun q1 => if q1.1 = 0 then (if (nI 2) ≤ l2 then (am_gd (am_inb l1 136) (if ((l2 - (nI 2)) / (nI 2)) < (q1.2 0 96 l1.toNatClampNeg) then (if (l2 - l2 / (nI 2) * (nI 2)) = 0 then (am_gd (am_inb (((nI 16) * l1) + ((l2 - (nI 2)) / (nI 2))) 2176) (bX11_row_104 n (q1.2 0 97 ((((nI 16) * l1) + ((l2 - (nI 2)) / (nI 2))).toNatClampNeg)) q1.2)) else (am_gd (am_inb (((nI 16) * l1) + ((l2 - (nI 2)) / (nI 2))) 2176) (bX11_row_104 n (q1.2 0 98 ((((nI 16) * l1) + ((l2 - (nI 2)) / (nI 2))).toNatClampNeg)) q1.2))) else (some ((-1 : Int32), q1.2)))) else (if l2 = 0 then ((gX11_masterOf n l1 q1.2).bind (fun q6 => bX11_row_54 n q6.1 q6.2)) else (am_gd (am_inb l1 136) (bX11_row_54 n (q1.2 0 96 l1.toNatClampNeg) q1.2)))) else (some (nI 0, q1.2)))
theorem tX11_row_21 {G : am_G} (hG : am_okM G) {d : Nat} {l1 : Int32} {l2 : Int32} {s0 : Int32} {I : am_I} {r : Int32 × am_I} (h : bX11_row_21 G.2.2.2.1 l1 l2 s0  I = some r) : am_J G (d + 1) mX11_row am_no (am_E (some r.1) r.2) 21 [some (.inr (0, 60)), some (.inl l1), some (.inl l2), none] [.inl s0, .inr (0, 60)] I := by
  unfold bX11_row_21 at h
  refine am_iconst (v := nI 0) dX11_row_21 (by decide) ?_
  refine am_iconst (v := nI 0) dX11_row_22 (by decide) ?_
  obtain ⟨q1, hq1, h⟩ := am_bd h
  refine am_callVx (i := 0) (j := 60) (as := [.inl s0, .inl (nI 0), .inl (nI 0)]) (rest := []) dX11_row_23 lkX11_refuse ml_X11_441 imX11_refuse seX11_refuse rfl rfl (hG.m0 (by decide)) rfl (Nat.le_of_ble_eq_true rfl) rfl (sX11_refuse hG hq1) ?_
  refine am_if_eq (tgt := 31) dX11_row_26 rfl (fun c => ?_) (fun c => ?_)
  · rw [if_pos c] at h
    refine am_iload_n dX11_row_31 rfl ?_
    refine am_iconst (v := nI 2) dX11_row_32 (by decide) ?_
    refine am_icmp_ge (tgt := 55) dX11_row_33 rfl (fun c => ?_) (fun c => ?_)
    · rw [if_pos c] at h
      refine am_iload_n dX11_row_55 rfl ?_
      refine am_iconst (v := nI 2) dX11_row_56 (by decide) ?_
      refine am_isub dX11_row_57 ?_
      refine am_iconst (v := nI 2) dX11_row_58 (by decide) ?_
      refine am_idiv dX11_row_59 (by decide) ?_
      refine am_istore_n dX11_row_60 (by decide) ?_
      refine am_iload_n dX11_row_61 rfl ?_
      refine am_aload_n dX11_row_62 rfl ?_
      refine am_get (v := .inr (0, 96)) dX11_row_63 fl_11_108 (hG.m0 (by decide)) rfl ?_
      refine am_iload_n dX11_row_66 rfl ?_
      obtain ⟨g2, h⟩ := am_gd_some h
      refine am_ialdG dX11_row_67 (hG.m0 (by decide)) rfl g2 (show 136 < 2 ^ 31 by decide) ?_
      refine am_icmp_lt (tgt := 73) dX11_row_68 rfl (fun c => ?_) (fun c => ?_)
      · rw [if_pos c] at h
        refine am_iload_n dX11_row_73 rfl ?_
        refine am_iconst (v := nI 2) dX11_row_74 (by decide) ?_
        refine am_irem dX11_row_75 (by decide) ?_
        refine am_if_ne (tgt := 93) dX11_row_76 rfl (fun c => ?_) (fun c => ?_)
        · rw [if_neg c] at h
          refine am_aload_n dX11_row_93 rfl ?_
          refine am_get (v := .inr (0, 98)) dX11_row_94 fl_11_114 (hG.m0 (by decide)) rfl ?_
          refine am_bipush (v := nI 16) dX11_row_97 (by decide) ?_
          refine am_iload_n dX11_row_99 rfl ?_
          refine am_imul dX11_row_100 ?_
          refine am_iload_n dX11_row_101 rfl ?_
          refine am_iadd dX11_row_102 ?_
          obtain ⟨g3, h⟩ := am_gd_some h
          refine am_ialdG dX11_row_103 (hG.m0 (by decide)) rfl g3 (show 2176 < 2 ^ 31 by decide) ?_
          exact am_lwJ (lo' := [none, none, none, none]) trivial (tX11_row_104 hG h)
        · rw [if_pos c] at h
          refine am_aload_n dX11_row_79 rfl ?_
          refine am_get (v := .inr (0, 97)) dX11_row_80 fl_11_111 (hG.m0 (by decide)) rfl ?_
          refine am_bipush (v := nI 16) dX11_row_83 (by decide) ?_
          refine am_iload_n dX11_row_85 rfl ?_
          refine am_imul dX11_row_86 ?_
          refine am_iload_n dX11_row_87 rfl ?_
          refine am_iadd dX11_row_88 ?_
          obtain ⟨g4, h⟩ := am_gd_some h
          refine am_ialdG dX11_row_89 (hG.m0 (by decide)) rfl g4 (show 2176 < 2 ^ 31 by decide) ?_
          refine am_goto (tgt := 104) dX11_row_90 rfl ?_
          exact am_lwJ (lo' := [none, none, none, none]) trivial (tX11_row_104 hG h)
      · rw [if_neg c] at h
        refine am_iconst (v := (-1 : Int32)) dX11_row_71 (by decide) ?_
        cases h
        exact am_iret dX11_row_72 rfl rfl ⟨rfl, rfl⟩
    · rw [if_neg c] at h
      refine am_iload_n dX11_row_36 rfl ?_
      refine am_if_ne (tgt := 48) dX11_row_37 rfl (fun c => ?_) (fun c => ?_)
      · rw [if_neg c] at h
        refine am_aload_n dX11_row_48 rfl ?_
        refine am_get (v := .inr (0, 96)) dX11_row_49 fl_11_108 (hG.m0 (by decide)) rfl ?_
        refine am_iload_n dX11_row_52 rfl ?_
        obtain ⟨g5, h⟩ := am_gd_some h
        refine am_ialdG dX11_row_53 (hG.m0 (by decide)) rfl g5 (show 136 < 2 ^ 31 by decide) ?_
        exact am_lwJ (lo' := [none, none, none, none]) trivial (tX11_row_54 hG h)
      · rw [if_pos c] at h
        refine am_aload_n dX11_row_40 rfl ?_
        refine am_iload_n dX11_row_41 rfl ?_
        obtain ⟨q6, hq6, h⟩ := am_bd h
        refine am_callVx (i := 0) (j := 60) (as := [.inl l1]) (rest := []) dX11_row_42 lkX11_masterOf ml_X11_226 imX11_masterOf seX11_masterOf rfl rfl (hG.m0 (by decide)) rfl (Nat.le_of_ble_eq_true rfl) rfl (sX11_masterOf hG hq6) ?_
        refine am_goto (tgt := 54) dX11_row_45 rfl ?_
        exact am_lwJ (lo' := [none, none, none, none]) trivial (tX11_row_54 hG h)
  · rw [if_neg c] at h
    refine am_iconst (v := nI 0) dX11_row_29 (by decide) ?_
    cases h
    exact am_iret dX11_row_30 rfl rfl ⟨rfl, rfl⟩
def bX11_row_16 (n : Nat) (l1 : Int32) (l2 : Int32) (I : am_I) : Option (Int32 × am_I) := bX11_row_21 n l1 l2 (nI 1) I
theorem tX11_row_16 {G : am_G} (hG : am_okM G) {d : Nat} {l1 : Int32} {l2 : Int32} {I : am_I} {r : Int32 × am_I} (h : bX11_row_16 G.2.2.2.1 l1 l2  I = some r) : am_J G (d + 1) mX11_row am_no (am_E (some r.1) r.2) 16 [some (.inr (0, 60)), some (.inl l1), some (.inl l2), none] [.inr (0, 60)] I := by
  unfold bX11_row_16 at h
  refine am_iconst (v := nI 1) dX11_row_16 (by decide) ?_
  refine am_goto (tgt := 21) dX11_row_17 rfl ?_
  exact am_lwJ (lo' := [some (.inr (0, 60)), some (.inl l1), some (.inl l2), none]) ⟨rfl, rfl, rfl, trivial⟩ (tX11_row_21 hG h)
def bX11_row_0 (n : Nat) (l1 : Int32) (l2 : Int32) (I : am_I) : Option (Int32 × am_I) := (gX11_in n l1 (nI 0) (nI 135) I).bind (fun q1 => if q1.1 = 0 then (bX11_row_16 n l1 l2 q1.2) else (if 0 ≤ l2 then (bX11_row_21 n l1 l2 (nI 0) q1.2) else (bX11_row_16 n l1 l2 q1.2)))
theorem tX11_row_0 {G : am_G} (hG : am_okM G) {d : Nat} {l1 : Int32} {l2 : Int32} {I : am_I} {r : Int32 × am_I} (h : bX11_row_0 G.2.2.2.1 l1 l2  I = some r) : am_J G (d + 1) mX11_row am_no (am_E (some r.1) r.2) 0 [some (.inr (0, 60)), some (.inl l1), some (.inl l2), none] [] I := by
  unfold bX11_row_0 at h
  refine am_aload_n dX11_row_0 rfl ?_
  refine am_iload_n dX11_row_1 rfl ?_
  refine am_iconst (v := nI 0) dX11_row_2 (by decide) ?_
  refine am_sipush (v := nI 135) dX11_row_3 (by decide) ?_
  obtain ⟨q1, hq1, h⟩ := am_bd h
  refine am_callSx (as := [.inl l1, .inl (nI 0), .inl (nI 135)]) (rest := [.inr (0, 60)]) dX11_row_6 lkX11_in ml_X11_243 isX11_in rfl (Nat.le_of_ble_eq_true rfl) rfl (sX11_in hG hq1) ?_
  refine am_if_eq (tgt := 16) dX11_row_9 rfl (fun c => ?_) (fun c => ?_)
  · rw [if_pos c] at h
    exact am_lwJ (lo' := [some (.inr (0, 60)), some (.inl l1), some (.inl l2), none]) ⟨rfl, rfl, rfl, trivial⟩ (tX11_row_16 hG h)
  · rw [if_neg c] at h
    refine am_iload_n dX11_row_12 rfl ?_
    refine am_if_ge (tgt := 20) dX11_row_13 rfl (fun c => ?_) (fun c => ?_)
    · rw [if_pos c] at h
      refine am_iconst (v := nI 0) dX11_row_20 (by decide) ?_
      exact am_lwJ (lo' := [some (.inr (0, 60)), some (.inl l1), some (.inl l2), none]) ⟨rfl, rfl, rfl, trivial⟩ (tX11_row_21 hG h)
    · rw [if_neg c] at h
      exact am_lwJ (lo' := [some (.inr (0, 60)), some (.inl l1), some (.inl l2), none]) ⟨rfl, rfl, rfl, trivial⟩ (tX11_row_16 hG h)
def gX11_row (n : Nat) (l1 : Int32) (l2 : Int32) (I : am_I) : Option (Int32 × am_I) := bX11_row_0 n l1 l2 I
theorem sX11_row {G : am_G} (hG : am_okM G) {d : Nat} {l1 : Int32} {l2 : Int32} {I : am_I} {r : Int32 × am_I} (h : gX11_row G.2.2.2.1 l1 l2 I = some r) : am_C G (d + 1) mX11_row [.inr (0, 60), .inl l1, .inl l2] I (am_E (some r.1) r.2) :=
  am_of (by decide +kernel) hG.nd (Nat.le_of_ble_eq_true rfl) (am_lwJ (lo' := [some (.inr (0, 60)), some (.inl l1), some (.inl l2), none]) ⟨rfl, rfl, rfl, trivial⟩ (tX11_row_0 hG h))
def bX11_message_40 (n : Nat) (l1 : Int32) (l2 : Int32) (s0 : Int32) (s1 : Int32) (I : am_I) : Option (Int32 × am_I) := (gX11_refuse n s1 s0 (nI 0) I).bind (fun q1 => if q1.1 = 0 then (if l2 = nI 0 then (am_gd (am_inb l1 4096) (some (q1.2 0 101 l1.toNatClampNeg, q1.2))) else (if l2 = nI 1 then (am_gd (am_inb l1 4096) (some (q1.2 0 102 l1.toNatClampNeg, q1.2))) else (if l2 = nI 2 then (am_gd (am_inb l1 4096) (some (q1.2 0 103 l1.toNatClampNeg, q1.2))) else (if l2 = nI 3 then (am_gd (am_inb l1 4096) (some (q1.2 0 104 l1.toNatClampNeg, q1.2))) else (if l2 = nI 4 then (am_gd (am_inb l1 4096) (some (q1.2 0 105 l1.toNatClampNeg, q1.2))) else (am_gd (am_inb l1 4096) (some (q1.2 0 106 l1.toNatClampNeg, q1.2)))))))) else (some (nI 0, q1.2)))
theorem tX11_message_40 {G : am_G} (hG : am_okM G) {d : Nat} {l1 : Int32} {l2 : Int32} {s0 : Int32} {s1 : Int32} {I : am_I} {r : Int32 × am_I} (h : bX11_message_40 G.2.2.2.1 l1 l2 s0 s1  I = some r) : am_J G (d + 1) mX11_message am_no (am_E (some r.1) r.2) 40 [some (.inr (0, 60)), some (.inl l1), some (.inl l2), none] [.inl s0, .inl s1, .inr (0, 60)] I := by
  unfold bX11_message_40 at h
  refine am_iconst (v := nI 0) dX11_message_40 (by decide) ?_
  obtain ⟨q1, hq1, h⟩ := am_bd h
  refine am_callVx (i := 0) (j := 60) (as := [.inl s1, .inl s0, .inl (nI 0)]) (rest := []) dX11_message_41 lkX11_refuse ml_X11_441 imX11_refuse seX11_refuse rfl rfl (hG.m0 (by decide)) rfl (Nat.le_of_ble_eq_true rfl) rfl (sX11_refuse hG hq1) ?_
  refine am_if_eq (tgt := 49) dX11_message_44 rfl (fun c => ?_) (fun c => ?_)
  · rw [if_pos c] at h
    refine am_iload_n dX11_message_49 rfl ?_
    rcases am_sw 4 l2 with ⟨m, hm, hx⟩ | hx
    · match m, hm, hx with
      | 0, _, hx =>
        rw [if_pos hx] at h
        refine am_tabIn (off := 34) (tgt := 84) dX11_message_50 (by rw [hx]; decide) (by rw [hx]; decide) (by rw [hx]; rfl) rfl ?_
        refine am_aload_n dX11_message_84 rfl ?_
        refine am_get (v := .inr (0, 101)) dX11_message_85 fl_11_117 (hG.m0 (by decide)) rfl ?_
        refine am_iload_n dX11_message_88 rfl ?_
        obtain ⟨g2, h⟩ := am_gd_some h
        refine am_ialdG dX11_message_89 (hG.m0 (by decide)) rfl g2 (show 4096 < 2 ^ 31 by decide) ?_
        cases h
        exact am_iret dX11_message_90 rfl rfl ⟨rfl, rfl⟩
      | 1, _, hx =>
        rw [if_neg (show ¬ l2 = nI 0 by rw [hx]; decide)] at h
        rw [if_pos hx] at h
        refine am_tabIn (off := 41) (tgt := 91) dX11_message_50 (by rw [hx]; decide) (by rw [hx]; decide) (by rw [hx]; rfl) rfl ?_
        refine am_aload_n dX11_message_91 rfl ?_
        refine am_get (v := .inr (0, 102)) dX11_message_92 fl_11_120 (hG.m0 (by decide)) rfl ?_
        refine am_iload_n dX11_message_95 rfl ?_
        obtain ⟨g3, h⟩ := am_gd_some h
        refine am_ialdG dX11_message_96 (hG.m0 (by decide)) rfl g3 (show 4096 < 2 ^ 31 by decide) ?_
        cases h
        exact am_iret dX11_message_97 rfl rfl ⟨rfl, rfl⟩
      | 2, _, hx =>
        rw [if_neg (show ¬ l2 = nI 0 by rw [hx]; decide), if_neg (show ¬ l2 = nI 1 by rw [hx]; decide)] at h
        rw [if_pos hx] at h
        refine am_tabIn (off := 48) (tgt := 98) dX11_message_50 (by rw [hx]; decide) (by rw [hx]; decide) (by rw [hx]; rfl) rfl ?_
        refine am_aload_n dX11_message_98 rfl ?_
        refine am_get (v := .inr (0, 103)) dX11_message_99 fl_11_123 (hG.m0 (by decide)) rfl ?_
        refine am_iload_n dX11_message_102 rfl ?_
        obtain ⟨g4, h⟩ := am_gd_some h
        refine am_ialdG dX11_message_103 (hG.m0 (by decide)) rfl g4 (show 4096 < 2 ^ 31 by decide) ?_
        cases h
        exact am_iret dX11_message_104 rfl rfl ⟨rfl, rfl⟩
      | 3, _, hx =>
        rw [if_neg (show ¬ l2 = nI 0 by rw [hx]; decide), if_neg (show ¬ l2 = nI 1 by rw [hx]; decide), if_neg (show ¬ l2 = nI 2 by rw [hx]; decide)] at h
        rw [if_pos hx] at h
        refine am_tabIn (off := 55) (tgt := 105) dX11_message_50 (by rw [hx]; decide) (by rw [hx]; decide) (by rw [hx]; rfl) rfl ?_
        refine am_aload_n dX11_message_105 rfl ?_
        refine am_get (v := .inr (0, 104)) dX11_message_106 fl_11_126 (hG.m0 (by decide)) rfl ?_
        refine am_iload_n dX11_message_109 rfl ?_
        obtain ⟨g5, h⟩ := am_gd_some h
        refine am_ialdG dX11_message_110 (hG.m0 (by decide)) rfl g5 (show 4096 < 2 ^ 31 by decide) ?_
        cases h
        exact am_iret dX11_message_111 rfl rfl ⟨rfl, rfl⟩
      | 4, _, hx =>
        rw [if_neg (show ¬ l2 = nI 0 by rw [hx]; decide), if_neg (show ¬ l2 = nI 1 by rw [hx]; decide), if_neg (show ¬ l2 = nI 2 by rw [hx]; decide), if_neg (show ¬ l2 = nI 3 by rw [hx]; decide)] at h
        rw [if_pos hx] at h
        refine am_tabIn (off := 62) (tgt := 112) dX11_message_50 (by rw [hx]; decide) (by rw [hx]; decide) (by rw [hx]; rfl) rfl ?_
        refine am_aload_n dX11_message_112 rfl ?_
        refine am_get (v := .inr (0, 105)) dX11_message_113 fl_11_129 (hG.m0 (by decide)) rfl ?_
        refine am_iload_n dX11_message_116 rfl ?_
        obtain ⟨g6, h⟩ := am_gd_some h
        refine am_ialdG dX11_message_117 (hG.m0 (by decide)) rfl g6 (show 4096 < 2 ^ 31 by decide) ?_
        cases h
        exact am_iret dX11_message_118 rfl rfl ⟨rfl, rfl⟩
      | m + 5, hm, _ => exact absurd hm (by omega)
    · rw [if_neg (am_swd (k := 0) hx (by decide) (by decide)), if_neg (am_swd (k := 1) hx (by decide) (by decide)), if_neg (am_swd (k := 2) hx (by decide) (by decide)), if_neg (am_swd (k := 3) hx (by decide) (by decide)), if_neg (am_swd (k := 4) hx (by decide) (by decide))] at h
      refine am_tabOut (tgt := 119) dX11_message_50 (by omega) rfl ?_
      refine am_aload_n dX11_message_119 rfl ?_
      refine am_get (v := .inr (0, 106)) dX11_message_120 fl_11_132 (hG.m0 (by decide)) rfl ?_
      refine am_iload_n dX11_message_123 rfl ?_
      obtain ⟨g7, h⟩ := am_gd_some h
      refine am_ialdG dX11_message_124 (hG.m0 (by decide)) rfl g7 (show 4096 < 2 ^ 31 by decide) ?_
      cases h
      exact am_iret dX11_message_125 rfl rfl ⟨rfl, rfl⟩
  · rw [if_neg c] at h
    refine am_iconst (v := nI 0) dX11_message_47 (by decide) ?_
    cases h
    exact am_iret dX11_message_48 rfl rfl ⟨rfl, rfl⟩
def bX11_message_39 (n : Nat) (l1 : Int32) (l2 : Int32) (s0 : Int32) (I : am_I) : Option (Int32 × am_I) := bX11_message_40 n l1 l2 (nI 0) s0 I
theorem tX11_message_39 {G : am_G} (hG : am_okM G) {d : Nat} {l1 : Int32} {l2 : Int32} {s0 : Int32} {I : am_I} {r : Int32 × am_I} (h : bX11_message_39 G.2.2.2.1 l1 l2 s0  I = some r) : am_J G (d + 1) mX11_message am_no (am_E (some r.1) r.2) 39 [some (.inr (0, 60)), some (.inl l1), some (.inl l2), none] [.inl s0, .inr (0, 60)] I := by
  unfold bX11_message_39 at h
  refine am_iconst (v := nI 0) dX11_message_39 (by decide) ?_
  exact am_lwJ (lo' := [some (.inr (0, 60)), some (.inl l1), some (.inl l2), none]) ⟨rfl, rfl, rfl, trivial⟩ (tX11_message_40 hG h)
def bX11_message_22 (n : Nat) (l1 : Int32) (l2 : Int32) (l3 : Int32) (s0 : Int32) (I : am_I) : Option (Int32 × am_I) := if l3 = 0 then (bX11_message_39 n l1 l2 s0 I) else ((gX11_in n l2 (nI 0) (nI 5) I).bind (fun q1 => if q1.1 = 0 then (bX11_message_40 n l1 l2 (nI 1) s0 q1.2) else (bX11_message_39 n l1 l2 s0 q1.2)))
theorem tX11_message_22 {G : am_G} (hG : am_okM G) {d : Nat} {l1 : Int32} {l2 : Int32} {l3 : Int32} {s0 : Int32} {I : am_I} {r : Int32 × am_I} (h : bX11_message_22 G.2.2.2.1 l1 l2 l3 s0  I = some r) : am_J G (d + 1) mX11_message am_no (am_E (some r.1) r.2) 22 [some (.inr (0, 60)), some (.inl l1), some (.inl l2), some (.inl l3)] [.inl s0, .inr (0, 60)] I := by
  unfold bX11_message_22 at h
  refine am_iload_n dX11_message_22 rfl ?_
  refine am_if_eq (tgt := 39) dX11_message_23 rfl (fun c => ?_) (fun c => ?_)
  · rw [if_pos c] at h
    exact am_lwJ (lo' := [some (.inr (0, 60)), some (.inl l1), some (.inl l2), none]) ⟨rfl, rfl, rfl, trivial⟩ (tX11_message_39 hG h)
  · rw [if_neg c] at h
    refine am_iload_n dX11_message_26 rfl ?_
    refine am_iconst (v := nI 0) dX11_message_27 (by decide) ?_
    refine am_iconst (v := nI 5) dX11_message_28 (by decide) ?_
    obtain ⟨q1, hq1, h⟩ := am_bd h
    refine am_callSx (as := [.inl l2, .inl (nI 0), .inl (nI 5)]) (rest := [.inl s0, .inr (0, 60)]) dX11_message_29 lkX11_in ml_X11_243 isX11_in rfl (Nat.le_of_ble_eq_true rfl) rfl (sX11_in hG hq1) ?_
    refine am_if_ne (tgt := 39) dX11_message_32 rfl (fun c => ?_) (fun c => ?_)
    · rw [if_neg c] at h
      exact am_lwJ (lo' := [some (.inr (0, 60)), some (.inl l1), some (.inl l2), none]) ⟨rfl, rfl, rfl, trivial⟩ (tX11_message_39 hG h)
    · rw [if_pos c] at h
      refine am_iconst (v := nI 1) dX11_message_35 (by decide) ?_
      refine am_goto (tgt := 40) dX11_message_36 rfl ?_
      exact am_lwJ (lo' := [some (.inr (0, 60)), some (.inl l1), some (.inl l2), none]) ⟨rfl, rfl, rfl, trivial⟩ (tX11_message_40 hG h)
def bX11_message_0 (n : Nat) (l1 : Int32) (l2 : Int32) (I : am_I) : Option (Int32 × am_I) := (gX11_in n l1 (nI 0) ((I 0 60 38) - (nI 1)) I).bind (fun q1 => if q1.1 = 0 then (bX11_message_22 n l1 l2 q1.1 (nI 1) q1.2) else (bX11_message_22 n l1 l2 q1.1 (nI 0) q1.2))
theorem tX11_message_0 {G : am_G} (hG : am_okM G) {d : Nat} {l1 : Int32} {l2 : Int32} {I : am_I} {r : Int32 × am_I} (h : bX11_message_0 G.2.2.2.1 l1 l2  I = some r) : am_J G (d + 1) mX11_message am_no (am_E (some r.1) r.2) 0 [some (.inr (0, 60)), some (.inl l1), some (.inl l2), none] [] I := by
  unfold bX11_message_0 at h
  refine am_iload_n dX11_message_0 rfl ?_
  refine am_iconst (v := nI 0) dX11_message_1 (by decide) ?_
  refine am_aload_n dX11_message_2 rfl ?_
  refine am_get (v := .inl (I 0 60 38)) dX11_message_3 fl_11_197 (hG.m0 (by decide)) rfl ?_
  refine am_iconst (v := nI 1) dX11_message_6 (by decide) ?_
  refine am_isub dX11_message_7 ?_
  obtain ⟨q1, hq1, h⟩ := am_bd h
  refine am_callSx (as := [.inl l1, .inl (nI 0), .inl ((I 0 60 38) - (nI 1))]) (rest := []) dX11_message_8 lkX11_in ml_X11_243 isX11_in rfl (Nat.le_of_ble_eq_true rfl) rfl (sX11_in hG hq1) ?_
  refine am_istore_n dX11_message_11 (by decide) ?_
  refine am_aload_n dX11_message_12 rfl ?_
  refine am_iload_n dX11_message_13 rfl ?_
  refine am_if_ne (tgt := 21) dX11_message_14 rfl (fun c => ?_) (fun c => ?_)
  · rw [if_neg c] at h
    refine am_iconst (v := nI 0) dX11_message_21 (by decide) ?_
    exact am_lwJ (lo' := [some (.inr (0, 60)), some (.inl l1), some (.inl l2), some (.inl q1.1)]) ⟨rfl, rfl, rfl, rfl, trivial⟩ (tX11_message_22 hG h)
  · rw [if_pos c] at h
    refine am_iconst (v := nI 1) dX11_message_17 (by decide) ?_
    refine am_goto (tgt := 22) dX11_message_18 rfl ?_
    exact am_lwJ (lo' := [some (.inr (0, 60)), some (.inl l1), some (.inl l2), some (.inl q1.1)]) ⟨rfl, rfl, rfl, rfl, trivial⟩ (tX11_message_22 hG h)
def gX11_message (n : Nat) (l1 : Int32) (l2 : Int32) (I : am_I) : Option (Int32 × am_I) := bX11_message_0 n l1 l2 I
theorem sX11_message {G : am_G} (hG : am_okM G) {d : Nat} {l1 : Int32} {l2 : Int32} {I : am_I} {r : Int32 × am_I} (h : gX11_message G.2.2.2.1 l1 l2 I = some r) : am_C G (d + 1) mX11_message [.inr (0, 60), .inl l1, .inl l2] I (am_E (some r.1) r.2) :=
  am_of (by decide +kernel) hG.nd (Nat.le_of_ble_eq_true rfl) (am_lwJ (lo' := [some (.inr (0, 60)), some (.inl l1), some (.inl l2), none]) ⟨rfl, rfl, rfl, trivial⟩ (tX11_message_0 hG h))
def bX11_node_90 (n : Nat) (s0 : Int32) (I : am_I) : Option (Int32 × am_I) := some (s0, I)
theorem tX11_node_90 {G : am_G} (hG : am_okM G) {d : Nat} {s0 : Int32} {I : am_I} {r : Int32 × am_I} (h : bX11_node_90 G.2.2.2.1 s0  I = some r) : am_J G (d + 2) mX11_node am_no (am_E (some r.1) r.2) 90 [none, none, none, none, none] [.inl s0] I := by
  unfold bX11_node_90 at h
  cases h
  exact am_iret dX11_node_90 rfl rfl ⟨rfl, rfl⟩
def bX11_node_105 (n : Nat) (s0 : Int32) (I : am_I) : Option (Int32 × am_I) := some (s0, I)
theorem tX11_node_105 {G : am_G} (hG : am_okM G) {d : Nat} {s0 : Int32} {I : am_I} {r : Int32 × am_I} (h : bX11_node_105 G.2.2.2.1 s0  I = some r) : am_J G (d + 2) mX11_node am_no (am_E (some r.1) r.2) 105 [none, none, none, none, none] [.inl s0] I := by
  unfold bX11_node_105 at h
  cases h
  exact am_iret dX11_node_105 rfl rfl ⟨rfl, rfl⟩
def bX11_node_168 (n : Nat) (k137 : Int32 → Int32 → Int32 → am_I → Option (Int32 × am_I)) (l1 : Int32) (l4 : Int32) (s0 : Int32) (I : am_I) : Option (Int32 × am_I) := k137 l1 s0 (l4 + nI 1) I
theorem tX11_node_168 {G : am_G} (hG : am_okM G) {d : Nat} {k137 : Int32 → Int32 → Int32 → am_I → Option (Int32 × am_I)} (hk137 : ∀ (l1 : Int32) (l3 : Int32) (l4 : Int32) (I : am_I) (r : Int32 × am_I), k137 l1 l3 l4 I = some r → am_J G (d + 2) mX11_node am_no (am_E (some r.1) r.2) 137 [some (.inr (0, 60)), some (.inl l1), none, some (.inl l3), some (.inl l4)] [] I) {l1 : Int32} {l4 : Int32} {s0 : Int32} {I : am_I} {r : Int32 × am_I} (h : bX11_node_168 G.2.2.2.1 k137 l1 l4 s0  I = some r) : am_J G (d + 2) mX11_node am_no (am_E (some r.1) r.2) 168 [some (.inr (0, 60)), some (.inl l1), none, none, some (.inl l4)] [.inl s0] I := by
  unfold bX11_node_168 at h
  refine am_istore_n dX11_node_168 (by decide) ?_
  refine am_iinc (v := l4 + nI 1) dX11_node_169 rfl rfl ?_
  refine am_goto (tgt := 137) dX11_node_172 rfl ?_
  exact am_lwJ (lo' := [some (.inr (0, 60)), some (.inl l1), none, some (.inl s0), some (.inl (l4 + nI 1))]) ⟨rfl, rfl, rfl, rfl, trivial⟩ (hk137 l1 s0 (l4 + nI 1) _ _ h)
def bX11_node_137 (n : Nat) : Nat → Int32 → Int32 → Int32 → am_I → Option (Int32 × am_I)
  | 0, _, _, _, _ => none
  | fu + 1, l1, l3, l4, I => (fun k137 => if (nI 640) ≤ l4 then (some (l3, I)) else (am_gd (am_inb (((nI 640) * l1) + l4) 2560) (if (I 0 68 ((((nI 640) * l1) + l4).toNatClampNeg)) = 0 then (bX11_node_168 n k137 l1 l4 l3 I) else (bX11_node_168 n k137 l1 l4 (l3 + (nI 1)) I)))) (bX11_node_137 n fu)
theorem tX11_node_137 {G : am_G} (hG : am_okM G) {d : Nat} : ∀ {fu : Nat} {l1 : Int32} {l3 : Int32} {l4 : Int32} {I : am_I} {r : Int32 × am_I}, bX11_node_137 G.2.2.2.1 fu l1 l3 l4 I = some r → am_J G (d + 2) mX11_node am_no (am_E (some r.1) r.2) 137 [some (.inr (0, 60)), some (.inl l1), none, some (.inl l3), some (.inl l4)] [] I := by
  intro fu
  induction fu with
  | zero => intro l1 l3 l4 I r h; cases h
  | succ fu ih =>
    intro l1 l3 l4 I r h
    have hk137 : ∀ (l1 : Int32) (l3 : Int32) (l4 : Int32) (I : am_I) (r : Int32 × am_I), bX11_node_137 G.2.2.2.1 fu l1 l3 l4 I = some r → am_J G (d + 2) mX11_node am_no (am_E (some r.1) r.2) 137 [some (.inr (0, 60)), some (.inl l1), none, some (.inl l3), some (.inl l4)] [] I := fun l1 l3 l4 I r h => ih h
    unfold bX11_node_137 at h
    generalize bX11_node_137 G.2.2.2.1 fu = k137 at hk137 h
    dsimp only at h
    refine am_iload dX11_node_137 rfl ?_
    refine am_sipush (v := nI 640) dX11_node_139 (by decide) ?_
    refine am_icmp_ge (tgt := 175) dX11_node_142 rfl (fun c => ?_) (fun c => ?_)
    · rw [if_pos c] at h
      refine am_iload_n dX11_node_175 rfl ?_
      cases h
      exact am_iret dX11_node_176 rfl rfl ⟨rfl, rfl⟩
    · rw [if_neg c] at h
      refine am_aload_n dX11_node_145 rfl ?_
      refine am_get (v := .inr (0, 68)) dX11_node_146 fl_11_24 (hG.m0 (by decide)) rfl ?_
      refine am_sipush (v := nI 640) dX11_node_149 (by decide) ?_
      refine am_iload_n dX11_node_152 rfl ?_
      refine am_imul dX11_node_153 ?_
      refine am_iload dX11_node_154 rfl ?_
      refine am_iadd dX11_node_156 ?_
      obtain ⟨g1, h⟩ := am_gd_some h
      refine am_zaldG dX11_node_157 (hG.m0 (by decide)) rfl g1 (show 2560 < 2 ^ 31 by decide) ?_
      refine am_if_eq (tgt := 167) dX11_node_158 rfl (fun c => ?_) (fun c => ?_)
      · rw [if_pos c] at h
        refine am_iload_n dX11_node_167 rfl ?_
        exact am_lwJ (lo' := [some (.inr (0, 60)), some (.inl l1), none, none, some (.inl l4)]) ⟨rfl, rfl, rfl, trivial⟩ (tX11_node_168 hG hk137 h)
      · rw [if_neg c] at h
        refine am_iload_n dX11_node_161 rfl ?_
        refine am_iconst (v := nI 1) dX11_node_162 (by decide) ?_
        refine am_iadd dX11_node_163 ?_
        refine am_goto (tgt := 168) dX11_node_164 rfl ?_
        exact am_lwJ (lo' := [some (.inr (0, 60)), some (.inl l1), none, none, some (.inl l4)]) ⟨rfl, rfl, rfl, trivial⟩ (tX11_node_168 hG hk137 h)
def bX11_node_206 (n : Nat) (s0 : Int32) (I : am_I) : Option (Int32 × am_I) := some (s0, I)
theorem tX11_node_206 {G : am_G} (hG : am_okM G) {d : Nat} {s0 : Int32} {I : am_I} {r : Int32 × am_I} (h : bX11_node_206 G.2.2.2.1 s0  I = some r) : am_J G (d + 2) mX11_node am_no (am_E (some r.1) r.2) 206 [none, none, none, none, none] [.inl s0] I := by
  unfold bX11_node_206 at h
  cases h
  exact am_iret dX11_node_206 rfl rfl ⟨rfl, rfl⟩
def bX11_node_24 (n : Nat) (l1 : Int32) (l2 : Int32) (s0 : Int32) (I : am_I) : Option (Int32 × am_I) := (gX11_refuse n s0 (nI 0) (nI 0) I).bind (fun q1 => if q1.1 = 0 then (if l2 = nI 0 then (am_gd (am_inb l1 4) (if (q1.2 0 65 l1.toNatClampNeg) = 0 then (bX11_node_90 n (nI 0) q1.2) else (bX11_node_90 n (nI 1) q1.2))) else (if l2 = nI 1 then (am_gd (am_inb l1 4) (if (q1.2 0 66 l1.toNatClampNeg) = 0 then (bX11_node_105 n (nI 0) q1.2) else (bX11_node_105 n (nI 1) q1.2))) else (if l2 = nI 2 then (am_gd (am_inb l1 4) (some (q1.2 0 70 l1.toNatClampNeg, q1.2))) else (if l2 = nI 3 then (am_gd (am_inb l1 4) (am_gd (am_inb l1 4) (some ((q1.2 0 72 l1.toNatClampNeg) - (q1.2 0 73 l1.toNatClampNeg), q1.2)))) else (if l2 = nI 4 then (am_gd (am_inb l1 4) (some (q1.2 0 71 l1.toNatClampNeg, q1.2))) else (if l2 = nI 5 then (bX11_node_137 n am_fu l1 (nI 0) (nI 0) q1.2) else (am_gd (am_inb l1 4) (if (q1.2 0 72 l1.toNatClampNeg) ≤ 0 then (bX11_node_206 n (-1 : Int32) q1.2) else (am_gd (am_inb l1 4) (am_gd (am_inb (((nI 36) * l1) + (q1.2 0 73 l1.toNatClampNeg)) 144) (bX11_node_206 n (q1.2 0 74 ((((nI 36) * l1) + (q1.2 0 73 l1.toNatClampNeg)).toNatClampNeg)) q1.2))))))))))) else (some (nI 0, q1.2)))
theorem tX11_node_24 {G : am_G} (hG : am_okM G) {d : Nat} {l1 : Int32} {l2 : Int32} {s0 : Int32} {I : am_I} {r : Int32 × am_I} (h : bX11_node_24 G.2.2.2.1 l1 l2 s0  I = some r) : am_J G (d + 2) mX11_node am_no (am_E (some r.1) r.2) 24 [some (.inr (0, 60)), some (.inl l1), some (.inl l2), none, none] [.inl s0, .inr (0, 60)] I := by
  unfold bX11_node_24 at h
  refine am_iconst (v := nI 0) dX11_node_24 (by decide) ?_
  refine am_iconst (v := nI 0) dX11_node_25 (by decide) ?_
  obtain ⟨q1, hq1, h⟩ := am_bd h
  refine am_callVx (i := 0) (j := 60) (as := [.inl s0, .inl (nI 0), .inl (nI 0)]) (rest := []) dX11_node_26 lkX11_refuse ml_X11_441 imX11_refuse seX11_refuse rfl rfl (hG.m0 (by decide)) rfl (Nat.le_of_ble_eq_true rfl) rfl (sX11_refuse hG hq1) ?_
  refine am_if_eq (tgt := 34) dX11_node_29 rfl (fun c => ?_) (fun c => ?_)
  · rw [if_pos c] at h
    refine am_iconst (v := nI 0) dX11_node_34 (by decide) ?_
    refine am_istore_n dX11_node_35 (by decide) ?_
    refine am_iload_n dX11_node_36 rfl ?_
    rcases am_sw 5 l2 with ⟨m, hm, hx⟩ | hx
    · match m, hm, hx with
      | 0, _, hx =>
        rw [if_pos hx] at h
        refine am_tabIn (off := 39) (tgt := 76) dX11_node_37 (by rw [hx]; decide) (by rw [hx]; decide) (by rw [hx]; rfl) rfl ?_
        refine am_aload_n dX11_node_76 rfl ?_
        refine am_get (v := .inr (0, 65)) dX11_node_77 fl_11_13 (hG.m0 (by decide)) rfl ?_
        refine am_iload_n dX11_node_80 rfl ?_
        obtain ⟨g2, h⟩ := am_gd_some h
        refine am_zaldG dX11_node_81 (hG.m0 (by decide)) rfl g2 (show 4 < 2 ^ 31 by decide) ?_
        refine am_if_eq (tgt := 89) dX11_node_82 rfl (fun c => ?_) (fun c => ?_)
        · rw [if_pos c] at h
          refine am_iconst (v := nI 0) dX11_node_89 (by decide) ?_
          exact am_lwJ (lo' := [none, none, none, none, none]) trivial (tX11_node_90 hG h)
        · rw [if_neg c] at h
          refine am_iconst (v := nI 1) dX11_node_85 (by decide) ?_
          refine am_goto (tgt := 90) dX11_node_86 rfl ?_
          exact am_lwJ (lo' := [none, none, none, none, none]) trivial (tX11_node_90 hG h)
      | 1, _, hx =>
        rw [if_neg (show ¬ l2 = nI 0 by rw [hx]; decide)] at h
        rw [if_pos hx] at h
        refine am_tabIn (off := 54) (tgt := 91) dX11_node_37 (by rw [hx]; decide) (by rw [hx]; decide) (by rw [hx]; rfl) rfl ?_
        refine am_aload_n dX11_node_91 rfl ?_
        refine am_get (v := .inr (0, 66)) dX11_node_92 fl_11_17 (hG.m0 (by decide)) rfl ?_
        refine am_iload_n dX11_node_95 rfl ?_
        obtain ⟨g3, h⟩ := am_gd_some h
        refine am_zaldG dX11_node_96 (hG.m0 (by decide)) rfl g3 (show 4 < 2 ^ 31 by decide) ?_
        refine am_if_eq (tgt := 104) dX11_node_97 rfl (fun c => ?_) (fun c => ?_)
        · rw [if_pos c] at h
          refine am_iconst (v := nI 0) dX11_node_104 (by decide) ?_
          exact am_lwJ (lo' := [none, none, none, none, none]) trivial (tX11_node_105 hG h)
        · rw [if_neg c] at h
          refine am_iconst (v := nI 1) dX11_node_100 (by decide) ?_
          refine am_goto (tgt := 105) dX11_node_101 rfl ?_
          exact am_lwJ (lo' := [none, none, none, none, none]) trivial (tX11_node_105 hG h)
      | 2, _, hx =>
        rw [if_neg (show ¬ l2 = nI 0 by rw [hx]; decide), if_neg (show ¬ l2 = nI 1 by rw [hx]; decide)] at h
        rw [if_pos hx] at h
        refine am_tabIn (off := 69) (tgt := 106) dX11_node_37 (by rw [hx]; decide) (by rw [hx]; decide) (by rw [hx]; rfl) rfl ?_
        refine am_aload_n dX11_node_106 rfl ?_
        refine am_get (v := .inr (0, 70)) dX11_node_107 fl_11_30 (hG.m0 (by decide)) rfl ?_
        refine am_iload_n dX11_node_110 rfl ?_
        obtain ⟨g4, h⟩ := am_gd_some h
        refine am_ialdG dX11_node_111 (hG.m0 (by decide)) rfl g4 (show 4 < 2 ^ 31 by decide) ?_
        cases h
        exact am_iret dX11_node_112 rfl rfl ⟨rfl, rfl⟩
      | 3, _, hx =>
        rw [if_neg (show ¬ l2 = nI 0 by rw [hx]; decide), if_neg (show ¬ l2 = nI 1 by rw [hx]; decide), if_neg (show ¬ l2 = nI 2 by rw [hx]; decide)] at h
        rw [if_pos hx] at h
        refine am_tabIn (off := 76) (tgt := 113) dX11_node_37 (by rw [hx]; decide) (by rw [hx]; decide) (by rw [hx]; rfl) rfl ?_
        refine am_aload_n dX11_node_113 rfl ?_
        refine am_get (v := .inr (0, 72)) dX11_node_114 fl_11_36 (hG.m0 (by decide)) rfl ?_
        refine am_iload_n dX11_node_117 rfl ?_
        obtain ⟨g5, h⟩ := am_gd_some h
        refine am_ialdG dX11_node_118 (hG.m0 (by decide)) rfl g5 (show 4 < 2 ^ 31 by decide) ?_
        refine am_aload_n dX11_node_119 rfl ?_
        refine am_get (v := .inr (0, 73)) dX11_node_120 fl_11_39 (hG.m0 (by decide)) rfl ?_
        refine am_iload_n dX11_node_123 rfl ?_
        obtain ⟨g6, h⟩ := am_gd_some h
        refine am_ialdG dX11_node_124 (hG.m0 (by decide)) rfl g6 (show 4 < 2 ^ 31 by decide) ?_
        refine am_isub dX11_node_125 ?_
        cases h
        exact am_iret dX11_node_126 rfl rfl ⟨rfl, rfl⟩
      | 4, _, hx =>
        rw [if_neg (show ¬ l2 = nI 0 by rw [hx]; decide), if_neg (show ¬ l2 = nI 1 by rw [hx]; decide), if_neg (show ¬ l2 = nI 2 by rw [hx]; decide), if_neg (show ¬ l2 = nI 3 by rw [hx]; decide)] at h
        rw [if_pos hx] at h
        refine am_tabIn (off := 90) (tgt := 127) dX11_node_37 (by rw [hx]; decide) (by rw [hx]; decide) (by rw [hx]; rfl) rfl ?_
        refine am_aload_n dX11_node_127 rfl ?_
        refine am_get (v := .inr (0, 71)) dX11_node_128 fl_11_33 (hG.m0 (by decide)) rfl ?_
        refine am_iload_n dX11_node_131 rfl ?_
        obtain ⟨g7, h⟩ := am_gd_some h
        refine am_ialdG dX11_node_132 (hG.m0 (by decide)) rfl g7 (show 4 < 2 ^ 31 by decide) ?_
        cases h
        exact am_iret dX11_node_133 rfl rfl ⟨rfl, rfl⟩
      | 5, _, hx =>
        rw [if_neg (show ¬ l2 = nI 0 by rw [hx]; decide), if_neg (show ¬ l2 = nI 1 by rw [hx]; decide), if_neg (show ¬ l2 = nI 2 by rw [hx]; decide), if_neg (show ¬ l2 = nI 3 by rw [hx]; decide), if_neg (show ¬ l2 = nI 4 by rw [hx]; decide)] at h
        rw [if_pos hx] at h
        refine am_tabIn (off := 97) (tgt := 134) dX11_node_37 (by rw [hx]; decide) (by rw [hx]; decide) (by rw [hx]; rfl) rfl ?_
        refine am_iconst (v := nI 0) dX11_node_134 (by decide) ?_
        refine am_istore dX11_node_135 (by decide) ?_
        exact am_lwJ (lo' := [some (.inr (0, 60)), some (.inl l1), none, some (.inl (nI 0)), some (.inl (nI 0))]) ⟨rfl, rfl, rfl, rfl, trivial⟩ (tX11_node_137 hG h)
      | m + 6, hm, _ => exact absurd hm (by omega)
    · rw [if_neg (am_swd (k := 0) hx (by decide) (by decide)), if_neg (am_swd (k := 1) hx (by decide) (by decide)), if_neg (am_swd (k := 2) hx (by decide) (by decide)), if_neg (am_swd (k := 3) hx (by decide) (by decide)), if_neg (am_swd (k := 4) hx (by decide) (by decide)), if_neg (am_swd (k := 5) hx (by decide) (by decide))] at h
      refine am_tabOut (tgt := 177) dX11_node_37 (by omega) rfl ?_
      refine am_aload_n dX11_node_177 rfl ?_
      refine am_get (v := .inr (0, 72)) dX11_node_178 fl_11_36 (hG.m0 (by decide)) rfl ?_
      refine am_iload_n dX11_node_181 rfl ?_
      obtain ⟨g8, h⟩ := am_gd_some h
      refine am_ialdG dX11_node_182 (hG.m0 (by decide)) rfl g8 (show 4 < 2 ^ 31 by decide) ?_
      refine am_if_le (tgt := 205) dX11_node_183 rfl (fun c => ?_) (fun c => ?_)
      · rw [if_pos c] at h
        refine am_iconst (v := (-1 : Int32)) dX11_node_205 (by decide) ?_
        exact am_lwJ (lo' := [none, none, none, none, none]) trivial (tX11_node_206 hG h)
      · rw [if_neg c] at h
        refine am_aload_n dX11_node_186 rfl ?_
        refine am_get (v := .inr (0, 74)) dX11_node_187 fl_11_42 (hG.m0 (by decide)) rfl ?_
        refine am_bipush (v := nI 36) dX11_node_190 (by decide) ?_
        refine am_iload_n dX11_node_192 rfl ?_
        refine am_imul dX11_node_193 ?_
        refine am_aload_n dX11_node_194 rfl ?_
        refine am_get (v := .inr (0, 73)) dX11_node_195 fl_11_39 (hG.m0 (by decide)) rfl ?_
        refine am_iload_n dX11_node_198 rfl ?_
        obtain ⟨g9, h⟩ := am_gd_some h
        refine am_ialdG dX11_node_199 (hG.m0 (by decide)) rfl g9 (show 4 < 2 ^ 31 by decide) ?_
        refine am_iadd dX11_node_200 ?_
        obtain ⟨g10, h⟩ := am_gd_some h
        refine am_ialdG dX11_node_201 (hG.m0 (by decide)) rfl g10 (show 144 < 2 ^ 31 by decide) ?_
        refine am_goto (tgt := 206) dX11_node_202 rfl ?_
        exact am_lwJ (lo' := [none, none, none, none, none]) trivial (tX11_node_206 hG h)
  · rw [if_neg c] at h
    refine am_iconst (v := nI 0) dX11_node_32 (by decide) ?_
    cases h
    exact am_iret dX11_node_33 rfl rfl ⟨rfl, rfl⟩
def bX11_node_19 (n : Nat) (l1 : Int32) (l2 : Int32) (I : am_I) : Option (Int32 × am_I) := bX11_node_24 n l1 l2 (nI 1) I
theorem tX11_node_19 {G : am_G} (hG : am_okM G) {d : Nat} {l1 : Int32} {l2 : Int32} {I : am_I} {r : Int32 × am_I} (h : bX11_node_19 G.2.2.2.1 l1 l2  I = some r) : am_J G (d + 2) mX11_node am_no (am_E (some r.1) r.2) 19 [some (.inr (0, 60)), some (.inl l1), some (.inl l2), none, none] [.inr (0, 60)] I := by
  unfold bX11_node_19 at h
  refine am_iconst (v := nI 1) dX11_node_19 (by decide) ?_
  refine am_goto (tgt := 24) dX11_node_20 rfl ?_
  exact am_lwJ (lo' := [some (.inr (0, 60)), some (.inl l1), some (.inl l2), none, none]) ⟨rfl, rfl, rfl, trivial⟩ (tX11_node_24 hG h)
def bX11_node_0 (n : Nat) (l1 : Int32) (l2 : Int32) (I : am_I) : Option (Int32 × am_I) := (gX11_isNode n l1 I).bind (fun q1 => if q1.1 = 0 then (bX11_node_19 n l1 l2 q1.2) else ((gX11_in n l2 (nI 0) (nI 6) q1.2).bind (fun q2 => if q2.1 = 0 then (bX11_node_19 n l1 l2 q2.2) else (bX11_node_24 n l1 l2 (nI 0) q2.2))))
theorem tX11_node_0 {G : am_G} (hG : am_okM G) {d : Nat} {l1 : Int32} {l2 : Int32} {I : am_I} {r : Int32 × am_I} (h : bX11_node_0 G.2.2.2.1 l1 l2  I = some r) : am_J G (d + 2) mX11_node am_no (am_E (some r.1) r.2) 0 [some (.inr (0, 60)), some (.inl l1), some (.inl l2), none, none] [] I := by
  unfold bX11_node_0 at h
  refine am_aload_n dX11_node_0 rfl ?_
  refine am_aload_n dX11_node_1 rfl ?_
  refine am_iload_n dX11_node_2 rfl ?_
  obtain ⟨q1, hq1, h⟩ := am_bd h
  refine am_callVx (i := 0) (j := 60) (as := [.inl l1]) (rest := [.inr (0, 60)]) dX11_node_3 lkX11_isNode ml_X11_434 imX11_isNode seX11_isNode rfl rfl (hG.m0 (by decide)) rfl (Nat.le_of_ble_eq_true rfl) rfl (sX11_isNode hG hq1) ?_
  refine am_if_eq (tgt := 19) dX11_node_6 rfl (fun c => ?_) (fun c => ?_)
  · rw [if_pos c] at h
    exact am_lwJ (lo' := [some (.inr (0, 60)), some (.inl l1), some (.inl l2), none, none]) ⟨rfl, rfl, rfl, trivial⟩ (tX11_node_19 hG h)
  · rw [if_neg c] at h
    refine am_iload_n dX11_node_9 rfl ?_
    refine am_iconst (v := nI 0) dX11_node_10 (by decide) ?_
    refine am_bipush (v := nI 6) dX11_node_11 (by decide) ?_
    obtain ⟨q2, hq2, h⟩ := am_bd h
    refine am_callSx (as := [.inl l2, .inl (nI 0), .inl (nI 6)]) (rest := [.inr (0, 60)]) dX11_node_13 lkX11_in ml_X11_243 isX11_in rfl (Nat.le_of_ble_eq_true rfl) rfl (sX11_in hG hq2) ?_
    refine am_if_ne (tgt := 23) dX11_node_16 rfl (fun c => ?_) (fun c => ?_)
    · rw [if_neg c] at h
      refine am_iconst (v := nI 0) dX11_node_23 (by decide) ?_
      exact am_lwJ (lo' := [some (.inr (0, 60)), some (.inl l1), some (.inl l2), none, none]) ⟨rfl, rfl, rfl, trivial⟩ (tX11_node_24 hG h)
    · rw [if_pos c] at h
      exact am_lwJ (lo' := [some (.inr (0, 60)), some (.inl l1), some (.inl l2), none, none]) ⟨rfl, rfl, rfl, trivial⟩ (tX11_node_19 hG h)
def gX11_node (n : Nat) (l1 : Int32) (l2 : Int32) (I : am_I) : Option (Int32 × am_I) := bX11_node_0 n l1 l2 I
theorem sX11_node {G : am_G} (hG : am_okM G) {d : Nat} {l1 : Int32} {l2 : Int32} {I : am_I} {r : Int32 × am_I} (h : gX11_node G.2.2.2.1 l1 l2 I = some r) : am_C G (d + 2) mX11_node [.inr (0, 60), .inl l1, .inl l2] I (am_E (some r.1) r.2) :=
  am_of (by decide +kernel) hG.nd (Nat.le_of_ble_eq_true rfl) (am_lwJ (lo' := [some (.inr (0, 60)), some (.inl l1), some (.inl l2), none, none]) ⟨rfl, rfl, rfl, trivial⟩ (tX11_node_0 hG h))
def bX11_used_80 (n : Nat) (k4 : Int32 → Int32 → Int32 → am_I → Option (Int32 × am_I)) (k13 : Int32 → Int32 → Int32 → Int32 → am_I → Option (Int32 × am_I)) (l1 : Int32) (l3 : Int32) (l4 : Int32) (s0 : Int32) (I : am_I) : Option (Int32 × am_I) := k13 l1 s0 l3 (l4 + nI 1) I
theorem tX11_used_80 {G : am_G} (hG : am_okM G) {d : Nat} {k4 : Int32 → Int32 → Int32 → am_I → Option (Int32 × am_I)} {k13 : Int32 → Int32 → Int32 → Int32 → am_I → Option (Int32 × am_I)} (hk4 : ∀ (l1 : Int32) (l2 : Int32) (l3 : Int32) (I : am_I) (r : Int32 × am_I), k4 l1 l2 l3 I = some r → am_J G (d + 1) mX11_used am_no (am_E (some r.1) r.2) 4 [some (.inr (0, 60)), some (.inl l1), some (.inl l2), some (.inl l3), none, none] [] I) (hk13 : ∀ (l1 : Int32) (l2 : Int32) (l3 : Int32) (l4 : Int32) (I : am_I) (r : Int32 × am_I), k13 l1 l2 l3 l4 I = some r → am_J G (d + 1) mX11_used am_no (am_E (some r.1) r.2) 13 [some (.inr (0, 60)), some (.inl l1), some (.inl l2), some (.inl l3), some (.inl l4), none] [] I) {l1 : Int32} {l3 : Int32} {l4 : Int32} {s0 : Int32} {I : am_I} {r : Int32 × am_I} (h : bX11_used_80 G.2.2.2.1 k4 k13 l1 l3 l4 s0  I = some r) : am_J G (d + 1) mX11_used am_no (am_E (some r.1) r.2) 80 [some (.inr (0, 60)), some (.inl l1), none, some (.inl l3), some (.inl l4), none] [.inl s0] I := by
  unfold bX11_used_80 at h
  refine am_istore_n dX11_used_80 (by decide) ?_
  refine am_iinc (v := l4 + nI 1) dX11_used_81 rfl rfl ?_
  refine am_goto (tgt := 13) dX11_used_84 rfl ?_
  exact am_lwJ (lo' := [some (.inr (0, 60)), some (.inl l1), some (.inl s0), some (.inl l3), some (.inl (l4 + nI 1)), none]) ⟨rfl, rfl, rfl, rfl, rfl, trivial⟩ (hk13 l1 s0 l3 (l4 + nI 1) _ _ h)
def bX11_used_55 (n : Nat) (k4 : Int32 → Int32 → Int32 → am_I → Option (Int32 × am_I)) (k13 : Int32 → Int32 → Int32 → Int32 → am_I → Option (Int32 × am_I)) (l1 : Int32) (l2 : Int32) (l3 : Int32) (l4 : Int32) (s0 : Int32) (s1 : Int32) (I : am_I) : Option (Int32 × am_I) := am_gd (am_inb (s1 + s0) 10240) (if (((I 0 64 ((s1 + s0).toNatClampNeg)) >>> ((l4 - l4 / (nI 32) * (nI 32)) &&& 31)) &&& (nI 1)) = (nI 1) then (bX11_used_80 n k4 k13 l1 l3 l4 (l2 + (nI 1)) I) else (bX11_used_80 n k4 k13 l1 l3 l4 l2 I))
theorem tX11_used_55 {G : am_G} (hG : am_okM G) {d : Nat} {k4 : Int32 → Int32 → Int32 → am_I → Option (Int32 × am_I)} {k13 : Int32 → Int32 → Int32 → Int32 → am_I → Option (Int32 × am_I)} (hk4 : ∀ (l1 : Int32) (l2 : Int32) (l3 : Int32) (I : am_I) (r : Int32 × am_I), k4 l1 l2 l3 I = some r → am_J G (d + 1) mX11_used am_no (am_E (some r.1) r.2) 4 [some (.inr (0, 60)), some (.inl l1), some (.inl l2), some (.inl l3), none, none] [] I) (hk13 : ∀ (l1 : Int32) (l2 : Int32) (l3 : Int32) (l4 : Int32) (I : am_I) (r : Int32 × am_I), k13 l1 l2 l3 l4 I = some r → am_J G (d + 1) mX11_used am_no (am_E (some r.1) r.2) 13 [some (.inr (0, 60)), some (.inl l1), some (.inl l2), some (.inl l3), some (.inl l4), none] [] I) {l1 : Int32} {l2 : Int32} {l3 : Int32} {l4 : Int32} {s0 : Int32} {s1 : Int32} {I : am_I} {r : Int32 × am_I} (h : bX11_used_55 G.2.2.2.1 k4 k13 l1 l2 l3 l4 s0 s1  I = some r) : am_J G (d + 1) mX11_used am_no (am_E (some r.1) r.2) 55 [some (.inr (0, 60)), some (.inl l1), some (.inl l2), some (.inl l3), some (.inl l4), none] [.inl s0, .inl s1, .inr (0, 64)] I := by
  unfold bX11_used_55 at h
  refine am_iadd dX11_used_55 ?_
  obtain ⟨g1, h⟩ := am_gd_some h
  refine am_ialdG dX11_used_56 (hG.m0 (by decide)) rfl g1 (show 10240 < 2 ^ 31 by decide) ?_
  refine am_istore dX11_used_57 (by decide) ?_
  refine am_iload dX11_used_59 rfl ?_
  refine am_iload dX11_used_61 rfl ?_
  refine am_bipush (v := nI 32) dX11_used_63 (by decide) ?_
  refine am_irem dX11_used_65 (by decide) ?_
  refine am_ishr dX11_used_66 ?_
  refine am_iconst (v := nI 1) dX11_used_67 (by decide) ?_
  refine am_iand dX11_used_68 ?_
  refine am_iconst (v := nI 1) dX11_used_69 (by decide) ?_
  refine am_icmp_ne (tgt := 79) dX11_used_70 rfl (fun c => ?_) (fun c => ?_)
  · rw [if_neg c] at h
    refine am_iload_n dX11_used_79 rfl ?_
    exact am_lwJ (lo' := [some (.inr (0, 60)), some (.inl l1), none, some (.inl l3), some (.inl l4), none]) ⟨rfl, rfl, rfl, rfl, trivial⟩ (tX11_used_80 hG hk4 hk13 h)
  · rw [if_pos c] at h
    refine am_iload_n dX11_used_73 rfl ?_
    refine am_iconst (v := nI 1) dX11_used_74 (by decide) ?_
    refine am_iadd dX11_used_75 ?_
    refine am_goto (tgt := 80) dX11_used_76 rfl ?_
    exact am_lwJ (lo' := [some (.inr (0, 60)), some (.inl l1), none, some (.inl l3), some (.inl l4), none]) ⟨rfl, rfl, rfl, rfl, trivial⟩ (tX11_used_80 hG hk4 hk13 h)
def bX11_used_26 (n : Nat) (k4 : Int32 → Int32 → Int32 → am_I → Option (Int32 × am_I)) (k13 : Int32 → Int32 → Int32 → Int32 → am_I → Option (Int32 × am_I)) (l1 : Int32) (l2 : Int32) (l3 : Int32) (l4 : Int32) (s0 : Int32) (s1 : Int32) (I : am_I) : Option (Int32 × am_I) := if s0 ≤ s1 then (k4 l1 l2 (l3 + nI 1) I) else ((gX11_mapOf n l3 I).bind (fun q1 => if l1 = 0 then (bX11_used_55 n k4 k13 l1 l2 l3 l4 ((nI 1) + (l4 / (nI 32))) ((nI 16) * q1.1) q1.2) else (bX11_used_55 n k4 k13 l1 l2 l3 l4 (nI 0) ((nI 16) * q1.1) q1.2)))
theorem tX11_used_26 {G : am_G} (hG : am_okM G) {d : Nat} {k4 : Int32 → Int32 → Int32 → am_I → Option (Int32 × am_I)} {k13 : Int32 → Int32 → Int32 → Int32 → am_I → Option (Int32 × am_I)} (hk4 : ∀ (l1 : Int32) (l2 : Int32) (l3 : Int32) (I : am_I) (r : Int32 × am_I), k4 l1 l2 l3 I = some r → am_J G (d + 1) mX11_used am_no (am_E (some r.1) r.2) 4 [some (.inr (0, 60)), some (.inl l1), some (.inl l2), some (.inl l3), none, none] [] I) (hk13 : ∀ (l1 : Int32) (l2 : Int32) (l3 : Int32) (l4 : Int32) (I : am_I) (r : Int32 × am_I), k13 l1 l2 l3 l4 I = some r → am_J G (d + 1) mX11_used am_no (am_E (some r.1) r.2) 13 [some (.inr (0, 60)), some (.inl l1), some (.inl l2), some (.inl l3), some (.inl l4), none] [] I) {l1 : Int32} {l2 : Int32} {l3 : Int32} {l4 : Int32} {s0 : Int32} {s1 : Int32} {I : am_I} {r : Int32 × am_I} (h : bX11_used_26 G.2.2.2.1 k4 k13 l1 l2 l3 l4 s0 s1  I = some r) : am_J G (d + 1) mX11_used am_no (am_E (some r.1) r.2) 26 [some (.inr (0, 60)), some (.inl l1), some (.inl l2), some (.inl l3), some (.inl l4), none] [.inl s0, .inl s1] I := by
  unfold bX11_used_26 at h
  refine am_icmp_ge (tgt := 87) dX11_used_26 rfl (fun c => ?_) (fun c => ?_)
  · rw [if_pos c] at h
    refine am_iinc (v := l3 + nI 1) dX11_used_87 rfl rfl ?_
    refine am_goto (tgt := 4) dX11_used_90 rfl ?_
    exact am_lwJ (lo' := [some (.inr (0, 60)), some (.inl l1), some (.inl l2), some (.inl (l3 + nI 1)), none, none]) ⟨rfl, rfl, rfl, rfl, trivial⟩ (hk4 l1 l2 (l3 + nI 1) _ _ h)
  · rw [if_neg c] at h
    refine am_aload_n dX11_used_29 rfl ?_
    refine am_get (v := .inr (0, 64)) dX11_used_30 fl_11_7 (hG.m0 (by decide)) rfl ?_
    refine am_bipush (v := nI 16) dX11_used_33 (by decide) ?_
    refine am_iload_n dX11_used_35 rfl ?_
    obtain ⟨q1, hq1, h⟩ := am_bd h
    refine am_callSx (as := [.inl l3]) (rest := [.inl (nI 16), .inr (0, 64)]) dX11_used_36 lkX11_mapOf ml_X11_181 isX11_mapOf rfl (Nat.le_of_ble_eq_true rfl) rfl (sX11_mapOf hG hq1) ?_
    refine am_imul dX11_used_39 ?_
    refine am_iload_n dX11_used_40 rfl ?_
    refine am_if_eq (tgt := 48) dX11_used_41 rfl (fun c => ?_) (fun c => ?_)
    · rw [if_pos c] at h
      refine am_iconst (v := nI 1) dX11_used_48 (by decide) ?_
      refine am_iload dX11_used_49 rfl ?_
      refine am_bipush (v := nI 32) dX11_used_51 (by decide) ?_
      refine am_idiv dX11_used_53 (by decide) ?_
      refine am_iadd dX11_used_54 ?_
      exact am_lwJ (lo' := [some (.inr (0, 60)), some (.inl l1), some (.inl l2), some (.inl l3), some (.inl l4), none]) ⟨rfl, rfl, rfl, rfl, rfl, trivial⟩ (tX11_used_55 hG hk4 hk13 h)
    · rw [if_neg c] at h
      refine am_iconst (v := nI 0) dX11_used_44 (by decide) ?_
      refine am_goto (tgt := 55) dX11_used_45 rfl ?_
      exact am_lwJ (lo' := [some (.inr (0, 60)), some (.inl l1), some (.inl l2), some (.inl l3), some (.inl l4), none]) ⟨rfl, rfl, rfl, rfl, rfl, trivial⟩ (tX11_used_55 hG hk4 hk13 h)
def bX11_used_13 (n : Nat) (k4 : Int32 → Int32 → Int32 → am_I → Option (Int32 × am_I)) : Nat → Int32 → Int32 → Int32 → Int32 → am_I → Option (Int32 × am_I)
  | 0, _, _, _, _, _ => none
  | fu + 1, l1, l2, l3, l4, I => (fun k13 => if l1 = 0 then (bX11_used_26 n k4 k13 l1 l2 l3 l4 (nI 47) l4 I) else (bX11_used_26 n k4 k13 l1 l2 l3 l4 (nI 16) l4 I)) (bX11_used_13 n k4 fu)
theorem tX11_used_13 {G : am_G} (hG : am_okM G) {d : Nat} {k4 : Int32 → Int32 → Int32 → am_I → Option (Int32 × am_I)} (hk4 : ∀ (l1 : Int32) (l2 : Int32) (l3 : Int32) (I : am_I) (r : Int32 × am_I), k4 l1 l2 l3 I = some r → am_J G (d + 1) mX11_used am_no (am_E (some r.1) r.2) 4 [some (.inr (0, 60)), some (.inl l1), some (.inl l2), some (.inl l3), none, none] [] I) : ∀ {fu : Nat} {l1 : Int32} {l2 : Int32} {l3 : Int32} {l4 : Int32} {I : am_I} {r : Int32 × am_I}, bX11_used_13 G.2.2.2.1 k4 fu l1 l2 l3 l4 I = some r → am_J G (d + 1) mX11_used am_no (am_E (some r.1) r.2) 13 [some (.inr (0, 60)), some (.inl l1), some (.inl l2), some (.inl l3), some (.inl l4), none] [] I := by
  intro fu
  induction fu with
  | zero => intro l1 l2 l3 l4 I r h; cases h
  | succ fu ih =>
    intro l1 l2 l3 l4 I r h
    have hk13 : ∀ (l1 : Int32) (l2 : Int32) (l3 : Int32) (l4 : Int32) (I : am_I) (r : Int32 × am_I), bX11_used_13 G.2.2.2.1 k4 fu l1 l2 l3 l4 I = some r → am_J G (d + 1) mX11_used am_no (am_E (some r.1) r.2) 13 [some (.inr (0, 60)), some (.inl l1), some (.inl l2), some (.inl l3), some (.inl l4), none] [] I := fun l1 l2 l3 l4 I r h => ih h
    unfold bX11_used_13 at h
    generalize bX11_used_13 G.2.2.2.1 k4 fu = k13 at hk13 h
    dsimp only at h
    refine am_iload dX11_used_13 rfl ?_
    refine am_iload_n dX11_used_15 rfl ?_
    refine am_if_eq (tgt := 24) dX11_used_16 rfl (fun c => ?_) (fun c => ?_)
    · rw [if_pos c] at h
      refine am_bipush (v := nI 47) dX11_used_24 (by decide) ?_
      exact am_lwJ (lo' := [some (.inr (0, 60)), some (.inl l1), some (.inl l2), some (.inl l3), some (.inl l4), none]) ⟨rfl, rfl, rfl, rfl, rfl, trivial⟩ (tX11_used_26 hG hk4 hk13 h)
    · rw [if_neg c] at h
      refine am_bipush (v := nI 16) dX11_used_19 (by decide) ?_
      refine am_goto (tgt := 26) dX11_used_21 rfl ?_
      exact am_lwJ (lo' := [some (.inr (0, 60)), some (.inl l1), some (.inl l2), some (.inl l3), some (.inl l4), none]) ⟨rfl, rfl, rfl, rfl, rfl, trivial⟩ (tX11_used_26 hG hk4 hk13 h)
def bX11_used_4 (n : Nat) : Nat → Int32 → Int32 → Int32 → am_I → Option (Int32 × am_I)
  | 0, _, _, _, _ => none
  | fu + 1, l1, l2, l3, I => (fun k4 => if (nI 8) ≤ l3 then (some (l2, I)) else (bX11_used_13 n k4 am_fu l1 l2 l3 (nI 0) I)) (bX11_used_4 n fu)
theorem tX11_used_4 {G : am_G} (hG : am_okM G) {d : Nat} : ∀ {fu : Nat} {l1 : Int32} {l2 : Int32} {l3 : Int32} {I : am_I} {r : Int32 × am_I}, bX11_used_4 G.2.2.2.1 fu l1 l2 l3 I = some r → am_J G (d + 1) mX11_used am_no (am_E (some r.1) r.2) 4 [some (.inr (0, 60)), some (.inl l1), some (.inl l2), some (.inl l3), none, none] [] I := by
  intro fu
  induction fu with
  | zero => intro l1 l2 l3 I r h; cases h
  | succ fu ih =>
    intro l1 l2 l3 I r h
    have hk4 : ∀ (l1 : Int32) (l2 : Int32) (l3 : Int32) (I : am_I) (r : Int32 × am_I), bX11_used_4 G.2.2.2.1 fu l1 l2 l3 I = some r → am_J G (d + 1) mX11_used am_no (am_E (some r.1) r.2) 4 [some (.inr (0, 60)), some (.inl l1), some (.inl l2), some (.inl l3), none, none] [] I := fun l1 l2 l3 I r h => ih h
    unfold bX11_used_4 at h
    generalize bX11_used_4 G.2.2.2.1 fu = k4 at hk4 h
    dsimp only at h
    refine am_iload_n dX11_used_4 rfl ?_
    refine am_bipush (v := nI 8) dX11_used_5 (by decide) ?_
    refine am_icmp_ge (tgt := 93) dX11_used_7 rfl (fun c => ?_) (fun c => ?_)
    · rw [if_pos c] at h
      refine am_iload_n dX11_used_93 rfl ?_
      cases h
      exact am_iret dX11_used_94 rfl rfl ⟨rfl, rfl⟩
    · rw [if_neg c] at h
      refine am_iconst (v := nI 0) dX11_used_10 (by decide) ?_
      refine am_istore dX11_used_11 (by decide) ?_
      exact am_lwJ (lo' := [some (.inr (0, 60)), some (.inl l1), some (.inl l2), some (.inl l3), some (.inl (nI 0)), none]) ⟨rfl, rfl, rfl, rfl, rfl, trivial⟩ (tX11_used_13 hG hk4 h)
def bX11_used_0 (n : Nat) (l1 : Int32) (I : am_I) : Option (Int32 × am_I) := bX11_used_4 n am_fu l1 (nI 0) (nI 0) I
theorem tX11_used_0 {G : am_G} (hG : am_okM G) {d : Nat} {l1 : Int32} {I : am_I} {r : Int32 × am_I} (h : bX11_used_0 G.2.2.2.1 l1  I = some r) : am_J G (d + 1) mX11_used am_no (am_E (some r.1) r.2) 0 [some (.inr (0, 60)), some (.inl l1), none, none, none, none] [] I := by
  unfold bX11_used_0 at h
  refine am_iconst (v := nI 0) dX11_used_0 (by decide) ?_
  refine am_istore_n dX11_used_1 (by decide) ?_
  refine am_iconst (v := nI 0) dX11_used_2 (by decide) ?_
  refine am_istore_n dX11_used_3 (by decide) ?_
  exact am_lwJ (lo' := [some (.inr (0, 60)), some (.inl l1), some (.inl (nI 0)), some (.inl (nI 0)), none, none]) ⟨rfl, rfl, rfl, rfl, trivial⟩ (tX11_used_4 hG h)
def gX11_used (n : Nat) (l1 : Int32) (I : am_I) : Option (Int32 × am_I) := bX11_used_0 n l1 I
theorem sX11_used {G : am_G} (hG : am_okM G) {d : Nat} {l1 : Int32} {I : am_I} {r : Int32 × am_I} (h : gX11_used G.2.2.2.1 l1 I = some r) : am_C G (d + 1) mX11_used [.inr (0, 60), .inl l1] I (am_E (some r.1) r.2) :=
  am_of (by decide +kernel) hG.nd (Nat.le_of_ble_eq_true rfl) (am_lwJ (lo' := [some (.inr (0, 60)), some (.inl l1), none, none, none, none]) ⟨rfl, rfl, trivial⟩ (tX11_used_0 hG h))
def bX11_asRecovered_112 (n : Nat) (k29 : Int32 → am_I → Option (am_I)) (k87 : Int32 → Int32 → Int32 → Int32 → am_I → Option (am_I)) : Nat → Int32 → Int32 → Int32 → Int32 → Int32 → Int32 → am_I → Option (am_I)
  | 0, _, _, _, _, _, _, _ => none
  | fu + 1, l1, l2, l3, l4, l5, l6, I => (fun k112 => if (nI 16) ≤ l6 then (k87 l1 l2 l3 (l4 + nI 1) I) else (am_gd (am_inb (((nI 16) * ((l2 + (nI 2)) + l4)) + l6) 10240) (am_gd (am_inb (((nI 16) * l5) + l6) 10240) (am_lt (am_up I 0 127 (((nI 16) * l5) + l6).toNatClampNeg (I 0 64 ((((nI 16) * ((l2 + (nI 2)) + l4)) + l6).toNatClampNeg))) (fun I3 => k112 l1 l2 l3 l4 l5 (l6 + nI 1) I3))))) (bX11_asRecovered_112 n k29 k87 fu)
theorem tX11_asRecovered_112 {G : am_G} (hG : am_okM G) {d : Nat} {k29 : Int32 → am_I → Option (am_I)} {k87 : Int32 → Int32 → Int32 → Int32 → am_I → Option (am_I)} (hk29 : ∀ (l1 : Int32) (I : am_I) (r : am_I), k29 l1 I = some r → am_J G d mX11_asRecovered am_no (am_E none r) 29 [some (.inr (0, 60)), some (.inl l1), none, none, none, none, none] [] I) (hk87 : ∀ (l1 : Int32) (l2 : Int32) (l3 : Int32) (l4 : Int32) (I : am_I) (r : am_I), k87 l1 l2 l3 l4 I = some r → am_J G d mX11_asRecovered am_no (am_E none r) 87 [some (.inr (0, 60)), some (.inl l1), some (.inl l2), some (.inl l3), some (.inl l4), none, none] [] I) : ∀ {fu : Nat} {l1 : Int32} {l2 : Int32} {l3 : Int32} {l4 : Int32} {l5 : Int32} {l6 : Int32} {I : am_I} {r : am_I}, bX11_asRecovered_112 G.2.2.2.1 k29 k87 fu l1 l2 l3 l4 l5 l6 I = some r → am_J G d mX11_asRecovered am_no (am_E none r) 112 [some (.inr (0, 60)), some (.inl l1), some (.inl l2), some (.inl l3), some (.inl l4), some (.inl l5), some (.inl l6)] [] I := by
  intro fu
  induction fu with
  | zero => intro l1 l2 l3 l4 l5 l6 I r h; cases h
  | succ fu ih =>
    intro l1 l2 l3 l4 l5 l6 I r h
    have hk112 : ∀ (l1 : Int32) (l2 : Int32) (l3 : Int32) (l4 : Int32) (l5 : Int32) (l6 : Int32) (I : am_I) (r : am_I), bX11_asRecovered_112 G.2.2.2.1 k29 k87 fu l1 l2 l3 l4 l5 l6 I = some r → am_J G d mX11_asRecovered am_no (am_E none r) 112 [some (.inr (0, 60)), some (.inl l1), some (.inl l2), some (.inl l3), some (.inl l4), some (.inl l5), some (.inl l6)] [] I := fun l1 l2 l3 l4 l5 l6 I r h => ih h
    unfold bX11_asRecovered_112 at h
    generalize bX11_asRecovered_112 G.2.2.2.1 k29 k87 fu = k112 at hk112 h
    dsimp only at h
    refine am_iload dX11_asRecovered_112 rfl ?_
    refine am_bipush (v := nI 16) dX11_asRecovered_114 (by decide) ?_
    refine am_icmp_ge (tgt := 155) dX11_asRecovered_116 rfl (fun c => ?_) (fun c => ?_)
    · rw [if_pos c] at h
      refine am_iinc (v := l4 + nI 1) dX11_asRecovered_155 rfl rfl ?_
      refine am_goto (tgt := 87) dX11_asRecovered_158 rfl ?_
      exact am_lwJ (lo' := [some (.inr (0, 60)), some (.inl l1), some (.inl l2), some (.inl l3), some (.inl (l4 + nI 1)), none, none]) ⟨rfl, rfl, rfl, rfl, rfl, trivial⟩ (hk87 l1 l2 l3 (l4 + nI 1) _ _ h)
    · rw [if_neg c] at h
      refine am_aload_n dX11_asRecovered_119 rfl ?_
      refine am_get (v := .inr (0, 127)) dX11_asRecovered_120 fl_11_162 (hG.m0 (by decide)) rfl ?_
      refine am_bipush (v := nI 16) dX11_asRecovered_123 (by decide) ?_
      refine am_iload dX11_asRecovered_125 rfl ?_
      refine am_imul dX11_asRecovered_127 ?_
      refine am_iload dX11_asRecovered_128 rfl ?_
      refine am_iadd dX11_asRecovered_130 ?_
      refine am_aload_n dX11_asRecovered_131 rfl ?_
      refine am_get (v := .inr (0, 64)) dX11_asRecovered_132 fl_11_7 (hG.m0 (by decide)) rfl ?_
      refine am_bipush (v := nI 16) dX11_asRecovered_135 (by decide) ?_
      refine am_iload_n dX11_asRecovered_137 rfl ?_
      refine am_iconst (v := nI 2) dX11_asRecovered_138 (by decide) ?_
      refine am_iadd dX11_asRecovered_139 ?_
      refine am_iload dX11_asRecovered_140 rfl ?_
      refine am_iadd dX11_asRecovered_142 ?_
      refine am_imul dX11_asRecovered_143 ?_
      refine am_iload dX11_asRecovered_144 rfl ?_
      refine am_iadd dX11_asRecovered_146 ?_
      obtain ⟨g1, h⟩ := am_gd_some h
      refine am_ialdG dX11_asRecovered_147 (hG.m0 (by decide)) rfl g1 (show 10240 < 2 ^ 31 by decide) ?_
      obtain ⟨g2, h⟩ := am_gd_some h
      refine am_iastG dX11_asRecovered_148 (hG.m0 (by decide)) rfl g2 (show 10240 < 2 ^ 31 by decide) ?_
      obtain ⟨I3, hI3, h⟩ := am_lt_some h
      refine am_st10 hI3 ?_
      refine am_iinc (v := l6 + nI 1) dX11_asRecovered_149 rfl rfl ?_
      refine am_goto (tgt := 112) dX11_asRecovered_152 rfl ?_
      exact am_lwJ (lo' := [some (.inr (0, 60)), some (.inl l1), some (.inl l2), some (.inl l3), some (.inl l4), some (.inl l5), some (.inl (l6 + nI 1))]) ⟨rfl, rfl, rfl, rfl, rfl, rfl, rfl, trivial⟩ (hk112 l1 l2 l3 l4 l5 (l6 + nI 1) _ _ h)
def bX11_asRecovered_87 (n : Nat) (k29 : Int32 → am_I → Option (am_I)) : Nat → Int32 → Int32 → Int32 → Int32 → am_I → Option (am_I)
  | 0, _, _, _, _, _ => none
  | fu + 1, l1, l2, l3, l4, I => (fun k87 => if l3 ≤ l4 then (k29 (l1 + nI 1) I) else (am_gd (am_inb (((nI 16) * (l2 + (nI 1))) + l4) 10240) (bX11_asRecovered_112 n k29 k87 am_fu l1 l2 l3 l4 (I 0 64 ((((nI 16) * (l2 + (nI 1))) + l4).toNatClampNeg)) (nI 0) I))) (bX11_asRecovered_87 n k29 fu)
theorem tX11_asRecovered_87 {G : am_G} (hG : am_okM G) {d : Nat} {k29 : Int32 → am_I → Option (am_I)} (hk29 : ∀ (l1 : Int32) (I : am_I) (r : am_I), k29 l1 I = some r → am_J G d mX11_asRecovered am_no (am_E none r) 29 [some (.inr (0, 60)), some (.inl l1), none, none, none, none, none] [] I) : ∀ {fu : Nat} {l1 : Int32} {l2 : Int32} {l3 : Int32} {l4 : Int32} {I : am_I} {r : am_I}, bX11_asRecovered_87 G.2.2.2.1 k29 fu l1 l2 l3 l4 I = some r → am_J G d mX11_asRecovered am_no (am_E none r) 87 [some (.inr (0, 60)), some (.inl l1), some (.inl l2), some (.inl l3), some (.inl l4), none, none] [] I := by
  intro fu
  induction fu with
  | zero => intro l1 l2 l3 l4 I r h; cases h
  | succ fu ih =>
    intro l1 l2 l3 l4 I r h
    have hk87 : ∀ (l1 : Int32) (l2 : Int32) (l3 : Int32) (l4 : Int32) (I : am_I) (r : am_I), bX11_asRecovered_87 G.2.2.2.1 k29 fu l1 l2 l3 l4 I = some r → am_J G d mX11_asRecovered am_no (am_E none r) 87 [some (.inr (0, 60)), some (.inl l1), some (.inl l2), some (.inl l3), some (.inl l4), none, none] [] I := fun l1 l2 l3 l4 I r h => ih h
    unfold bX11_asRecovered_87 at h
    generalize bX11_asRecovered_87 G.2.2.2.1 k29 fu = k87 at hk87 h
    dsimp only at h
    refine am_iload dX11_asRecovered_87 rfl ?_
    refine am_iload_n dX11_asRecovered_89 rfl ?_
    refine am_icmp_ge (tgt := 161) dX11_asRecovered_90 rfl (fun c => ?_) (fun c => ?_)
    · rw [if_pos c] at h
      refine am_iinc (v := l1 + nI 1) dX11_asRecovered_161 rfl rfl ?_
      refine am_goto (tgt := 29) dX11_asRecovered_164 rfl ?_
      exact am_lwJ (lo' := [some (.inr (0, 60)), some (.inl (l1 + nI 1)), none, none, none, none, none]) ⟨rfl, rfl, trivial⟩ (hk29 (l1 + nI 1) _ _ h)
    · rw [if_neg c] at h
      refine am_aload_n dX11_asRecovered_93 rfl ?_
      refine am_get (v := .inr (0, 64)) dX11_asRecovered_94 fl_11_7 (hG.m0 (by decide)) rfl ?_
      refine am_bipush (v := nI 16) dX11_asRecovered_97 (by decide) ?_
      refine am_iload_n dX11_asRecovered_99 rfl ?_
      refine am_iconst (v := nI 1) dX11_asRecovered_100 (by decide) ?_
      refine am_iadd dX11_asRecovered_101 ?_
      refine am_imul dX11_asRecovered_102 ?_
      refine am_iload dX11_asRecovered_103 rfl ?_
      refine am_iadd dX11_asRecovered_105 ?_
      obtain ⟨g1, h⟩ := am_gd_some h
      refine am_ialdG dX11_asRecovered_106 (hG.m0 (by decide)) rfl g1 (show 10240 < 2 ^ 31 by decide) ?_
      refine am_istore dX11_asRecovered_107 (by decide) ?_
      refine am_iconst (v := nI 0) dX11_asRecovered_109 (by decide) ?_
      refine am_istore dX11_asRecovered_110 (by decide) ?_
      exact am_lwJ (lo' := [some (.inr (0, 60)), some (.inl l1), some (.inl l2), some (.inl l3), some (.inl l4), some (.inl (I 0 64 ((((nI 16) * (l2 + (nI 1))) + l4).toNatClampNeg))), some (.inl (nI 0))]) ⟨rfl, rfl, rfl, rfl, rfl, rfl, rfl, trivial⟩ (tX11_asRecovered_112 hG hk29 hk87 h)
def bX11_asRecovered_83 (n : Nat) (k29 : Int32 → am_I → Option (am_I)) (l1 : Int32) (l2 : Int32) (s0 : Int32) (I : am_I) : Option (am_I) := bX11_asRecovered_87 n k29 am_fu l1 l2 s0 (nI 0) I
theorem tX11_asRecovered_83 {G : am_G} (hG : am_okM G) {d : Nat} {k29 : Int32 → am_I → Option (am_I)} (hk29 : ∀ (l1 : Int32) (I : am_I) (r : am_I), k29 l1 I = some r → am_J G d mX11_asRecovered am_no (am_E none r) 29 [some (.inr (0, 60)), some (.inl l1), none, none, none, none, none] [] I) {l1 : Int32} {l2 : Int32} {s0 : Int32} {I : am_I} {r : am_I} (h : bX11_asRecovered_83 G.2.2.2.1 k29 l1 l2 s0  I = some r) : am_J G d mX11_asRecovered am_no (am_E none r) 83 [some (.inr (0, 60)), some (.inl l1), some (.inl l2), none, none, none, none] [.inl s0] I := by
  unfold bX11_asRecovered_83 at h
  refine am_istore_n dX11_asRecovered_83 (by decide) ?_
  refine am_iconst (v := nI 0) dX11_asRecovered_84 (by decide) ?_
  refine am_istore dX11_asRecovered_85 (by decide) ?_
  exact am_lwJ (lo' := [some (.inr (0, 60)), some (.inl l1), some (.inl l2), some (.inl s0), some (.inl (nI 0)), none, none]) ⟨rfl, rfl, rfl, rfl, rfl, trivial⟩ (tX11_asRecovered_87 hG hk29 h)
def bX11_asRecovered_82 (n : Nat) (k29 : Int32 → am_I → Option (am_I)) (l1 : Int32) (l2 : Int32) (I : am_I) : Option (am_I) := bX11_asRecovered_83 n k29 l1 l2 (nI 0) I
theorem tX11_asRecovered_82 {G : am_G} (hG : am_okM G) {d : Nat} {k29 : Int32 → am_I → Option (am_I)} (hk29 : ∀ (l1 : Int32) (I : am_I) (r : am_I), k29 l1 I = some r → am_J G d mX11_asRecovered am_no (am_E none r) 29 [some (.inr (0, 60)), some (.inl l1), none, none, none, none, none] [] I) {l1 : Int32} {l2 : Int32} {I : am_I} {r : am_I} (h : bX11_asRecovered_82 G.2.2.2.1 k29 l1 l2  I = some r) : am_J G d mX11_asRecovered am_no (am_E none r) 82 [some (.inr (0, 60)), some (.inl l1), some (.inl l2), none, none, none, none] [] I := by
  unfold bX11_asRecovered_82 at h
  refine am_iconst (v := nI 0) dX11_asRecovered_82 (by decide) ?_
  exact am_lwJ (lo' := [some (.inr (0, 60)), some (.inl l1), some (.inl l2), none, none, none, none]) ⟨rfl, rfl, rfl, trivial⟩ (tX11_asRecovered_83 hG hk29 h)
def bX11_asRecovered_29 (n : Nat) : Nat → Int32 → am_I → Option (am_I)
  | 0, _, _ => none
  | fu + 1, l1, I => (fun k29 => if (I 0 60 1) ≤ l1 then (some I) else (am_gd (am_inb l1 4) (if (I 0 66 l1.toNatClampNeg) = 0 then (bX11_asRecovered_82 n k29 l1 ((nI 1) + ((nI 24) * l1)) I) else (am_gd (am_inb (((nI 16) * ((nI 1) + ((nI 24) * l1))) + (nI 2)) 10240) (if (I 0 64 ((((nI 16) * ((nI 1) + ((nI 24) * l1))) + (nI 2)).toNatClampNeg)) = (nI 1) then (am_gd (am_inb (((nI 16) * ((nI 1) + ((nI 24) * l1))) + (nI 1)) 10240) (bX11_asRecovered_83 n k29 l1 ((nI 1) + ((nI 24) * l1)) (I 0 64 ((((nI 16) * ((nI 1) + ((nI 24) * l1))) + (nI 1)).toNatClampNeg)) I)) else (bX11_asRecovered_82 n k29 l1 ((nI 1) + ((nI 24) * l1)) I)))))) (bX11_asRecovered_29 n fu)
theorem tX11_asRecovered_29 {G : am_G} (hG : am_okM G) {d : Nat} : ∀ {fu : Nat} {l1 : Int32} {I : am_I} {r : am_I}, bX11_asRecovered_29 G.2.2.2.1 fu l1 I = some r → am_J G d mX11_asRecovered am_no (am_E none r) 29 [some (.inr (0, 60)), some (.inl l1), none, none, none, none, none] [] I := by
  intro fu
  induction fu with
  | zero => intro l1 I r h; cases h
  | succ fu ih =>
    intro l1 I r h
    have hk29 : ∀ (l1 : Int32) (I : am_I) (r : am_I), bX11_asRecovered_29 G.2.2.2.1 fu l1 I = some r → am_J G d mX11_asRecovered am_no (am_E none r) 29 [some (.inr (0, 60)), some (.inl l1), none, none, none, none, none] [] I := fun l1 I r h => ih h
    unfold bX11_asRecovered_29 at h
    generalize bX11_asRecovered_29 G.2.2.2.1 fu = k29 at hk29 h
    dsimp only at h
    refine am_iload_n dX11_asRecovered_29 rfl ?_
    refine am_aload_n dX11_asRecovered_30 rfl ?_
    refine am_get (v := .inl (I 0 60 1)) dX11_asRecovered_31 fl_11_177 (hG.m0 (by decide)) rfl ?_
    refine am_icmp_ge (tgt := 167) dX11_asRecovered_34 rfl (fun c => ?_) (fun c => ?_)
    · rw [if_pos c] at h
      cases h
      exact am_vret dX11_asRecovered_167 rfl ⟨rfl, rfl⟩
    · rw [if_neg c] at h
      refine am_iconst (v := nI 1) dX11_asRecovered_37 (by decide) ?_
      refine am_bipush (v := nI 24) dX11_asRecovered_38 (by decide) ?_
      refine am_iload_n dX11_asRecovered_40 rfl ?_
      refine am_imul dX11_asRecovered_41 ?_
      refine am_iadd dX11_asRecovered_42 ?_
      refine am_istore_n dX11_asRecovered_43 (by decide) ?_
      refine am_aload_n dX11_asRecovered_44 rfl ?_
      refine am_get (v := .inr (0, 66)) dX11_asRecovered_45 fl_11_17 (hG.m0 (by decide)) rfl ?_
      refine am_iload_n dX11_asRecovered_48 rfl ?_
      obtain ⟨g1, h⟩ := am_gd_some h
      refine am_zaldG dX11_asRecovered_49 (hG.m0 (by decide)) rfl g1 (show 4 < 2 ^ 31 by decide) ?_
      refine am_if_eq (tgt := 82) dX11_asRecovered_50 rfl (fun c => ?_) (fun c => ?_)
      · rw [if_pos c] at h
        exact am_lwJ (lo' := [some (.inr (0, 60)), some (.inl l1), some (.inl ((nI 1) + ((nI 24) * l1))), none, none, none, none]) ⟨rfl, rfl, rfl, trivial⟩ (tX11_asRecovered_82 hG hk29 h)
      · rw [if_neg c] at h
        refine am_aload_n dX11_asRecovered_53 rfl ?_
        refine am_get (v := .inr (0, 64)) dX11_asRecovered_54 fl_11_7 (hG.m0 (by decide)) rfl ?_
        refine am_bipush (v := nI 16) dX11_asRecovered_57 (by decide) ?_
        refine am_iload_n dX11_asRecovered_59 rfl ?_
        refine am_imul dX11_asRecovered_60 ?_
        refine am_iconst (v := nI 2) dX11_asRecovered_61 (by decide) ?_
        refine am_iadd dX11_asRecovered_62 ?_
        obtain ⟨g2, h⟩ := am_gd_some h
        refine am_ialdG dX11_asRecovered_63 (hG.m0 (by decide)) rfl g2 (show 10240 < 2 ^ 31 by decide) ?_
        refine am_iconst (v := nI 1) dX11_asRecovered_64 (by decide) ?_
        refine am_icmp_ne (tgt := 82) dX11_asRecovered_65 rfl (fun c => ?_) (fun c => ?_)
        · rw [if_neg c] at h
          exact am_lwJ (lo' := [some (.inr (0, 60)), some (.inl l1), some (.inl ((nI 1) + ((nI 24) * l1))), none, none, none, none]) ⟨rfl, rfl, rfl, trivial⟩ (tX11_asRecovered_82 hG hk29 h)
        · rw [if_pos c] at h
          refine am_aload_n dX11_asRecovered_68 rfl ?_
          refine am_get (v := .inr (0, 64)) dX11_asRecovered_69 fl_11_7 (hG.m0 (by decide)) rfl ?_
          refine am_bipush (v := nI 16) dX11_asRecovered_72 (by decide) ?_
          refine am_iload_n dX11_asRecovered_74 rfl ?_
          refine am_imul dX11_asRecovered_75 ?_
          refine am_iconst (v := nI 1) dX11_asRecovered_76 (by decide) ?_
          refine am_iadd dX11_asRecovered_77 ?_
          obtain ⟨g3, h⟩ := am_gd_some h
          refine am_ialdG dX11_asRecovered_78 (hG.m0 (by decide)) rfl g3 (show 10240 < 2 ^ 31 by decide) ?_
          refine am_goto (tgt := 83) dX11_asRecovered_79 rfl ?_
          exact am_lwJ (lo' := [some (.inr (0, 60)), some (.inl l1), some (.inl ((nI 1) + ((nI 24) * l1))), none, none, none, none]) ⟨rfl, rfl, rfl, trivial⟩ (tX11_asRecovered_83 hG hk29 h)
def bX11_asRecovered_2 (n : Nat) : Nat → Int32 → am_I → Option (am_I)
  | 0, _, _ => none
  | fu + 1, l1, I => (fun k2 => if (nI 10240) ≤ l1 then (bX11_asRecovered_29 n am_fu (nI 0) I) else (am_gd (am_inb l1 10240) (am_gd (am_inb l1 10240) (am_lt (am_up I 0 127 l1.toNatClampNeg (I 0 64 l1.toNatClampNeg)) (fun I3 => k2 (l1 + nI 1) I3))))) (bX11_asRecovered_2 n fu)
theorem tX11_asRecovered_2 {G : am_G} (hG : am_okM G) {d : Nat} : ∀ {fu : Nat} {l1 : Int32} {I : am_I} {r : am_I}, bX11_asRecovered_2 G.2.2.2.1 fu l1 I = some r → am_J G d mX11_asRecovered am_no (am_E none r) 2 [some (.inr (0, 60)), some (.inl l1), none, none, none, none, none] [] I := by
  intro fu
  induction fu with
  | zero => intro l1 I r h; cases h
  | succ fu ih =>
    intro l1 I r h
    have hk2 : ∀ (l1 : Int32) (I : am_I) (r : am_I), bX11_asRecovered_2 G.2.2.2.1 fu l1 I = some r → am_J G d mX11_asRecovered am_no (am_E none r) 2 [some (.inr (0, 60)), some (.inl l1), none, none, none, none, none] [] I := fun l1 I r h => ih h
    unfold bX11_asRecovered_2 at h
    generalize bX11_asRecovered_2 G.2.2.2.1 fu = k2 at hk2 h
    dsimp only at h
    refine am_iload_n dX11_asRecovered_2 rfl ?_
    refine am_sipush (v := nI 10240) dX11_asRecovered_3 (by decide) ?_
    refine am_icmp_ge (tgt := 27) dX11_asRecovered_6 rfl (fun c => ?_) (fun c => ?_)
    · rw [if_pos c] at h
      refine am_iconst (v := nI 0) dX11_asRecovered_27 (by decide) ?_
      refine am_istore_n dX11_asRecovered_28 (by decide) ?_
      exact am_lwJ (lo' := [some (.inr (0, 60)), some (.inl (nI 0)), none, none, none, none, none]) ⟨rfl, rfl, trivial⟩ (tX11_asRecovered_29 hG h)
    · rw [if_neg c] at h
      refine am_aload_n dX11_asRecovered_9 rfl ?_
      refine am_get (v := .inr (0, 127)) dX11_asRecovered_10 fl_11_162 (hG.m0 (by decide)) rfl ?_
      refine am_iload_n dX11_asRecovered_13 rfl ?_
      refine am_aload_n dX11_asRecovered_14 rfl ?_
      refine am_get (v := .inr (0, 64)) dX11_asRecovered_15 fl_11_7 (hG.m0 (by decide)) rfl ?_
      refine am_iload_n dX11_asRecovered_18 rfl ?_
      obtain ⟨g1, h⟩ := am_gd_some h
      refine am_ialdG dX11_asRecovered_19 (hG.m0 (by decide)) rfl g1 (show 10240 < 2 ^ 31 by decide) ?_
      obtain ⟨g2, h⟩ := am_gd_some h
      refine am_iastG dX11_asRecovered_20 (hG.m0 (by decide)) rfl g2 (show 10240 < 2 ^ 31 by decide) ?_
      obtain ⟨I3, hI3, h⟩ := am_lt_some h
      refine am_st10 hI3 ?_
      refine am_iinc (v := l1 + nI 1) dX11_asRecovered_21 rfl rfl ?_
      refine am_goto (tgt := 2) dX11_asRecovered_24 rfl ?_
      exact am_lwJ (lo' := [some (.inr (0, 60)), some (.inl (l1 + nI 1)), none, none, none, none, none]) ⟨rfl, rfl, trivial⟩ (hk2 (l1 + nI 1) _ _ h)
def bX11_asRecovered_0 (n : Nat) (I : am_I) : Option (am_I) := bX11_asRecovered_2 n am_fu (nI 0) I
theorem tX11_asRecovered_0 {G : am_G} (hG : am_okM G) {d : Nat} {I : am_I} {r : am_I} (h : bX11_asRecovered_0 G.2.2.2.1  I = some r) : am_J G d mX11_asRecovered am_no (am_E none r) 0 [some (.inr (0, 60)), none, none, none, none, none, none] [] I := by
  unfold bX11_asRecovered_0 at h
  refine am_iconst (v := nI 0) dX11_asRecovered_0 (by decide) ?_
  refine am_istore_n dX11_asRecovered_1 (by decide) ?_
  exact am_lwJ (lo' := [some (.inr (0, 60)), some (.inl (nI 0)), none, none, none, none, none]) ⟨rfl, rfl, trivial⟩ (tX11_asRecovered_2 hG h)
def gX11_asRecovered (n : Nat) (I : am_I) : Option (am_I) := bX11_asRecovered_0 n I
theorem sX11_asRecovered {G : am_G} (hG : am_okM G) {d : Nat} {I : am_I} {r : am_I} (h : gX11_asRecovered G.2.2.2.1 I = some r) : am_C G d mX11_asRecovered [.inr (0, 60)] I (am_E none r) :=
  am_of (by decide +kernel) hG.nd (Nat.le_of_ble_eq_true rfl) (am_lwJ (lo' := [some (.inr (0, 60)), none, none, none, none, none, none]) ⟨rfl, trivial⟩ (tX11_asRecovered_0 hG h))
def bX11_allInode_0 (n : Nat) (l1 : Int32) (l2 : Int32) (I : am_I) : Option (Int32 × am_I) := (gX11_inodeBlock n l1 I).bind (fun q1 => am_gd (am_inb (((nI 16) * q1.1) + l2) 10240) (some (q1.2 0 127 ((((nI 16) * q1.1) + l2).toNatClampNeg), q1.2)))
theorem tX11_allInode_0 {G : am_G} (hG : am_okM G) {d : Nat} {l1 : Int32} {l2 : Int32} {I : am_I} {r : Int32 × am_I} (h : bX11_allInode_0 G.2.2.2.1 l1 l2  I = some r) : am_J G (d + 1) mX11_allInode am_no (am_E (some r.1) r.2) 0 [some (.inr (0, 60)), some (.inl l1), some (.inl l2)] [] I := by
  unfold bX11_allInode_0 at h
  refine am_aload_n dX11_allInode_0 rfl ?_
  refine am_get (v := .inr (0, 127)) dX11_allInode_1 fl_11_162 (hG.m0 (by decide)) rfl ?_
  refine am_bipush (v := nI 16) dX11_allInode_4 (by decide) ?_
  refine am_iload_n dX11_allInode_6 rfl ?_
  obtain ⟨q1, hq1, h⟩ := am_bd h
  refine am_callSx (as := [.inl l1]) (rest := [.inl (nI 16), .inr (0, 127)]) dX11_allInode_7 lkX11_inodeBlock ml_X11_185 isX11_inodeBlock rfl (Nat.le_of_ble_eq_true rfl) rfl (sX11_inodeBlock hG hq1) ?_
  refine am_imul dX11_allInode_10 ?_
  refine am_iload_n dX11_allInode_11 rfl ?_
  refine am_iadd dX11_allInode_12 ?_
  obtain ⟨g2, h⟩ := am_gd_some h
  refine am_ialdG dX11_allInode_13 (hG.m0 (by decide)) rfl g2 (show 10240 < 2 ^ 31 by decide) ?_
  cases h
  exact am_iret dX11_allInode_14 rfl rfl ⟨rfl, rfl⟩
def gX11_allInode (n : Nat) (l1 : Int32) (l2 : Int32) (I : am_I) : Option (Int32 × am_I) := bX11_allInode_0 n l1 l2 I
theorem sX11_allInode {G : am_G} (hG : am_okM G) {d : Nat} {l1 : Int32} {l2 : Int32} {I : am_I} {r : Int32 × am_I} (h : gX11_allInode G.2.2.2.1 l1 l2 I = some r) : am_C G (d + 1) mX11_allInode [.inr (0, 60), .inl l1, .inl l2] I (am_E (some r.1) r.2) :=
  am_of (by decide +kernel) hG.nd (Nat.le_of_ble_eq_true rfl) (am_lwJ (lo' := [some (.inr (0, 60)), some (.inl l1), some (.inl l2)]) ⟨rfl, rfl, rfl, trivial⟩ (tX11_allInode_0 hG h))
def bX11_isData_31 (n : Nat) (s0 : Int32) (I : am_I) : Option (Int32 × am_I) := am_gd (am_01 s0) (some (s0, I))
theorem tX11_isData_31 {G : am_G} (hG : am_okM G) {d : Nat} {s0 : Int32} {I : am_I} {r : Int32 × am_I} (h : bX11_isData_31 G.2.2.2.1 s0  I = some r) : am_J G (d + 1) mX11_isData am_no (am_E (some r.1) r.2) 31 [none] [.inl s0] I := by
  unfold bX11_isData_31 at h
  obtain ⟨g1, h⟩ := am_gd_some h
  cases h
  exact am_iret dX11_isData_31 rfl (am_nz (am_01_of g1)).1 ⟨rfl, rfl⟩
def bX11_isData_30 (n : Nat) (I : am_I) : Option (Int32 × am_I) := bX11_isData_31 n (nI 0) I
theorem tX11_isData_30 {G : am_G} (hG : am_okM G) {d : Nat} {I : am_I} {r : Int32 × am_I} (h : bX11_isData_30 G.2.2.2.1  I = some r) : am_J G (d + 1) mX11_isData am_no (am_E (some r.1) r.2) 30 [none] [] I := by
  unfold bX11_isData_30 at h
  refine am_iconst (v := nI 0) dX11_isData_30 (by decide) ?_
  exact am_lwJ (lo' := [none]) trivial (tX11_isData_31 hG h)
def bX11_isData_0 (n : Nat) (l0 : Int32) (I : am_I) : Option (Int32 × am_I) := (gX11_in n l0 (nI 128) (nI 639) I).bind (fun q1 => if q1.1 = 0 then (bX11_isData_30 n q1.2) else (if ((l0 - (nI 128)) - (l0 - (nI 128)) / (nI 64) * (nI 64)) ≤ (nI 16) then (bX11_isData_30 n q1.2) else (bX11_isData_31 n (nI 1) q1.2)))
theorem tX11_isData_0 {G : am_G} (hG : am_okM G) {d : Nat} {l0 : Int32} {I : am_I} {r : Int32 × am_I} (h : bX11_isData_0 G.2.2.2.1 l0  I = some r) : am_J G (d + 1) mX11_isData am_no (am_E (some r.1) r.2) 0 [some (.inl l0)] [] I := by
  unfold bX11_isData_0 at h
  refine am_iload_n dX11_isData_0 rfl ?_
  refine am_sipush (v := nI 128) dX11_isData_1 (by decide) ?_
  refine am_sipush (v := nI 639) dX11_isData_4 (by decide) ?_
  obtain ⟨q1, hq1, h⟩ := am_bd h
  refine am_callSx (as := [.inl l0, .inl (nI 128), .inl (nI 639)]) (rest := []) dX11_isData_7 lkX11_in ml_X11_243 isX11_in rfl (Nat.le_of_ble_eq_true rfl) rfl (sX11_in hG hq1) ?_
  refine am_if_eq (tgt := 30) dX11_isData_10 rfl (fun c => ?_) (fun c => ?_)
  · rw [if_pos c] at h
    exact am_lwJ (lo' := [none]) trivial (tX11_isData_30 hG h)
  · rw [if_neg c] at h
    refine am_iload_n dX11_isData_13 rfl ?_
    refine am_sipush (v := nI 128) dX11_isData_14 (by decide) ?_
    refine am_isub dX11_isData_17 ?_
    refine am_bipush (v := nI 64) dX11_isData_18 (by decide) ?_
    refine am_irem dX11_isData_20 (by decide) ?_
    refine am_bipush (v := nI 16) dX11_isData_21 (by decide) ?_
    refine am_icmp_le (tgt := 30) dX11_isData_23 rfl (fun c => ?_) (fun c => ?_)
    · rw [if_pos c] at h
      exact am_lwJ (lo' := [none]) trivial (tX11_isData_30 hG h)
    · rw [if_neg c] at h
      refine am_iconst (v := nI 1) dX11_isData_26 (by decide) ?_
      refine am_goto (tgt := 31) dX11_isData_27 rfl ?_
      exact am_lwJ (lo' := [none]) trivial (tX11_isData_31 hG h)
def gX11_isData (n : Nat) (l0 : Int32) (I : am_I) : Option (Int32 × am_I) := bX11_isData_0 n l0 I
theorem sX11_isData {G : am_G} (hG : am_okM G) {d : Nat} {l0 : Int32} {I : am_I} {r : Int32 × am_I} (h : gX11_isData G.2.2.2.1 l0 I = some r) : am_C G (d + 1) mX11_isData [.inl l0] I (am_E (some r.1) r.2) :=
  am_of (by decide +kernel) hG.nd (Nat.le_of_ble_eq_true rfl) (am_lwJ (lo' := [some (.inl l0)]) ⟨rfl, trivial⟩ (tX11_isData_0 hG h))
def bX11_allWord_90 (n : Nat) (s0 : Int32) (I : am_I) : Option (Int32 × am_I) := some (s0, I)
theorem tX11_allWord_90 {G : am_G} (hG : am_okM G) {d : Nat} {s0 : Int32} {I : am_I} {r : Int32 × am_I} (h : bX11_allWord_90 G.2.2.2.1 s0  I = some r) : am_J G (d + 2) mX11_allWord am_no (am_E (some r.1) r.2) 90 [none, none, none, none] [.inl s0] I := by
  unfold bX11_allWord_90 at h
  cases h
  exact am_iret dX11_allWord_90 rfl rfl ⟨rfl, rfl⟩
def bX11_allWord_61 (n : Nat) (l2 : Int32) (l3 : Int32) (I : am_I) : Option (Int32 × am_I) := (gX11_in n l3 (nI 1) (nI 639) I).bind (fun q1 => if q1.1 = 0 then (bX11_allWord_90 n (nI 0) q1.2) else (am_gd (am_inb (((nI 16) * l3) + (l2 - l2 / (nI 16) * (nI 16))) 10240) (bX11_allWord_90 n (q1.2 0 127 ((((nI 16) * l3) + (l2 - l2 / (nI 16) * (nI 16))).toNatClampNeg)) q1.2)))
theorem tX11_allWord_61 {G : am_G} (hG : am_okM G) {d : Nat} {l2 : Int32} {l3 : Int32} {I : am_I} {r : Int32 × am_I} (h : bX11_allWord_61 G.2.2.2.1 l2 l3  I = some r) : am_J G (d + 2) mX11_allWord am_no (am_E (some r.1) r.2) 61 [some (.inr (0, 60)), none, some (.inl l2), some (.inl l3)] [] I := by
  unfold bX11_allWord_61 at h
  refine am_iload_n dX11_allWord_61 rfl ?_
  refine am_iconst (v := nI 1) dX11_allWord_62 (by decide) ?_
  refine am_sipush (v := nI 639) dX11_allWord_63 (by decide) ?_
  obtain ⟨q1, hq1, h⟩ := am_bd h
  refine am_callSx (as := [.inl l3, .inl (nI 1), .inl (nI 639)]) (rest := []) dX11_allWord_66 lkX11_in ml_X11_243 isX11_in rfl (Nat.le_of_ble_eq_true rfl) rfl (sX11_in hG hq1) ?_
  refine am_if_eq (tgt := 89) dX11_allWord_69 rfl (fun c => ?_) (fun c => ?_)
  · rw [if_pos c] at h
    refine am_iconst (v := nI 0) dX11_allWord_89 (by decide) ?_
    exact am_lwJ (lo' := [none, none, none, none]) trivial (tX11_allWord_90 hG h)
  · rw [if_neg c] at h
    refine am_aload_n dX11_allWord_72 rfl ?_
    refine am_get (v := .inr (0, 127)) dX11_allWord_73 fl_11_162 (hG.m0 (by decide)) rfl ?_
    refine am_bipush (v := nI 16) dX11_allWord_76 (by decide) ?_
    refine am_iload_n dX11_allWord_78 rfl ?_
    refine am_imul dX11_allWord_79 ?_
    refine am_iload_n dX11_allWord_80 rfl ?_
    refine am_bipush (v := nI 16) dX11_allWord_81 (by decide) ?_
    refine am_irem dX11_allWord_83 (by decide) ?_
    refine am_iadd dX11_allWord_84 ?_
    obtain ⟨g2, h⟩ := am_gd_some h
    refine am_ialdG dX11_allWord_85 (hG.m0 (by decide)) rfl g2 (show 10240 < 2 ^ 31 by decide) ?_
    refine am_goto (tgt := 90) dX11_allWord_86 rfl ?_
    exact am_lwJ (lo' := [none, none, none, none]) trivial (tX11_allWord_90 hG h)
def bX11_allWord_0 (n : Nat) (l1 : Int32) (l2 : Int32) (I : am_I) : Option (Int32 × am_I) := if (nI 128) ≤ l2 then ((gX11_allInode n l1 (nI 11) I).bind (fun q1 => (gX11_isData n q1.1 q1.2).bind (fun q2 => if q2.1 = 0 then (bX11_allWord_61 n l2 (nI 0) q2.2) else ((gX11_allInode n l1 (nI 11) q2.2).bind (fun q3 => am_gd (am_inb ((((nI 16) * q3.1) + (l2 / (nI 16))) - (nI 8)) 10240) (bX11_allWord_61 n l2 (q3.2 0 127 (((((nI 16) * q3.1) + (l2 / (nI 16))) - (nI 8)).toNatClampNeg)) q3.2)))))) else ((gX11_allInode n l1 ((nI 3) + (l2 / (nI 16))) I).bind (fun q5 => bX11_allWord_61 n l2 q5.1 q5.2))
theorem tX11_allWord_0 {G : am_G} (hG : am_okM G) {d : Nat} {l1 : Int32} {l2 : Int32} {I : am_I} {r : Int32 × am_I} (h : bX11_allWord_0 G.2.2.2.1 l1 l2  I = some r) : am_J G (d + 2) mX11_allWord am_no (am_E (some r.1) r.2) 0 [some (.inr (0, 60)), some (.inl l1), some (.inl l2), none] [] I := by
  unfold bX11_allWord_0 at h
  refine am_iconst (v := nI 0) dX11_allWord_0 (by decide) ?_
  refine am_istore_n dX11_allWord_1 (by decide) ?_
  refine am_iload_n dX11_allWord_2 rfl ?_
  refine am_sipush (v := nI 128) dX11_allWord_3 (by decide) ?_
  refine am_icmp_ge (tgt := 24) dX11_allWord_6 rfl (fun c => ?_) (fun c => ?_)
  · rw [if_pos c] at h
    refine am_aload_n dX11_allWord_24 rfl ?_
    refine am_iload_n dX11_allWord_25 rfl ?_
    refine am_bipush (v := nI 11) dX11_allWord_26 (by decide) ?_
    obtain ⟨q1, hq1, h⟩ := am_bd h
    refine am_callVx (i := 0) (j := 60) (as := [.inl l1, .inl (nI 11)]) (rest := []) dX11_allWord_28 lkX11_allInode ml_X11_496 imX11_allInode seX11_allInode rfl rfl (hG.m0 (by decide)) rfl (Nat.le_of_ble_eq_true rfl) rfl (sX11_allInode hG hq1) ?_
    obtain ⟨q2, hq2, h⟩ := am_bd h
    refine am_callSx (as := [.inl q1.1]) (rest := []) dX11_allWord_31 lkX11_isData ml_X11_499 isX11_isData rfl (Nat.le_of_ble_eq_true rfl) rfl (sX11_isData hG hq2) ?_
    refine am_if_eq (tgt := 61) dX11_allWord_34 rfl (fun c => ?_) (fun c => ?_)
    · rw [if_pos c] at h
      exact am_lwJ (lo' := [some (.inr (0, 60)), none, some (.inl l2), some (.inl (nI 0))]) ⟨rfl, rfl, rfl, trivial⟩ (tX11_allWord_61 hG h)
    · rw [if_neg c] at h
      refine am_aload_n dX11_allWord_37 rfl ?_
      refine am_get (v := .inr (0, 127)) dX11_allWord_38 fl_11_162 (hG.m0 (by decide)) rfl ?_
      refine am_bipush (v := nI 16) dX11_allWord_41 (by decide) ?_
      refine am_aload_n dX11_allWord_43 rfl ?_
      refine am_iload_n dX11_allWord_44 rfl ?_
      refine am_bipush (v := nI 11) dX11_allWord_45 (by decide) ?_
      obtain ⟨q3, hq3, h⟩ := am_bd h
      refine am_callVx (i := 0) (j := 60) (as := [.inl l1, .inl (nI 11)]) (rest := [.inl (nI 16), .inr (0, 127)]) dX11_allWord_47 lkX11_allInode ml_X11_496 imX11_allInode seX11_allInode rfl rfl (hG.m0 (by decide)) rfl (Nat.le_of_ble_eq_true rfl) rfl (sX11_allInode hG hq3) ?_
      refine am_imul dX11_allWord_50 ?_
      refine am_iload_n dX11_allWord_51 rfl ?_
      refine am_bipush (v := nI 16) dX11_allWord_52 (by decide) ?_
      refine am_idiv dX11_allWord_54 (by decide) ?_
      refine am_iadd dX11_allWord_55 ?_
      refine am_bipush (v := nI 8) dX11_allWord_56 (by decide) ?_
      refine am_isub dX11_allWord_58 ?_
      obtain ⟨g4, h⟩ := am_gd_some h
      refine am_ialdG dX11_allWord_59 (hG.m0 (by decide)) rfl g4 (show 10240 < 2 ^ 31 by decide) ?_
      refine am_istore_n dX11_allWord_60 (by decide) ?_
      exact am_lwJ (lo' := [some (.inr (0, 60)), none, some (.inl l2), some (.inl (q3.2 0 127 (((((nI 16) * q3.1) + (l2 / (nI 16))) - (nI 8)).toNatClampNeg)))]) ⟨rfl, rfl, rfl, trivial⟩ (tX11_allWord_61 hG h)
  · rw [if_neg c] at h
    refine am_aload_n dX11_allWord_9 rfl ?_
    refine am_iload_n dX11_allWord_10 rfl ?_
    refine am_iconst (v := nI 3) dX11_allWord_11 (by decide) ?_
    refine am_iload_n dX11_allWord_12 rfl ?_
    refine am_bipush (v := nI 16) dX11_allWord_13 (by decide) ?_
    refine am_idiv dX11_allWord_15 (by decide) ?_
    refine am_iadd dX11_allWord_16 ?_
    obtain ⟨q5, hq5, h⟩ := am_bd h
    refine am_callVx (i := 0) (j := 60) (as := [.inl l1, .inl ((nI 3) + (l2 / (nI 16)))]) (rest := []) dX11_allWord_17 lkX11_allInode ml_X11_496 imX11_allInode seX11_allInode rfl rfl (hG.m0 (by decide)) rfl (Nat.le_of_ble_eq_true rfl) rfl (sX11_allInode hG hq5) ?_
    refine am_istore_n dX11_allWord_20 (by decide) ?_
    refine am_goto (tgt := 61) dX11_allWord_21 rfl ?_
    exact am_lwJ (lo' := [some (.inr (0, 60)), none, some (.inl l2), some (.inl q5.1)]) ⟨rfl, rfl, rfl, trivial⟩ (tX11_allWord_61 hG h)
def gX11_allWord (n : Nat) (l1 : Int32) (l2 : Int32) (I : am_I) : Option (Int32 × am_I) := bX11_allWord_0 n l1 l2 I
theorem sX11_allWord {G : am_G} (hG : am_okM G) {d : Nat} {l1 : Int32} {l2 : Int32} {I : am_I} {r : Int32 × am_I} (h : gX11_allWord G.2.2.2.1 l1 l2 I = some r) : am_C G (d + 2) mX11_allWord [.inr (0, 60), .inl l1, .inl l2] I (am_E (some r.1) r.2) :=
  am_of (by decide +kernel) hG.nd (Nat.le_of_ble_eq_true rfl) (am_lwJ (lo' := [some (.inr (0, 60)), some (.inl l1), some (.inl l2), none]) ⟨rfl, rfl, rfl, trivial⟩ (tX11_allWord_0 hG h))
