def bX11_tryRoom_68 (n : Nat) (k2 : Int32 → am_I → Option (am_I)) (k24 : Int32 → Int32 → am_I → Option (am_I)) (l1 : Int32) (l2 : Int32) (s0 : Int32) (I : am_I) : Option (am_I) := am_lt (am_up I 0 60 55 s0) (fun I1 => k24 l1 (l2 + nI 1) I1)
theorem tX11_tryRoom_68 {G : am_G} (hG : am_okM G) {d : Nat} {k2 : Int32 → am_I → Option (am_I)} {k24 : Int32 → Int32 → am_I → Option (am_I)} (hk2 : ∀ (l1 : Int32) (I : am_I) (r : am_I), k2 l1 I = some r → am_J G (d + 2) mX11_tryRoom am_no (am_E none r) 2 [some (.inr (0, 60)), some (.inl l1), none] [] I) (hk24 : ∀ (l1 : Int32) (l2 : Int32) (I : am_I) (r : am_I), k24 l1 l2 I = some r → am_J G (d + 2) mX11_tryRoom am_no (am_E none r) 24 [some (.inr (0, 60)), some (.inl l1), some (.inl l2)] [] I) {l1 : Int32} {l2 : Int32} {s0 : Int32} {I : am_I} {r : am_I} (h : bX11_tryRoom_68 G.2.2.2.1 k2 k24 l1 l2 s0  I = some r) : am_J G (d + 2) mX11_tryRoom am_no (am_E none r) 68 [some (.inr (0, 60)), some (.inl l1), some (.inl l2)] [.inl s0, .inr (0, 60)] I := by
  unfold bX11_tryRoom_68 at h
  refine am_put (x := s0) dX11_tryRoom_68 fp_11_316 (hG.m0 (by decide)) (Nat.le_of_ble_eq_true rfl) rfl ?_
  obtain ⟨I1, hI1, h⟩ := am_lt_some h
  refine am_st10 hI1 ?_
  refine am_iinc (v := l2 + nI 1) dX11_tryRoom_71 rfl rfl ?_
  refine am_goto (tgt := 24) dX11_tryRoom_74 rfl ?_
  exact am_lwJ (lo' := [some (.inr (0, 60)), some (.inl l1), some (.inl (l2 + nI 1))]) ⟨rfl, rfl, rfl, trivial⟩ (hk24 l1 (l2 + nI 1) _ _ h)
def bX11_tryRoom_24 (n : Nat) (k2 : Int32 → am_I → Option (am_I)) : Nat → Int32 → Int32 → am_I → Option (am_I)
  | 0, _, _, _ => none
  | fu + 1, l1, l2, I => (fun k24 => if (nI 47) ≤ l2 then (k2 (l1 + nI 1) I) else ((gX11_mapOf n l1 I).bind (fun q1 => (gX11_get n q1.1 ((nI 1) + (l2 / (nI 32))) q1.2).bind (fun q2 => if ((q2.1 >>> ((l2 - l2 / (nI 32) * (nI 32)) &&& 31)) &&& (nI 1)) = 0 then (bX11_tryRoom_68 n k2 k24 l1 l2 ((q2.2 0 60 55) + (nI 1)) q2.2) else (bX11_tryRoom_68 n k2 k24 l1 l2 (q2.2 0 60 55) q2.2))))) (bX11_tryRoom_24 n k2 fu)
theorem tX11_tryRoom_24 {G : am_G} (hG : am_okM G) {d : Nat} {k2 : Int32 → am_I → Option (am_I)} (hk2 : ∀ (l1 : Int32) (I : am_I) (r : am_I), k2 l1 I = some r → am_J G (d + 2) mX11_tryRoom am_no (am_E none r) 2 [some (.inr (0, 60)), some (.inl l1), none] [] I) : ∀ {fu : Nat} {l1 : Int32} {l2 : Int32} {I : am_I} {r : am_I}, bX11_tryRoom_24 G.2.2.2.1 k2 fu l1 l2 I = some r → am_J G (d + 2) mX11_tryRoom am_no (am_E none r) 24 [some (.inr (0, 60)), some (.inl l1), some (.inl l2)] [] I := by
  intro fu
  induction fu with
  | zero => intro l1 l2 I r h; cases h
  | succ fu ih =>
    intro l1 l2 I r h
    have hk24 : ∀ (l1 : Int32) (l2 : Int32) (I : am_I) (r : am_I), bX11_tryRoom_24 G.2.2.2.1 k2 fu l1 l2 I = some r → am_J G (d + 2) mX11_tryRoom am_no (am_E none r) 24 [some (.inr (0, 60)), some (.inl l1), some (.inl l2)] [] I := fun l1 l2 I r h => ih h
    unfold bX11_tryRoom_24 at h
    generalize bX11_tryRoom_24 G.2.2.2.1 k2 fu = k24 at hk24 h
    dsimp only at h
    refine am_iload_n dX11_tryRoom_24 rfl ?_
    refine am_bipush (v := nI 47) dX11_tryRoom_25 (by decide) ?_
    refine am_icmp_ge (tgt := 77) dX11_tryRoom_27 rfl (fun c => ?_) (fun c => ?_)
    · rw [if_pos c] at h
      refine am_iinc (v := l1 + nI 1) dX11_tryRoom_77 rfl rfl ?_
      refine am_goto (tgt := 2) dX11_tryRoom_80 rfl ?_
      exact am_lwJ (lo' := [some (.inr (0, 60)), some (.inl (l1 + nI 1)), none]) ⟨rfl, rfl, trivial⟩ (hk2 (l1 + nI 1) _ _ h)
    · rw [if_neg c] at h
      refine am_aload_n dX11_tryRoom_30 rfl ?_
      refine am_aload_n dX11_tryRoom_31 rfl ?_
      refine am_iload_n dX11_tryRoom_32 rfl ?_
      obtain ⟨q1, hq1, h⟩ := am_bd h
      refine am_callSx (as := [.inl l1]) (rest := [.inr (0, 60), .inr (0, 60)]) dX11_tryRoom_33 lkX11_mapOf ml_X11_181 isX11_mapOf rfl (Nat.le_of_ble_eq_true rfl) rfl (sX11_mapOf hG hq1) ?_
      refine am_iconst (v := nI 1) dX11_tryRoom_36 (by decide) ?_
      refine am_iload_n dX11_tryRoom_37 rfl ?_
      refine am_bipush (v := nI 32) dX11_tryRoom_38 (by decide) ?_
      refine am_idiv dX11_tryRoom_40 (by decide) ?_
      refine am_iadd dX11_tryRoom_41 ?_
      obtain ⟨q2, hq2, h⟩ := am_bd h
      refine am_callVx (i := 0) (j := 60) (as := [.inl q1.1, .inl ((nI 1) + (l2 / (nI 32)))]) (rest := [.inr (0, 60)]) dX11_tryRoom_42 lkX11_get ml_X11_332 imX11_get seX11_get rfl rfl (hG.m0 (by decide)) rfl (Nat.le_of_ble_eq_true rfl) rfl (sX11_get hG hq2) ?_
      refine am_iload_n dX11_tryRoom_45 rfl ?_
      refine am_bipush (v := nI 32) dX11_tryRoom_46 (by decide) ?_
      refine am_irem dX11_tryRoom_48 (by decide) ?_
      refine am_ishr dX11_tryRoom_49 ?_
      refine am_iconst (v := nI 1) dX11_tryRoom_50 (by decide) ?_
      refine am_iand dX11_tryRoom_51 ?_
      refine am_if_ne (tgt := 64) dX11_tryRoom_52 rfl (fun c => ?_) (fun c => ?_)
      · rw [if_neg c] at h
        refine am_aload_n dX11_tryRoom_64 rfl ?_
        refine am_get (v := .inl (q2.2 0 60 55)) dX11_tryRoom_65 fl_11_316 (hG.m0 (by decide)) rfl ?_
        exact am_lwJ (lo' := [some (.inr (0, 60)), some (.inl l1), some (.inl l2)]) ⟨rfl, rfl, rfl, trivial⟩ (tX11_tryRoom_68 hG hk2 hk24 h)
      · rw [if_pos c] at h
        refine am_aload_n dX11_tryRoom_55 rfl ?_
        refine am_get (v := .inl (q2.2 0 60 55)) dX11_tryRoom_56 fl_11_316 (hG.m0 (by decide)) rfl ?_
        refine am_iconst (v := nI 1) dX11_tryRoom_59 (by decide) ?_
        refine am_iadd dX11_tryRoom_60 ?_
        refine am_goto (tgt := 68) dX11_tryRoom_61 rfl ?_
        exact am_lwJ (lo' := [some (.inr (0, 60)), some (.inl l1), some (.inl l2)]) ⟨rfl, rfl, rfl, trivial⟩ (tX11_tryRoom_68 hG hk2 hk24 h)
def bX11_tryRoom_2 (n : Nat) : Nat → Int32 → am_I → Option (am_I)
  | 0, _, _ => none
  | fu + 1, l1, I => (fun k2 => if (nI 8) ≤ l1 then (some I) else ((gX11_meets n ((nI 128) + l1) (nI 1) I).bind (fun q1 => if q1.1 = 0 then (some q1.2) else (bX11_tryRoom_24 n k2 am_fu l1 (nI 0) q1.2)))) (bX11_tryRoom_2 n fu)
theorem tX11_tryRoom_2 {G : am_G} (hG : am_okM G) {d : Nat} : ∀ {fu : Nat} {l1 : Int32} {I : am_I} {r : am_I}, bX11_tryRoom_2 G.2.2.2.1 fu l1 I = some r → am_J G (d + 2) mX11_tryRoom am_no (am_E none r) 2 [some (.inr (0, 60)), some (.inl l1), none] [] I := by
  intro fu
  induction fu with
  | zero => intro l1 I r h; cases h
  | succ fu ih =>
    intro l1 I r h
    have hk2 : ∀ (l1 : Int32) (I : am_I) (r : am_I), bX11_tryRoom_2 G.2.2.2.1 fu l1 I = some r → am_J G (d + 2) mX11_tryRoom am_no (am_E none r) 2 [some (.inr (0, 60)), some (.inl l1), none] [] I := fun l1 I r h => ih h
    unfold bX11_tryRoom_2 at h
    generalize bX11_tryRoom_2 G.2.2.2.1 fu = k2 at hk2 h
    dsimp only at h
    refine am_iload_n dX11_tryRoom_2 rfl ?_
    refine am_bipush (v := nI 8) dX11_tryRoom_3 (by decide) ?_
    refine am_icmp_ge (tgt := 83) dX11_tryRoom_5 rfl (fun c => ?_) (fun c => ?_)
    · rw [if_pos c] at h
      cases h
      exact am_vret dX11_tryRoom_83 rfl ⟨rfl, rfl⟩
    · rw [if_neg c] at h
      refine am_aload_n dX11_tryRoom_8 rfl ?_
      refine am_sipush (v := nI 128) dX11_tryRoom_9 (by decide) ?_
      refine am_iload_n dX11_tryRoom_12 rfl ?_
      refine am_iadd dX11_tryRoom_13 ?_
      refine am_iconst (v := nI 1) dX11_tryRoom_14 (by decide) ?_
      obtain ⟨q1, hq1, h⟩ := am_bd h
      refine am_callVx (i := 0) (j := 60) (as := [.inl ((nI 128) + l1), .inl (nI 1)]) (rest := []) dX11_tryRoom_15 lkX11_meets ml_X11_338 imX11_meets seX11_meets rfl rfl (hG.m0 (by decide)) rfl (Nat.le_of_ble_eq_true rfl) rfl (sX11_meets hG hq1) ?_
      refine am_if_ne (tgt := 22) dX11_tryRoom_18 rfl (fun c => ?_) (fun c => ?_)
      · rw [if_neg c] at h
        refine am_iconst (v := nI 0) dX11_tryRoom_22 (by decide) ?_
        refine am_istore_n dX11_tryRoom_23 (by decide) ?_
        exact am_lwJ (lo' := [some (.inr (0, 60)), some (.inl l1), some (.inl (nI 0))]) ⟨rfl, rfl, rfl, trivial⟩ (tX11_tryRoom_24 hG hk2 h)
      · rw [if_pos c] at h
        cases h
        exact am_vret dX11_tryRoom_21 rfl ⟨rfl, rfl⟩
def bX11_tryRoom_0 (n : Nat) (I : am_I) : Option (am_I) := bX11_tryRoom_2 n am_fu (nI 0) I
theorem tX11_tryRoom_0 {G : am_G} (hG : am_okM G) {d : Nat} {I : am_I} {r : am_I} (h : bX11_tryRoom_0 G.2.2.2.1  I = some r) : am_J G (d + 2) mX11_tryRoom am_no (am_E none r) 0 [some (.inr (0, 60)), none, none] [] I := by
  unfold bX11_tryRoom_0 at h
  refine am_iconst (v := nI 0) dX11_tryRoom_0 (by decide) ?_
  refine am_istore_n dX11_tryRoom_1 (by decide) ?_
  exact am_lwJ (lo' := [some (.inr (0, 60)), some (.inl (nI 0)), none]) ⟨rfl, rfl, trivial⟩ (tX11_tryRoom_2 hG h)
def gX11_tryRoom (n : Nat) (I : am_I) : Option (am_I) := bX11_tryRoom_0 n I
theorem sX11_tryRoom {G : am_G} (hG : am_okM G) {d : Nat} {I : am_I} {r : am_I} (h : gX11_tryRoom G.2.2.2.1 I = some r) : am_C G (d + 2) mX11_tryRoom [.inr (0, 60)] I (am_E none r) :=
  am_of (by decide +kernel) hG.nd (Nat.le_of_ble_eq_true rfl) (am_lwJ (lo' := [some (.inr (0, 60)), none, none]) ⟨rfl, trivial⟩ (tX11_tryRoom_0 hG h))
def bX11_tryCut_246 (n : Nat) (l1 : Int32) (l2 : Int32) (l3 : Int32) (I : am_I) : Option (am_I) := (gX11_setInode n l1 (nI 2) l2 I).bind (fun q1 => am_lt (am_up q1 0 60 55 l3) (fun I2 => some I2))
theorem tX11_tryCut_246 {G : am_G} (hG : am_okM G) {d : Nat} {l1 : Int32} {l2 : Int32} {l3 : Int32} {I : am_I} {r : am_I} (h : bX11_tryCut_246 G.2.2.2.1 l1 l2 l3  I = some r) : am_J G (d + 4) mX11_tryCut am_no (am_E none r) 246 [some (.inr (0, 60)), some (.inl l1), some (.inl l2), some (.inl l3), none, none, none] [] I := by
  unfold bX11_tryCut_246 at h
  refine am_aload_n dX11_tryCut_246 rfl ?_
  refine am_iload_n dX11_tryCut_247 rfl ?_
  refine am_iconst (v := nI 2) dX11_tryCut_248 (by decide) ?_
  refine am_iload_n dX11_tryCut_249 rfl ?_
  obtain ⟨q1, hq1, h⟩ := am_bd h
  refine am_callVe (i := 0) (j := 60) (as := [.inl l1, .inl (nI 2), .inl l2]) (rest := []) dX11_tryCut_250 lkX11_setInode ml_X11_360 imX11_setInode seX11_setInode rfl rfl (hG.m0 (by decide)) rfl (Nat.le_of_ble_eq_true rfl) rfl (sX11_setInode hG hq1) ?_
  refine am_aload_n dX11_tryCut_253 rfl ?_
  refine am_iload_n dX11_tryCut_254 rfl ?_
  refine am_put (x := l3) dX11_tryCut_255 fp_11_316 (hG.m0 (by decide)) (Nat.le_of_ble_eq_true rfl) rfl ?_
  obtain ⟨I2, hI2, h⟩ := am_lt_some h
  refine am_st10 hI2 ?_
  cases h
  exact am_vret dX11_tryCut_258 rfl ⟨rfl, rfl⟩
def bX11_tryCut_219 (n : Nat) : Nat → Int32 → Int32 → Int32 → Int32 → Int32 → am_I → Option (am_I)
  | 0, _, _, _, _, _, _ => none
  | fu + 1, l1, l2, l3, l5, l6, I => (fun k219 => if (nI 16) ≤ l6 then (bX11_tryCut_246 n l1 l2 l3 I) else (if l5 = 0 then (bX11_tryCut_246 n l1 l2 l3 I) else ((gX11_set n l5 l6 (nI 0) I).bind (fun q1 => k219 l1 l2 l3 l5 (l6 + nI 1) q1)))) (bX11_tryCut_219 n fu)
theorem tX11_tryCut_219 {G : am_G} (hG : am_okM G) {d : Nat} : ∀ {fu : Nat} {l1 : Int32} {l2 : Int32} {l3 : Int32} {l5 : Int32} {l6 : Int32} {I : am_I} {r : am_I}, bX11_tryCut_219 G.2.2.2.1 fu l1 l2 l3 l5 l6 I = some r → am_J G (d + 4) mX11_tryCut am_no (am_E none r) 219 [some (.inr (0, 60)), some (.inl l1), some (.inl l2), some (.inl l3), none, some (.inl l5), some (.inl l6)] [] I := by
  intro fu
  induction fu with
  | zero => intro l1 l2 l3 l5 l6 I r h; cases h
  | succ fu ih =>
    intro l1 l2 l3 l5 l6 I r h
    have hk219 : ∀ (l1 : Int32) (l2 : Int32) (l3 : Int32) (l5 : Int32) (l6 : Int32) (I : am_I) (r : am_I), bX11_tryCut_219 G.2.2.2.1 fu l1 l2 l3 l5 l6 I = some r → am_J G (d + 4) mX11_tryCut am_no (am_E none r) 219 [some (.inr (0, 60)), some (.inl l1), some (.inl l2), some (.inl l3), none, some (.inl l5), some (.inl l6)] [] I := fun l1 l2 l3 l5 l6 I r h => ih h
    unfold bX11_tryCut_219 at h
    generalize bX11_tryCut_219 G.2.2.2.1 fu = k219 at hk219 h
    dsimp only at h
    refine am_iload dX11_tryCut_219 rfl ?_
    refine am_bipush (v := nI 16) dX11_tryCut_221 (by decide) ?_
    refine am_icmp_ge (tgt := 246) dX11_tryCut_223 rfl (fun c => ?_) (fun c => ?_)
    · rw [if_pos c] at h
      exact am_lwJ (lo' := [some (.inr (0, 60)), some (.inl l1), some (.inl l2), some (.inl l3), none, none, none]) ⟨rfl, rfl, rfl, rfl, trivial⟩ (tX11_tryCut_246 hG h)
    · rw [if_neg c] at h
      refine am_iload dX11_tryCut_226 rfl ?_
      refine am_if_eq (tgt := 246) dX11_tryCut_228 rfl (fun c => ?_) (fun c => ?_)
      · rw [if_pos c] at h
        exact am_lwJ (lo' := [some (.inr (0, 60)), some (.inl l1), some (.inl l2), some (.inl l3), none, none, none]) ⟨rfl, rfl, rfl, rfl, trivial⟩ (tX11_tryCut_246 hG h)
      · rw [if_neg c] at h
        refine am_aload_n dX11_tryCut_231 rfl ?_
        refine am_iload dX11_tryCut_232 rfl ?_
        refine am_iload dX11_tryCut_234 rfl ?_
        refine am_iconst (v := nI 0) dX11_tryCut_236 (by decide) ?_
        obtain ⟨q1, hq1, h⟩ := am_bd h
        refine am_callVe (i := 0) (j := 60) (as := [.inl l5, .inl l6, .inl (nI 0)]) (rest := []) dX11_tryCut_237 lkX11_set ml_X11_335 imX11_set seX11_set rfl rfl (hG.m0 (by decide)) rfl (Nat.le_of_ble_eq_true rfl) rfl (sX11_set hG hq1) ?_
        refine am_iinc (v := l6 + nI 1) dX11_tryCut_240 rfl rfl ?_
        refine am_goto (tgt := 219) dX11_tryCut_243 rfl ?_
        exact am_lwJ (lo' := [some (.inr (0, 60)), some (.inl l1), some (.inl l2), some (.inl l3), none, some (.inl l5), some (.inl (l6 + nI 1))]) ⟨rfl, rfl, rfl, rfl, rfl, rfl, trivial⟩ (hk219 l1 l2 l3 l5 (l6 + nI 1) _ _ h)
def bX11_tryCut_211 (n : Nat) (l1 : Int32) (l2 : Int32) (l3 : Int32) (s0 : Int32) (I : am_I) : Option (am_I) := bX11_tryCut_219 n am_fu l1 l2 l3 s0 (l2 - l2 / (nI 16) * (nI 16)) I
theorem tX11_tryCut_211 {G : am_G} (hG : am_okM G) {d : Nat} {l1 : Int32} {l2 : Int32} {l3 : Int32} {s0 : Int32} {I : am_I} {r : am_I} (h : bX11_tryCut_211 G.2.2.2.1 l1 l2 l3 s0  I = some r) : am_J G (d + 4) mX11_tryCut am_no (am_E none r) 211 [some (.inr (0, 60)), some (.inl l1), some (.inl l2), some (.inl l3), none, none, none] [.inl s0] I := by
  unfold bX11_tryCut_211 at h
  refine am_istore dX11_tryCut_211 (by decide) ?_
  refine am_iload_n dX11_tryCut_213 rfl ?_
  refine am_bipush (v := nI 16) dX11_tryCut_214 (by decide) ?_
  refine am_irem dX11_tryCut_216 (by decide) ?_
  refine am_istore dX11_tryCut_217 (by decide) ?_
  exact am_lwJ (lo' := [some (.inr (0, 60)), some (.inl l1), some (.inl l2), some (.inl l3), none, some (.inl s0), some (.inl (l2 - l2 / (nI 16) * (nI 16)))]) ⟨rfl, rfl, rfl, rfl, rfl, rfl, trivial⟩ (tX11_tryCut_219 hG h)
def bX11_tryCut_194 (n : Nat) (l1 : Int32) (l2 : Int32) (l3 : Int32) (I : am_I) : Option (am_I) := if (l2 - l2 / (nI 16) * (nI 16)) = 0 then (bX11_tryCut_211 n l1 l2 l3 (nI 0) I) else ((gX11_blockOf n l1 l2 I).bind (fun q1 => bX11_tryCut_211 n l1 l2 l3 q1.1 q1.2))
theorem tX11_tryCut_194 {G : am_G} (hG : am_okM G) {d : Nat} {l1 : Int32} {l2 : Int32} {l3 : Int32} {I : am_I} {r : am_I} (h : bX11_tryCut_194 G.2.2.2.1 l1 l2 l3  I = some r) : am_J G (d + 4) mX11_tryCut am_no (am_E none r) 194 [some (.inr (0, 60)), some (.inl l1), some (.inl l2), some (.inl l3), none, none, none] [] I := by
  unfold bX11_tryCut_194 at h
  refine am_iload_n dX11_tryCut_194 rfl ?_
  refine am_bipush (v := nI 16) dX11_tryCut_195 (by decide) ?_
  refine am_irem dX11_tryCut_197 (by decide) ?_
  refine am_if_ne (tgt := 205) dX11_tryCut_198 rfl (fun c => ?_) (fun c => ?_)
  · rw [if_neg c] at h
    refine am_aload_n dX11_tryCut_205 rfl ?_
    refine am_iload_n dX11_tryCut_206 rfl ?_
    refine am_iload_n dX11_tryCut_207 rfl ?_
    obtain ⟨q1, hq1, h⟩ := am_bd h
    refine am_callVx (i := 0) (j := 60) (as := [.inl l1, .inl l2]) (rest := []) dX11_tryCut_208 lkX11_blockOf ml_X11_354 imX11_blockOf seX11_blockOf rfl rfl (hG.m0 (by decide)) rfl (Nat.le_of_ble_eq_true rfl) rfl (sX11_blockOf hG hq1) ?_
    exact am_lwJ (lo' := [some (.inr (0, 60)), some (.inl l1), some (.inl l2), some (.inl l3), none, none, none]) ⟨rfl, rfl, rfl, rfl, trivial⟩ (tX11_tryCut_211 hG h)
  · rw [if_pos c] at h
    refine am_iconst (v := nI 0) dX11_tryCut_201 (by decide) ?_
    refine am_goto (tgt := 211) dX11_tryCut_202 rfl ?_
    exact am_lwJ (lo' := [some (.inr (0, 60)), some (.inl l1), some (.inl l2), some (.inl l3), none, none, none]) ⟨rfl, rfl, rfl, rfl, trivial⟩ (tX11_tryCut_211 hG h)
def bX11_tryCut_160 (n : Nat) (l1 : Int32) (l2 : Int32) (l3 : Int32) (l4 : Int32) (I : am_I) : Option (am_I) := if (nI 128) < l2 then (bX11_tryCut_194 n l1 l2 l3 I) else (if l4 = 0 then (bX11_tryCut_194 n l1 l2 l3 I) else ((gX11_giveBack n l4 I).bind (fun q1 => (gX11_isOver n q1).bind (fun q2 => if q2.1 = 0 then ((gX11_setInode n l1 (nI 11) (nI 0) q2.2).bind (fun q3 => bX11_tryCut_194 n l1 l2 l3 q3)) else (some q2.2)))))
theorem tX11_tryCut_160 {G : am_G} (hG : am_okM G) {d : Nat} {l1 : Int32} {l2 : Int32} {l3 : Int32} {l4 : Int32} {I : am_I} {r : am_I} (h : bX11_tryCut_160 G.2.2.2.1 l1 l2 l3 l4  I = some r) : am_J G (d + 4) mX11_tryCut am_no (am_E none r) 160 [some (.inr (0, 60)), some (.inl l1), some (.inl l2), some (.inl l3), some (.inl l4), none, none] [] I := by
  unfold bX11_tryCut_160 at h
  refine am_iload_n dX11_tryCut_160 rfl ?_
  refine am_sipush (v := nI 128) dX11_tryCut_161 (by decide) ?_
  refine am_icmp_gt (tgt := 194) dX11_tryCut_164 rfl (fun c => ?_) (fun c => ?_)
  · rw [if_pos c] at h
    exact am_lwJ (lo' := [some (.inr (0, 60)), some (.inl l1), some (.inl l2), some (.inl l3), none, none, none]) ⟨rfl, rfl, rfl, rfl, trivial⟩ (tX11_tryCut_194 hG h)
  · rw [if_neg c] at h
    refine am_iload dX11_tryCut_167 rfl ?_
    refine am_if_eq (tgt := 194) dX11_tryCut_169 rfl (fun c => ?_) (fun c => ?_)
    · rw [if_pos c] at h
      exact am_lwJ (lo' := [some (.inr (0, 60)), some (.inl l1), some (.inl l2), some (.inl l3), none, none, none]) ⟨rfl, rfl, rfl, rfl, trivial⟩ (tX11_tryCut_194 hG h)
    · rw [if_neg c] at h
      refine am_aload_n dX11_tryCut_172 rfl ?_
      refine am_iload dX11_tryCut_173 rfl ?_
      obtain ⟨q1, hq1, h⟩ := am_bd h
      refine am_callVe (i := 0) (j := 60) (as := [.inl l4]) (rest := []) dX11_tryCut_175 lkX11_giveBack ml_X11_428 imX11_giveBack seX11_giveBack rfl rfl (hG.m0 (by decide)) rfl (Nat.le_of_ble_eq_true rfl) rfl (sX11_giveBack hG hq1) ?_
      refine am_aload_n dX11_tryCut_178 rfl ?_
      obtain ⟨q2, hq2, h⟩ := am_bd h
      refine am_callVx (i := 0) (j := 60) (as := []) (rest := []) dX11_tryCut_179 lkX11_isOver ml_X11_322 imX11_isOver seX11_isOver rfl rfl (hG.m0 (by decide)) rfl (Nat.le_of_ble_eq_true rfl) rfl (sX11_isOver hG hq2) ?_
      refine am_if_eq (tgt := 186) dX11_tryCut_182 rfl (fun c => ?_) (fun c => ?_)
      · rw [if_pos c] at h
        refine am_aload_n dX11_tryCut_186 rfl ?_
        refine am_iload_n dX11_tryCut_187 rfl ?_
        refine am_bipush (v := nI 11) dX11_tryCut_188 (by decide) ?_
        refine am_iconst (v := nI 0) dX11_tryCut_190 (by decide) ?_
        obtain ⟨q3, hq3, h⟩ := am_bd h
        refine am_callVe (i := 0) (j := 60) (as := [.inl l1, .inl (nI 11), .inl (nI 0)]) (rest := []) dX11_tryCut_191 lkX11_setInode ml_X11_360 imX11_setInode seX11_setInode rfl rfl (hG.m0 (by decide)) rfl (Nat.le_of_ble_eq_true rfl) rfl (sX11_setInode hG hq3) ?_
        exact am_lwJ (lo' := [some (.inr (0, 60)), some (.inl l1), some (.inl l2), some (.inl l3), none, none, none]) ⟨rfl, rfl, rfl, rfl, trivial⟩ (tX11_tryCut_194 hG h)
      · rw [if_neg c] at h
        cases h
        exact am_vret dX11_tryCut_185 rfl ⟨rfl, rfl⟩
def bX11_tryCut_154 (n : Nat) (k38 : Int32 → Int32 → Int32 → Int32 → Int32 → am_I → Option (am_I)) (l1 : Int32) (l2 : Int32) (l3 : Int32) (l4 : Int32) (l5 : Int32) (I : am_I) : Option (am_I) := k38 l1 l2 l3 l4 (l5 + nI 1) I
theorem tX11_tryCut_154 {G : am_G} (hG : am_okM G) {d : Nat} {k38 : Int32 → Int32 → Int32 → Int32 → Int32 → am_I → Option (am_I)} (hk38 : ∀ (l1 : Int32) (l2 : Int32) (l3 : Int32) (l4 : Int32) (l5 : Int32) (I : am_I) (r : am_I), k38 l1 l2 l3 l4 l5 I = some r → am_J G (d + 4) mX11_tryCut am_no (am_E none r) 38 [some (.inr (0, 60)), some (.inl l1), some (.inl l2), some (.inl l3), some (.inl l4), some (.inl l5), none] [] I) {l1 : Int32} {l2 : Int32} {l3 : Int32} {l4 : Int32} {l5 : Int32} {I : am_I} {r : am_I} (h : bX11_tryCut_154 G.2.2.2.1 k38 l1 l2 l3 l4 l5  I = some r) : am_J G (d + 4) mX11_tryCut am_no (am_E none r) 154 [some (.inr (0, 60)), some (.inl l1), some (.inl l2), some (.inl l3), some (.inl l4), some (.inl l5), none] [] I := by
  unfold bX11_tryCut_154 at h
  refine am_iinc (v := l5 + nI 1) dX11_tryCut_154 rfl rfl ?_
  refine am_goto (tgt := 38) dX11_tryCut_157 rfl ?_
  exact am_lwJ (lo' := [some (.inr (0, 60)), some (.inl l1), some (.inl l2), some (.inl l3), some (.inl l4), some (.inl (l5 + nI 1)), none]) ⟨rfl, rfl, rfl, rfl, rfl, rfl, trivial⟩ (hk38 l1 l2 l3 l4 (l5 + nI 1) _ _ h)
def bX11_tryCut_91 (n : Nat) (k38 : Int32 → Int32 → Int32 → Int32 → Int32 → am_I → Option (am_I)) (l1 : Int32) (l2 : Int32) (l3 : Int32) (l4 : Int32) (l5 : Int32) (s0 : Int32) (I : am_I) : Option (am_I) := if s0 = 0 then (bX11_tryCut_154 n k38 l1 l2 l3 l4 l5 I) else ((gX11_giveBack n s0 I).bind (fun q1 => (gX11_isOver n q1).bind (fun q2 => if q2.1 = 0 then (if (nI 8) ≤ l5 then (if l2 ≤ (nI 128) then (bX11_tryCut_154 n k38 l1 l2 l3 l4 l5 q2.2) else ((gX11_set n l4 (l5 - (nI 8)) (nI 0) q2.2).bind (fun q3 => bX11_tryCut_154 n k38 l1 l2 l3 l4 l5 q3))) else ((gX11_setInode n l1 ((nI 3) + l5) (nI 0) q2.2).bind (fun q4 => bX11_tryCut_154 n k38 l1 l2 l3 l4 l5 q4))) else (some q2.2))))
theorem tX11_tryCut_91 {G : am_G} (hG : am_okM G) {d : Nat} {k38 : Int32 → Int32 → Int32 → Int32 → Int32 → am_I → Option (am_I)} (hk38 : ∀ (l1 : Int32) (l2 : Int32) (l3 : Int32) (l4 : Int32) (l5 : Int32) (I : am_I) (r : am_I), k38 l1 l2 l3 l4 l5 I = some r → am_J G (d + 4) mX11_tryCut am_no (am_E none r) 38 [some (.inr (0, 60)), some (.inl l1), some (.inl l2), some (.inl l3), some (.inl l4), some (.inl l5), none] [] I) {l1 : Int32} {l2 : Int32} {l3 : Int32} {l4 : Int32} {l5 : Int32} {s0 : Int32} {I : am_I} {r : am_I} (h : bX11_tryCut_91 G.2.2.2.1 k38 l1 l2 l3 l4 l5 s0  I = some r) : am_J G (d + 4) mX11_tryCut am_no (am_E none r) 91 [some (.inr (0, 60)), some (.inl l1), some (.inl l2), some (.inl l3), some (.inl l4), some (.inl l5), none] [.inl s0] I := by
  unfold bX11_tryCut_91 at h
  refine am_istore dX11_tryCut_91 (by decide) ?_
  refine am_iload dX11_tryCut_93 rfl ?_
  refine am_if_ne (tgt := 101) dX11_tryCut_95 rfl (fun c => ?_) (fun c => ?_)
  · rw [if_neg c] at h
    refine am_aload_n dX11_tryCut_101 rfl ?_
    refine am_iload dX11_tryCut_102 rfl ?_
    obtain ⟨q1, hq1, h⟩ := am_bd h
    refine am_callVe (i := 0) (j := 60) (as := [.inl s0]) (rest := []) dX11_tryCut_104 lkX11_giveBack ml_X11_428 imX11_giveBack seX11_giveBack rfl rfl (hG.m0 (by decide)) rfl (Nat.le_of_ble_eq_true rfl) rfl (sX11_giveBack hG hq1) ?_
    refine am_aload_n dX11_tryCut_107 rfl ?_
    obtain ⟨q2, hq2, h⟩ := am_bd h
    refine am_callVx (i := 0) (j := 60) (as := []) (rest := []) dX11_tryCut_108 lkX11_isOver ml_X11_322 imX11_isOver seX11_isOver rfl rfl (hG.m0 (by decide)) rfl (Nat.le_of_ble_eq_true rfl) rfl (sX11_isOver hG hq2) ?_
    refine am_if_eq (tgt := 115) dX11_tryCut_111 rfl (fun c => ?_) (fun c => ?_)
    · rw [if_pos c] at h
      refine am_iload dX11_tryCut_115 rfl ?_
      refine am_bipush (v := nI 8) dX11_tryCut_117 (by decide) ?_
      refine am_icmp_ge (tgt := 135) dX11_tryCut_119 rfl (fun c => ?_) (fun c => ?_)
      · rw [if_pos c] at h
        refine am_iload_n dX11_tryCut_135 rfl ?_
        refine am_sipush (v := nI 128) dX11_tryCut_136 (by decide) ?_
        refine am_icmp_le (tgt := 154) dX11_tryCut_139 rfl (fun c => ?_) (fun c => ?_)
        · rw [if_pos c] at h
          exact am_lwJ (lo' := [some (.inr (0, 60)), some (.inl l1), some (.inl l2), some (.inl l3), some (.inl l4), some (.inl l5), none]) ⟨rfl, rfl, rfl, rfl, rfl, rfl, trivial⟩ (tX11_tryCut_154 hG hk38 h)
        · rw [if_neg c] at h
          refine am_aload_n dX11_tryCut_142 rfl ?_
          refine am_iload dX11_tryCut_143 rfl ?_
          refine am_iload dX11_tryCut_145 rfl ?_
          refine am_bipush (v := nI 8) dX11_tryCut_147 (by decide) ?_
          refine am_isub dX11_tryCut_149 ?_
          refine am_iconst (v := nI 0) dX11_tryCut_150 (by decide) ?_
          obtain ⟨q3, hq3, h⟩ := am_bd h
          refine am_callVe (i := 0) (j := 60) (as := [.inl l4, .inl (l5 - (nI 8)), .inl (nI 0)]) (rest := []) dX11_tryCut_151 lkX11_set ml_X11_335 imX11_set seX11_set rfl rfl (hG.m0 (by decide)) rfl (Nat.le_of_ble_eq_true rfl) rfl (sX11_set hG hq3) ?_
          exact am_lwJ (lo' := [some (.inr (0, 60)), some (.inl l1), some (.inl l2), some (.inl l3), some (.inl l4), some (.inl l5), none]) ⟨rfl, rfl, rfl, rfl, rfl, rfl, trivial⟩ (tX11_tryCut_154 hG hk38 h)
      · rw [if_neg c] at h
        refine am_aload_n dX11_tryCut_122 rfl ?_
        refine am_iload_n dX11_tryCut_123 rfl ?_
        refine am_iconst (v := nI 3) dX11_tryCut_124 (by decide) ?_
        refine am_iload dX11_tryCut_125 rfl ?_
        refine am_iadd dX11_tryCut_127 ?_
        refine am_iconst (v := nI 0) dX11_tryCut_128 (by decide) ?_
        obtain ⟨q4, hq4, h⟩ := am_bd h
        refine am_callVe (i := 0) (j := 60) (as := [.inl l1, .inl ((nI 3) + l5), .inl (nI 0)]) (rest := []) dX11_tryCut_129 lkX11_setInode ml_X11_360 imX11_setInode seX11_setInode rfl rfl (hG.m0 (by decide)) rfl (Nat.le_of_ble_eq_true rfl) rfl (sX11_setInode hG hq4) ?_
        refine am_goto (tgt := 154) dX11_tryCut_132 rfl ?_
        exact am_lwJ (lo' := [some (.inr (0, 60)), some (.inl l1), some (.inl l2), some (.inl l3), some (.inl l4), some (.inl l5), none]) ⟨rfl, rfl, rfl, rfl, rfl, rfl, trivial⟩ (tX11_tryCut_154 hG hk38 h)
    · rw [if_neg c] at h
      cases h
      exact am_vret dX11_tryCut_114 rfl ⟨rfl, rfl⟩
  · rw [if_pos c] at h
    refine am_goto (tgt := 154) dX11_tryCut_98 rfl ?_
    exact am_lwJ (lo' := [some (.inr (0, 60)), some (.inl l1), some (.inl l2), some (.inl l3), some (.inl l4), some (.inl l5), none]) ⟨rfl, rfl, rfl, rfl, rfl, rfl, trivial⟩ (tX11_tryCut_154 hG hk38 h)
def bX11_tryCut_38 (n : Nat) : Nat → Int32 → Int32 → Int32 → Int32 → Int32 → am_I → Option (am_I)
  | 0, _, _, _, _, _, _ => none
  | fu + 1, l1, l2, l3, l4, l5, I => (fun k38 => if (nI 24) ≤ l5 then (bX11_tryCut_160 n l1 l2 l3 l4 I) else ((gX11_isOver n I).bind (fun q1 => if q1.1 = 0 then (if (nI 8) ≤ l5 then (if l4 = 0 then (bX11_tryCut_91 n k38 l1 l2 l3 l4 l5 (nI 0) q1.2) else ((gX11_get n l4 (l5 - (nI 8)) q1.2).bind (fun q2 => bX11_tryCut_91 n k38 l1 l2 l3 l4 l5 q2.1 q2.2))) else ((gX11_ofInode n l1 ((nI 3) + l5) q1.2).bind (fun q3 => bX11_tryCut_91 n k38 l1 l2 l3 l4 l5 q3.1 q3.2))) else (bX11_tryCut_160 n l1 l2 l3 l4 q1.2)))) (bX11_tryCut_38 n fu)
theorem tX11_tryCut_38 {G : am_G} (hG : am_okM G) {d : Nat} : ∀ {fu : Nat} {l1 : Int32} {l2 : Int32} {l3 : Int32} {l4 : Int32} {l5 : Int32} {I : am_I} {r : am_I}, bX11_tryCut_38 G.2.2.2.1 fu l1 l2 l3 l4 l5 I = some r → am_J G (d + 4) mX11_tryCut am_no (am_E none r) 38 [some (.inr (0, 60)), some (.inl l1), some (.inl l2), some (.inl l3), some (.inl l4), some (.inl l5), none] [] I := by
  intro fu
  induction fu with
  | zero => intro l1 l2 l3 l4 l5 I r h; cases h
  | succ fu ih =>
    intro l1 l2 l3 l4 l5 I r h
    have hk38 : ∀ (l1 : Int32) (l2 : Int32) (l3 : Int32) (l4 : Int32) (l5 : Int32) (I : am_I) (r : am_I), bX11_tryCut_38 G.2.2.2.1 fu l1 l2 l3 l4 l5 I = some r → am_J G (d + 4) mX11_tryCut am_no (am_E none r) 38 [some (.inr (0, 60)), some (.inl l1), some (.inl l2), some (.inl l3), some (.inl l4), some (.inl l5), none] [] I := fun l1 l2 l3 l4 l5 I r h => ih h
    unfold bX11_tryCut_38 at h
    generalize bX11_tryCut_38 G.2.2.2.1 fu = k38 at hk38 h
    dsimp only at h
    refine am_iload dX11_tryCut_38 rfl ?_
    refine am_bipush (v := nI 24) dX11_tryCut_40 (by decide) ?_
    refine am_icmp_ge (tgt := 160) dX11_tryCut_42 rfl (fun c => ?_) (fun c => ?_)
    · rw [if_pos c] at h
      exact am_lwJ (lo' := [some (.inr (0, 60)), some (.inl l1), some (.inl l2), some (.inl l3), some (.inl l4), none, none]) ⟨rfl, rfl, rfl, rfl, rfl, trivial⟩ (tX11_tryCut_160 hG h)
    · rw [if_neg c] at h
      refine am_aload_n dX11_tryCut_45 rfl ?_
      obtain ⟨q1, hq1, h⟩ := am_bd h
      refine am_callVx (i := 0) (j := 60) (as := []) (rest := []) dX11_tryCut_46 lkX11_isOver ml_X11_322 imX11_isOver seX11_isOver rfl rfl (hG.m0 (by decide)) rfl (Nat.le_of_ble_eq_true rfl) rfl (sX11_isOver hG hq1) ?_
      refine am_if_ne (tgt := 160) dX11_tryCut_49 rfl (fun c => ?_) (fun c => ?_)
      · rw [if_neg c] at h
        exact am_lwJ (lo' := [some (.inr (0, 60)), some (.inl l1), some (.inl l2), some (.inl l3), some (.inl l4), none, none]) ⟨rfl, rfl, rfl, rfl, rfl, trivial⟩ (tX11_tryCut_160 hG h)
      · rw [if_pos c] at h
        refine am_iload dX11_tryCut_52 rfl ?_
        refine am_bipush (v := nI 8) dX11_tryCut_54 (by decide) ?_
        refine am_icmp_ge (tgt := 71) dX11_tryCut_56 rfl (fun c => ?_) (fun c => ?_)
        · rw [if_pos c] at h
          refine am_iload dX11_tryCut_71 rfl ?_
          refine am_if_ne (tgt := 80) dX11_tryCut_73 rfl (fun c => ?_) (fun c => ?_)
          · rw [if_neg c] at h
            refine am_aload_n dX11_tryCut_80 rfl ?_
            refine am_iload dX11_tryCut_81 rfl ?_
            refine am_iload dX11_tryCut_83 rfl ?_
            refine am_bipush (v := nI 8) dX11_tryCut_85 (by decide) ?_
            refine am_isub dX11_tryCut_87 ?_
            obtain ⟨q2, hq2, h⟩ := am_bd h
            refine am_callVx (i := 0) (j := 60) (as := [.inl l4, .inl (l5 - (nI 8))]) (rest := []) dX11_tryCut_88 lkX11_get ml_X11_332 imX11_get seX11_get rfl rfl (hG.m0 (by decide)) rfl (Nat.le_of_ble_eq_true rfl) rfl (sX11_get hG hq2) ?_
            exact am_lwJ (lo' := [some (.inr (0, 60)), some (.inl l1), some (.inl l2), some (.inl l3), some (.inl l4), some (.inl l5), none]) ⟨rfl, rfl, rfl, rfl, rfl, rfl, trivial⟩ (tX11_tryCut_91 hG hk38 h)
          · rw [if_pos c] at h
            refine am_iconst (v := nI 0) dX11_tryCut_76 (by decide) ?_
            refine am_goto (tgt := 91) dX11_tryCut_77 rfl ?_
            exact am_lwJ (lo' := [some (.inr (0, 60)), some (.inl l1), some (.inl l2), some (.inl l3), some (.inl l4), some (.inl l5), none]) ⟨rfl, rfl, rfl, rfl, rfl, rfl, trivial⟩ (tX11_tryCut_91 hG hk38 h)
        · rw [if_neg c] at h
          refine am_aload_n dX11_tryCut_59 rfl ?_
          refine am_iload_n dX11_tryCut_60 rfl ?_
          refine am_iconst (v := nI 3) dX11_tryCut_61 (by decide) ?_
          refine am_iload dX11_tryCut_62 rfl ?_
          refine am_iadd dX11_tryCut_64 ?_
          obtain ⟨q3, hq3, h⟩ := am_bd h
          refine am_callVx (i := 0) (j := 60) (as := [.inl l1, .inl ((nI 3) + l5)]) (rest := []) dX11_tryCut_65 lkX11_ofInode ml_X11_351 imX11_ofInode seX11_ofInode rfl rfl (hG.m0 (by decide)) rfl (Nat.le_of_ble_eq_true rfl) rfl (sX11_ofInode hG hq3) ?_
          refine am_goto (tgt := 91) dX11_tryCut_68 rfl ?_
          exact am_lwJ (lo' := [some (.inr (0, 60)), some (.inl l1), some (.inl l2), some (.inl l3), some (.inl l4), some (.inl l5), none]) ⟨rfl, rfl, rfl, rfl, rfl, rfl, trivial⟩ (tX11_tryCut_91 hG hk38 h)
def bX11_tryCut_0 (n : Nat) (l1 : Int32) (l2 : Int32) (I : am_I) : Option (am_I) := (gX11_isOf n l1 (nI 2) (nI 1) (-4 : Int32) I).bind (fun q1 => if q1.1 = 0 then (some q1.2) else ((gX11_ofInode n l1 (nI 2) q1.2).bind (fun q2 => (gX11_ofInode n l1 (nI 11) q2.2).bind (fun q3 => bX11_tryCut_38 n am_fu l1 l2 q2.1 q3.1 ((l2 + (nI 15)) / (nI 16)) q3.2))))
theorem tX11_tryCut_0 {G : am_G} (hG : am_okM G) {d : Nat} {l1 : Int32} {l2 : Int32} {I : am_I} {r : am_I} (h : bX11_tryCut_0 G.2.2.2.1 l1 l2  I = some r) : am_J G (d + 4) mX11_tryCut am_no (am_E none r) 0 [some (.inr (0, 60)), some (.inl l1), some (.inl l2), none, none, none, none] [] I := by
  unfold bX11_tryCut_0 at h
  refine am_aload_n dX11_tryCut_0 rfl ?_
  refine am_iload_n dX11_tryCut_1 rfl ?_
  refine am_iconst (v := nI 2) dX11_tryCut_2 (by decide) ?_
  refine am_iconst (v := nI 1) dX11_tryCut_3 (by decide) ?_
  refine am_bipush (v := (-4 : Int32)) dX11_tryCut_4 (by decide) ?_
  obtain ⟨q1, hq1, h⟩ := am_bd h
  refine am_callVx (i := 0) (j := 60) (as := [.inl l1, .inl (nI 2), .inl (nI 1), .inl (-4 : Int32)]) (rest := []) dX11_tryCut_6 lkX11_isOf ml_X11_390 imX11_isOf seX11_isOf rfl rfl (hG.m0 (by decide)) rfl (Nat.le_of_ble_eq_true rfl) rfl (sX11_isOf hG hq1) ?_
  refine am_if_ne (tgt := 13) dX11_tryCut_9 rfl (fun c => ?_) (fun c => ?_)
  · rw [if_neg c] at h
    refine am_aload_n dX11_tryCut_13 rfl ?_
    refine am_iload_n dX11_tryCut_14 rfl ?_
    refine am_iconst (v := nI 2) dX11_tryCut_15 (by decide) ?_
    obtain ⟨q2, hq2, h⟩ := am_bd h
    refine am_callVx (i := 0) (j := 60) (as := [.inl l1, .inl (nI 2)]) (rest := []) dX11_tryCut_16 lkX11_ofInode ml_X11_351 imX11_ofInode seX11_ofInode rfl rfl (hG.m0 (by decide)) rfl (Nat.le_of_ble_eq_true rfl) rfl (sX11_ofInode hG hq2) ?_
    refine am_istore_n dX11_tryCut_19 (by decide) ?_
    refine am_aload_n dX11_tryCut_20 rfl ?_
    refine am_iload_n dX11_tryCut_21 rfl ?_
    refine am_bipush (v := nI 11) dX11_tryCut_22 (by decide) ?_
    obtain ⟨q3, hq3, h⟩ := am_bd h
    refine am_callVx (i := 0) (j := 60) (as := [.inl l1, .inl (nI 11)]) (rest := []) dX11_tryCut_24 lkX11_ofInode ml_X11_351 imX11_ofInode seX11_ofInode rfl rfl (hG.m0 (by decide)) rfl (Nat.le_of_ble_eq_true rfl) rfl (sX11_ofInode hG hq3) ?_
    refine am_istore dX11_tryCut_27 (by decide) ?_
    refine am_iload_n dX11_tryCut_29 rfl ?_
    refine am_bipush (v := nI 15) dX11_tryCut_30 (by decide) ?_
    refine am_iadd dX11_tryCut_32 ?_
    refine am_bipush (v := nI 16) dX11_tryCut_33 (by decide) ?_
    refine am_idiv dX11_tryCut_35 (by decide) ?_
    refine am_istore dX11_tryCut_36 (by decide) ?_
    exact am_lwJ (lo' := [some (.inr (0, 60)), some (.inl l1), some (.inl l2), some (.inl q2.1), some (.inl q3.1), some (.inl ((l2 + (nI 15)) / (nI 16))), none]) ⟨rfl, rfl, rfl, rfl, rfl, rfl, trivial⟩ (tX11_tryCut_38 hG h)
  · rw [if_pos c] at h
    cases h
    exact am_vret dX11_tryCut_12 rfl ⟨rfl, rfl⟩
def gX11_tryCut (n : Nat) (l1 : Int32) (l2 : Int32) (I : am_I) : Option (am_I) := bX11_tryCut_0 n l1 l2 I
theorem sX11_tryCut {G : am_G} (hG : am_okM G) {d : Nat} {l1 : Int32} {l2 : Int32} {I : am_I} {r : am_I} (h : gX11_tryCut G.2.2.2.1 l1 l2 I = some r) : am_C G (d + 4) mX11_tryCut [.inr (0, 60), .inl l1, .inl l2] I (am_E none r) :=
  am_of (by decide +kernel) hG.nd (Nat.le_of_ble_eq_true rfl) (am_lwJ (lo' := [some (.inr (0, 60)), some (.inl l1), some (.inl l2), none, none, none, none]) ⟨rfl, rfl, rfl, trivial⟩ (tX11_tryCut_0 hG h))
def bX11_tryEntry_73 (n : Nat) (k26 : Int32 → Int32 → Int32 → Int32 → Int32 → am_I → Option (am_I)) (l1 : Int32) (l2 : Int32) (l3 : Int32) (l5 : Int32) (s0 : Int32) (I : am_I) : Option (am_I) := k26 l1 l2 l3 s0 (l5 + nI 2) I
theorem tX11_tryEntry_73 {G : am_G} (hG : am_okM G) {d : Nat} {k26 : Int32 → Int32 → Int32 → Int32 → Int32 → am_I → Option (am_I)} (hk26 : ∀ (l1 : Int32) (l2 : Int32) (l3 : Int32) (l4 : Int32) (l5 : Int32) (I : am_I) (r : am_I), k26 l1 l2 l3 l4 l5 I = some r → am_J G (d + 5) mX11_tryEntry am_no (am_E none r) 26 [some (.inr (0, 60)), some (.inl l1), some (.inl l2), some (.inl l3), some (.inl l4), some (.inl l5), none] [] I) {l1 : Int32} {l2 : Int32} {l3 : Int32} {l5 : Int32} {s0 : Int32} {I : am_I} {r : am_I} (h : bX11_tryEntry_73 G.2.2.2.1 k26 l1 l2 l3 l5 s0  I = some r) : am_J G (d + 5) mX11_tryEntry am_no (am_E none r) 73 [some (.inr (0, 60)), some (.inl l1), some (.inl l2), some (.inl l3), none, some (.inl l5), none] [.inl s0] I := by
  unfold bX11_tryEntry_73 at h
  refine am_istore dX11_tryEntry_73 (by decide) ?_
  refine am_iinc (v := l5 + nI 2) dX11_tryEntry_75 rfl rfl ?_
  refine am_goto (tgt := 26) dX11_tryEntry_78 rfl ?_
  exact am_lwJ (lo' := [some (.inr (0, 60)), some (.inl l1), some (.inl l2), some (.inl l3), some (.inl s0), some (.inl (l5 + nI 2)), none]) ⟨rfl, rfl, rfl, rfl, rfl, rfl, trivial⟩ (hk26 l1 l2 l3 s0 (l5 + nI 2) _ _ h)
def bX11_tryEntry_59 (n : Nat) (k26 : Int32 → Int32 → Int32 → Int32 → Int32 → am_I → Option (am_I)) (l1 : Int32) (l2 : Int32) (l3 : Int32) (l4 : Int32) (l5 : Int32) (l6 : Int32) (I : am_I) : Option (am_I) := if l6 = 0 then (bX11_tryEntry_73 n k26 l1 l2 l3 l5 l4 I) else (bX11_tryEntry_73 n k26 l1 l2 l3 l5 (l4 + (nI 1)) I)
theorem tX11_tryEntry_59 {G : am_G} (hG : am_okM G) {d : Nat} {k26 : Int32 → Int32 → Int32 → Int32 → Int32 → am_I → Option (am_I)} (hk26 : ∀ (l1 : Int32) (l2 : Int32) (l3 : Int32) (l4 : Int32) (l5 : Int32) (I : am_I) (r : am_I), k26 l1 l2 l3 l4 l5 I = some r → am_J G (d + 5) mX11_tryEntry am_no (am_E none r) 26 [some (.inr (0, 60)), some (.inl l1), some (.inl l2), some (.inl l3), some (.inl l4), some (.inl l5), none] [] I) {l1 : Int32} {l2 : Int32} {l3 : Int32} {l4 : Int32} {l5 : Int32} {l6 : Int32} {I : am_I} {r : am_I} (h : bX11_tryEntry_59 G.2.2.2.1 k26 l1 l2 l3 l4 l5 l6  I = some r) : am_J G (d + 5) mX11_tryEntry am_no (am_E none r) 59 [some (.inr (0, 60)), some (.inl l1), some (.inl l2), some (.inl l3), some (.inl l4), some (.inl l5), some (.inl l6)] [] I := by
  unfold bX11_tryEntry_59 at h
  refine am_iload dX11_tryEntry_59 rfl ?_
  refine am_if_eq (tgt := 71) dX11_tryEntry_61 rfl (fun c => ?_) (fun c => ?_)
  · rw [if_pos c] at h
    refine am_iload dX11_tryEntry_71 rfl ?_
    exact am_lwJ (lo' := [some (.inr (0, 60)), some (.inl l1), some (.inl l2), some (.inl l3), none, some (.inl l5), none]) ⟨rfl, rfl, rfl, rfl, rfl, trivial⟩ (tX11_tryEntry_73 hG hk26 h)
  · rw [if_neg c] at h
    refine am_iload dX11_tryEntry_64 rfl ?_
    refine am_iconst (v := nI 1) dX11_tryEntry_66 (by decide) ?_
    refine am_iadd dX11_tryEntry_67 ?_
    refine am_goto (tgt := 73) dX11_tryEntry_68 rfl ?_
    exact am_lwJ (lo' := [some (.inr (0, 60)), some (.inl l1), some (.inl l2), some (.inl l3), none, some (.inl l5), none]) ⟨rfl, rfl, rfl, rfl, rfl, trivial⟩ (tX11_tryEntry_73 hG hk26 h)
def bX11_tryEntry_26 (n : Nat) : Nat → Int32 → Int32 → Int32 → Int32 → Int32 → am_I → Option (am_I)
  | 0, _, _, _, _, _, _ => none
  | fu + 1, l1, l2, l3, l4, l5, I => (fun k26 => if l3 ≤ l5 then ((gX11_fail n (-3 : Int32) I).bind (fun q1 => some q1)) else ((gX11_wordOf n l1 l5 I).bind (fun q2 => if q2.1 = 0 then (bX11_tryEntry_59 n k26 l1 l2 l3 l4 l5 q2.1 q2.2) else (if l4 = l2 then (am_lt (am_up q2.2 0 60 55 q2.1) (fun I3 => some I3)) else (bX11_tryEntry_59 n k26 l1 l2 l3 l4 l5 q2.1 q2.2))))) (bX11_tryEntry_26 n fu)
theorem tX11_tryEntry_26 {G : am_G} (hG : am_okM G) {d : Nat} : ∀ {fu : Nat} {l1 : Int32} {l2 : Int32} {l3 : Int32} {l4 : Int32} {l5 : Int32} {I : am_I} {r : am_I}, bX11_tryEntry_26 G.2.2.2.1 fu l1 l2 l3 l4 l5 I = some r → am_J G (d + 5) mX11_tryEntry am_no (am_E none r) 26 [some (.inr (0, 60)), some (.inl l1), some (.inl l2), some (.inl l3), some (.inl l4), some (.inl l5), none] [] I := by
  intro fu
  induction fu with
  | zero => intro l1 l2 l3 l4 l5 I r h; cases h
  | succ fu ih =>
    intro l1 l2 l3 l4 l5 I r h
    have hk26 : ∀ (l1 : Int32) (l2 : Int32) (l3 : Int32) (l4 : Int32) (l5 : Int32) (I : am_I) (r : am_I), bX11_tryEntry_26 G.2.2.2.1 fu l1 l2 l3 l4 l5 I = some r → am_J G (d + 5) mX11_tryEntry am_no (am_E none r) 26 [some (.inr (0, 60)), some (.inl l1), some (.inl l2), some (.inl l3), some (.inl l4), some (.inl l5), none] [] I := fun l1 l2 l3 l4 l5 I r h => ih h
    unfold bX11_tryEntry_26 at h
    generalize bX11_tryEntry_26 G.2.2.2.1 fu = k26 at hk26 h
    dsimp only at h
    refine am_iload dX11_tryEntry_26 rfl ?_
    refine am_iload_n dX11_tryEntry_28 rfl ?_
    refine am_icmp_ge (tgt := 81) dX11_tryEntry_29 rfl (fun c => ?_) (fun c => ?_)
    · rw [if_pos c] at h
      refine am_aload_n dX11_tryEntry_81 rfl ?_
      refine am_bipush (v := (-3 : Int32)) dX11_tryEntry_82 (by decide) ?_
      obtain ⟨q1, hq1, h⟩ := am_bd h
      refine am_callVe (i := 0) (j := 60) (as := [.inl (-3 : Int32)]) (rest := []) dX11_tryEntry_84 lkX11_fail ml_X11_348 imX11_fail seX11_fail rfl rfl (hG.m0 (by decide)) rfl (Nat.le_of_ble_eq_true rfl) rfl (sX11_fail hG hq1) ?_
      cases h
      exact am_vret dX11_tryEntry_87 rfl ⟨rfl, rfl⟩
    · rw [if_neg c] at h
      refine am_aload_n dX11_tryEntry_32 rfl ?_
      refine am_iload_n dX11_tryEntry_33 rfl ?_
      refine am_iload dX11_tryEntry_34 rfl ?_
      obtain ⟨q2, hq2, h⟩ := am_bd h
      refine am_callVx (i := 0) (j := 60) (as := [.inl l1, .inl l5]) (rest := []) dX11_tryEntry_36 lkX11_wordOf ml_X11_363 imX11_wordOf seX11_wordOf rfl rfl (hG.m0 (by decide)) rfl (Nat.le_of_ble_eq_true rfl) rfl (sX11_wordOf hG hq2) ?_
      refine am_istore dX11_tryEntry_39 (by decide) ?_
      refine am_iload dX11_tryEntry_41 rfl ?_
      refine am_if_eq (tgt := 59) dX11_tryEntry_43 rfl (fun c => ?_) (fun c => ?_)
      · rw [if_pos c] at h
        exact am_lwJ (lo' := [some (.inr (0, 60)), some (.inl l1), some (.inl l2), some (.inl l3), some (.inl l4), some (.inl l5), some (.inl q2.1)]) ⟨rfl, rfl, rfl, rfl, rfl, rfl, rfl, trivial⟩ (tX11_tryEntry_59 hG hk26 h)
      · rw [if_neg c] at h
        refine am_iload dX11_tryEntry_46 rfl ?_
        refine am_iload_n dX11_tryEntry_48 rfl ?_
        refine am_icmp_ne (tgt := 59) dX11_tryEntry_49 rfl (fun c => ?_) (fun c => ?_)
        · rw [if_neg c] at h
          exact am_lwJ (lo' := [some (.inr (0, 60)), some (.inl l1), some (.inl l2), some (.inl l3), some (.inl l4), some (.inl l5), some (.inl q2.1)]) ⟨rfl, rfl, rfl, rfl, rfl, rfl, rfl, trivial⟩ (tX11_tryEntry_59 hG hk26 h)
        · rw [if_pos c] at h
          refine am_aload_n dX11_tryEntry_52 rfl ?_
          refine am_iload dX11_tryEntry_53 rfl ?_
          refine am_put (x := q2.1) dX11_tryEntry_55 fp_11_316 (hG.m0 (by decide)) (Nat.le_of_ble_eq_true rfl) rfl ?_
          obtain ⟨I3, hI3, h⟩ := am_lt_some h
          refine am_st10 hI3 ?_
          cases h
          exact am_vret dX11_tryEntry_58 rfl ⟨rfl, rfl⟩
def bX11_tryEntry_0 (n : Nat) (l1 : Int32) (l2 : Int32) (I : am_I) : Option (am_I) := (gX11_isOf n l1 (nI 1) (nI 2) (-2 : Int32) I).bind (fun q1 => if q1.1 = 0 then (some q1.2) else ((gX11_ofInode n l1 (nI 2) q1.2).bind (fun q2 => bX11_tryEntry_26 n am_fu l1 l2 q2.1 (nI 0) (nI 0) q2.2)))
theorem tX11_tryEntry_0 {G : am_G} (hG : am_okM G) {d : Nat} {l1 : Int32} {l2 : Int32} {I : am_I} {r : am_I} (h : bX11_tryEntry_0 G.2.2.2.1 l1 l2  I = some r) : am_J G (d + 5) mX11_tryEntry am_no (am_E none r) 0 [some (.inr (0, 60)), some (.inl l1), some (.inl l2), none, none, none, none] [] I := by
  unfold bX11_tryEntry_0 at h
  refine am_aload_n dX11_tryEntry_0 rfl ?_
  refine am_iload_n dX11_tryEntry_1 rfl ?_
  refine am_iconst (v := nI 1) dX11_tryEntry_2 (by decide) ?_
  refine am_iconst (v := nI 2) dX11_tryEntry_3 (by decide) ?_
  refine am_bipush (v := (-2 : Int32)) dX11_tryEntry_4 (by decide) ?_
  obtain ⟨q1, hq1, h⟩ := am_bd h
  refine am_callVx (i := 0) (j := 60) (as := [.inl l1, .inl (nI 1), .inl (nI 2), .inl (-2 : Int32)]) (rest := []) dX11_tryEntry_6 lkX11_isOf ml_X11_390 imX11_isOf seX11_isOf rfl rfl (hG.m0 (by decide)) rfl (Nat.le_of_ble_eq_true rfl) rfl (sX11_isOf hG hq1) ?_
  refine am_if_ne (tgt := 13) dX11_tryEntry_9 rfl (fun c => ?_) (fun c => ?_)
  · rw [if_neg c] at h
    refine am_aload_n dX11_tryEntry_13 rfl ?_
    refine am_iload_n dX11_tryEntry_14 rfl ?_
    refine am_iconst (v := nI 2) dX11_tryEntry_15 (by decide) ?_
    obtain ⟨q2, hq2, h⟩ := am_bd h
    refine am_callVx (i := 0) (j := 60) (as := [.inl l1, .inl (nI 2)]) (rest := []) dX11_tryEntry_16 lkX11_ofInode ml_X11_351 imX11_ofInode seX11_ofInode rfl rfl (hG.m0 (by decide)) rfl (Nat.le_of_ble_eq_true rfl) rfl (sX11_ofInode hG hq2) ?_
    refine am_istore_n dX11_tryEntry_19 (by decide) ?_
    refine am_iconst (v := nI 0) dX11_tryEntry_20 (by decide) ?_
    refine am_istore dX11_tryEntry_21 (by decide) ?_
    refine am_iconst (v := nI 0) dX11_tryEntry_23 (by decide) ?_
    refine am_istore dX11_tryEntry_24 (by decide) ?_
    exact am_lwJ (lo' := [some (.inr (0, 60)), some (.inl l1), some (.inl l2), some (.inl q2.1), some (.inl (nI 0)), some (.inl (nI 0)), none]) ⟨rfl, rfl, rfl, rfl, rfl, rfl, trivial⟩ (tX11_tryEntry_26 hG h)
  · rw [if_pos c] at h
    cases h
    exact am_vret dX11_tryEntry_12 rfl ⟨rfl, rfl⟩
def gX11_tryEntry (n : Nat) (l1 : Int32) (l2 : Int32) (I : am_I) : Option (am_I) := bX11_tryEntry_0 n l1 l2 I
theorem sX11_tryEntry {G : am_G} (hG : am_okM G) {d : Nat} {l1 : Int32} {l2 : Int32} {I : am_I} {r : am_I} (h : gX11_tryEntry G.2.2.2.1 l1 l2 I = some r) : am_C G (d + 5) mX11_tryEntry [.inr (0, 60), .inl l1, .inl l2] I (am_E none r) :=
  am_of (by decide +kernel) hG.nd (Nat.le_of_ble_eq_true rfl) (am_lwJ (lo' := [some (.inr (0, 60)), some (.inl l1), some (.inl l2), none, none, none, none]) ⟨rfl, rfl, rfl, trivial⟩ (tX11_tryEntry_0 hG h))
def bX11_tryStat_127 (n : Nat) (l3 : Int32) (I : am_I) : Option (am_I) := am_lt (am_up I 0 60 55 l3) (fun I1 => some I1)
theorem tX11_tryStat_127 {G : am_G} (hG : am_okM G) {d : Nat} {l3 : Int32} {I : am_I} {r : am_I} (h : bX11_tryStat_127 G.2.2.2.1 l3  I = some r) : am_J G (d + 3) mX11_tryStat am_no (am_E none r) 127 [some (.inr (0, 60)), none, none, some (.inl l3), none, none] [] I := by
  unfold bX11_tryStat_127 at h
  refine am_aload_n dX11_tryStat_127 rfl ?_
  refine am_iload_n dX11_tryStat_128 rfl ?_
  refine am_put (x := l3) dX11_tryStat_129 fp_11_316 (hG.m0 (by decide)) (Nat.le_of_ble_eq_true rfl) rfl ?_
  obtain ⟨I1, hI1, h⟩ := am_lt_some h
  refine am_st10 hI1 ?_
  cases h
  exact am_vret dX11_tryStat_132 rfl ⟨rfl, rfl⟩
def bX11_tryStat_120 (n : Nat) (k90 : Int32 → Int32 → Int32 → am_I → Option (am_I)) (l4 : Int32) (l5 : Int32) (s0 : Int32) (I : am_I) : Option (am_I) := k90 s0 l4 (l5 + nI 1) I
theorem tX11_tryStat_120 {G : am_G} (hG : am_okM G) {d : Nat} {k90 : Int32 → Int32 → Int32 → am_I → Option (am_I)} (hk90 : ∀ (l3 : Int32) (l4 : Int32) (l5 : Int32) (I : am_I) (r : am_I), k90 l3 l4 l5 I = some r → am_J G (d + 3) mX11_tryStat am_no (am_E none r) 90 [some (.inr (0, 60)), none, none, some (.inl l3), some (.inl l4), some (.inl l5)] [] I) {l4 : Int32} {l5 : Int32} {s0 : Int32} {I : am_I} {r : am_I} (h : bX11_tryStat_120 G.2.2.2.1 k90 l4 l5 s0  I = some r) : am_J G (d + 3) mX11_tryStat am_no (am_E none r) 120 [some (.inr (0, 60)), none, none, none, some (.inl l4), some (.inl l5)] [.inl s0] I := by
  unfold bX11_tryStat_120 at h
  refine am_istore_n dX11_tryStat_120 (by decide) ?_
  refine am_iinc (v := l5 + nI 1) dX11_tryStat_121 rfl rfl ?_
  refine am_goto (tgt := 90) dX11_tryStat_124 rfl ?_
  exact am_lwJ (lo' := [some (.inr (0, 60)), none, none, some (.inl s0), some (.inl l4), some (.inl (l5 + nI 1))]) ⟨rfl, rfl, rfl, rfl, trivial⟩ (hk90 s0 l4 (l5 + nI 1) _ _ h)
def bX11_tryStat_90 (n : Nat) : Nat → Int32 → Int32 → Int32 → am_I → Option (am_I)
  | 0, _, _, _, _ => none
  | fu + 1, l3, l4, l5, I => (fun k90 => if (nI 16) ≤ l5 then (bX11_tryStat_127 n l3 I) else (if l4 = 0 then (bX11_tryStat_127 n l3 I) else ((gX11_get n l4 l5 I).bind (fun q1 => if q1.1 = 0 then (bX11_tryStat_120 n k90 l4 l5 l3 q1.2) else (bX11_tryStat_120 n k90 l4 l5 (l3 + (nI 1)) q1.2))))) (bX11_tryStat_90 n fu)
theorem tX11_tryStat_90 {G : am_G} (hG : am_okM G) {d : Nat} : ∀ {fu : Nat} {l3 : Int32} {l4 : Int32} {l5 : Int32} {I : am_I} {r : am_I}, bX11_tryStat_90 G.2.2.2.1 fu l3 l4 l5 I = some r → am_J G (d + 3) mX11_tryStat am_no (am_E none r) 90 [some (.inr (0, 60)), none, none, some (.inl l3), some (.inl l4), some (.inl l5)] [] I := by
  intro fu
  induction fu with
  | zero => intro l3 l4 l5 I r h; cases h
  | succ fu ih =>
    intro l3 l4 l5 I r h
    have hk90 : ∀ (l3 : Int32) (l4 : Int32) (l5 : Int32) (I : am_I) (r : am_I), bX11_tryStat_90 G.2.2.2.1 fu l3 l4 l5 I = some r → am_J G (d + 3) mX11_tryStat am_no (am_E none r) 90 [some (.inr (0, 60)), none, none, some (.inl l3), some (.inl l4), some (.inl l5)] [] I := fun l3 l4 l5 I r h => ih h
    unfold bX11_tryStat_90 at h
    generalize bX11_tryStat_90 G.2.2.2.1 fu = k90 at hk90 h
    dsimp only at h
    refine am_iload dX11_tryStat_90 rfl ?_
    refine am_bipush (v := nI 16) dX11_tryStat_92 (by decide) ?_
    refine am_icmp_ge (tgt := 127) dX11_tryStat_94 rfl (fun c => ?_) (fun c => ?_)
    · rw [if_pos c] at h
      exact am_lwJ (lo' := [some (.inr (0, 60)), none, none, some (.inl l3), none, none]) ⟨rfl, rfl, trivial⟩ (tX11_tryStat_127 hG h)
    · rw [if_neg c] at h
      refine am_iload dX11_tryStat_97 rfl ?_
      refine am_if_eq (tgt := 127) dX11_tryStat_99 rfl (fun c => ?_) (fun c => ?_)
      · rw [if_pos c] at h
        exact am_lwJ (lo' := [some (.inr (0, 60)), none, none, some (.inl l3), none, none]) ⟨rfl, rfl, trivial⟩ (tX11_tryStat_127 hG h)
      · rw [if_neg c] at h
        refine am_aload_n dX11_tryStat_102 rfl ?_
        refine am_iload dX11_tryStat_103 rfl ?_
        refine am_iload dX11_tryStat_105 rfl ?_
        obtain ⟨q1, hq1, h⟩ := am_bd h
        refine am_callVx (i := 0) (j := 60) (as := [.inl l4, .inl l5]) (rest := []) dX11_tryStat_107 lkX11_get ml_X11_332 imX11_get seX11_get rfl rfl (hG.m0 (by decide)) rfl (Nat.le_of_ble_eq_true rfl) rfl (sX11_get hG hq1) ?_
        refine am_if_eq (tgt := 119) dX11_tryStat_110 rfl (fun c => ?_) (fun c => ?_)
        · rw [if_pos c] at h
          refine am_iload_n dX11_tryStat_119 rfl ?_
          exact am_lwJ (lo' := [some (.inr (0, 60)), none, none, none, some (.inl l4), some (.inl l5)]) ⟨rfl, rfl, rfl, trivial⟩ (tX11_tryStat_120 hG hk90 h)
        · rw [if_neg c] at h
          refine am_iload_n dX11_tryStat_113 rfl ?_
          refine am_iconst (v := nI 1) dX11_tryStat_114 (by decide) ?_
          refine am_iadd dX11_tryStat_115 ?_
          refine am_goto (tgt := 120) dX11_tryStat_116 rfl ?_
          exact am_lwJ (lo' := [some (.inr (0, 60)), none, none, none, some (.inl l4), some (.inl l5)]) ⟨rfl, rfl, rfl, trivial⟩ (tX11_tryStat_120 hG hk90 h)
def bX11_tryStat_71 (n : Nat) (k47 : Int32 → Int32 → Int32 → am_I → Option (am_I)) (l1 : Int32) (l4 : Int32) (s0 : Int32) (I : am_I) : Option (am_I) := k47 l1 s0 (l4 + nI 1) I
theorem tX11_tryStat_71 {G : am_G} (hG : am_okM G) {d : Nat} {k47 : Int32 → Int32 → Int32 → am_I → Option (am_I)} (hk47 : ∀ (l1 : Int32) (l3 : Int32) (l4 : Int32) (I : am_I) (r : am_I), k47 l1 l3 l4 I = some r → am_J G (d + 3) mX11_tryStat am_no (am_E none r) 47 [some (.inr (0, 60)), some (.inl l1), none, some (.inl l3), some (.inl l4), none] [] I) {l1 : Int32} {l4 : Int32} {s0 : Int32} {I : am_I} {r : am_I} (h : bX11_tryStat_71 G.2.2.2.1 k47 l1 l4 s0  I = some r) : am_J G (d + 3) mX11_tryStat am_no (am_E none r) 71 [some (.inr (0, 60)), some (.inl l1), none, none, some (.inl l4), none] [.inl s0] I := by
  unfold bX11_tryStat_71 at h
  refine am_istore_n dX11_tryStat_71 (by decide) ?_
  refine am_iinc (v := l4 + nI 1) dX11_tryStat_72 rfl rfl ?_
  refine am_goto (tgt := 47) dX11_tryStat_75 rfl ?_
  exact am_lwJ (lo' := [some (.inr (0, 60)), some (.inl l1), none, some (.inl s0), some (.inl (l4 + nI 1)), none]) ⟨rfl, rfl, rfl, rfl, trivial⟩ (hk47 l1 s0 (l4 + nI 1) _ _ h)
def bX11_tryStat_47 (n : Nat) : Nat → Int32 → Int32 → Int32 → am_I → Option (am_I)
  | 0, _, _, _, _ => none
  | fu + 1, l1, l3, l4, I => (fun k47 => if (nI 11) < l4 then ((gX11_ofInode n l1 (nI 11) I).bind (fun q1 => bX11_tryStat_90 n am_fu l3 q1.1 (nI 0) q1.2)) else ((gX11_ofInode n l1 l4 I).bind (fun q2 => if q2.1 = 0 then (bX11_tryStat_71 n k47 l1 l4 l3 q2.2) else (bX11_tryStat_71 n k47 l1 l4 (l3 + (nI 1)) q2.2)))) (bX11_tryStat_47 n fu)
theorem tX11_tryStat_47 {G : am_G} (hG : am_okM G) {d : Nat} : ∀ {fu : Nat} {l1 : Int32} {l3 : Int32} {l4 : Int32} {I : am_I} {r : am_I}, bX11_tryStat_47 G.2.2.2.1 fu l1 l3 l4 I = some r → am_J G (d + 3) mX11_tryStat am_no (am_E none r) 47 [some (.inr (0, 60)), some (.inl l1), none, some (.inl l3), some (.inl l4), none] [] I := by
  intro fu
  induction fu with
  | zero => intro l1 l3 l4 I r h; cases h
  | succ fu ih =>
    intro l1 l3 l4 I r h
    have hk47 : ∀ (l1 : Int32) (l3 : Int32) (l4 : Int32) (I : am_I) (r : am_I), bX11_tryStat_47 G.2.2.2.1 fu l1 l3 l4 I = some r → am_J G (d + 3) mX11_tryStat am_no (am_E none r) 47 [some (.inr (0, 60)), some (.inl l1), none, some (.inl l3), some (.inl l4), none] [] I := fun l1 l3 l4 I r h => ih h
    unfold bX11_tryStat_47 at h
    generalize bX11_tryStat_47 G.2.2.2.1 fu = k47 at hk47 h
    dsimp only at h
    refine am_iload dX11_tryStat_47 rfl ?_
    refine am_bipush (v := nI 11) dX11_tryStat_49 (by decide) ?_
    refine am_icmp_gt (tgt := 78) dX11_tryStat_51 rfl (fun c => ?_) (fun c => ?_)
    · rw [if_pos c] at h
      refine am_aload_n dX11_tryStat_78 rfl ?_
      refine am_iload_n dX11_tryStat_79 rfl ?_
      refine am_bipush (v := nI 11) dX11_tryStat_80 (by decide) ?_
      obtain ⟨q1, hq1, h⟩ := am_bd h
      refine am_callVx (i := 0) (j := 60) (as := [.inl l1, .inl (nI 11)]) (rest := []) dX11_tryStat_82 lkX11_ofInode ml_X11_351 imX11_ofInode seX11_ofInode rfl rfl (hG.m0 (by decide)) rfl (Nat.le_of_ble_eq_true rfl) rfl (sX11_ofInode hG hq1) ?_
      refine am_istore dX11_tryStat_85 (by decide) ?_
      refine am_iconst (v := nI 0) dX11_tryStat_87 (by decide) ?_
      refine am_istore dX11_tryStat_88 (by decide) ?_
      exact am_lwJ (lo' := [some (.inr (0, 60)), none, none, some (.inl l3), some (.inl q1.1), some (.inl (nI 0))]) ⟨rfl, rfl, rfl, rfl, trivial⟩ (tX11_tryStat_90 hG h)
    · rw [if_neg c] at h
      refine am_aload_n dX11_tryStat_54 rfl ?_
      refine am_iload_n dX11_tryStat_55 rfl ?_
      refine am_iload dX11_tryStat_56 rfl ?_
      obtain ⟨q2, hq2, h⟩ := am_bd h
      refine am_callVx (i := 0) (j := 60) (as := [.inl l1, .inl l4]) (rest := []) dX11_tryStat_58 lkX11_ofInode ml_X11_351 imX11_ofInode seX11_ofInode rfl rfl (hG.m0 (by decide)) rfl (Nat.le_of_ble_eq_true rfl) rfl (sX11_ofInode hG hq2) ?_
      refine am_if_eq (tgt := 70) dX11_tryStat_61 rfl (fun c => ?_) (fun c => ?_)
      · rw [if_pos c] at h
        refine am_iload_n dX11_tryStat_70 rfl ?_
        exact am_lwJ (lo' := [some (.inr (0, 60)), some (.inl l1), none, none, some (.inl l4), none]) ⟨rfl, rfl, rfl, trivial⟩ (tX11_tryStat_71 hG hk47 h)
      · rw [if_neg c] at h
        refine am_iload_n dX11_tryStat_64 rfl ?_
        refine am_iconst (v := nI 1) dX11_tryStat_65 (by decide) ?_
        refine am_iadd dX11_tryStat_66 ?_
        refine am_goto (tgt := 71) dX11_tryStat_67 rfl ?_
        exact am_lwJ (lo' := [some (.inr (0, 60)), some (.inl l1), none, none, some (.inl l4), none]) ⟨rfl, rfl, rfl, trivial⟩ (tX11_tryStat_71 hG hk47 h)
def bX11_tryStat_0 (n : Nat) (l1 : Int32) (l2 : Int32) (I : am_I) : Option (am_I) := (gX11_meets n l1 (nI 1) I).bind (fun q1 => if q1.1 = 0 then (some q1.2) else ((gX11_ofInode n l1 (nI 0) q1.2).bind (fun q2 => if q2.1 = 0 then ((gX11_fail n (-5 : Int32) q2.2).bind (fun q5 => some q5)) else (if (nI 3) ≤ l2 then (bX11_tryStat_47 n am_fu l1 (nI 0) (nI 3) q2.2) else ((gX11_ofInode n l1 l2 q2.2).bind (fun q3 => am_lt (am_up q3.2 0 60 55 q3.1) (fun I4 => some I4)))))))
theorem tX11_tryStat_0 {G : am_G} (hG : am_okM G) {d : Nat} {l1 : Int32} {l2 : Int32} {I : am_I} {r : am_I} (h : bX11_tryStat_0 G.2.2.2.1 l1 l2  I = some r) : am_J G (d + 3) mX11_tryStat am_no (am_E none r) 0 [some (.inr (0, 60)), some (.inl l1), some (.inl l2), none, none, none] [] I := by
  unfold bX11_tryStat_0 at h
  refine am_aload_n dX11_tryStat_0 rfl ?_
  refine am_iload_n dX11_tryStat_1 rfl ?_
  refine am_iconst (v := nI 1) dX11_tryStat_2 (by decide) ?_
  obtain ⟨q1, hq1, h⟩ := am_bd h
  refine am_callVx (i := 0) (j := 60) (as := [.inl l1, .inl (nI 1)]) (rest := []) dX11_tryStat_3 lkX11_meets ml_X11_338 imX11_meets seX11_meets rfl rfl (hG.m0 (by decide)) rfl (Nat.le_of_ble_eq_true rfl) rfl (sX11_meets hG hq1) ?_
  refine am_if_ne (tgt := 10) dX11_tryStat_6 rfl (fun c => ?_) (fun c => ?_)
  · rw [if_neg c] at h
    refine am_aload_n dX11_tryStat_10 rfl ?_
    refine am_iload_n dX11_tryStat_11 rfl ?_
    refine am_iconst (v := nI 0) dX11_tryStat_12 (by decide) ?_
    obtain ⟨q2, hq2, h⟩ := am_bd h
    refine am_callVx (i := 0) (j := 60) (as := [.inl l1, .inl (nI 0)]) (rest := []) dX11_tryStat_13 lkX11_ofInode ml_X11_351 imX11_ofInode seX11_ofInode rfl rfl (hG.m0 (by decide)) rfl (Nat.le_of_ble_eq_true rfl) rfl (sX11_ofInode hG hq2) ?_
    refine am_if_ne (tgt := 26) dX11_tryStat_16 rfl (fun c => ?_) (fun c => ?_)
    · rw [if_neg c] at h
      refine am_iload_n dX11_tryStat_26 rfl ?_
      refine am_iconst (v := nI 3) dX11_tryStat_27 (by decide) ?_
      refine am_icmp_ge (tgt := 42) dX11_tryStat_28 rfl (fun c => ?_) (fun c => ?_)
      · rw [if_pos c] at h
        refine am_iconst (v := nI 0) dX11_tryStat_42 (by decide) ?_
        refine am_istore_n dX11_tryStat_43 (by decide) ?_
        refine am_iconst (v := nI 3) dX11_tryStat_44 (by decide) ?_
        refine am_istore dX11_tryStat_45 (by decide) ?_
        exact am_lwJ (lo' := [some (.inr (0, 60)), some (.inl l1), none, some (.inl (nI 0)), some (.inl (nI 3)), none]) ⟨rfl, rfl, rfl, rfl, trivial⟩ (tX11_tryStat_47 hG h)
      · rw [if_neg c] at h
        refine am_aload_n dX11_tryStat_31 rfl ?_
        refine am_aload_n dX11_tryStat_32 rfl ?_
        refine am_iload_n dX11_tryStat_33 rfl ?_
        refine am_iload_n dX11_tryStat_34 rfl ?_
        obtain ⟨q3, hq3, h⟩ := am_bd h
        refine am_callVx (i := 0) (j := 60) (as := [.inl l1, .inl l2]) (rest := [.inr (0, 60)]) dX11_tryStat_35 lkX11_ofInode ml_X11_351 imX11_ofInode seX11_ofInode rfl rfl (hG.m0 (by decide)) rfl (Nat.le_of_ble_eq_true rfl) rfl (sX11_ofInode hG hq3) ?_
        refine am_put (x := q3.1) dX11_tryStat_38 fp_11_316 (hG.m0 (by decide)) (Nat.le_of_ble_eq_true rfl) rfl ?_
        obtain ⟨I4, hI4, h⟩ := am_lt_some h
        refine am_st10 hI4 ?_
        cases h
        exact am_vret dX11_tryStat_41 rfl ⟨rfl, rfl⟩
    · rw [if_pos c] at h
      refine am_aload_n dX11_tryStat_19 rfl ?_
      refine am_bipush (v := (-5 : Int32)) dX11_tryStat_20 (by decide) ?_
      obtain ⟨q5, hq5, h⟩ := am_bd h
      refine am_callVe (i := 0) (j := 60) (as := [.inl (-5 : Int32)]) (rest := []) dX11_tryStat_22 lkX11_fail ml_X11_348 imX11_fail seX11_fail rfl rfl (hG.m0 (by decide)) rfl (Nat.le_of_ble_eq_true rfl) rfl (sX11_fail hG hq5) ?_
      cases h
      exact am_vret dX11_tryStat_25 rfl ⟨rfl, rfl⟩
  · rw [if_pos c] at h
    cases h
    exact am_vret dX11_tryStat_9 rfl ⟨rfl, rfl⟩
def gX11_tryStat (n : Nat) (l1 : Int32) (l2 : Int32) (I : am_I) : Option (am_I) := bX11_tryStat_0 n l1 l2 I
theorem sX11_tryStat {G : am_G} (hG : am_okM G) {d : Nat} {l1 : Int32} {l2 : Int32} {I : am_I} {r : am_I} (h : gX11_tryStat G.2.2.2.1 l1 l2 I = some r) : am_C G (d + 3) mX11_tryStat [.inr (0, 60), .inl l1, .inl l2] I (am_E none r) :=
  am_of (by decide +kernel) hG.nd (Nat.le_of_ble_eq_true rfl) (am_lwJ (lo' := [some (.inr (0, 60)), some (.inl l1), some (.inl l2), none, none, none]) ⟨rfl, rfl, rfl, trivial⟩ (tX11_tryStat_0 hG h))
def bX11_attempt_312 (n : Nat) (I : am_I) : Option (am_I) := some I
theorem tX11_attempt_312 {G : am_G} (hG : am_okM G) {d : Nat} {I : am_I} {r : am_I} (h : bX11_attempt_312 G.2.2.2.1  I = some r) : am_J G (d + 8) mX11_attempt am_no (am_E none r) 312 [none, none, none, none, none] [] I := by
  unfold bX11_attempt_312 at h
  cases h
  exact am_vret dX11_attempt_312 rfl ⟨rfl, rfl⟩
def bX11_attempt_258 (n : Nat) (s0 : Int32) (s1 : Int32) (s2 : Int32) (s3 : Int32) (I : am_I) : Option (am_I) := (gX11_tryWrite n s3 s2 s1 s0 I).bind (fun q1 => bX11_attempt_312 n q1)
theorem tX11_attempt_258 {G : am_G} (hG : am_okM G) {d : Nat} {s0 : Int32} {s1 : Int32} {s2 : Int32} {s3 : Int32} {I : am_I} {r : am_I} (h : bX11_attempt_258 G.2.2.2.1 s0 s1 s2 s3  I = some r) : am_J G (d + 8) mX11_attempt am_no (am_E none r) 258 [none, none, none, none, none] [.inl s0, .inl s1, .inl s2, .inl s3, .inr (0, 60)] I := by
  unfold bX11_attempt_258 at h
  obtain ⟨q1, hq1, h⟩ := am_bd h
  refine am_callVe (i := 0) (j := 60) (as := [.inl s3, .inl s2, .inl s1, .inl s0]) (rest := []) dX11_attempt_258 lkX11_tryWrite ml_X11_394 imX11_tryWrite seX11_tryWrite rfl rfl (hG.m0 (by decide)) rfl (Nat.le_of_ble_eq_true rfl) rfl (sX11_tryWrite hG hq1) ?_
  refine am_goto (tgt := 312) dX11_attempt_261 rfl ?_
  exact am_lwJ (lo' := [none, none, none, none, none]) trivial (tX11_attempt_312 hG h)
def bX11_attempt_0 (n : Nat) (l1 : Int32) (I : am_I) : Option (am_I) := am_lt (am_up I 0 60 51 l1) (fun I1 => am_lt (am_up I1 0 60 52 (-1 : Int32)) (fun I2 => am_lt (am_up I2 0 60 53 (nI 0)) (fun I3 => am_lt (am_up I3 0 60 54 (nI 0)) (fun I4 => am_lt (am_up I4 0 60 55 (nI 0)) (fun I5 => am_lt (am_up I5 0 60 56 (nI 0)) (fun I6 => am_lt (am_up I6 0 60 61 (nI 0)) (fun I7 => am_gd (am_inb l1 4) (am_gd (am_inb l1 4) (am_gd (am_inb l1 4) (am_gd (am_inb l1 4) (if (I7 0 82 l1.toNatClampNeg) = nI 0 then ((gX11_tryLook n (I7 0 83 l1.toNatClampNeg) (I7 0 84 l1.toNatClampNeg) I7).bind (fun q12 => bX11_attempt_312 n q12)) else (if (I7 0 82 l1.toNatClampNeg) = nI 1 then ((gX11_tryMake n (I7 0 83 l1.toNatClampNeg) (I7 0 84 l1.toNatClampNeg) (I7 0 85 l1.toNatClampNeg) I7).bind (fun q13 => bX11_attempt_312 n q13)) else (if (I7 0 82 l1.toNatClampNeg) = nI 2 then ((gX11_tryRemove n (I7 0 83 l1.toNatClampNeg) (I7 0 84 l1.toNatClampNeg) I7).bind (fun q14 => bX11_attempt_312 n q14)) else (if (I7 0 82 l1.toNatClampNeg) = nI 3 then ((gX11_tryLink n (I7 0 83 l1.toNatClampNeg) (I7 0 84 l1.toNatClampNeg) (I7 0 85 l1.toNatClampNeg) I7).bind (fun q15 => bX11_attempt_312 n q15)) else (if (I7 0 82 l1.toNatClampNeg) = nI 4 then (am_gd (am_inb l1 4) ((gX11_tryRename n (I7 0 83 l1.toNatClampNeg) (I7 0 84 l1.toNatClampNeg) (I7 0 85 l1.toNatClampNeg) (I7 0 86 l1.toNatClampNeg) I7).bind (fun q17 => bX11_attempt_312 n q17))) else (if (I7 0 82 l1.toNatClampNeg) = nI 5 then ((gX11_isOf n (I7 0 83 l1.toNatClampNeg) (nI 1) (nI 1) (-4 : Int32) I7).bind (fun q18 => if q18.1 = 0 then (bX11_attempt_312 n q18.2) else ((gX11_ofInode n (I7 0 83 l1.toNatClampNeg) (nI 2) q18.2).bind (fun q19 => if (I7 0 84 l1.toNatClampNeg) < q19.1 then ((gX11_wordOf n (I7 0 83 l1.toNatClampNeg) (I7 0 84 l1.toNatClampNeg) q19.2).bind (fun q20 => am_lt (am_up q20.2 0 60 55 q20.1) (fun I21 => bX11_attempt_312 n I21))) else ((gX11_fail n (-10 : Int32) q19.2).bind (fun q22 => bX11_attempt_312 n q22)))))) else (if (I7 0 82 l1.toNatClampNeg) = nI 6 then (am_gd (am_inb l1 4) (if (I7 0 82 l1.toNatClampNeg) = (nI 11) then (bX11_attempt_258 n (nI 1) (I7 0 85 l1.toNatClampNeg) (I7 0 84 l1.toNatClampNeg) (I7 0 83 l1.toNatClampNeg) I7) else (bX11_attempt_258 n (nI 0) (I7 0 85 l1.toNatClampNeg) (I7 0 84 l1.toNatClampNeg) (I7 0 83 l1.toNatClampNeg) I7))) else (if (I7 0 82 l1.toNatClampNeg) = nI 7 then ((gX11_tryCut n (I7 0 83 l1.toNatClampNeg) (I7 0 84 l1.toNatClampNeg) I7).bind (fun q24 => bX11_attempt_312 n q24)) else (if (I7 0 82 l1.toNatClampNeg) = nI 8 then ((gX11_tryEntry n (I7 0 83 l1.toNatClampNeg) (I7 0 84 l1.toNatClampNeg) I7).bind (fun q25 => bX11_attempt_312 n q25)) else (if (I7 0 82 l1.toNatClampNeg) = nI 9 then ((gX11_tryStat n (I7 0 83 l1.toNatClampNeg) (I7 0 84 l1.toNatClampNeg) I7).bind (fun q26 => bX11_attempt_312 n q26)) else (if (I7 0 82 l1.toNatClampNeg) = nI 10 then ((gX11_tryStat n (I7 0 83 l1.toNatClampNeg) (I7 0 84 l1.toNatClampNeg) I7).bind (fun q27 => bX11_attempt_312 n q27)) else (if (I7 0 82 l1.toNatClampNeg) = nI 11 then (am_gd (am_inb l1 4) (if (I7 0 82 l1.toNatClampNeg) = (nI 11) then (bX11_attempt_258 n (nI 1) (I7 0 85 l1.toNatClampNeg) (I7 0 84 l1.toNatClampNeg) (I7 0 83 l1.toNatClampNeg) I7) else (bX11_attempt_258 n (nI 0) (I7 0 85 l1.toNatClampNeg) (I7 0 84 l1.toNatClampNeg) (I7 0 83 l1.toNatClampNeg) I7))) else (if (I7 0 82 l1.toNatClampNeg) = nI 12 then ((gX11_tryAppend n (I7 0 83 l1.toNatClampNeg) (I7 0 84 l1.toNatClampNeg) I7).bind (fun q29 => bX11_attempt_312 n q29)) else (if (I7 0 82 l1.toNatClampNeg) = nI 13 then ((gX11_tryCount n (I7 0 83 l1.toNatClampNeg) I7).bind (fun q30 => bX11_attempt_312 n q30)) else (if (I7 0 82 l1.toNatClampNeg) = nI 14 then ((gX11_tryRoom n I7).bind (fun q31 => bX11_attempt_312 n q31)) else ((gX11_tryStat n (I7 0 83 l1.toNatClampNeg) (I7 0 84 l1.toNatClampNeg) I7).bind (fun q32 => bX11_attempt_312 n q32)))))))))))))))))))))))))))
theorem tX11_attempt_0 {G : am_G} (hG : am_okM G) {d : Nat} {l1 : Int32} {I : am_I} {r : am_I} (h : bX11_attempt_0 G.2.2.2.1 l1  I = some r) : am_J G (d + 8) mX11_attempt am_no (am_E none r) 0 [some (.inr (0, 60)), some (.inl l1), none, none, none] [] I := by
  unfold bX11_attempt_0 at h
  refine am_aload_n dX11_attempt_0 rfl ?_
  refine am_iload_n dX11_attempt_1 rfl ?_
  refine am_put (x := l1) dX11_attempt_2 fp_11_319 (hG.m0 (by decide)) (Nat.le_of_ble_eq_true rfl) rfl ?_
  obtain ⟨I1, hI1, h⟩ := am_lt_some h
  refine am_st10 hI1 ?_
  refine am_aload_n dX11_attempt_5 rfl ?_
  refine am_iconst (v := (-1 : Int32)) dX11_attempt_6 (by decide) ?_
  refine am_put (x := (-1 : Int32)) dX11_attempt_7 fp_11_295 (hG.m0 (by decide)) (Nat.le_of_ble_eq_true rfl) rfl ?_
  obtain ⟨I2, hI2, h⟩ := am_lt_some h
  refine am_st10 hI2 ?_
  refine am_aload_n dX11_attempt_10 rfl ?_
  refine am_iconst (v := nI 0) dX11_attempt_11 (by decide) ?_
  refine am_put (x := nI 0) dX11_attempt_12 fp_11_301 (hG.m0 (by decide)) (Nat.le_of_ble_eq_true rfl) rfl ?_
  obtain ⟨I3, hI3, h⟩ := am_lt_some h
  refine am_st10 hI3 ?_
  refine am_aload_n dX11_attempt_15 rfl ?_
  refine am_iconst (v := nI 0) dX11_attempt_16 (by decide) ?_
  refine am_put (x := nI 0) dX11_attempt_17 fp_11_304 (hG.m0 (by decide)) (Nat.le_of_ble_eq_true rfl) rfl ?_
  obtain ⟨I4, hI4, h⟩ := am_lt_some h
  refine am_st10 hI4 ?_
  refine am_aload_n dX11_attempt_20 rfl ?_
  refine am_iconst (v := nI 0) dX11_attempt_21 (by decide) ?_
  refine am_put (x := nI 0) dX11_attempt_22 fp_11_316 (hG.m0 (by decide)) (Nat.le_of_ble_eq_true rfl) rfl ?_
  obtain ⟨I5, hI5, h⟩ := am_lt_some h
  refine am_st10 hI5 ?_
  refine am_aload_n dX11_attempt_25 rfl ?_
  refine am_iconst (v := nI 0) dX11_attempt_26 (by decide) ?_
  refine am_put (x := nI 0) dX11_attempt_27 fp_11_307 (hG.m0 (by decide)) (Nat.le_of_ble_eq_true rfl) rfl ?_
  obtain ⟨I6, hI6, h⟩ := am_lt_some h
  refine am_st10 hI6 ?_
  refine am_aload_n dX11_attempt_30 rfl ?_
  refine am_iconst (v := nI 0) dX11_attempt_31 (by decide) ?_
  refine am_put (x := nI 0) dX11_attempt_32 fp_11_310 (hG.m0 (by decide)) (Nat.le_of_ble_eq_true rfl) rfl ?_
  obtain ⟨I7, hI7, h⟩ := am_lt_some h
  refine am_st10 hI7 ?_
  refine am_aload_n dX11_attempt_35 rfl ?_
  refine am_get (v := .inr (0, 83)) dX11_attempt_36 fl_11_69 (hG.m0 (by decide)) rfl ?_
  refine am_iload_n dX11_attempt_39 rfl ?_
  obtain ⟨g8, h⟩ := am_gd_some h
  refine am_ialdG dX11_attempt_40 (hG.m0 (by decide)) rfl g8 (show 4 < 2 ^ 31 by decide) ?_
  refine am_istore_n dX11_attempt_41 (by decide) ?_
  refine am_aload_n dX11_attempt_42 rfl ?_
  refine am_get (v := .inr (0, 84)) dX11_attempt_43 fl_11_72 (hG.m0 (by decide)) rfl ?_
  refine am_iload_n dX11_attempt_46 rfl ?_
  obtain ⟨g9, h⟩ := am_gd_some h
  refine am_ialdG dX11_attempt_47 (hG.m0 (by decide)) rfl g9 (show 4 < 2 ^ 31 by decide) ?_
  refine am_istore_n dX11_attempt_48 (by decide) ?_
  refine am_aload_n dX11_attempt_49 rfl ?_
  refine am_get (v := .inr (0, 85)) dX11_attempt_50 fl_11_75 (hG.m0 (by decide)) rfl ?_
  refine am_iload_n dX11_attempt_53 rfl ?_
  obtain ⟨g10, h⟩ := am_gd_some h
  refine am_ialdG dX11_attempt_54 (hG.m0 (by decide)) rfl g10 (show 4 < 2 ^ 31 by decide) ?_
  refine am_istore dX11_attempt_55 (by decide) ?_
  refine am_aload_n dX11_attempt_57 rfl ?_
  refine am_get (v := .inr (0, 82)) dX11_attempt_58 fl_11_66 (hG.m0 (by decide)) rfl ?_
  refine am_iload_n dX11_attempt_61 rfl ?_
  obtain ⟨g11, h⟩ := am_gd_some h
  refine am_ialdG dX11_attempt_62 (hG.m0 (by decide)) rfl g11 (show 4 < 2 ^ 31 by decide) ?_
  rcases am_sw 14 (I7 0 82 l1.toNatClampNeg) with ⟨m, hm, hx⟩ | hx
  · match m, hm, hx with
    | 0, _, hx =>
      rw [if_pos hx] at h
      refine am_tabIn (off := 73) (tgt := 136) dX11_attempt_63 (by rw [hx]; decide) (by rw [hx]; decide) (by rw [hx]; rfl) rfl ?_
      refine am_aload_n dX11_attempt_136 rfl ?_
      refine am_iload_n dX11_attempt_137 rfl ?_
      refine am_iload_n dX11_attempt_138 rfl ?_
      obtain ⟨q12, hq12, h⟩ := am_bd h
      refine am_callVe (i := 0) (j := 60) (as := [.inl (I7 0 83 l1.toNatClampNeg), .inl (I7 0 84 l1.toNatClampNeg)]) (rest := []) dX11_attempt_139 lkX11_tryLook ml_X11_375 imX11_tryLook seX11_tryLook rfl rfl (hG.m0 (by decide)) rfl (Nat.le_of_ble_eq_true rfl) rfl (sX11_tryLook hG hq12) ?_
      refine am_goto (tgt := 312) dX11_attempt_142 rfl ?_
      exact am_lwJ (lo' := [none, none, none, none, none]) trivial (tX11_attempt_312 hG h)
    | 1, _, hx =>
      rw [if_neg (show ¬ (I7 0 82 l1.toNatClampNeg) = nI 0 by rw [hx]; decide)] at h
      rw [if_pos hx] at h
      refine am_tabIn (off := 82) (tgt := 145) dX11_attempt_63 (by rw [hx]; decide) (by rw [hx]; decide) (by rw [hx]; rfl) rfl ?_
      refine am_aload_n dX11_attempt_145 rfl ?_
      refine am_iload_n dX11_attempt_146 rfl ?_
      refine am_iload_n dX11_attempt_147 rfl ?_
      refine am_iload dX11_attempt_148 rfl ?_
      obtain ⟨q13, hq13, h⟩ := am_bd h
      refine am_callVe (i := 0) (j := 60) (as := [.inl (I7 0 83 l1.toNatClampNeg), .inl (I7 0 84 l1.toNatClampNeg), .inl (I7 0 85 l1.toNatClampNeg)]) (rest := []) dX11_attempt_150 lkX11_tryMake ml_X11_378 imX11_tryMake seX11_tryMake rfl rfl (hG.m0 (by decide)) rfl (Nat.le_of_ble_eq_true rfl) rfl (sX11_tryMake hG hq13) ?_
      refine am_goto (tgt := 312) dX11_attempt_153 rfl ?_
      exact am_lwJ (lo' := [none, none, none, none, none]) trivial (tX11_attempt_312 hG h)
    | 2, _, hx =>
      rw [if_neg (show ¬ (I7 0 82 l1.toNatClampNeg) = nI 0 by rw [hx]; decide), if_neg (show ¬ (I7 0 82 l1.toNatClampNeg) = nI 1 by rw [hx]; decide)] at h
      rw [if_pos hx] at h
      refine am_tabIn (off := 93) (tgt := 156) dX11_attempt_63 (by rw [hx]; decide) (by rw [hx]; decide) (by rw [hx]; rfl) rfl ?_
      refine am_aload_n dX11_attempt_156 rfl ?_
      refine am_iload_n dX11_attempt_157 rfl ?_
      refine am_iload_n dX11_attempt_158 rfl ?_
      obtain ⟨q14, hq14, h⟩ := am_bd h
      refine am_callVe (i := 0) (j := 60) (as := [.inl (I7 0 83 l1.toNatClampNeg), .inl (I7 0 84 l1.toNatClampNeg)]) (rest := []) dX11_attempt_159 lkX11_tryRemove ml_X11_381 imX11_tryRemove seX11_tryRemove rfl rfl (hG.m0 (by decide)) rfl (Nat.le_of_ble_eq_true rfl) rfl (sX11_tryRemove hG hq14) ?_
      refine am_goto (tgt := 312) dX11_attempt_162 rfl ?_
      exact am_lwJ (lo' := [none, none, none, none, none]) trivial (tX11_attempt_312 hG h)
    | 3, _, hx =>
      rw [if_neg (show ¬ (I7 0 82 l1.toNatClampNeg) = nI 0 by rw [hx]; decide), if_neg (show ¬ (I7 0 82 l1.toNatClampNeg) = nI 1 by rw [hx]; decide), if_neg (show ¬ (I7 0 82 l1.toNatClampNeg) = nI 2 by rw [hx]; decide)] at h
      rw [if_pos hx] at h
      refine am_tabIn (off := 102) (tgt := 165) dX11_attempt_63 (by rw [hx]; decide) (by rw [hx]; decide) (by rw [hx]; rfl) rfl ?_
      refine am_aload_n dX11_attempt_165 rfl ?_
      refine am_iload_n dX11_attempt_166 rfl ?_
      refine am_iload_n dX11_attempt_167 rfl ?_
      refine am_iload dX11_attempt_168 rfl ?_
      obtain ⟨q15, hq15, h⟩ := am_bd h
      refine am_callVe (i := 0) (j := 60) (as := [.inl (I7 0 83 l1.toNatClampNeg), .inl (I7 0 84 l1.toNatClampNeg), .inl (I7 0 85 l1.toNatClampNeg)]) (rest := []) dX11_attempt_170 lkX11_tryLink ml_X11_384 imX11_tryLink seX11_tryLink rfl rfl (hG.m0 (by decide)) rfl (Nat.le_of_ble_eq_true rfl) rfl (sX11_tryLink hG hq15) ?_
      refine am_goto (tgt := 312) dX11_attempt_173 rfl ?_
      exact am_lwJ (lo' := [none, none, none, none, none]) trivial (tX11_attempt_312 hG h)
    | 4, _, hx =>
      rw [if_neg (show ¬ (I7 0 82 l1.toNatClampNeg) = nI 0 by rw [hx]; decide), if_neg (show ¬ (I7 0 82 l1.toNatClampNeg) = nI 1 by rw [hx]; decide), if_neg (show ¬ (I7 0 82 l1.toNatClampNeg) = nI 2 by rw [hx]; decide), if_neg (show ¬ (I7 0 82 l1.toNatClampNeg) = nI 3 by rw [hx]; decide)] at h
      rw [if_pos hx] at h
      refine am_tabIn (off := 113) (tgt := 176) dX11_attempt_63 (by rw [hx]; decide) (by rw [hx]; decide) (by rw [hx]; rfl) rfl ?_
      refine am_aload_n dX11_attempt_176 rfl ?_
      refine am_iload_n dX11_attempt_177 rfl ?_
      refine am_iload_n dX11_attempt_178 rfl ?_
      refine am_iload dX11_attempt_179 rfl ?_
      refine am_aload_n dX11_attempt_181 rfl ?_
      refine am_get (v := .inr (0, 86)) dX11_attempt_182 fl_11_78 (hG.m0 (by decide)) rfl ?_
      refine am_iload_n dX11_attempt_185 rfl ?_
      obtain ⟨g16, h⟩ := am_gd_some h
      refine am_ialdG dX11_attempt_186 (hG.m0 (by decide)) rfl g16 (show 4 < 2 ^ 31 by decide) ?_
      obtain ⟨q17, hq17, h⟩ := am_bd h
      refine am_callVe (i := 0) (j := 60) (as := [.inl (I7 0 83 l1.toNatClampNeg), .inl (I7 0 84 l1.toNatClampNeg), .inl (I7 0 85 l1.toNatClampNeg), .inl (I7 0 86 l1.toNatClampNeg)]) (rest := []) dX11_attempt_187 lkX11_tryRename ml_X11_387 imX11_tryRename seX11_tryRename rfl rfl (hG.m0 (by decide)) rfl (Nat.le_of_ble_eq_true rfl) rfl (sX11_tryRename hG hq17) ?_
      refine am_goto (tgt := 312) dX11_attempt_190 rfl ?_
      exact am_lwJ (lo' := [none, none, none, none, none]) trivial (tX11_attempt_312 hG h)
    | 5, _, hx =>
      rw [if_neg (show ¬ (I7 0 82 l1.toNatClampNeg) = nI 0 by rw [hx]; decide), if_neg (show ¬ (I7 0 82 l1.toNatClampNeg) = nI 1 by rw [hx]; decide), if_neg (show ¬ (I7 0 82 l1.toNatClampNeg) = nI 2 by rw [hx]; decide), if_neg (show ¬ (I7 0 82 l1.toNatClampNeg) = nI 3 by rw [hx]; decide), if_neg (show ¬ (I7 0 82 l1.toNatClampNeg) = nI 4 by rw [hx]; decide)] at h
      rw [if_pos hx] at h
      refine am_tabIn (off := 130) (tgt := 193) dX11_attempt_63 (by rw [hx]; decide) (by rw [hx]; decide) (by rw [hx]; rfl) rfl ?_
      refine am_aload_n dX11_attempt_193 rfl ?_
      refine am_iload_n dX11_attempt_194 rfl ?_
      refine am_iconst (v := nI 1) dX11_attempt_195 (by decide) ?_
      refine am_iconst (v := nI 1) dX11_attempt_196 (by decide) ?_
      refine am_bipush (v := (-4 : Int32)) dX11_attempt_197 (by decide) ?_
      obtain ⟨q18, hq18, h⟩ := am_bd h
      refine am_callVx (i := 0) (j := 60) (as := [.inl (I7 0 83 l1.toNatClampNeg), .inl (nI 1), .inl (nI 1), .inl (-4 : Int32)]) (rest := []) dX11_attempt_199 lkX11_isOf ml_X11_390 imX11_isOf seX11_isOf rfl rfl (hG.m0 (by decide)) rfl (Nat.le_of_ble_eq_true rfl) rfl (sX11_isOf hG hq18) ?_
      refine am_if_eq (tgt := 312) dX11_attempt_202 rfl (fun c => ?_) (fun c => ?_)
      · rw [if_pos c] at h
        exact am_lwJ (lo' := [none, none, none, none, none]) trivial (tX11_attempt_312 hG h)
      · rw [if_neg c] at h
        refine am_iload_n dX11_attempt_205 rfl ?_
        refine am_aload_n dX11_attempt_206 rfl ?_
        refine am_iload_n dX11_attempt_207 rfl ?_
        refine am_iconst (v := nI 2) dX11_attempt_208 (by decide) ?_
        obtain ⟨q19, hq19, h⟩ := am_bd h
        refine am_callVx (i := 0) (j := 60) (as := [.inl (I7 0 83 l1.toNatClampNeg), .inl (nI 2)]) (rest := [.inl (I7 0 84 l1.toNatClampNeg)]) dX11_attempt_209 lkX11_ofInode ml_X11_351 imX11_ofInode seX11_ofInode rfl rfl (hG.m0 (by decide)) rfl (Nat.le_of_ble_eq_true rfl) rfl (sX11_ofInode hG hq19) ?_
        refine am_icmp_lt (tgt := 224) dX11_attempt_212 rfl (fun c => ?_) (fun c => ?_)
        · rw [if_pos c] at h
          refine am_aload_n dX11_attempt_224 rfl ?_
          refine am_aload_n dX11_attempt_225 rfl ?_
          refine am_iload_n dX11_attempt_226 rfl ?_
          refine am_iload_n dX11_attempt_227 rfl ?_
          obtain ⟨q20, hq20, h⟩ := am_bd h
          refine am_callVx (i := 0) (j := 60) (as := [.inl (I7 0 83 l1.toNatClampNeg), .inl (I7 0 84 l1.toNatClampNeg)]) (rest := [.inr (0, 60)]) dX11_attempt_228 lkX11_wordOf ml_X11_363 imX11_wordOf seX11_wordOf rfl rfl (hG.m0 (by decide)) rfl (Nat.le_of_ble_eq_true rfl) rfl (sX11_wordOf hG hq20) ?_
          refine am_put (x := q20.1) dX11_attempt_231 fp_11_316 (hG.m0 (by decide)) (Nat.le_of_ble_eq_true rfl) rfl ?_
          obtain ⟨I21, hI21, h⟩ := am_lt_some h
          refine am_st10 hI21 ?_
          refine am_goto (tgt := 312) dX11_attempt_234 rfl ?_
          exact am_lwJ (lo' := [none, none, none, none, none]) trivial (tX11_attempt_312 hG h)
        · rw [if_neg c] at h
          refine am_aload_n dX11_attempt_215 rfl ?_
          refine am_bipush (v := (-10 : Int32)) dX11_attempt_216 (by decide) ?_
          obtain ⟨q22, hq22, h⟩ := am_bd h
          refine am_callVe (i := 0) (j := 60) (as := [.inl (-10 : Int32)]) (rest := []) dX11_attempt_218 lkX11_fail ml_X11_348 imX11_fail seX11_fail rfl rfl (hG.m0 (by decide)) rfl (Nat.le_of_ble_eq_true rfl) rfl (sX11_fail hG hq22) ?_
          refine am_goto (tgt := 312) dX11_attempt_221 rfl ?_
          exact am_lwJ (lo' := [none, none, none, none, none]) trivial (tX11_attempt_312 hG h)
    | 6, _, hx =>
      rw [if_neg (show ¬ (I7 0 82 l1.toNatClampNeg) = nI 0 by rw [hx]; decide), if_neg (show ¬ (I7 0 82 l1.toNatClampNeg) = nI 1 by rw [hx]; decide), if_neg (show ¬ (I7 0 82 l1.toNatClampNeg) = nI 2 by rw [hx]; decide), if_neg (show ¬ (I7 0 82 l1.toNatClampNeg) = nI 3 by rw [hx]; decide), if_neg (show ¬ (I7 0 82 l1.toNatClampNeg) = nI 4 by rw [hx]; decide), if_neg (show ¬ (I7 0 82 l1.toNatClampNeg) = nI 5 by rw [hx]; decide)] at h
      rw [if_pos hx] at h
      refine am_tabIn (off := 174) (tgt := 237) dX11_attempt_63 (by rw [hx]; decide) (by rw [hx]; decide) (by rw [hx]; rfl) rfl ?_
      refine am_aload_n dX11_attempt_237 rfl ?_
      refine am_iload_n dX11_attempt_238 rfl ?_
      refine am_iload_n dX11_attempt_239 rfl ?_
      refine am_iload dX11_attempt_240 rfl ?_
      refine am_aload_n dX11_attempt_242 rfl ?_
      refine am_get (v := .inr (0, 82)) dX11_attempt_243 fl_11_66 (hG.m0 (by decide)) rfl ?_
      refine am_iload_n dX11_attempt_246 rfl ?_
      obtain ⟨g23, h⟩ := am_gd_some h
      refine am_ialdG dX11_attempt_247 (hG.m0 (by decide)) rfl g23 (show 4 < 2 ^ 31 by decide) ?_
      refine am_bipush (v := nI 11) dX11_attempt_248 (by decide) ?_
      refine am_icmp_ne (tgt := 257) dX11_attempt_250 rfl (fun c => ?_) (fun c => ?_)
      · rw [if_neg c] at h
        refine am_iconst (v := nI 0) dX11_attempt_257 (by decide) ?_
        exact am_lwJ (lo' := [none, none, none, none, none]) trivial (tX11_attempt_258 hG h)
      · rw [if_pos c] at h
        refine am_iconst (v := nI 1) dX11_attempt_253 (by decide) ?_
        refine am_goto (tgt := 258) dX11_attempt_254 rfl ?_
        exact am_lwJ (lo' := [none, none, none, none, none]) trivial (tX11_attempt_258 hG h)
    | 7, _, hx =>
      rw [if_neg (show ¬ (I7 0 82 l1.toNatClampNeg) = nI 0 by rw [hx]; decide), if_neg (show ¬ (I7 0 82 l1.toNatClampNeg) = nI 1 by rw [hx]; decide), if_neg (show ¬ (I7 0 82 l1.toNatClampNeg) = nI 2 by rw [hx]; decide), if_neg (show ¬ (I7 0 82 l1.toNatClampNeg) = nI 3 by rw [hx]; decide), if_neg (show ¬ (I7 0 82 l1.toNatClampNeg) = nI 4 by rw [hx]; decide), if_neg (show ¬ (I7 0 82 l1.toNatClampNeg) = nI 5 by rw [hx]; decide), if_neg (show ¬ (I7 0 82 l1.toNatClampNeg) = nI 6 by rw [hx]; decide)] at h
      rw [if_pos hx] at h
      refine am_tabIn (off := 225) (tgt := 288) dX11_attempt_63 (by rw [hx]; decide) (by rw [hx]; decide) (by rw [hx]; rfl) rfl ?_
      refine am_aload_n dX11_attempt_288 rfl ?_
      refine am_iload_n dX11_attempt_289 rfl ?_
      refine am_iload_n dX11_attempt_290 rfl ?_
      obtain ⟨q24, hq24, h⟩ := am_bd h
      refine am_callVe (i := 0) (j := 60) (as := [.inl (I7 0 83 l1.toNatClampNeg), .inl (I7 0 84 l1.toNatClampNeg)]) (rest := []) dX11_attempt_291 lkX11_tryCut ml_X11_407 imX11_tryCut seX11_tryCut rfl rfl (hG.m0 (by decide)) rfl (Nat.le_of_ble_eq_true rfl) rfl (sX11_tryCut hG hq24) ?_
      refine am_goto (tgt := 312) dX11_attempt_294 rfl ?_
      exact am_lwJ (lo' := [none, none, none, none, none]) trivial (tX11_attempt_312 hG h)
    | 8, _, hx =>
      rw [if_neg (show ¬ (I7 0 82 l1.toNatClampNeg) = nI 0 by rw [hx]; decide), if_neg (show ¬ (I7 0 82 l1.toNatClampNeg) = nI 1 by rw [hx]; decide), if_neg (show ¬ (I7 0 82 l1.toNatClampNeg) = nI 2 by rw [hx]; decide), if_neg (show ¬ (I7 0 82 l1.toNatClampNeg) = nI 3 by rw [hx]; decide), if_neg (show ¬ (I7 0 82 l1.toNatClampNeg) = nI 4 by rw [hx]; decide), if_neg (show ¬ (I7 0 82 l1.toNatClampNeg) = nI 5 by rw [hx]; decide), if_neg (show ¬ (I7 0 82 l1.toNatClampNeg) = nI 6 by rw [hx]; decide), if_neg (show ¬ (I7 0 82 l1.toNatClampNeg) = nI 7 by rw [hx]; decide)] at h
      rw [if_pos hx] at h
      refine am_tabIn (off := 234) (tgt := 297) dX11_attempt_63 (by rw [hx]; decide) (by rw [hx]; decide) (by rw [hx]; rfl) rfl ?_
      refine am_aload_n dX11_attempt_297 rfl ?_
      refine am_iload_n dX11_attempt_298 rfl ?_
      refine am_iload_n dX11_attempt_299 rfl ?_
      obtain ⟨q25, hq25, h⟩ := am_bd h
      refine am_callVe (i := 0) (j := 60) (as := [.inl (I7 0 83 l1.toNatClampNeg), .inl (I7 0 84 l1.toNatClampNeg)]) (rest := []) dX11_attempt_300 lkX11_tryEntry ml_X11_410 imX11_tryEntry seX11_tryEntry rfl rfl (hG.m0 (by decide)) rfl (Nat.le_of_ble_eq_true rfl) rfl (sX11_tryEntry hG hq25) ?_
      refine am_goto (tgt := 312) dX11_attempt_303 rfl ?_
      exact am_lwJ (lo' := [none, none, none, none, none]) trivial (tX11_attempt_312 hG h)
    | 9, _, hx =>
      rw [if_neg (show ¬ (I7 0 82 l1.toNatClampNeg) = nI 0 by rw [hx]; decide), if_neg (show ¬ (I7 0 82 l1.toNatClampNeg) = nI 1 by rw [hx]; decide), if_neg (show ¬ (I7 0 82 l1.toNatClampNeg) = nI 2 by rw [hx]; decide), if_neg (show ¬ (I7 0 82 l1.toNatClampNeg) = nI 3 by rw [hx]; decide), if_neg (show ¬ (I7 0 82 l1.toNatClampNeg) = nI 4 by rw [hx]; decide), if_neg (show ¬ (I7 0 82 l1.toNatClampNeg) = nI 5 by rw [hx]; decide), if_neg (show ¬ (I7 0 82 l1.toNatClampNeg) = nI 6 by rw [hx]; decide), if_neg (show ¬ (I7 0 82 l1.toNatClampNeg) = nI 7 by rw [hx]; decide), if_neg (show ¬ (I7 0 82 l1.toNatClampNeg) = nI 8 by rw [hx]; decide)] at h
      rw [if_pos hx] at h
      refine am_tabIn (off := 243) (tgt := 306) dX11_attempt_63 (by rw [hx]; decide) (by rw [hx]; decide) (by rw [hx]; rfl) rfl ?_
      refine am_aload_n dX11_attempt_306 rfl ?_
      refine am_iload_n dX11_attempt_307 rfl ?_
      refine am_iload_n dX11_attempt_308 rfl ?_
      obtain ⟨q26, hq26, h⟩ := am_bd h
      refine am_callVe (i := 0) (j := 60) (as := [.inl (I7 0 83 l1.toNatClampNeg), .inl (I7 0 84 l1.toNatClampNeg)]) (rest := []) dX11_attempt_309 lkX11_tryStat ml_X11_413 imX11_tryStat seX11_tryStat rfl rfl (hG.m0 (by decide)) rfl (Nat.le_of_ble_eq_true rfl) rfl (sX11_tryStat hG hq26) ?_
      exact am_lwJ (lo' := [none, none, none, none, none]) trivial (tX11_attempt_312 hG h)
    | 10, _, hx =>
      rw [if_neg (show ¬ (I7 0 82 l1.toNatClampNeg) = nI 0 by rw [hx]; decide), if_neg (show ¬ (I7 0 82 l1.toNatClampNeg) = nI 1 by rw [hx]; decide), if_neg (show ¬ (I7 0 82 l1.toNatClampNeg) = nI 2 by rw [hx]; decide), if_neg (show ¬ (I7 0 82 l1.toNatClampNeg) = nI 3 by rw [hx]; decide), if_neg (show ¬ (I7 0 82 l1.toNatClampNeg) = nI 4 by rw [hx]; decide), if_neg (show ¬ (I7 0 82 l1.toNatClampNeg) = nI 5 by rw [hx]; decide), if_neg (show ¬ (I7 0 82 l1.toNatClampNeg) = nI 6 by rw [hx]; decide), if_neg (show ¬ (I7 0 82 l1.toNatClampNeg) = nI 7 by rw [hx]; decide), if_neg (show ¬ (I7 0 82 l1.toNatClampNeg) = nI 8 by rw [hx]; decide), if_neg (show ¬ (I7 0 82 l1.toNatClampNeg) = nI 9 by rw [hx]; decide)] at h
      rw [if_pos hx] at h
      refine am_tabIn (off := 243) (tgt := 306) dX11_attempt_63 (by rw [hx]; decide) (by rw [hx]; decide) (by rw [hx]; rfl) rfl ?_
      refine am_aload_n dX11_attempt_306 rfl ?_
      refine am_iload_n dX11_attempt_307 rfl ?_
      refine am_iload_n dX11_attempt_308 rfl ?_
      obtain ⟨q27, hq27, h⟩ := am_bd h
      refine am_callVe (i := 0) (j := 60) (as := [.inl (I7 0 83 l1.toNatClampNeg), .inl (I7 0 84 l1.toNatClampNeg)]) (rest := []) dX11_attempt_309 lkX11_tryStat ml_X11_413 imX11_tryStat seX11_tryStat rfl rfl (hG.m0 (by decide)) rfl (Nat.le_of_ble_eq_true rfl) rfl (sX11_tryStat hG hq27) ?_
      exact am_lwJ (lo' := [none, none, none, none, none]) trivial (tX11_attempt_312 hG h)
    | 11, _, hx =>
      rw [if_neg (show ¬ (I7 0 82 l1.toNatClampNeg) = nI 0 by rw [hx]; decide), if_neg (show ¬ (I7 0 82 l1.toNatClampNeg) = nI 1 by rw [hx]; decide), if_neg (show ¬ (I7 0 82 l1.toNatClampNeg) = nI 2 by rw [hx]; decide), if_neg (show ¬ (I7 0 82 l1.toNatClampNeg) = nI 3 by rw [hx]; decide), if_neg (show ¬ (I7 0 82 l1.toNatClampNeg) = nI 4 by rw [hx]; decide), if_neg (show ¬ (I7 0 82 l1.toNatClampNeg) = nI 5 by rw [hx]; decide), if_neg (show ¬ (I7 0 82 l1.toNatClampNeg) = nI 6 by rw [hx]; decide), if_neg (show ¬ (I7 0 82 l1.toNatClampNeg) = nI 7 by rw [hx]; decide), if_neg (show ¬ (I7 0 82 l1.toNatClampNeg) = nI 8 by rw [hx]; decide), if_neg (show ¬ (I7 0 82 l1.toNatClampNeg) = nI 9 by rw [hx]; decide), if_neg (show ¬ (I7 0 82 l1.toNatClampNeg) = nI 10 by rw [hx]; decide)] at h
      rw [if_pos hx] at h
      refine am_tabIn (off := 174) (tgt := 237) dX11_attempt_63 (by rw [hx]; decide) (by rw [hx]; decide) (by rw [hx]; rfl) rfl ?_
      refine am_aload_n dX11_attempt_237 rfl ?_
      refine am_iload_n dX11_attempt_238 rfl ?_
      refine am_iload_n dX11_attempt_239 rfl ?_
      refine am_iload dX11_attempt_240 rfl ?_
      refine am_aload_n dX11_attempt_242 rfl ?_
      refine am_get (v := .inr (0, 82)) dX11_attempt_243 fl_11_66 (hG.m0 (by decide)) rfl ?_
      refine am_iload_n dX11_attempt_246 rfl ?_
      obtain ⟨g28, h⟩ := am_gd_some h
      refine am_ialdG dX11_attempt_247 (hG.m0 (by decide)) rfl g28 (show 4 < 2 ^ 31 by decide) ?_
      refine am_bipush (v := nI 11) dX11_attempt_248 (by decide) ?_
      refine am_icmp_ne (tgt := 257) dX11_attempt_250 rfl (fun c => ?_) (fun c => ?_)
      · rw [if_neg c] at h
        refine am_iconst (v := nI 0) dX11_attempt_257 (by decide) ?_
        exact am_lwJ (lo' := [none, none, none, none, none]) trivial (tX11_attempt_258 hG h)
      · rw [if_pos c] at h
        refine am_iconst (v := nI 1) dX11_attempt_253 (by decide) ?_
        refine am_goto (tgt := 258) dX11_attempt_254 rfl ?_
        exact am_lwJ (lo' := [none, none, none, none, none]) trivial (tX11_attempt_258 hG h)
    | 12, _, hx =>
      rw [if_neg (show ¬ (I7 0 82 l1.toNatClampNeg) = nI 0 by rw [hx]; decide), if_neg (show ¬ (I7 0 82 l1.toNatClampNeg) = nI 1 by rw [hx]; decide), if_neg (show ¬ (I7 0 82 l1.toNatClampNeg) = nI 2 by rw [hx]; decide), if_neg (show ¬ (I7 0 82 l1.toNatClampNeg) = nI 3 by rw [hx]; decide), if_neg (show ¬ (I7 0 82 l1.toNatClampNeg) = nI 4 by rw [hx]; decide), if_neg (show ¬ (I7 0 82 l1.toNatClampNeg) = nI 5 by rw [hx]; decide), if_neg (show ¬ (I7 0 82 l1.toNatClampNeg) = nI 6 by rw [hx]; decide), if_neg (show ¬ (I7 0 82 l1.toNatClampNeg) = nI 7 by rw [hx]; decide), if_neg (show ¬ (I7 0 82 l1.toNatClampNeg) = nI 8 by rw [hx]; decide), if_neg (show ¬ (I7 0 82 l1.toNatClampNeg) = nI 9 by rw [hx]; decide), if_neg (show ¬ (I7 0 82 l1.toNatClampNeg) = nI 10 by rw [hx]; decide), if_neg (show ¬ (I7 0 82 l1.toNatClampNeg) = nI 11 by rw [hx]; decide)] at h
      rw [if_pos hx] at h
      refine am_tabIn (off := 201) (tgt := 264) dX11_attempt_63 (by rw [hx]; decide) (by rw [hx]; decide) (by rw [hx]; rfl) rfl ?_
      refine am_aload_n dX11_attempt_264 rfl ?_
      refine am_iload_n dX11_attempt_265 rfl ?_
      refine am_iload_n dX11_attempt_266 rfl ?_
      obtain ⟨q29, hq29, h⟩ := am_bd h
      refine am_callVe (i := 0) (j := 60) (as := [.inl (I7 0 83 l1.toNatClampNeg), .inl (I7 0 84 l1.toNatClampNeg)]) (rest := []) dX11_attempt_267 lkX11_tryAppend ml_X11_398 imX11_tryAppend seX11_tryAppend rfl rfl (hG.m0 (by decide)) rfl (Nat.le_of_ble_eq_true rfl) rfl (sX11_tryAppend hG hq29) ?_
      refine am_goto (tgt := 312) dX11_attempt_270 rfl ?_
      exact am_lwJ (lo' := [none, none, none, none, none]) trivial (tX11_attempt_312 hG h)
    | 13, _, hx =>
      rw [if_neg (show ¬ (I7 0 82 l1.toNatClampNeg) = nI 0 by rw [hx]; decide), if_neg (show ¬ (I7 0 82 l1.toNatClampNeg) = nI 1 by rw [hx]; decide), if_neg (show ¬ (I7 0 82 l1.toNatClampNeg) = nI 2 by rw [hx]; decide), if_neg (show ¬ (I7 0 82 l1.toNatClampNeg) = nI 3 by rw [hx]; decide), if_neg (show ¬ (I7 0 82 l1.toNatClampNeg) = nI 4 by rw [hx]; decide), if_neg (show ¬ (I7 0 82 l1.toNatClampNeg) = nI 5 by rw [hx]; decide), if_neg (show ¬ (I7 0 82 l1.toNatClampNeg) = nI 6 by rw [hx]; decide), if_neg (show ¬ (I7 0 82 l1.toNatClampNeg) = nI 7 by rw [hx]; decide), if_neg (show ¬ (I7 0 82 l1.toNatClampNeg) = nI 8 by rw [hx]; decide), if_neg (show ¬ (I7 0 82 l1.toNatClampNeg) = nI 9 by rw [hx]; decide), if_neg (show ¬ (I7 0 82 l1.toNatClampNeg) = nI 10 by rw [hx]; decide), if_neg (show ¬ (I7 0 82 l1.toNatClampNeg) = nI 11 by rw [hx]; decide), if_neg (show ¬ (I7 0 82 l1.toNatClampNeg) = nI 12 by rw [hx]; decide)] at h
      rw [if_pos hx] at h
      refine am_tabIn (off := 210) (tgt := 273) dX11_attempt_63 (by rw [hx]; decide) (by rw [hx]; decide) (by rw [hx]; rfl) rfl ?_
      refine am_aload_n dX11_attempt_273 rfl ?_
      refine am_iload_n dX11_attempt_274 rfl ?_
      obtain ⟨q30, hq30, h⟩ := am_bd h
      refine am_callVe (i := 0) (j := 60) (as := [.inl (I7 0 83 l1.toNatClampNeg)]) (rest := []) dX11_attempt_275 lkX11_tryCount ml_X11_401 imX11_tryCount seX11_tryCount rfl rfl (hG.m0 (by decide)) rfl (Nat.le_of_ble_eq_true rfl) rfl (sX11_tryCount hG hq30) ?_
      refine am_goto (tgt := 312) dX11_attempt_278 rfl ?_
      exact am_lwJ (lo' := [none, none, none, none, none]) trivial (tX11_attempt_312 hG h)
    | 14, _, hx =>
      rw [if_neg (show ¬ (I7 0 82 l1.toNatClampNeg) = nI 0 by rw [hx]; decide), if_neg (show ¬ (I7 0 82 l1.toNatClampNeg) = nI 1 by rw [hx]; decide), if_neg (show ¬ (I7 0 82 l1.toNatClampNeg) = nI 2 by rw [hx]; decide), if_neg (show ¬ (I7 0 82 l1.toNatClampNeg) = nI 3 by rw [hx]; decide), if_neg (show ¬ (I7 0 82 l1.toNatClampNeg) = nI 4 by rw [hx]; decide), if_neg (show ¬ (I7 0 82 l1.toNatClampNeg) = nI 5 by rw [hx]; decide), if_neg (show ¬ (I7 0 82 l1.toNatClampNeg) = nI 6 by rw [hx]; decide), if_neg (show ¬ (I7 0 82 l1.toNatClampNeg) = nI 7 by rw [hx]; decide), if_neg (show ¬ (I7 0 82 l1.toNatClampNeg) = nI 8 by rw [hx]; decide), if_neg (show ¬ (I7 0 82 l1.toNatClampNeg) = nI 9 by rw [hx]; decide), if_neg (show ¬ (I7 0 82 l1.toNatClampNeg) = nI 10 by rw [hx]; decide), if_neg (show ¬ (I7 0 82 l1.toNatClampNeg) = nI 11 by rw [hx]; decide), if_neg (show ¬ (I7 0 82 l1.toNatClampNeg) = nI 12 by rw [hx]; decide), if_neg (show ¬ (I7 0 82 l1.toNatClampNeg) = nI 13 by rw [hx]; decide)] at h
      rw [if_pos hx] at h
      refine am_tabIn (off := 218) (tgt := 281) dX11_attempt_63 (by rw [hx]; decide) (by rw [hx]; decide) (by rw [hx]; rfl) rfl ?_
      refine am_aload_n dX11_attempt_281 rfl ?_
      obtain ⟨q31, hq31, h⟩ := am_bd h
      refine am_callVe (i := 0) (j := 60) (as := []) (rest := []) dX11_attempt_282 lkX11_tryRoom ml_X11_404 imX11_tryRoom seX11_tryRoom rfl rfl (hG.m0 (by decide)) rfl (Nat.le_of_ble_eq_true rfl) rfl (sX11_tryRoom hG hq31) ?_
      refine am_goto (tgt := 312) dX11_attempt_285 rfl ?_
      exact am_lwJ (lo' := [none, none, none, none, none]) trivial (tX11_attempt_312 hG h)
    | m + 15, hm, _ => exact absurd hm (by omega)
  · rw [if_neg (am_swd (k := 0) hx (by decide) (by decide)), if_neg (am_swd (k := 1) hx (by decide) (by decide)), if_neg (am_swd (k := 2) hx (by decide) (by decide)), if_neg (am_swd (k := 3) hx (by decide) (by decide)), if_neg (am_swd (k := 4) hx (by decide) (by decide)), if_neg (am_swd (k := 5) hx (by decide) (by decide)), if_neg (am_swd (k := 6) hx (by decide) (by decide)), if_neg (am_swd (k := 7) hx (by decide) (by decide)), if_neg (am_swd (k := 8) hx (by decide) (by decide)), if_neg (am_swd (k := 9) hx (by decide) (by decide)), if_neg (am_swd (k := 10) hx (by decide) (by decide)), if_neg (am_swd (k := 11) hx (by decide) (by decide)), if_neg (am_swd (k := 12) hx (by decide) (by decide)), if_neg (am_swd (k := 13) hx (by decide) (by decide)), if_neg (am_swd (k := 14) hx (by decide) (by decide))] at h
    refine am_tabOut (tgt := 306) dX11_attempt_63 (by omega) rfl ?_
    refine am_aload_n dX11_attempt_306 rfl ?_
    refine am_iload_n dX11_attempt_307 rfl ?_
    refine am_iload_n dX11_attempt_308 rfl ?_
    obtain ⟨q32, hq32, h⟩ := am_bd h
    refine am_callVe (i := 0) (j := 60) (as := [.inl (I7 0 83 l1.toNatClampNeg), .inl (I7 0 84 l1.toNatClampNeg)]) (rest := []) dX11_attempt_309 lkX11_tryStat ml_X11_413 imX11_tryStat seX11_tryStat rfl rfl (hG.m0 (by decide)) rfl (Nat.le_of_ble_eq_true rfl) rfl (sX11_tryStat hG hq32) ?_
    exact am_lwJ (lo' := [none, none, none, none, none]) trivial (tX11_attempt_312 hG h)
def gX11_attempt (n : Nat) (l1 : Int32) (I : am_I) : Option (am_I) := bX11_attempt_0 n l1 I
theorem sX11_attempt {G : am_G} (hG : am_okM G) {d : Nat} {l1 : Int32} {I : am_I} {r : am_I} (h : gX11_attempt G.2.2.2.1 l1 I = some r) : am_C G (d + 8) mX11_attempt [.inr (0, 60), .inl l1] I (am_E none r) :=
  am_of (by decide +kernel) hG.nd (Nat.le_of_ble_eq_true rfl) (am_lwJ (lo' := [some (.inr (0, 60)), some (.inl l1), none, none, none]) ⟨rfl, rfl, trivial⟩ (tX11_attempt_0 hG h))
def bX11_undo_47 (n : Nat) (k2 : Int32 → am_I → Option (am_I)) : Nat → Int32 → Int32 → Int32 → am_I → Option (am_I)
  | 0, _, _, _, _ => none
  | fu + 1, l1, l2, l3, I => (fun k47 => if (nI 16) ≤ l3 then (k2 (l1 + nI 1) I) else (am_gd (am_inb (((nI 16) * l1) + l3) 10240) (am_gd (am_inb (((nI 16) * (((nI 640) * (I 0 60 51)) + l2)) + l3) 40960) (am_lt (am_up I 0 67 (((nI 16) * (((nI 640) * (I 0 60 51)) + l2)) + l3).toNatClampNeg (I 0 121 ((((nI 16) * l1) + l3).toNatClampNeg))) (fun I3 => k47 l1 l2 (l3 + nI 1) I3))))) (bX11_undo_47 n k2 fu)
theorem tX11_undo_47 {G : am_G} (hG : am_okM G) {d : Nat} {k2 : Int32 → am_I → Option (am_I)} (hk2 : ∀ (l1 : Int32) (I : am_I) (r : am_I), k2 l1 I = some r → am_J G d mX11_undo am_no (am_E none r) 2 [some (.inr (0, 60)), some (.inl l1), none, none] [] I) : ∀ {fu : Nat} {l1 : Int32} {l2 : Int32} {l3 : Int32} {I : am_I} {r : am_I}, bX11_undo_47 G.2.2.2.1 k2 fu l1 l2 l3 I = some r → am_J G d mX11_undo am_no (am_E none r) 47 [some (.inr (0, 60)), some (.inl l1), some (.inl l2), some (.inl l3)] [] I := by
  intro fu
  induction fu with
  | zero => intro l1 l2 l3 I r h; cases h
  | succ fu ih =>
    intro l1 l2 l3 I r h
    have hk47 : ∀ (l1 : Int32) (l2 : Int32) (l3 : Int32) (I : am_I) (r : am_I), bX11_undo_47 G.2.2.2.1 k2 fu l1 l2 l3 I = some r → am_J G d mX11_undo am_no (am_E none r) 47 [some (.inr (0, 60)), some (.inl l1), some (.inl l2), some (.inl l3)] [] I := fun l1 l2 l3 I r h => ih h
    unfold bX11_undo_47 at h
    generalize bX11_undo_47 G.2.2.2.1 k2 fu = k47 at hk47 h
    dsimp only at h
    refine am_iload_n dX11_undo_47 rfl ?_
    refine am_bipush (v := nI 16) dX11_undo_48 (by decide) ?_
    refine am_icmp_ge (tgt := 90) dX11_undo_50 rfl (fun c => ?_) (fun c => ?_)
    · rw [if_pos c] at h
      refine am_iinc (v := l1 + nI 1) dX11_undo_90 rfl rfl ?_
      refine am_goto (tgt := 2) dX11_undo_93 rfl ?_
      exact am_lwJ (lo' := [some (.inr (0, 60)), some (.inl (l1 + nI 1)), none, none]) ⟨rfl, rfl, trivial⟩ (hk2 (l1 + nI 1) _ _ h)
    · rw [if_neg c] at h
      refine am_aload_n dX11_undo_53 rfl ?_
      refine am_get (v := .inr (0, 67)) dX11_undo_54 fl_11_21 (hG.m0 (by decide)) rfl ?_
      refine am_bipush (v := nI 16) dX11_undo_57 (by decide) ?_
      refine am_sipush (v := nI 640) dX11_undo_59 (by decide) ?_
      refine am_aload_n dX11_undo_62 rfl ?_
      refine am_get (v := .inl (I 0 60 51)) dX11_undo_63 fl_11_319 (hG.m0 (by decide)) rfl ?_
      refine am_imul dX11_undo_66 ?_
      refine am_iload_n dX11_undo_67 rfl ?_
      refine am_iadd dX11_undo_68 ?_
      refine am_imul dX11_undo_69 ?_
      refine am_iload_n dX11_undo_70 rfl ?_
      refine am_iadd dX11_undo_71 ?_
      refine am_aload_n dX11_undo_72 rfl ?_
      refine am_get (v := .inr (0, 121)) dX11_undo_73 fl_11_150 (hG.m0 (by decide)) rfl ?_
      refine am_bipush (v := nI 16) dX11_undo_76 (by decide) ?_
      refine am_iload_n dX11_undo_78 rfl ?_
      refine am_imul dX11_undo_79 ?_
      refine am_iload_n dX11_undo_80 rfl ?_
      refine am_iadd dX11_undo_81 ?_
      obtain ⟨g1, h⟩ := am_gd_some h
      refine am_ialdG dX11_undo_82 (hG.m0 (by decide)) rfl g1 (show 10240 < 2 ^ 31 by decide) ?_
      obtain ⟨g2, h⟩ := am_gd_some h
      refine am_iastG dX11_undo_83 (hG.m0 (by decide)) rfl g2 (show 40960 < 2 ^ 31 by decide) ?_
      obtain ⟨I3, hI3, h⟩ := am_lt_some h
      refine am_st10 hI3 ?_
      refine am_iinc (v := l3 + nI 1) dX11_undo_84 rfl rfl ?_
      refine am_goto (tgt := 47) dX11_undo_87 rfl ?_
      exact am_lwJ (lo' := [some (.inr (0, 60)), some (.inl l1), some (.inl l2), some (.inl (l3 + nI 1))]) ⟨rfl, rfl, rfl, rfl, trivial⟩ (hk47 l1 l2 (l3 + nI 1) _ _ h)
def bX11_undo_2 (n : Nat) : Nat → Int32 → am_I → Option (am_I)
  | 0, _, _ => none
  | fu + 1, l1, I => (fun k2 => if (I 0 60 56) ≤ l1 then (am_lt (am_up I 0 60 56 (nI 0)) (fun I1 => am_lt (am_up I1 0 60 61 (nI 0)) (fun I2 => some I2))) else (am_gd (am_inb l1 640) (am_gd (am_inb (I 0 118 l1.toNatClampNeg) 640) (am_lt (am_up I 0 120 (I 0 118 l1.toNatClampNeg).toNatClampNeg (nI 0)) (fun I5 => am_gd (am_inb l1 640) (am_gd (am_inb (((nI 640) * (I5 0 60 51)) + (I 0 118 l1.toNatClampNeg)) 2560) (am_gd (am_01 (I5 0 119 l1.toNatClampNeg)) (am_lt (am_up I5 0 68 (((nI 640) * (I5 0 60 51)) + (I 0 118 l1.toNatClampNeg)).toNatClampNeg (I5 0 119 l1.toNatClampNeg)) (fun I9 => bX11_undo_47 n k2 am_fu l1 (I 0 118 l1.toNatClampNeg) (nI 0) I9))))))))) (bX11_undo_2 n fu)
theorem tX11_undo_2 {G : am_G} (hG : am_okM G) {d : Nat} : ∀ {fu : Nat} {l1 : Int32} {I : am_I} {r : am_I}, bX11_undo_2 G.2.2.2.1 fu l1 I = some r → am_J G d mX11_undo am_no (am_E none r) 2 [some (.inr (0, 60)), some (.inl l1), none, none] [] I := by
  intro fu
  induction fu with
  | zero => intro l1 I r h; cases h
  | succ fu ih =>
    intro l1 I r h
    have hk2 : ∀ (l1 : Int32) (I : am_I) (r : am_I), bX11_undo_2 G.2.2.2.1 fu l1 I = some r → am_J G d mX11_undo am_no (am_E none r) 2 [some (.inr (0, 60)), some (.inl l1), none, none] [] I := fun l1 I r h => ih h
    unfold bX11_undo_2 at h
    generalize bX11_undo_2 G.2.2.2.1 fu = k2 at hk2 h
    dsimp only at h
    refine am_iload_n dX11_undo_2 rfl ?_
    refine am_aload_n dX11_undo_3 rfl ?_
    refine am_get (v := .inl (I 0 60 56)) dX11_undo_4 fl_11_307 (hG.m0 (by decide)) rfl ?_
    refine am_icmp_ge (tgt := 96) dX11_undo_7 rfl (fun c => ?_) (fun c => ?_)
    · rw [if_pos c] at h
      refine am_aload_n dX11_undo_96 rfl ?_
      refine am_iconst (v := nI 0) dX11_undo_97 (by decide) ?_
      refine am_put (x := nI 0) dX11_undo_98 fp_11_307 (hG.m0 (by decide)) (Nat.le_of_ble_eq_true rfl) rfl ?_
      obtain ⟨I1, hI1, h⟩ := am_lt_some h
      refine am_st10 hI1 ?_
      refine am_aload_n dX11_undo_101 rfl ?_
      refine am_iconst (v := nI 0) dX11_undo_102 (by decide) ?_
      refine am_put (x := nI 0) dX11_undo_103 fp_11_310 (hG.m0 (by decide)) (Nat.le_of_ble_eq_true rfl) rfl ?_
      obtain ⟨I2, hI2, h⟩ := am_lt_some h
      refine am_st10 hI2 ?_
      cases h
      exact am_vret dX11_undo_106 rfl ⟨rfl, rfl⟩
    · rw [if_neg c] at h
      refine am_aload_n dX11_undo_10 rfl ?_
      refine am_get (v := .inr (0, 118)) dX11_undo_11 fl_11_141 (hG.m0 (by decide)) rfl ?_
      refine am_iload_n dX11_undo_14 rfl ?_
      obtain ⟨g3, h⟩ := am_gd_some h
      refine am_ialdG dX11_undo_15 (hG.m0 (by decide)) rfl g3 (show 640 < 2 ^ 31 by decide) ?_
      refine am_istore_n dX11_undo_16 (by decide) ?_
      refine am_aload_n dX11_undo_17 rfl ?_
      refine am_get (v := .inr (0, 120)) dX11_undo_18 fl_11_147 (hG.m0 (by decide)) rfl ?_
      refine am_iload_n dX11_undo_21 rfl ?_
      refine am_iconst (v := nI 0) dX11_undo_22 (by decide) ?_
      obtain ⟨g4, h⟩ := am_gd_some h
      refine am_zastG dX11_undo_23 (hG.m0 (by decide)) rfl (by decide) g4 (show 640 < 2 ^ 31 by decide) ?_
      obtain ⟨I5, hI5, h⟩ := am_lt_some h
      refine am_st10 hI5 ?_
      refine am_aload_n dX11_undo_24 rfl ?_
      refine am_get (v := .inr (0, 68)) dX11_undo_25 fl_11_24 (hG.m0 (by decide)) rfl ?_
      refine am_sipush (v := nI 640) dX11_undo_28 (by decide) ?_
      refine am_aload_n dX11_undo_31 rfl ?_
      refine am_get (v := .inl (I5 0 60 51)) dX11_undo_32 fl_11_319 (hG.m0 (by decide)) rfl ?_
      refine am_imul dX11_undo_35 ?_
      refine am_iload_n dX11_undo_36 rfl ?_
      refine am_iadd dX11_undo_37 ?_
      refine am_aload_n dX11_undo_38 rfl ?_
      refine am_get (v := .inr (0, 119)) dX11_undo_39 fl_11_144 (hG.m0 (by decide)) rfl ?_
      refine am_iload_n dX11_undo_42 rfl ?_
      obtain ⟨g6, h⟩ := am_gd_some h
      refine am_zaldG dX11_undo_43 (hG.m0 (by decide)) rfl g6 (show 640 < 2 ^ 31 by decide) ?_
      obtain ⟨g7, h⟩ := am_gd_some h
      obtain ⟨g8, h⟩ := am_gd_some h
      refine am_zastG dX11_undo_44 (hG.m0 (by decide)) rfl (am_01_of g8) g7 (show 2560 < 2 ^ 31 by decide) ?_
      obtain ⟨I9, hI9, h⟩ := am_lt_some h
      refine am_st10 hI9 ?_
      refine am_iconst (v := nI 0) dX11_undo_45 (by decide) ?_
      refine am_istore_n dX11_undo_46 (by decide) ?_
      exact am_lwJ (lo' := [some (.inr (0, 60)), some (.inl l1), some (.inl (I 0 118 l1.toNatClampNeg)), some (.inl (nI 0))]) ⟨rfl, rfl, rfl, rfl, trivial⟩ (tX11_undo_47 hG hk2 h)
def bX11_undo_0 (n : Nat) (I : am_I) : Option (am_I) := bX11_undo_2 n am_fu (nI 0) I
theorem tX11_undo_0 {G : am_G} (hG : am_okM G) {d : Nat} {I : am_I} {r : am_I} (h : bX11_undo_0 G.2.2.2.1  I = some r) : am_J G d mX11_undo am_no (am_E none r) 0 [some (.inr (0, 60)), none, none, none] [] I := by
  unfold bX11_undo_0 at h
  refine am_iconst (v := nI 0) dX11_undo_0 (by decide) ?_
  refine am_istore_n dX11_undo_1 (by decide) ?_
  exact am_lwJ (lo' := [some (.inr (0, 60)), some (.inl (nI 0)), none, none]) ⟨rfl, rfl, trivial⟩ (tX11_undo_2 hG h)
def gX11_undo (n : Nat) (I : am_I) : Option (am_I) := bX11_undo_0 n I
theorem sX11_undo {G : am_G} (hG : am_okM G) {d : Nat} {I : am_I} {r : am_I} (h : gX11_undo G.2.2.2.1 I = some r) : am_C G d mX11_undo [.inr (0, 60)] I (am_E none r) :=
  am_of (by decide +kernel) hG.nd (Nat.le_of_ble_eq_true rfl) (am_lwJ (lo' := [some (.inr (0, 60)), none, none, none]) ⟨rfl, trivial⟩ (tX11_undo_0 hG h))
def bX11_keepAll_153 (n : Nat) (k88 : Int32 → Int32 → am_I → Option (am_I)) (l1 : Int32) (l2 : Int32) (l3 : Int32) (s0 : Int32) (s1 : Int32) (I : am_I) : Option (am_I) := am_gd (am_inb s1 4) (am_lt (am_up I 0 70 s1.toNatClampNeg s0) (fun I2 => am_gd (am_inb (((nI 640) * l1) + l3) 2560) (am_lt (am_up I2 0 69 (((nI 640) * l1) + l3).toNatClampNeg (nI 0)) (fun I4 => k88 l1 (l2 + nI 1) I4))))
theorem tX11_keepAll_153 {G : am_G} (hG : am_okM G) {d : Nat} {k88 : Int32 → Int32 → am_I → Option (am_I)} (hk88 : ∀ (l1 : Int32) (l2 : Int32) (I : am_I) (r : am_I), k88 l1 l2 I = some r → am_J G d mX11_keepAll am_no (am_E none r) 88 [some (.inr (0, 60)), some (.inl l1), some (.inl l2), none] [] I) {l1 : Int32} {l2 : Int32} {l3 : Int32} {s0 : Int32} {s1 : Int32} {I : am_I} {r : am_I} (h : bX11_keepAll_153 G.2.2.2.1 k88 l1 l2 l3 s0 s1  I = some r) : am_J G d mX11_keepAll am_no (am_E none r) 153 [some (.inr (0, 60)), some (.inl l1), some (.inl l2), some (.inl l3)] [.inl s0, .inl s1, .inr (0, 70)] I := by
  unfold bX11_keepAll_153 at h
  obtain ⟨g1, h⟩ := am_gd_some h
  refine am_iastG dX11_keepAll_153 (hG.m0 (by decide)) rfl g1 (show 4 < 2 ^ 31 by decide) ?_
  obtain ⟨I2, hI2, h⟩ := am_lt_some h
  refine am_st10 hI2 ?_
  refine am_aload_n dX11_keepAll_154 rfl ?_
  refine am_get (v := .inr (0, 69)) dX11_keepAll_155 fl_11_27 (hG.m0 (by decide)) rfl ?_
  refine am_sipush (v := nI 640) dX11_keepAll_158 (by decide) ?_
  refine am_iload_n dX11_keepAll_161 rfl ?_
  refine am_imul dX11_keepAll_162 ?_
  refine am_iload_n dX11_keepAll_163 rfl ?_
  refine am_iadd dX11_keepAll_164 ?_
  refine am_iconst (v := nI 0) dX11_keepAll_165 (by decide) ?_
  obtain ⟨g3, h⟩ := am_gd_some h
  refine am_zastG dX11_keepAll_166 (hG.m0 (by decide)) rfl (by decide) g3 (show 2560 < 2 ^ 31 by decide) ?_
  obtain ⟨I4, hI4, h⟩ := am_lt_some h
  refine am_st10 hI4 ?_
  refine am_iinc (v := l2 + nI 1) dX11_keepAll_167 rfl rfl ?_
  refine am_goto (tgt := 88) dX11_keepAll_170 rfl ?_
  exact am_lwJ (lo' := [some (.inr (0, 60)), some (.inl l1), some (.inl (l2 + nI 1)), none]) ⟨rfl, rfl, rfl, trivial⟩ (hk88 l1 (l2 + nI 1) _ _ h)
def bX11_keepAll_88 (n : Nat) : Nat → Int32 → Int32 → am_I → Option (am_I)
  | 0, _, _, _ => none
  | fu + 1, l1, l2, I => (fun k88 => if (I 0 60 61) ≤ l2 then (am_lt (am_up I 0 60 61 (nI 0)) (fun I1 => some I1)) else (am_gd (am_inb l2 64) (am_gd (am_inb (((nI 640) * l1) + (I 0 123 l2.toNatClampNeg)) 2560) (am_lt (am_up I 0 68 (((nI 640) * l1) + (I 0 123 l2.toNatClampNeg)).toNatClampNeg (nI 0)) (fun I4 => am_gd (am_inb (((nI 640) * l1) + (I 0 123 l2.toNatClampNeg)) 2560) (if (I4 0 69 ((((nI 640) * l1) + (I 0 123 l2.toNatClampNeg)).toNatClampNeg)) = 0 then (am_gd (am_inb l1 4) (bX11_keepAll_153 n k88 l1 l2 (I 0 123 l2.toNatClampNeg) (I4 0 70 l1.toNatClampNeg) l1 I4)) else (am_gd (am_inb l1 4) (bX11_keepAll_153 n k88 l1 l2 (I 0 123 l2.toNatClampNeg) ((I4 0 70 l1.toNatClampNeg) - (nI 1)) l1 I4)))))))) (bX11_keepAll_88 n fu)
theorem tX11_keepAll_88 {G : am_G} (hG : am_okM G) {d : Nat} : ∀ {fu : Nat} {l1 : Int32} {l2 : Int32} {I : am_I} {r : am_I}, bX11_keepAll_88 G.2.2.2.1 fu l1 l2 I = some r → am_J G d mX11_keepAll am_no (am_E none r) 88 [some (.inr (0, 60)), some (.inl l1), some (.inl l2), none] [] I := by
  intro fu
  induction fu with
  | zero => intro l1 l2 I r h; cases h
  | succ fu ih =>
    intro l1 l2 I r h
    have hk88 : ∀ (l1 : Int32) (l2 : Int32) (I : am_I) (r : am_I), bX11_keepAll_88 G.2.2.2.1 fu l1 l2 I = some r → am_J G d mX11_keepAll am_no (am_E none r) 88 [some (.inr (0, 60)), some (.inl l1), some (.inl l2), none] [] I := fun l1 l2 I r h => ih h
    unfold bX11_keepAll_88 at h
    generalize bX11_keepAll_88 G.2.2.2.1 fu = k88 at hk88 h
    dsimp only at h
    refine am_iload_n dX11_keepAll_88 rfl ?_
    refine am_aload_n dX11_keepAll_89 rfl ?_
    refine am_get (v := .inl (I 0 60 61)) dX11_keepAll_90 fl_11_310 (hG.m0 (by decide)) rfl ?_
    refine am_icmp_ge (tgt := 173) dX11_keepAll_93 rfl (fun c => ?_) (fun c => ?_)
    · rw [if_pos c] at h
      refine am_aload_n dX11_keepAll_173 rfl ?_
      refine am_iconst (v := nI 0) dX11_keepAll_174 (by decide) ?_
      refine am_put (x := nI 0) dX11_keepAll_175 fp_11_310 (hG.m0 (by decide)) (Nat.le_of_ble_eq_true rfl) rfl ?_
      obtain ⟨I1, hI1, h⟩ := am_lt_some h
      refine am_st10 hI1 ?_
      cases h
      exact am_vret dX11_keepAll_178 rfl ⟨rfl, rfl⟩
    · rw [if_neg c] at h
      refine am_aload_n dX11_keepAll_96 rfl ?_
      refine am_get (v := .inr (0, 123)) dX11_keepAll_97 fl_11_153 (hG.m0 (by decide)) rfl ?_
      refine am_iload_n dX11_keepAll_100 rfl ?_
      obtain ⟨g2, h⟩ := am_gd_some h
      refine am_ialdG dX11_keepAll_101 (hG.m0 (by decide)) rfl g2 (show 64 < 2 ^ 31 by decide) ?_
      refine am_istore_n dX11_keepAll_102 (by decide) ?_
      refine am_aload_n dX11_keepAll_103 rfl ?_
      refine am_get (v := .inr (0, 68)) dX11_keepAll_104 fl_11_24 (hG.m0 (by decide)) rfl ?_
      refine am_sipush (v := nI 640) dX11_keepAll_107 (by decide) ?_
      refine am_iload_n dX11_keepAll_110 rfl ?_
      refine am_imul dX11_keepAll_111 ?_
      refine am_iload_n dX11_keepAll_112 rfl ?_
      refine am_iadd dX11_keepAll_113 ?_
      refine am_iconst (v := nI 0) dX11_keepAll_114 (by decide) ?_
      obtain ⟨g3, h⟩ := am_gd_some h
      refine am_zastG dX11_keepAll_115 (hG.m0 (by decide)) rfl (by decide) g3 (show 2560 < 2 ^ 31 by decide) ?_
      obtain ⟨I4, hI4, h⟩ := am_lt_some h
      refine am_st10 hI4 ?_
      refine am_aload_n dX11_keepAll_116 rfl ?_
      refine am_get (v := .inr (0, 70)) dX11_keepAll_117 fl_11_30 (hG.m0 (by decide)) rfl ?_
      refine am_iload_n dX11_keepAll_120 rfl ?_
      refine am_aload_n dX11_keepAll_121 rfl ?_
      refine am_get (v := .inr (0, 69)) dX11_keepAll_122 fl_11_27 (hG.m0 (by decide)) rfl ?_
      refine am_sipush (v := nI 640) dX11_keepAll_125 (by decide) ?_
      refine am_iload_n dX11_keepAll_128 rfl ?_
      refine am_imul dX11_keepAll_129 ?_
      refine am_iload_n dX11_keepAll_130 rfl ?_
      refine am_iadd dX11_keepAll_131 ?_
      obtain ⟨g5, h⟩ := am_gd_some h
      refine am_zaldG dX11_keepAll_132 (hG.m0 (by decide)) rfl g5 (show 2560 < 2 ^ 31 by decide) ?_
      refine am_if_eq (tgt := 147) dX11_keepAll_133 rfl (fun c => ?_) (fun c => ?_)
      · rw [if_pos c] at h
        refine am_aload_n dX11_keepAll_147 rfl ?_
        refine am_get (v := .inr (0, 70)) dX11_keepAll_148 fl_11_30 (hG.m0 (by decide)) rfl ?_
        refine am_iload_n dX11_keepAll_151 rfl ?_
        obtain ⟨g6, h⟩ := am_gd_some h
        refine am_ialdG dX11_keepAll_152 (hG.m0 (by decide)) rfl g6 (show 4 < 2 ^ 31 by decide) ?_
        exact am_lwJ (lo' := [some (.inr (0, 60)), some (.inl l1), some (.inl l2), some (.inl (I 0 123 l2.toNatClampNeg))]) ⟨rfl, rfl, rfl, rfl, trivial⟩ (tX11_keepAll_153 hG hk88 h)
      · rw [if_neg c] at h
        refine am_aload_n dX11_keepAll_136 rfl ?_
        refine am_get (v := .inr (0, 70)) dX11_keepAll_137 fl_11_30 (hG.m0 (by decide)) rfl ?_
        refine am_iload_n dX11_keepAll_140 rfl ?_
        obtain ⟨g7, h⟩ := am_gd_some h
        refine am_ialdG dX11_keepAll_141 (hG.m0 (by decide)) rfl g7 (show 4 < 2 ^ 31 by decide) ?_
        refine am_iconst (v := nI 1) dX11_keepAll_142 (by decide) ?_
        refine am_isub dX11_keepAll_143 ?_
        refine am_goto (tgt := 153) dX11_keepAll_144 rfl ?_
        exact am_lwJ (lo' := [some (.inr (0, 60)), some (.inl l1), some (.inl l2), some (.inl (I 0 123 l2.toNatClampNeg))]) ⟨rfl, rfl, rfl, rfl, trivial⟩ (tX11_keepAll_153 hG hk88 h)
def bX11_keepAll_61 (n : Nat) (k2 : Int32 → Int32 → am_I → Option (am_I)) (l1 : Int32) (l2 : Int32) (l3 : Int32) (s0 : Int32) (s1 : Int32) (I : am_I) : Option (am_I) := am_gd (am_inb s1 4) (am_lt (am_up I 0 70 s1.toNatClampNeg s0) (fun I2 => am_gd (am_inb (((nI 640) * l1) + l3) 2560) (am_lt (am_up I2 0 69 (((nI 640) * l1) + l3).toNatClampNeg (nI 1)) (fun I4 => k2 l1 (l2 + nI 1) I4))))
theorem tX11_keepAll_61 {G : am_G} (hG : am_okM G) {d : Nat} {k2 : Int32 → Int32 → am_I → Option (am_I)} (hk2 : ∀ (l1 : Int32) (l2 : Int32) (I : am_I) (r : am_I), k2 l1 l2 I = some r → am_J G d mX11_keepAll am_no (am_E none r) 2 [some (.inr (0, 60)), some (.inl l1), some (.inl l2), none] [] I) {l1 : Int32} {l2 : Int32} {l3 : Int32} {s0 : Int32} {s1 : Int32} {I : am_I} {r : am_I} (h : bX11_keepAll_61 G.2.2.2.1 k2 l1 l2 l3 s0 s1  I = some r) : am_J G d mX11_keepAll am_no (am_E none r) 61 [some (.inr (0, 60)), some (.inl l1), some (.inl l2), some (.inl l3)] [.inl s0, .inl s1, .inr (0, 70)] I := by
  unfold bX11_keepAll_61 at h
  obtain ⟨g1, h⟩ := am_gd_some h
  refine am_iastG dX11_keepAll_61 (hG.m0 (by decide)) rfl g1 (show 4 < 2 ^ 31 by decide) ?_
  obtain ⟨I2, hI2, h⟩ := am_lt_some h
  refine am_st10 hI2 ?_
  refine am_aload_n dX11_keepAll_62 rfl ?_
  refine am_get (v := .inr (0, 69)) dX11_keepAll_63 fl_11_27 (hG.m0 (by decide)) rfl ?_
  refine am_sipush (v := nI 640) dX11_keepAll_66 (by decide) ?_
  refine am_iload_n dX11_keepAll_69 rfl ?_
  refine am_imul dX11_keepAll_70 ?_
  refine am_iload_n dX11_keepAll_71 rfl ?_
  refine am_iadd dX11_keepAll_72 ?_
  refine am_iconst (v := nI 1) dX11_keepAll_73 (by decide) ?_
  obtain ⟨g3, h⟩ := am_gd_some h
  refine am_zastG dX11_keepAll_74 (hG.m0 (by decide)) rfl (by decide) g3 (show 2560 < 2 ^ 31 by decide) ?_
  obtain ⟨I4, hI4, h⟩ := am_lt_some h
  refine am_st10 hI4 ?_
  refine am_iinc (v := l2 + nI 1) dX11_keepAll_75 rfl rfl ?_
  refine am_goto (tgt := 2) dX11_keepAll_78 rfl ?_
  exact am_lwJ (lo' := [some (.inr (0, 60)), some (.inl l1), some (.inl (l2 + nI 1)), none]) ⟨rfl, rfl, rfl, trivial⟩ (hk2 l1 (l2 + nI 1) _ _ h)
def bX11_keepAll_2 (n : Nat) : Nat → Int32 → Int32 → am_I → Option (am_I)
  | 0, _, _, _ => none
  | fu + 1, l1, l2, I => (fun k2 => if (I 0 60 56) ≤ l2 then (am_lt (am_up I 0 60 56 (nI 0)) (fun I1 => bX11_keepAll_88 n am_fu l1 (nI 0) I1)) else (am_gd (am_inb l2 640) (am_gd (am_inb (I 0 118 l2.toNatClampNeg) 640) (am_lt (am_up I 0 120 (I 0 118 l2.toNatClampNeg).toNatClampNeg (nI 0)) (fun I4 => am_gd (am_inb (((nI 640) * l1) + (I 0 118 l2.toNatClampNeg)) 2560) (if (I4 0 69 ((((nI 640) * l1) + (I 0 118 l2.toNatClampNeg)).toNatClampNeg)) = 0 then (am_gd (am_inb l1 4) (bX11_keepAll_61 n k2 l1 l2 (I 0 118 l2.toNatClampNeg) ((I4 0 70 l1.toNatClampNeg) + (nI 1)) l1 I4)) else (am_gd (am_inb l1 4) (bX11_keepAll_61 n k2 l1 l2 (I 0 118 l2.toNatClampNeg) (I4 0 70 l1.toNatClampNeg) l1 I4)))))))) (bX11_keepAll_2 n fu)
theorem tX11_keepAll_2 {G : am_G} (hG : am_okM G) {d : Nat} : ∀ {fu : Nat} {l1 : Int32} {l2 : Int32} {I : am_I} {r : am_I}, bX11_keepAll_2 G.2.2.2.1 fu l1 l2 I = some r → am_J G d mX11_keepAll am_no (am_E none r) 2 [some (.inr (0, 60)), some (.inl l1), some (.inl l2), none] [] I := by
  intro fu
  induction fu with
  | zero => intro l1 l2 I r h; cases h
  | succ fu ih =>
    intro l1 l2 I r h
    have hk2 : ∀ (l1 : Int32) (l2 : Int32) (I : am_I) (r : am_I), bX11_keepAll_2 G.2.2.2.1 fu l1 l2 I = some r → am_J G d mX11_keepAll am_no (am_E none r) 2 [some (.inr (0, 60)), some (.inl l1), some (.inl l2), none] [] I := fun l1 l2 I r h => ih h
    unfold bX11_keepAll_2 at h
    generalize bX11_keepAll_2 G.2.2.2.1 fu = k2 at hk2 h
    dsimp only at h
    refine am_iload_n dX11_keepAll_2 rfl ?_
    refine am_aload_n dX11_keepAll_3 rfl ?_
    refine am_get (v := .inl (I 0 60 56)) dX11_keepAll_4 fl_11_307 (hG.m0 (by decide)) rfl ?_
    refine am_icmp_ge (tgt := 81) dX11_keepAll_7 rfl (fun c => ?_) (fun c => ?_)
    · rw [if_pos c] at h
      refine am_aload_n dX11_keepAll_81 rfl ?_
      refine am_iconst (v := nI 0) dX11_keepAll_82 (by decide) ?_
      refine am_put (x := nI 0) dX11_keepAll_83 fp_11_307 (hG.m0 (by decide)) (Nat.le_of_ble_eq_true rfl) rfl ?_
      obtain ⟨I1, hI1, h⟩ := am_lt_some h
      refine am_st10 hI1 ?_
      refine am_iconst (v := nI 0) dX11_keepAll_86 (by decide) ?_
      refine am_istore_n dX11_keepAll_87 (by decide) ?_
      exact am_lwJ (lo' := [some (.inr (0, 60)), some (.inl l1), some (.inl (nI 0)), none]) ⟨rfl, rfl, rfl, trivial⟩ (tX11_keepAll_88 hG h)
    · rw [if_neg c] at h
      refine am_aload_n dX11_keepAll_10 rfl ?_
      refine am_get (v := .inr (0, 118)) dX11_keepAll_11 fl_11_141 (hG.m0 (by decide)) rfl ?_
      refine am_iload_n dX11_keepAll_14 rfl ?_
      obtain ⟨g2, h⟩ := am_gd_some h
      refine am_ialdG dX11_keepAll_15 (hG.m0 (by decide)) rfl g2 (show 640 < 2 ^ 31 by decide) ?_
      refine am_istore_n dX11_keepAll_16 (by decide) ?_
      refine am_aload_n dX11_keepAll_17 rfl ?_
      refine am_get (v := .inr (0, 120)) dX11_keepAll_18 fl_11_147 (hG.m0 (by decide)) rfl ?_
      refine am_iload_n dX11_keepAll_21 rfl ?_
      refine am_iconst (v := nI 0) dX11_keepAll_22 (by decide) ?_
      obtain ⟨g3, h⟩ := am_gd_some h
      refine am_zastG dX11_keepAll_23 (hG.m0 (by decide)) rfl (by decide) g3 (show 640 < 2 ^ 31 by decide) ?_
      obtain ⟨I4, hI4, h⟩ := am_lt_some h
      refine am_st10 hI4 ?_
      refine am_aload_n dX11_keepAll_24 rfl ?_
      refine am_get (v := .inr (0, 70)) dX11_keepAll_25 fl_11_30 (hG.m0 (by decide)) rfl ?_
      refine am_iload_n dX11_keepAll_28 rfl ?_
      refine am_aload_n dX11_keepAll_29 rfl ?_
      refine am_get (v := .inr (0, 69)) dX11_keepAll_30 fl_11_27 (hG.m0 (by decide)) rfl ?_
      refine am_sipush (v := nI 640) dX11_keepAll_33 (by decide) ?_
      refine am_iload_n dX11_keepAll_36 rfl ?_
      refine am_imul dX11_keepAll_37 ?_
      refine am_iload_n dX11_keepAll_38 rfl ?_
      refine am_iadd dX11_keepAll_39 ?_
      obtain ⟨g5, h⟩ := am_gd_some h
      refine am_zaldG dX11_keepAll_40 (hG.m0 (by decide)) rfl g5 (show 2560 < 2 ^ 31 by decide) ?_
      refine am_if_eq (tgt := 53) dX11_keepAll_41 rfl (fun c => ?_) (fun c => ?_)
      · rw [if_pos c] at h
        refine am_aload_n dX11_keepAll_53 rfl ?_
        refine am_get (v := .inr (0, 70)) dX11_keepAll_54 fl_11_30 (hG.m0 (by decide)) rfl ?_
        refine am_iload_n dX11_keepAll_57 rfl ?_
        obtain ⟨g6, h⟩ := am_gd_some h
        refine am_ialdG dX11_keepAll_58 (hG.m0 (by decide)) rfl g6 (show 4 < 2 ^ 31 by decide) ?_
        refine am_iconst (v := nI 1) dX11_keepAll_59 (by decide) ?_
        refine am_iadd dX11_keepAll_60 ?_
        exact am_lwJ (lo' := [some (.inr (0, 60)), some (.inl l1), some (.inl l2), some (.inl (I 0 118 l2.toNatClampNeg))]) ⟨rfl, rfl, rfl, rfl, trivial⟩ (tX11_keepAll_61 hG hk2 h)
      · rw [if_neg c] at h
        refine am_aload_n dX11_keepAll_44 rfl ?_
        refine am_get (v := .inr (0, 70)) dX11_keepAll_45 fl_11_30 (hG.m0 (by decide)) rfl ?_
        refine am_iload_n dX11_keepAll_48 rfl ?_
        obtain ⟨g7, h⟩ := am_gd_some h
        refine am_ialdG dX11_keepAll_49 (hG.m0 (by decide)) rfl g7 (show 4 < 2 ^ 31 by decide) ?_
        refine am_goto (tgt := 61) dX11_keepAll_50 rfl ?_
        exact am_lwJ (lo' := [some (.inr (0, 60)), some (.inl l1), some (.inl l2), some (.inl (I 0 118 l2.toNatClampNeg))]) ⟨rfl, rfl, rfl, rfl, trivial⟩ (tX11_keepAll_61 hG hk2 h)
def bX11_keepAll_0 (n : Nat) (l1 : Int32) (I : am_I) : Option (am_I) := bX11_keepAll_2 n am_fu l1 (nI 0) I
theorem tX11_keepAll_0 {G : am_G} (hG : am_okM G) {d : Nat} {l1 : Int32} {I : am_I} {r : am_I} (h : bX11_keepAll_0 G.2.2.2.1 l1  I = some r) : am_J G d mX11_keepAll am_no (am_E none r) 0 [some (.inr (0, 60)), some (.inl l1), none, none] [] I := by
  unfold bX11_keepAll_0 at h
  refine am_iconst (v := nI 0) dX11_keepAll_0 (by decide) ?_
  refine am_istore_n dX11_keepAll_1 (by decide) ?_
  exact am_lwJ (lo' := [some (.inr (0, 60)), some (.inl l1), some (.inl (nI 0)), none]) ⟨rfl, rfl, rfl, trivial⟩ (tX11_keepAll_2 hG h)
def gX11_keepAll (n : Nat) (l1 : Int32) (I : am_I) : Option (am_I) := bX11_keepAll_0 n l1 I
theorem sX11_keepAll {G : am_G} (hG : am_okM G) {d : Nat} {l1 : Int32} {I : am_I} {r : am_I} (h : gX11_keepAll G.2.2.2.1 l1 I = some r) : am_C G d mX11_keepAll [.inr (0, 60), .inl l1] I (am_E none r) :=
  am_of (by decide +kernel) hG.nd (Nat.le_of_ble_eq_true rfl) (am_lwJ (lo' := [some (.inr (0, 60)), some (.inl l1), none, none]) ⟨rfl, rfl, trivial⟩ (tX11_keepAll_0 hG h))
def bX11_isTriedAgain_327 (n : Nat) (l1 : Int32) (s0 : Int32) (s1 : Int32) (s2 : Int32) (s3 : Int32) (I : am_I) : Option (Int32 × am_I) := (gX11_note n s3 s2 s1 s0 I).bind (fun q1 => (gX11_end n l1 (nI 2) (q1 0 60 55) q1).bind (fun q2 => some (nI 0, q2)))
theorem tX11_isTriedAgain_327 {G : am_G} (hG : am_okM G) {d : Nat} {l1 : Int32} {s0 : Int32} {s1 : Int32} {s2 : Int32} {s3 : Int32} {I : am_I} {r : Int32 × am_I} (h : bX11_isTriedAgain_327 G.2.2.2.1 l1 s0 s1 s2 s3  I = some r) : am_J G (d + 9) mX11_isTriedAgain am_no (am_E (some r.1) r.2) 327 [some (.inr (0, 60)), some (.inl l1), none, none] [.inl s0, .inl s1, .inl s2, .inl s3, .inr (0, 60)] I := by
  unfold bX11_isTriedAgain_327 at h
  obtain ⟨q1, hq1, h⟩ := am_bd h
  refine am_callVe (i := 0) (j := 60) (as := [.inl s3, .inl s2, .inl s1, .inl s0]) (rest := []) dX11_isTriedAgain_327 lkX11_note ml_X11_286 imX11_note seX11_note rfl rfl (hG.m0 (by decide)) rfl (Nat.le_of_ble_eq_true rfl) rfl (sX11_note hG hq1) ?_
  refine am_aload_n dX11_isTriedAgain_330 rfl ?_
  refine am_iload_n dX11_isTriedAgain_331 rfl ?_
  refine am_iconst (v := nI 2) dX11_isTriedAgain_332 (by decide) ?_
  refine am_aload_n dX11_isTriedAgain_333 rfl ?_
  refine am_get (v := .inl (q1 0 60 55)) dX11_isTriedAgain_334 fl_11_316 (hG.m0 (by decide)) rfl ?_
  obtain ⟨q2, hq2, h⟩ := am_bd h
  refine am_callVe (i := 0) (j := 60) (as := [.inl l1, .inl (nI 2), .inl (q1 0 60 55)]) (rest := []) dX11_isTriedAgain_337 lkX11_end ml_X11_289 imX11_end seX11_end rfl rfl (hG.m0 (by decide)) rfl (Nat.le_of_ble_eq_true rfl) rfl (sX11_end hG hq2) ?_
  refine am_iconst (v := nI 0) dX11_isTriedAgain_340 (by decide) ?_
  cases h
  exact am_iret dX11_isTriedAgain_341 rfl (am_nz (by decide)).1 ⟨rfl, rfl⟩
def bX11_isTriedAgain_305 (n : Nat) (l1 : Int32) (s0 : Int32) (I : am_I) : Option (Int32 × am_I) := (gX11_keepAll n l1 I).bind (fun q1 => if s0 = 0 then (bX11_isTriedAgain_327 n l1 (nI 0) (q1 0 60 55) (nI 2) l1 q1) else (bX11_isTriedAgain_327 n l1 (nI 1) (q1 0 60 55) (nI 2) l1 q1))
theorem tX11_isTriedAgain_305 {G : am_G} (hG : am_okM G) {d : Nat} {l1 : Int32} {s0 : Int32} {I : am_I} {r : Int32 × am_I} (h : bX11_isTriedAgain_305 G.2.2.2.1 l1 s0  I = some r) : am_J G (d + 9) mX11_isTriedAgain am_no (am_E (some r.1) r.2) 305 [some (.inr (0, 60)), some (.inl l1), none, none] [.inl s0] I := by
  unfold bX11_isTriedAgain_305 at h
  refine am_istore_n dX11_isTriedAgain_305 (by decide) ?_
  refine am_aload_n dX11_isTriedAgain_306 rfl ?_
  refine am_iload_n dX11_isTriedAgain_307 rfl ?_
  obtain ⟨q1, hq1, h⟩ := am_bd h
  refine am_callVe (i := 0) (j := 60) (as := [.inl l1]) (rest := []) dX11_isTriedAgain_308 lkX11_keepAll ml_X11_313 imX11_keepAll seX11_keepAll rfl rfl (hG.m0 (by decide)) rfl (Nat.le_of_ble_eq_true rfl) rfl (sX11_keepAll hG hq1) ?_
  refine am_aload_n dX11_isTriedAgain_311 rfl ?_
  refine am_iload_n dX11_isTriedAgain_312 rfl ?_
  refine am_iconst (v := nI 2) dX11_isTriedAgain_313 (by decide) ?_
  refine am_aload_n dX11_isTriedAgain_314 rfl ?_
  refine am_get (v := .inl (q1 0 60 55)) dX11_isTriedAgain_315 fl_11_316 (hG.m0 (by decide)) rfl ?_
  refine am_iload_n dX11_isTriedAgain_318 rfl ?_
  refine am_if_eq (tgt := 326) dX11_isTriedAgain_319 rfl (fun c => ?_) (fun c => ?_)
  · rw [if_pos c] at h
    refine am_iconst (v := nI 0) dX11_isTriedAgain_326 (by decide) ?_
    exact am_lwJ (lo' := [some (.inr (0, 60)), some (.inl l1), none, none]) ⟨rfl, rfl, trivial⟩ (tX11_isTriedAgain_327 hG h)
  · rw [if_neg c] at h
    refine am_iconst (v := nI 1) dX11_isTriedAgain_322 (by decide) ?_
    refine am_goto (tgt := 327) dX11_isTriedAgain_323 rfl ?_
    exact am_lwJ (lo' := [some (.inr (0, 60)), some (.inl l1), none, none]) ⟨rfl, rfl, trivial⟩ (tX11_isTriedAgain_327 hG h)
def bX11_isTriedAgain_292 (n : Nat) (s0 : Int32) (I : am_I) : Option (Int32 × am_I) := am_gd (am_01 s0) (some (s0, I))
theorem tX11_isTriedAgain_292 {G : am_G} (hG : am_okM G) {d : Nat} {s0 : Int32} {I : am_I} {r : Int32 × am_I} (h : bX11_isTriedAgain_292 G.2.2.2.1 s0  I = some r) : am_J G (d + 9) mX11_isTriedAgain am_no (am_E (some r.1) r.2) 292 [none, none, none, none] [.inl s0] I := by
  unfold bX11_isTriedAgain_292 at h
  obtain ⟨g1, h⟩ := am_gd_some h
  cases h
  exact am_iret dX11_isTriedAgain_292 rfl (am_nz (am_01_of g1)).1 ⟨rfl, rfl⟩
def bX11_isTriedAgain_278 (n : Nat) (l1 : Int32) (I : am_I) : Option (Int32 × am_I) := am_gd (am_inb l1 4) (if (I 0 72 l1.toNatClampNeg) = 0 then (bX11_isTriedAgain_292 n (nI 1) I) else (bX11_isTriedAgain_292 n (nI 0) I))
theorem tX11_isTriedAgain_278 {G : am_G} (hG : am_okM G) {d : Nat} {l1 : Int32} {I : am_I} {r : Int32 × am_I} (h : bX11_isTriedAgain_278 G.2.2.2.1 l1  I = some r) : am_J G (d + 9) mX11_isTriedAgain am_no (am_E (some r.1) r.2) 278 [some (.inr (0, 60)), some (.inl l1), none, none] [] I := by
  unfold bX11_isTriedAgain_278 at h
  refine am_aload_n dX11_isTriedAgain_278 rfl ?_
  refine am_get (v := .inr (0, 72)) dX11_isTriedAgain_279 fl_11_36 (hG.m0 (by decide)) rfl ?_
  refine am_iload_n dX11_isTriedAgain_282 rfl ?_
  obtain ⟨g1, h⟩ := am_gd_some h
  refine am_ialdG dX11_isTriedAgain_283 (hG.m0 (by decide)) rfl g1 (show 4 < 2 ^ 31 by decide) ?_
  refine am_if_ne (tgt := 291) dX11_isTriedAgain_284 rfl (fun c => ?_) (fun c => ?_)
  · rw [if_neg c] at h
    refine am_iconst (v := nI 0) dX11_isTriedAgain_291 (by decide) ?_
    exact am_lwJ (lo' := [none, none, none, none]) trivial (tX11_isTriedAgain_292 hG h)
  · rw [if_pos c] at h
    refine am_iconst (v := nI 1) dX11_isTriedAgain_287 (by decide) ?_
    refine am_goto (tgt := 292) dX11_isTriedAgain_288 rfl ?_
    exact am_lwJ (lo' := [none, none, none, none]) trivial (tX11_isTriedAgain_292 hG h)
def bX11_isTriedAgain_226 (n : Nat) (k177 : Int32 → Int32 → Int32 → am_I → Option (Int32 × am_I)) (l1 : Int32) (l3 : Int32) (s0 : Int32) (I : am_I) : Option (Int32 × am_I) := k177 l1 s0 (l3 + nI 1) I
theorem tX11_isTriedAgain_226 {G : am_G} (hG : am_okM G) {d : Nat} {k177 : Int32 → Int32 → Int32 → am_I → Option (Int32 × am_I)} (hk177 : ∀ (l1 : Int32) (l2 : Int32) (l3 : Int32) (I : am_I) (r : Int32 × am_I), k177 l1 l2 l3 I = some r → am_J G (d + 9) mX11_isTriedAgain am_no (am_E (some r.1) r.2) 177 [some (.inr (0, 60)), some (.inl l1), some (.inl l2), some (.inl l3)] [] I) {l1 : Int32} {l3 : Int32} {s0 : Int32} {I : am_I} {r : Int32 × am_I} (h : bX11_isTriedAgain_226 G.2.2.2.1 k177 l1 l3 s0  I = some r) : am_J G (d + 9) mX11_isTriedAgain am_no (am_E (some r.1) r.2) 226 [some (.inr (0, 60)), some (.inl l1), none, some (.inl l3)] [.inl s0] I := by
  unfold bX11_isTriedAgain_226 at h
  refine am_istore_n dX11_isTriedAgain_226 (by decide) ?_
  refine am_iinc (v := l3 + nI 1) dX11_isTriedAgain_227 rfl rfl ?_
  refine am_goto (tgt := 177) dX11_isTriedAgain_230 rfl ?_
  exact am_lwJ (lo' := [some (.inr (0, 60)), some (.inl l1), some (.inl s0), some (.inl (l3 + nI 1))]) ⟨rfl, rfl, rfl, rfl, trivial⟩ (hk177 l1 s0 (l3 + nI 1) _ _ h)
def bX11_isTriedAgain_219 (n : Nat) (k177 : Int32 → Int32 → Int32 → am_I → Option (Int32 × am_I)) (l1 : Int32) (l2 : Int32) (l3 : Int32) (I : am_I) : Option (Int32 × am_I) := bX11_isTriedAgain_226 n k177 l1 l3 (l2 - (nI 1)) I
theorem tX11_isTriedAgain_219 {G : am_G} (hG : am_okM G) {d : Nat} {k177 : Int32 → Int32 → Int32 → am_I → Option (Int32 × am_I)} (hk177 : ∀ (l1 : Int32) (l2 : Int32) (l3 : Int32) (I : am_I) (r : Int32 × am_I), k177 l1 l2 l3 I = some r → am_J G (d + 9) mX11_isTriedAgain am_no (am_E (some r.1) r.2) 177 [some (.inr (0, 60)), some (.inl l1), some (.inl l2), some (.inl l3)] [] I) {l1 : Int32} {l2 : Int32} {l3 : Int32} {I : am_I} {r : Int32 × am_I} (h : bX11_isTriedAgain_219 G.2.2.2.1 k177 l1 l2 l3  I = some r) : am_J G (d + 9) mX11_isTriedAgain am_no (am_E (some r.1) r.2) 219 [some (.inr (0, 60)), some (.inl l1), some (.inl l2), some (.inl l3)] [] I := by
  unfold bX11_isTriedAgain_219 at h
  refine am_iload_n dX11_isTriedAgain_219 rfl ?_
  refine am_iconst (v := nI 1) dX11_isTriedAgain_220 (by decide) ?_
  refine am_isub dX11_isTriedAgain_221 ?_
  refine am_goto (tgt := 226) dX11_isTriedAgain_222 rfl ?_
  exact am_lwJ (lo' := [some (.inr (0, 60)), some (.inl l1), none, some (.inl l3)]) ⟨rfl, rfl, rfl, trivial⟩ (tX11_isTriedAgain_226 hG hk177 h)
def bX11_isTriedAgain_177 (n : Nat) : Nat → Int32 → Int32 → Int32 → am_I → Option (Int32 × am_I)
  | 0, _, _, _, _ => none
  | fu + 1, l1, l2, l3, I => (fun k177 => if (I 0 60 61) ≤ l3 then (if l2 ≤ (nI 16) then (if (I 0 60 56) ≤ 0 then (bX11_isTriedAgain_305 n l1 (nI 0) I) else (bX11_isTriedAgain_305 n l1 (nI 1) I)) else ((gX11_undo n I).bind (fun q1 => (gX11_unpin n l1 q1).bind (fun q2 => am_gd (am_inb l1 4) (am_lt (am_up q2 0 93 l1.toNatClampNeg (nI 1)) (fun I4 => am_gd (am_inb l1 4) (if (I4 0 72 l1.toNatClampNeg) = 0 then (am_gd (am_inb l1 4) (if (I4 0 70 l1.toNatClampNeg) ≤ 0 then (bX11_isTriedAgain_278 n l1 I4) else ((gX11_beginFlush n l1 I4).bind (fun q7 => bX11_isTriedAgain_278 n l1 q7)))) else (bX11_isTriedAgain_278 n l1 I4)))))))) else (am_gd (am_inb l3 64) (am_gd (am_inb (((nI 640) * l1) + (I 0 123 l3.toNatClampNeg)) 2560) (if (I 0 69 ((((nI 640) * l1) + (I 0 123 l3.toNatClampNeg)).toNatClampNeg)) = 0 then (am_gd (am_inb l3 64) (am_gd (am_inb (I 0 123 l3.toNatClampNeg) 640) (if (I 0 120 ((I 0 123 l3.toNatClampNeg).toNatClampNeg)) = 0 then (bX11_isTriedAgain_226 n k177 l1 l3 l2 I) else (bX11_isTriedAgain_219 n k177 l1 l2 l3 I)))) else (bX11_isTriedAgain_219 n k177 l1 l2 l3 I))))) (bX11_isTriedAgain_177 n fu)
theorem tX11_isTriedAgain_177 {G : am_G} (hG : am_okM G) {d : Nat} : ∀ {fu : Nat} {l1 : Int32} {l2 : Int32} {l3 : Int32} {I : am_I} {r : Int32 × am_I}, bX11_isTriedAgain_177 G.2.2.2.1 fu l1 l2 l3 I = some r → am_J G (d + 9) mX11_isTriedAgain am_no (am_E (some r.1) r.2) 177 [some (.inr (0, 60)), some (.inl l1), some (.inl l2), some (.inl l3)] [] I := by
  intro fu
  induction fu with
  | zero => intro l1 l2 l3 I r h; cases h
  | succ fu ih =>
    intro l1 l2 l3 I r h
    have hk177 : ∀ (l1 : Int32) (l2 : Int32) (l3 : Int32) (I : am_I) (r : Int32 × am_I), bX11_isTriedAgain_177 G.2.2.2.1 fu l1 l2 l3 I = some r → am_J G (d + 9) mX11_isTriedAgain am_no (am_E (some r.1) r.2) 177 [some (.inr (0, 60)), some (.inl l1), some (.inl l2), some (.inl l3)] [] I := fun l1 l2 l3 I r h => ih h
    unfold bX11_isTriedAgain_177 at h
    generalize bX11_isTriedAgain_177 G.2.2.2.1 fu = k177 at hk177 h
    dsimp only at h
    refine am_iload_n dX11_isTriedAgain_177 rfl ?_
    refine am_aload_n dX11_isTriedAgain_178 rfl ?_
    refine am_get (v := .inl (I 0 60 61)) dX11_isTriedAgain_179 fl_11_310 (hG.m0 (by decide)) rfl ?_
    refine am_icmp_ge (tgt := 233) dX11_isTriedAgain_182 rfl (fun c => ?_) (fun c => ?_)
    · rw [if_pos c] at h
      refine am_iload_n dX11_isTriedAgain_233 rfl ?_
      refine am_bipush (v := nI 16) dX11_isTriedAgain_234 (by decide) ?_
      refine am_icmp_le (tgt := 293) dX11_isTriedAgain_236 rfl (fun c => ?_) (fun c => ?_)
      · rw [if_pos c] at h
        refine am_aload_n dX11_isTriedAgain_293 rfl ?_
        refine am_get (v := .inl (I 0 60 56)) dX11_isTriedAgain_294 fl_11_307 (hG.m0 (by decide)) rfl ?_
        refine am_if_le (tgt := 304) dX11_isTriedAgain_297 rfl (fun c => ?_) (fun c => ?_)
        · rw [if_pos c] at h
          refine am_iconst (v := nI 0) dX11_isTriedAgain_304 (by decide) ?_
          exact am_lwJ (lo' := [some (.inr (0, 60)), some (.inl l1), none, none]) ⟨rfl, rfl, trivial⟩ (tX11_isTriedAgain_305 hG h)
        · rw [if_neg c] at h
          refine am_iconst (v := nI 1) dX11_isTriedAgain_300 (by decide) ?_
          refine am_goto (tgt := 305) dX11_isTriedAgain_301 rfl ?_
          exact am_lwJ (lo' := [some (.inr (0, 60)), some (.inl l1), none, none]) ⟨rfl, rfl, trivial⟩ (tX11_isTriedAgain_305 hG h)
      · rw [if_neg c] at h
        refine am_aload_n dX11_isTriedAgain_239 rfl ?_
        obtain ⟨q1, hq1, h⟩ := am_bd h
        refine am_callVe (i := 0) (j := 60) (as := []) (rest := []) dX11_isTriedAgain_240 lkX11_undo ml_X11_298 imX11_undo seX11_undo rfl rfl (hG.m0 (by decide)) rfl (Nat.le_of_ble_eq_true rfl) rfl (sX11_undo hG hq1) ?_
        refine am_aload_n dX11_isTriedAgain_243 rfl ?_
        refine am_iload_n dX11_isTriedAgain_244 rfl ?_
        obtain ⟨q2, hq2, h⟩ := am_bd h
        refine am_callVe (i := 0) (j := 60) (as := [.inl l1]) (rest := []) dX11_isTriedAgain_245 lkX11_unpin ml_X11_271 imX11_unpin seX11_unpin rfl rfl (hG.m0 (by decide)) rfl (Nat.le_of_ble_eq_true rfl) rfl (sX11_unpin hG hq2) ?_
        refine am_aload_n dX11_isTriedAgain_248 rfl ?_
        refine am_get (v := .inr (0, 93)) dX11_isTriedAgain_249 fl_11_99 (hG.m0 (by decide)) rfl ?_
        refine am_iload_n dX11_isTriedAgain_252 rfl ?_
        refine am_iconst (v := nI 1) dX11_isTriedAgain_253 (by decide) ?_
        obtain ⟨g3, h⟩ := am_gd_some h
        refine am_zastG dX11_isTriedAgain_254 (hG.m0 (by decide)) rfl (by decide) g3 (show 4 < 2 ^ 31 by decide) ?_
        obtain ⟨I4, hI4, h⟩ := am_lt_some h
        refine am_st10 hI4 ?_
        refine am_aload_n dX11_isTriedAgain_255 rfl ?_
        refine am_get (v := .inr (0, 72)) dX11_isTriedAgain_256 fl_11_36 (hG.m0 (by decide)) rfl ?_
        refine am_iload_n dX11_isTriedAgain_259 rfl ?_
        obtain ⟨g5, h⟩ := am_gd_some h
        refine am_ialdG dX11_isTriedAgain_260 (hG.m0 (by decide)) rfl g5 (show 4 < 2 ^ 31 by decide) ?_
        refine am_if_ne (tgt := 278) dX11_isTriedAgain_261 rfl (fun c => ?_) (fun c => ?_)
        · rw [if_neg c] at h
          exact am_lwJ (lo' := [some (.inr (0, 60)), some (.inl l1), none, none]) ⟨rfl, rfl, trivial⟩ (tX11_isTriedAgain_278 hG h)
        · rw [if_pos c] at h
          refine am_aload_n dX11_isTriedAgain_264 rfl ?_
          refine am_get (v := .inr (0, 70)) dX11_isTriedAgain_265 fl_11_30 (hG.m0 (by decide)) rfl ?_
          refine am_iload_n dX11_isTriedAgain_268 rfl ?_
          obtain ⟨g6, h⟩ := am_gd_some h
          refine am_ialdG dX11_isTriedAgain_269 (hG.m0 (by decide)) rfl g6 (show 4 < 2 ^ 31 by decide) ?_
          refine am_if_le (tgt := 278) dX11_isTriedAgain_270 rfl (fun c => ?_) (fun c => ?_)
          · rw [if_pos c] at h
            exact am_lwJ (lo' := [some (.inr (0, 60)), some (.inl l1), none, none]) ⟨rfl, rfl, trivial⟩ (tX11_isTriedAgain_278 hG h)
          · rw [if_neg c] at h
            refine am_aload_n dX11_isTriedAgain_273 rfl ?_
            refine am_iload_n dX11_isTriedAgain_274 rfl ?_
            obtain ⟨q7, hq7, h⟩ := am_bd h
            refine am_callVe (i := 0) (j := 60) (as := [.inl l1]) (rest := []) dX11_isTriedAgain_275 lkX11_beginFlush ml_X11_237 imX11_beginFlush seX11_beginFlush rfl rfl (hG.m0 (by decide)) rfl (Nat.le_of_ble_eq_true rfl) rfl (sX11_beginFlush hG hq7) ?_
            exact am_lwJ (lo' := [some (.inr (0, 60)), some (.inl l1), none, none]) ⟨rfl, rfl, trivial⟩ (tX11_isTriedAgain_278 hG h)
    · rw [if_neg c] at h
      refine am_aload_n dX11_isTriedAgain_185 rfl ?_
      refine am_get (v := .inr (0, 69)) dX11_isTriedAgain_186 fl_11_27 (hG.m0 (by decide)) rfl ?_
      refine am_sipush (v := nI 640) dX11_isTriedAgain_189 (by decide) ?_
      refine am_iload_n dX11_isTriedAgain_192 rfl ?_
      refine am_imul dX11_isTriedAgain_193 ?_
      refine am_aload_n dX11_isTriedAgain_194 rfl ?_
      refine am_get (v := .inr (0, 123)) dX11_isTriedAgain_195 fl_11_153 (hG.m0 (by decide)) rfl ?_
      refine am_iload_n dX11_isTriedAgain_198 rfl ?_
      obtain ⟨g8, h⟩ := am_gd_some h
      refine am_ialdG dX11_isTriedAgain_199 (hG.m0 (by decide)) rfl g8 (show 64 < 2 ^ 31 by decide) ?_
      refine am_iadd dX11_isTriedAgain_200 ?_
      obtain ⟨g9, h⟩ := am_gd_some h
      refine am_zaldG dX11_isTriedAgain_201 (hG.m0 (by decide)) rfl g9 (show 2560 < 2 ^ 31 by decide) ?_
      refine am_if_ne (tgt := 219) dX11_isTriedAgain_202 rfl (fun c => ?_) (fun c => ?_)
      · rw [if_neg c] at h
        exact am_lwJ (lo' := [some (.inr (0, 60)), some (.inl l1), some (.inl l2), some (.inl l3)]) ⟨rfl, rfl, rfl, rfl, trivial⟩ (tX11_isTriedAgain_219 hG hk177 h)
      · rw [if_pos c] at h
        refine am_aload_n dX11_isTriedAgain_205 rfl ?_
        refine am_get (v := .inr (0, 120)) dX11_isTriedAgain_206 fl_11_147 (hG.m0 (by decide)) rfl ?_
        refine am_aload_n dX11_isTriedAgain_209 rfl ?_
        refine am_get (v := .inr (0, 123)) dX11_isTriedAgain_210 fl_11_153 (hG.m0 (by decide)) rfl ?_
        refine am_iload_n dX11_isTriedAgain_213 rfl ?_
        obtain ⟨g10, h⟩ := am_gd_some h
        refine am_ialdG dX11_isTriedAgain_214 (hG.m0 (by decide)) rfl g10 (show 64 < 2 ^ 31 by decide) ?_
        obtain ⟨g11, h⟩ := am_gd_some h
        refine am_zaldG dX11_isTriedAgain_215 (hG.m0 (by decide)) rfl g11 (show 640 < 2 ^ 31 by decide) ?_
        refine am_if_eq (tgt := 225) dX11_isTriedAgain_216 rfl (fun c => ?_) (fun c => ?_)
        · rw [if_pos c] at h
          refine am_iload_n dX11_isTriedAgain_225 rfl ?_
          exact am_lwJ (lo' := [some (.inr (0, 60)), some (.inl l1), none, some (.inl l3)]) ⟨rfl, rfl, rfl, trivial⟩ (tX11_isTriedAgain_226 hG hk177 h)
        · rw [if_neg c] at h
          exact am_lwJ (lo' := [some (.inr (0, 60)), some (.inl l1), some (.inl l2), some (.inl l3)]) ⟨rfl, rfl, rfl, rfl, trivial⟩ (tX11_isTriedAgain_219 hG hk177 h)
def bX11_isTriedAgain_168 (n : Nat) (k133 : Int32 → Int32 → Int32 → am_I → Option (Int32 × am_I)) (l1 : Int32) (l3 : Int32) (s0 : Int32) (I : am_I) : Option (Int32 × am_I) := k133 l1 s0 (l3 + nI 1) I
theorem tX11_isTriedAgain_168 {G : am_G} (hG : am_okM G) {d : Nat} {k133 : Int32 → Int32 → Int32 → am_I → Option (Int32 × am_I)} (hk133 : ∀ (l1 : Int32) (l2 : Int32) (l3 : Int32) (I : am_I) (r : Int32 × am_I), k133 l1 l2 l3 I = some r → am_J G (d + 9) mX11_isTriedAgain am_no (am_E (some r.1) r.2) 133 [some (.inr (0, 60)), some (.inl l1), some (.inl l2), some (.inl l3)] [] I) {l1 : Int32} {l3 : Int32} {s0 : Int32} {I : am_I} {r : Int32 × am_I} (h : bX11_isTriedAgain_168 G.2.2.2.1 k133 l1 l3 s0  I = some r) : am_J G (d + 9) mX11_isTriedAgain am_no (am_E (some r.1) r.2) 168 [some (.inr (0, 60)), some (.inl l1), none, some (.inl l3)] [.inl s0] I := by
  unfold bX11_isTriedAgain_168 at h
  refine am_istore_n dX11_isTriedAgain_168 (by decide) ?_
  refine am_iinc (v := l3 + nI 1) dX11_isTriedAgain_169 rfl rfl ?_
  refine am_goto (tgt := 133) dX11_isTriedAgain_172 rfl ?_
  exact am_lwJ (lo' := [some (.inr (0, 60)), some (.inl l1), some (.inl s0), some (.inl (l3 + nI 1))]) ⟨rfl, rfl, rfl, rfl, trivial⟩ (hk133 l1 s0 (l3 + nI 1) _ _ h)
def bX11_isTriedAgain_133 (n : Nat) : Nat → Int32 → Int32 → Int32 → am_I → Option (Int32 × am_I)
  | 0, _, _, _, _ => none
  | fu + 1, l1, l2, l3, I => (fun k133 => if (I 0 60 56) ≤ l3 then (bX11_isTriedAgain_177 n am_fu l1 l2 (nI 0) I) else (am_gd (am_inb l3 640) (am_gd (am_inb (((nI 640) * l1) + (I 0 118 l3.toNatClampNeg)) 2560) (if (I 0 69 ((((nI 640) * l1) + (I 0 118 l3.toNatClampNeg)).toNatClampNeg)) = 0 then (bX11_isTriedAgain_168 n k133 l1 l3 (l2 + (nI 1)) I) else (bX11_isTriedAgain_168 n k133 l1 l3 l2 I))))) (bX11_isTriedAgain_133 n fu)
theorem tX11_isTriedAgain_133 {G : am_G} (hG : am_okM G) {d : Nat} : ∀ {fu : Nat} {l1 : Int32} {l2 : Int32} {l3 : Int32} {I : am_I} {r : Int32 × am_I}, bX11_isTriedAgain_133 G.2.2.2.1 fu l1 l2 l3 I = some r → am_J G (d + 9) mX11_isTriedAgain am_no (am_E (some r.1) r.2) 133 [some (.inr (0, 60)), some (.inl l1), some (.inl l2), some (.inl l3)] [] I := by
  intro fu
  induction fu with
  | zero => intro l1 l2 l3 I r h; cases h
  | succ fu ih =>
    intro l1 l2 l3 I r h
    have hk133 : ∀ (l1 : Int32) (l2 : Int32) (l3 : Int32) (I : am_I) (r : Int32 × am_I), bX11_isTriedAgain_133 G.2.2.2.1 fu l1 l2 l3 I = some r → am_J G (d + 9) mX11_isTriedAgain am_no (am_E (some r.1) r.2) 133 [some (.inr (0, 60)), some (.inl l1), some (.inl l2), some (.inl l3)] [] I := fun l1 l2 l3 I r h => ih h
    unfold bX11_isTriedAgain_133 at h
    generalize bX11_isTriedAgain_133 G.2.2.2.1 fu = k133 at hk133 h
    dsimp only at h
    refine am_iload_n dX11_isTriedAgain_133 rfl ?_
    refine am_aload_n dX11_isTriedAgain_134 rfl ?_
    refine am_get (v := .inl (I 0 60 56)) dX11_isTriedAgain_135 fl_11_307 (hG.m0 (by decide)) rfl ?_
    refine am_icmp_ge (tgt := 175) dX11_isTriedAgain_138 rfl (fun c => ?_) (fun c => ?_)
    · rw [if_pos c] at h
      refine am_iconst (v := nI 0) dX11_isTriedAgain_175 (by decide) ?_
      refine am_istore_n dX11_isTriedAgain_176 (by decide) ?_
      exact am_lwJ (lo' := [some (.inr (0, 60)), some (.inl l1), some (.inl l2), some (.inl (nI 0))]) ⟨rfl, rfl, rfl, rfl, trivial⟩ (tX11_isTriedAgain_177 hG h)
    · rw [if_neg c] at h
      refine am_aload_n dX11_isTriedAgain_141 rfl ?_
      refine am_get (v := .inr (0, 69)) dX11_isTriedAgain_142 fl_11_27 (hG.m0 (by decide)) rfl ?_
      refine am_sipush (v := nI 640) dX11_isTriedAgain_145 (by decide) ?_
      refine am_iload_n dX11_isTriedAgain_148 rfl ?_
      refine am_imul dX11_isTriedAgain_149 ?_
      refine am_aload_n dX11_isTriedAgain_150 rfl ?_
      refine am_get (v := .inr (0, 118)) dX11_isTriedAgain_151 fl_11_141 (hG.m0 (by decide)) rfl ?_
      refine am_iload_n dX11_isTriedAgain_154 rfl ?_
      obtain ⟨g1, h⟩ := am_gd_some h
      refine am_ialdG dX11_isTriedAgain_155 (hG.m0 (by decide)) rfl g1 (show 640 < 2 ^ 31 by decide) ?_
      refine am_iadd dX11_isTriedAgain_156 ?_
      obtain ⟨g2, h⟩ := am_gd_some h
      refine am_zaldG dX11_isTriedAgain_157 (hG.m0 (by decide)) rfl g2 (show 2560 < 2 ^ 31 by decide) ?_
      refine am_if_eq (tgt := 165) dX11_isTriedAgain_158 rfl (fun c => ?_) (fun c => ?_)
      · rw [if_pos c] at h
        refine am_iload_n dX11_isTriedAgain_165 rfl ?_
        refine am_iconst (v := nI 1) dX11_isTriedAgain_166 (by decide) ?_
        refine am_iadd dX11_isTriedAgain_167 ?_
        exact am_lwJ (lo' := [some (.inr (0, 60)), some (.inl l1), none, some (.inl l3)]) ⟨rfl, rfl, rfl, trivial⟩ (tX11_isTriedAgain_168 hG hk133 h)
      · rw [if_neg c] at h
        refine am_iload_n dX11_isTriedAgain_161 rfl ?_
        refine am_goto (tgt := 168) dX11_isTriedAgain_162 rfl ?_
        exact am_lwJ (lo' := [some (.inr (0, 60)), some (.inl l1), none, some (.inl l3)]) ⟨rfl, rfl, rfl, trivial⟩ (tX11_isTriedAgain_168 hG hk133 h)
def bX11_isTriedAgain_65 (n : Nat) (l1 : Int32) (s0 : Int32) (s1 : Int32) (I : am_I) : Option (Int32 × am_I) := am_gd (am_inb s1 4) (am_lt (am_up I 0 92 s1.toNatClampNeg s0) (fun I2 => (gX11_at n l1 (I2 0 60 52) I2).bind (fun q3 => am_gd (am_inb q3.1 544) (am_lt (am_up q3.2 0 81 q3.1.toNatClampNeg (q3.2 0 60 53)) (fun I5 => (gX11_unpin n l1 I5).bind (fun q6 => some (nI 1, q6)))))))
theorem tX11_isTriedAgain_65 {G : am_G} (hG : am_okM G) {d : Nat} {l1 : Int32} {s0 : Int32} {s1 : Int32} {I : am_I} {r : Int32 × am_I} (h : bX11_isTriedAgain_65 G.2.2.2.1 l1 s0 s1  I = some r) : am_J G (d + 9) mX11_isTriedAgain am_no (am_E (some r.1) r.2) 65 [some (.inr (0, 60)), some (.inl l1), none, none] [.inl s0, .inl s1, .inr (0, 92)] I := by
  unfold bX11_isTriedAgain_65 at h
  obtain ⟨g1, h⟩ := am_gd_some h
  refine am_iastG dX11_isTriedAgain_65 (hG.m0 (by decide)) rfl g1 (show 4 < 2 ^ 31 by decide) ?_
  obtain ⟨I2, hI2, h⟩ := am_lt_some h
  refine am_st10 hI2 ?_
  refine am_aload_n dX11_isTriedAgain_66 rfl ?_
  refine am_get (v := .inr (0, 81)) dX11_isTriedAgain_67 fl_11_63 (hG.m0 (by decide)) rfl ?_
  refine am_iload_n dX11_isTriedAgain_70 rfl ?_
  refine am_aload_n dX11_isTriedAgain_71 rfl ?_
  refine am_get (v := .inl (I2 0 60 52)) dX11_isTriedAgain_72 fl_11_295 (hG.m0 (by decide)) rfl ?_
  obtain ⟨q3, hq3, h⟩ := am_bd h
  refine am_callSx (as := [.inl l1, .inl (I2 0 60 52)]) (rest := [.inr (0, 81)]) dX11_isTriedAgain_75 lkX11_at ml_X11_208 isX11_at rfl (Nat.le_of_ble_eq_true rfl) rfl (sX11_at hG hq3) ?_
  refine am_aload_n dX11_isTriedAgain_78 rfl ?_
  refine am_get (v := .inl (q3.2 0 60 53)) dX11_isTriedAgain_79 fl_11_301 (hG.m0 (by decide)) rfl ?_
  obtain ⟨g4, h⟩ := am_gd_some h
  refine am_iastG dX11_isTriedAgain_82 (hG.m0 (by decide)) rfl g4 (show 544 < 2 ^ 31 by decide) ?_
  obtain ⟨I5, hI5, h⟩ := am_lt_some h
  refine am_st10 hI5 ?_
  refine am_aload_n dX11_isTriedAgain_83 rfl ?_
  refine am_iload_n dX11_isTriedAgain_84 rfl ?_
  obtain ⟨q6, hq6, h⟩ := am_bd h
  refine am_callVe (i := 0) (j := 60) (as := [.inl l1]) (rest := []) dX11_isTriedAgain_85 lkX11_unpin ml_X11_271 imX11_unpin seX11_unpin rfl rfl (hG.m0 (by decide)) rfl (Nat.le_of_ble_eq_true rfl) rfl (sX11_unpin hG hq6) ?_
  refine am_iconst (v := nI 1) dX11_isTriedAgain_88 (by decide) ?_
  cases h
  exact am_iret dX11_isTriedAgain_89 rfl (am_nz (by decide)).1 ⟨rfl, rfl⟩
def bX11_isTriedAgain_0 (n : Nat) (l1 : Int32) (I : am_I) : Option (Int32 × am_I) := am_gd (am_inb l1 4) (am_gd (am_inb l1 4) (am_lt (am_up I 0 91 l1.toNatClampNeg ((I 0 91 l1.toNatClampNeg) + (nI 1))) (fun I3 => (gX11_attempt n l1 I3).bind (fun q4 => if (q4 0 60 52) = (-1 : Int32) then (if (q4 0 60 54) = 0 then (am_gd (am_inb l1 4) (bX11_isTriedAgain_133 n am_fu l1 (q4 0 70 l1.toNatClampNeg) (nI 0) q4)) else ((gX11_undo n q4).bind (fun q6 => (gX11_note n l1 (nI 3) (q6 0 60 54) (nI 0) q6).bind (fun q7 => (gX11_end n l1 (nI 3) (q7 0 60 54) q7).bind (fun q8 => some (nI 0, q8)))))) else ((gX11_undo n q4).bind (fun q9 => (gX11_at n l1 (q9 0 60 52) q9).bind (fun q10 => am_gd (am_inb q10.1 544) (if (q10.2 0 81 q10.1.toNatClampNeg) = 0 then (am_gd (am_inb l1 4) (bX11_isTriedAgain_65 n l1 ((q10.2 0 92 l1.toNatClampNeg) + (nI 1)) l1 q10.2)) else (am_gd (am_inb l1 4) (bX11_isTriedAgain_65 n l1 (q10.2 0 92 l1.toNatClampNeg) l1 q10.2))))))))))
theorem tX11_isTriedAgain_0 {G : am_G} (hG : am_okM G) {d : Nat} {l1 : Int32} {I : am_I} {r : Int32 × am_I} (h : bX11_isTriedAgain_0 G.2.2.2.1 l1  I = some r) : am_J G (d + 9) mX11_isTriedAgain am_no (am_E (some r.1) r.2) 0 [some (.inr (0, 60)), some (.inl l1), none, none] [] I := by
  unfold bX11_isTriedAgain_0 at h
  refine am_aload_n dX11_isTriedAgain_0 rfl ?_
  refine am_get (v := .inr (0, 91)) dX11_isTriedAgain_1 fl_11_93 (hG.m0 (by decide)) rfl ?_
  refine am_iload_n dX11_isTriedAgain_4 rfl ?_
  refine am_dup2 dX11_isTriedAgain_5 ?_
  obtain ⟨g1, h⟩ := am_gd_some h
  refine am_ialdG dX11_isTriedAgain_6 (hG.m0 (by decide)) rfl g1 (show 4 < 2 ^ 31 by decide) ?_
  refine am_iconst (v := nI 1) dX11_isTriedAgain_7 (by decide) ?_
  refine am_iadd dX11_isTriedAgain_8 ?_
  obtain ⟨g2, h⟩ := am_gd_some h
  refine am_iastG dX11_isTriedAgain_9 (hG.m0 (by decide)) rfl g2 (show 4 < 2 ^ 31 by decide) ?_
  obtain ⟨I3, hI3, h⟩ := am_lt_some h
  refine am_st10 hI3 ?_
  refine am_aload_n dX11_isTriedAgain_10 rfl ?_
  refine am_iload_n dX11_isTriedAgain_11 rfl ?_
  obtain ⟨q4, hq4, h⟩ := am_bd h
  refine am_callVe (i := 0) (j := 60) (as := [.inl l1]) (rest := []) dX11_isTriedAgain_12 lkX11_attempt ml_X11_292 imX11_attempt seX11_attempt rfl rfl (hG.m0 (by decide)) rfl (Nat.le_of_ble_eq_true rfl) rfl (sX11_attempt hG hq4) ?_
  refine am_aload_n dX11_isTriedAgain_15 rfl ?_
  refine am_get (v := .inl (q4 0 60 52)) dX11_isTriedAgain_16 fl_11_295 (hG.m0 (by decide)) rfl ?_
  refine am_iconst (v := (-1 : Int32)) dX11_isTriedAgain_19 (by decide) ?_
  refine am_icmp_eq (tgt := 90) dX11_isTriedAgain_20 rfl (fun c => ?_) (fun c => ?_)
  · rw [if_pos c] at h
    refine am_aload_n dX11_isTriedAgain_90 rfl ?_
    refine am_get (v := .inl (q4 0 60 54)) dX11_isTriedAgain_91 fl_11_304 (hG.m0 (by decide)) rfl ?_
    refine am_if_eq (tgt := 124) dX11_isTriedAgain_94 rfl (fun c => ?_) (fun c => ?_)
    · rw [if_pos c] at h
      refine am_aload_n dX11_isTriedAgain_124 rfl ?_
      refine am_get (v := .inr (0, 70)) dX11_isTriedAgain_125 fl_11_30 (hG.m0 (by decide)) rfl ?_
      refine am_iload_n dX11_isTriedAgain_128 rfl ?_
      obtain ⟨g5, h⟩ := am_gd_some h
      refine am_ialdG dX11_isTriedAgain_129 (hG.m0 (by decide)) rfl g5 (show 4 < 2 ^ 31 by decide) ?_
      refine am_istore_n dX11_isTriedAgain_130 (by decide) ?_
      refine am_iconst (v := nI 0) dX11_isTriedAgain_131 (by decide) ?_
      refine am_istore_n dX11_isTriedAgain_132 (by decide) ?_
      exact am_lwJ (lo' := [some (.inr (0, 60)), some (.inl l1), some (.inl (q4 0 70 l1.toNatClampNeg)), some (.inl (nI 0))]) ⟨rfl, rfl, rfl, rfl, trivial⟩ (tX11_isTriedAgain_133 hG h)
    · rw [if_neg c] at h
      refine am_aload_n dX11_isTriedAgain_97 rfl ?_
      obtain ⟨q6, hq6, h⟩ := am_bd h
      refine am_callVe (i := 0) (j := 60) (as := []) (rest := []) dX11_isTriedAgain_98 lkX11_undo ml_X11_298 imX11_undo seX11_undo rfl rfl (hG.m0 (by decide)) rfl (Nat.le_of_ble_eq_true rfl) rfl (sX11_undo hG hq6) ?_
      refine am_aload_n dX11_isTriedAgain_101 rfl ?_
      refine am_iload_n dX11_isTriedAgain_102 rfl ?_
      refine am_iconst (v := nI 3) dX11_isTriedAgain_103 (by decide) ?_
      refine am_aload_n dX11_isTriedAgain_104 rfl ?_
      refine am_get (v := .inl (q6 0 60 54)) dX11_isTriedAgain_105 fl_11_304 (hG.m0 (by decide)) rfl ?_
      refine am_iconst (v := nI 0) dX11_isTriedAgain_108 (by decide) ?_
      obtain ⟨q7, hq7, h⟩ := am_bd h
      refine am_callVe (i := 0) (j := 60) (as := [.inl l1, .inl (nI 3), .inl (q6 0 60 54), .inl (nI 0)]) (rest := []) dX11_isTriedAgain_109 lkX11_note ml_X11_286 imX11_note seX11_note rfl rfl (hG.m0 (by decide)) rfl (Nat.le_of_ble_eq_true rfl) rfl (sX11_note hG hq7) ?_
      refine am_aload_n dX11_isTriedAgain_112 rfl ?_
      refine am_iload_n dX11_isTriedAgain_113 rfl ?_
      refine am_iconst (v := nI 3) dX11_isTriedAgain_114 (by decide) ?_
      refine am_aload_n dX11_isTriedAgain_115 rfl ?_
      refine am_get (v := .inl (q7 0 60 54)) dX11_isTriedAgain_116 fl_11_304 (hG.m0 (by decide)) rfl ?_
      obtain ⟨q8, hq8, h⟩ := am_bd h
      refine am_callVe (i := 0) (j := 60) (as := [.inl l1, .inl (nI 3), .inl (q7 0 60 54)]) (rest := []) dX11_isTriedAgain_119 lkX11_end ml_X11_289 imX11_end seX11_end rfl rfl (hG.m0 (by decide)) rfl (Nat.le_of_ble_eq_true rfl) rfl (sX11_end hG hq8) ?_
      refine am_iconst (v := nI 0) dX11_isTriedAgain_122 (by decide) ?_
      cases h
      exact am_iret dX11_isTriedAgain_123 rfl (am_nz (by decide)).1 ⟨rfl, rfl⟩
  · rw [if_neg c] at h
    refine am_aload_n dX11_isTriedAgain_23 rfl ?_
    obtain ⟨q9, hq9, h⟩ := am_bd h
    refine am_callVe (i := 0) (j := 60) (as := []) (rest := []) dX11_isTriedAgain_24 lkX11_undo ml_X11_298 imX11_undo seX11_undo rfl rfl (hG.m0 (by decide)) rfl (Nat.le_of_ble_eq_true rfl) rfl (sX11_undo hG hq9) ?_
    refine am_aload_n dX11_isTriedAgain_27 rfl ?_
    refine am_get (v := .inr (0, 92)) dX11_isTriedAgain_28 fl_11_96 (hG.m0 (by decide)) rfl ?_
    refine am_iload_n dX11_isTriedAgain_31 rfl ?_
    refine am_aload_n dX11_isTriedAgain_32 rfl ?_
    refine am_get (v := .inr (0, 81)) dX11_isTriedAgain_33 fl_11_63 (hG.m0 (by decide)) rfl ?_
    refine am_iload_n dX11_isTriedAgain_36 rfl ?_
    refine am_aload_n dX11_isTriedAgain_37 rfl ?_
    refine am_get (v := .inl (q9 0 60 52)) dX11_isTriedAgain_38 fl_11_295 (hG.m0 (by decide)) rfl ?_
    obtain ⟨q10, hq10, h⟩ := am_bd h
    refine am_callSx (as := [.inl l1, .inl (q9 0 60 52)]) (rest := [.inr (0, 81), .inl l1, .inr (0, 92)]) dX11_isTriedAgain_41 lkX11_at ml_X11_208 isX11_at rfl (Nat.le_of_ble_eq_true rfl) rfl (sX11_at hG hq10) ?_
    obtain ⟨g11, h⟩ := am_gd_some h
    refine am_ialdG dX11_isTriedAgain_44 (hG.m0 (by decide)) rfl g11 (show 544 < 2 ^ 31 by decide) ?_
    refine am_if_ne (tgt := 59) dX11_isTriedAgain_45 rfl (fun c => ?_) (fun c => ?_)
    · rw [if_neg c] at h
      refine am_aload_n dX11_isTriedAgain_59 rfl ?_
      refine am_get (v := .inr (0, 92)) dX11_isTriedAgain_60 fl_11_96 (hG.m0 (by decide)) rfl ?_
      refine am_iload_n dX11_isTriedAgain_63 rfl ?_
      obtain ⟨g12, h⟩ := am_gd_some h
      refine am_ialdG dX11_isTriedAgain_64 (hG.m0 (by decide)) rfl g12 (show 4 < 2 ^ 31 by decide) ?_
      exact am_lwJ (lo' := [some (.inr (0, 60)), some (.inl l1), none, none]) ⟨rfl, rfl, trivial⟩ (tX11_isTriedAgain_65 hG h)
    · rw [if_pos c] at h
      refine am_aload_n dX11_isTriedAgain_48 rfl ?_
      refine am_get (v := .inr (0, 92)) dX11_isTriedAgain_49 fl_11_96 (hG.m0 (by decide)) rfl ?_
      refine am_iload_n dX11_isTriedAgain_52 rfl ?_
      obtain ⟨g13, h⟩ := am_gd_some h
      refine am_ialdG dX11_isTriedAgain_53 (hG.m0 (by decide)) rfl g13 (show 4 < 2 ^ 31 by decide) ?_
      refine am_iconst (v := nI 1) dX11_isTriedAgain_54 (by decide) ?_
      refine am_iadd dX11_isTriedAgain_55 ?_
      refine am_goto (tgt := 65) dX11_isTriedAgain_56 rfl ?_
      exact am_lwJ (lo' := [some (.inr (0, 60)), some (.inl l1), none, none]) ⟨rfl, rfl, trivial⟩ (tX11_isTriedAgain_65 hG h)
def gX11_isTriedAgain (n : Nat) (l1 : Int32) (I : am_I) : Option (Int32 × am_I) := bX11_isTriedAgain_0 n l1 I
theorem sX11_isTriedAgain {G : am_G} (hG : am_okM G) {d : Nat} {l1 : Int32} {I : am_I} {r : Int32 × am_I} (h : gX11_isTriedAgain G.2.2.2.1 l1 I = some r) : am_C G (d + 9) mX11_isTriedAgain [.inr (0, 60), .inl l1] I (am_E (some r.1) r.2) :=
  am_of (by decide +kernel) hG.nd (Nat.le_of_ble_eq_true rfl) (am_lwJ (lo' := [some (.inr (0, 60)), some (.inl l1), none, none]) ⟨rfl, rfl, trivial⟩ (tX11_isTriedAgain_0 hG h))
def bX11_goOn_82 (n : Nat) (k6 : Int32 → Int32 → am_I → Option (am_I)) (l1 : Int32) (s0 : Int32) (I : am_I) : Option (am_I) := k6 l1 s0 I
theorem tX11_goOn_82 {G : am_G} (hG : am_okM G) {d : Nat} {k6 : Int32 → Int32 → am_I → Option (am_I)} (hk6 : ∀ (l1 : Int32) (l2 : Int32) (I : am_I) (r : am_I), k6 l1 l2 I = some r → am_J G (d + 10) mX11_goOn am_no (am_E none r) 6 [some (.inr (0, 60)), some (.inl l1), some (.inl l2)] [] I) {l1 : Int32} {s0 : Int32} {I : am_I} {r : am_I} (h : bX11_goOn_82 G.2.2.2.1 k6 l1 s0  I = some r) : am_J G (d + 10) mX11_goOn am_no (am_E none r) 82 [some (.inr (0, 60)), some (.inl l1), none] [.inl s0] I := by
  unfold bX11_goOn_82 at h
  refine am_istore_n dX11_goOn_82 (by decide) ?_
  refine am_goto (tgt := 6) dX11_goOn_83 rfl ?_
  exact am_lwJ (lo' := [some (.inr (0, 60)), some (.inl l1), some (.inl s0)]) ⟨rfl, rfl, rfl, trivial⟩ (hk6 l1 s0 _ _ h)
def bX11_goOn_81 (n : Nat) (k6 : Int32 → Int32 → am_I → Option (am_I)) (l1 : Int32) (I : am_I) : Option (am_I) := bX11_goOn_82 n k6 l1 (nI 0) I
theorem tX11_goOn_81 {G : am_G} (hG : am_okM G) {d : Nat} {k6 : Int32 → Int32 → am_I → Option (am_I)} (hk6 : ∀ (l1 : Int32) (l2 : Int32) (I : am_I) (r : am_I), k6 l1 l2 I = some r → am_J G (d + 10) mX11_goOn am_no (am_E none r) 6 [some (.inr (0, 60)), some (.inl l1), some (.inl l2)] [] I) {l1 : Int32} {I : am_I} {r : am_I} (h : bX11_goOn_81 G.2.2.2.1 k6 l1  I = some r) : am_J G (d + 10) mX11_goOn am_no (am_E none r) 81 [some (.inr (0, 60)), some (.inl l1), none] [] I := by
  unfold bX11_goOn_81 at h
  refine am_iconst (v := nI 0) dX11_goOn_81 (by decide) ?_
  exact am_lwJ (lo' := [some (.inr (0, 60)), some (.inl l1), none]) ⟨rfl, rfl, trivial⟩ (tX11_goOn_82 hG hk6 h)
def bX11_goOn_54 (n : Nat) (k6 : Int32 → Int32 → am_I → Option (am_I)) (l1 : Int32) (I : am_I) : Option (am_I) := am_gd (am_inb l1 4) (am_lt (am_up I 0 93 l1.toNatClampNeg (nI 0)) (fun I2 => (gX11_pinAll n l1 I2).bind (fun q3 => if q3.1 = 0 then (bX11_goOn_81 n k6 l1 q3.2) else ((gX11_isTriedAgain n l1 q3.2).bind (fun q4 => if q4.1 = 0 then (bX11_goOn_81 n k6 l1 q4.2) else (bX11_goOn_82 n k6 l1 (nI 1) q4.2))))))
theorem tX11_goOn_54 {G : am_G} (hG : am_okM G) {d : Nat} {k6 : Int32 → Int32 → am_I → Option (am_I)} (hk6 : ∀ (l1 : Int32) (l2 : Int32) (I : am_I) (r : am_I), k6 l1 l2 I = some r → am_J G (d + 10) mX11_goOn am_no (am_E none r) 6 [some (.inr (0, 60)), some (.inl l1), some (.inl l2)] [] I) {l1 : Int32} {I : am_I} {r : am_I} (h : bX11_goOn_54 G.2.2.2.1 k6 l1  I = some r) : am_J G (d + 10) mX11_goOn am_no (am_E none r) 54 [some (.inr (0, 60)), some (.inl l1), none] [] I := by
  unfold bX11_goOn_54 at h
  refine am_aload_n dX11_goOn_54 rfl ?_
  refine am_get (v := .inr (0, 93)) dX11_goOn_55 fl_11_99 (hG.m0 (by decide)) rfl ?_
  refine am_iload_n dX11_goOn_58 rfl ?_
  refine am_iconst (v := nI 0) dX11_goOn_59 (by decide) ?_
  obtain ⟨g1, h⟩ := am_gd_some h
  refine am_zastG dX11_goOn_60 (hG.m0 (by decide)) rfl (by decide) g1 (show 4 < 2 ^ 31 by decide) ?_
  obtain ⟨I2, hI2, h⟩ := am_lt_some h
  refine am_st10 hI2 ?_
  refine am_aload_n dX11_goOn_61 rfl ?_
  refine am_iload_n dX11_goOn_62 rfl ?_
  obtain ⟨q3, hq3, h⟩ := am_bd h
  refine am_callVx (i := 0) (j := 60) (as := [.inl l1]) (rest := []) dX11_goOn_63 lkX11_pinAll ml_X11_280 imX11_pinAll seX11_pinAll rfl rfl (hG.m0 (by decide)) rfl (Nat.le_of_ble_eq_true rfl) rfl (sX11_pinAll hG hq3) ?_
  refine am_if_eq (tgt := 81) dX11_goOn_66 rfl (fun c => ?_) (fun c => ?_)
  · rw [if_pos c] at h
    exact am_lwJ (lo' := [some (.inr (0, 60)), some (.inl l1), none]) ⟨rfl, rfl, trivial⟩ (tX11_goOn_81 hG hk6 h)
  · rw [if_neg c] at h
    refine am_aload_n dX11_goOn_69 rfl ?_
    refine am_iload_n dX11_goOn_70 rfl ?_
    obtain ⟨q4, hq4, h⟩ := am_bd h
    refine am_callVx (i := 0) (j := 60) (as := [.inl l1]) (rest := []) dX11_goOn_71 lkX11_isTriedAgain ml_X11_283 imX11_isTriedAgain seX11_isTriedAgain rfl rfl (hG.m0 (by decide)) rfl (Nat.le_of_ble_eq_true rfl) rfl (sX11_isTriedAgain hG hq4) ?_
    refine am_if_eq (tgt := 81) dX11_goOn_74 rfl (fun c => ?_) (fun c => ?_)
    · rw [if_pos c] at h
      exact am_lwJ (lo' := [some (.inr (0, 60)), some (.inl l1), none]) ⟨rfl, rfl, trivial⟩ (tX11_goOn_81 hG hk6 h)
    · rw [if_neg c] at h
      refine am_iconst (v := nI 1) dX11_goOn_77 (by decide) ?_
      refine am_goto (tgt := 82) dX11_goOn_78 rfl ?_
      exact am_lwJ (lo' := [some (.inr (0, 60)), some (.inl l1), none]) ⟨rfl, rfl, trivial⟩ (tX11_goOn_82 hG hk6 h)
def bX11_goOn_6 (n : Nat) : Nat → Int32 → Int32 → am_I → Option (am_I)
  | 0, _, _, _ => none
  | fu + 1, l1, l2, I => (fun k6 => if l2 = 0 then (some I) else (am_gd (am_inb l1 4) (if (I 0 82 l1.toNatClampNeg) = (nI 10) then ((gX11_goOnSync n l1 I).bind (fun q4 => k6 l1 (nI 0) q4)) else (am_gd (am_inb l1 4) (if (I 0 93 l1.toNatClampNeg) = 0 then (bX11_goOn_54 n k6 l1 I) else (am_gd (am_inb l1 4) (if (I 0 72 l1.toNatClampNeg) ≤ 0 then (bX11_goOn_54 n k6 l1 I) else (k6 l1 (nI 0) I)))))))) (bX11_goOn_6 n fu)
theorem tX11_goOn_6 {G : am_G} (hG : am_okM G) {d : Nat} : ∀ {fu : Nat} {l1 : Int32} {l2 : Int32} {I : am_I} {r : am_I}, bX11_goOn_6 G.2.2.2.1 fu l1 l2 I = some r → am_J G (d + 10) mX11_goOn am_no (am_E none r) 6 [some (.inr (0, 60)), some (.inl l1), some (.inl l2)] [] I := by
  intro fu
  induction fu with
  | zero => intro l1 l2 I r h; cases h
  | succ fu ih =>
    intro l1 l2 I r h
    have hk6 : ∀ (l1 : Int32) (l2 : Int32) (I : am_I) (r : am_I), bX11_goOn_6 G.2.2.2.1 fu l1 l2 I = some r → am_J G (d + 10) mX11_goOn am_no (am_E none r) 6 [some (.inr (0, 60)), some (.inl l1), some (.inl l2)] [] I := fun l1 l2 I r h => ih h
    unfold bX11_goOn_6 at h
    generalize bX11_goOn_6 G.2.2.2.1 fu = k6 at hk6 h
    dsimp only at h
    refine am_iload_n dX11_goOn_6 rfl ?_
    refine am_if_eq (tgt := 86) dX11_goOn_7 rfl (fun c => ?_) (fun c => ?_)
    · rw [if_pos c] at h
      cases h
      exact am_vret dX11_goOn_86 rfl ⟨rfl, rfl⟩
    · rw [if_neg c] at h
      refine am_aload_n dX11_goOn_10 rfl ?_
      refine am_get (v := .inr (0, 82)) dX11_goOn_11 fl_11_66 (hG.m0 (by decide)) rfl ?_
      refine am_iload_n dX11_goOn_14 rfl ?_
      obtain ⟨g1, h⟩ := am_gd_some h
      refine am_ialdG dX11_goOn_15 (hG.m0 (by decide)) rfl g1 (show 4 < 2 ^ 31 by decide) ?_
      refine am_bipush (v := nI 10) dX11_goOn_16 (by decide) ?_
      refine am_icmp_ne (tgt := 31) dX11_goOn_18 rfl (fun c => ?_) (fun c => ?_)
      · rw [if_neg c] at h
        refine am_aload_n dX11_goOn_31 rfl ?_
        refine am_get (v := .inr (0, 93)) dX11_goOn_32 fl_11_99 (hG.m0 (by decide)) rfl ?_
        refine am_iload_n dX11_goOn_35 rfl ?_
        obtain ⟨g2, h⟩ := am_gd_some h
        refine am_zaldG dX11_goOn_36 (hG.m0 (by decide)) rfl g2 (show 4 < 2 ^ 31 by decide) ?_
        refine am_if_eq (tgt := 54) dX11_goOn_37 rfl (fun c => ?_) (fun c => ?_)
        · rw [if_pos c] at h
          exact am_lwJ (lo' := [some (.inr (0, 60)), some (.inl l1), none]) ⟨rfl, rfl, trivial⟩ (tX11_goOn_54 hG hk6 h)
        · rw [if_neg c] at h
          refine am_aload_n dX11_goOn_40 rfl ?_
          refine am_get (v := .inr (0, 72)) dX11_goOn_41 fl_11_36 (hG.m0 (by decide)) rfl ?_
          refine am_iload_n dX11_goOn_44 rfl ?_
          obtain ⟨g3, h⟩ := am_gd_some h
          refine am_ialdG dX11_goOn_45 (hG.m0 (by decide)) rfl g3 (show 4 < 2 ^ 31 by decide) ?_
          refine am_if_le (tgt := 54) dX11_goOn_46 rfl (fun c => ?_) (fun c => ?_)
          · rw [if_pos c] at h
            exact am_lwJ (lo' := [some (.inr (0, 60)), some (.inl l1), none]) ⟨rfl, rfl, trivial⟩ (tX11_goOn_54 hG hk6 h)
          · rw [if_neg c] at h
            refine am_iconst (v := nI 0) dX11_goOn_49 (by decide) ?_
            refine am_istore_n dX11_goOn_50 (by decide) ?_
            refine am_goto (tgt := 6) dX11_goOn_51 rfl ?_
            exact am_lwJ (lo' := [some (.inr (0, 60)), some (.inl l1), some (.inl (nI 0))]) ⟨rfl, rfl, rfl, trivial⟩ (hk6 l1 (nI 0) _ _ h)
      · rw [if_pos c] at h
        refine am_iconst (v := nI 0) dX11_goOn_21 (by decide) ?_
        refine am_istore_n dX11_goOn_22 (by decide) ?_
        refine am_aload_n dX11_goOn_23 rfl ?_
        refine am_iload_n dX11_goOn_24 rfl ?_
        obtain ⟨q4, hq4, h⟩ := am_bd h
        refine am_callVe (i := 0) (j := 60) (as := [.inl l1]) (rest := []) dX11_goOn_25 lkX11_goOnSync ml_X11_277 imX11_goOnSync seX11_goOnSync rfl rfl (hG.m0 (by decide)) rfl (Nat.le_of_ble_eq_true rfl) rfl (sX11_goOnSync hG hq4) ?_
        refine am_goto (tgt := 6) dX11_goOn_28 rfl ?_
        exact am_lwJ (lo' := [some (.inr (0, 60)), some (.inl l1), some (.inl (nI 0))]) ⟨rfl, rfl, rfl, trivial⟩ (hk6 l1 (nI 0) _ _ h)
def bX11_goOn_0 (n : Nat) (l1 : Int32) (I : am_I) : Option (am_I) := (gX11_isCalling n l1 I).bind (fun q1 => bX11_goOn_6 n am_fu l1 q1.1 q1.2)
theorem tX11_goOn_0 {G : am_G} (hG : am_okM G) {d : Nat} {l1 : Int32} {I : am_I} {r : am_I} (h : bX11_goOn_0 G.2.2.2.1 l1  I = some r) : am_J G (d + 10) mX11_goOn am_no (am_E none r) 0 [some (.inr (0, 60)), some (.inl l1), none] [] I := by
  unfold bX11_goOn_0 at h
  refine am_aload_n dX11_goOn_0 rfl ?_
  refine am_iload_n dX11_goOn_1 rfl ?_
  obtain ⟨q1, hq1, h⟩ := am_bd h
  refine am_callVx (i := 0) (j := 60) (as := [.inl l1]) (rest := []) dX11_goOn_2 lkX11_isCalling ml_X11_264 imX11_isCalling seX11_isCalling rfl rfl (hG.m0 (by decide)) rfl (Nat.le_of_ble_eq_true rfl) rfl (sX11_isCalling hG hq1) ?_
  refine am_istore_n dX11_goOn_5 (by decide) ?_
  exact am_lwJ (lo' := [some (.inr (0, 60)), some (.inl l1), some (.inl q1.1)]) ⟨rfl, rfl, rfl, trivial⟩ (tX11_goOn_6 hG h)
def gX11_goOn (n : Nat) (l1 : Int32) (I : am_I) : Option (am_I) := bX11_goOn_0 n l1 I
theorem sX11_goOn {G : am_G} (hG : am_okM G) {d : Nat} {l1 : Int32} {I : am_I} {r : am_I} (h : gX11_goOn G.2.2.2.1 l1 I = some r) : am_C G (d + 10) mX11_goOn [.inr (0, 60), .inl l1] I (am_E none r) :=
  am_of (by decide +kernel) hG.nd (Nat.le_of_ble_eq_true rfl) (am_lwJ (lo' := [some (.inr (0, 60)), some (.inl l1), none]) ⟨rfl, rfl, trivial⟩ (tX11_goOn_0 hG h))
def bX11_call_215 (n : Nat) (s0 : Int32) (I : am_I) : Option (Int32 × am_I) := some (s0, I)
theorem tX11_call_215 {G : am_G} (hG : am_okM G) {d : Nat} {s0 : Int32} {I : am_I} {r : Int32 × am_I} (h : bX11_call_215 G.2.2.2.1 s0  I = some r) : am_J G (d + 11) mX11_call am_no (am_E (some r.1) r.2) 215 [none, none, none, none, none, none, none, none, none] [.inl s0] I := by
  unfold bX11_call_215 at h
  cases h
  exact am_iret dX11_call_215 rfl rfl ⟨rfl, rfl⟩
def bX11_call_169 (n : Nat) : Nat → Int32 → Int32 → am_I → Option (Int32 × am_I)
  | 0, _, _, _ => none
  | fu + 1, l1, l8, I => (fun k169 => if (nI 136) ≤ l8 then ((gX11_goOn n l1 I).bind (fun q1 => am_gd (am_inb l1 4) (if (q1 0 87 l1.toNatClampNeg) = (nI 1) then (bX11_call_215 n (nI 0) q1) else (bX11_call_215 n (nI 1) q1)))) else ((gX11_at n l1 l8 I).bind (fun q3 => am_gd (am_inb q3.1 544) (am_lt (am_up q3.2 0 81 q3.1.toNatClampNeg (nI 0)) (fun I5 => k169 l1 (l8 + nI 1) I5))))) (bX11_call_169 n fu)
theorem tX11_call_169 {G : am_G} (hG : am_okM G) {d : Nat} : ∀ {fu : Nat} {l1 : Int32} {l8 : Int32} {I : am_I} {r : Int32 × am_I}, bX11_call_169 G.2.2.2.1 fu l1 l8 I = some r → am_J G (d + 11) mX11_call am_no (am_E (some r.1) r.2) 169 [some (.inr (0, 60)), some (.inl l1), none, none, none, none, none, none, some (.inl l8)] [] I := by
  intro fu
  induction fu with
  | zero => intro l1 l8 I r h; cases h
  | succ fu ih =>
    intro l1 l8 I r h
    have hk169 : ∀ (l1 : Int32) (l8 : Int32) (I : am_I) (r : Int32 × am_I), bX11_call_169 G.2.2.2.1 fu l1 l8 I = some r → am_J G (d + 11) mX11_call am_no (am_E (some r.1) r.2) 169 [some (.inr (0, 60)), some (.inl l1), none, none, none, none, none, none, some (.inl l8)] [] I := fun l1 l8 I r h => ih h
    unfold bX11_call_169 at h
    generalize bX11_call_169 G.2.2.2.1 fu = k169 at hk169 h
    dsimp only at h
    refine am_iload dX11_call_169 rfl ?_
    refine am_sipush (v := nI 136) dX11_call_171 (by decide) ?_
    refine am_icmp_ge (tgt := 195) dX11_call_174 rfl (fun c => ?_) (fun c => ?_)
    · rw [if_pos c] at h
      refine am_aload_n dX11_call_195 rfl ?_
      refine am_iload_n dX11_call_196 rfl ?_
      obtain ⟨q1, hq1, h⟩ := am_bd h
      refine am_callVe (i := 0) (j := 60) (as := [.inl l1]) (rest := []) dX11_call_197 lkX11_goOn ml_X11_212 imX11_goOn seX11_goOn rfl rfl (hG.m0 (by decide)) rfl (Nat.le_of_ble_eq_true rfl) rfl (sX11_goOn hG hq1) ?_
      refine am_aload_n dX11_call_200 rfl ?_
      refine am_get (v := .inr (0, 87)) dX11_call_201 fl_11_81 (hG.m0 (by decide)) rfl ?_
      refine am_iload_n dX11_call_204 rfl ?_
      obtain ⟨g2, h⟩ := am_gd_some h
      refine am_ialdG dX11_call_205 (hG.m0 (by decide)) rfl g2 (show 4 < 2 ^ 31 by decide) ?_
      refine am_iconst (v := nI 1) dX11_call_206 (by decide) ?_
      refine am_icmp_ne (tgt := 214) dX11_call_207 rfl (fun c => ?_) (fun c => ?_)
      · rw [if_neg c] at h
        refine am_iconst (v := nI 1) dX11_call_214 (by decide) ?_
        exact am_lwJ (lo' := [none, none, none, none, none, none, none, none, none]) trivial (tX11_call_215 hG h)
      · rw [if_pos c] at h
        refine am_iconst (v := nI 0) dX11_call_210 (by decide) ?_
        refine am_goto (tgt := 215) dX11_call_211 rfl ?_
        exact am_lwJ (lo' := [none, none, none, none, none, none, none, none, none]) trivial (tX11_call_215 hG h)
    · rw [if_neg c] at h
      refine am_aload_n dX11_call_177 rfl ?_
      refine am_get (v := .inr (0, 81)) dX11_call_178 fl_11_63 (hG.m0 (by decide)) rfl ?_
      refine am_iload_n dX11_call_181 rfl ?_
      refine am_iload dX11_call_182 rfl ?_
      obtain ⟨q3, hq3, h⟩ := am_bd h
      refine am_callSx (as := [.inl l1, .inl l8]) (rest := [.inr (0, 81)]) dX11_call_184 lkX11_at ml_X11_208 isX11_at rfl (Nat.le_of_ble_eq_true rfl) rfl (sX11_at hG hq3) ?_
      refine am_iconst (v := nI 0) dX11_call_187 (by decide) ?_
      obtain ⟨g4, h⟩ := am_gd_some h
      refine am_iastG dX11_call_188 (hG.m0 (by decide)) rfl g4 (show 544 < 2 ^ 31 by decide) ?_
      obtain ⟨I5, hI5, h⟩ := am_lt_some h
      refine am_st10 hI5 ?_
      refine am_iinc (v := l8 + nI 1) dX11_call_189 rfl rfl ?_
      refine am_goto (tgt := 169) dX11_call_192 rfl ?_
      exact am_lwJ (lo' := [some (.inr (0, 60)), some (.inl l1), none, none, none, none, none, none, some (.inl (l8 + nI 1))]) ⟨rfl, rfl, rfl, trivial⟩ (hk169 l1 (l8 + nI 1) _ _ h)
def bX11_call_67 (n : Nat) (l1 : Int32) (l2 : Int32) (l3 : Int32) (l4 : Int32) (l5 : Int32) (l6 : Int32) (s0 : Int32) (s1 : Int32) (I : am_I) : Option (Int32 × am_I) := (gX11_refuse n s1 s0 (nI 0) I).bind (fun q1 => if q1.1 = 0 then (am_gd (am_inb l1 4) (am_lt (am_up q1.2 0 82 l1.toNatClampNeg l2) (fun I3 => am_gd (am_inb l1 4) (am_lt (am_up I3 0 83 l1.toNatClampNeg l3) (fun I5 => am_gd (am_inb l1 4) (am_lt (am_up I5 0 84 l1.toNatClampNeg l4) (fun I7 => am_gd (am_inb l1 4) (am_lt (am_up I7 0 85 l1.toNatClampNeg l5) (fun I9 => am_gd (am_inb l1 4) (am_lt (am_up I9 0 86 l1.toNatClampNeg l6) (fun I11 => am_gd (am_inb l1 4) (am_lt (am_up I11 0 87 l1.toNatClampNeg (nI 1)) (fun I13 => am_gd (am_inb l1 4) (am_lt (am_up I13 0 88 l1.toNatClampNeg (nI 0)) (fun I15 => am_gd (am_inb l1 4) (am_lt (am_up I15 0 89 l1.toNatClampNeg (I15 0 60 2)) (fun I17 => am_gd (am_inb l1 4) (am_lt (am_up I17 0 90 l1.toNatClampNeg (nI 0)) (fun I19 => am_gd (am_inb l1 4) (am_lt (am_up I19 0 91 l1.toNatClampNeg (nI 0)) (fun I21 => am_gd (am_inb l1 4) (am_lt (am_up I21 0 92 l1.toNatClampNeg (nI 0)) (fun I23 => am_gd (am_inb l1 4) (am_lt (am_up I23 0 93 l1.toNatClampNeg (nI 0)) (fun I25 => bX11_call_169 n am_fu l1 (nI 0) I25))))))))))))))))))))))))) else (some (nI 0, q1.2)))
theorem tX11_call_67 {G : am_G} (hG : am_okM G) {d : Nat} {l1 : Int32} {l2 : Int32} {l3 : Int32} {l4 : Int32} {l5 : Int32} {l6 : Int32} {s0 : Int32} {s1 : Int32} {I : am_I} {r : Int32 × am_I} (h : bX11_call_67 G.2.2.2.1 l1 l2 l3 l4 l5 l6 s0 s1  I = some r) : am_J G (d + 11) mX11_call am_no (am_E (some r.1) r.2) 67 [some (.inr (0, 60)), some (.inl l1), some (.inl l2), some (.inl l3), some (.inl l4), some (.inl l5), some (.inl l6), none, none] [.inl s0, .inl s1, .inr (0, 60)] I := by
  unfold bX11_call_67 at h
  refine am_iconst (v := nI 0) dX11_call_67 (by decide) ?_
  obtain ⟨q1, hq1, h⟩ := am_bd h
  refine am_callVx (i := 0) (j := 60) (as := [.inl s1, .inl s0, .inl (nI 0)]) (rest := []) dX11_call_68 lkX11_refuse ml_X11_441 imX11_refuse seX11_refuse rfl rfl (hG.m0 (by decide)) rfl (Nat.le_of_ble_eq_true rfl) rfl (sX11_refuse hG hq1) ?_
  refine am_if_eq (tgt := 76) dX11_call_71 rfl (fun c => ?_) (fun c => ?_)
  · rw [if_pos c] at h
    refine am_aload_n dX11_call_76 rfl ?_
    refine am_get (v := .inr (0, 82)) dX11_call_77 fl_11_66 (hG.m0 (by decide)) rfl ?_
    refine am_iload_n dX11_call_80 rfl ?_
    refine am_iload_n dX11_call_81 rfl ?_
    obtain ⟨g2, h⟩ := am_gd_some h
    refine am_iastG dX11_call_82 (hG.m0 (by decide)) rfl g2 (show 4 < 2 ^ 31 by decide) ?_
    obtain ⟨I3, hI3, h⟩ := am_lt_some h
    refine am_st10 hI3 ?_
    refine am_aload_n dX11_call_83 rfl ?_
    refine am_get (v := .inr (0, 83)) dX11_call_84 fl_11_69 (hG.m0 (by decide)) rfl ?_
    refine am_iload_n dX11_call_87 rfl ?_
    refine am_iload_n dX11_call_88 rfl ?_
    obtain ⟨g4, h⟩ := am_gd_some h
    refine am_iastG dX11_call_89 (hG.m0 (by decide)) rfl g4 (show 4 < 2 ^ 31 by decide) ?_
    obtain ⟨I5, hI5, h⟩ := am_lt_some h
    refine am_st10 hI5 ?_
    refine am_aload_n dX11_call_90 rfl ?_
    refine am_get (v := .inr (0, 84)) dX11_call_91 fl_11_72 (hG.m0 (by decide)) rfl ?_
    refine am_iload_n dX11_call_94 rfl ?_
    refine am_iload dX11_call_95 rfl ?_
    obtain ⟨g6, h⟩ := am_gd_some h
    refine am_iastG dX11_call_97 (hG.m0 (by decide)) rfl g6 (show 4 < 2 ^ 31 by decide) ?_
    obtain ⟨I7, hI7, h⟩ := am_lt_some h
    refine am_st10 hI7 ?_
    refine am_aload_n dX11_call_98 rfl ?_
    refine am_get (v := .inr (0, 85)) dX11_call_99 fl_11_75 (hG.m0 (by decide)) rfl ?_
    refine am_iload_n dX11_call_102 rfl ?_
    refine am_iload dX11_call_103 rfl ?_
    obtain ⟨g8, h⟩ := am_gd_some h
    refine am_iastG dX11_call_105 (hG.m0 (by decide)) rfl g8 (show 4 < 2 ^ 31 by decide) ?_
    obtain ⟨I9, hI9, h⟩ := am_lt_some h
    refine am_st10 hI9 ?_
    refine am_aload_n dX11_call_106 rfl ?_
    refine am_get (v := .inr (0, 86)) dX11_call_107 fl_11_78 (hG.m0 (by decide)) rfl ?_
    refine am_iload_n dX11_call_110 rfl ?_
    refine am_iload dX11_call_111 rfl ?_
    obtain ⟨g10, h⟩ := am_gd_some h
    refine am_iastG dX11_call_113 (hG.m0 (by decide)) rfl g10 (show 4 < 2 ^ 31 by decide) ?_
    obtain ⟨I11, hI11, h⟩ := am_lt_some h
    refine am_st10 hI11 ?_
    refine am_aload_n dX11_call_114 rfl ?_
    refine am_get (v := .inr (0, 87)) dX11_call_115 fl_11_81 (hG.m0 (by decide)) rfl ?_
    refine am_iload_n dX11_call_118 rfl ?_
    refine am_iconst (v := nI 1) dX11_call_119 (by decide) ?_
    obtain ⟨g12, h⟩ := am_gd_some h
    refine am_iastG dX11_call_120 (hG.m0 (by decide)) rfl g12 (show 4 < 2 ^ 31 by decide) ?_
    obtain ⟨I13, hI13, h⟩ := am_lt_some h
    refine am_st10 hI13 ?_
    refine am_aload_n dX11_call_121 rfl ?_
    refine am_get (v := .inr (0, 88)) dX11_call_122 fl_11_84 (hG.m0 (by decide)) rfl ?_
    refine am_iload_n dX11_call_125 rfl ?_
    refine am_iconst (v := nI 0) dX11_call_126 (by decide) ?_
    obtain ⟨g14, h⟩ := am_gd_some h
    refine am_iastG dX11_call_127 (hG.m0 (by decide)) rfl g14 (show 4 < 2 ^ 31 by decide) ?_
    obtain ⟨I15, hI15, h⟩ := am_lt_some h
    refine am_st10 hI15 ?_
    refine am_aload_n dX11_call_128 rfl ?_
    refine am_get (v := .inr (0, 89)) dX11_call_129 fl_11_87 (hG.m0 (by decide)) rfl ?_
    refine am_iload_n dX11_call_132 rfl ?_
    refine am_aload_n dX11_call_133 rfl ?_
    refine am_get (v := .inl (I15 0 60 2)) dX11_call_134 fl_11_194 (hG.m0 (by decide)) rfl ?_
    obtain ⟨g16, h⟩ := am_gd_some h
    refine am_iastG dX11_call_137 (hG.m0 (by decide)) rfl g16 (show 4 < 2 ^ 31 by decide) ?_
    obtain ⟨I17, hI17, h⟩ := am_lt_some h
    refine am_st10 hI17 ?_
    refine am_aload_n dX11_call_138 rfl ?_
    refine am_get (v := .inr (0, 90)) dX11_call_139 fl_11_90 (hG.m0 (by decide)) rfl ?_
    refine am_iload_n dX11_call_142 rfl ?_
    refine am_iconst (v := nI 0) dX11_call_143 (by decide) ?_
    obtain ⟨g18, h⟩ := am_gd_some h
    refine am_iastG dX11_call_144 (hG.m0 (by decide)) rfl g18 (show 4 < 2 ^ 31 by decide) ?_
    obtain ⟨I19, hI19, h⟩ := am_lt_some h
    refine am_st10 hI19 ?_
    refine am_aload_n dX11_call_145 rfl ?_
    refine am_get (v := .inr (0, 91)) dX11_call_146 fl_11_93 (hG.m0 (by decide)) rfl ?_
    refine am_iload_n dX11_call_149 rfl ?_
    refine am_iconst (v := nI 0) dX11_call_150 (by decide) ?_
    obtain ⟨g20, h⟩ := am_gd_some h
    refine am_iastG dX11_call_151 (hG.m0 (by decide)) rfl g20 (show 4 < 2 ^ 31 by decide) ?_
    obtain ⟨I21, hI21, h⟩ := am_lt_some h
    refine am_st10 hI21 ?_
    refine am_aload_n dX11_call_152 rfl ?_
    refine am_get (v := .inr (0, 92)) dX11_call_153 fl_11_96 (hG.m0 (by decide)) rfl ?_
    refine am_iload_n dX11_call_156 rfl ?_
    refine am_iconst (v := nI 0) dX11_call_157 (by decide) ?_
    obtain ⟨g22, h⟩ := am_gd_some h
    refine am_iastG dX11_call_158 (hG.m0 (by decide)) rfl g22 (show 4 < 2 ^ 31 by decide) ?_
    obtain ⟨I23, hI23, h⟩ := am_lt_some h
    refine am_st10 hI23 ?_
    refine am_aload_n dX11_call_159 rfl ?_
    refine am_get (v := .inr (0, 93)) dX11_call_160 fl_11_99 (hG.m0 (by decide)) rfl ?_
    refine am_iload_n dX11_call_163 rfl ?_
    refine am_iconst (v := nI 0) dX11_call_164 (by decide) ?_
    obtain ⟨g24, h⟩ := am_gd_some h
    refine am_zastG dX11_call_165 (hG.m0 (by decide)) rfl (by decide) g24 (show 4 < 2 ^ 31 by decide) ?_
    obtain ⟨I25, hI25, h⟩ := am_lt_some h
    refine am_st10 hI25 ?_
    refine am_iconst (v := nI 0) dX11_call_166 (by decide) ?_
    refine am_istore dX11_call_167 (by decide) ?_
    exact am_lwJ (lo' := [some (.inr (0, 60)), some (.inl l1), none, none, none, none, none, none, some (.inl (nI 0))]) ⟨rfl, rfl, rfl, trivial⟩ (tX11_call_169 hG h)
  · rw [if_neg c] at h
    refine am_iconst (v := nI 0) dX11_call_74 (by decide) ?_
    cases h
    exact am_iret dX11_call_75 rfl rfl ⟨rfl, rfl⟩
def bX11_call_66 (n : Nat) (l1 : Int32) (l2 : Int32) (l3 : Int32) (l4 : Int32) (l5 : Int32) (l6 : Int32) (s0 : Int32) (I : am_I) : Option (Int32 × am_I) := bX11_call_67 n l1 l2 l3 l4 l5 l6 (nI 0) s0 I
theorem tX11_call_66 {G : am_G} (hG : am_okM G) {d : Nat} {l1 : Int32} {l2 : Int32} {l3 : Int32} {l4 : Int32} {l5 : Int32} {l6 : Int32} {s0 : Int32} {I : am_I} {r : Int32 × am_I} (h : bX11_call_66 G.2.2.2.1 l1 l2 l3 l4 l5 l6 s0  I = some r) : am_J G (d + 11) mX11_call am_no (am_E (some r.1) r.2) 66 [some (.inr (0, 60)), some (.inl l1), some (.inl l2), some (.inl l3), some (.inl l4), some (.inl l5), some (.inl l6), none, none] [.inl s0, .inr (0, 60)] I := by
  unfold bX11_call_66 at h
  refine am_iconst (v := nI 0) dX11_call_66 (by decide) ?_
  exact am_lwJ (lo' := [some (.inr (0, 60)), some (.inl l1), some (.inl l2), some (.inl l3), some (.inl l4), some (.inl l5), some (.inl l6), none, none]) ⟨rfl, rfl, rfl, rfl, rfl, rfl, rfl, trivial⟩ (tX11_call_67 hG h)
def bX11_call_62 (n : Nat) (l1 : Int32) (l2 : Int32) (l3 : Int32) (l4 : Int32) (l5 : Int32) (l6 : Int32) (s0 : Int32) (I : am_I) : Option (Int32 × am_I) := bX11_call_67 n l1 l2 l3 l4 l5 l6 (nI 1) s0 I
theorem tX11_call_62 {G : am_G} (hG : am_okM G) {d : Nat} {l1 : Int32} {l2 : Int32} {l3 : Int32} {l4 : Int32} {l5 : Int32} {l6 : Int32} {s0 : Int32} {I : am_I} {r : Int32 × am_I} (h : bX11_call_62 G.2.2.2.1 l1 l2 l3 l4 l5 l6 s0  I = some r) : am_J G (d + 11) mX11_call am_no (am_E (some r.1) r.2) 62 [some (.inr (0, 60)), some (.inl l1), some (.inl l2), some (.inl l3), some (.inl l4), some (.inl l5), some (.inl l6), none, none] [.inl s0, .inr (0, 60)] I := by
  unfold bX11_call_62 at h
  refine am_iconst (v := nI 1) dX11_call_62 (by decide) ?_
  refine am_goto (tgt := 67) dX11_call_63 rfl ?_
  exact am_lwJ (lo' := [some (.inr (0, 60)), some (.inl l1), some (.inl l2), some (.inl l3), some (.inl l4), some (.inl l5), some (.inl l6), none, none]) ⟨rfl, rfl, rfl, rfl, rfl, rfl, rfl, trivial⟩ (tX11_call_67 hG h)
def bX11_call_40 (n : Nat) (l1 : Int32) (l2 : Int32) (l3 : Int32) (l4 : Int32) (l5 : Int32) (l6 : Int32) (l7 : Int32) (s0 : Int32) (I : am_I) : Option (Int32 × am_I) := if l7 = 0 then (bX11_call_66 n l1 l2 l3 l4 l5 l6 s0 I) else (am_gd (am_inb l1 4) (if (I 0 65 l1.toNatClampNeg) = 0 then (bX11_call_62 n l1 l2 l3 l4 l5 l6 s0 I) else ((gX11_isCalling n l1 I).bind (fun q2 => if q2.1 = 0 then (bX11_call_66 n l1 l2 l3 l4 l5 l6 s0 q2.2) else (bX11_call_62 n l1 l2 l3 l4 l5 l6 s0 q2.2)))))
theorem tX11_call_40 {G : am_G} (hG : am_okM G) {d : Nat} {l1 : Int32} {l2 : Int32} {l3 : Int32} {l4 : Int32} {l5 : Int32} {l6 : Int32} {l7 : Int32} {s0 : Int32} {I : am_I} {r : Int32 × am_I} (h : bX11_call_40 G.2.2.2.1 l1 l2 l3 l4 l5 l6 l7 s0  I = some r) : am_J G (d + 11) mX11_call am_no (am_E (some r.1) r.2) 40 [some (.inr (0, 60)), some (.inl l1), some (.inl l2), some (.inl l3), some (.inl l4), some (.inl l5), some (.inl l6), some (.inl l7), none] [.inl s0, .inr (0, 60)] I := by
  unfold bX11_call_40 at h
  refine am_iload dX11_call_40 rfl ?_
  refine am_if_eq (tgt := 66) dX11_call_42 rfl (fun c => ?_) (fun c => ?_)
  · rw [if_pos c] at h
    exact am_lwJ (lo' := [some (.inr (0, 60)), some (.inl l1), some (.inl l2), some (.inl l3), some (.inl l4), some (.inl l5), some (.inl l6), none, none]) ⟨rfl, rfl, rfl, rfl, rfl, rfl, rfl, trivial⟩ (tX11_call_66 hG h)
  · rw [if_neg c] at h
    refine am_aload_n dX11_call_45 rfl ?_
    refine am_get (v := .inr (0, 65)) dX11_call_46 fl_11_13 (hG.m0 (by decide)) rfl ?_
    refine am_iload_n dX11_call_49 rfl ?_
    obtain ⟨g1, h⟩ := am_gd_some h
    refine am_zaldG dX11_call_50 (hG.m0 (by decide)) rfl g1 (show 4 < 2 ^ 31 by decide) ?_
    refine am_if_eq (tgt := 62) dX11_call_51 rfl (fun c => ?_) (fun c => ?_)
    · rw [if_pos c] at h
      exact am_lwJ (lo' := [some (.inr (0, 60)), some (.inl l1), some (.inl l2), some (.inl l3), some (.inl l4), some (.inl l5), some (.inl l6), none, none]) ⟨rfl, rfl, rfl, rfl, rfl, rfl, rfl, trivial⟩ (tX11_call_62 hG h)
    · rw [if_neg c] at h
      refine am_aload_n dX11_call_54 rfl ?_
      refine am_iload_n dX11_call_55 rfl ?_
      obtain ⟨q2, hq2, h⟩ := am_bd h
      refine am_callVx (i := 0) (j := 60) (as := [.inl l1]) (rest := [.inl s0, .inr (0, 60)]) dX11_call_56 lkX11_isCalling ml_X11_264 imX11_isCalling seX11_isCalling rfl rfl (hG.m0 (by decide)) rfl (Nat.le_of_ble_eq_true rfl) rfl (sX11_isCalling hG hq2) ?_
      refine am_if_eq (tgt := 66) dX11_call_59 rfl (fun c => ?_) (fun c => ?_)
      · rw [if_pos c] at h
        exact am_lwJ (lo' := [some (.inr (0, 60)), some (.inl l1), some (.inl l2), some (.inl l3), some (.inl l4), some (.inl l5), some (.inl l6), none, none]) ⟨rfl, rfl, rfl, rfl, rfl, rfl, rfl, trivial⟩ (tX11_call_66 hG h)
      · rw [if_neg c] at h
        exact am_lwJ (lo' := [some (.inr (0, 60)), some (.inl l1), some (.inl l2), some (.inl l3), some (.inl l4), some (.inl l5), some (.inl l6), none, none]) ⟨rfl, rfl, rfl, rfl, rfl, rfl, rfl, trivial⟩ (tX11_call_62 hG h)
def bX11_call_27 (n : Nat) (l1 : Int32) (l2 : Int32) (l3 : Int32) (l4 : Int32) (l5 : Int32) (l6 : Int32) (s0 : Int32) (I : am_I) : Option (Int32 × am_I) := if s0 = 0 then (bX11_call_40 n l1 l2 l3 l4 l5 l6 s0 (nI 1) I) else (bX11_call_40 n l1 l2 l3 l4 l5 l6 s0 (nI 0) I)
theorem tX11_call_27 {G : am_G} (hG : am_okM G) {d : Nat} {l1 : Int32} {l2 : Int32} {l3 : Int32} {l4 : Int32} {l5 : Int32} {l6 : Int32} {s0 : Int32} {I : am_I} {r : Int32 × am_I} (h : bX11_call_27 G.2.2.2.1 l1 l2 l3 l4 l5 l6 s0  I = some r) : am_J G (d + 11) mX11_call am_no (am_E (some r.1) r.2) 27 [some (.inr (0, 60)), some (.inl l1), some (.inl l2), some (.inl l3), some (.inl l4), some (.inl l5), some (.inl l6), none, none] [.inl s0] I := by
  unfold bX11_call_27 at h
  refine am_istore dX11_call_27 (by decide) ?_
  refine am_aload_n dX11_call_29 rfl ?_
  refine am_iload dX11_call_30 rfl ?_
  refine am_if_ne (tgt := 39) dX11_call_32 rfl (fun c => ?_) (fun c => ?_)
  · rw [if_neg c] at h
    refine am_iconst (v := nI 0) dX11_call_39 (by decide) ?_
    exact am_lwJ (lo' := [some (.inr (0, 60)), some (.inl l1), some (.inl l2), some (.inl l3), some (.inl l4), some (.inl l5), some (.inl l6), some (.inl s0), none]) ⟨rfl, rfl, rfl, rfl, rfl, rfl, rfl, rfl, trivial⟩ (tX11_call_40 hG h)
  · rw [if_pos c] at h
    refine am_iconst (v := nI 1) dX11_call_35 (by decide) ?_
    refine am_goto (tgt := 40) dX11_call_36 rfl ?_
    exact am_lwJ (lo' := [some (.inr (0, 60)), some (.inl l1), some (.inl l2), some (.inl l3), some (.inl l4), some (.inl l5), some (.inl l6), some (.inl s0), none]) ⟨rfl, rfl, rfl, rfl, rfl, rfl, rfl, rfl, trivial⟩ (tX11_call_40 hG h)
def bX11_call_26 (n : Nat) (l1 : Int32) (l2 : Int32) (l3 : Int32) (l4 : Int32) (l5 : Int32) (l6 : Int32) (I : am_I) : Option (Int32 × am_I) := bX11_call_27 n l1 l2 l3 l4 l5 l6 (nI 0) I
theorem tX11_call_26 {G : am_G} (hG : am_okM G) {d : Nat} {l1 : Int32} {l2 : Int32} {l3 : Int32} {l4 : Int32} {l5 : Int32} {l6 : Int32} {I : am_I} {r : Int32 × am_I} (h : bX11_call_26 G.2.2.2.1 l1 l2 l3 l4 l5 l6  I = some r) : am_J G (d + 11) mX11_call am_no (am_E (some r.1) r.2) 26 [some (.inr (0, 60)), some (.inl l1), some (.inl l2), some (.inl l3), some (.inl l4), some (.inl l5), some (.inl l6), none, none] [] I := by
  unfold bX11_call_26 at h
  refine am_iconst (v := nI 0) dX11_call_26 (by decide) ?_
  exact am_lwJ (lo' := [some (.inr (0, 60)), some (.inl l1), some (.inl l2), some (.inl l3), some (.inl l4), some (.inl l5), some (.inl l6), none, none]) ⟨rfl, rfl, rfl, rfl, rfl, rfl, rfl, trivial⟩ (tX11_call_27 hG h)
def bX11_call_0 (n : Nat) (l1 : Int32) (l2 : Int32) (l3 : Int32) (l4 : Int32) (l5 : Int32) (l6 : Int32) (I : am_I) : Option (Int32 × am_I) := (gX11_isNode n l1 I).bind (fun q1 => if q1.1 = 0 then (bX11_call_26 n l1 l2 l3 l4 l5 l6 q1.2) else ((gX11_isGiven n l2 l3 l4 l5 l6 q1.2).bind (fun q2 => if q2.1 = 0 then (bX11_call_26 n l1 l2 l3 l4 l5 l6 q2.2) else (bX11_call_27 n l1 l2 l3 l4 l5 l6 (nI 1) q2.2))))
theorem tX11_call_0 {G : am_G} (hG : am_okM G) {d : Nat} {l1 : Int32} {l2 : Int32} {l3 : Int32} {l4 : Int32} {l5 : Int32} {l6 : Int32} {I : am_I} {r : Int32 × am_I} (h : bX11_call_0 G.2.2.2.1 l1 l2 l3 l4 l5 l6  I = some r) : am_J G (d + 11) mX11_call am_no (am_E (some r.1) r.2) 0 [some (.inr (0, 60)), some (.inl l1), some (.inl l2), some (.inl l3), some (.inl l4), some (.inl l5), some (.inl l6), none, none] [] I := by
  unfold bX11_call_0 at h
  refine am_aload_n dX11_call_0 rfl ?_
  refine am_iload_n dX11_call_1 rfl ?_
  obtain ⟨q1, hq1, h⟩ := am_bd h
  refine am_callVx (i := 0) (j := 60) (as := [.inl l1]) (rest := []) dX11_call_2 lkX11_isNode ml_X11_434 imX11_isNode seX11_isNode rfl rfl (hG.m0 (by decide)) rfl (Nat.le_of_ble_eq_true rfl) rfl (sX11_isNode hG hq1) ?_
  refine am_if_eq (tgt := 26) dX11_call_5 rfl (fun c => ?_) (fun c => ?_)
  · rw [if_pos c] at h
    exact am_lwJ (lo' := [some (.inr (0, 60)), some (.inl l1), some (.inl l2), some (.inl l3), some (.inl l4), some (.inl l5), some (.inl l6), none, none]) ⟨rfl, rfl, rfl, rfl, rfl, rfl, rfl, trivial⟩ (tX11_call_26 hG h)
  · rw [if_neg c] at h
    refine am_iload_n dX11_call_8 rfl ?_
    refine am_iload_n dX11_call_9 rfl ?_
    refine am_iload dX11_call_10 rfl ?_
    refine am_iload dX11_call_12 rfl ?_
    refine am_iload dX11_call_14 rfl ?_
    obtain ⟨q2, hq2, h⟩ := am_bd h
    refine am_callSx (as := [.inl l2, .inl l3, .inl l4, .inl l5, .inl l6]) (rest := []) dX11_call_16 lkX11_isGiven ml_X11_437 isX11_isGiven rfl (Nat.le_of_ble_eq_true rfl) rfl (sX11_isGiven hG hq2) ?_
    refine am_if_eq (tgt := 26) dX11_call_19 rfl (fun c => ?_) (fun c => ?_)
    · rw [if_pos c] at h
      exact am_lwJ (lo' := [some (.inr (0, 60)), some (.inl l1), some (.inl l2), some (.inl l3), some (.inl l4), some (.inl l5), some (.inl l6), none, none]) ⟨rfl, rfl, rfl, rfl, rfl, rfl, rfl, trivial⟩ (tX11_call_26 hG h)
    · rw [if_neg c] at h
      refine am_iconst (v := nI 1) dX11_call_22 (by decide) ?_
      refine am_goto (tgt := 27) dX11_call_23 rfl ?_
      exact am_lwJ (lo' := [some (.inr (0, 60)), some (.inl l1), some (.inl l2), some (.inl l3), some (.inl l4), some (.inl l5), some (.inl l6), none, none]) ⟨rfl, rfl, rfl, rfl, rfl, rfl, rfl, trivial⟩ (tX11_call_27 hG h)
def gX11_call (n : Nat) (l1 : Int32) (l2 : Int32) (l3 : Int32) (l4 : Int32) (l5 : Int32) (l6 : Int32) (I : am_I) : Option (Int32 × am_I) := bX11_call_0 n l1 l2 l3 l4 l5 l6 I
theorem sX11_call {G : am_G} (hG : am_okM G) {d : Nat} {l1 : Int32} {l2 : Int32} {l3 : Int32} {l4 : Int32} {l5 : Int32} {l6 : Int32} {I : am_I} {r : Int32 × am_I} (h : gX11_call G.2.2.2.1 l1 l2 l3 l4 l5 l6 I = some r) : am_C G (d + 11) mX11_call [.inr (0, 60), .inl l1, .inl l2, .inl l3, .inl l4, .inl l5, .inl l6] I (am_E (some r.1) r.2) :=
  am_of (by decide +kernel) hG.nd (Nat.le_of_ble_eq_true rfl) (am_lwJ (lo' := [some (.inr (0, 60)), some (.inl l1), some (.inl l2), some (.inl l3), some (.inl l4), some (.inl l5), some (.inl l6), none, none]) ⟨rfl, rfl, rfl, rfl, rfl, rfl, rfl, trivial⟩ (tX11_call_0 hG h))
def bX11_delay_51 (n : Nat) (I : am_I) : Option (am_I) := some I
theorem tX11_delay_51 {G : am_G} (hG : am_okM G) {d : Nat} {I : am_I} {r : am_I} (h : bX11_delay_51 G.2.2.2.1  I = some r) : am_J G (d + 2) mX11_delay am_no (am_E none r) 51 [none, none, none, none] [] I := by
  unfold bX11_delay_51 at h
  cases h
  exact am_vret dX11_delay_51 rfl ⟨rfl, rfl⟩
def bX11_delay_32 (n : Nat) (l1 : Int32) (l2 : Int32) (l3 : Int32) (s0 : Int32) (I : am_I) : Option (am_I) := (gX11_refuse n s0 (nI 0) (nI 0) I).bind (fun q1 => if q1.1 = 0 then (am_gd (am_inb (((nI 4) * l1) + l2) 16) (am_lt (am_up q1.2 0 107 (((nI 4) * l1) + l2).toNatClampNeg l3) (fun I3 => bX11_delay_51 n I3))) else (bX11_delay_51 n q1.2))
theorem tX11_delay_32 {G : am_G} (hG : am_okM G) {d : Nat} {l1 : Int32} {l2 : Int32} {l3 : Int32} {s0 : Int32} {I : am_I} {r : am_I} (h : bX11_delay_32 G.2.2.2.1 l1 l2 l3 s0  I = some r) : am_J G (d + 2) mX11_delay am_no (am_E none r) 32 [some (.inr (0, 60)), some (.inl l1), some (.inl l2), some (.inl l3)] [.inl s0, .inr (0, 60)] I := by
  unfold bX11_delay_32 at h
  refine am_iconst (v := nI 0) dX11_delay_32 (by decide) ?_
  refine am_iconst (v := nI 0) dX11_delay_33 (by decide) ?_
  obtain ⟨q1, hq1, h⟩ := am_bd h
  refine am_callVx (i := 0) (j := 60) (as := [.inl s0, .inl (nI 0), .inl (nI 0)]) (rest := []) dX11_delay_34 lkX11_refuse ml_X11_441 imX11_refuse seX11_refuse rfl rfl (hG.m0 (by decide)) rfl (Nat.le_of_ble_eq_true rfl) rfl (sX11_refuse hG hq1) ?_
  refine am_if_ne (tgt := 51) dX11_delay_37 rfl (fun c => ?_) (fun c => ?_)
  · rw [if_neg c] at h
    exact am_lwJ (lo' := [none, none, none, none]) trivial (tX11_delay_51 hG h)
  · rw [if_pos c] at h
    refine am_aload_n dX11_delay_40 rfl ?_
    refine am_get (v := .inr (0, 107)) dX11_delay_41 fl_11_135 (hG.m0 (by decide)) rfl ?_
    refine am_iconst (v := nI 4) dX11_delay_44 (by decide) ?_
    refine am_iload_n dX11_delay_45 rfl ?_
    refine am_imul dX11_delay_46 ?_
    refine am_iload_n dX11_delay_47 rfl ?_
    refine am_iadd dX11_delay_48 ?_
    refine am_iload_n dX11_delay_49 rfl ?_
    obtain ⟨g2, h⟩ := am_gd_some h
    refine am_iastG dX11_delay_50 (hG.m0 (by decide)) rfl g2 (show 16 < 2 ^ 31 by decide) ?_
    obtain ⟨I3, hI3, h⟩ := am_lt_some h
    refine am_st10 hI3 ?_
    exact am_lwJ (lo' := [none, none, none, none]) trivial (tX11_delay_51 hG h)
def bX11_delay_27 (n : Nat) (l1 : Int32) (l2 : Int32) (l3 : Int32) (I : am_I) : Option (am_I) := bX11_delay_32 n l1 l2 l3 (nI 1) I
theorem tX11_delay_27 {G : am_G} (hG : am_okM G) {d : Nat} {l1 : Int32} {l2 : Int32} {l3 : Int32} {I : am_I} {r : am_I} (h : bX11_delay_27 G.2.2.2.1 l1 l2 l3  I = some r) : am_J G (d + 2) mX11_delay am_no (am_E none r) 27 [some (.inr (0, 60)), some (.inl l1), some (.inl l2), some (.inl l3)] [.inr (0, 60)] I := by
  unfold bX11_delay_27 at h
  refine am_iconst (v := nI 1) dX11_delay_27 (by decide) ?_
  refine am_goto (tgt := 32) dX11_delay_28 rfl ?_
  exact am_lwJ (lo' := [some (.inr (0, 60)), some (.inl l1), some (.inl l2), some (.inl l3)]) ⟨rfl, rfl, rfl, rfl, trivial⟩ (tX11_delay_32 hG h)
def bX11_delay_0 (n : Nat) (l1 : Int32) (l2 : Int32) (l3 : Int32) (I : am_I) : Option (am_I) := (gX11_isNode n l1 I).bind (fun q1 => if q1.1 = 0 then (bX11_delay_27 n l1 l2 l3 q1.2) else ((gX11_isNode n l2 q1.2).bind (fun q2 => if q2.1 = 0 then (bX11_delay_27 n l1 l2 l3 q2.2) else ((gX11_in n l3 (nI 1) (nI 20) q2.2).bind (fun q3 => if q3.1 = 0 then (bX11_delay_27 n l1 l2 l3 q3.2) else (bX11_delay_32 n l1 l2 l3 (nI 0) q3.2))))))
theorem tX11_delay_0 {G : am_G} (hG : am_okM G) {d : Nat} {l1 : Int32} {l2 : Int32} {l3 : Int32} {I : am_I} {r : am_I} (h : bX11_delay_0 G.2.2.2.1 l1 l2 l3  I = some r) : am_J G (d + 2) mX11_delay am_no (am_E none r) 0 [some (.inr (0, 60)), some (.inl l1), some (.inl l2), some (.inl l3)] [] I := by
  unfold bX11_delay_0 at h
  refine am_aload_n dX11_delay_0 rfl ?_
  refine am_aload_n dX11_delay_1 rfl ?_
  refine am_iload_n dX11_delay_2 rfl ?_
  obtain ⟨q1, hq1, h⟩ := am_bd h
  refine am_callVx (i := 0) (j := 60) (as := [.inl l1]) (rest := [.inr (0, 60)]) dX11_delay_3 lkX11_isNode ml_X11_434 imX11_isNode seX11_isNode rfl rfl (hG.m0 (by decide)) rfl (Nat.le_of_ble_eq_true rfl) rfl (sX11_isNode hG hq1) ?_
  refine am_if_eq (tgt := 27) dX11_delay_6 rfl (fun c => ?_) (fun c => ?_)
  · rw [if_pos c] at h
    exact am_lwJ (lo' := [some (.inr (0, 60)), some (.inl l1), some (.inl l2), some (.inl l3)]) ⟨rfl, rfl, rfl, rfl, trivial⟩ (tX11_delay_27 hG h)
  · rw [if_neg c] at h
    refine am_aload_n dX11_delay_9 rfl ?_
    refine am_iload_n dX11_delay_10 rfl ?_
    obtain ⟨q2, hq2, h⟩ := am_bd h
    refine am_callVx (i := 0) (j := 60) (as := [.inl l2]) (rest := [.inr (0, 60)]) dX11_delay_11 lkX11_isNode ml_X11_434 imX11_isNode seX11_isNode rfl rfl (hG.m0 (by decide)) rfl (Nat.le_of_ble_eq_true rfl) rfl (sX11_isNode hG hq2) ?_
    refine am_if_eq (tgt := 27) dX11_delay_14 rfl (fun c => ?_) (fun c => ?_)
    · rw [if_pos c] at h
      exact am_lwJ (lo' := [some (.inr (0, 60)), some (.inl l1), some (.inl l2), some (.inl l3)]) ⟨rfl, rfl, rfl, rfl, trivial⟩ (tX11_delay_27 hG h)
    · rw [if_neg c] at h
      refine am_iload_n dX11_delay_17 rfl ?_
      refine am_iconst (v := nI 1) dX11_delay_18 (by decide) ?_
      refine am_bipush (v := nI 20) dX11_delay_19 (by decide) ?_
      obtain ⟨q3, hq3, h⟩ := am_bd h
      refine am_callSx (as := [.inl l3, .inl (nI 1), .inl (nI 20)]) (rest := [.inr (0, 60)]) dX11_delay_21 lkX11_in ml_X11_243 isX11_in rfl (Nat.le_of_ble_eq_true rfl) rfl (sX11_in hG hq3) ?_
      refine am_if_ne (tgt := 31) dX11_delay_24 rfl (fun c => ?_) (fun c => ?_)
      · rw [if_neg c] at h
        refine am_iconst (v := nI 0) dX11_delay_31 (by decide) ?_
        exact am_lwJ (lo' := [some (.inr (0, 60)), some (.inl l1), some (.inl l2), some (.inl l3)]) ⟨rfl, rfl, rfl, rfl, trivial⟩ (tX11_delay_32 hG h)
      · rw [if_pos c] at h
        exact am_lwJ (lo' := [some (.inr (0, 60)), some (.inl l1), some (.inl l2), some (.inl l3)]) ⟨rfl, rfl, rfl, rfl, trivial⟩ (tX11_delay_27 hG h)
def gX11_delay (n : Nat) (l1 : Int32) (l2 : Int32) (l3 : Int32) (I : am_I) : Option (am_I) := bX11_delay_0 n l1 l2 l3 I
theorem sX11_delay {G : am_G} (hG : am_okM G) {d : Nat} {l1 : Int32} {l2 : Int32} {l3 : Int32} {I : am_I} {r : am_I} (h : gX11_delay G.2.2.2.1 l1 l2 l3 I = some r) : am_C G (d + 2) mX11_delay [.inr (0, 60), .inl l1, .inl l2, .inl l3] I (am_E none r) :=
  am_of (by decide +kernel) hG.nd (Nat.le_of_ble_eq_true rfl) (am_lwJ (lo' := [some (.inr (0, 60)), some (.inl l1), some (.inl l2), some (.inl l3)]) ⟨rfl, rfl, rfl, rfl, trivial⟩ (tX11_delay_0 hG h))
def bX11_removeMessage_12 (n : Nat) : Nat → Int32 → am_I → Option (am_I)
  | 0, _, _ => none
  | fu + 1, l2, I => (fun k12 => if (I 0 60 38) ≤ l2 then (some I) else (am_gd (am_inb (l2 + (nI 1)) 4096) (am_gd (am_inb l2 4096) (am_lt (am_up I 0 101 l2.toNatClampNeg (I 0 101 ((l2 + (nI 1)).toNatClampNeg))) (fun I3 => am_gd (am_inb (l2 + (nI 1)) 4096) (am_gd (am_inb l2 4096) (am_lt (am_up I3 0 102 l2.toNatClampNeg (I3 0 102 ((l2 + (nI 1)).toNatClampNeg))) (fun I6 => am_gd (am_inb (l2 + (nI 1)) 4096) (am_gd (am_inb l2 4096) (am_lt (am_up I6 0 103 l2.toNatClampNeg (I6 0 103 ((l2 + (nI 1)).toNatClampNeg))) (fun I9 => am_gd (am_inb (l2 + (nI 1)) 4096) (am_gd (am_inb l2 4096) (am_lt (am_up I9 0 104 l2.toNatClampNeg (I9 0 104 ((l2 + (nI 1)).toNatClampNeg))) (fun I12 => am_gd (am_inb (l2 + (nI 1)) 4096) (am_gd (am_inb l2 4096) (am_lt (am_up I12 0 105 l2.toNatClampNeg (I12 0 105 ((l2 + (nI 1)).toNatClampNeg))) (fun I15 => am_gd (am_inb (l2 + (nI 1)) 4096) (am_gd (am_inb l2 4096) (am_lt (am_up I15 0 106 l2.toNatClampNeg (I15 0 106 ((l2 + (nI 1)).toNatClampNeg))) (fun I18 => k12 (l2 + nI 1) I18)))))))))))))))))))) (bX11_removeMessage_12 n fu)
theorem tX11_removeMessage_12 {G : am_G} (hG : am_okM G) {d : Nat} : ∀ {fu : Nat} {l2 : Int32} {I : am_I} {r : am_I}, bX11_removeMessage_12 G.2.2.2.1 fu l2 I = some r → am_J G d mX11_removeMessage am_no (am_E none r) 12 [some (.inr (0, 60)), none, some (.inl l2)] [] I := by
  intro fu
  induction fu with
  | zero => intro l2 I r h; cases h
  | succ fu ih =>
    intro l2 I r h
    have hk12 : ∀ (l2 : Int32) (I : am_I) (r : am_I), bX11_removeMessage_12 G.2.2.2.1 fu l2 I = some r → am_J G d mX11_removeMessage am_no (am_E none r) 12 [some (.inr (0, 60)), none, some (.inl l2)] [] I := fun l2 I r h => ih h
    unfold bX11_removeMessage_12 at h
    generalize bX11_removeMessage_12 G.2.2.2.1 fu = k12 at hk12 h
    dsimp only at h
    refine am_iload_n dX11_removeMessage_12 rfl ?_
    refine am_aload_n dX11_removeMessage_13 rfl ?_
    refine am_get (v := .inl (I 0 60 38)) dX11_removeMessage_14 fl_11_197 (hG.m0 (by decide)) rfl ?_
    refine am_icmp_ge (tgt := 110) dX11_removeMessage_17 rfl (fun c => ?_) (fun c => ?_)
    · rw [if_pos c] at h
      cases h
      exact am_vret dX11_removeMessage_110 rfl ⟨rfl, rfl⟩
    · rw [if_neg c] at h
      refine am_aload_n dX11_removeMessage_20 rfl ?_
      refine am_get (v := .inr (0, 101)) dX11_removeMessage_21 fl_11_117 (hG.m0 (by decide)) rfl ?_
      refine am_iload_n dX11_removeMessage_24 rfl ?_
      refine am_aload_n dX11_removeMessage_25 rfl ?_
      refine am_get (v := .inr (0, 101)) dX11_removeMessage_26 fl_11_117 (hG.m0 (by decide)) rfl ?_
      refine am_iload_n dX11_removeMessage_29 rfl ?_
      refine am_iconst (v := nI 1) dX11_removeMessage_30 (by decide) ?_
      refine am_iadd dX11_removeMessage_31 ?_
      obtain ⟨g1, h⟩ := am_gd_some h
      refine am_ialdG dX11_removeMessage_32 (hG.m0 (by decide)) rfl g1 (show 4096 < 2 ^ 31 by decide) ?_
      obtain ⟨g2, h⟩ := am_gd_some h
      refine am_iastG dX11_removeMessage_33 (hG.m0 (by decide)) rfl g2 (show 4096 < 2 ^ 31 by decide) ?_
      obtain ⟨I3, hI3, h⟩ := am_lt_some h
      refine am_st10 hI3 ?_
      refine am_aload_n dX11_removeMessage_34 rfl ?_
      refine am_get (v := .inr (0, 102)) dX11_removeMessage_35 fl_11_120 (hG.m0 (by decide)) rfl ?_
      refine am_iload_n dX11_removeMessage_38 rfl ?_
      refine am_aload_n dX11_removeMessage_39 rfl ?_
      refine am_get (v := .inr (0, 102)) dX11_removeMessage_40 fl_11_120 (hG.m0 (by decide)) rfl ?_
      refine am_iload_n dX11_removeMessage_43 rfl ?_
      refine am_iconst (v := nI 1) dX11_removeMessage_44 (by decide) ?_
      refine am_iadd dX11_removeMessage_45 ?_
      obtain ⟨g4, h⟩ := am_gd_some h
      refine am_ialdG dX11_removeMessage_46 (hG.m0 (by decide)) rfl g4 (show 4096 < 2 ^ 31 by decide) ?_
      obtain ⟨g5, h⟩ := am_gd_some h
      refine am_iastG dX11_removeMessage_47 (hG.m0 (by decide)) rfl g5 (show 4096 < 2 ^ 31 by decide) ?_
      obtain ⟨I6, hI6, h⟩ := am_lt_some h
      refine am_st10 hI6 ?_
      refine am_aload_n dX11_removeMessage_48 rfl ?_
      refine am_get (v := .inr (0, 103)) dX11_removeMessage_49 fl_11_123 (hG.m0 (by decide)) rfl ?_
      refine am_iload_n dX11_removeMessage_52 rfl ?_
      refine am_aload_n dX11_removeMessage_53 rfl ?_
      refine am_get (v := .inr (0, 103)) dX11_removeMessage_54 fl_11_123 (hG.m0 (by decide)) rfl ?_
      refine am_iload_n dX11_removeMessage_57 rfl ?_
      refine am_iconst (v := nI 1) dX11_removeMessage_58 (by decide) ?_
      refine am_iadd dX11_removeMessage_59 ?_
      obtain ⟨g7, h⟩ := am_gd_some h
      refine am_ialdG dX11_removeMessage_60 (hG.m0 (by decide)) rfl g7 (show 4096 < 2 ^ 31 by decide) ?_
      obtain ⟨g8, h⟩ := am_gd_some h
      refine am_iastG dX11_removeMessage_61 (hG.m0 (by decide)) rfl g8 (show 4096 < 2 ^ 31 by decide) ?_
      obtain ⟨I9, hI9, h⟩ := am_lt_some h
      refine am_st10 hI9 ?_
      refine am_aload_n dX11_removeMessage_62 rfl ?_
      refine am_get (v := .inr (0, 104)) dX11_removeMessage_63 fl_11_126 (hG.m0 (by decide)) rfl ?_
      refine am_iload_n dX11_removeMessage_66 rfl ?_
      refine am_aload_n dX11_removeMessage_67 rfl ?_
      refine am_get (v := .inr (0, 104)) dX11_removeMessage_68 fl_11_126 (hG.m0 (by decide)) rfl ?_
      refine am_iload_n dX11_removeMessage_71 rfl ?_
      refine am_iconst (v := nI 1) dX11_removeMessage_72 (by decide) ?_
      refine am_iadd dX11_removeMessage_73 ?_
      obtain ⟨g10, h⟩ := am_gd_some h
      refine am_ialdG dX11_removeMessage_74 (hG.m0 (by decide)) rfl g10 (show 4096 < 2 ^ 31 by decide) ?_
      obtain ⟨g11, h⟩ := am_gd_some h
      refine am_iastG dX11_removeMessage_75 (hG.m0 (by decide)) rfl g11 (show 4096 < 2 ^ 31 by decide) ?_
      obtain ⟨I12, hI12, h⟩ := am_lt_some h
      refine am_st10 hI12 ?_
      refine am_aload_n dX11_removeMessage_76 rfl ?_
      refine am_get (v := .inr (0, 105)) dX11_removeMessage_77 fl_11_129 (hG.m0 (by decide)) rfl ?_
      refine am_iload_n dX11_removeMessage_80 rfl ?_
      refine am_aload_n dX11_removeMessage_81 rfl ?_
      refine am_get (v := .inr (0, 105)) dX11_removeMessage_82 fl_11_129 (hG.m0 (by decide)) rfl ?_
      refine am_iload_n dX11_removeMessage_85 rfl ?_
      refine am_iconst (v := nI 1) dX11_removeMessage_86 (by decide) ?_
      refine am_iadd dX11_removeMessage_87 ?_
      obtain ⟨g13, h⟩ := am_gd_some h
      refine am_ialdG dX11_removeMessage_88 (hG.m0 (by decide)) rfl g13 (show 4096 < 2 ^ 31 by decide) ?_
      obtain ⟨g14, h⟩ := am_gd_some h
      refine am_iastG dX11_removeMessage_89 (hG.m0 (by decide)) rfl g14 (show 4096 < 2 ^ 31 by decide) ?_
      obtain ⟨I15, hI15, h⟩ := am_lt_some h
      refine am_st10 hI15 ?_
      refine am_aload_n dX11_removeMessage_90 rfl ?_
      refine am_get (v := .inr (0, 106)) dX11_removeMessage_91 fl_11_132 (hG.m0 (by decide)) rfl ?_
      refine am_iload_n dX11_removeMessage_94 rfl ?_
      refine am_aload_n dX11_removeMessage_95 rfl ?_
      refine am_get (v := .inr (0, 106)) dX11_removeMessage_96 fl_11_132 (hG.m0 (by decide)) rfl ?_
      refine am_iload_n dX11_removeMessage_99 rfl ?_
      refine am_iconst (v := nI 1) dX11_removeMessage_100 (by decide) ?_
      refine am_iadd dX11_removeMessage_101 ?_
      obtain ⟨g16, h⟩ := am_gd_some h
      refine am_ialdG dX11_removeMessage_102 (hG.m0 (by decide)) rfl g16 (show 4096 < 2 ^ 31 by decide) ?_
      obtain ⟨g17, h⟩ := am_gd_some h
      refine am_iastG dX11_removeMessage_103 (hG.m0 (by decide)) rfl g17 (show 4096 < 2 ^ 31 by decide) ?_
      obtain ⟨I18, hI18, h⟩ := am_lt_some h
      refine am_st10 hI18 ?_
      refine am_iinc (v := l2 + nI 1) dX11_removeMessage_104 rfl rfl ?_
      refine am_goto (tgt := 12) dX11_removeMessage_107 rfl ?_
      exact am_lwJ (lo' := [some (.inr (0, 60)), none, some (.inl (l2 + nI 1))]) ⟨rfl, rfl, trivial⟩ (hk12 (l2 + nI 1) _ _ h)
def bX11_removeMessage_0 (n : Nat) (l1 : Int32) (I : am_I) : Option (am_I) := am_lt (am_up I 0 60 38 ((I 0 60 38) - (nI 1))) (fun I1 => bX11_removeMessage_12 n am_fu l1 I1)
theorem tX11_removeMessage_0 {G : am_G} (hG : am_okM G) {d : Nat} {l1 : Int32} {I : am_I} {r : am_I} (h : bX11_removeMessage_0 G.2.2.2.1 l1  I = some r) : am_J G d mX11_removeMessage am_no (am_E none r) 0 [some (.inr (0, 60)), some (.inl l1), none] [] I := by
  unfold bX11_removeMessage_0 at h
  refine am_aload_n dX11_removeMessage_0 rfl ?_
  refine am_dup dX11_removeMessage_1 ?_
  refine am_get (v := .inl (I 0 60 38)) dX11_removeMessage_2 fl_11_197 (hG.m0 (by decide)) rfl ?_
  refine am_iconst (v := nI 1) dX11_removeMessage_5 (by decide) ?_
  refine am_isub dX11_removeMessage_6 ?_
  refine am_put (x := (I 0 60 38) - (nI 1)) dX11_removeMessage_7 fp_11_197 (hG.m0 (by decide)) (Nat.le_of_ble_eq_true rfl) rfl ?_
  obtain ⟨I1, hI1, h⟩ := am_lt_some h
  refine am_st10 hI1 ?_
  refine am_iload_n dX11_removeMessage_10 rfl ?_
  refine am_istore_n dX11_removeMessage_11 (by decide) ?_
  exact am_lwJ (lo' := [some (.inr (0, 60)), none, some (.inl l1)]) ⟨rfl, rfl, trivial⟩ (tX11_removeMessage_12 hG h)
def gX11_removeMessage (n : Nat) (l1 : Int32) (I : am_I) : Option (am_I) := bX11_removeMessage_0 n l1 I
theorem sX11_removeMessage {G : am_G} (hG : am_okM G) {d : Nat} {l1 : Int32} {I : am_I} {r : am_I} (h : gX11_removeMessage G.2.2.2.1 l1 I = some r) : am_C G d mX11_removeMessage [.inr (0, 60), .inl l1] I (am_E none r) :=
  am_of (by decide +kernel) hG.nd (Nat.le_of_ble_eq_true rfl) (am_lwJ (lo' := [some (.inr (0, 60)), some (.inl l1), none]) ⟨rfl, rfl, trivial⟩ (tX11_removeMessage_0 hG h))
def bX11_addRequest_0 (n : Nat) (l1 : Int32) (l2 : Int32) (l3 : Int32) (I : am_I) : Option (am_I) := am_gd (am_inb l1 136) (am_gd (am_inb (((nI 16) * l1) + (I 0 96 l1.toNatClampNeg)) 2176) (am_lt (am_up I 0 97 (((nI 16) * l1) + (I 0 96 l1.toNatClampNeg)).toNatClampNeg l2) (fun I3 => am_gd (am_inb (((nI 16) * l1) + (I 0 96 l1.toNatClampNeg)) 2176) (am_lt (am_up I3 0 98 (((nI 16) * l1) + (I 0 96 l1.toNatClampNeg)).toNatClampNeg l3) (fun I5 => am_gd (am_inb l1 136) (am_gd (am_inb l1 136) (am_lt (am_up I5 0 96 l1.toNatClampNeg ((I5 0 96 l1.toNatClampNeg) + (nI 1))) (fun I8 => some I8))))))))
theorem tX11_addRequest_0 {G : am_G} (hG : am_okM G) {d : Nat} {l1 : Int32} {l2 : Int32} {l3 : Int32} {I : am_I} {r : am_I} (h : bX11_addRequest_0 G.2.2.2.1 l1 l2 l3  I = some r) : am_J G d mX11_addRequest am_no (am_E none r) 0 [some (.inr (0, 60)), some (.inl l1), some (.inl l2), some (.inl l3), none] [] I := by
  unfold bX11_addRequest_0 at h
  refine am_bipush (v := nI 16) dX11_addRequest_0 (by decide) ?_
  refine am_iload_n dX11_addRequest_2 rfl ?_
  refine am_imul dX11_addRequest_3 ?_
  refine am_aload_n dX11_addRequest_4 rfl ?_
  refine am_get (v := .inr (0, 96)) dX11_addRequest_5 fl_11_108 (hG.m0 (by decide)) rfl ?_
  refine am_iload_n dX11_addRequest_8 rfl ?_
  obtain ⟨g1, h⟩ := am_gd_some h
  refine am_ialdG dX11_addRequest_9 (hG.m0 (by decide)) rfl g1 (show 136 < 2 ^ 31 by decide) ?_
  refine am_iadd dX11_addRequest_10 ?_
  refine am_istore dX11_addRequest_11 (by decide) ?_
  refine am_aload_n dX11_addRequest_13 rfl ?_
  refine am_get (v := .inr (0, 97)) dX11_addRequest_14 fl_11_111 (hG.m0 (by decide)) rfl ?_
  refine am_iload dX11_addRequest_17 rfl ?_
  refine am_iload_n dX11_addRequest_19 rfl ?_
  obtain ⟨g2, h⟩ := am_gd_some h
  refine am_iastG dX11_addRequest_20 (hG.m0 (by decide)) rfl g2 (show 2176 < 2 ^ 31 by decide) ?_
  obtain ⟨I3, hI3, h⟩ := am_lt_some h
  refine am_st10 hI3 ?_
  refine am_aload_n dX11_addRequest_21 rfl ?_
  refine am_get (v := .inr (0, 98)) dX11_addRequest_22 fl_11_114 (hG.m0 (by decide)) rfl ?_
  refine am_iload dX11_addRequest_25 rfl ?_
  refine am_iload_n dX11_addRequest_27 rfl ?_
  obtain ⟨g4, h⟩ := am_gd_some h
  refine am_iastG dX11_addRequest_28 (hG.m0 (by decide)) rfl g4 (show 2176 < 2 ^ 31 by decide) ?_
  obtain ⟨I5, hI5, h⟩ := am_lt_some h
  refine am_st10 hI5 ?_
  refine am_aload_n dX11_addRequest_29 rfl ?_
  refine am_get (v := .inr (0, 96)) dX11_addRequest_30 fl_11_108 (hG.m0 (by decide)) rfl ?_
  refine am_iload_n dX11_addRequest_33 rfl ?_
  refine am_dup2 dX11_addRequest_34 ?_
  obtain ⟨g6, h⟩ := am_gd_some h
  refine am_ialdG dX11_addRequest_35 (hG.m0 (by decide)) rfl g6 (show 136 < 2 ^ 31 by decide) ?_
  refine am_iconst (v := nI 1) dX11_addRequest_36 (by decide) ?_
  refine am_iadd dX11_addRequest_37 ?_
  obtain ⟨g7, h⟩ := am_gd_some h
  refine am_iastG dX11_addRequest_38 (hG.m0 (by decide)) rfl g7 (show 136 < 2 ^ 31 by decide) ?_
  obtain ⟨I8, hI8, h⟩ := am_lt_some h
  refine am_st10 hI8 ?_
  cases h
  exact am_vret dX11_addRequest_39 rfl ⟨rfl, rfl⟩
def gX11_addRequest (n : Nat) (l1 : Int32) (l2 : Int32) (l3 : Int32) (I : am_I) : Option (am_I) := bX11_addRequest_0 n l1 l2 l3 I
theorem sX11_addRequest {G : am_G} (hG : am_okM G) {d : Nat} {l1 : Int32} {l2 : Int32} {l3 : Int32} {I : am_I} {r : am_I} (h : gX11_addRequest G.2.2.2.1 l1 l2 l3 I = some r) : am_C G d mX11_addRequest [.inr (0, 60), .inl l1, .inl l2, .inl l3] I (am_E none r) :=
  am_of (by decide +kernel) hG.nd (Nat.le_of_ble_eq_true rfl) (am_lwJ (lo' := [some (.inr (0, 60)), some (.inl l1), some (.inl l2), some (.inl l3), none]) ⟨rfl, rfl, rfl, rfl, trivial⟩ (tX11_addRequest_0 hG h))
