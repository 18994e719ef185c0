def bX11_mapOf_0 (n : Nat) (l0 : Int32) (I : am_I) : Option (Int32 × am_I) := some ((nI 128) + ((nI 64) * l0), I)
theorem tX11_mapOf_0 {G : am_G} (hG : am_okM G) {d : Nat} {l0 : Int32} {I : am_I} {r : Int32 × am_I} (h : bX11_mapOf_0 G.2.2.2.1 l0  I = some r) : am_J G d mX11_mapOf am_no (am_E (some r.1) r.2) 0 [some (.inl l0)] [] I := by
  unfold bX11_mapOf_0 at h
  refine am_sipush (v := nI 128) dX11_mapOf_0 (by decide) ?_
  refine am_bipush (v := nI 64) dX11_mapOf_3 (by decide) ?_
  refine am_iload_n dX11_mapOf_5 rfl ?_
  refine am_imul dX11_mapOf_6 ?_
  refine am_iadd dX11_mapOf_7 ?_
  cases h
  exact am_iret dX11_mapOf_8 rfl rfl ⟨rfl, rfl⟩
def gX11_mapOf (n : Nat) (l0 : Int32) (I : am_I) : Option (Int32 × am_I) := bX11_mapOf_0 n l0 I
theorem sX11_mapOf {G : am_G} (hG : am_okM G) {d : Nat} {l0 : Int32} {I : am_I} {r : Int32 × am_I} (h : gX11_mapOf G.2.2.2.1 l0 I = some r) : am_C G d mX11_mapOf [.inl l0] I (am_E (some r.1) r.2) :=
  am_of (by decide +kernel) hG.nd (Nat.le_of_ble_eq_true rfl) (am_lwJ (lo' := [some (.inl l0)]) ⟨rfl, trivial⟩ (tX11_mapOf_0 hG h))
def bX11_inodeBlock_0 (n : Nat) (l0 : Int32) (I : am_I) : Option (Int32 × am_I) := some (((nI 129) + ((nI 64) * (l0 / (nI 16)))) + (l0 - l0 / (nI 16) * (nI 16)), I)
theorem tX11_inodeBlock_0 {G : am_G} (hG : am_okM G) {d : Nat} {l0 : Int32} {I : am_I} {r : Int32 × am_I} (h : bX11_inodeBlock_0 G.2.2.2.1 l0  I = some r) : am_J G d mX11_inodeBlock am_no (am_E (some r.1) r.2) 0 [some (.inl l0)] [] I := by
  unfold bX11_inodeBlock_0 at h
  refine am_sipush (v := nI 129) dX11_inodeBlock_0 (by decide) ?_
  refine am_bipush (v := nI 64) dX11_inodeBlock_3 (by decide) ?_
  refine am_iload_n dX11_inodeBlock_5 rfl ?_
  refine am_bipush (v := nI 16) dX11_inodeBlock_6 (by decide) ?_
  refine am_idiv dX11_inodeBlock_8 (by decide) ?_
  refine am_imul dX11_inodeBlock_9 ?_
  refine am_iadd dX11_inodeBlock_10 ?_
  refine am_iload_n dX11_inodeBlock_11 rfl ?_
  refine am_bipush (v := nI 16) dX11_inodeBlock_12 (by decide) ?_
  refine am_irem dX11_inodeBlock_14 (by decide) ?_
  refine am_iadd dX11_inodeBlock_15 ?_
  cases h
  exact am_iret dX11_inodeBlock_16 rfl rfl ⟨rfl, rfl⟩
def gX11_inodeBlock (n : Nat) (l0 : Int32) (I : am_I) : Option (Int32 × am_I) := bX11_inodeBlock_0 n l0 I
theorem sX11_inodeBlock {G : am_G} (hG : am_okM G) {d : Nat} {l0 : Int32} {I : am_I} {r : Int32 × am_I} (h : gX11_inodeBlock G.2.2.2.1 l0 I = some r) : am_C G d mX11_inodeBlock [.inl l0] I (am_E (some r.1) r.2) :=
  am_of (by decide +kernel) hG.nd (Nat.le_of_ble_eq_true rfl) (am_lwJ (lo' := [some (.inl l0)]) ⟨rfl, trivial⟩ (tX11_inodeBlock_0 hG h))
def bX11_thrown_0 (n : Nat) (I : am_I) : Option (Int32 × am_I) := some (I 0 60 0, I)
theorem tX11_thrown_0 {G : am_G} (hG : am_okM G) {d : Nat} {I : am_I} {r : Int32 × am_I} (h : bX11_thrown_0 G.2.2.2.1  I = some r) : am_J G d mX11_thrown am_no (am_E (some r.1) r.2) 0 [some (.inr (0, 60))] [] I := by
  unfold bX11_thrown_0 at h
  refine am_aload_n dX11_thrown_0 rfl ?_
  refine am_get (v := .inl (I 0 60 0)) dX11_thrown_1 fl_11_188 (hG.m0 (by decide)) rfl ?_
  cases h
  exact am_iret dX11_thrown_4 rfl rfl ⟨rfl, rfl⟩
def gX11_thrown (n : Nat) (I : am_I) : Option (Int32 × am_I) := bX11_thrown_0 n I
theorem sX11_thrown {G : am_G} (hG : am_okM G) {d : Nat} {I : am_I} {r : Int32 × am_I} (h : gX11_thrown G.2.2.2.1 I = some r) : am_C G d mX11_thrown [.inr (0, 60)] I (am_E (some r.1) r.2) :=
  am_of (by decide +kernel) hG.nd (Nat.le_of_ble_eq_true rfl) (am_lwJ (lo' := [some (.inr (0, 60))]) ⟨rfl, trivial⟩ (tX11_thrown_0 hG h))
def bX11_in_15 (n : Nat) (s0 : Int32) (I : am_I) : Option (Int32 × am_I) := am_gd (am_01 s0) (some (s0, I))
theorem tX11_in_15 {G : am_G} (hG : am_okM G) {d : Nat} {s0 : Int32} {I : am_I} {r : Int32 × am_I} (h : bX11_in_15 G.2.2.2.1 s0  I = some r) : am_J G d mX11_in am_no (am_E (some r.1) r.2) 15 [none, none, none] [.inl s0] I := by
  unfold bX11_in_15 at h
  obtain ⟨g1, h⟩ := am_gd_some h
  cases h
  exact am_iret dX11_in_15 rfl (am_nz (am_01_of g1)).1 ⟨rfl, rfl⟩
def bX11_in_14 (n : Nat) (I : am_I) : Option (Int32 × am_I) := bX11_in_15 n (nI 0) I
theorem tX11_in_14 {G : am_G} (hG : am_okM G) {d : Nat} {I : am_I} {r : Int32 × am_I} (h : bX11_in_14 G.2.2.2.1  I = some r) : am_J G d mX11_in am_no (am_E (some r.1) r.2) 14 [none, none, none] [] I := by
  unfold bX11_in_14 at h
  refine am_iconst (v := nI 0) dX11_in_14 (by decide) ?_
  exact am_lwJ (lo' := [none, none, none]) trivial (tX11_in_15 hG h)
def bX11_in_0 (n : Nat) (l0 : Int32) (l1 : Int32) (l2 : Int32) (I : am_I) : Option (Int32 × am_I) := if l0 < l1 then (bX11_in_14 n I) else (if l2 < l0 then (bX11_in_14 n I) else (bX11_in_15 n (nI 1) I))
theorem tX11_in_0 {G : am_G} (hG : am_okM G) {d : Nat} {l0 : Int32} {l1 : Int32} {l2 : Int32} {I : am_I} {r : Int32 × am_I} (h : bX11_in_0 G.2.2.2.1 l0 l1 l2  I = some r) : am_J G d mX11_in am_no (am_E (some r.1) r.2) 0 [some (.inl l0), some (.inl l1), some (.inl l2)] [] I := by
  unfold bX11_in_0 at h
  refine am_iload_n dX11_in_0 rfl ?_
  refine am_iload_n dX11_in_1 rfl ?_
  refine am_icmp_lt (tgt := 14) dX11_in_2 rfl (fun c => ?_) (fun c => ?_)
  · rw [if_pos c] at h
    exact am_lwJ (lo' := [none, none, none]) trivial (tX11_in_14 hG h)
  · rw [if_neg c] at h
    refine am_iload_n dX11_in_5 rfl ?_
    refine am_iload_n dX11_in_6 rfl ?_
    refine am_icmp_gt (tgt := 14) dX11_in_7 rfl (fun c => ?_) (fun c => ?_)
    · rw [if_pos c] at h
      exact am_lwJ (lo' := [none, none, none]) trivial (tX11_in_14 hG h)
    · rw [if_neg c] at h
      refine am_iconst (v := nI 1) dX11_in_10 (by decide) ?_
      refine am_goto (tgt := 15) dX11_in_11 rfl ?_
      exact am_lwJ (lo' := [none, none, none]) trivial (tX11_in_15 hG h)
def gX11_in (n : Nat) (l0 : Int32) (l1 : Int32) (l2 : Int32) (I : am_I) : Option (Int32 × am_I) := bX11_in_0 n l0 l1 l2 I
theorem sX11_in {G : am_G} (hG : am_okM G) {d : Nat} {l0 : Int32} {l1 : Int32} {l2 : Int32} {I : am_I} {r : Int32 × am_I} (h : gX11_in G.2.2.2.1 l0 l1 l2 I = some r) : am_C G d mX11_in [.inl l0, .inl l1, .inl l2] I (am_E (some r.1) r.2) :=
  am_of (by decide +kernel) hG.nd (Nat.le_of_ble_eq_true rfl) (am_lwJ (lo' := [some (.inl l0), some (.inl l1), some (.inl l2)]) ⟨rfl, rfl, rfl, trivial⟩ (tX11_in_0 hG h))
def bX11_isNode_0 (n : Nat) (l1 : Int32) (I : am_I) : Option (Int32 × am_I) := (gX11_in n l1 (nI 0) ((I 0 60 1) - (nI 1)) I).bind (fun q1 => am_gd (am_01 q1.1) (some (q1.1, q1.2)))
theorem tX11_isNode_0 {G : am_G} (hG : am_okM G) {d : Nat} {l1 : Int32} {I : am_I} {r : Int32 × am_I} (h : bX11_isNode_0 G.2.2.2.1 l1  I = some r) : am_J G (d + 1) mX11_isNode am_no (am_E (some r.1) r.2) 0 [some (.inr (0, 60)), some (.inl l1)] [] I := by
  unfold bX11_isNode_0 at h
  refine am_iload_n dX11_isNode_0 rfl ?_
  refine am_iconst (v := nI 0) dX11_isNode_1 (by decide) ?_
  refine am_aload_n dX11_isNode_2 rfl ?_
  refine am_get (v := .inl (I 0 60 1)) dX11_isNode_3 fl_11_177 (hG.m0 (by decide)) rfl ?_
  refine am_iconst (v := nI 1) dX11_isNode_6 (by decide) ?_
  refine am_isub dX11_isNode_7 ?_
  obtain ⟨q1, hq1, h⟩ := am_bd h
  refine am_callSx (as := [.inl l1, .inl (nI 0), .inl ((I 0 60 1) - (nI 1))]) (rest := []) dX11_isNode_8 lkX11_in ml_X11_243 isX11_in rfl (Nat.le_of_ble_eq_true rfl) rfl (sX11_in hG hq1) ?_
  obtain ⟨g2, h⟩ := am_gd_some h
  cases h
  exact am_iret dX11_isNode_11 rfl (am_nz (am_01_of g2)).1 ⟨rfl, rfl⟩
def gX11_isNode (n : Nat) (l1 : Int32) (I : am_I) : Option (Int32 × am_I) := bX11_isNode_0 n l1 I
theorem sX11_isNode {G : am_G} (hG : am_okM G) {d : Nat} {l1 : Int32} {I : am_I} {r : Int32 × am_I} (h : gX11_isNode G.2.2.2.1 l1 I = some r) : am_C G (d + 1) mX11_isNode [.inr (0, 60), .inl l1] I (am_E (some r.1) r.2) :=
  am_of (by decide +kernel) hG.nd (Nat.le_of_ble_eq_true rfl) (am_lwJ (lo' := [some (.inr (0, 60)), some (.inl l1)]) ⟨rfl, rfl, trivial⟩ (tX11_isNode_0 hG h))
def bX11_isInode_0 (n : Nat) (l0 : Int32) (I : am_I) : Option (Int32 × am_I) := (gX11_in n l0 (nI 0) (nI 127) I).bind (fun q1 => am_gd (am_01 q1.1) (some (q1.1, q1.2)))
theorem tX11_isInode_0 {G : am_G} (hG : am_okM G) {d : Nat} {l0 : Int32} {I : am_I} {r : Int32 × am_I} (h : bX11_isInode_0 G.2.2.2.1 l0  I = some r) : am_J G (d + 1) mX11_isInode am_no (am_E (some r.1) r.2) 0 [some (.inl l0)] [] I := by
  unfold bX11_isInode_0 at h
  refine am_iload_n dX11_isInode_0 rfl ?_
  refine am_iconst (v := nI 0) dX11_isInode_1 (by decide) ?_
  refine am_bipush (v := nI 127) dX11_isInode_2 (by decide) ?_
  obtain ⟨q1, hq1, h⟩ := am_bd h
  refine am_callSx (as := [.inl l0, .inl (nI 0), .inl (nI 127)]) (rest := []) dX11_isInode_4 lkX11_in ml_X11_243 isX11_in rfl (Nat.le_of_ble_eq_true rfl) rfl (sX11_in hG hq1) ?_
  obtain ⟨g2, h⟩ := am_gd_some h
  cases h
  exact am_iret dX11_isInode_7 rfl (am_nz (am_01_of g2)).1 ⟨rfl, rfl⟩
def gX11_isInode (n : Nat) (l0 : Int32) (I : am_I) : Option (Int32 × am_I) := bX11_isInode_0 n l0 I
theorem sX11_isInode {G : am_G} (hG : am_okM G) {d : Nat} {l0 : Int32} {I : am_I} {r : Int32 × am_I} (h : gX11_isInode G.2.2.2.1 l0 I = some r) : am_C G (d + 1) mX11_isInode [.inl l0] I (am_E (some r.1) r.2) :=
  am_of (by decide +kernel) hG.nd (Nat.le_of_ble_eq_true rfl) (am_lwJ (lo' := [some (.inl l0)]) ⟨rfl, trivial⟩ (tX11_isInode_0 hG h))
def bX11_isGiven_92 (n : Nat) (s0 : Int32) (I : am_I) : Option (Int32 × am_I) := am_gd (am_01 s0) (some (s0, I))
theorem tX11_isGiven_92 {G : am_G} (hG : am_okM G) {d : Nat} {s0 : Int32} {I : am_I} {r : Int32 × am_I} (h : bX11_isGiven_92 G.2.2.2.1 s0  I = some r) : am_J G (d + 2) mX11_isGiven am_no (am_E (some r.1) r.2) 92 [none, none, none, none, none] [.inl s0] I := by
  unfold bX11_isGiven_92 at h
  obtain ⟨g1, h⟩ := am_gd_some h
  cases h
  exact am_iret dX11_isGiven_92 rfl (am_nz (am_01_of g1)).1 ⟨rfl, rfl⟩
def bX11_isGiven_91 (n : Nat) (I : am_I) : Option (Int32 × am_I) := bX11_isGiven_92 n (nI 0) I
theorem tX11_isGiven_91 {G : am_G} (hG : am_okM G) {d : Nat} {I : am_I} {r : Int32 × am_I} (h : bX11_isGiven_91 G.2.2.2.1  I = some r) : am_J G (d + 2) mX11_isGiven am_no (am_E (some r.1) r.2) 91 [none, none, none, none, none] [] I := by
  unfold bX11_isGiven_91 at h
  refine am_iconst (v := nI 0) dX11_isGiven_91 (by decide) ?_
  exact am_lwJ (lo' := [none, none, none, none, none]) trivial (tX11_isGiven_92 hG h)
def bX11_isGiven_118 (n : Nat) (s0 : Int32) (I : am_I) : Option (Int32 × am_I) := am_gd (am_01 s0) (some (s0, I))
theorem tX11_isGiven_118 {G : am_G} (hG : am_okM G) {d : Nat} {s0 : Int32} {I : am_I} {r : Int32 × am_I} (h : bX11_isGiven_118 G.2.2.2.1 s0  I = some r) : am_J G (d + 2) mX11_isGiven am_no (am_E (some r.1) r.2) 118 [none, none, none, none, none] [.inl s0] I := by
  unfold bX11_isGiven_118 at h
  obtain ⟨g1, h⟩ := am_gd_some h
  cases h
  exact am_iret dX11_isGiven_118 rfl (am_nz (am_01_of g1)).1 ⟨rfl, rfl⟩
def bX11_isGiven_117 (n : Nat) (I : am_I) : Option (Int32 × am_I) := bX11_isGiven_118 n (nI 0) I
theorem tX11_isGiven_117 {G : am_G} (hG : am_okM G) {d : Nat} {I : am_I} {r : Int32 × am_I} (h : bX11_isGiven_117 G.2.2.2.1  I = some r) : am_J G (d + 2) mX11_isGiven am_no (am_E (some r.1) r.2) 117 [none, none, none, none, none] [] I := by
  unfold bX11_isGiven_117 at h
  refine am_iconst (v := nI 0) dX11_isGiven_117 (by decide) ?_
  exact am_lwJ (lo' := [none, none, none, none, none]) trivial (tX11_isGiven_118 hG h)
def bX11_isGiven_142 (n : Nat) (s0 : Int32) (I : am_I) : Option (Int32 × am_I) := am_gd (am_01 s0) (some (s0, I))
theorem tX11_isGiven_142 {G : am_G} (hG : am_okM G) {d : Nat} {s0 : Int32} {I : am_I} {r : Int32 × am_I} (h : bX11_isGiven_142 G.2.2.2.1 s0  I = some r) : am_J G (d + 2) mX11_isGiven am_no (am_E (some r.1) r.2) 142 [none, none, none, none, none] [.inl s0] I := by
  unfold bX11_isGiven_142 at h
  obtain ⟨g1, h⟩ := am_gd_some h
  cases h
  exact am_iret dX11_isGiven_142 rfl (am_nz (am_01_of g1)).1 ⟨rfl, rfl⟩
def bX11_isGiven_141 (n : Nat) (I : am_I) : Option (Int32 × am_I) := bX11_isGiven_142 n (nI 0) I
theorem tX11_isGiven_141 {G : am_G} (hG : am_okM G) {d : Nat} {I : am_I} {r : Int32 × am_I} (h : bX11_isGiven_141 G.2.2.2.1  I = some r) : am_J G (d + 2) mX11_isGiven am_no (am_E (some r.1) r.2) 141 [none, none, none, none, none] [] I := by
  unfold bX11_isGiven_141 at h
  refine am_iconst (v := nI 0) dX11_isGiven_141 (by decide) ?_
  exact am_lwJ (lo' := [none, none, none, none, none]) trivial (tX11_isGiven_142 hG h)
def bX11_isGiven_171 (n : Nat) (s0 : Int32) (I : am_I) : Option (Int32 × am_I) := am_gd (am_01 s0) (some (s0, I))
theorem tX11_isGiven_171 {G : am_G} (hG : am_okM G) {d : Nat} {s0 : Int32} {I : am_I} {r : Int32 × am_I} (h : bX11_isGiven_171 G.2.2.2.1 s0  I = some r) : am_J G (d + 2) mX11_isGiven am_no (am_E (some r.1) r.2) 171 [none, none, none, none, none] [.inl s0] I := by
  unfold bX11_isGiven_171 at h
  obtain ⟨g1, h⟩ := am_gd_some h
  cases h
  exact am_iret dX11_isGiven_171 rfl (am_nz (am_01_of g1)).1 ⟨rfl, rfl⟩
def bX11_isGiven_170 (n : Nat) (I : am_I) : Option (Int32 × am_I) := bX11_isGiven_171 n (nI 0) I
theorem tX11_isGiven_170 {G : am_G} (hG : am_okM G) {d : Nat} {I : am_I} {r : Int32 × am_I} (h : bX11_isGiven_170 G.2.2.2.1  I = some r) : am_J G (d + 2) mX11_isGiven am_no (am_E (some r.1) r.2) 170 [none, none, none, none, none] [] I := by
  unfold bX11_isGiven_170 at h
  refine am_iconst (v := nI 0) dX11_isGiven_170 (by decide) ?_
  exact am_lwJ (lo' := [none, none, none, none, none]) trivial (tX11_isGiven_171 hG h)
def bX11_isGiven_195 (n : Nat) (s0 : Int32) (I : am_I) : Option (Int32 × am_I) := am_gd (am_01 s0) (some (s0, I))
theorem tX11_isGiven_195 {G : am_G} (hG : am_okM G) {d : Nat} {s0 : Int32} {I : am_I} {r : Int32 × am_I} (h : bX11_isGiven_195 G.2.2.2.1 s0  I = some r) : am_J G (d + 2) mX11_isGiven am_no (am_E (some r.1) r.2) 195 [none, none, none, none, none] [.inl s0] I := by
  unfold bX11_isGiven_195 at h
  obtain ⟨g1, h⟩ := am_gd_some h
  cases h
  exact am_iret dX11_isGiven_195 rfl (am_nz (am_01_of g1)).1 ⟨rfl, rfl⟩
def bX11_isGiven_194 (n : Nat) (I : am_I) : Option (Int32 × am_I) := bX11_isGiven_195 n (nI 0) I
theorem tX11_isGiven_194 {G : am_G} (hG : am_okM G) {d : Nat} {I : am_I} {r : Int32 × am_I} (h : bX11_isGiven_194 G.2.2.2.1  I = some r) : am_J G (d + 2) mX11_isGiven am_no (am_E (some r.1) r.2) 194 [none, none, none, none, none] [] I := by
  unfold bX11_isGiven_194 at h
  refine am_iconst (v := nI 0) dX11_isGiven_194 (by decide) ?_
  exact am_lwJ (lo' := [none, none, none, none, none]) trivial (tX11_isGiven_195 hG h)
def bX11_isGiven_219 (n : Nat) (s0 : Int32) (I : am_I) : Option (Int32 × am_I) := am_gd (am_01 s0) (some (s0, I))
theorem tX11_isGiven_219 {G : am_G} (hG : am_okM G) {d : Nat} {s0 : Int32} {I : am_I} {r : Int32 × am_I} (h : bX11_isGiven_219 G.2.2.2.1 s0  I = some r) : am_J G (d + 2) mX11_isGiven am_no (am_E (some r.1) r.2) 219 [none, none, none, none, none] [.inl s0] I := by
  unfold bX11_isGiven_219 at h
  obtain ⟨g1, h⟩ := am_gd_some h
  cases h
  exact am_iret dX11_isGiven_219 rfl (am_nz (am_01_of g1)).1 ⟨rfl, rfl⟩
def bX11_isGiven_218 (n : Nat) (I : am_I) : Option (Int32 × am_I) := bX11_isGiven_219 n (nI 0) I
theorem tX11_isGiven_218 {G : am_G} (hG : am_okM G) {d : Nat} {I : am_I} {r : Int32 × am_I} (h : bX11_isGiven_218 G.2.2.2.1  I = some r) : am_J G (d + 2) mX11_isGiven am_no (am_E (some r.1) r.2) 218 [none, none, none, none, none] [] I := by
  unfold bX11_isGiven_218 at h
  refine am_iconst (v := nI 0) dX11_isGiven_218 (by decide) ?_
  exact am_lwJ (lo' := [none, none, none, none, none]) trivial (tX11_isGiven_219 hG h)
def bX11_isGiven_243 (n : Nat) (s0 : Int32) (I : am_I) : Option (Int32 × am_I) := am_gd (am_01 s0) (some (s0, I))
theorem tX11_isGiven_243 {G : am_G} (hG : am_okM G) {d : Nat} {s0 : Int32} {I : am_I} {r : Int32 × am_I} (h : bX11_isGiven_243 G.2.2.2.1 s0  I = some r) : am_J G (d + 2) mX11_isGiven am_no (am_E (some r.1) r.2) 243 [none, none, none, none, none] [.inl s0] I := by
  unfold bX11_isGiven_243 at h
  obtain ⟨g1, h⟩ := am_gd_some h
  cases h
  exact am_iret dX11_isGiven_243 rfl (am_nz (am_01_of g1)).1 ⟨rfl, rfl⟩
def bX11_isGiven_242 (n : Nat) (I : am_I) : Option (Int32 × am_I) := bX11_isGiven_243 n (nI 0) I
theorem tX11_isGiven_242 {G : am_G} (hG : am_okM G) {d : Nat} {I : am_I} {r : Int32 × am_I} (h : bX11_isGiven_242 G.2.2.2.1  I = some r) : am_J G (d + 2) mX11_isGiven am_no (am_E (some r.1) r.2) 242 [none, none, none, none, none] [] I := by
  unfold bX11_isGiven_242 at h
  refine am_iconst (v := nI 0) dX11_isGiven_242 (by decide) ?_
  exact am_lwJ (lo' := [none, none, none, none, none]) trivial (tX11_isGiven_243 hG h)
def bX11_isGiven_265 (n : Nat) (s0 : Int32) (I : am_I) : Option (Int32 × am_I) := am_gd (am_01 s0) (some (s0, I))
theorem tX11_isGiven_265 {G : am_G} (hG : am_okM G) {d : Nat} {s0 : Int32} {I : am_I} {r : Int32 × am_I} (h : bX11_isGiven_265 G.2.2.2.1 s0  I = some r) : am_J G (d + 2) mX11_isGiven am_no (am_E (some r.1) r.2) 265 [none, none, none, none, none] [.inl s0] I := by
  unfold bX11_isGiven_265 at h
  obtain ⟨g1, h⟩ := am_gd_some h
  cases h
  exact am_iret dX11_isGiven_265 rfl (am_nz (am_01_of g1)).1 ⟨rfl, rfl⟩
def bX11_isGiven_264 (n : Nat) (I : am_I) : Option (Int32 × am_I) := bX11_isGiven_265 n (nI 0) I
theorem tX11_isGiven_264 {G : am_G} (hG : am_okM G) {d : Nat} {I : am_I} {r : Int32 × am_I} (h : bX11_isGiven_264 G.2.2.2.1  I = some r) : am_J G (d + 2) mX11_isGiven am_no (am_E (some r.1) r.2) 264 [none, none, none, none, none] [] I := by
  unfold bX11_isGiven_264 at h
  refine am_iconst (v := nI 0) dX11_isGiven_264 (by decide) ?_
  exact am_lwJ (lo' := [none, none, none, none, none]) trivial (tX11_isGiven_265 hG h)
def bX11_isGiven_0 (n : Nat) (l0 : Int32) (l1 : Int32) (l2 : Int32) (l3 : Int32) (l4 : Int32) (I : am_I) : Option (Int32 × am_I) := if l0 = nI 0 then ((gX11_isInode n l1 I).bind (fun q1 => if q1.1 = 0 then (bX11_isGiven_91 n q1.2) else (if l2 = 0 then (bX11_isGiven_91 n q1.2) else (bX11_isGiven_92 n (nI 1) q1.2)))) else (if l0 = nI 1 then ((gX11_isInode n l1 I).bind (fun q2 => if q2.1 = 0 then (bX11_isGiven_117 n q2.2) else (if l2 = 0 then (bX11_isGiven_117 n q2.2) else ((gX11_in n l3 (nI 1) (nI 2) q2.2).bind (fun q3 => if q3.1 = 0 then (bX11_isGiven_117 n q3.2) else (bX11_isGiven_118 n (nI 1) q3.2)))))) else (if l0 = nI 2 then ((gX11_isInode n l1 I).bind (fun q4 => if q4.1 = 0 then (bX11_isGiven_91 n q4.2) else (if l2 = 0 then (bX11_isGiven_91 n q4.2) else (bX11_isGiven_92 n (nI 1) q4.2)))) else (if l0 = nI 3 then ((gX11_isInode n l1 I).bind (fun q5 => if q5.1 = 0 then (bX11_isGiven_141 n q5.2) else (if l2 = 0 then (bX11_isGiven_141 n q5.2) else ((gX11_isInode n l3 q5.2).bind (fun q6 => if q6.1 = 0 then (bX11_isGiven_141 n q6.2) else (bX11_isGiven_142 n (nI 1) q6.2)))))) else (if l0 = nI 4 then ((gX11_isInode n l1 I).bind (fun q7 => if q7.1 = 0 then (bX11_isGiven_170 n q7.2) else (if l2 = 0 then (bX11_isGiven_170 n q7.2) else ((gX11_isInode n l3 q7.2).bind (fun q8 => if q8.1 = 0 then (bX11_isGiven_170 n q8.2) else (if l4 = 0 then (bX11_isGiven_170 n q8.2) else (bX11_isGiven_171 n (nI 1) q8.2))))))) else (if l0 = nI 5 then ((gX11_isInode n l1 I).bind (fun q9 => if q9.1 = 0 then (bX11_isGiven_194 n q9.2) else ((gX11_in n l2 (nI 0) (nI 383) q9.2).bind (fun q10 => if q10.1 = 0 then (bX11_isGiven_194 n q10.2) else (bX11_isGiven_195 n (nI 1) q10.2))))) else (if l0 = nI 6 then ((gX11_isInode n l1 I).bind (fun q11 => if q11.1 = 0 then (bX11_isGiven_194 n q11.2) else ((gX11_in n l2 (nI 0) (nI 383) q11.2).bind (fun q12 => if q12.1 = 0 then (bX11_isGiven_194 n q12.2) else (bX11_isGiven_195 n (nI 1) q12.2))))) else (if l0 = nI 7 then ((gX11_isInode n l1 I).bind (fun q13 => if q13.1 = 0 then (bX11_isGiven_218 n q13.2) else ((gX11_in n l2 (nI 0) (nI 384) q13.2).bind (fun q14 => if q14.1 = 0 then (bX11_isGiven_218 n q14.2) else (bX11_isGiven_219 n (nI 1) q14.2))))) else (if l0 = nI 8 then ((gX11_isInode n l1 I).bind (fun q15 => if q15.1 = 0 then (bX11_isGiven_242 n q15.2) else ((gX11_in n l2 (nI 0) (nI 191) q15.2).bind (fun q16 => if q16.1 = 0 then (bX11_isGiven_242 n q16.2) else (bX11_isGiven_243 n (nI 1) q16.2))))) else (if l0 = nI 9 then ((gX11_isInode n l1 I).bind (fun q17 => if q17.1 = 0 then (bX11_isGiven_264 n q17.2) else ((gX11_in n l2 (nI 0) (nI 3) q17.2).bind (fun q18 => if q18.1 = 0 then (bX11_isGiven_264 n q18.2) else (bX11_isGiven_265 n (nI 1) q18.2))))) else (if l0 = nI 10 then (some (nI 1, I)) else (if l0 = nI 11 then ((gX11_isInode n l1 I).bind (fun q19 => if q19.1 = 0 then (bX11_isGiven_194 n q19.2) else ((gX11_in n l2 (nI 0) (nI 383) q19.2).bind (fun q20 => if q20.1 = 0 then (bX11_isGiven_194 n q20.2) else (bX11_isGiven_195 n (nI 1) q20.2))))) else (if l0 = nI 12 then ((gX11_isInode n l1 I).bind (fun q21 => am_gd (am_01 q21.1) (some (q21.1, q21.2)))) else (if l0 = nI 13 then ((gX11_isInode n l1 I).bind (fun q23 => am_gd (am_01 q23.1) (some (q23.1, q23.2)))) else (if l0 = nI 14 then (some (nI 1, I)) else (some (nI 0, I))))))))))))))))
theorem tX11_isGiven_0 {G : am_G} (hG : am_okM G) {d : Nat} {l0 : Int32} {l1 : Int32} {l2 : Int32} {l3 : Int32} {l4 : Int32} {I : am_I} {r : Int32 × am_I} (h : bX11_isGiven_0 G.2.2.2.1 l0 l1 l2 l3 l4  I = some r) : am_J G (d + 2) mX11_isGiven am_no (am_E (some r.1) r.2) 0 [some (.inl l0), some (.inl l1), some (.inl l2), some (.inl l3), some (.inl l4)] [] I := by
  unfold bX11_isGiven_0 at h
  refine am_iload_n dX11_isGiven_0 rfl ?_
  rcases am_sw 14 l0 with ⟨m, hm, hx⟩ | hx
  · match m, hm, hx with
    | 0, _, hx =>
      rw [if_pos hx] at h
      refine am_tabIn (off := 75) (tgt := 76) dX11_isGiven_1 (by rw [hx]; decide) (by rw [hx]; decide) (by rw [hx]; rfl) rfl ?_
      refine am_iload_n dX11_isGiven_76 rfl ?_
      obtain ⟨q1, hq1, h⟩ := am_bd h
      refine am_callSx (as := [.inl l1]) (rest := []) dX11_isGiven_77 lkX11_isInode ml_X11_431 isX11_isInode rfl (Nat.le_of_ble_eq_true rfl) rfl (sX11_isInode hG hq1) ?_
      refine am_if_eq (tgt := 91) dX11_isGiven_80 rfl (fun c => ?_) (fun c => ?_)
      · rw [if_pos c] at h
        exact am_lwJ (lo' := [none, none, none, none, none]) trivial (tX11_isGiven_91 hG h)
      · rw [if_neg c] at h
        refine am_iload_n dX11_isGiven_83 rfl ?_
        refine am_if_eq (tgt := 91) dX11_isGiven_84 rfl (fun c => ?_) (fun c => ?_)
        · rw [if_pos c] at h
          exact am_lwJ (lo' := [none, none, none, none, none]) trivial (tX11_isGiven_91 hG h)
        · rw [if_neg c] at h
          refine am_iconst (v := nI 1) dX11_isGiven_87 (by decide) ?_
          refine am_goto (tgt := 92) dX11_isGiven_88 rfl ?_
          exact am_lwJ (lo' := [none, none, none, none, none]) trivial (tX11_isGiven_92 hG h)
    | 1, _, hx =>
      rw [if_neg (show ¬ l0 = nI 0 by rw [hx]; decide)] at h
      rw [if_pos hx] at h
      refine am_tabIn (off := 92) (tgt := 93) dX11_isGiven_1 (by rw [hx]; decide) (by rw [hx]; decide) (by rw [hx]; rfl) rfl ?_
      refine am_iload_n dX11_isGiven_93 rfl ?_
      obtain ⟨q2, hq2, h⟩ := am_bd h
      refine am_callSx (as := [.inl l1]) (rest := []) dX11_isGiven_94 lkX11_isInode ml_X11_431 isX11_isInode rfl (Nat.le_of_ble_eq_true rfl) rfl (sX11_isInode hG hq2) ?_
      refine am_if_eq (tgt := 117) dX11_isGiven_97 rfl (fun c => ?_) (fun c => ?_)
      · rw [if_pos c] at h
        exact am_lwJ (lo' := [none, none, none, none, none]) trivial (tX11_isGiven_117 hG h)
      · rw [if_neg c] at h
        refine am_iload_n dX11_isGiven_100 rfl ?_
        refine am_if_eq (tgt := 117) dX11_isGiven_101 rfl (fun c => ?_) (fun c => ?_)
        · rw [if_pos c] at h
          exact am_lwJ (lo' := [none, none, none, none, none]) trivial (tX11_isGiven_117 hG h)
        · rw [if_neg c] at h
          refine am_iload_n dX11_isGiven_104 rfl ?_
          refine am_iconst (v := nI 1) dX11_isGiven_105 (by decide) ?_
          refine am_iconst (v := nI 2) dX11_isGiven_106 (by decide) ?_
          obtain ⟨q3, hq3, h⟩ := am_bd h
          refine am_callSx (as := [.inl l3, .inl (nI 1), .inl (nI 2)]) (rest := []) dX11_isGiven_107 lkX11_in ml_X11_243 isX11_in rfl (Nat.le_of_ble_eq_true rfl) rfl (sX11_in hG hq3) ?_
          refine am_if_eq (tgt := 117) dX11_isGiven_110 rfl (fun c => ?_) (fun c => ?_)
          · rw [if_pos c] at h
            exact am_lwJ (lo' := [none, none, none, none, none]) trivial (tX11_isGiven_117 hG h)
          · rw [if_neg c] at h
            refine am_iconst (v := nI 1) dX11_isGiven_113 (by decide) ?_
            refine am_goto (tgt := 118) dX11_isGiven_114 rfl ?_
            exact am_lwJ (lo' := [none, none, none, none, none]) trivial (tX11_isGiven_118 hG h)
    | 2, _, hx =>
      rw [if_neg (show ¬ l0 = nI 0 by rw [hx]; decide), if_neg (show ¬ l0 = nI 1 by rw [hx]; decide)] at h
      rw [if_pos hx] at h
      refine am_tabIn (off := 75) (tgt := 76) dX11_isGiven_1 (by rw [hx]; decide) (by rw [hx]; decide) (by rw [hx]; rfl) rfl ?_
      refine am_iload_n dX11_isGiven_76 rfl ?_
      obtain ⟨q4, hq4, h⟩ := am_bd h
      refine am_callSx (as := [.inl l1]) (rest := []) dX11_isGiven_77 lkX11_isInode ml_X11_431 isX11_isInode rfl (Nat.le_of_ble_eq_true rfl) rfl (sX11_isInode hG hq4) ?_
      refine am_if_eq (tgt := 91) dX11_isGiven_80 rfl (fun c => ?_) (fun c => ?_)
      · rw [if_pos c] at h
        exact am_lwJ (lo' := [none, none, none, none, none]) trivial (tX11_isGiven_91 hG h)
      · rw [if_neg c] at h
        refine am_iload_n dX11_isGiven_83 rfl ?_
        refine am_if_eq (tgt := 91) dX11_isGiven_84 rfl (fun c => ?_) (fun c => ?_)
        · rw [if_pos c] at h
          exact am_lwJ (lo' := [none, none, none, none, none]) trivial (tX11_isGiven_91 hG h)
        · rw [if_neg c] at h
          refine am_iconst (v := nI 1) dX11_isGiven_87 (by decide) ?_
          refine am_goto (tgt := 92) dX11_isGiven_88 rfl ?_
          exact am_lwJ (lo' := [none, none, none, none, none]) trivial (tX11_isGiven_92 hG h)
    | 3, _, hx =>
      rw [if_neg (show ¬ l0 = nI 0 by rw [hx]; decide), if_neg (show ¬ l0 = nI 1 by rw [hx]; decide), if_neg (show ¬ l0 = nI 2 by rw [hx]; decide)] at h
      rw [if_pos hx] at h
      refine am_tabIn (off := 118) (tgt := 119) dX11_isGiven_1 (by rw [hx]; decide) (by rw [hx]; decide) (by rw [hx]; rfl) rfl ?_
      refine am_iload_n dX11_isGiven_119 rfl ?_
      obtain ⟨q5, hq5, h⟩ := am_bd h
      refine am_callSx (as := [.inl l1]) (rest := []) dX11_isGiven_120 lkX11_isInode ml_X11_431 isX11_isInode rfl (Nat.le_of_ble_eq_true rfl) rfl (sX11_isInode hG hq5) ?_
      refine am_if_eq (tgt := 141) dX11_isGiven_123 rfl (fun c => ?_) (fun c => ?_)
      · rw [if_pos c] at h
        exact am_lwJ (lo' := [none, none, none, none, none]) trivial (tX11_isGiven_141 hG h)
      · rw [if_neg c] at h
        refine am_iload_n dX11_isGiven_126 rfl ?_
        refine am_if_eq (tgt := 141) dX11_isGiven_127 rfl (fun c => ?_) (fun c => ?_)
        · rw [if_pos c] at h
          exact am_lwJ (lo' := [none, none, none, none, none]) trivial (tX11_isGiven_141 hG h)
        · rw [if_neg c] at h
          refine am_iload_n dX11_isGiven_130 rfl ?_
          obtain ⟨q6, hq6, h⟩ := am_bd h
          refine am_callSx (as := [.inl l3]) (rest := []) dX11_isGiven_131 lkX11_isInode ml_X11_431 isX11_isInode rfl (Nat.le_of_ble_eq_true rfl) rfl (sX11_isInode hG hq6) ?_
          refine am_if_eq (tgt := 141) dX11_isGiven_134 rfl (fun c => ?_) (fun c => ?_)
          · rw [if_pos c] at h
            exact am_lwJ (lo' := [none, none, none, none, none]) trivial (tX11_isGiven_141 hG h)
          · rw [if_neg c] at h
            refine am_iconst (v := nI 1) dX11_isGiven_137 (by decide) ?_
            refine am_goto (tgt := 142) dX11_isGiven_138 rfl ?_
            exact am_lwJ (lo' := [none, none, none, none, none]) trivial (tX11_isGiven_142 hG h)
    | 4, _, hx =>
      rw [if_neg (show ¬ l0 = nI 0 by rw [hx]; decide), if_neg (show ¬ l0 = nI 1 by rw [hx]; decide), if_neg (show ¬ l0 = nI 2 by rw [hx]; decide), if_neg (show ¬ l0 = nI 3 by rw [hx]; decide)] at h
      rw [if_pos hx] at h
      refine am_tabIn (off := 142) (tgt := 143) dX11_isGiven_1 (by rw [hx]; decide) (by rw [hx]; decide) (by rw [hx]; rfl) rfl ?_
      refine am_iload_n dX11_isGiven_143 rfl ?_
      obtain ⟨q7, hq7, h⟩ := am_bd h
      refine am_callSx (as := [.inl l1]) (rest := []) dX11_isGiven_144 lkX11_isInode ml_X11_431 isX11_isInode rfl (Nat.le_of_ble_eq_true rfl) rfl (sX11_isInode hG hq7) ?_
      refine am_if_eq (tgt := 170) dX11_isGiven_147 rfl (fun c => ?_) (fun c => ?_)
      · rw [if_pos c] at h
        exact am_lwJ (lo' := [none, none, none, none, none]) trivial (tX11_isGiven_170 hG h)
      · rw [if_neg c] at h
        refine am_iload_n dX11_isGiven_150 rfl ?_
        refine am_if_eq (tgt := 170) dX11_isGiven_151 rfl (fun c => ?_) (fun c => ?_)
        · rw [if_pos c] at h
          exact am_lwJ (lo' := [none, none, none, none, none]) trivial (tX11_isGiven_170 hG h)
        · rw [if_neg c] at h
          refine am_iload_n dX11_isGiven_154 rfl ?_
          obtain ⟨q8, hq8, h⟩ := am_bd h
          refine am_callSx (as := [.inl l3]) (rest := []) dX11_isGiven_155 lkX11_isInode ml_X11_431 isX11_isInode rfl (Nat.le_of_ble_eq_true rfl) rfl (sX11_isInode hG hq8) ?_
          refine am_if_eq (tgt := 170) dX11_isGiven_158 rfl (fun c => ?_) (fun c => ?_)
          · rw [if_pos c] at h
            exact am_lwJ (lo' := [none, none, none, none, none]) trivial (tX11_isGiven_170 hG h)
          · rw [if_neg c] at h
            refine am_iload dX11_isGiven_161 rfl ?_
            refine am_if_eq (tgt := 170) dX11_isGiven_163 rfl (fun c => ?_) (fun c => ?_)
            · rw [if_pos c] at h
              exact am_lwJ (lo' := [none, none, none, none, none]) trivial (tX11_isGiven_170 hG h)
            · rw [if_neg c] at h
              refine am_iconst (v := nI 1) dX11_isGiven_166 (by decide) ?_
              refine am_goto (tgt := 171) dX11_isGiven_167 rfl ?_
              exact am_lwJ (lo' := [none, none, none, none, none]) trivial (tX11_isGiven_171 hG h)
    | 5, _, hx =>
      rw [if_neg (show ¬ l0 = nI 0 by rw [hx]; decide), if_neg (show ¬ l0 = nI 1 by rw [hx]; decide), if_neg (show ¬ l0 = nI 2 by rw [hx]; decide), if_neg (show ¬ l0 = nI 3 by rw [hx]; decide), if_neg (show ¬ l0 = nI 4 by rw [hx]; decide)] at h
      rw [if_pos hx] at h
      refine am_tabIn (off := 171) (tgt := 172) dX11_isGiven_1 (by rw [hx]; decide) (by rw [hx]; decide) (by rw [hx]; rfl) rfl ?_
      refine am_iload_n dX11_isGiven_172 rfl ?_
      obtain ⟨q9, hq9, h⟩ := am_bd h
      refine am_callSx (as := [.inl l1]) (rest := []) dX11_isGiven_173 lkX11_isInode ml_X11_431 isX11_isInode rfl (Nat.le_of_ble_eq_true rfl) rfl (sX11_isInode hG hq9) ?_
      refine am_if_eq (tgt := 194) dX11_isGiven_176 rfl (fun c => ?_) (fun c => ?_)
      · rw [if_pos c] at h
        exact am_lwJ (lo' := [none, none, none, none, none]) trivial (tX11_isGiven_194 hG h)
      · rw [if_neg c] at h
        refine am_iload_n dX11_isGiven_179 rfl ?_
        refine am_iconst (v := nI 0) dX11_isGiven_180 (by decide) ?_
        refine am_sipush (v := nI 383) dX11_isGiven_181 (by decide) ?_
        obtain ⟨q10, hq10, h⟩ := am_bd h
        refine am_callSx (as := [.inl l2, .inl (nI 0), .inl (nI 383)]) (rest := []) dX11_isGiven_184 lkX11_in ml_X11_243 isX11_in rfl (Nat.le_of_ble_eq_true rfl) rfl (sX11_in hG hq10) ?_
        refine am_if_eq (tgt := 194) dX11_isGiven_187 rfl (fun c => ?_) (fun c => ?_)
        · rw [if_pos c] at h
          exact am_lwJ (lo' := [none, none, none, none, none]) trivial (tX11_isGiven_194 hG h)
        · rw [if_neg c] at h
          refine am_iconst (v := nI 1) dX11_isGiven_190 (by decide) ?_
          refine am_goto (tgt := 195) dX11_isGiven_191 rfl ?_
          exact am_lwJ (lo' := [none, none, none, none, none]) trivial (tX11_isGiven_195 hG h)
    | 6, _, hx =>
      rw [if_neg (show ¬ l0 = nI 0 by rw [hx]; decide), if_neg (show ¬ l0 = nI 1 by rw [hx]; decide), if_neg (show ¬ l0 = nI 2 by rw [hx]; decide), if_neg (show ¬ l0 = nI 3 by rw [hx]; decide), if_neg (show ¬ l0 = nI 4 by rw [hx]; decide), if_neg (show ¬ l0 = nI 5 by rw [hx]; decide)] at h
      rw [if_pos hx] at h
      refine am_tabIn (off := 171) (tgt := 172) dX11_isGiven_1 (by rw [hx]; decide) (by rw [hx]; decide) (by rw [hx]; rfl) rfl ?_
      refine am_iload_n dX11_isGiven_172 rfl ?_
      obtain ⟨q11, hq11, h⟩ := am_bd h
      refine am_callSx (as := [.inl l1]) (rest := []) dX11_isGiven_173 lkX11_isInode ml_X11_431 isX11_isInode rfl (Nat.le_of_ble_eq_true rfl) rfl (sX11_isInode hG hq11) ?_
      refine am_if_eq (tgt := 194) dX11_isGiven_176 rfl (fun c => ?_) (fun c => ?_)
      · rw [if_pos c] at h
        exact am_lwJ (lo' := [none, none, none, none, none]) trivial (tX11_isGiven_194 hG h)
      · rw [if_neg c] at h
        refine am_iload_n dX11_isGiven_179 rfl ?_
        refine am_iconst (v := nI 0) dX11_isGiven_180 (by decide) ?_
        refine am_sipush (v := nI 383) dX11_isGiven_181 (by decide) ?_
        obtain ⟨q12, hq12, h⟩ := am_bd h
        refine am_callSx (as := [.inl l2, .inl (nI 0), .inl (nI 383)]) (rest := []) dX11_isGiven_184 lkX11_in ml_X11_243 isX11_in rfl (Nat.le_of_ble_eq_true rfl) rfl (sX11_in hG hq12) ?_
        refine am_if_eq (tgt := 194) dX11_isGiven_187 rfl (fun c => ?_) (fun c => ?_)
        · rw [if_pos c] at h
          exact am_lwJ (lo' := [none, none, none, none, none]) trivial (tX11_isGiven_194 hG h)
        · rw [if_neg c] at h
          refine am_iconst (v := nI 1) dX11_isGiven_190 (by decide) ?_
          refine am_goto (tgt := 195) dX11_isGiven_191 rfl ?_
          exact am_lwJ (lo' := [none, none, none, none, none]) trivial (tX11_isGiven_195 hG h)
    | 7, _, hx =>
      rw [if_neg (show ¬ l0 = nI 0 by rw [hx]; decide), if_neg (show ¬ l0 = nI 1 by rw [hx]; decide), if_neg (show ¬ l0 = nI 2 by rw [hx]; decide), if_neg (show ¬ l0 = nI 3 by rw [hx]; decide), if_neg (show ¬ l0 = nI 4 by rw [hx]; decide), if_neg (show ¬ l0 = nI 5 by rw [hx]; decide), if_neg (show ¬ l0 = nI 6 by rw [hx]; decide)] at h
      rw [if_pos hx] at h
      refine am_tabIn (off := 195) (tgt := 196) dX11_isGiven_1 (by rw [hx]; decide) (by rw [hx]; decide) (by rw [hx]; rfl) rfl ?_
      refine am_iload_n dX11_isGiven_196 rfl ?_
      obtain ⟨q13, hq13, h⟩ := am_bd h
      refine am_callSx (as := [.inl l1]) (rest := []) dX11_isGiven_197 lkX11_isInode ml_X11_431 isX11_isInode rfl (Nat.le_of_ble_eq_true rfl) rfl (sX11_isInode hG hq13) ?_
      refine am_if_eq (tgt := 218) dX11_isGiven_200 rfl (fun c => ?_) (fun c => ?_)
      · rw [if_pos c] at h
        exact am_lwJ (lo' := [none, none, none, none, none]) trivial (tX11_isGiven_218 hG h)
      · rw [if_neg c] at h
        refine am_iload_n dX11_isGiven_203 rfl ?_
        refine am_iconst (v := nI 0) dX11_isGiven_204 (by decide) ?_
        refine am_sipush (v := nI 384) dX11_isGiven_205 (by decide) ?_
        obtain ⟨q14, hq14, h⟩ := am_bd h
        refine am_callSx (as := [.inl l2, .inl (nI 0), .inl (nI 384)]) (rest := []) dX11_isGiven_208 lkX11_in ml_X11_243 isX11_in rfl (Nat.le_of_ble_eq_true rfl) rfl (sX11_in hG hq14) ?_
        refine am_if_eq (tgt := 218) dX11_isGiven_211 rfl (fun c => ?_) (fun c => ?_)
        · rw [if_pos c] at h
          exact am_lwJ (lo' := [none, none, none, none, none]) trivial (tX11_isGiven_218 hG h)
        · rw [if_neg c] at h
          refine am_iconst (v := nI 1) dX11_isGiven_214 (by decide) ?_
          refine am_goto (tgt := 219) dX11_isGiven_215 rfl ?_
          exact am_lwJ (lo' := [none, none, none, none, none]) trivial (tX11_isGiven_219 hG h)
    | 8, _, hx =>
      rw [if_neg (show ¬ l0 = nI 0 by rw [hx]; decide), if_neg (show ¬ l0 = nI 1 by rw [hx]; decide), if_neg (show ¬ l0 = nI 2 by rw [hx]; decide), if_neg (show ¬ l0 = nI 3 by rw [hx]; decide), if_neg (show ¬ l0 = nI 4 by rw [hx]; decide), if_neg (show ¬ l0 = nI 5 by rw [hx]; decide), if_neg (show ¬ l0 = nI 6 by rw [hx]; decide), if_neg (show ¬ l0 = nI 7 by rw [hx]; decide)] at h
      rw [if_pos hx] at h
      refine am_tabIn (off := 219) (tgt := 220) dX11_isGiven_1 (by rw [hx]; decide) (by rw [hx]; decide) (by rw [hx]; rfl) rfl ?_
      refine am_iload_n dX11_isGiven_220 rfl ?_
      obtain ⟨q15, hq15, h⟩ := am_bd h
      refine am_callSx (as := [.inl l1]) (rest := []) dX11_isGiven_221 lkX11_isInode ml_X11_431 isX11_isInode rfl (Nat.le_of_ble_eq_true rfl) rfl (sX11_isInode hG hq15) ?_
      refine am_if_eq (tgt := 242) dX11_isGiven_224 rfl (fun c => ?_) (fun c => ?_)
      · rw [if_pos c] at h
        exact am_lwJ (lo' := [none, none, none, none, none]) trivial (tX11_isGiven_242 hG h)
      · rw [if_neg c] at h
        refine am_iload_n dX11_isGiven_227 rfl ?_
        refine am_iconst (v := nI 0) dX11_isGiven_228 (by decide) ?_
        refine am_sipush (v := nI 191) dX11_isGiven_229 (by decide) ?_
        obtain ⟨q16, hq16, h⟩ := am_bd h
        refine am_callSx (as := [.inl l2, .inl (nI 0), .inl (nI 191)]) (rest := []) dX11_isGiven_232 lkX11_in ml_X11_243 isX11_in rfl (Nat.le_of_ble_eq_true rfl) rfl (sX11_in hG hq16) ?_
        refine am_if_eq (tgt := 242) dX11_isGiven_235 rfl (fun c => ?_) (fun c => ?_)
        · rw [if_pos c] at h
          exact am_lwJ (lo' := [none, none, none, none, none]) trivial (tX11_isGiven_242 hG h)
        · rw [if_neg c] at h
          refine am_iconst (v := nI 1) dX11_isGiven_238 (by decide) ?_
          refine am_goto (tgt := 243) dX11_isGiven_239 rfl ?_
          exact am_lwJ (lo' := [none, none, none, none, none]) trivial (tX11_isGiven_243 hG h)
    | 9, _, hx =>
      rw [if_neg (show ¬ l0 = nI 0 by rw [hx]; decide), if_neg (show ¬ l0 = nI 1 by rw [hx]; decide), if_neg (show ¬ l0 = nI 2 by rw [hx]; decide), if_neg (show ¬ l0 = nI 3 by rw [hx]; decide), if_neg (show ¬ l0 = nI 4 by rw [hx]; decide), if_neg (show ¬ l0 = nI 5 by rw [hx]; decide), if_neg (show ¬ l0 = nI 6 by rw [hx]; decide), if_neg (show ¬ l0 = nI 7 by rw [hx]; decide), if_neg (show ¬ l0 = nI 8 by rw [hx]; decide)] at h
      rw [if_pos hx] at h
      refine am_tabIn (off := 243) (tgt := 244) dX11_isGiven_1 (by rw [hx]; decide) (by rw [hx]; decide) (by rw [hx]; rfl) rfl ?_
      refine am_iload_n dX11_isGiven_244 rfl ?_
      obtain ⟨q17, hq17, h⟩ := am_bd h
      refine am_callSx (as := [.inl l1]) (rest := []) dX11_isGiven_245 lkX11_isInode ml_X11_431 isX11_isInode rfl (Nat.le_of_ble_eq_true rfl) rfl (sX11_isInode hG hq17) ?_
      refine am_if_eq (tgt := 264) dX11_isGiven_248 rfl (fun c => ?_) (fun c => ?_)
      · rw [if_pos c] at h
        exact am_lwJ (lo' := [none, none, none, none, none]) trivial (tX11_isGiven_264 hG h)
      · rw [if_neg c] at h
        refine am_iload_n dX11_isGiven_251 rfl ?_
        refine am_iconst (v := nI 0) dX11_isGiven_252 (by decide) ?_
        refine am_iconst (v := nI 3) dX11_isGiven_253 (by decide) ?_
        obtain ⟨q18, hq18, h⟩ := am_bd h
        refine am_callSx (as := [.inl l2, .inl (nI 0), .inl (nI 3)]) (rest := []) dX11_isGiven_254 lkX11_in ml_X11_243 isX11_in rfl (Nat.le_of_ble_eq_true rfl) rfl (sX11_in hG hq18) ?_
        refine am_if_eq (tgt := 264) dX11_isGiven_257 rfl (fun c => ?_) (fun c => ?_)
        · rw [if_pos c] at h
          exact am_lwJ (lo' := [none, none, none, none, none]) trivial (tX11_isGiven_264 hG h)
        · rw [if_neg c] at h
          refine am_iconst (v := nI 1) dX11_isGiven_260 (by decide) ?_
          refine am_goto (tgt := 265) dX11_isGiven_261 rfl ?_
          exact am_lwJ (lo' := [none, none, none, none, none]) trivial (tX11_isGiven_265 hG h)
    | 10, _, hx =>
      rw [if_neg (show ¬ l0 = nI 0 by rw [hx]; decide), if_neg (show ¬ l0 = nI 1 by rw [hx]; decide), if_neg (show ¬ l0 = nI 2 by rw [hx]; decide), if_neg (show ¬ l0 = nI 3 by rw [hx]; decide), if_neg (show ¬ l0 = nI 4 by rw [hx]; decide), if_neg (show ¬ l0 = nI 5 by rw [hx]; decide), if_neg (show ¬ l0 = nI 6 by rw [hx]; decide), if_neg (show ¬ l0 = nI 7 by rw [hx]; decide), if_neg (show ¬ l0 = nI 8 by rw [hx]; decide), if_neg (show ¬ l0 = nI 9 by rw [hx]; decide)] at h
      rw [if_pos hx] at h
      refine am_tabIn (off := 270) (tgt := 271) dX11_isGiven_1 (by rw [hx]; decide) (by rw [hx]; decide) (by rw [hx]; rfl) rfl ?_
      refine am_iconst (v := nI 1) dX11_isGiven_271 (by decide) ?_
      cases h
      exact am_iret dX11_isGiven_272 rfl (am_nz (by decide)).1 ⟨rfl, rfl⟩
    | 11, _, hx =>
      rw [if_neg (show ¬ l0 = nI 0 by rw [hx]; decide), if_neg (show ¬ l0 = nI 1 by rw [hx]; decide), if_neg (show ¬ l0 = nI 2 by rw [hx]; decide), if_neg (show ¬ l0 = nI 3 by rw [hx]; decide), if_neg (show ¬ l0 = nI 4 by rw [hx]; decide), if_neg (show ¬ l0 = nI 5 by rw [hx]; decide), if_neg (show ¬ l0 = nI 6 by rw [hx]; decide), if_neg (show ¬ l0 = nI 7 by rw [hx]; decide), if_neg (show ¬ l0 = nI 8 by rw [hx]; decide), if_neg (show ¬ l0 = nI 9 by rw [hx]; decide), if_neg (show ¬ l0 = nI 10 by rw [hx]; decide)] at h
      rw [if_pos hx] at h
      refine am_tabIn (off := 171) (tgt := 172) dX11_isGiven_1 (by rw [hx]; decide) (by rw [hx]; decide) (by rw [hx]; rfl) rfl ?_
      refine am_iload_n dX11_isGiven_172 rfl ?_
      obtain ⟨q19, hq19, h⟩ := am_bd h
      refine am_callSx (as := [.inl l1]) (rest := []) dX11_isGiven_173 lkX11_isInode ml_X11_431 isX11_isInode rfl (Nat.le_of_ble_eq_true rfl) rfl (sX11_isInode hG hq19) ?_
      refine am_if_eq (tgt := 194) dX11_isGiven_176 rfl (fun c => ?_) (fun c => ?_)
      · rw [if_pos c] at h
        exact am_lwJ (lo' := [none, none, none, none, none]) trivial (tX11_isGiven_194 hG h)
      · rw [if_neg c] at h
        refine am_iload_n dX11_isGiven_179 rfl ?_
        refine am_iconst (v := nI 0) dX11_isGiven_180 (by decide) ?_
        refine am_sipush (v := nI 383) dX11_isGiven_181 (by decide) ?_
        obtain ⟨q20, hq20, h⟩ := am_bd h
        refine am_callSx (as := [.inl l2, .inl (nI 0), .inl (nI 383)]) (rest := []) dX11_isGiven_184 lkX11_in ml_X11_243 isX11_in rfl (Nat.le_of_ble_eq_true rfl) rfl (sX11_in hG hq20) ?_
        refine am_if_eq (tgt := 194) dX11_isGiven_187 rfl (fun c => ?_) (fun c => ?_)
        · rw [if_pos c] at h
          exact am_lwJ (lo' := [none, none, none, none, none]) trivial (tX11_isGiven_194 hG h)
        · rw [if_neg c] at h
          refine am_iconst (v := nI 1) dX11_isGiven_190 (by decide) ?_
          refine am_goto (tgt := 195) dX11_isGiven_191 rfl ?_
          exact am_lwJ (lo' := [none, none, none, none, none]) trivial (tX11_isGiven_195 hG h)
    | 12, _, hx =>
      rw [if_neg (show ¬ l0 = nI 0 by rw [hx]; decide), if_neg (show ¬ l0 = nI 1 by rw [hx]; decide), if_neg (show ¬ l0 = nI 2 by rw [hx]; decide), if_neg (show ¬ l0 = nI 3 by rw [hx]; decide), if_neg (show ¬ l0 = nI 4 by rw [hx]; decide), if_neg (show ¬ l0 = nI 5 by rw [hx]; decide), if_neg (show ¬ l0 = nI 6 by rw [hx]; decide), if_neg (show ¬ l0 = nI 7 by rw [hx]; decide), if_neg (show ¬ l0 = nI 8 by rw [hx]; decide), if_neg (show ¬ l0 = nI 9 by rw [hx]; decide), if_neg (show ¬ l0 = nI 10 by rw [hx]; decide), if_neg (show ¬ l0 = nI 11 by rw [hx]; decide)] at h
      rw [if_pos hx] at h
      refine am_tabIn (off := 265) (tgt := 266) dX11_isGiven_1 (by rw [hx]; decide) (by rw [hx]; decide) (by rw [hx]; rfl) rfl ?_
      refine am_iload_n dX11_isGiven_266 rfl ?_
      obtain ⟨q21, hq21, h⟩ := am_bd h
      refine am_callSx (as := [.inl l1]) (rest := []) dX11_isGiven_267 lkX11_isInode ml_X11_431 isX11_isInode rfl (Nat.le_of_ble_eq_true rfl) rfl (sX11_isInode hG hq21) ?_
      obtain ⟨g22, h⟩ := am_gd_some h
      cases h
      exact am_iret dX11_isGiven_270 rfl (am_nz (am_01_of g22)).1 ⟨rfl, rfl⟩
    | 13, _, hx =>
      rw [if_neg (show ¬ l0 = nI 0 by rw [hx]; decide), if_neg (show ¬ l0 = nI 1 by rw [hx]; decide), if_neg (show ¬ l0 = nI 2 by rw [hx]; decide), if_neg (show ¬ l0 = nI 3 by rw [hx]; decide), if_neg (show ¬ l0 = nI 4 by rw [hx]; decide), if_neg (show ¬ l0 = nI 5 by rw [hx]; decide), if_neg (show ¬ l0 = nI 6 by rw [hx]; decide), if_neg (show ¬ l0 = nI 7 by rw [hx]; decide), if_neg (show ¬ l0 = nI 8 by rw [hx]; decide), if_neg (show ¬ l0 = nI 9 by rw [hx]; decide), if_neg (show ¬ l0 = nI 10 by rw [hx]; decide), if_neg (show ¬ l0 = nI 11 by rw [hx]; decide), if_neg (show ¬ l0 = nI 12 by rw [hx]; decide)] at h
      rw [if_pos hx] at h
      refine am_tabIn (off := 265) (tgt := 266) dX11_isGiven_1 (by rw [hx]; decide) (by rw [hx]; decide) (by rw [hx]; rfl) rfl ?_
      refine am_iload_n dX11_isGiven_266 rfl ?_
      obtain ⟨q23, hq23, h⟩ := am_bd h
      refine am_callSx (as := [.inl l1]) (rest := []) dX11_isGiven_267 lkX11_isInode ml_X11_431 isX11_isInode rfl (Nat.le_of_ble_eq_true rfl) rfl (sX11_isInode hG hq23) ?_
      obtain ⟨g24, h⟩ := am_gd_some h
      cases h
      exact am_iret dX11_isGiven_270 rfl (am_nz (am_01_of g24)).1 ⟨rfl, rfl⟩
    | 14, _, hx =>
      rw [if_neg (show ¬ l0 = nI 0 by rw [hx]; decide), if_neg (show ¬ l0 = nI 1 by rw [hx]; decide), if_neg (show ¬ l0 = nI 2 by rw [hx]; decide), if_neg (show ¬ l0 = nI 3 by rw [hx]; decide), if_neg (show ¬ l0 = nI 4 by rw [hx]; decide), if_neg (show ¬ l0 = nI 5 by rw [hx]; decide), if_neg (show ¬ l0 = nI 6 by rw [hx]; decide), if_neg (show ¬ l0 = nI 7 by rw [hx]; decide), if_neg (show ¬ l0 = nI 8 by rw [hx]; decide), if_neg (show ¬ l0 = nI 9 by rw [hx]; decide), if_neg (show ¬ l0 = nI 10 by rw [hx]; decide), if_neg (show ¬ l0 = nI 11 by rw [hx]; decide), if_neg (show ¬ l0 = nI 12 by rw [hx]; decide), if_neg (show ¬ l0 = nI 13 by rw [hx]; decide)] at h
      rw [if_pos hx] at h
      refine am_tabIn (off := 270) (tgt := 271) dX11_isGiven_1 (by rw [hx]; decide) (by rw [hx]; decide) (by rw [hx]; rfl) rfl ?_
      refine am_iconst (v := nI 1) dX11_isGiven_271 (by decide) ?_
      cases h
      exact am_iret dX11_isGiven_272 rfl (am_nz (by decide)).1 ⟨rfl, rfl⟩
    | m + 15, hm, _ => exact absurd hm (by omega)
  · rw [if_neg (am_swd (k := 0) hx (by decide) (by decide)), if_neg (am_swd (k := 1) hx (by decide) (by decide)), if_neg (am_swd (k := 2) hx (by decide) (by decide)), if_neg (am_swd (k := 3) hx (by decide) (by decide)), if_neg (am_swd (k := 4) hx (by decide) (by decide)), if_neg (am_swd (k := 5) hx (by decide) (by decide)), if_neg (am_swd (k := 6) hx (by decide) (by decide)), if_neg (am_swd (k := 7) hx (by decide) (by decide)), if_neg (am_swd (k := 8) hx (by decide) (by decide)), if_neg (am_swd (k := 9) hx (by decide) (by decide)), if_neg (am_swd (k := 10) hx (by decide) (by decide)), if_neg (am_swd (k := 11) hx (by decide) (by decide)), if_neg (am_swd (k := 12) hx (by decide) (by decide)), if_neg (am_swd (k := 13) hx (by decide) (by decide)), if_neg (am_swd (k := 14) hx (by decide) (by decide))] at h
    refine am_tabOut (tgt := 273) dX11_isGiven_1 (by omega) rfl ?_
    refine am_iconst (v := nI 0) dX11_isGiven_273 (by decide) ?_
    cases h
    exact am_iret dX11_isGiven_274 rfl (am_nz (by decide)).1 ⟨rfl, rfl⟩
def gX11_isGiven (n : Nat) (l0 : Int32) (l1 : Int32) (l2 : Int32) (l3 : Int32) (l4 : Int32) (I : am_I) : Option (Int32 × am_I) := bX11_isGiven_0 n l0 l1 l2 l3 l4 I
theorem sX11_isGiven {G : am_G} (hG : am_okM G) {d : Nat} {l0 : Int32} {l1 : Int32} {l2 : Int32} {l3 : Int32} {l4 : Int32} {I : am_I} {r : Int32 × am_I} (h : gX11_isGiven G.2.2.2.1 l0 l1 l2 l3 l4 I = some r) : am_C G (d + 2) mX11_isGiven [.inl l0, .inl l1, .inl l2, .inl l3, .inl l4] I (am_E (some r.1) r.2) :=
  am_of (by decide +kernel) hG.nd (Nat.le_of_ble_eq_true rfl) (am_lwJ (lo' := [some (.inl l0), some (.inl l1), some (.inl l2), some (.inl l3), some (.inl l4)]) ⟨rfl, rfl, rfl, rfl, rfl, trivial⟩ (tX11_isGiven_0 hG h))
def bX11_isCalling_15 (n : Nat) (s0 : Int32) (I : am_I) : Option (Int32 × am_I) := am_gd (am_01 s0) (some (s0, I))
theorem tX11_isCalling_15 {G : am_G} (hG : am_okM G) {d : Nat} {s0 : Int32} {I : am_I} {r : Int32 × am_I} (h : bX11_isCalling_15 G.2.2.2.1 s0  I = some r) : am_J G d mX11_isCalling am_no (am_E (some r.1) r.2) 15 [none, none] [.inl s0] I := by
  unfold bX11_isCalling_15 at h
  obtain ⟨g1, h⟩ := am_gd_some h
  cases h
  exact am_iret dX11_isCalling_15 rfl (am_nz (am_01_of g1)).1 ⟨rfl, rfl⟩
def bX11_isCalling_0 (n : Nat) (l1 : Int32) (I : am_I) : Option (Int32 × am_I) := am_gd (am_inb l1 4) (if (I 0 87 l1.toNatClampNeg) = (nI 1) then (bX11_isCalling_15 n (nI 1) I) else (bX11_isCalling_15 n (nI 0) I))
theorem tX11_isCalling_0 {G : am_G} (hG : am_okM G) {d : Nat} {l1 : Int32} {I : am_I} {r : Int32 × am_I} (h : bX11_isCalling_0 G.2.2.2.1 l1  I = some r) : am_J G d mX11_isCalling am_no (am_E (some r.1) r.2) 0 [some (.inr (0, 60)), some (.inl l1)] [] I := by
  unfold bX11_isCalling_0 at h
  refine am_aload_n dX11_isCalling_0 rfl ?_
  refine am_get (v := .inr (0, 87)) dX11_isCalling_1 fl_11_81 (hG.m0 (by decide)) rfl ?_
  refine am_iload_n dX11_isCalling_4 rfl ?_
  obtain ⟨g1, h⟩ := am_gd_some h
  refine am_ialdG dX11_isCalling_5 (hG.m0 (by decide)) rfl g1 (show 4 < 2 ^ 31 by decide) ?_
  refine am_iconst (v := nI 1) dX11_isCalling_6 (by decide) ?_
  refine am_icmp_ne (tgt := 14) dX11_isCalling_7 rfl (fun c => ?_) (fun c => ?_)
  · rw [if_neg c] at h
    refine am_iconst (v := nI 0) dX11_isCalling_14 (by decide) ?_
    exact am_lwJ (lo' := [none, none]) trivial (tX11_isCalling_15 hG h)
  · rw [if_pos c] at h
    refine am_iconst (v := nI 1) dX11_isCalling_10 (by decide) ?_
    refine am_goto (tgt := 15) dX11_isCalling_11 rfl ?_
    exact am_lwJ (lo' := [none, none]) trivial (tX11_isCalling_15 hG h)
def gX11_isCalling (n : Nat) (l1 : Int32) (I : am_I) : Option (Int32 × am_I) := bX11_isCalling_0 n l1 I
theorem sX11_isCalling {G : am_G} (hG : am_okM G) {d : Nat} {l1 : Int32} {I : am_I} {r : Int32 × am_I} (h : gX11_isCalling G.2.2.2.1 l1 I = some r) : am_C G d mX11_isCalling [.inr (0, 60), .inl l1] I (am_E (some r.1) r.2) :=
  am_of (by decide +kernel) hG.nd (Nat.le_of_ble_eq_true rfl) (am_lwJ (lo' := [some (.inr (0, 60)), some (.inl l1)]) ⟨rfl, rfl, trivial⟩ (tX11_isCalling_0 hG h))
def bX11_refuse_41 (n : Nat) (s0 : Int32) (I : am_I) : Option (Int32 × am_I) := am_gd (am_01 s0) (some (s0, I))
theorem tX11_refuse_41 {G : am_G} (hG : am_okM G) {d : Nat} {s0 : Int32} {I : am_I} {r : Int32 × am_I} (h : bX11_refuse_41 G.2.2.2.1 s0  I = some r) : am_J G d mX11_refuse am_no (am_E (some r.1) r.2) 41 [none, none, none, none] [.inl s0] I := by
  unfold bX11_refuse_41 at h
  obtain ⟨g1, h⟩ := am_gd_some h
  cases h
  exact am_iret dX11_refuse_41 rfl (am_nz (am_01_of g1)).1 ⟨rfl, rfl⟩
def bX11_refuse_26 (n : Nat) (s0 : Int32) (I : am_I) : Option (Int32 × am_I) := am_lt (am_up I 0 60 0 s0) (fun I1 => if (I1 0 60 0) ≤ 0 then (bX11_refuse_41 n (nI 0) I1) else (bX11_refuse_41 n (nI 1) I1))
theorem tX11_refuse_26 {G : am_G} (hG : am_okM G) {d : Nat} {s0 : Int32} {I : am_I} {r : Int32 × am_I} (h : bX11_refuse_26 G.2.2.2.1 s0  I = some r) : am_J G d mX11_refuse am_no (am_E (some r.1) r.2) 26 [some (.inr (0, 60)), none, none, none] [.inl s0, .inr (0, 60)] I := by
  unfold bX11_refuse_26 at h
  refine am_put (x := s0) dX11_refuse_26 fp_11_188 (hG.m0 (by decide)) (Nat.le_of_ble_eq_true rfl) rfl ?_
  obtain ⟨I1, hI1, h⟩ := am_lt_some h
  refine am_st10 hI1 ?_
  refine am_aload_n dX11_refuse_29 rfl ?_
  refine am_get (v := .inl (I1 0 60 0)) dX11_refuse_30 fl_11_188 (hG.m0 (by decide)) rfl ?_
  refine am_if_le (tgt := 40) dX11_refuse_33 rfl (fun c => ?_) (fun c => ?_)
  · rw [if_pos c] at h
    refine am_iconst (v := nI 0) dX11_refuse_40 (by decide) ?_
    exact am_lwJ (lo' := [none, none, none, none]) trivial (tX11_refuse_41 hG h)
  · rw [if_neg c] at h
    refine am_iconst (v := nI 1) dX11_refuse_36 (by decide) ?_
    refine am_goto (tgt := 41) dX11_refuse_37 rfl ?_
    exact am_lwJ (lo' := [none, none, none, none]) trivial (tX11_refuse_41 hG h)
def bX11_refuse_0 (n : Nat) (l1 : Int32) (l2 : Int32) (l3 : Int32) (I : am_I) : Option (Int32 × am_I) := if l1 = 0 then (if l2 = 0 then (if l3 = 0 then (bX11_refuse_26 n (nI 0) I) else (bX11_refuse_26 n (nI 3) I)) else (bX11_refuse_26 n (nI 2) I)) else (bX11_refuse_26 n (nI 1) I)
theorem tX11_refuse_0 {G : am_G} (hG : am_okM G) {d : Nat} {l1 : Int32} {l2 : Int32} {l3 : Int32} {I : am_I} {r : Int32 × am_I} (h : bX11_refuse_0 G.2.2.2.1 l1 l2 l3  I = some r) : am_J G d mX11_refuse am_no (am_E (some r.1) r.2) 0 [some (.inr (0, 60)), some (.inl l1), some (.inl l2), some (.inl l3)] [] I := by
  unfold bX11_refuse_0 at h
  refine am_aload_n dX11_refuse_0 rfl ?_
  refine am_iload_n dX11_refuse_1 rfl ?_
  refine am_if_eq (tgt := 9) dX11_refuse_2 rfl (fun c => ?_) (fun c => ?_)
  · rw [if_pos c] at h
    refine am_iload_n dX11_refuse_9 rfl ?_
    refine am_if_eq (tgt := 17) dX11_refuse_10 rfl (fun c => ?_) (fun c => ?_)
    · rw [if_pos c] at h
      refine am_iload_n dX11_refuse_17 rfl ?_
      refine am_if_eq (tgt := 25) dX11_refuse_18 rfl (fun c => ?_) (fun c => ?_)
      · rw [if_pos c] at h
        refine am_iconst (v := nI 0) dX11_refuse_25 (by decide) ?_
        exact am_lwJ (lo' := [some (.inr (0, 60)), none, none, none]) ⟨rfl, trivial⟩ (tX11_refuse_26 hG h)
      · rw [if_neg c] at h
        refine am_iconst (v := nI 3) dX11_refuse_21 (by decide) ?_
        refine am_goto (tgt := 26) dX11_refuse_22 rfl ?_
        exact am_lwJ (lo' := [some (.inr (0, 60)), none, none, none]) ⟨rfl, trivial⟩ (tX11_refuse_26 hG h)
    · rw [if_neg c] at h
      refine am_iconst (v := nI 2) dX11_refuse_13 (by decide) ?_
      refine am_goto (tgt := 26) dX11_refuse_14 rfl ?_
      exact am_lwJ (lo' := [some (.inr (0, 60)), none, none, none]) ⟨rfl, trivial⟩ (tX11_refuse_26 hG h)
  · rw [if_neg c] at h
    refine am_iconst (v := nI 1) dX11_refuse_5 (by decide) ?_
    refine am_goto (tgt := 26) dX11_refuse_6 rfl ?_
    exact am_lwJ (lo' := [some (.inr (0, 60)), none, none, none]) ⟨rfl, trivial⟩ (tX11_refuse_26 hG h)
def gX11_refuse (n : Nat) (l1 : Int32) (l2 : Int32) (l3 : Int32) (I : am_I) : Option (Int32 × am_I) := bX11_refuse_0 n l1 l2 l3 I
theorem sX11_refuse {G : am_G} (hG : am_okM G) {d : Nat} {l1 : Int32} {l2 : Int32} {l3 : Int32} {I : am_I} {r : Int32 × am_I} (h : gX11_refuse G.2.2.2.1 l1 l2 l3 I = some r) : am_C G d mX11_refuse [.inr (0, 60), .inl l1, .inl l2, .inl l3] I (am_E (some r.1) r.2) :=
  am_of (by decide +kernel) hG.nd (Nat.le_of_ble_eq_true rfl) (am_lwJ (lo' := [some (.inr (0, 60)), some (.inl l1), some (.inl l2), some (.inl l3)]) ⟨rfl, rfl, rfl, rfl, trivial⟩ (tX11_refuse_0 hG h))
def bX11_at_0 (n : Nat) (l0 : Int32) (l1 : Int32) (I : am_I) : Option (Int32 × am_I) := some (((nI 136) * l0) + l1, I)
theorem tX11_at_0 {G : am_G} (hG : am_okM G) {d : Nat} {l0 : Int32} {l1 : Int32} {I : am_I} {r : Int32 × am_I} (h : bX11_at_0 G.2.2.2.1 l0 l1  I = some r) : am_J G d mX11_at am_no (am_E (some r.1) r.2) 0 [some (.inl l0), some (.inl l1)] [] I := by
  unfold bX11_at_0 at h
  refine am_sipush (v := nI 136) dX11_at_0 (by decide) ?_
  refine am_iload_n dX11_at_3 rfl ?_
  refine am_imul dX11_at_4 ?_
  refine am_iload_n dX11_at_5 rfl ?_
  refine am_iadd dX11_at_6 ?_
  cases h
  exact am_iret dX11_at_7 rfl rfl ⟨rfl, rfl⟩
def gX11_at (n : Nat) (l0 : Int32) (l1 : Int32) (I : am_I) : Option (Int32 × am_I) := bX11_at_0 n l0 l1 I
theorem sX11_at {G : am_G} (hG : am_okM G) {d : Nat} {l0 : Int32} {l1 : Int32} {I : am_I} {r : Int32 × am_I} (h : gX11_at G.2.2.2.1 l0 l1 I = some r) : am_C G d mX11_at [.inl l0, .inl l1] I (am_E (some r.1) r.2) :=
  am_of (by decide +kernel) hG.nd (Nat.le_of_ble_eq_true rfl) (am_lwJ (lo' := [some (.inl l0), some (.inl l1)]) ⟨rfl, rfl, trivial⟩ (tX11_at_0 hG h))
def bX11_note_0 (n : Nat) (l1 : Int32) (l2 : Int32) (l3 : Int32) (l4 : Int32) (I : am_I) : Option (am_I) := if (I 0 60 63) = (nI 400) then (some I) else (am_gd (am_inb ((nI 10) * (I 0 60 63)) 4000) (am_lt (am_up I 0 125 ((nI 10) * (I 0 60 63)).toNatClampNeg l1) (fun I2 => am_gd (am_inb l1 4) (am_gd (am_inb (((nI 10) * (I 0 60 63)) + (nI 1)) 4000) (am_lt (am_up I2 0 125 (((nI 10) * (I 0 60 63)) + (nI 1)).toNatClampNeg (I2 0 82 l1.toNatClampNeg)) (fun I5 => am_gd (am_inb l1 4) (am_gd (am_inb (((nI 10) * (I 0 60 63)) + (nI 2)) 4000) (am_lt (am_up I5 0 125 (((nI 10) * (I 0 60 63)) + (nI 2)).toNatClampNeg (I5 0 83 l1.toNatClampNeg)) (fun I8 => am_gd (am_inb l1 4) (am_gd (am_inb (((nI 10) * (I 0 60 63)) + (nI 3)) 4000) (am_lt (am_up I8 0 125 (((nI 10) * (I 0 60 63)) + (nI 3)).toNatClampNeg (I8 0 84 l1.toNatClampNeg)) (fun I11 => am_gd (am_inb l1 4) (am_gd (am_inb (((nI 10) * (I 0 60 63)) + (nI 4)) 4000) (am_lt (am_up I11 0 125 (((nI 10) * (I 0 60 63)) + (nI 4)).toNatClampNeg (I11 0 85 l1.toNatClampNeg)) (fun I14 => am_gd (am_inb l1 4) (am_gd (am_inb (((nI 10) * (I 0 60 63)) + (nI 5)) 4000) (am_lt (am_up I14 0 125 (((nI 10) * (I 0 60 63)) + (nI 5)).toNatClampNeg (I14 0 86 l1.toNatClampNeg)) (fun I17 => am_gd (am_inb (((nI 10) * (I 0 60 63)) + (nI 6)) 4000) (am_lt (am_up I17 0 125 (((nI 10) * (I 0 60 63)) + (nI 6)).toNatClampNeg l2) (fun I19 => am_gd (am_inb (((nI 10) * (I 0 60 63)) + (nI 7)) 4000) (am_lt (am_up I19 0 125 (((nI 10) * (I 0 60 63)) + (nI 7)).toNatClampNeg l3) (fun I21 => am_gd (am_inb (((nI 10) * (I 0 60 63)) + (nI 8)) 4000) (am_lt (am_up I21 0 125 (((nI 10) * (I 0 60 63)) + (nI 8)).toNatClampNeg (I21 0 60 2)) (fun I23 => am_gd (am_inb (((nI 10) * (I 0 60 63)) + (nI 9)) 4000) (am_lt (am_up I23 0 125 (((nI 10) * (I 0 60 63)) + (nI 9)).toNatClampNeg l4) (fun I25 => am_gd (am_inb (I25 0 60 63) 400) (am_lt (am_up I25 0 126 (I25 0 60 63).toNatClampNeg (nI 0)) (fun I27 => am_lt (am_up I27 0 60 63 ((I27 0 60 63) + (nI 1))) (fun I28 => some I28)))))))))))))))))))))))))))))
theorem tX11_note_0 {G : am_G} (hG : am_okM G) {d : Nat} {l1 : Int32} {l2 : Int32} {l3 : Int32} {l4 : Int32} {I : am_I} {r : am_I} (h : bX11_note_0 G.2.2.2.1 l1 l2 l3 l4  I = some r) : am_J G d mX11_note am_no (am_E none r) 0 [some (.inr (0, 60)), some (.inl l1), some (.inl l2), some (.inl l3), some (.inl l4), none] [] I := by
  unfold bX11_note_0 at h
  refine am_aload_n dX11_note_0 rfl ?_
  refine am_get (v := .inl (I 0 60 63)) dX11_note_1 fl_11_274 (hG.m0 (by decide)) rfl ?_
  refine am_sipush (v := nI 400) dX11_note_4 (by decide) ?_
  refine am_icmp_ne (tgt := 11) dX11_note_7 rfl (fun c => ?_) (fun c => ?_)
  · rw [if_neg c] at h
    refine am_bipush (v := nI 10) dX11_note_11 (by decide) ?_
    refine am_aload_n dX11_note_13 rfl ?_
    refine am_get (v := .inl (I 0 60 63)) dX11_note_14 fl_11_274 (hG.m0 (by decide)) rfl ?_
    refine am_imul dX11_note_17 ?_
    refine am_istore dX11_note_18 (by decide) ?_
    refine am_aload_n dX11_note_20 rfl ?_
    refine am_get (v := .inr (0, 125)) dX11_note_21 fl_11_156 (hG.m0 (by decide)) rfl ?_
    refine am_iload dX11_note_24 rfl ?_
    refine am_iload_n dX11_note_26 rfl ?_
    obtain ⟨g1, h⟩ := am_gd_some h
    refine am_iastG dX11_note_27 (hG.m0 (by decide)) rfl g1 (show 4000 < 2 ^ 31 by decide) ?_
    obtain ⟨I2, hI2, h⟩ := am_lt_some h
    refine am_st10 hI2 ?_
    refine am_aload_n dX11_note_28 rfl ?_
    refine am_get (v := .inr (0, 125)) dX11_note_29 fl_11_156 (hG.m0 (by decide)) rfl ?_
    refine am_iload dX11_note_32 rfl ?_
    refine am_iconst (v := nI 1) dX11_note_34 (by decide) ?_
    refine am_iadd dX11_note_35 ?_
    refine am_aload_n dX11_note_36 rfl ?_
    refine am_get (v := .inr (0, 82)) dX11_note_37 fl_11_66 (hG.m0 (by decide)) rfl ?_
    refine am_iload_n dX11_note_40 rfl ?_
    obtain ⟨g3, h⟩ := am_gd_some h
    refine am_ialdG dX11_note_41 (hG.m0 (by decide)) rfl g3 (show 4 < 2 ^ 31 by decide) ?_
    obtain ⟨g4, h⟩ := am_gd_some h
    refine am_iastG dX11_note_42 (hG.m0 (by decide)) rfl g4 (show 4000 < 2 ^ 31 by decide) ?_
    obtain ⟨I5, hI5, h⟩ := am_lt_some h
    refine am_st10 hI5 ?_
    refine am_aload_n dX11_note_43 rfl ?_
    refine am_get (v := .inr (0, 125)) dX11_note_44 fl_11_156 (hG.m0 (by decide)) rfl ?_
    refine am_iload dX11_note_47 rfl ?_
    refine am_iconst (v := nI 2) dX11_note_49 (by decide) ?_
    refine am_iadd dX11_note_50 ?_
    refine am_aload_n dX11_note_51 rfl ?_
    refine am_get (v := .inr (0, 83)) dX11_note_52 fl_11_69 (hG.m0 (by decide)) rfl ?_
    refine am_iload_n dX11_note_55 rfl ?_
    obtain ⟨g6, h⟩ := am_gd_some h
    refine am_ialdG dX11_note_56 (hG.m0 (by decide)) rfl g6 (show 4 < 2 ^ 31 by decide) ?_
    obtain ⟨g7, h⟩ := am_gd_some h
    refine am_iastG dX11_note_57 (hG.m0 (by decide)) rfl g7 (show 4000 < 2 ^ 31 by decide) ?_
    obtain ⟨I8, hI8, h⟩ := am_lt_some h
    refine am_st10 hI8 ?_
    refine am_aload_n dX11_note_58 rfl ?_
    refine am_get (v := .inr (0, 125)) dX11_note_59 fl_11_156 (hG.m0 (by decide)) rfl ?_
    refine am_iload dX11_note_62 rfl ?_
    refine am_iconst (v := nI 3) dX11_note_64 (by decide) ?_
    refine am_iadd dX11_note_65 ?_
    refine am_aload_n dX11_note_66 rfl ?_
    refine am_get (v := .inr (0, 84)) dX11_note_67 fl_11_72 (hG.m0 (by decide)) rfl ?_
    refine am_iload_n dX11_note_70 rfl ?_
    obtain ⟨g9, h⟩ := am_gd_some h
    refine am_ialdG dX11_note_71 (hG.m0 (by decide)) rfl g9 (show 4 < 2 ^ 31 by decide) ?_
    obtain ⟨g10, h⟩ := am_gd_some h
    refine am_iastG dX11_note_72 (hG.m0 (by decide)) rfl g10 (show 4000 < 2 ^ 31 by decide) ?_
    obtain ⟨I11, hI11, h⟩ := am_lt_some h
    refine am_st10 hI11 ?_
    refine am_aload_n dX11_note_73 rfl ?_
    refine am_get (v := .inr (0, 125)) dX11_note_74 fl_11_156 (hG.m0 (by decide)) rfl ?_
    refine am_iload dX11_note_77 rfl ?_
    refine am_iconst (v := nI 4) dX11_note_79 (by decide) ?_
    refine am_iadd dX11_note_80 ?_
    refine am_aload_n dX11_note_81 rfl ?_
    refine am_get (v := .inr (0, 85)) dX11_note_82 fl_11_75 (hG.m0 (by decide)) rfl ?_
    refine am_iload_n dX11_note_85 rfl ?_
    obtain ⟨g12, h⟩ := am_gd_some h
    refine am_ialdG dX11_note_86 (hG.m0 (by decide)) rfl g12 (show 4 < 2 ^ 31 by decide) ?_
    obtain ⟨g13, h⟩ := am_gd_some h
    refine am_iastG dX11_note_87 (hG.m0 (by decide)) rfl g13 (show 4000 < 2 ^ 31 by decide) ?_
    obtain ⟨I14, hI14, h⟩ := am_lt_some h
    refine am_st10 hI14 ?_
    refine am_aload_n dX11_note_88 rfl ?_
    refine am_get (v := .inr (0, 125)) dX11_note_89 fl_11_156 (hG.m0 (by decide)) rfl ?_
    refine am_iload dX11_note_92 rfl ?_
    refine am_iconst (v := nI 5) dX11_note_94 (by decide) ?_
    refine am_iadd dX11_note_95 ?_
    refine am_aload_n dX11_note_96 rfl ?_
    refine am_get (v := .inr (0, 86)) dX11_note_97 fl_11_78 (hG.m0 (by decide)) rfl ?_
    refine am_iload_n dX11_note_100 rfl ?_
    obtain ⟨g15, h⟩ := am_gd_some h
    refine am_ialdG dX11_note_101 (hG.m0 (by decide)) rfl g15 (show 4 < 2 ^ 31 by decide) ?_
    obtain ⟨g16, h⟩ := am_gd_some h
    refine am_iastG dX11_note_102 (hG.m0 (by decide)) rfl g16 (show 4000 < 2 ^ 31 by decide) ?_
    obtain ⟨I17, hI17, h⟩ := am_lt_some h
    refine am_st10 hI17 ?_
    refine am_aload_n dX11_note_103 rfl ?_
    refine am_get (v := .inr (0, 125)) dX11_note_104 fl_11_156 (hG.m0 (by decide)) rfl ?_
    refine am_iload dX11_note_107 rfl ?_
    refine am_bipush (v := nI 6) dX11_note_109 (by decide) ?_
    refine am_iadd dX11_note_111 ?_
    refine am_iload_n dX11_note_112 rfl ?_
    obtain ⟨g18, h⟩ := am_gd_some h
    refine am_iastG dX11_note_113 (hG.m0 (by decide)) rfl g18 (show 4000 < 2 ^ 31 by decide) ?_
    obtain ⟨I19, hI19, h⟩ := am_lt_some h
    refine am_st10 hI19 ?_
    refine am_aload_n dX11_note_114 rfl ?_
    refine am_get (v := .inr (0, 125)) dX11_note_115 fl_11_156 (hG.m0 (by decide)) rfl ?_
    refine am_iload dX11_note_118 rfl ?_
    refine am_bipush (v := nI 7) dX11_note_120 (by decide) ?_
    refine am_iadd dX11_note_122 ?_
    refine am_iload_n dX11_note_123 rfl ?_
    obtain ⟨g20, h⟩ := am_gd_some h
    refine am_iastG dX11_note_124 (hG.m0 (by decide)) rfl g20 (show 4000 < 2 ^ 31 by decide) ?_
    obtain ⟨I21, hI21, h⟩ := am_lt_some h
    refine am_st10 hI21 ?_
    refine am_aload_n dX11_note_125 rfl ?_
    refine am_get (v := .inr (0, 125)) dX11_note_126 fl_11_156 (hG.m0 (by decide)) rfl ?_
    refine am_iload dX11_note_129 rfl ?_
    refine am_bipush (v := nI 8) dX11_note_131 (by decide) ?_
    refine am_iadd dX11_note_133 ?_
    refine am_aload_n dX11_note_134 rfl ?_
    refine am_get (v := .inl (I21 0 60 2)) dX11_note_135 fl_11_194 (hG.m0 (by decide)) rfl ?_
    obtain ⟨g22, h⟩ := am_gd_some h
    refine am_iastG dX11_note_138 (hG.m0 (by decide)) rfl g22 (show 4000 < 2 ^ 31 by decide) ?_
    obtain ⟨I23, hI23, h⟩ := am_lt_some h
    refine am_st10 hI23 ?_
    refine am_aload_n dX11_note_139 rfl ?_
    refine am_get (v := .inr (0, 125)) dX11_note_140 fl_11_156 (hG.m0 (by decide)) rfl ?_
    refine am_iload dX11_note_143 rfl ?_
    refine am_bipush (v := nI 9) dX11_note_145 (by decide) ?_
    refine am_iadd dX11_note_147 ?_
    refine am_iload dX11_note_148 rfl ?_
    obtain ⟨g24, h⟩ := am_gd_some h
    refine am_iastG dX11_note_150 (hG.m0 (by decide)) rfl g24 (show 4000 < 2 ^ 31 by decide) ?_
    obtain ⟨I25, hI25, h⟩ := am_lt_some h
    refine am_st10 hI25 ?_
    refine am_aload_n dX11_note_151 rfl ?_
    refine am_get (v := .inr (0, 126)) dX11_note_152 fl_11_159 (hG.m0 (by decide)) rfl ?_
    refine am_aload_n dX11_note_155 rfl ?_
    refine am_get (v := .inl (I25 0 60 63)) dX11_note_156 fl_11_274 (hG.m0 (by decide)) rfl ?_
    refine am_iconst (v := nI 0) dX11_note_159 (by decide) ?_
    obtain ⟨g26, h⟩ := am_gd_some h
    refine am_zastG dX11_note_160 (hG.m0 (by decide)) rfl (by decide) g26 (show 400 < 2 ^ 31 by decide) ?_
    obtain ⟨I27, hI27, h⟩ := am_lt_some h
    refine am_st10 hI27 ?_
    refine am_aload_n dX11_note_161 rfl ?_
    refine am_dup dX11_note_162 ?_
    refine am_get (v := .inl (I27 0 60 63)) dX11_note_163 fl_11_274 (hG.m0 (by decide)) rfl ?_
    refine am_iconst (v := nI 1) dX11_note_166 (by decide) ?_
    refine am_iadd dX11_note_167 ?_
    refine am_put (x := (I27 0 60 63) + (nI 1)) dX11_note_168 fp_11_274 (hG.m0 (by decide)) (Nat.le_of_ble_eq_true rfl) rfl ?_
    obtain ⟨I28, hI28, h⟩ := am_lt_some h
    refine am_st10 hI28 ?_
    cases h
    exact am_vret dX11_note_171 rfl ⟨rfl, rfl⟩
  · rw [if_pos c] at h
    cases h
    exact am_vret dX11_note_10 rfl ⟨rfl, rfl⟩
def gX11_note (n : Nat) (l1 : Int32) (l2 : Int32) (l3 : Int32) (l4 : Int32) (I : am_I) : Option (am_I) := bX11_note_0 n l1 l2 l3 l4 I
theorem sX11_note {G : am_G} (hG : am_okM G) {d : Nat} {l1 : Int32} {l2 : Int32} {l3 : Int32} {l4 : Int32} {I : am_I} {r : am_I} (h : gX11_note G.2.2.2.1 l1 l2 l3 l4 I = some r) : am_C G d mX11_note [.inr (0, 60), .inl l1, .inl l2, .inl l3, .inl l4] I (am_E none r) :=
  am_of (by decide +kernel) hG.nd (Nat.le_of_ble_eq_true rfl) (am_lwJ (lo' := [some (.inr (0, 60)), some (.inl l1), some (.inl l2), some (.inl l3), some (.inl l4), none]) ⟨rfl, rfl, rfl, rfl, rfl, trivial⟩ (tX11_note_0 hG h))
def bX11_addWrite_22 (n : Nat) : Nat → Int32 → Int32 → Int32 → am_I → Option (am_I)
  | 0, _, _, _, _ => none
  | fu + 1, l1, l3, l4, I => (fun k22 => if (nI 16) ≤ l4 then (am_gd (am_inb l1 4) (am_gd (am_inb l1 4) (am_lt (am_up I 0 72 l1.toNatClampNeg ((I 0 72 l1.toNatClampNeg) + (nI 1))) (fun I3 => some I3)))) else (am_gd (am_inb (((nI 16) * l3) + l4) 2304) (am_lt (am_up I 0 75 (((nI 16) * l3) + l4).toNatClampNeg (nI 0)) (fun I5 => k22 l1 l3 (l4 + nI 1) I5)))) (bX11_addWrite_22 n fu)
theorem tX11_addWrite_22 {G : am_G} (hG : am_okM G) {d : Nat} : ∀ {fu : Nat} {l1 : Int32} {l3 : Int32} {l4 : Int32} {I : am_I} {r : am_I}, bX11_addWrite_22 G.2.2.2.1 fu l1 l3 l4 I = some r → am_J G d mX11_addWrite am_no (am_E none r) 22 [some (.inr (0, 60)), some (.inl l1), none, some (.inl l3), some (.inl l4)] [] I := by
  intro fu
  induction fu with
  | zero => intro l1 l3 l4 I r h; cases h
  | succ fu ih =>
    intro l1 l3 l4 I r h
    have hk22 : ∀ (l1 : Int32) (l3 : Int32) (l4 : Int32) (I : am_I) (r : am_I), bX11_addWrite_22 G.2.2.2.1 fu l1 l3 l4 I = some r → am_J G d mX11_addWrite am_no (am_E none r) 22 [some (.inr (0, 60)), some (.inl l1), none, some (.inl l3), some (.inl l4)] [] I := fun l1 l3 l4 I r h => ih h
    unfold bX11_addWrite_22 at h
    generalize bX11_addWrite_22 G.2.2.2.1 fu = k22 at hk22 h
    dsimp only at h
    refine am_iload dX11_addWrite_22 rfl ?_
    refine am_bipush (v := nI 16) dX11_addWrite_24 (by decide) ?_
    refine am_icmp_ge (tgt := 48) dX11_addWrite_26 rfl (fun c => ?_) (fun c => ?_)
    · rw [if_pos c] at h
      refine am_aload_n dX11_addWrite_48 rfl ?_
      refine am_get (v := .inr (0, 72)) dX11_addWrite_49 fl_11_36 (hG.m0 (by decide)) rfl ?_
      refine am_iload_n dX11_addWrite_52 rfl ?_
      refine am_dup2 dX11_addWrite_53 ?_
      obtain ⟨g1, h⟩ := am_gd_some h
      refine am_ialdG dX11_addWrite_54 (hG.m0 (by decide)) rfl g1 (show 4 < 2 ^ 31 by decide) ?_
      refine am_iconst (v := nI 1) dX11_addWrite_55 (by decide) ?_
      refine am_iadd dX11_addWrite_56 ?_
      obtain ⟨g2, h⟩ := am_gd_some h
      refine am_iastG dX11_addWrite_57 (hG.m0 (by decide)) rfl g2 (show 4 < 2 ^ 31 by decide) ?_
      obtain ⟨I3, hI3, h⟩ := am_lt_some h
      refine am_st10 hI3 ?_
      cases h
      exact am_vret dX11_addWrite_58 rfl ⟨rfl, rfl⟩
    · rw [if_neg c] at h
      refine am_aload_n dX11_addWrite_29 rfl ?_
      refine am_get (v := .inr (0, 75)) dX11_addWrite_30 fl_11_45 (hG.m0 (by decide)) rfl ?_
      refine am_bipush (v := nI 16) dX11_addWrite_33 (by decide) ?_
      refine am_iload_n dX11_addWrite_35 rfl ?_
      refine am_imul dX11_addWrite_36 ?_
      refine am_iload dX11_addWrite_37 rfl ?_
      refine am_iadd dX11_addWrite_39 ?_
      refine am_iconst (v := nI 0) dX11_addWrite_40 (by decide) ?_
      obtain ⟨g4, h⟩ := am_gd_some h
      refine am_iastG dX11_addWrite_41 (hG.m0 (by decide)) rfl g4 (show 2304 < 2 ^ 31 by decide) ?_
      obtain ⟨I5, hI5, h⟩ := am_lt_some h
      refine am_st10 hI5 ?_
      refine am_iinc (v := l4 + nI 1) dX11_addWrite_42 rfl rfl ?_
      refine am_goto (tgt := 22) dX11_addWrite_45 rfl ?_
      exact am_lwJ (lo' := [some (.inr (0, 60)), some (.inl l1), none, some (.inl l3), some (.inl (l4 + nI 1))]) ⟨rfl, rfl, rfl, rfl, trivial⟩ (hk22 l1 l3 (l4 + nI 1) _ _ h)
def bX11_addWrite_0 (n : Nat) (l1 : Int32) (l2 : Int32) (I : am_I) : Option (am_I) := am_gd (am_inb l1 4) (am_gd (am_inb (((nI 36) * l1) + (I 0 72 l1.toNatClampNeg)) 144) (am_lt (am_up I 0 74 (((nI 36) * l1) + (I 0 72 l1.toNatClampNeg)).toNatClampNeg l2) (fun I3 => bX11_addWrite_22 n am_fu l1 (((nI 36) * l1) + (I 0 72 l1.toNatClampNeg)) (nI 0) I3)))
theorem tX11_addWrite_0 {G : am_G} (hG : am_okM G) {d : Nat} {l1 : Int32} {l2 : Int32} {I : am_I} {r : am_I} (h : bX11_addWrite_0 G.2.2.2.1 l1 l2  I = some r) : am_J G d mX11_addWrite am_no (am_E none r) 0 [some (.inr (0, 60)), some (.inl l1), some (.inl l2), none, none] [] I := by
  unfold bX11_addWrite_0 at h
  refine am_bipush (v := nI 36) dX11_addWrite_0 (by decide) ?_
  refine am_iload_n dX11_addWrite_2 rfl ?_
  refine am_imul dX11_addWrite_3 ?_
  refine am_aload_n dX11_addWrite_4 rfl ?_
  refine am_get (v := .inr (0, 72)) dX11_addWrite_5 fl_11_36 (hG.m0 (by decide)) rfl ?_
  refine am_iload_n dX11_addWrite_8 rfl ?_
  obtain ⟨g1, h⟩ := am_gd_some h
  refine am_ialdG dX11_addWrite_9 (hG.m0 (by decide)) rfl g1 (show 4 < 2 ^ 31 by decide) ?_
  refine am_iadd dX11_addWrite_10 ?_
  refine am_istore_n dX11_addWrite_11 (by decide) ?_
  refine am_aload_n dX11_addWrite_12 rfl ?_
  refine am_get (v := .inr (0, 74)) dX11_addWrite_13 fl_11_42 (hG.m0 (by decide)) rfl ?_
  refine am_iload_n dX11_addWrite_16 rfl ?_
  refine am_iload_n dX11_addWrite_17 rfl ?_
  obtain ⟨g2, h⟩ := am_gd_some h
  refine am_iastG dX11_addWrite_18 (hG.m0 (by decide)) rfl g2 (show 144 < 2 ^ 31 by decide) ?_
  obtain ⟨I3, hI3, h⟩ := am_lt_some h
  refine am_st10 hI3 ?_
  refine am_iconst (v := nI 0) dX11_addWrite_19 (by decide) ?_
  refine am_istore dX11_addWrite_20 (by decide) ?_
  exact am_lwJ (lo' := [some (.inr (0, 60)), some (.inl l1), none, some (.inl (((nI 36) * l1) + (I 0 72 l1.toNatClampNeg))), some (.inl (nI 0))]) ⟨rfl, rfl, rfl, rfl, trivial⟩ (tX11_addWrite_22 hG h)
def gX11_addWrite (n : Nat) (l1 : Int32) (l2 : Int32) (I : am_I) : Option (am_I) := bX11_addWrite_0 n l1 l2 I
theorem sX11_addWrite {G : am_G} (hG : am_okM G) {d : Nat} {l1 : Int32} {l2 : Int32} {I : am_I} {r : am_I} (h : gX11_addWrite G.2.2.2.1 l1 l2 I = some r) : am_C G d mX11_addWrite [.inr (0, 60), .inl l1, .inl l2] I (am_E none r) :=
  am_of (by decide +kernel) hG.nd (Nat.le_of_ble_eq_true rfl) (am_lwJ (lo' := [some (.inr (0, 60)), some (.inl l1), some (.inl l2), none, none]) ⟨rfl, rfl, rfl, trivial⟩ (tX11_addWrite_0 hG h))
def bX11_writeWord_0 (n : Nat) (l1 : Int32) (l2 : Int32) (l3 : Int32) (l4 : Int32) (I : am_I) : Option (am_I) := am_gd (am_inb (((nI 16) * (((nI 36) * l1) + l2)) + l3) 2304) (am_lt (am_up I 0 75 (((nI 16) * (((nI 36) * l1) + l2)) + l3).toNatClampNeg l4) (fun I2 => some I2))
theorem tX11_writeWord_0 {G : am_G} (hG : am_okM G) {d : Nat} {l1 : Int32} {l2 : Int32} {l3 : Int32} {l4 : Int32} {I : am_I} {r : am_I} (h : bX11_writeWord_0 G.2.2.2.1 l1 l2 l3 l4  I = some r) : am_J G d mX11_writeWord am_no (am_E none r) 0 [some (.inr (0, 60)), some (.inl l1), some (.inl l2), some (.inl l3), some (.inl l4)] [] I := by
  unfold bX11_writeWord_0 at h
  refine am_aload_n dX11_writeWord_0 rfl ?_
  refine am_get (v := .inr (0, 75)) dX11_writeWord_1 fl_11_45 (hG.m0 (by decide)) rfl ?_
  refine am_bipush (v := nI 16) dX11_writeWord_4 (by decide) ?_
  refine am_bipush (v := nI 36) dX11_writeWord_6 (by decide) ?_
  refine am_iload_n dX11_writeWord_8 rfl ?_
  refine am_imul dX11_writeWord_9 ?_
  refine am_iload_n dX11_writeWord_10 rfl ?_
  refine am_iadd dX11_writeWord_11 ?_
  refine am_imul dX11_writeWord_12 ?_
  refine am_iload_n dX11_writeWord_13 rfl ?_
  refine am_iadd dX11_writeWord_14 ?_
  refine am_iload dX11_writeWord_15 rfl ?_
  obtain ⟨g1, h⟩ := am_gd_some h
  refine am_iastG dX11_writeWord_17 (hG.m0 (by decide)) rfl g1 (show 2304 < 2 ^ 31 by decide) ?_
  obtain ⟨I2, hI2, h⟩ := am_lt_some h
  refine am_st10 hI2 ?_
  cases h
  exact am_vret dX11_writeWord_18 rfl ⟨rfl, rfl⟩
def gX11_writeWord (n : Nat) (l1 : Int32) (l2 : Int32) (l3 : Int32) (l4 : Int32) (I : am_I) : Option (am_I) := bX11_writeWord_0 n l1 l2 l3 l4 I
theorem sX11_writeWord {G : am_G} (hG : am_okM G) {d : Nat} {l1 : Int32} {l2 : Int32} {l3 : Int32} {l4 : Int32} {I : am_I} {r : am_I} (h : gX11_writeWord G.2.2.2.1 l1 l2 l3 l4 I = some r) : am_C G d mX11_writeWord [.inr (0, 60), .inl l1, .inl l2, .inl l3, .inl l4] I (am_E none r) :=
  am_of (by decide +kernel) hG.nd (Nat.le_of_ble_eq_true rfl) (am_lwJ (lo' := [some (.inr (0, 60)), some (.inl l1), some (.inl l2), some (.inl l3), some (.inl l4)]) ⟨rfl, rfl, rfl, rfl, rfl, trivial⟩ (tX11_writeWord_0 hG h))
def bX11_addCopy_9 (n : Nat) : Nat → Int32 → Int32 → Int32 → am_I → Option (am_I)
  | 0, _, _, _, _ => none
  | fu + 1, l1, l3, l4, I => (fun k9 => if (nI 16) ≤ l4 then (some I) else (am_gd (am_inb l1 4) (am_gd (am_inb (((nI 16) * (((nI 640) * l1) + l3)) + l4) 40960) ((gX11_writeWord n l1 ((I 0 72 l1.toNatClampNeg) - (nI 1)) l4 (I 0 67 ((((nI 16) * (((nI 640) * l1) + l3)) + l4).toNatClampNeg)) I).bind (fun q3 => k9 l1 l3 (l4 + nI 1) q3))))) (bX11_addCopy_9 n fu)
theorem tX11_addCopy_9 {G : am_G} (hG : am_okM G) {d : Nat} : ∀ {fu : Nat} {l1 : Int32} {l3 : Int32} {l4 : Int32} {I : am_I} {r : am_I}, bX11_addCopy_9 G.2.2.2.1 fu l1 l3 l4 I = some r → am_J G (d + 1) mX11_addCopy am_no (am_E none r) 9 [some (.inr (0, 60)), some (.inl l1), none, some (.inl l3), some (.inl l4)] [] I := by
  intro fu
  induction fu with
  | zero => intro l1 l3 l4 I r h; cases h
  | succ fu ih =>
    intro l1 l3 l4 I r h
    have hk9 : ∀ (l1 : Int32) (l3 : Int32) (l4 : Int32) (I : am_I) (r : am_I), bX11_addCopy_9 G.2.2.2.1 fu l1 l3 l4 I = some r → am_J G (d + 1) mX11_addCopy am_no (am_E none r) 9 [some (.inr (0, 60)), some (.inl l1), none, some (.inl l3), some (.inl l4)] [] I := fun l1 l3 l4 I r h => ih h
    unfold bX11_addCopy_9 at h
    generalize bX11_addCopy_9 G.2.2.2.1 fu = k9 at hk9 h
    dsimp only at h
    refine am_iload dX11_addCopy_9 rfl ?_
    refine am_bipush (v := nI 16) dX11_addCopy_11 (by decide) ?_
    refine am_icmp_ge (tgt := 55) dX11_addCopy_13 rfl (fun c => ?_) (fun c => ?_)
    · rw [if_pos c] at h
      cases h
      exact am_vret dX11_addCopy_55 rfl ⟨rfl, rfl⟩
    · rw [if_neg c] at h
      refine am_aload_n dX11_addCopy_16 rfl ?_
      refine am_iload_n dX11_addCopy_17 rfl ?_
      refine am_aload_n dX11_addCopy_18 rfl ?_
      refine am_get (v := .inr (0, 72)) dX11_addCopy_19 fl_11_36 (hG.m0 (by decide)) rfl ?_
      refine am_iload_n dX11_addCopy_22 rfl ?_
      obtain ⟨g1, h⟩ := am_gd_some h
      refine am_ialdG dX11_addCopy_23 (hG.m0 (by decide)) rfl g1 (show 4 < 2 ^ 31 by decide) ?_
      refine am_iconst (v := nI 1) dX11_addCopy_24 (by decide) ?_
      refine am_isub dX11_addCopy_25 ?_
      refine am_iload dX11_addCopy_26 rfl ?_
      refine am_aload_n dX11_addCopy_28 rfl ?_
      refine am_get (v := .inr (0, 67)) dX11_addCopy_29 fl_11_21 (hG.m0 (by decide)) rfl ?_
      refine am_bipush (v := nI 16) dX11_addCopy_32 (by decide) ?_
      refine am_sipush (v := nI 640) dX11_addCopy_34 (by decide) ?_
      refine am_iload_n dX11_addCopy_37 rfl ?_
      refine am_imul dX11_addCopy_38 ?_
      refine am_iload_n dX11_addCopy_39 rfl ?_
      refine am_iadd dX11_addCopy_40 ?_
      refine am_imul dX11_addCopy_41 ?_
      refine am_iload dX11_addCopy_42 rfl ?_
      refine am_iadd dX11_addCopy_44 ?_
      obtain ⟨g2, h⟩ := am_gd_some h
      refine am_ialdG dX11_addCopy_45 (hG.m0 (by decide)) rfl g2 (show 40960 < 2 ^ 31 by decide) ?_
      obtain ⟨q3, hq3, h⟩ := am_bd h
      refine am_callVe (i := 0) (j := 60) (as := [.inl l1, .inl ((I 0 72 l1.toNatClampNeg) - (nI 1)), .inl l4, .inl (I 0 67 ((((nI 16) * (((nI 640) * l1) + l3)) + l4).toNatClampNeg))]) (rest := []) dX11_addCopy_46 lkX11_writeWord ml_X11_252 imX11_writeWord seX11_writeWord rfl rfl (hG.m0 (by decide)) rfl (Nat.le_of_ble_eq_true rfl) rfl (sX11_writeWord hG hq3) ?_
      refine am_iinc (v := l4 + nI 1) dX11_addCopy_49 rfl rfl ?_
      refine am_goto (tgt := 9) dX11_addCopy_52 rfl ?_
      exact am_lwJ (lo' := [some (.inr (0, 60)), some (.inl l1), none, some (.inl l3), some (.inl (l4 + nI 1))]) ⟨rfl, rfl, rfl, rfl, trivial⟩ (hk9 l1 l3 (l4 + nI 1) _ _ h)
def bX11_addCopy_0 (n : Nat) (l1 : Int32) (l2 : Int32) (l3 : Int32) (I : am_I) : Option (am_I) := (gX11_addWrite n l1 l2 I).bind (fun q1 => bX11_addCopy_9 n am_fu l1 l3 (nI 0) q1)
theorem tX11_addCopy_0 {G : am_G} (hG : am_okM G) {d : Nat} {l1 : Int32} {l2 : Int32} {l3 : Int32} {I : am_I} {r : am_I} (h : bX11_addCopy_0 G.2.2.2.1 l1 l2 l3  I = some r) : am_J G (d + 1) mX11_addCopy am_no (am_E none r) 0 [some (.inr (0, 60)), some (.inl l1), some (.inl l2), some (.inl l3), none] [] I := by
  unfold bX11_addCopy_0 at h
  refine am_aload_n dX11_addCopy_0 rfl ?_
  refine am_iload_n dX11_addCopy_1 rfl ?_
  refine am_iload_n dX11_addCopy_2 rfl ?_
  obtain ⟨q1, hq1, h⟩ := am_bd h
  refine am_callVe (i := 0) (j := 60) (as := [.inl l1, .inl l2]) (rest := []) dX11_addCopy_3 lkX11_addWrite ml_X11_249 imX11_addWrite seX11_addWrite rfl rfl (hG.m0 (by decide)) rfl (Nat.le_of_ble_eq_true rfl) rfl (sX11_addWrite hG hq1) ?_
  refine am_iconst (v := nI 0) dX11_addCopy_6 (by decide) ?_
  refine am_istore dX11_addCopy_7 (by decide) ?_
  exact am_lwJ (lo' := [some (.inr (0, 60)), some (.inl l1), none, some (.inl l3), some (.inl (nI 0))]) ⟨rfl, rfl, rfl, rfl, trivial⟩ (tX11_addCopy_9 hG h)
def gX11_addCopy (n : Nat) (l1 : Int32) (l2 : Int32) (l3 : Int32) (I : am_I) : Option (am_I) := bX11_addCopy_0 n l1 l2 l3 I
theorem sX11_addCopy {G : am_G} (hG : am_okM G) {d : Nat} {l1 : Int32} {l2 : Int32} {l3 : Int32} {I : am_I} {r : am_I} (h : gX11_addCopy G.2.2.2.1 l1 l2 l3 I = some r) : am_C G (d + 1) mX11_addCopy [.inr (0, 60), .inl l1, .inl l2, .inl l3] I (am_E none r) :=
  am_of (by decide +kernel) hG.nd (Nat.le_of_ble_eq_true rfl) (am_lwJ (lo' := [some (.inr (0, 60)), some (.inl l1), some (.inl l2), some (.inl l3), none]) ⟨rfl, rfl, rfl, rfl, trivial⟩ (tX11_addCopy_0 hG h))
def bX11_addHead_0 (n : Nat) (l1 : Int32) (l2 : Int32) (l3 : Int32) (I : am_I) : Option (am_I) := (gX11_addWrite n l1 ((nI 1) + ((nI 24) * l1)) I).bind (fun q1 => am_gd (am_inb l1 4) (am_gd (am_inb l1 4) ((gX11_writeWord n l1 ((q1 0 72 l1.toNatClampNeg) - (nI 1)) (nI 0) (q1 0 71 l1.toNatClampNeg) q1).bind (fun q4 => am_gd (am_inb l1 4) ((gX11_writeWord n l1 ((q4 0 72 l1.toNatClampNeg) - (nI 1)) (nI 1) l2 q4).bind (fun q6 => am_gd (am_inb l1 4) ((gX11_writeWord n l1 ((q6 0 72 l1.toNatClampNeg) - (nI 1)) (nI 2) l3 q6).bind (fun q8 => some q8))))))))
theorem tX11_addHead_0 {G : am_G} (hG : am_okM G) {d : Nat} {l1 : Int32} {l2 : Int32} {l3 : Int32} {I : am_I} {r : am_I} (h : bX11_addHead_0 G.2.2.2.1 l1 l2 l3  I = some r) : am_J G (d + 1) mX11_addHead am_no (am_E none r) 0 [some (.inr (0, 60)), some (.inl l1), some (.inl l2), some (.inl l3)] [] I := by
  unfold bX11_addHead_0 at h
  refine am_aload_n dX11_addHead_0 rfl ?_
  refine am_iload_n dX11_addHead_1 rfl ?_
  refine am_iconst (v := nI 1) dX11_addHead_2 (by decide) ?_
  refine am_bipush (v := nI 24) dX11_addHead_3 (by decide) ?_
  refine am_iload_n dX11_addHead_5 rfl ?_
  refine am_imul dX11_addHead_6 ?_
  refine am_iadd dX11_addHead_7 ?_
  obtain ⟨q1, hq1, h⟩ := am_bd h
  refine am_callVe (i := 0) (j := 60) (as := [.inl l1, .inl ((nI 1) + ((nI 24) * l1))]) (rest := []) dX11_addHead_8 lkX11_addWrite ml_X11_249 imX11_addWrite seX11_addWrite rfl rfl (hG.m0 (by decide)) rfl (Nat.le_of_ble_eq_true rfl) rfl (sX11_addWrite hG hq1) ?_
  refine am_aload_n dX11_addHead_11 rfl ?_
  refine am_iload_n dX11_addHead_12 rfl ?_
  refine am_aload_n dX11_addHead_13 rfl ?_
  refine am_get (v := .inr (0, 72)) dX11_addHead_14 fl_11_36 (hG.m0 (by decide)) rfl ?_
  refine am_iload_n dX11_addHead_17 rfl ?_
  obtain ⟨g2, h⟩ := am_gd_some h
  refine am_ialdG dX11_addHead_18 (hG.m0 (by decide)) rfl g2 (show 4 < 2 ^ 31 by decide) ?_
  refine am_iconst (v := nI 1) dX11_addHead_19 (by decide) ?_
  refine am_isub dX11_addHead_20 ?_
  refine am_iconst (v := nI 0) dX11_addHead_21 (by decide) ?_
  refine am_aload_n dX11_addHead_22 rfl ?_
  refine am_get (v := .inr (0, 71)) dX11_addHead_23 fl_11_33 (hG.m0 (by decide)) rfl ?_
  refine am_iload_n dX11_addHead_26 rfl ?_
  obtain ⟨g3, h⟩ := am_gd_some h
  refine am_ialdG dX11_addHead_27 (hG.m0 (by decide)) rfl g3 (show 4 < 2 ^ 31 by decide) ?_
  obtain ⟨q4, hq4, h⟩ := am_bd h
  refine am_callVe (i := 0) (j := 60) (as := [.inl l1, .inl ((q1 0 72 l1.toNatClampNeg) - (nI 1)), .inl (nI 0), .inl (q1 0 71 l1.toNatClampNeg)]) (rest := []) dX11_addHead_28 lkX11_writeWord ml_X11_252 imX11_writeWord seX11_writeWord rfl rfl (hG.m0 (by decide)) rfl (Nat.le_of_ble_eq_true rfl) rfl (sX11_writeWord hG hq4) ?_
  refine am_aload_n dX11_addHead_31 rfl ?_
  refine am_iload_n dX11_addHead_32 rfl ?_
  refine am_aload_n dX11_addHead_33 rfl ?_
  refine am_get (v := .inr (0, 72)) dX11_addHead_34 fl_11_36 (hG.m0 (by decide)) rfl ?_
  refine am_iload_n dX11_addHead_37 rfl ?_
  obtain ⟨g5, h⟩ := am_gd_some h
  refine am_ialdG dX11_addHead_38 (hG.m0 (by decide)) rfl g5 (show 4 < 2 ^ 31 by decide) ?_
  refine am_iconst (v := nI 1) dX11_addHead_39 (by decide) ?_
  refine am_isub dX11_addHead_40 ?_
  refine am_iconst (v := nI 1) dX11_addHead_41 (by decide) ?_
  refine am_iload_n dX11_addHead_42 rfl ?_
  obtain ⟨q6, hq6, h⟩ := am_bd h
  refine am_callVe (i := 0) (j := 60) (as := [.inl l1, .inl ((q4 0 72 l1.toNatClampNeg) - (nI 1)), .inl (nI 1), .inl l2]) (rest := []) dX11_addHead_43 lkX11_writeWord ml_X11_252 imX11_writeWord seX11_writeWord rfl rfl (hG.m0 (by decide)) rfl (Nat.le_of_ble_eq_true rfl) rfl (sX11_writeWord hG hq6) ?_
  refine am_aload_n dX11_addHead_46 rfl ?_
  refine am_iload_n dX11_addHead_47 rfl ?_
  refine am_aload_n dX11_addHead_48 rfl ?_
  refine am_get (v := .inr (0, 72)) dX11_addHead_49 fl_11_36 (hG.m0 (by decide)) rfl ?_
  refine am_iload_n dX11_addHead_52 rfl ?_
  obtain ⟨g7, h⟩ := am_gd_some h
  refine am_ialdG dX11_addHead_53 (hG.m0 (by decide)) rfl g7 (show 4 < 2 ^ 31 by decide) ?_
  refine am_iconst (v := nI 1) dX11_addHead_54 (by decide) ?_
  refine am_isub dX11_addHead_55 ?_
  refine am_iconst (v := nI 2) dX11_addHead_56 (by decide) ?_
  refine am_iload_n dX11_addHead_57 rfl ?_
  obtain ⟨q8, hq8, h⟩ := am_bd h
  refine am_callVe (i := 0) (j := 60) (as := [.inl l1, .inl ((q6 0 72 l1.toNatClampNeg) - (nI 1)), .inl (nI 2), .inl l3]) (rest := []) dX11_addHead_58 lkX11_writeWord ml_X11_252 imX11_writeWord seX11_writeWord rfl rfl (hG.m0 (by decide)) rfl (Nat.le_of_ble_eq_true rfl) rfl (sX11_writeWord hG hq8) ?_
  cases h
  exact am_vret dX11_addHead_61 rfl ⟨rfl, rfl⟩
def gX11_addHead (n : Nat) (l1 : Int32) (l2 : Int32) (l3 : Int32) (I : am_I) : Option (am_I) := bX11_addHead_0 n l1 l2 l3 I
theorem sX11_addHead {G : am_G} (hG : am_okM G) {d : Nat} {l1 : Int32} {l2 : Int32} {l3 : Int32} {I : am_I} {r : am_I} (h : gX11_addHead G.2.2.2.1 l1 l2 l3 I = some r) : am_C G (d + 1) mX11_addHead [.inr (0, 60), .inl l1, .inl l2, .inl l3] I (am_E none r) :=
  am_of (by decide +kernel) hG.nd (Nat.le_of_ble_eq_true rfl) (am_lwJ (lo' := [some (.inr (0, 60)), some (.inl l1), some (.inl l2), some (.inl l3)]) ⟨rfl, rfl, rfl, rfl, trivial⟩ (tX11_addHead_0 hG h))
def bX11_noteFlush_46 (n : Nat) (k2 : Int32 → Int32 → am_I → Option (am_I)) (l1 : Int32) (l2 : Int32) (I : am_I) : Option (am_I) := k2 l1 (l2 + nI 1) I
theorem tX11_noteFlush_46 {G : am_G} (hG : am_okM G) {d : Nat} {k2 : Int32 → Int32 → am_I → Option (am_I)} (hk2 : ∀ (l1 : Int32) (l2 : Int32) (I : am_I) (r : am_I), k2 l1 l2 I = some r → am_J G d mX11_noteFlush am_no (am_E none r) 2 [some (.inr (0, 60)), some (.inl l1), some (.inl l2)] [] I) {l1 : Int32} {l2 : Int32} {I : am_I} {r : am_I} (h : bX11_noteFlush_46 G.2.2.2.1 k2 l1 l2  I = some r) : am_J G d mX11_noteFlush am_no (am_E none r) 46 [some (.inr (0, 60)), some (.inl l1), some (.inl l2)] [] I := by
  unfold bX11_noteFlush_46 at h
  refine am_iinc (v := l2 + nI 1) dX11_noteFlush_46 rfl rfl ?_
  refine am_goto (tgt := 2) dX11_noteFlush_49 rfl ?_
  exact am_lwJ (lo' := [some (.inr (0, 60)), some (.inl l1), some (.inl (l2 + nI 1))]) ⟨rfl, rfl, rfl, trivial⟩ (hk2 l1 (l2 + nI 1) _ _ h)
def bX11_noteFlush_2 (n : Nat) : Nat → Int32 → Int32 → am_I → Option (am_I)
  | 0, _, _, _ => none
  | fu + 1, l1, l2, I => (fun k2 => if (I 0 60 63) ≤ l2 then (some I) else (am_gd (am_inb ((nI 10) * l2) 4000) (if (I 0 125 (((nI 10) * l2).toNatClampNeg)) = l1 then (am_gd (am_inb (((nI 10) * l2) + (nI 9)) 4000) (if (I 0 125 ((((nI 10) * l2) + (nI 9)).toNatClampNeg)) = (nI 1) then (am_gd (am_inb l2 400) (am_lt (am_up I 0 126 l2.toNatClampNeg (nI 1)) (fun I4 => bX11_noteFlush_46 n k2 l1 l2 I4))) else (bX11_noteFlush_46 n k2 l1 l2 I))) else (bX11_noteFlush_46 n k2 l1 l2 I)))) (bX11_noteFlush_2 n fu)
theorem tX11_noteFlush_2 {G : am_G} (hG : am_okM G) {d : Nat} : ∀ {fu : Nat} {l1 : Int32} {l2 : Int32} {I : am_I} {r : am_I}, bX11_noteFlush_2 G.2.2.2.1 fu l1 l2 I = some r → am_J G d mX11_noteFlush am_no (am_E none r) 2 [some (.inr (0, 60)), some (.inl l1), some (.inl l2)] [] I := by
  intro fu
  induction fu with
  | zero => intro l1 l2 I r h; cases h
  | succ fu ih =>
    intro l1 l2 I r h
    have hk2 : ∀ (l1 : Int32) (l2 : Int32) (I : am_I) (r : am_I), bX11_noteFlush_2 G.2.2.2.1 fu l1 l2 I = some r → am_J G d mX11_noteFlush am_no (am_E none r) 2 [some (.inr (0, 60)), some (.inl l1), some (.inl l2)] [] I := fun l1 l2 I r h => ih h
    unfold bX11_noteFlush_2 at h
    generalize bX11_noteFlush_2 G.2.2.2.1 fu = k2 at hk2 h
    dsimp only at h
    refine am_iload_n dX11_noteFlush_2 rfl ?_
    refine am_aload_n dX11_noteFlush_3 rfl ?_
    refine am_get (v := .inl (I 0 60 63)) dX11_noteFlush_4 fl_11_274 (hG.m0 (by decide)) rfl ?_
    refine am_icmp_ge (tgt := 52) dX11_noteFlush_7 rfl (fun c => ?_) (fun c => ?_)
    · rw [if_pos c] at h
      cases h
      exact am_vret dX11_noteFlush_52 rfl ⟨rfl, rfl⟩
    · rw [if_neg c] at h
      refine am_aload_n dX11_noteFlush_10 rfl ?_
      refine am_get (v := .inr (0, 125)) dX11_noteFlush_11 fl_11_156 (hG.m0 (by decide)) rfl ?_
      refine am_bipush (v := nI 10) dX11_noteFlush_14 (by decide) ?_
      refine am_iload_n dX11_noteFlush_16 rfl ?_
      refine am_imul dX11_noteFlush_17 ?_
      obtain ⟨g1, h⟩ := am_gd_some h
      refine am_ialdG dX11_noteFlush_18 (hG.m0 (by decide)) rfl g1 (show 4000 < 2 ^ 31 by decide) ?_
      refine am_iload_n dX11_noteFlush_19 rfl ?_
      refine am_icmp_ne (tgt := 46) dX11_noteFlush_20 rfl (fun c => ?_) (fun c => ?_)
      · rw [if_neg c] at h
        exact am_lwJ (lo' := [some (.inr (0, 60)), some (.inl l1), some (.inl l2)]) ⟨rfl, rfl, rfl, trivial⟩ (tX11_noteFlush_46 hG hk2 h)
      · rw [if_pos c] at h
        refine am_aload_n dX11_noteFlush_23 rfl ?_
        refine am_get (v := .inr (0, 125)) dX11_noteFlush_24 fl_11_156 (hG.m0 (by decide)) rfl ?_
        refine am_bipush (v := nI 10) dX11_noteFlush_27 (by decide) ?_
        refine am_iload_n dX11_noteFlush_29 rfl ?_
        refine am_imul dX11_noteFlush_30 ?_
        refine am_bipush (v := nI 9) dX11_noteFlush_31 (by decide) ?_
        refine am_iadd dX11_noteFlush_33 ?_
        obtain ⟨g2, h⟩ := am_gd_some h
        refine am_ialdG dX11_noteFlush_34 (hG.m0 (by decide)) rfl g2 (show 4000 < 2 ^ 31 by decide) ?_
        refine am_iconst (v := nI 1) dX11_noteFlush_35 (by decide) ?_
        refine am_icmp_ne (tgt := 46) dX11_noteFlush_36 rfl (fun c => ?_) (fun c => ?_)
        · rw [if_neg c] at h
          exact am_lwJ (lo' := [some (.inr (0, 60)), some (.inl l1), some (.inl l2)]) ⟨rfl, rfl, rfl, trivial⟩ (tX11_noteFlush_46 hG hk2 h)
        · rw [if_pos c] at h
          refine am_aload_n dX11_noteFlush_39 rfl ?_
          refine am_get (v := .inr (0, 126)) dX11_noteFlush_40 fl_11_159 (hG.m0 (by decide)) rfl ?_
          refine am_iload_n dX11_noteFlush_43 rfl ?_
          refine am_iconst (v := nI 1) dX11_noteFlush_44 (by decide) ?_
          obtain ⟨g3, h⟩ := am_gd_some h
          refine am_zastG dX11_noteFlush_45 (hG.m0 (by decide)) rfl (by decide) g3 (show 400 < 2 ^ 31 by decide) ?_
          obtain ⟨I4, hI4, h⟩ := am_lt_some h
          refine am_st10 hI4 ?_
          exact am_lwJ (lo' := [some (.inr (0, 60)), some (.inl l1), some (.inl l2)]) ⟨rfl, rfl, rfl, trivial⟩ (tX11_noteFlush_46 hG hk2 h)
def bX11_noteFlush_0 (n : Nat) (l1 : Int32) (I : am_I) : Option (am_I) := bX11_noteFlush_2 n am_fu l1 (nI 0) I
theorem tX11_noteFlush_0 {G : am_G} (hG : am_okM G) {d : Nat} {l1 : Int32} {I : am_I} {r : am_I} (h : bX11_noteFlush_0 G.2.2.2.1 l1  I = some r) : am_J G d mX11_noteFlush am_no (am_E none r) 0 [some (.inr (0, 60)), some (.inl l1), none] [] I := by
  unfold bX11_noteFlush_0 at h
  refine am_iconst (v := nI 0) dX11_noteFlush_0 (by decide) ?_
  refine am_istore_n dX11_noteFlush_1 (by decide) ?_
  exact am_lwJ (lo' := [some (.inr (0, 60)), some (.inl l1), some (.inl (nI 0))]) ⟨rfl, rfl, rfl, trivial⟩ (tX11_noteFlush_2 hG h)
def gX11_noteFlush (n : Nat) (l1 : Int32) (I : am_I) : Option (am_I) := bX11_noteFlush_0 n l1 I
theorem sX11_noteFlush {G : am_G} (hG : am_okM G) {d : Nat} {l1 : Int32} {I : am_I} {r : am_I} (h : gX11_noteFlush G.2.2.2.1 l1 I = some r) : am_C G d mX11_noteFlush [.inr (0, 60), .inl l1] I (am_E none r) :=
  am_of (by decide +kernel) hG.nd (Nat.le_of_ble_eq_true rfl) (am_lwJ (lo' := [some (.inr (0, 60)), some (.inl l1), none]) ⟨rfl, rfl, trivial⟩ (tX11_noteFlush_0 hG h))
def bX11_beginFlush_206 (n : Nat) (k159 : Int32 → Int32 → Int32 → am_I → Option (am_I)) (l1 : Int32) (l3 : Int32) (l6 : Int32) (I : am_I) : Option (am_I) := k159 l1 l3 (l6 + nI 1) I
theorem tX11_beginFlush_206 {G : am_G} (hG : am_okM G) {d : Nat} {k159 : Int32 → Int32 → Int32 → am_I → Option (am_I)} (hk159 : ∀ (l1 : Int32) (l3 : Int32) (l6 : Int32) (I : am_I) (r : am_I), k159 l1 l3 l6 I = some r → am_J G (d + 2) mX11_beginFlush am_no (am_E none r) 159 [some (.inr (0, 60)), some (.inl l1), none, some (.inl l3), none, none, some (.inl l6)] [] I) {l1 : Int32} {l3 : Int32} {l6 : Int32} {I : am_I} {r : am_I} (h : bX11_beginFlush_206 G.2.2.2.1 k159 l1 l3 l6  I = some r) : am_J G (d + 2) mX11_beginFlush am_no (am_E none r) 206 [some (.inr (0, 60)), some (.inl l1), none, some (.inl l3), none, none, some (.inl l6)] [] I := by
  unfold bX11_beginFlush_206 at h
  refine am_iinc (v := l6 + nI 1) dX11_beginFlush_206 rfl rfl ?_
  refine am_goto (tgt := 159) dX11_beginFlush_209 rfl ?_
  exact am_lwJ (lo' := [some (.inr (0, 60)), some (.inl l1), none, some (.inl l3), none, none, some (.inl (l6 + nI 1))]) ⟨rfl, rfl, rfl, rfl, trivial⟩ (hk159 l1 l3 (l6 + nI 1) _ _ h)
def bX11_beginFlush_159 (n : Nat) : Nat → Int32 → Int32 → Int32 → am_I → Option (am_I)
  | 0, _, _, _, _ => none
  | fu + 1, l1, l3, l6, I => (fun k159 => if (nI 640) ≤ l6 then ((gX11_addHead n l1 l3 (nI 0) I).bind (fun q1 => am_gd (am_inb l1 4) (am_lt (am_up q1 0 70 l1.toNatClampNeg (nI 0)) (fun I3 => (gX11_noteFlush n l1 I3).bind (fun q4 => some q4))))) else (am_gd (am_inb (((nI 640) * l1) + l6) 2560) (if (I 0 69 ((((nI 640) * l1) + l6).toNatClampNeg)) = 0 then (bX11_beginFlush_206 n k159 l1 l3 l6 I) else ((gX11_addCopy n l1 l6 l6 I).bind (fun q6 => am_gd (am_inb (((nI 640) * l1) + l6) 2560) (am_lt (am_up q6 0 69 (((nI 640) * l1) + l6).toNatClampNeg (nI 0)) (fun I8 => bX11_beginFlush_206 n k159 l1 l3 l6 I8))))))) (bX11_beginFlush_159 n fu)
theorem tX11_beginFlush_159 {G : am_G} (hG : am_okM G) {d : Nat} : ∀ {fu : Nat} {l1 : Int32} {l3 : Int32} {l6 : Int32} {I : am_I} {r : am_I}, bX11_beginFlush_159 G.2.2.2.1 fu l1 l3 l6 I = some r → am_J G (d + 2) mX11_beginFlush am_no (am_E none r) 159 [some (.inr (0, 60)), some (.inl l1), none, some (.inl l3), none, none, some (.inl l6)] [] I := by
  intro fu
  induction fu with
  | zero => intro l1 l3 l6 I r h; cases h
  | succ fu ih =>
    intro l1 l3 l6 I r h
    have hk159 : ∀ (l1 : Int32) (l3 : Int32) (l6 : Int32) (I : am_I) (r : am_I), bX11_beginFlush_159 G.2.2.2.1 fu l1 l3 l6 I = some r → am_J G (d + 2) mX11_beginFlush am_no (am_E none r) 159 [some (.inr (0, 60)), some (.inl l1), none, some (.inl l3), none, none, some (.inl l6)] [] I := fun l1 l3 l6 I r h => ih h
    unfold bX11_beginFlush_159 at h
    generalize bX11_beginFlush_159 G.2.2.2.1 fu = k159 at hk159 h
    dsimp only at h
    refine am_iload dX11_beginFlush_159 rfl ?_
    refine am_sipush (v := nI 640) dX11_beginFlush_161 (by decide) ?_
    refine am_icmp_ge (tgt := 212) dX11_beginFlush_164 rfl (fun c => ?_) (fun c => ?_)
    · rw [if_pos c] at h
      refine am_aload_n dX11_beginFlush_212 rfl ?_
      refine am_iload_n dX11_beginFlush_213 rfl ?_
      refine am_iload_n dX11_beginFlush_214 rfl ?_
      refine am_iconst (v := nI 0) dX11_beginFlush_215 (by decide) ?_
      obtain ⟨q1, hq1, h⟩ := am_bd h
      refine am_callVe (i := 0) (j := 60) (as := [.inl l1, .inl l3, .inl (nI 0)]) (rest := []) dX11_beginFlush_216 lkX11_addHead ml_X11_258 imX11_addHead seX11_addHead rfl rfl (hG.m0 (by decide)) rfl (Nat.le_of_ble_eq_true rfl) rfl (sX11_addHead hG hq1) ?_
      refine am_aload_n dX11_beginFlush_219 rfl ?_
      refine am_get (v := .inr (0, 70)) dX11_beginFlush_220 fl_11_30 (hG.m0 (by decide)) rfl ?_
      refine am_iload_n dX11_beginFlush_223 rfl ?_
      refine am_iconst (v := nI 0) dX11_beginFlush_224 (by decide) ?_
      obtain ⟨g2, h⟩ := am_gd_some h
      refine am_iastG dX11_beginFlush_225 (hG.m0 (by decide)) rfl g2 (show 4 < 2 ^ 31 by decide) ?_
      obtain ⟨I3, hI3, h⟩ := am_lt_some h
      refine am_st10 hI3 ?_
      refine am_aload_n dX11_beginFlush_226 rfl ?_
      refine am_iload_n dX11_beginFlush_227 rfl ?_
      obtain ⟨q4, hq4, h⟩ := am_bd h
      refine am_callVe (i := 0) (j := 60) (as := [.inl l1]) (rest := []) dX11_beginFlush_228 lkX11_noteFlush ml_X11_261 imX11_noteFlush seX11_noteFlush rfl rfl (hG.m0 (by decide)) rfl (Nat.le_of_ble_eq_true rfl) rfl (sX11_noteFlush hG hq4) ?_
      cases h
      exact am_vret dX11_beginFlush_231 rfl ⟨rfl, rfl⟩
    · rw [if_neg c] at h
      refine am_aload_n dX11_beginFlush_167 rfl ?_
      refine am_get (v := .inr (0, 69)) dX11_beginFlush_168 fl_11_27 (hG.m0 (by decide)) rfl ?_
      refine am_sipush (v := nI 640) dX11_beginFlush_171 (by decide) ?_
      refine am_iload_n dX11_beginFlush_174 rfl ?_
      refine am_imul dX11_beginFlush_175 ?_
      refine am_iload dX11_beginFlush_176 rfl ?_
      refine am_iadd dX11_beginFlush_178 ?_
      obtain ⟨g5, h⟩ := am_gd_some h
      refine am_zaldG dX11_beginFlush_179 (hG.m0 (by decide)) rfl g5 (show 2560 < 2 ^ 31 by decide) ?_
      refine am_if_eq (tgt := 206) dX11_beginFlush_180 rfl (fun c => ?_) (fun c => ?_)
      · rw [if_pos c] at h
        exact am_lwJ (lo' := [some (.inr (0, 60)), some (.inl l1), none, some (.inl l3), none, none, some (.inl l6)]) ⟨rfl, rfl, rfl, rfl, trivial⟩ (tX11_beginFlush_206 hG hk159 h)
      · rw [if_neg c] at h
        refine am_aload_n dX11_beginFlush_183 rfl ?_
        refine am_iload_n dX11_beginFlush_184 rfl ?_
        refine am_iload dX11_beginFlush_185 rfl ?_
        refine am_iload dX11_beginFlush_187 rfl ?_
        obtain ⟨q6, hq6, h⟩ := am_bd h
        refine am_callVe (i := 0) (j := 60) (as := [.inl l1, .inl l6, .inl l6]) (rest := []) dX11_beginFlush_189 lkX11_addCopy ml_X11_255 imX11_addCopy seX11_addCopy rfl rfl (hG.m0 (by decide)) rfl (Nat.le_of_ble_eq_true rfl) rfl (sX11_addCopy hG hq6) ?_
        refine am_aload_n dX11_beginFlush_192 rfl ?_
        refine am_get (v := .inr (0, 69)) dX11_beginFlush_193 fl_11_27 (hG.m0 (by decide)) rfl ?_
        refine am_sipush (v := nI 640) dX11_beginFlush_196 (by decide) ?_
        refine am_iload_n dX11_beginFlush_199 rfl ?_
        refine am_imul dX11_beginFlush_200 ?_
        refine am_iload dX11_beginFlush_201 rfl ?_
        refine am_iadd dX11_beginFlush_203 ?_
        refine am_iconst (v := nI 0) dX11_beginFlush_204 (by decide) ?_
        obtain ⟨g7, h⟩ := am_gd_some h
        refine am_zastG dX11_beginFlush_205 (hG.m0 (by decide)) rfl (by decide) g7 (show 2560 < 2 ^ 31 by decide) ?_
        obtain ⟨I8, hI8, h⟩ := am_lt_some h
        refine am_st10 hI8 ?_
        exact am_lwJ (lo' := [some (.inr (0, 60)), some (.inl l1), none, some (.inl l3), none, none, some (.inl l6)]) ⟨rfl, rfl, rfl, rfl, trivial⟩ (tX11_beginFlush_206 hG hk159 h)
def bX11_beginFlush_143 (n : Nat) (k105 : Int32 → Int32 → Int32 → Int32 → Int32 → am_I → Option (am_I)) (l1 : Int32) (l3 : Int32) (l4 : Int32) (l5 : Int32) (l6 : Int32) (I : am_I) : Option (am_I) := k105 l1 l3 l4 l5 (l6 + nI 1) I
theorem tX11_beginFlush_143 {G : am_G} (hG : am_okM G) {d : Nat} {k105 : Int32 → Int32 → Int32 → Int32 → Int32 → am_I → Option (am_I)} (hk105 : ∀ (l1 : Int32) (l3 : Int32) (l4 : Int32) (l5 : Int32) (l6 : Int32) (I : am_I) (r : am_I), k105 l1 l3 l4 l5 l6 I = some r → am_J G (d + 2) mX11_beginFlush am_no (am_E none r) 105 [some (.inr (0, 60)), some (.inl l1), none, some (.inl l3), some (.inl l4), some (.inl l5), some (.inl l6)] [] I) {l1 : Int32} {l3 : Int32} {l4 : Int32} {l5 : Int32} {l6 : Int32} {I : am_I} {r : am_I} (h : bX11_beginFlush_143 G.2.2.2.1 k105 l1 l3 l4 l5 l6  I = some r) : am_J G (d + 2) mX11_beginFlush am_no (am_E none r) 143 [some (.inr (0, 60)), some (.inl l1), none, some (.inl l3), some (.inl l4), some (.inl l5), some (.inl l6)] [] I := by
  unfold bX11_beginFlush_143 at h
  refine am_iinc (v := l6 + nI 1) dX11_beginFlush_143 rfl rfl ?_
  refine am_goto (tgt := 105) dX11_beginFlush_146 rfl ?_
  exact am_lwJ (lo' := [some (.inr (0, 60)), some (.inl l1), none, some (.inl l3), some (.inl l4), some (.inl l5), some (.inl (l6 + nI 1))]) ⟨rfl, rfl, rfl, rfl, rfl, rfl, trivial⟩ (hk105 l1 l3 l4 l5 (l6 + nI 1) _ _ h)
def bX11_beginFlush_105 (n : Nat) : Nat → Int32 → Int32 → Int32 → Int32 → Int32 → am_I → Option (am_I)
  | 0, _, _, _, _, _, _ => none
  | fu + 1, l1, l3, l4, l5, l6, I => (fun k105 => if (nI 640) ≤ l6 then ((gX11_addHead n l1 l3 (nI 1) I).bind (fun q1 => bX11_beginFlush_159 n am_fu l1 l3 (nI 0) q1)) else (am_gd (am_inb (((nI 640) * l1) + l6) 2560) (if (I 0 69 ((((nI 640) * l1) + l6).toNatClampNeg)) = 0 then (bX11_beginFlush_143 n k105 l1 l3 l4 l5 l6 I) else ((gX11_writeWord n l1 l4 l5 l6 I).bind (fun q3 => bX11_beginFlush_143 n k105 l1 l3 l4 (l5 + nI 1) l6 q3))))) (bX11_beginFlush_105 n fu)
theorem tX11_beginFlush_105 {G : am_G} (hG : am_okM G) {d : Nat} : ∀ {fu : Nat} {l1 : Int32} {l3 : Int32} {l4 : Int32} {l5 : Int32} {l6 : Int32} {I : am_I} {r : am_I}, bX11_beginFlush_105 G.2.2.2.1 fu l1 l3 l4 l5 l6 I = some r → am_J G (d + 2) mX11_beginFlush am_no (am_E none r) 105 [some (.inr (0, 60)), some (.inl l1), none, some (.inl l3), some (.inl l4), some (.inl l5), some (.inl l6)] [] I := by
  intro fu
  induction fu with
  | zero => intro l1 l3 l4 l5 l6 I r h; cases h
  | succ fu ih =>
    intro l1 l3 l4 l5 l6 I r h
    have hk105 : ∀ (l1 : Int32) (l3 : Int32) (l4 : Int32) (l5 : Int32) (l6 : Int32) (I : am_I) (r : am_I), bX11_beginFlush_105 G.2.2.2.1 fu l1 l3 l4 l5 l6 I = some r → am_J G (d + 2) mX11_beginFlush am_no (am_E none r) 105 [some (.inr (0, 60)), some (.inl l1), none, some (.inl l3), some (.inl l4), some (.inl l5), some (.inl l6)] [] I := fun l1 l3 l4 l5 l6 I r h => ih h
    unfold bX11_beginFlush_105 at h
    generalize bX11_beginFlush_105 G.2.2.2.1 fu = k105 at hk105 h
    dsimp only at h
    refine am_iload dX11_beginFlush_105 rfl ?_
    refine am_sipush (v := nI 640) dX11_beginFlush_107 (by decide) ?_
    refine am_icmp_ge (tgt := 149) dX11_beginFlush_110 rfl (fun c => ?_) (fun c => ?_)
    · rw [if_pos c] at h
      refine am_aload_n dX11_beginFlush_149 rfl ?_
      refine am_iload_n dX11_beginFlush_150 rfl ?_
      refine am_iload_n dX11_beginFlush_151 rfl ?_
      refine am_iconst (v := nI 1) dX11_beginFlush_152 (by decide) ?_
      obtain ⟨q1, hq1, h⟩ := am_bd h
      refine am_callVe (i := 0) (j := 60) (as := [.inl l1, .inl l3, .inl (nI 1)]) (rest := []) dX11_beginFlush_153 lkX11_addHead ml_X11_258 imX11_addHead seX11_addHead rfl rfl (hG.m0 (by decide)) rfl (Nat.le_of_ble_eq_true rfl) rfl (sX11_addHead hG hq1) ?_
      refine am_iconst (v := nI 0) dX11_beginFlush_156 (by decide) ?_
      refine am_istore dX11_beginFlush_157 (by decide) ?_
      exact am_lwJ (lo' := [some (.inr (0, 60)), some (.inl l1), none, some (.inl l3), none, none, some (.inl (nI 0))]) ⟨rfl, rfl, rfl, rfl, trivial⟩ (tX11_beginFlush_159 hG h)
    · rw [if_neg c] at h
      refine am_aload_n dX11_beginFlush_113 rfl ?_
      refine am_get (v := .inr (0, 69)) dX11_beginFlush_114 fl_11_27 (hG.m0 (by decide)) rfl ?_
      refine am_sipush (v := nI 640) dX11_beginFlush_117 (by decide) ?_
      refine am_iload_n dX11_beginFlush_120 rfl ?_
      refine am_imul dX11_beginFlush_121 ?_
      refine am_iload dX11_beginFlush_122 rfl ?_
      refine am_iadd dX11_beginFlush_124 ?_
      obtain ⟨g2, h⟩ := am_gd_some h
      refine am_zaldG dX11_beginFlush_125 (hG.m0 (by decide)) rfl g2 (show 2560 < 2 ^ 31 by decide) ?_
      refine am_if_eq (tgt := 143) dX11_beginFlush_126 rfl (fun c => ?_) (fun c => ?_)
      · rw [if_pos c] at h
        exact am_lwJ (lo' := [some (.inr (0, 60)), some (.inl l1), none, some (.inl l3), some (.inl l4), some (.inl l5), some (.inl l6)]) ⟨rfl, rfl, rfl, rfl, rfl, rfl, trivial⟩ (tX11_beginFlush_143 hG hk105 h)
      · rw [if_neg c] at h
        refine am_aload_n dX11_beginFlush_129 rfl ?_
        refine am_iload_n dX11_beginFlush_130 rfl ?_
        refine am_iload dX11_beginFlush_131 rfl ?_
        refine am_iload dX11_beginFlush_133 rfl ?_
        refine am_iload dX11_beginFlush_135 rfl ?_
        obtain ⟨q3, hq3, h⟩ := am_bd h
        refine am_callVe (i := 0) (j := 60) (as := [.inl l1, .inl l4, .inl l5, .inl l6]) (rest := []) dX11_beginFlush_137 lkX11_writeWord ml_X11_252 imX11_writeWord seX11_writeWord rfl rfl (hG.m0 (by decide)) rfl (Nat.le_of_ble_eq_true rfl) rfl (sX11_writeWord hG hq3) ?_
        refine am_iinc (v := l5 + nI 1) dX11_beginFlush_140 rfl rfl ?_
        exact am_lwJ (lo' := [some (.inr (0, 60)), some (.inl l1), none, some (.inl l3), some (.inl l4), some (.inl (l5 + nI 1)), some (.inl l6)]) ⟨rfl, rfl, rfl, rfl, rfl, rfl, trivial⟩ (tX11_beginFlush_143 hG hk105 h)
def bX11_beginFlush_75 (n : Nat) (k36 : Int32 → Int32 → Int32 → Int32 → am_I → Option (am_I)) (l1 : Int32) (l2 : Int32) (l3 : Int32) (l4 : Int32) (I : am_I) : Option (am_I) := k36 l1 l2 l3 (l4 + nI 1) I
theorem tX11_beginFlush_75 {G : am_G} (hG : am_okM G) {d : Nat} {k36 : Int32 → Int32 → Int32 → Int32 → am_I → Option (am_I)} (hk36 : ∀ (l1 : Int32) (l2 : Int32) (l3 : Int32) (l4 : Int32) (I : am_I) (r : am_I), k36 l1 l2 l3 l4 I = some r → am_J G (d + 2) mX11_beginFlush am_no (am_E none r) 36 [some (.inr (0, 60)), some (.inl l1), some (.inl l2), some (.inl l3), some (.inl l4), none, none] [] I) {l1 : Int32} {l2 : Int32} {l3 : Int32} {l4 : Int32} {I : am_I} {r : am_I} (h : bX11_beginFlush_75 G.2.2.2.1 k36 l1 l2 l3 l4  I = some r) : am_J G (d + 2) mX11_beginFlush am_no (am_E none r) 75 [some (.inr (0, 60)), some (.inl l1), some (.inl l2), some (.inl l3), some (.inl l4), none, none] [] I := by
  unfold bX11_beginFlush_75 at h
  refine am_iinc (v := l4 + nI 1) dX11_beginFlush_75 rfl rfl ?_
  refine am_goto (tgt := 36) dX11_beginFlush_78 rfl ?_
  exact am_lwJ (lo' := [some (.inr (0, 60)), some (.inl l1), some (.inl l2), some (.inl l3), some (.inl (l4 + nI 1)), none, none]) ⟨rfl, rfl, rfl, rfl, rfl, trivial⟩ (hk36 l1 l2 l3 (l4 + nI 1) _ _ h)
def bX11_beginFlush_36 (n : Nat) : Nat → Int32 → Int32 → Int32 → Int32 → am_I → Option (am_I)
  | 0, _, _, _, _, _ => none
  | fu + 1, l1, l2, l3, l4, I => (fun k36 => if (nI 640) ≤ l4 then ((gX11_addWrite n l1 (l2 + (nI 1)) I).bind (fun q1 => am_gd (am_inb l1 4) (bX11_beginFlush_105 n am_fu l1 l3 ((q1 0 72 l1.toNatClampNeg) - (nI 1)) (nI 0) (nI 0) q1))) else (am_gd (am_inb (((nI 640) * l1) + l4) 2560) (if (I 0 69 ((((nI 640) * l1) + l4).toNatClampNeg)) = 0 then (bX11_beginFlush_75 n k36 l1 l2 l3 l4 I) else ((gX11_addCopy n l1 ((l2 + (nI 2)) + l3) l4 I).bind (fun q4 => bX11_beginFlush_75 n k36 l1 l2 (l3 + nI 1) l4 q4))))) (bX11_beginFlush_36 n fu)
theorem tX11_beginFlush_36 {G : am_G} (hG : am_okM G) {d : Nat} : ∀ {fu : Nat} {l1 : Int32} {l2 : Int32} {l3 : Int32} {l4 : Int32} {I : am_I} {r : am_I}, bX11_beginFlush_36 G.2.2.2.1 fu l1 l2 l3 l4 I = some r → am_J G (d + 2) mX11_beginFlush am_no (am_E none r) 36 [some (.inr (0, 60)), some (.inl l1), some (.inl l2), some (.inl l3), some (.inl l4), none, none] [] I := by
  intro fu
  induction fu with
  | zero => intro l1 l2 l3 l4 I r h; cases h
  | succ fu ih =>
    intro l1 l2 l3 l4 I r h
    have hk36 : ∀ (l1 : Int32) (l2 : Int32) (l3 : Int32) (l4 : Int32) (I : am_I) (r : am_I), bX11_beginFlush_36 G.2.2.2.1 fu l1 l2 l3 l4 I = some r → am_J G (d + 2) mX11_beginFlush am_no (am_E none r) 36 [some (.inr (0, 60)), some (.inl l1), some (.inl l2), some (.inl l3), some (.inl l4), none, none] [] I := fun l1 l2 l3 l4 I r h => ih h
    unfold bX11_beginFlush_36 at h
    generalize bX11_beginFlush_36 G.2.2.2.1 fu = k36 at hk36 h
    dsimp only at h
    refine am_iload dX11_beginFlush_36 rfl ?_
    refine am_sipush (v := nI 640) dX11_beginFlush_38 (by decide) ?_
    refine am_icmp_ge (tgt := 81) dX11_beginFlush_41 rfl (fun c => ?_) (fun c => ?_)
    · rw [if_pos c] at h
      refine am_aload_n dX11_beginFlush_81 rfl ?_
      refine am_iload_n dX11_beginFlush_82 rfl ?_
      refine am_iload_n dX11_beginFlush_83 rfl ?_
      refine am_iconst (v := nI 1) dX11_beginFlush_84 (by decide) ?_
      refine am_iadd dX11_beginFlush_85 ?_
      obtain ⟨q1, hq1, h⟩ := am_bd h
      refine am_callVe (i := 0) (j := 60) (as := [.inl l1, .inl (l2 + (nI 1))]) (rest := []) dX11_beginFlush_86 lkX11_addWrite ml_X11_249 imX11_addWrite seX11_addWrite rfl rfl (hG.m0 (by decide)) rfl (Nat.le_of_ble_eq_true rfl) rfl (sX11_addWrite hG hq1) ?_
      refine am_aload_n dX11_beginFlush_89 rfl ?_
      refine am_get (v := .inr (0, 72)) dX11_beginFlush_90 fl_11_36 (hG.m0 (by decide)) rfl ?_
      refine am_iload_n dX11_beginFlush_93 rfl ?_
      obtain ⟨g2, h⟩ := am_gd_some h
      refine am_ialdG dX11_beginFlush_94 (hG.m0 (by decide)) rfl g2 (show 4 < 2 ^ 31 by decide) ?_
      refine am_iconst (v := nI 1) dX11_beginFlush_95 (by decide) ?_
      refine am_isub dX11_beginFlush_96 ?_
      refine am_istore dX11_beginFlush_97 (by decide) ?_
      refine am_iconst (v := nI 0) dX11_beginFlush_99 (by decide) ?_
      refine am_istore dX11_beginFlush_100 (by decide) ?_
      refine am_iconst (v := nI 0) dX11_beginFlush_102 (by decide) ?_
      refine am_istore dX11_beginFlush_103 (by decide) ?_
      exact am_lwJ (lo' := [some (.inr (0, 60)), some (.inl l1), none, some (.inl l3), some (.inl ((q1 0 72 l1.toNatClampNeg) - (nI 1))), some (.inl (nI 0)), some (.inl (nI 0))]) ⟨rfl, rfl, rfl, rfl, rfl, rfl, trivial⟩ (tX11_beginFlush_105 hG h)
    · rw [if_neg c] at h
      refine am_aload_n dX11_beginFlush_44 rfl ?_
      refine am_get (v := .inr (0, 69)) dX11_beginFlush_45 fl_11_27 (hG.m0 (by decide)) rfl ?_
      refine am_sipush (v := nI 640) dX11_beginFlush_48 (by decide) ?_
      refine am_iload_n dX11_beginFlush_51 rfl ?_
      refine am_imul dX11_beginFlush_52 ?_
      refine am_iload dX11_beginFlush_53 rfl ?_
      refine am_iadd dX11_beginFlush_55 ?_
      obtain ⟨g3, h⟩ := am_gd_some h
      refine am_zaldG dX11_beginFlush_56 (hG.m0 (by decide)) rfl g3 (show 2560 < 2 ^ 31 by decide) ?_
      refine am_if_eq (tgt := 75) dX11_beginFlush_57 rfl (fun c => ?_) (fun c => ?_)
      · rw [if_pos c] at h
        exact am_lwJ (lo' := [some (.inr (0, 60)), some (.inl l1), some (.inl l2), some (.inl l3), some (.inl l4), none, none]) ⟨rfl, rfl, rfl, rfl, rfl, trivial⟩ (tX11_beginFlush_75 hG hk36 h)
      · rw [if_neg c] at h
        refine am_aload_n dX11_beginFlush_60 rfl ?_
        refine am_iload_n dX11_beginFlush_61 rfl ?_
        refine am_iload_n dX11_beginFlush_62 rfl ?_
        refine am_iconst (v := nI 2) dX11_beginFlush_63 (by decide) ?_
        refine am_iadd dX11_beginFlush_64 ?_
        refine am_iload_n dX11_beginFlush_65 rfl ?_
        refine am_iadd dX11_beginFlush_66 ?_
        refine am_iload dX11_beginFlush_67 rfl ?_
        obtain ⟨q4, hq4, h⟩ := am_bd h
        refine am_callVe (i := 0) (j := 60) (as := [.inl l1, .inl ((l2 + (nI 2)) + l3), .inl l4]) (rest := []) dX11_beginFlush_69 lkX11_addCopy ml_X11_255 imX11_addCopy seX11_addCopy rfl rfl (hG.m0 (by decide)) rfl (Nat.le_of_ble_eq_true rfl) rfl (sX11_addCopy hG hq4) ?_
        refine am_iinc (v := l3 + nI 1) dX11_beginFlush_72 rfl rfl ?_
        exact am_lwJ (lo' := [some (.inr (0, 60)), some (.inl l1), some (.inl l2), some (.inl (l3 + nI 1)), some (.inl l4), none, none]) ⟨rfl, rfl, rfl, rfl, rfl, trivial⟩ (tX11_beginFlush_75 hG hk36 h)
def bX11_beginFlush_0 (n : Nat) (l1 : Int32) (I : am_I) : Option (am_I) := am_gd (am_inb l1 4) (am_gd (am_inb l1 4) (am_lt (am_up I 0 71 l1.toNatClampNeg ((I 0 71 l1.toNatClampNeg) + (nI 1))) (fun I3 => am_gd (am_inb l1 4) (am_lt (am_up I3 0 72 l1.toNatClampNeg (nI 0)) (fun I5 => am_gd (am_inb l1 4) (am_lt (am_up I5 0 73 l1.toNatClampNeg (nI 0)) (fun I7 => bX11_beginFlush_36 n am_fu l1 ((nI 1) + ((nI 24) * l1)) (nI 0) (nI 0) I7)))))))
theorem tX11_beginFlush_0 {G : am_G} (hG : am_okM G) {d : Nat} {l1 : Int32} {I : am_I} {r : am_I} (h : bX11_beginFlush_0 G.2.2.2.1 l1  I = some r) : am_J G (d + 2) mX11_beginFlush am_no (am_E none r) 0 [some (.inr (0, 60)), some (.inl l1), none, none, none, none, none] [] I := by
  unfold bX11_beginFlush_0 at h
  refine am_aload_n dX11_beginFlush_0 rfl ?_
  refine am_get (v := .inr (0, 71)) dX11_beginFlush_1 fl_11_33 (hG.m0 (by decide)) rfl ?_
  refine am_iload_n dX11_beginFlush_4 rfl ?_
  refine am_dup2 dX11_beginFlush_5 ?_
  obtain ⟨g1, h⟩ := am_gd_some h
  refine am_ialdG dX11_beginFlush_6 (hG.m0 (by decide)) rfl g1 (show 4 < 2 ^ 31 by decide) ?_
  refine am_iconst (v := nI 1) dX11_beginFlush_7 (by decide) ?_
  refine am_iadd dX11_beginFlush_8 ?_
  obtain ⟨g2, h⟩ := am_gd_some h
  refine am_iastG dX11_beginFlush_9 (hG.m0 (by decide)) rfl g2 (show 4 < 2 ^ 31 by decide) ?_
  obtain ⟨I3, hI3, h⟩ := am_lt_some h
  refine am_st10 hI3 ?_
  refine am_aload_n dX11_beginFlush_10 rfl ?_
  refine am_get (v := .inr (0, 72)) dX11_beginFlush_11 fl_11_36 (hG.m0 (by decide)) rfl ?_
  refine am_iload_n dX11_beginFlush_14 rfl ?_
  refine am_iconst (v := nI 0) dX11_beginFlush_15 (by decide) ?_
  obtain ⟨g4, h⟩ := am_gd_some h
  refine am_iastG dX11_beginFlush_16 (hG.m0 (by decide)) rfl g4 (show 4 < 2 ^ 31 by decide) ?_
  obtain ⟨I5, hI5, h⟩ := am_lt_some h
  refine am_st10 hI5 ?_
  refine am_aload_n dX11_beginFlush_17 rfl ?_
  refine am_get (v := .inr (0, 73)) dX11_beginFlush_18 fl_11_39 (hG.m0 (by decide)) rfl ?_
  refine am_iload_n dX11_beginFlush_21 rfl ?_
  refine am_iconst (v := nI 0) dX11_beginFlush_22 (by decide) ?_
  obtain ⟨g6, h⟩ := am_gd_some h
  refine am_iastG dX11_beginFlush_23 (hG.m0 (by decide)) rfl g6 (show 4 < 2 ^ 31 by decide) ?_
  obtain ⟨I7, hI7, h⟩ := am_lt_some h
  refine am_st10 hI7 ?_
  refine am_iconst (v := nI 1) dX11_beginFlush_24 (by decide) ?_
  refine am_bipush (v := nI 24) dX11_beginFlush_25 (by decide) ?_
  refine am_iload_n dX11_beginFlush_27 rfl ?_
  refine am_imul dX11_beginFlush_28 ?_
  refine am_iadd dX11_beginFlush_29 ?_
  refine am_istore_n dX11_beginFlush_30 (by decide) ?_
  refine am_iconst (v := nI 0) dX11_beginFlush_31 (by decide) ?_
  refine am_istore_n dX11_beginFlush_32 (by decide) ?_
  refine am_iconst (v := nI 0) dX11_beginFlush_33 (by decide) ?_
  refine am_istore dX11_beginFlush_34 (by decide) ?_
  exact am_lwJ (lo' := [some (.inr (0, 60)), some (.inl l1), some (.inl ((nI 1) + ((nI 24) * l1))), some (.inl (nI 0)), some (.inl (nI 0)), none, none]) ⟨rfl, rfl, rfl, rfl, rfl, trivial⟩ (tX11_beginFlush_36 hG h)
def gX11_beginFlush (n : Nat) (l1 : Int32) (I : am_I) : Option (am_I) := bX11_beginFlush_0 n l1 I
theorem sX11_beginFlush {G : am_G} (hG : am_okM G) {d : Nat} {l1 : Int32} {I : am_I} {r : am_I} (h : gX11_beginFlush G.2.2.2.1 l1 I = some r) : am_C G (d + 2) mX11_beginFlush [.inr (0, 60), .inl l1] I (am_E none r) :=
  am_of (by decide +kernel) hG.nd (Nat.le_of_ble_eq_true rfl) (am_lwJ (lo' := [some (.inr (0, 60)), some (.inl l1), none, none, none, none, none]) ⟨rfl, rfl, trivial⟩ (tX11_beginFlush_0 hG h))
def bX11_leave_24 (n : Nat) (I : am_I) : Option (am_I) := some I
theorem tX11_leave_24 {G : am_G} (hG : am_okM G) {d : Nat} {I : am_I} {r : am_I} (h : bX11_leave_24 G.2.2.2.1  I = some r) : am_J G (d + 1) mX11_leave am_no (am_E none r) 24 [none, none, none] [] I := by
  unfold bX11_leave_24 at h
  cases h
  exact am_vret dX11_leave_24 rfl ⟨rfl, rfl⟩
def bX11_leave_0 (n : Nat) (l1 : Int32) (l2 : Int32) (I : am_I) : Option (am_I) := (gX11_in n l2 (nI 1) (nI 639) I).bind (fun q1 => if q1.1 = 0 then (bX11_leave_24 n q1.2) else (am_gd (am_inb (((nI 640) * l1) + l2) 2560) (am_lt (am_up q1.2 0 68 (((nI 640) * l1) + l2).toNatClampNeg (nI 0)) (fun I3 => bX11_leave_24 n I3))))
theorem tX11_leave_0 {G : am_G} (hG : am_okM G) {d : Nat} {l1 : Int32} {l2 : Int32} {I : am_I} {r : am_I} (h : bX11_leave_0 G.2.2.2.1 l1 l2  I = some r) : am_J G (d + 1) mX11_leave am_no (am_E none r) 0 [some (.inr (0, 60)), some (.inl l1), some (.inl l2)] [] I := by
  unfold bX11_leave_0 at h
  refine am_iload_n dX11_leave_0 rfl ?_
  refine am_iconst (v := nI 1) dX11_leave_1 (by decide) ?_
  refine am_sipush (v := nI 639) dX11_leave_2 (by decide) ?_
  obtain ⟨q1, hq1, h⟩ := am_bd h
  refine am_callSx (as := [.inl l2, .inl (nI 1), .inl (nI 639)]) (rest := []) dX11_leave_5 lkX11_in ml_X11_243 isX11_in rfl (Nat.le_of_ble_eq_true rfl) rfl (sX11_in hG hq1) ?_
  refine am_if_eq (tgt := 24) dX11_leave_8 rfl (fun c => ?_) (fun c => ?_)
  · rw [if_pos c] at h
    exact am_lwJ (lo' := [none, none, none]) trivial (tX11_leave_24 hG h)
  · rw [if_neg c] at h
    refine am_aload_n dX11_leave_11 rfl ?_
    refine am_get (v := .inr (0, 68)) dX11_leave_12 fl_11_24 (hG.m0 (by decide)) rfl ?_
    refine am_sipush (v := nI 640) dX11_leave_15 (by decide) ?_
    refine am_iload_n dX11_leave_18 rfl ?_
    refine am_imul dX11_leave_19 ?_
    refine am_iload_n dX11_leave_20 rfl ?_
    refine am_iadd dX11_leave_21 ?_
    refine am_iconst (v := nI 0) dX11_leave_22 (by decide) ?_
    obtain ⟨g2, h⟩ := am_gd_some h
    refine am_zastG dX11_leave_23 (hG.m0 (by decide)) rfl (by decide) g2 (show 2560 < 2 ^ 31 by decide) ?_
    obtain ⟨I3, hI3, h⟩ := am_lt_some h
    refine am_st10 hI3 ?_
    exact am_lwJ (lo' := [none, none, none]) trivial (tX11_leave_24 hG h)
def gX11_leave (n : Nat) (l1 : Int32) (l2 : Int32) (I : am_I) : Option (am_I) := bX11_leave_0 n l1 l2 I
theorem sX11_leave {G : am_G} (hG : am_okM G) {d : Nat} {l1 : Int32} {l2 : Int32} {I : am_I} {r : am_I} (h : gX11_leave G.2.2.2.1 l1 l2 I = some r) : am_C G (d + 1) mX11_leave [.inr (0, 60), .inl l1, .inl l2] I (am_E none r) :=
  am_of (by decide +kernel) hG.nd (Nat.le_of_ble_eq_true rfl) (am_lwJ (lo' := [some (.inr (0, 60)), some (.inl l1), some (.inl l2)]) ⟨rfl, rfl, rfl, trivial⟩ (tX11_leave_0 hG h))
def bX11_forget_165 (n : Nat) (l1 : Int32) (l3 : Int32) (l5 : Int32) (I : am_I) : Option (am_I) := (gX11_leave n l1 l5 I).bind (fun q1 => (gX11_leave n l1 l3 q1).bind (fun q2 => some q2))
theorem tX11_forget_165 {G : am_G} (hG : am_okM G) {d : Nat} {l1 : Int32} {l3 : Int32} {l5 : Int32} {I : am_I} {r : am_I} (h : bX11_forget_165 G.2.2.2.1 l1 l3 l5  I = some r) : am_J G (d + 2) mX11_forget am_no (am_E none r) 165 [some (.inr (0, 60)), some (.inl l1), none, some (.inl l3), none, some (.inl l5), none] [] I := by
  unfold bX11_forget_165 at h
  refine am_aload_n dX11_forget_165 rfl ?_
  refine am_iload_n dX11_forget_166 rfl ?_
  refine am_iload dX11_forget_167 rfl ?_
  obtain ⟨q1, hq1, h⟩ := am_bd h
  refine am_callVe (i := 0) (j := 60) (as := [.inl l1, .inl l5]) (rest := []) dX11_forget_169 lkX11_leave ml_X11_246 imX11_leave seX11_leave rfl rfl (hG.m0 (by decide)) rfl (Nat.le_of_ble_eq_true rfl) rfl (sX11_leave hG hq1) ?_
  refine am_aload_n dX11_forget_172 rfl ?_
  refine am_iload_n dX11_forget_173 rfl ?_
  refine am_iload_n dX11_forget_174 rfl ?_
  obtain ⟨q2, hq2, h⟩ := am_bd h
  refine am_callVe (i := 0) (j := 60) (as := [.inl l1, .inl l3]) (rest := []) dX11_forget_175 lkX11_leave ml_X11_246 imX11_leave seX11_leave rfl rfl (hG.m0 (by decide)) rfl (Nat.le_of_ble_eq_true rfl) rfl (sX11_leave hG hq2) ?_
  cases h
  exact am_vret dX11_forget_178 rfl ⟨rfl, rfl⟩
def bX11_forget_128 (n : Nat) : Nat → Int32 → Int32 → Int32 → Int32 → am_I → Option (am_I)
  | 0, _, _, _, _, _ => none
  | fu + 1, l1, l3, l5, l6, I => (fun k128 => if (nI 16) ≤ l6 then (bX11_forget_165 n l1 l3 l5 I) else (am_gd (am_inb (((nI 16) * (((nI 640) * l1) + l5)) + l6) 40960) ((gX11_leave n l1 (I 0 67 ((((nI 16) * (((nI 640) * l1) + l5)) + l6).toNatClampNeg)) I).bind (fun q2 => k128 l1 l3 l5 (l6 + nI 1) q2)))) (bX11_forget_128 n fu)
theorem tX11_forget_128 {G : am_G} (hG : am_okM G) {d : Nat} : ∀ {fu : Nat} {l1 : Int32} {l3 : Int32} {l5 : Int32} {l6 : Int32} {I : am_I} {r : am_I}, bX11_forget_128 G.2.2.2.1 fu l1 l3 l5 l6 I = some r → am_J G (d + 2) mX11_forget am_no (am_E none r) 128 [some (.inr (0, 60)), some (.inl l1), none, some (.inl l3), none, some (.inl l5), some (.inl l6)] [] I := by
  intro fu
  induction fu with
  | zero => intro l1 l3 l5 l6 I r h; cases h
  | succ fu ih =>
    intro l1 l3 l5 l6 I r h
    have hk128 : ∀ (l1 : Int32) (l3 : Int32) (l5 : Int32) (l6 : Int32) (I : am_I) (r : am_I), bX11_forget_128 G.2.2.2.1 fu l1 l3 l5 l6 I = some r → am_J G (d + 2) mX11_forget am_no (am_E none r) 128 [some (.inr (0, 60)), some (.inl l1), none, some (.inl l3), none, some (.inl l5), some (.inl l6)] [] I := fun l1 l3 l5 l6 I r h => ih h
    unfold bX11_forget_128 at h
    generalize bX11_forget_128 G.2.2.2.1 fu = k128 at hk128 h
    dsimp only at h
    refine am_iload dX11_forget_128 rfl ?_
    refine am_bipush (v := nI 16) dX11_forget_130 (by decide) ?_
    refine am_icmp_ge (tgt := 165) dX11_forget_132 rfl (fun c => ?_) (fun c => ?_)
    · rw [if_pos c] at h
      exact am_lwJ (lo' := [some (.inr (0, 60)), some (.inl l1), none, some (.inl l3), none, some (.inl l5), none]) ⟨rfl, rfl, rfl, rfl, trivial⟩ (tX11_forget_165 hG h)
    · rw [if_neg c] at h
      refine am_aload_n dX11_forget_135 rfl ?_
      refine am_iload_n dX11_forget_136 rfl ?_
      refine am_aload_n dX11_forget_137 rfl ?_
      refine am_get (v := .inr (0, 67)) dX11_forget_138 fl_11_21 (hG.m0 (by decide)) rfl ?_
      refine am_bipush (v := nI 16) dX11_forget_141 (by decide) ?_
      refine am_sipush (v := nI 640) dX11_forget_143 (by decide) ?_
      refine am_iload_n dX11_forget_146 rfl ?_
      refine am_imul dX11_forget_147 ?_
      refine am_iload dX11_forget_148 rfl ?_
      refine am_iadd dX11_forget_150 ?_
      refine am_imul dX11_forget_151 ?_
      refine am_iload dX11_forget_152 rfl ?_
      refine am_iadd dX11_forget_154 ?_
      obtain ⟨g1, h⟩ := am_gd_some h
      refine am_ialdG dX11_forget_155 (hG.m0 (by decide)) rfl g1 (show 40960 < 2 ^ 31 by decide) ?_
      obtain ⟨q2, hq2, h⟩ := am_bd h
      refine am_callVe (i := 0) (j := 60) (as := [.inl l1, .inl (I 0 67 ((((nI 16) * (((nI 640) * l1) + l5)) + l6).toNatClampNeg))]) (rest := []) dX11_forget_156 lkX11_leave ml_X11_246 imX11_leave seX11_leave rfl rfl (hG.m0 (by decide)) rfl (Nat.le_of_ble_eq_true rfl) rfl (sX11_leave hG hq2) ?_
      refine am_iinc (v := l6 + nI 1) dX11_forget_159 rfl rfl ?_
      refine am_goto (tgt := 128) dX11_forget_162 rfl ?_
      exact am_lwJ (lo' := [some (.inr (0, 60)), some (.inl l1), none, some (.inl l3), none, some (.inl l5), some (.inl (l6 + nI 1))]) ⟨rfl, rfl, rfl, rfl, rfl, trivial⟩ (hk128 l1 l3 l5 (l6 + nI 1) _ _ h)
def bX11_forget_57 (n : Nat) : Nat → Int32 → Int32 → Int32 → Int32 → am_I → Option (am_I)
  | 0, _, _, _, _, _ => none
  | fu + 1, l1, l3, l4, l5, I => (fun k57 => if (nI 11) ≤ l5 then (am_gd (am_inb (l4 + (nI 11)) 40960) ((gX11_in n (I 0 67 ((l4 + (nI 11)).toNatClampNeg)) (nI 1) (nI 639) I).bind (fun q2 => if q2.1 = 0 then (bX11_forget_165 n l1 l3 (I 0 67 ((l4 + (nI 11)).toNatClampNeg)) q2.2) else (am_gd (am_inb (((nI 640) * l1) + (I 0 67 ((l4 + (nI 11)).toNatClampNeg))) 2560) (if (q2.2 0 68 ((((nI 640) * l1) + (I 0 67 ((l4 + (nI 11)).toNatClampNeg))).toNatClampNeg)) = 0 then (bX11_forget_165 n l1 l3 (I 0 67 ((l4 + (nI 11)).toNatClampNeg)) q2.2) else (bX11_forget_128 n am_fu l1 l3 (I 0 67 ((l4 + (nI 11)).toNatClampNeg)) (nI 0) q2.2)))))) else (am_gd (am_inb (l4 + l5) 40960) ((gX11_leave n l1 (I 0 67 ((l4 + l5).toNatClampNeg)) I).bind (fun q5 => k57 l1 l3 l4 (l5 + nI 1) q5)))) (bX11_forget_57 n fu)
theorem tX11_forget_57 {G : am_G} (hG : am_okM G) {d : Nat} : ∀ {fu : Nat} {l1 : Int32} {l3 : Int32} {l4 : Int32} {l5 : Int32} {I : am_I} {r : am_I}, bX11_forget_57 G.2.2.2.1 fu l1 l3 l4 l5 I = some r → am_J G (d + 2) mX11_forget am_no (am_E none r) 57 [some (.inr (0, 60)), some (.inl l1), none, some (.inl l3), some (.inl l4), some (.inl l5), none] [] I := by
  intro fu
  induction fu with
  | zero => intro l1 l3 l4 l5 I r h; cases h
  | succ fu ih =>
    intro l1 l3 l4 l5 I r h
    have hk57 : ∀ (l1 : Int32) (l3 : Int32) (l4 : Int32) (l5 : Int32) (I : am_I) (r : am_I), bX11_forget_57 G.2.2.2.1 fu l1 l3 l4 l5 I = some r → am_J G (d + 2) mX11_forget am_no (am_E none r) 57 [some (.inr (0, 60)), some (.inl l1), none, some (.inl l3), some (.inl l4), some (.inl l5), none] [] I := fun l1 l3 l4 l5 I r h => ih h
    unfold bX11_forget_57 at h
    generalize bX11_forget_57 G.2.2.2.1 fu = k57 at hk57 h
    dsimp only at h
    refine am_iload dX11_forget_57 rfl ?_
    refine am_bipush (v := nI 11) dX11_forget_59 (by decide) ?_
    refine am_icmp_ge (tgt := 85) dX11_forget_61 rfl (fun c => ?_) (fun c => ?_)
    · rw [if_pos c] at h
      refine am_aload_n dX11_forget_85 rfl ?_
      refine am_get (v := .inr (0, 67)) dX11_forget_86 fl_11_21 (hG.m0 (by decide)) rfl ?_
      refine am_iload dX11_forget_89 rfl ?_
      refine am_bipush (v := nI 11) dX11_forget_91 (by decide) ?_
      refine am_iadd dX11_forget_93 ?_
      obtain ⟨g1, h⟩ := am_gd_some h
      refine am_ialdG dX11_forget_94 (hG.m0 (by decide)) rfl g1 (show 40960 < 2 ^ 31 by decide) ?_
      refine am_istore dX11_forget_95 (by decide) ?_
      refine am_iload dX11_forget_97 rfl ?_
      refine am_iconst (v := nI 1) dX11_forget_99 (by decide) ?_
      refine am_sipush (v := nI 639) dX11_forget_100 (by decide) ?_
      obtain ⟨q2, hq2, h⟩ := am_bd h
      refine am_callSx (as := [.inl (I 0 67 ((l4 + (nI 11)).toNatClampNeg)), .inl (nI 1), .inl (nI 639)]) (rest := []) dX11_forget_103 lkX11_in ml_X11_243 isX11_in rfl (Nat.le_of_ble_eq_true rfl) rfl (sX11_in hG hq2) ?_
      refine am_if_eq (tgt := 165) dX11_forget_106 rfl (fun c => ?_) (fun c => ?_)
      · rw [if_pos c] at h
        exact am_lwJ (lo' := [some (.inr (0, 60)), some (.inl l1), none, some (.inl l3), none, some (.inl (I 0 67 ((l4 + (nI 11)).toNatClampNeg))), none]) ⟨rfl, rfl, rfl, rfl, trivial⟩ (tX11_forget_165 hG h)
      · rw [if_neg c] at h
        refine am_aload_n dX11_forget_109 rfl ?_
        refine am_get (v := .inr (0, 68)) dX11_forget_110 fl_11_24 (hG.m0 (by decide)) rfl ?_
        refine am_sipush (v := nI 640) dX11_forget_113 (by decide) ?_
        refine am_iload_n dX11_forget_116 rfl ?_
        refine am_imul dX11_forget_117 ?_
        refine am_iload dX11_forget_118 rfl ?_
        refine am_iadd dX11_forget_120 ?_
        obtain ⟨g3, h⟩ := am_gd_some h
        refine am_zaldG dX11_forget_121 (hG.m0 (by decide)) rfl g3 (show 2560 < 2 ^ 31 by decide) ?_
        refine am_if_eq (tgt := 165) dX11_forget_122 rfl (fun c => ?_) (fun c => ?_)
        · rw [if_pos c] at h
          exact am_lwJ (lo' := [some (.inr (0, 60)), some (.inl l1), none, some (.inl l3), none, some (.inl (I 0 67 ((l4 + (nI 11)).toNatClampNeg))), none]) ⟨rfl, rfl, rfl, rfl, trivial⟩ (tX11_forget_165 hG h)
        · rw [if_neg c] at h
          refine am_iconst (v := nI 0) dX11_forget_125 (by decide) ?_
          refine am_istore dX11_forget_126 (by decide) ?_
          exact am_lwJ (lo' := [some (.inr (0, 60)), some (.inl l1), none, some (.inl l3), none, some (.inl (I 0 67 ((l4 + (nI 11)).toNatClampNeg))), some (.inl (nI 0))]) ⟨rfl, rfl, rfl, rfl, rfl, trivial⟩ (tX11_forget_128 hG h)
    · rw [if_neg c] at h
      refine am_aload_n dX11_forget_64 rfl ?_
      refine am_iload_n dX11_forget_65 rfl ?_
      refine am_aload_n dX11_forget_66 rfl ?_
      refine am_get (v := .inr (0, 67)) dX11_forget_67 fl_11_21 (hG.m0 (by decide)) rfl ?_
      refine am_iload dX11_forget_70 rfl ?_
      refine am_iload dX11_forget_72 rfl ?_
      refine am_iadd dX11_forget_74 ?_
      obtain ⟨g4, h⟩ := am_gd_some h
      refine am_ialdG dX11_forget_75 (hG.m0 (by decide)) rfl g4 (show 40960 < 2 ^ 31 by decide) ?_
      obtain ⟨q5, hq5, h⟩ := am_bd h
      refine am_callVe (i := 0) (j := 60) (as := [.inl l1, .inl (I 0 67 ((l4 + l5).toNatClampNeg))]) (rest := []) dX11_forget_76 lkX11_leave ml_X11_246 imX11_leave seX11_leave rfl rfl (hG.m0 (by decide)) rfl (Nat.le_of_ble_eq_true rfl) rfl (sX11_leave hG hq5) ?_
      refine am_iinc (v := l5 + nI 1) dX11_forget_79 rfl rfl ?_
      refine am_goto (tgt := 57) dX11_forget_82 rfl ?_
      exact am_lwJ (lo' := [some (.inr (0, 60)), some (.inl l1), none, some (.inl l3), some (.inl l4), some (.inl (l5 + nI 1)), none]) ⟨rfl, rfl, rfl, rfl, rfl, trivial⟩ (hk57 l1 l3 l4 (l5 + nI 1) _ _ h)
def bX11_forget_0 (n : Nat) (l1 : Int32) (l2 : Int32) (I : am_I) : Option (am_I) := if l2 < (nI 128) then ((gX11_inodeBlock n l2 I).bind (fun q1 => am_gd (am_inb (((nI 640) * l1) + q1.1) 2560) (if (q1.2 0 68 ((((nI 640) * l1) + q1.1).toNatClampNeg)) = 0 then (some q1.2) else (bX11_forget_57 n am_fu l1 q1.1 ((nI 16) * (((nI 640) * l1) + q1.1)) (nI 3) q1.2)))) else ((gX11_mapOf n (l2 - (nI 128)) I).bind (fun q3 => (gX11_leave n l1 q3.1 q3.2).bind (fun q4 => some q4)))
theorem tX11_forget_0 {G : am_G} (hG : am_okM G) {d : Nat} {l1 : Int32} {l2 : Int32} {I : am_I} {r : am_I} (h : bX11_forget_0 G.2.2.2.1 l1 l2  I = some r) : am_J G (d + 2) mX11_forget am_no (am_E none r) 0 [some (.inr (0, 60)), some (.inl l1), some (.inl l2), none, none, none, none] [] I := by
  unfold bX11_forget_0 at h
  refine am_iload_n dX11_forget_0 rfl ?_
  refine am_sipush (v := nI 128) dX11_forget_1 (by decide) ?_
  refine am_icmp_lt (tgt := 21) dX11_forget_4 rfl (fun c => ?_) (fun c => ?_)
  · rw [if_pos c] at h
    refine am_iload_n dX11_forget_21 rfl ?_
    obtain ⟨q1, hq1, h⟩ := am_bd h
    refine am_callSx (as := [.inl l2]) (rest := []) dX11_forget_22 lkX11_inodeBlock ml_X11_185 isX11_inodeBlock rfl (Nat.le_of_ble_eq_true rfl) rfl (sX11_inodeBlock hG hq1) ?_
    refine am_istore_n dX11_forget_25 (by decide) ?_
    refine am_aload_n dX11_forget_26 rfl ?_
    refine am_get (v := .inr (0, 68)) dX11_forget_27 fl_11_24 (hG.m0 (by decide)) rfl ?_
    refine am_sipush (v := nI 640) dX11_forget_30 (by decide) ?_
    refine am_iload_n dX11_forget_33 rfl ?_
    refine am_imul dX11_forget_34 ?_
    refine am_iload_n dX11_forget_35 rfl ?_
    refine am_iadd dX11_forget_36 ?_
    obtain ⟨g2, h⟩ := am_gd_some h
    refine am_zaldG dX11_forget_37 (hG.m0 (by decide)) rfl g2 (show 2560 < 2 ^ 31 by decide) ?_
    refine am_if_ne (tgt := 42) dX11_forget_38 rfl (fun c => ?_) (fun c => ?_)
    · rw [if_neg c] at h
      refine am_bipush (v := nI 16) dX11_forget_42 (by decide) ?_
      refine am_sipush (v := nI 640) dX11_forget_44 (by decide) ?_
      refine am_iload_n dX11_forget_47 rfl ?_
      refine am_imul dX11_forget_48 ?_
      refine am_iload_n dX11_forget_49 rfl ?_
      refine am_iadd dX11_forget_50 ?_
      refine am_imul dX11_forget_51 ?_
      refine am_istore dX11_forget_52 (by decide) ?_
      refine am_iconst (v := nI 3) dX11_forget_54 (by decide) ?_
      refine am_istore dX11_forget_55 (by decide) ?_
      exact am_lwJ (lo' := [some (.inr (0, 60)), some (.inl l1), none, some (.inl q1.1), some (.inl ((nI 16) * (((nI 640) * l1) + q1.1))), some (.inl (nI 3)), none]) ⟨rfl, rfl, rfl, rfl, rfl, trivial⟩ (tX11_forget_57 hG h)
    · rw [if_pos c] at h
      cases h
      exact am_vret dX11_forget_41 rfl ⟨rfl, rfl⟩
  · rw [if_neg c] at h
    refine am_aload_n dX11_forget_7 rfl ?_
    refine am_iload_n dX11_forget_8 rfl ?_
    refine am_iload_n dX11_forget_9 rfl ?_
    refine am_sipush (v := nI 128) dX11_forget_10 (by decide) ?_
    refine am_isub dX11_forget_13 ?_
    obtain ⟨q3, hq3, h⟩ := am_bd h
    refine am_callSx (as := [.inl (l2 - (nI 128))]) (rest := [.inl l1, .inr (0, 60)]) dX11_forget_14 lkX11_mapOf ml_X11_181 isX11_mapOf rfl (Nat.le_of_ble_eq_true rfl) rfl (sX11_mapOf hG hq3) ?_
    obtain ⟨q4, hq4, h⟩ := am_bd h
    refine am_callVe (i := 0) (j := 60) (as := [.inl l1, .inl q3.1]) (rest := []) dX11_forget_17 lkX11_leave ml_X11_246 imX11_leave seX11_leave rfl rfl (hG.m0 (by decide)) rfl (Nat.le_of_ble_eq_true rfl) rfl (sX11_leave hG hq4) ?_
    cases h
    exact am_vret dX11_forget_20 rfl ⟨rfl, rfl⟩
def gX11_forget (n : Nat) (l1 : Int32) (l2 : Int32) (I : am_I) : Option (am_I) := bX11_forget_0 n l1 l2 I
theorem sX11_forget {G : am_G} (hG : am_okM G) {d : Nat} {l1 : Int32} {l2 : Int32} {I : am_I} {r : am_I} (h : gX11_forget G.2.2.2.1 l1 l2 I = some r) : am_C G (d + 2) mX11_forget [.inr (0, 60), .inl l1, .inl l2] I (am_E none r) :=
  am_of (by decide +kernel) hG.nd (Nat.le_of_ble_eq_true rfl) (am_lwJ (lo' := [some (.inr (0, 60)), some (.inl l1), some (.inl l2), none, none, none, none]) ⟨rfl, rfl, rfl, trivial⟩ (tX11_forget_0 hG h))
def bX11_masterOf_2 (n : Nat) : Nat → Int32 → Int32 → am_I → Option (Int32 × am_I)
  | 0, _, _, _ => none
  | fu + 1, l1, l2, I => (fun k2 => if (I 0 60 1) ≤ l2 then (some ((-1 : Int32), I)) else (am_gd (decide (¬ (I 0 60 1) = 0)) (am_gd (am_inb ((l1 + l2) - (l1 + l2) / (I 0 60 1) * (I 0 60 1)) 4) (if (I 0 66 (((l1 + l2) - (l1 + l2) / (I 0 60 1) * (I 0 60 1)).toNatClampNeg)) = 0 then (k2 l1 (l2 + nI 1) I) else (some ((l1 + l2) - (l1 + l2) / (I 0 60 1) * (I 0 60 1), I)))))) (bX11_masterOf_2 n fu)
theorem tX11_masterOf_2 {G : am_G} (hG : am_okM G) {d : Nat} : ∀ {fu : Nat} {l1 : Int32} {l2 : Int32} {I : am_I} {r : Int32 × am_I}, bX11_masterOf_2 G.2.2.2.1 fu l1 l2 I = some r → am_J G d mX11_masterOf am_no (am_E (some r.1) r.2) 2 [some (.inr (0, 60)), some (.inl l1), some (.inl l2), none] [] I := by
  intro fu
  induction fu with
  | zero => intro l1 l2 I r h; cases h
  | succ fu ih =>
    intro l1 l2 I r h
    have hk2 : ∀ (l1 : Int32) (l2 : Int32) (I : am_I) (r : Int32 × am_I), bX11_masterOf_2 G.2.2.2.1 fu l1 l2 I = some r → am_J G d mX11_masterOf am_no (am_E (some r.1) r.2) 2 [some (.inr (0, 60)), some (.inl l1), some (.inl l2), none] [] I := fun l1 l2 I r h => ih h
    unfold bX11_masterOf_2 at h
    generalize bX11_masterOf_2 G.2.2.2.1 fu = k2 at hk2 h
    dsimp only at h
    refine am_iload_n dX11_masterOf_2 rfl ?_
    refine am_aload_n dX11_masterOf_3 rfl ?_
    refine am_get (v := .inl (I 0 60 1)) dX11_masterOf_4 fl_11_177 (hG.m0 (by decide)) rfl ?_
    refine am_icmp_ge (tgt := 36) dX11_masterOf_7 rfl (fun c => ?_) (fun c => ?_)
    · rw [if_pos c] at h
      refine am_iconst (v := (-1 : Int32)) dX11_masterOf_36 (by decide) ?_
      cases h
      exact am_iret dX11_masterOf_37 rfl rfl ⟨rfl, rfl⟩
    · rw [if_neg c] at h
      refine am_iload_n dX11_masterOf_10 rfl ?_
      refine am_iload_n dX11_masterOf_11 rfl ?_
      refine am_iadd dX11_masterOf_12 ?_
      refine am_aload_n dX11_masterOf_13 rfl ?_
      refine am_get (v := .inl (I 0 60 1)) dX11_masterOf_14 fl_11_177 (hG.m0 (by decide)) rfl ?_
      obtain ⟨g1, h⟩ := am_gd_some h
      refine am_irem dX11_masterOf_17 (of_decide_eq_true g1) ?_
      refine am_istore_n dX11_masterOf_18 (by decide) ?_
      refine am_aload_n dX11_masterOf_19 rfl ?_
      refine am_get (v := .inr (0, 66)) dX11_masterOf_20 fl_11_17 (hG.m0 (by decide)) rfl ?_
      refine am_iload_n dX11_masterOf_23 rfl ?_
      obtain ⟨g2, h⟩ := am_gd_some h
      refine am_zaldG dX11_masterOf_24 (hG.m0 (by decide)) rfl g2 (show 4 < 2 ^ 31 by decide) ?_
      refine am_if_eq (tgt := 30) dX11_masterOf_25 rfl (fun c => ?_) (fun c => ?_)
      · rw [if_pos c] at h
        refine am_iinc (v := l2 + nI 1) dX11_masterOf_30 rfl rfl ?_
        refine am_goto (tgt := 2) dX11_masterOf_33 rfl ?_
        exact am_lwJ (lo' := [some (.inr (0, 60)), some (.inl l1), some (.inl (l2 + nI 1)), none]) ⟨rfl, rfl, rfl, trivial⟩ (hk2 l1 (l2 + nI 1) _ _ h)
      · rw [if_neg c] at h
        refine am_iload_n dX11_masterOf_28 rfl ?_
        cases h
        exact am_iret dX11_masterOf_29 rfl rfl ⟨rfl, rfl⟩
def bX11_masterOf_0 (n : Nat) (l1 : Int32) (I : am_I) : Option (Int32 × am_I) := bX11_masterOf_2 n am_fu l1 (nI 0) I
theorem tX11_masterOf_0 {G : am_G} (hG : am_okM G) {d : Nat} {l1 : Int32} {I : am_I} {r : Int32 × am_I} (h : bX11_masterOf_0 G.2.2.2.1 l1  I = some r) : am_J G d mX11_masterOf am_no (am_E (some r.1) r.2) 0 [some (.inr (0, 60)), some (.inl l1), none, none] [] I := by
  unfold bX11_masterOf_0 at h
  refine am_iconst (v := nI 0) dX11_masterOf_0 (by decide) ?_
  refine am_istore_n dX11_masterOf_1 (by decide) ?_
  exact am_lwJ (lo' := [some (.inr (0, 60)), some (.inl l1), some (.inl (nI 0)), none]) ⟨rfl, rfl, rfl, trivial⟩ (tX11_masterOf_2 hG h)
def gX11_masterOf (n : Nat) (l1 : Int32) (I : am_I) : Option (Int32 × am_I) := bX11_masterOf_0 n l1 I
theorem sX11_masterOf {G : am_G} (hG : am_okM G) {d : Nat} {l1 : Int32} {I : am_I} {r : Int32 × am_I} (h : gX11_masterOf G.2.2.2.1 l1 I = some r) : am_C G d mX11_masterOf [.inr (0, 60), .inl l1] I (am_E (some r.1) r.2) :=
  am_of (by decide +kernel) hG.nd (Nat.le_of_ble_eq_true rfl) (am_lwJ (lo' := [some (.inr (0, 60)), some (.inl l1), none, none]) ⟨rfl, rfl, trivial⟩ (tX11_masterOf_0 hG h))
def bX11_send_71 (n : Nat) (l1 : Int32) (l2 : Int32) (l3 : Int32) (l4 : Int32) (l5 : Int32) (l6 : Int32) (s0 : Int32) (I : am_I) : Option (am_I) := am_gd (am_inb l6 16) (am_lt (am_up I 0 108 l6.toNatClampNeg s0) (fun I2 => am_gd (am_inb (I2 0 60 38) 4096) (am_lt (am_up I2 0 101 (I2 0 60 38).toNatClampNeg l1) (fun I4 => am_gd (am_inb (I4 0 60 38) 4096) (am_lt (am_up I4 0 102 (I4 0 60 38).toNatClampNeg l2) (fun I6 => am_gd (am_inb (I6 0 60 38) 4096) (am_lt (am_up I6 0 103 (I6 0 60 38).toNatClampNeg l3) (fun I8 => am_gd (am_inb (I8 0 60 38) 4096) (am_lt (am_up I8 0 104 (I8 0 60 38).toNatClampNeg l4) (fun I10 => am_gd (am_inb (I10 0 60 38) 4096) (am_lt (am_up I10 0 105 (I10 0 60 38).toNatClampNeg l5) (fun I12 => am_gd (am_inb (I12 0 60 38) 4096) (am_lt (am_up I12 0 106 (I12 0 60 38).toNatClampNeg s0) (fun I14 => am_lt (am_up I14 0 60 38 ((I14 0 60 38) + (nI 1))) (fun I15 => some I15)))))))))))))))
theorem tX11_send_71 {G : am_G} (hG : am_okM G) {d : Nat} {l1 : Int32} {l2 : Int32} {l3 : Int32} {l4 : Int32} {l5 : Int32} {l6 : Int32} {s0 : Int32} {I : am_I} {r : am_I} (h : bX11_send_71 G.2.2.2.1 l1 l2 l3 l4 l5 l6 s0  I = some r) : am_J G d mX11_send am_no (am_E none r) 71 [some (.inr (0, 60)), some (.inl l1), some (.inl l2), some (.inl l3), some (.inl l4), some (.inl l5), some (.inl l6), none] [.inl s0] I := by
  unfold bX11_send_71 at h
  refine am_istore dX11_send_71 (by decide) ?_
  refine am_aload_n dX11_send_73 rfl ?_
  refine am_get (v := .inr (0, 108)) dX11_send_74 fl_11_138 (hG.m0 (by decide)) rfl ?_
  refine am_iload dX11_send_77 rfl ?_
  refine am_iload dX11_send_79 rfl ?_
  obtain ⟨g1, h⟩ := am_gd_some h
  refine am_iastG dX11_send_81 (hG.m0 (by decide)) rfl g1 (show 16 < 2 ^ 31 by decide) ?_
  obtain ⟨I2, hI2, h⟩ := am_lt_some h
  refine am_st10 hI2 ?_
  refine am_aload_n dX11_send_82 rfl ?_
  refine am_get (v := .inr (0, 101)) dX11_send_83 fl_11_117 (hG.m0 (by decide)) rfl ?_
  refine am_aload_n dX11_send_86 rfl ?_
  refine am_get (v := .inl (I2 0 60 38)) dX11_send_87 fl_11_197 (hG.m0 (by decide)) rfl ?_
  refine am_iload_n dX11_send_90 rfl ?_
  obtain ⟨g3, h⟩ := am_gd_some h
  refine am_iastG dX11_send_91 (hG.m0 (by decide)) rfl g3 (show 4096 < 2 ^ 31 by decide) ?_
  obtain ⟨I4, hI4, h⟩ := am_lt_some h
  refine am_st10 hI4 ?_
  refine am_aload_n dX11_send_92 rfl ?_
  refine am_get (v := .inr (0, 102)) dX11_send_93 fl_11_120 (hG.m0 (by decide)) rfl ?_
  refine am_aload_n dX11_send_96 rfl ?_
  refine am_get (v := .inl (I4 0 60 38)) dX11_send_97 fl_11_197 (hG.m0 (by decide)) rfl ?_
  refine am_iload_n dX11_send_100 rfl ?_
  obtain ⟨g5, h⟩ := am_gd_some h
  refine am_iastG dX11_send_101 (hG.m0 (by decide)) rfl g5 (show 4096 < 2 ^ 31 by decide) ?_
  obtain ⟨I6, hI6, h⟩ := am_lt_some h
  refine am_st10 hI6 ?_
  refine am_aload_n dX11_send_102 rfl ?_
  refine am_get (v := .inr (0, 103)) dX11_send_103 fl_11_123 (hG.m0 (by decide)) rfl ?_
  refine am_aload_n dX11_send_106 rfl ?_
  refine am_get (v := .inl (I6 0 60 38)) dX11_send_107 fl_11_197 (hG.m0 (by decide)) rfl ?_
  refine am_iload_n dX11_send_110 rfl ?_
  obtain ⟨g7, h⟩ := am_gd_some h
  refine am_iastG dX11_send_111 (hG.m0 (by decide)) rfl g7 (show 4096 < 2 ^ 31 by decide) ?_
  obtain ⟨I8, hI8, h⟩ := am_lt_some h
  refine am_st10 hI8 ?_
  refine am_aload_n dX11_send_112 rfl ?_
  refine am_get (v := .inr (0, 104)) dX11_send_113 fl_11_126 (hG.m0 (by decide)) rfl ?_
  refine am_aload_n dX11_send_116 rfl ?_
  refine am_get (v := .inl (I8 0 60 38)) dX11_send_117 fl_11_197 (hG.m0 (by decide)) rfl ?_
  refine am_iload dX11_send_120 rfl ?_
  obtain ⟨g9, h⟩ := am_gd_some h
  refine am_iastG dX11_send_122 (hG.m0 (by decide)) rfl g9 (show 4096 < 2 ^ 31 by decide) ?_
  obtain ⟨I10, hI10, h⟩ := am_lt_some h
  refine am_st10 hI10 ?_
  refine am_aload_n dX11_send_123 rfl ?_
  refine am_get (v := .inr (0, 105)) dX11_send_124 fl_11_129 (hG.m0 (by decide)) rfl ?_
  refine am_aload_n dX11_send_127 rfl ?_
  refine am_get (v := .inl (I10 0 60 38)) dX11_send_128 fl_11_197 (hG.m0 (by decide)) rfl ?_
  refine am_iload dX11_send_131 rfl ?_
  obtain ⟨g11, h⟩ := am_gd_some h
  refine am_iastG dX11_send_133 (hG.m0 (by decide)) rfl g11 (show 4096 < 2 ^ 31 by decide) ?_
  obtain ⟨I12, hI12, h⟩ := am_lt_some h
  refine am_st10 hI12 ?_
  refine am_aload_n dX11_send_134 rfl ?_
  refine am_get (v := .inr (0, 106)) dX11_send_135 fl_11_132 (hG.m0 (by decide)) rfl ?_
  refine am_aload_n dX11_send_138 rfl ?_
  refine am_get (v := .inl (I12 0 60 38)) dX11_send_139 fl_11_197 (hG.m0 (by decide)) rfl ?_
  refine am_iload dX11_send_142 rfl ?_
  obtain ⟨g13, h⟩ := am_gd_some h
  refine am_iastG dX11_send_144 (hG.m0 (by decide)) rfl g13 (show 4096 < 2 ^ 31 by decide) ?_
  obtain ⟨I14, hI14, h⟩ := am_lt_some h
  refine am_st10 hI14 ?_
  refine am_aload_n dX11_send_145 rfl ?_
  refine am_dup dX11_send_146 ?_
  refine am_get (v := .inl (I14 0 60 38)) dX11_send_147 fl_11_197 (hG.m0 (by decide)) rfl ?_
  refine am_iconst (v := nI 1) dX11_send_150 (by decide) ?_
  refine am_iadd dX11_send_151 ?_
  refine am_put (x := (I14 0 60 38) + (nI 1)) dX11_send_152 fp_11_197 (hG.m0 (by decide)) (Nat.le_of_ble_eq_true rfl) rfl ?_
  obtain ⟨I15, hI15, h⟩ := am_lt_some h
  refine am_st10 hI15 ?_
  cases h
  exact am_vret dX11_send_155 rfl ⟨rfl, rfl⟩
def bX11_send_0 (n : Nat) (l1 : Int32) (l2 : Int32) (l3 : Int32) (l4 : Int32) (l5 : Int32) (I : am_I) : Option (am_I) := if l2 = (-1 : Int32) then (some I) else (am_lt (am_up I 0 60 39 ((I 0 60 39) + (nI 1))) (fun I1 => am_gd (am_inb l2 4) (if (I1 0 65 l2.toNatClampNeg) = 0 then (some I1) else (am_gd (am_inb (((nI 4) * l1) + l2) 16) (am_gd (am_inb (((nI 4) * l1) + l2) 16) (if (I1 0 108 ((((nI 4) * l1) + l2).toNatClampNeg)) ≤ ((I1 0 60 2) + (I1 0 107 ((((nI 4) * l1) + l2).toNatClampNeg))) then (bX11_send_71 n l1 l2 l3 l4 l5 (((nI 4) * l1) + l2) ((I1 0 60 2) + (I1 0 107 ((((nI 4) * l1) + l2).toNatClampNeg))) I1) else (am_gd (am_inb (((nI 4) * l1) + l2) 16) (bX11_send_71 n l1 l2 l3 l4 l5 (((nI 4) * l1) + l2) (I1 0 108 ((((nI 4) * l1) + l2).toNatClampNeg)) I1))))))))
theorem tX11_send_0 {G : am_G} (hG : am_okM G) {d : Nat} {l1 : Int32} {l2 : Int32} {l3 : Int32} {l4 : Int32} {l5 : Int32} {I : am_I} {r : am_I} (h : bX11_send_0 G.2.2.2.1 l1 l2 l3 l4 l5  I = some r) : am_J G d mX11_send am_no (am_E none r) 0 [some (.inr (0, 60)), some (.inl l1), some (.inl l2), some (.inl l3), some (.inl l4), some (.inl l5), none, none] [] I := by
  unfold bX11_send_0 at h
  refine am_iload_n dX11_send_0 rfl ?_
  refine am_iconst (v := (-1 : Int32)) dX11_send_1 (by decide) ?_
  refine am_icmp_ne (tgt := 6) dX11_send_2 rfl (fun c => ?_) (fun c => ?_)
  · rw [if_neg c] at h
    refine am_aload_n dX11_send_6 rfl ?_
    refine am_dup dX11_send_7 ?_
    refine am_get (v := .inl (I 0 60 39)) dX11_send_8 fl_11_191 (hG.m0 (by decide)) rfl ?_
    refine am_iconst (v := nI 1) dX11_send_11 (by decide) ?_
    refine am_iadd dX11_send_12 ?_
    refine am_put (x := (I 0 60 39) + (nI 1)) dX11_send_13 fp_11_191 (hG.m0 (by decide)) (Nat.le_of_ble_eq_true rfl) rfl ?_
    obtain ⟨I1, hI1, h⟩ := am_lt_some h
    refine am_st10 hI1 ?_
    refine am_aload_n dX11_send_16 rfl ?_
    refine am_get (v := .inr (0, 65)) dX11_send_17 fl_11_13 (hG.m0 (by decide)) rfl ?_
    refine am_iload_n dX11_send_20 rfl ?_
    obtain ⟨g2, h⟩ := am_gd_some h
    refine am_zaldG dX11_send_21 (hG.m0 (by decide)) rfl g2 (show 4 < 2 ^ 31 by decide) ?_
    refine am_if_ne (tgt := 26) dX11_send_22 rfl (fun c => ?_) (fun c => ?_)
    · rw [if_neg c] at h
      refine am_iconst (v := nI 4) dX11_send_26 (by decide) ?_
      refine am_iload_n dX11_send_27 rfl ?_
      refine am_imul dX11_send_28 ?_
      refine am_iload_n dX11_send_29 rfl ?_
      refine am_iadd dX11_send_30 ?_
      refine am_istore dX11_send_31 (by decide) ?_
      refine am_aload_n dX11_send_33 rfl ?_
      refine am_get (v := .inl (I1 0 60 2)) dX11_send_34 fl_11_194 (hG.m0 (by decide)) rfl ?_
      refine am_aload_n dX11_send_37 rfl ?_
      refine am_get (v := .inr (0, 107)) dX11_send_38 fl_11_135 (hG.m0 (by decide)) rfl ?_
      refine am_iload dX11_send_41 rfl ?_
      obtain ⟨g3, h⟩ := am_gd_some h
      refine am_ialdG dX11_send_43 (hG.m0 (by decide)) rfl g3 (show 16 < 2 ^ 31 by decide) ?_
      refine am_iadd dX11_send_44 ?_
      refine am_istore dX11_send_45 (by decide) ?_
      refine am_iload dX11_send_47 rfl ?_
      refine am_aload_n dX11_send_49 rfl ?_
      refine am_get (v := .inr (0, 108)) dX11_send_50 fl_11_138 (hG.m0 (by decide)) rfl ?_
      refine am_iload dX11_send_53 rfl ?_
      obtain ⟨g4, h⟩ := am_gd_some h
      refine am_ialdG dX11_send_55 (hG.m0 (by decide)) rfl g4 (show 16 < 2 ^ 31 by decide) ?_
      refine am_icmp_ge (tgt := 69) dX11_send_56 rfl (fun c => ?_) (fun c => ?_)
      · rw [if_pos c] at h
        refine am_iload dX11_send_69 rfl ?_
        exact am_lwJ (lo' := [some (.inr (0, 60)), some (.inl l1), some (.inl l2), some (.inl l3), some (.inl l4), some (.inl l5), some (.inl (((nI 4) * l1) + l2)), none]) ⟨rfl, rfl, rfl, rfl, rfl, rfl, rfl, trivial⟩ (tX11_send_71 hG h)
      · rw [if_neg c] at h
        refine am_aload_n dX11_send_59 rfl ?_
        refine am_get (v := .inr (0, 108)) dX11_send_60 fl_11_138 (hG.m0 (by decide)) rfl ?_
        refine am_iload dX11_send_63 rfl ?_
        obtain ⟨g5, h⟩ := am_gd_some h
        refine am_ialdG dX11_send_65 (hG.m0 (by decide)) rfl g5 (show 16 < 2 ^ 31 by decide) ?_
        refine am_goto (tgt := 71) dX11_send_66 rfl ?_
        exact am_lwJ (lo' := [some (.inr (0, 60)), some (.inl l1), some (.inl l2), some (.inl l3), some (.inl l4), some (.inl l5), some (.inl (((nI 4) * l1) + l2)), none]) ⟨rfl, rfl, rfl, rfl, rfl, rfl, rfl, trivial⟩ (tX11_send_71 hG h)
    · rw [if_pos c] at h
      cases h
      exact am_vret dX11_send_25 rfl ⟨rfl, rfl⟩
  · rw [if_pos c] at h
    cases h
    exact am_vret dX11_send_5 rfl ⟨rfl, rfl⟩
def gX11_send (n : Nat) (l1 : Int32) (l2 : Int32) (l3 : Int32) (l4 : Int32) (l5 : Int32) (I : am_I) : Option (am_I) := bX11_send_0 n l1 l2 l3 l4 l5 I
theorem sX11_send {G : am_G} (hG : am_okM G) {d : Nat} {l1 : Int32} {l2 : Int32} {l3 : Int32} {l4 : Int32} {l5 : Int32} {I : am_I} {r : am_I} (h : gX11_send G.2.2.2.1 l1 l2 l3 l4 l5 I = some r) : am_C G d mX11_send [.inr (0, 60), .inl l1, .inl l2, .inl l3, .inl l4, .inl l5] I (am_E none r) :=
  am_of (by decide +kernel) hG.nd (Nat.le_of_ble_eq_true rfl) (am_lwJ (lo' := [some (.inr (0, 60)), some (.inl l1), some (.inl l2), some (.inl l3), some (.inl l4), some (.inl l5), none, none]) ⟨rfl, rfl, rfl, rfl, rfl, rfl, trivial⟩ (tX11_send_0 hG h))
def bX11_goDown_83 (n : Nat) (l1 : Int32) (l2 : Int32) (l3 : Int32) (l4 : Int32) (I : am_I) : Option (am_I) := am_gd (am_inb l3 544) (am_lt (am_up I 0 78 l3.toNatClampNeg (-1 : Int32)) (fun I2 => am_gd (am_inb l3 544) (am_lt (am_up I2 0 80 l3.toNatClampNeg (nI 0)) (fun I4 => (gX11_masterOf n l2 I4).bind (fun q5 => (gX11_send n l1 q5.1 (nI 3) l2 l4 q5.2).bind (fun q6 => some q6))))))
theorem tX11_goDown_83 {G : am_G} (hG : am_okM G) {d : Nat} {l1 : Int32} {l2 : Int32} {l3 : Int32} {l4 : Int32} {I : am_I} {r : am_I} (h : bX11_goDown_83 G.2.2.2.1 l1 l2 l3 l4  I = some r) : am_J G (d + 3) mX11_goDown am_no (am_E none r) 83 [some (.inr (0, 60)), some (.inl l1), some (.inl l2), some (.inl l3), some (.inl l4)] [] I := by
  unfold bX11_goDown_83 at h
  refine am_aload_n dX11_goDown_83 rfl ?_
  refine am_get (v := .inr (0, 78)) dX11_goDown_84 fl_11_54 (hG.m0 (by decide)) rfl ?_
  refine am_iload_n dX11_goDown_87 rfl ?_
  refine am_iconst (v := (-1 : Int32)) dX11_goDown_88 (by decide) ?_
  obtain ⟨g1, h⟩ := am_gd_some h
  refine am_iastG dX11_goDown_89 (hG.m0 (by decide)) rfl g1 (show 544 < 2 ^ 31 by decide) ?_
  obtain ⟨I2, hI2, h⟩ := am_lt_some h
  refine am_st10 hI2 ?_
  refine am_aload_n dX11_goDown_90 rfl ?_
  refine am_get (v := .inr (0, 80)) dX11_goDown_91 fl_11_60 (hG.m0 (by decide)) rfl ?_
  refine am_iload_n dX11_goDown_94 rfl ?_
  refine am_iconst (v := nI 0) dX11_goDown_95 (by decide) ?_
  obtain ⟨g3, h⟩ := am_gd_some h
  refine am_zastG dX11_goDown_96 (hG.m0 (by decide)) rfl (by decide) g3 (show 544 < 2 ^ 31 by decide) ?_
  obtain ⟨I4, hI4, h⟩ := am_lt_some h
  refine am_st10 hI4 ?_
  refine am_aload_n dX11_goDown_97 rfl ?_
  refine am_iload_n dX11_goDown_98 rfl ?_
  refine am_aload_n dX11_goDown_99 rfl ?_
  refine am_iload_n dX11_goDown_100 rfl ?_
  obtain ⟨q5, hq5, h⟩ := am_bd h
  refine am_callVx (i := 0) (j := 60) (as := [.inl l2]) (rest := [.inl l1, .inr (0, 60)]) dX11_goDown_101 lkX11_masterOf ml_X11_226 imX11_masterOf seX11_masterOf rfl rfl (hG.m0 (by decide)) rfl (Nat.le_of_ble_eq_true rfl) rfl (sX11_masterOf hG hq5) ?_
  refine am_iconst (v := nI 3) dX11_goDown_104 (by decide) ?_
  refine am_iload_n dX11_goDown_105 rfl ?_
  refine am_iload dX11_goDown_106 rfl ?_
  obtain ⟨q6, hq6, h⟩ := am_bd h
  refine am_callVe (i := 0) (j := 60) (as := [.inl l1, .inl q5.1, .inl (nI 3), .inl l2, .inl l4]) (rest := []) dX11_goDown_108 lkX11_send ml_X11_229 imX11_send seX11_send rfl rfl (hG.m0 (by decide)) rfl (Nat.le_of_ble_eq_true rfl) rfl (sX11_send hG hq6) ?_
  cases h
  exact am_vret dX11_goDown_111 rfl ⟨rfl, rfl⟩
def bX11_goDown_56 (n : Nat) (l1 : Int32) (l2 : Int32) (l3 : Int32) (I : am_I) : Option (am_I) := am_gd (am_inb l3 544) (am_gd (am_inb l3 544) (am_lt (am_up I 0 76 l3.toNatClampNeg (I 0 78 l3.toNatClampNeg)) (fun I3 => if (I 0 78 l3.toNatClampNeg) = 0 then ((gX11_forget n l1 l2 I3).bind (fun q4 => bX11_goDown_83 n l1 l2 l3 (I 0 78 l3.toNatClampNeg) q4)) else (bX11_goDown_83 n l1 l2 l3 (I 0 78 l3.toNatClampNeg) I3))))
theorem tX11_goDown_56 {G : am_G} (hG : am_okM G) {d : Nat} {l1 : Int32} {l2 : Int32} {l3 : Int32} {I : am_I} {r : am_I} (h : bX11_goDown_56 G.2.2.2.1 l1 l2 l3  I = some r) : am_J G (d + 3) mX11_goDown am_no (am_E none r) 56 [some (.inr (0, 60)), some (.inl l1), some (.inl l2), some (.inl l3), none] [] I := by
  unfold bX11_goDown_56 at h
  refine am_aload_n dX11_goDown_56 rfl ?_
  refine am_get (v := .inr (0, 78)) dX11_goDown_57 fl_11_54 (hG.m0 (by decide)) rfl ?_
  refine am_iload_n dX11_goDown_60 rfl ?_
  obtain ⟨g1, h⟩ := am_gd_some h
  refine am_ialdG dX11_goDown_61 (hG.m0 (by decide)) rfl g1 (show 544 < 2 ^ 31 by decide) ?_
  refine am_istore dX11_goDown_62 (by decide) ?_
  refine am_aload_n dX11_goDown_64 rfl ?_
  refine am_get (v := .inr (0, 76)) dX11_goDown_65 fl_11_48 (hG.m0 (by decide)) rfl ?_
  refine am_iload_n dX11_goDown_68 rfl ?_
  refine am_iload dX11_goDown_69 rfl ?_
  obtain ⟨g2, h⟩ := am_gd_some h
  refine am_iastG dX11_goDown_71 (hG.m0 (by decide)) rfl g2 (show 544 < 2 ^ 31 by decide) ?_
  obtain ⟨I3, hI3, h⟩ := am_lt_some h
  refine am_st10 hI3 ?_
  refine am_iload dX11_goDown_72 rfl ?_
  refine am_if_ne (tgt := 83) dX11_goDown_74 rfl (fun c => ?_) (fun c => ?_)
  · rw [if_neg c] at h
    exact am_lwJ (lo' := [some (.inr (0, 60)), some (.inl l1), some (.inl l2), some (.inl l3), some (.inl (I 0 78 l3.toNatClampNeg))]) ⟨rfl, rfl, rfl, rfl, rfl, trivial⟩ (tX11_goDown_83 hG h)
  · rw [if_pos c] at h
    refine am_aload_n dX11_goDown_77 rfl ?_
    refine am_iload_n dX11_goDown_78 rfl ?_
    refine am_iload_n dX11_goDown_79 rfl ?_
    obtain ⟨q4, hq4, h⟩ := am_bd h
    refine am_callVe (i := 0) (j := 60) (as := [.inl l1, .inl l2]) (rest := []) dX11_goDown_80 lkX11_forget ml_X11_240 imX11_forget seX11_forget rfl rfl (hG.m0 (by decide)) rfl (Nat.le_of_ble_eq_true rfl) rfl (sX11_forget hG hq4) ?_
    exact am_lwJ (lo' := [some (.inr (0, 60)), some (.inl l1), some (.inl l2), some (.inl l3), some (.inl (I 0 78 l3.toNatClampNeg))]) ⟨rfl, rfl, rfl, rfl, rfl, trivial⟩ (tX11_goDown_83 hG h)
def bX11_goDown_55 (n : Nat) (I : am_I) : Option (am_I) := some I
theorem tX11_goDown_55 {G : am_G} (hG : am_okM G) {d : Nat} {I : am_I} {r : am_I} (h : bX11_goDown_55 G.2.2.2.1  I = some r) : am_J G (d + 3) mX11_goDown am_no (am_E none r) 55 [none, none, none, none, none] [] I := by
  unfold bX11_goDown_55 at h
  cases h
  exact am_vret dX11_goDown_55 rfl ⟨rfl, rfl⟩
def bX11_goDown_34 (n : Nat) (l1 : Int32) (l3 : Int32) (I : am_I) : Option (am_I) := am_gd (am_inb l3 544) (am_lt (am_up I 0 80 l3.toNatClampNeg (nI 1)) (fun I2 => am_gd (am_inb l1 4) (if (I2 0 72 l1.toNatClampNeg) = 0 then ((gX11_beginFlush n l1 I2).bind (fun q4 => bX11_goDown_55 n q4)) else (bX11_goDown_55 n I2))))
theorem tX11_goDown_34 {G : am_G} (hG : am_okM G) {d : Nat} {l1 : Int32} {l3 : Int32} {I : am_I} {r : am_I} (h : bX11_goDown_34 G.2.2.2.1 l1 l3  I = some r) : am_J G (d + 3) mX11_goDown am_no (am_E none r) 34 [some (.inr (0, 60)), some (.inl l1), none, some (.inl l3), none] [] I := by
  unfold bX11_goDown_34 at h
  refine am_aload_n dX11_goDown_34 rfl ?_
  refine am_get (v := .inr (0, 80)) dX11_goDown_35 fl_11_60 (hG.m0 (by decide)) rfl ?_
  refine am_iload_n dX11_goDown_38 rfl ?_
  refine am_iconst (v := nI 1) dX11_goDown_39 (by decide) ?_
  obtain ⟨g1, h⟩ := am_gd_some h
  refine am_zastG dX11_goDown_40 (hG.m0 (by decide)) rfl (by decide) g1 (show 544 < 2 ^ 31 by decide) ?_
  obtain ⟨I2, hI2, h⟩ := am_lt_some h
  refine am_st10 hI2 ?_
  refine am_aload_n dX11_goDown_41 rfl ?_
  refine am_get (v := .inr (0, 72)) dX11_goDown_42 fl_11_36 (hG.m0 (by decide)) rfl ?_
  refine am_iload_n dX11_goDown_45 rfl ?_
  obtain ⟨g3, h⟩ := am_gd_some h
  refine am_ialdG dX11_goDown_46 (hG.m0 (by decide)) rfl g3 (show 4 < 2 ^ 31 by decide) ?_
  refine am_if_ne (tgt := 55) dX11_goDown_47 rfl (fun c => ?_) (fun c => ?_)
  · rw [if_neg c] at h
    exact am_lwJ (lo' := [none, none, none, none, none]) trivial (tX11_goDown_55 hG h)
  · rw [if_pos c] at h
    refine am_aload_n dX11_goDown_50 rfl ?_
    refine am_iload_n dX11_goDown_51 rfl ?_
    obtain ⟨q4, hq4, h⟩ := am_bd h
    refine am_callVe (i := 0) (j := 60) (as := [.inl l1]) (rest := []) dX11_goDown_52 lkX11_beginFlush ml_X11_237 imX11_beginFlush seX11_beginFlush rfl rfl (hG.m0 (by decide)) rfl (Nat.le_of_ble_eq_true rfl) rfl (sX11_beginFlush hG hq4) ?_
    exact am_lwJ (lo' := [none, none, none, none, none]) trivial (tX11_goDown_55 hG h)
def bX11_goDown_0 (n : Nat) (l1 : Int32) (l2 : Int32) (I : am_I) : Option (am_I) := (gX11_at n l1 l2 I).bind (fun q1 => am_gd (am_inb q1.1 544) (if (q1.2 0 76 q1.1.toNatClampNeg) = (nI 2) then (am_gd (am_inb l1 4) (if 0 < (q1.2 0 72 l1.toNatClampNeg) then (bX11_goDown_34 n l1 q1.1 q1.2) else (am_gd (am_inb l1 4) (if (q1.2 0 70 l1.toNatClampNeg) ≤ 0 then (bX11_goDown_56 n l1 l2 q1.1 q1.2) else (bX11_goDown_34 n l1 q1.1 q1.2))))) else (bX11_goDown_56 n l1 l2 q1.1 q1.2)))
theorem tX11_goDown_0 {G : am_G} (hG : am_okM G) {d : Nat} {l1 : Int32} {l2 : Int32} {I : am_I} {r : am_I} (h : bX11_goDown_0 G.2.2.2.1 l1 l2  I = some r) : am_J G (d + 3) mX11_goDown am_no (am_E none r) 0 [some (.inr (0, 60)), some (.inl l1), some (.inl l2), none, none] [] I := by
  unfold bX11_goDown_0 at h
  refine am_iload_n dX11_goDown_0 rfl ?_
  refine am_iload_n dX11_goDown_1 rfl ?_
  obtain ⟨q1, hq1, h⟩ := am_bd h
  refine am_callSx (as := [.inl l1, .inl l2]) (rest := []) dX11_goDown_2 lkX11_at ml_X11_208 isX11_at rfl (Nat.le_of_ble_eq_true rfl) rfl (sX11_at hG hq1) ?_
  refine am_istore_n dX11_goDown_5 (by decide) ?_
  refine am_aload_n dX11_goDown_6 rfl ?_
  refine am_get (v := .inr (0, 76)) dX11_goDown_7 fl_11_48 (hG.m0 (by decide)) rfl ?_
  refine am_iload_n dX11_goDown_10 rfl ?_
  obtain ⟨g2, h⟩ := am_gd_some h
  refine am_ialdG dX11_goDown_11 (hG.m0 (by decide)) rfl g2 (show 544 < 2 ^ 31 by decide) ?_
  refine am_iconst (v := nI 2) dX11_goDown_12 (by decide) ?_
  refine am_icmp_ne (tgt := 56) dX11_goDown_13 rfl (fun c => ?_) (fun c => ?_)
  · rw [if_neg c] at h
    exact am_lwJ (lo' := [some (.inr (0, 60)), some (.inl l1), some (.inl l2), some (.inl q1.1), none]) ⟨rfl, rfl, rfl, rfl, trivial⟩ (tX11_goDown_56 hG h)
  · rw [if_pos c] at h
    refine am_aload_n dX11_goDown_16 rfl ?_
    refine am_get (v := .inr (0, 72)) dX11_goDown_17 fl_11_36 (hG.m0 (by decide)) rfl ?_
    refine am_iload_n dX11_goDown_20 rfl ?_
    obtain ⟨g3, h⟩ := am_gd_some h
    refine am_ialdG dX11_goDown_21 (hG.m0 (by decide)) rfl g3 (show 4 < 2 ^ 31 by decide) ?_
    refine am_if_gt (tgt := 34) dX11_goDown_22 rfl (fun c => ?_) (fun c => ?_)
    · rw [if_pos c] at h
      exact am_lwJ (lo' := [some (.inr (0, 60)), some (.inl l1), none, some (.inl q1.1), none]) ⟨rfl, rfl, rfl, trivial⟩ (tX11_goDown_34 hG h)
    · rw [if_neg c] at h
      refine am_aload_n dX11_goDown_25 rfl ?_
      refine am_get (v := .inr (0, 70)) dX11_goDown_26 fl_11_30 (hG.m0 (by decide)) rfl ?_
      refine am_iload_n dX11_goDown_29 rfl ?_
      obtain ⟨g4, h⟩ := am_gd_some h
      refine am_ialdG dX11_goDown_30 (hG.m0 (by decide)) rfl g4 (show 4 < 2 ^ 31 by decide) ?_
      refine am_if_le (tgt := 56) dX11_goDown_31 rfl (fun c => ?_) (fun c => ?_)
      · rw [if_pos c] at h
        exact am_lwJ (lo' := [some (.inr (0, 60)), some (.inl l1), some (.inl l2), some (.inl q1.1), none]) ⟨rfl, rfl, rfl, rfl, trivial⟩ (tX11_goDown_56 hG h)
      · rw [if_neg c] at h
        exact am_lwJ (lo' := [some (.inr (0, 60)), some (.inl l1), none, some (.inl q1.1), none]) ⟨rfl, rfl, rfl, trivial⟩ (tX11_goDown_34 hG h)
def gX11_goDown (n : Nat) (l1 : Int32) (l2 : Int32) (I : am_I) : Option (am_I) := bX11_goDown_0 n l1 l2 I
theorem sX11_goDown {G : am_G} (hG : am_okM G) {d : Nat} {l1 : Int32} {l2 : Int32} {I : am_I} {r : am_I} (h : gX11_goDown G.2.2.2.1 l1 l2 I = some r) : am_C G (d + 3) mX11_goDown [.inr (0, 60), .inl l1, .inl l2] I (am_E none r) :=
  am_of (by decide +kernel) hG.nd (Nat.le_of_ble_eq_true rfl) (am_lwJ (lo' := [some (.inr (0, 60)), some (.inl l1), some (.inl l2), none, none]) ⟨rfl, rfl, rfl, trivial⟩ (tX11_goDown_0 hG h))
def bX11_unpin_51 (n : Nat) (k2 : Int32 → Int32 → am_I → Option (am_I)) (l1 : Int32) (l2 : Int32) (I : am_I) : Option (am_I) := k2 l1 (l2 + nI 1) I
theorem tX11_unpin_51 {G : am_G} (hG : am_okM G) {d : Nat} {k2 : Int32 → Int32 → am_I → Option (am_I)} (hk2 : ∀ (l1 : Int32) (l2 : Int32) (I : am_I) (r : am_I), k2 l1 l2 I = some r → am_J G (d + 4) mX11_unpin am_no (am_E none r) 2 [some (.inr (0, 60)), some (.inl l1), some (.inl l2), none, none] [] I) {l1 : Int32} {l2 : Int32} {I : am_I} {r : am_I} (h : bX11_unpin_51 G.2.2.2.1 k2 l1 l2  I = some r) : am_J G (d + 4) mX11_unpin am_no (am_E none r) 51 [some (.inr (0, 60)), some (.inl l1), some (.inl l2), none, none] [] I := by
  unfold bX11_unpin_51 at h
  refine am_iinc (v := l2 + nI 1) dX11_unpin_51 rfl rfl ?_
  refine am_goto (tgt := 2) dX11_unpin_54 rfl ?_
  exact am_lwJ (lo' := [some (.inr (0, 60)), some (.inl l1), some (.inl (l2 + nI 1)), none, none]) ⟨rfl, rfl, rfl, trivial⟩ (hk2 l1 (l2 + nI 1) _ _ h)
def bX11_unpin_2 (n : Nat) : Nat → Int32 → Int32 → am_I → Option (am_I)
  | 0, _, _, _ => none
  | fu + 1, l1, l2, I => (fun k2 => if (nI 136) ≤ l2 then (some I) else ((gX11_at n l1 l2 I).bind (fun q1 => am_gd (am_inb q1.1 544) (am_gd (am_inb q1.1 544) (am_lt (am_up q1.2 0 79 q1.1.toNatClampNeg (nI 0)) (fun I4 => if (q1.2 0 79 q1.1.toNatClampNeg) = 0 then (bX11_unpin_51 n k2 l1 l2 I4) else (am_gd (am_inb q1.1 544) (if (I4 0 78 q1.1.toNatClampNeg) = (-1 : Int32) then (bX11_unpin_51 n k2 l1 l2 I4) else ((gX11_goDown n l1 l2 I4).bind (fun q6 => bX11_unpin_51 n k2 l1 l2 q6)))))))))) (bX11_unpin_2 n fu)
theorem tX11_unpin_2 {G : am_G} (hG : am_okM G) {d : Nat} : ∀ {fu : Nat} {l1 : Int32} {l2 : Int32} {I : am_I} {r : am_I}, bX11_unpin_2 G.2.2.2.1 fu l1 l2 I = some r → am_J G (d + 4) mX11_unpin am_no (am_E none r) 2 [some (.inr (0, 60)), some (.inl l1), some (.inl l2), none, none] [] I := by
  intro fu
  induction fu with
  | zero => intro l1 l2 I r h; cases h
  | succ fu ih =>
    intro l1 l2 I r h
    have hk2 : ∀ (l1 : Int32) (l2 : Int32) (I : am_I) (r : am_I), bX11_unpin_2 G.2.2.2.1 fu l1 l2 I = some r → am_J G (d + 4) mX11_unpin am_no (am_E none r) 2 [some (.inr (0, 60)), some (.inl l1), some (.inl l2), none, none] [] I := fun l1 l2 I r h => ih h
    unfold bX11_unpin_2 at h
    generalize bX11_unpin_2 G.2.2.2.1 fu = k2 at hk2 h
    dsimp only at h
    refine am_iload_n dX11_unpin_2 rfl ?_
    refine am_sipush (v := nI 136) dX11_unpin_3 (by decide) ?_
    refine am_icmp_ge (tgt := 57) dX11_unpin_6 rfl (fun c => ?_) (fun c => ?_)
    · rw [if_pos c] at h
      cases h
      exact am_vret dX11_unpin_57 rfl ⟨rfl, rfl⟩
    · rw [if_neg c] at h
      refine am_iload_n dX11_unpin_9 rfl ?_
      refine am_iload_n dX11_unpin_10 rfl ?_
      obtain ⟨q1, hq1, h⟩ := am_bd h
      refine am_callSx (as := [.inl l1, .inl l2]) (rest := []) dX11_unpin_11 lkX11_at ml_X11_208 isX11_at rfl (Nat.le_of_ble_eq_true rfl) rfl (sX11_at hG hq1) ?_
      refine am_istore_n dX11_unpin_14 (by decide) ?_
      refine am_aload_n dX11_unpin_15 rfl ?_
      refine am_get (v := .inr (0, 79)) dX11_unpin_16 fl_11_57 (hG.m0 (by decide)) rfl ?_
      refine am_iload_n dX11_unpin_19 rfl ?_
      obtain ⟨g2, h⟩ := am_gd_some h
      refine am_zaldG dX11_unpin_20 (hG.m0 (by decide)) rfl g2 (show 544 < 2 ^ 31 by decide) ?_
      refine am_istore dX11_unpin_21 (by decide) ?_
      refine am_aload_n dX11_unpin_23 rfl ?_
      refine am_get (v := .inr (0, 79)) dX11_unpin_24 fl_11_57 (hG.m0 (by decide)) rfl ?_
      refine am_iload_n dX11_unpin_27 rfl ?_
      refine am_iconst (v := nI 0) dX11_unpin_28 (by decide) ?_
      obtain ⟨g3, h⟩ := am_gd_some h
      refine am_zastG dX11_unpin_29 (hG.m0 (by decide)) rfl (by decide) g3 (show 544 < 2 ^ 31 by decide) ?_
      obtain ⟨I4, hI4, h⟩ := am_lt_some h
      refine am_st10 hI4 ?_
      refine am_iload dX11_unpin_30 rfl ?_
      refine am_if_eq (tgt := 51) dX11_unpin_32 rfl (fun c => ?_) (fun c => ?_)
      · rw [if_pos c] at h
        exact am_lwJ (lo' := [some (.inr (0, 60)), some (.inl l1), some (.inl l2), none, none]) ⟨rfl, rfl, rfl, trivial⟩ (tX11_unpin_51 hG hk2 h)
      · rw [if_neg c] at h
        refine am_aload_n dX11_unpin_35 rfl ?_
        refine am_get (v := .inr (0, 78)) dX11_unpin_36 fl_11_54 (hG.m0 (by decide)) rfl ?_
        refine am_iload_n dX11_unpin_39 rfl ?_
        obtain ⟨g5, h⟩ := am_gd_some h
        refine am_ialdG dX11_unpin_40 (hG.m0 (by decide)) rfl g5 (show 544 < 2 ^ 31 by decide) ?_
        refine am_iconst (v := (-1 : Int32)) dX11_unpin_41 (by decide) ?_
        refine am_icmp_eq (tgt := 51) dX11_unpin_42 rfl (fun c => ?_) (fun c => ?_)
        · rw [if_pos c] at h
          exact am_lwJ (lo' := [some (.inr (0, 60)), some (.inl l1), some (.inl l2), none, none]) ⟨rfl, rfl, rfl, trivial⟩ (tX11_unpin_51 hG hk2 h)
        · rw [if_neg c] at h
          refine am_aload_n dX11_unpin_45 rfl ?_
          refine am_iload_n dX11_unpin_46 rfl ?_
          refine am_iload_n dX11_unpin_47 rfl ?_
          obtain ⟨q6, hq6, h⟩ := am_bd h
          refine am_callVe (i := 0) (j := 60) (as := [.inl l1, .inl l2]) (rest := []) dX11_unpin_48 lkX11_goDown ml_X11_233 imX11_goDown seX11_goDown rfl rfl (hG.m0 (by decide)) rfl (Nat.le_of_ble_eq_true rfl) rfl (sX11_goDown hG hq6) ?_
          exact am_lwJ (lo' := [some (.inr (0, 60)), some (.inl l1), some (.inl l2), none, none]) ⟨rfl, rfl, rfl, trivial⟩ (tX11_unpin_51 hG hk2 h)
def bX11_unpin_0 (n : Nat) (l1 : Int32) (I : am_I) : Option (am_I) := bX11_unpin_2 n am_fu l1 (nI 0) I
theorem tX11_unpin_0 {G : am_G} (hG : am_okM G) {d : Nat} {l1 : Int32} {I : am_I} {r : am_I} (h : bX11_unpin_0 G.2.2.2.1 l1  I = some r) : am_J G (d + 4) mX11_unpin am_no (am_E none r) 0 [some (.inr (0, 60)), some (.inl l1), none, none, none] [] I := by
  unfold bX11_unpin_0 at h
  refine am_iconst (v := nI 0) dX11_unpin_0 (by decide) ?_
  refine am_istore_n dX11_unpin_1 (by decide) ?_
  exact am_lwJ (lo' := [some (.inr (0, 60)), some (.inl l1), some (.inl (nI 0)), none, none]) ⟨rfl, rfl, rfl, trivial⟩ (tX11_unpin_2 hG h)
def gX11_unpin (n : Nat) (l1 : Int32) (I : am_I) : Option (am_I) := bX11_unpin_0 n l1 I
theorem sX11_unpin {G : am_G} (hG : am_okM G) {d : Nat} {l1 : Int32} {I : am_I} {r : am_I} (h : gX11_unpin G.2.2.2.1 l1 I = some r) : am_C G (d + 4) mX11_unpin [.inr (0, 60), .inl l1] I (am_E none r) :=
  am_of (by decide +kernel) hG.nd (Nat.le_of_ble_eq_true rfl) (am_lwJ (lo' := [some (.inr (0, 60)), some (.inl l1), none, none, none]) ⟨rfl, rfl, trivial⟩ (tX11_unpin_0 hG h))
def bX11_end_0 (n : Nat) (l1 : Int32) (l2 : Int32) (l3 : Int32) (I : am_I) : Option (am_I) := am_gd (am_inb l1 4) (am_lt (am_up I 0 87 l1.toNatClampNeg l2) (fun I2 => am_gd (am_inb l1 4) (am_lt (am_up I2 0 88 l1.toNatClampNeg l3) (fun I4 => am_gd (am_inb l1 4) (am_gd (am_inb l1 4) (am_lt (am_up I4 0 90 l1.toNatClampNeg ((I4 0 60 2) - (I4 0 89 l1.toNatClampNeg))) (fun I7 => am_lt (am_up I7 0 60 49 ((I7 0 60 49) + (nI 1))) (fun I8 => (gX11_unpin n l1 I8).bind (fun q9 => some q9)))))))))
theorem tX11_end_0 {G : am_G} (hG : am_okM G) {d : Nat} {l1 : Int32} {l2 : Int32} {l3 : Int32} {I : am_I} {r : am_I} (h : bX11_end_0 G.2.2.2.1 l1 l2 l3  I = some r) : am_J G (d + 5) mX11_end am_no (am_E none r) 0 [some (.inr (0, 60)), some (.inl l1), some (.inl l2), some (.inl l3)] [] I := by
  unfold bX11_end_0 at h
  refine am_aload_n dX11_end_0 rfl ?_
  refine am_get (v := .inr (0, 87)) dX11_end_1 fl_11_81 (hG.m0 (by decide)) rfl ?_
  refine am_iload_n dX11_end_4 rfl ?_
  refine am_iload_n dX11_end_5 rfl ?_
  obtain ⟨g1, h⟩ := am_gd_some h
  refine am_iastG dX11_end_6 (hG.m0 (by decide)) rfl g1 (show 4 < 2 ^ 31 by decide) ?_
  obtain ⟨I2, hI2, h⟩ := am_lt_some h
  refine am_st10 hI2 ?_
  refine am_aload_n dX11_end_7 rfl ?_
  refine am_get (v := .inr (0, 88)) dX11_end_8 fl_11_84 (hG.m0 (by decide)) rfl ?_
  refine am_iload_n dX11_end_11 rfl ?_
  refine am_iload_n dX11_end_12 rfl ?_
  obtain ⟨g3, h⟩ := am_gd_some h
  refine am_iastG dX11_end_13 (hG.m0 (by decide)) rfl g3 (show 4 < 2 ^ 31 by decide) ?_
  obtain ⟨I4, hI4, h⟩ := am_lt_some h
  refine am_st10 hI4 ?_
  refine am_aload_n dX11_end_14 rfl ?_
  refine am_get (v := .inr (0, 90)) dX11_end_15 fl_11_90 (hG.m0 (by decide)) rfl ?_
  refine am_iload_n dX11_end_18 rfl ?_
  refine am_aload_n dX11_end_19 rfl ?_
  refine am_get (v := .inl (I4 0 60 2)) dX11_end_20 fl_11_194 (hG.m0 (by decide)) rfl ?_
  refine am_aload_n dX11_end_23 rfl ?_
  refine am_get (v := .inr (0, 89)) dX11_end_24 fl_11_87 (hG.m0 (by decide)) rfl ?_
  refine am_iload_n dX11_end_27 rfl ?_
  obtain ⟨g5, h⟩ := am_gd_some h
  refine am_ialdG dX11_end_28 (hG.m0 (by decide)) rfl g5 (show 4 < 2 ^ 31 by decide) ?_
  refine am_isub dX11_end_29 ?_
  obtain ⟨g6, h⟩ := am_gd_some h
  refine am_iastG dX11_end_30 (hG.m0 (by decide)) rfl g6 (show 4 < 2 ^ 31 by decide) ?_
  obtain ⟨I7, hI7, h⟩ := am_lt_some h
  refine am_st10 hI7 ?_
  refine am_aload_n dX11_end_31 rfl ?_
  refine am_dup dX11_end_32 ?_
  refine am_get (v := .inl (I7 0 60 49)) dX11_end_33 fl_11_268 (hG.m0 (by decide)) rfl ?_
  refine am_iconst (v := nI 1) dX11_end_36 (by decide) ?_
  refine am_iadd dX11_end_37 ?_
  refine am_put (x := (I7 0 60 49) + (nI 1)) dX11_end_38 fp_11_268 (hG.m0 (by decide)) (Nat.le_of_ble_eq_true rfl) rfl ?_
  obtain ⟨I8, hI8, h⟩ := am_lt_some h
  refine am_st10 hI8 ?_
  refine am_aload_n dX11_end_41 rfl ?_
  refine am_iload_n dX11_end_42 rfl ?_
  obtain ⟨q9, hq9, h⟩ := am_bd h
  refine am_callVe (i := 0) (j := 60) (as := [.inl l1]) (rest := []) dX11_end_43 lkX11_unpin ml_X11_271 imX11_unpin seX11_unpin rfl rfl (hG.m0 (by decide)) rfl (Nat.le_of_ble_eq_true rfl) rfl (sX11_unpin hG hq9) ?_
  cases h
  exact am_vret dX11_end_46 rfl ⟨rfl, rfl⟩
def gX11_end (n : Nat) (l1 : Int32) (l2 : Int32) (l3 : Int32) (I : am_I) : Option (am_I) := bX11_end_0 n l1 l2 l3 I
theorem sX11_end {G : am_G} (hG : am_okM G) {d : Nat} {l1 : Int32} {l2 : Int32} {l3 : Int32} {I : am_I} {r : am_I} (h : gX11_end G.2.2.2.1 l1 l2 l3 I = some r) : am_C G (d + 5) mX11_end [.inr (0, 60), .inl l1, .inl l2, .inl l3] I (am_E none r) :=
  am_of (by decide +kernel) hG.nd (Nat.le_of_ble_eq_true rfl) (am_lwJ (lo' := [some (.inr (0, 60)), some (.inl l1), some (.inl l2), some (.inl l3)]) ⟨rfl, rfl, rfl, rfl, trivial⟩ (tX11_end_0 hG h))
def bX11_goOnSync_60 (n : Nat) (I : am_I) : Option (am_I) := some I
theorem tX11_goOnSync_60 {G : am_G} (hG : am_okM G) {d : Nat} {I : am_I} {r : am_I} (h : bX11_goOnSync_60 G.2.2.2.1  I = some r) : am_J G (d + 6) mX11_goOnSync am_no (am_E none r) 60 [none, none] [] I := by
  unfold bX11_goOnSync_60 at h
  cases h
  exact am_vret dX11_goOnSync_60 rfl ⟨rfl, rfl⟩
def bX11_goOnSync_46 (n : Nat) (l1 : Int32) (I : am_I) : Option (am_I) := am_gd (am_inb l1 4) (if (I 0 72 l1.toNatClampNeg) = 0 then ((gX11_beginFlush n l1 I).bind (fun q2 => bX11_goOnSync_60 n q2)) else (bX11_goOnSync_60 n I))
theorem tX11_goOnSync_46 {G : am_G} (hG : am_okM G) {d : Nat} {l1 : Int32} {I : am_I} {r : am_I} (h : bX11_goOnSync_46 G.2.2.2.1 l1  I = some r) : am_J G (d + 6) mX11_goOnSync am_no (am_E none r) 46 [some (.inr (0, 60)), some (.inl l1)] [] I := by
  unfold bX11_goOnSync_46 at h
  refine am_aload_n dX11_goOnSync_46 rfl ?_
  refine am_get (v := .inr (0, 72)) dX11_goOnSync_47 fl_11_36 (hG.m0 (by decide)) rfl ?_
  refine am_iload_n dX11_goOnSync_50 rfl ?_
  obtain ⟨g1, h⟩ := am_gd_some h
  refine am_ialdG dX11_goOnSync_51 (hG.m0 (by decide)) rfl g1 (show 4 < 2 ^ 31 by decide) ?_
  refine am_if_ne (tgt := 60) dX11_goOnSync_52 rfl (fun c => ?_) (fun c => ?_)
  · rw [if_neg c] at h
    exact am_lwJ (lo' := [none, none]) trivial (tX11_goOnSync_60 hG h)
  · rw [if_pos c] at h
    refine am_aload_n dX11_goOnSync_55 rfl ?_
    refine am_iload_n dX11_goOnSync_56 rfl ?_
    obtain ⟨q2, hq2, h⟩ := am_bd h
    refine am_callVe (i := 0) (j := 60) (as := [.inl l1]) (rest := []) dX11_goOnSync_57 lkX11_beginFlush ml_X11_237 imX11_beginFlush seX11_beginFlush rfl rfl (hG.m0 (by decide)) rfl (Nat.le_of_ble_eq_true rfl) rfl (sX11_beginFlush hG hq2) ?_
    exact am_lwJ (lo' := [none, none]) trivial (tX11_goOnSync_60 hG h)
def bX11_goOnSync_0 (n : Nat) (l1 : Int32) (I : am_I) : Option (am_I) := am_gd (am_inb l1 4) (if (I 0 72 l1.toNatClampNeg) = 0 then (am_gd (am_inb l1 4) (if (I 0 70 l1.toNatClampNeg) = 0 then (am_gd (am_inb l1 4) (am_gd (am_inb l1 4) (am_lt (am_up I 0 91 l1.toNatClampNeg ((I 0 91 l1.toNatClampNeg) + (nI 1))) (fun I5 => (gX11_note n l1 (nI 2) (nI 0) (nI 0) I5).bind (fun q6 => (gX11_end n l1 (nI 2) (nI 0) q6).bind (fun q7 => bX11_goOnSync_60 n q7)))))) else (bX11_goOnSync_46 n l1 I))) else (bX11_goOnSync_46 n l1 I))
theorem tX11_goOnSync_0 {G : am_G} (hG : am_okM G) {d : Nat} {l1 : Int32} {I : am_I} {r : am_I} (h : bX11_goOnSync_0 G.2.2.2.1 l1  I = some r) : am_J G (d + 6) mX11_goOnSync am_no (am_E none r) 0 [some (.inr (0, 60)), some (.inl l1)] [] I := by
  unfold bX11_goOnSync_0 at h
  refine am_aload_n dX11_goOnSync_0 rfl ?_
  refine am_get (v := .inr (0, 72)) dX11_goOnSync_1 fl_11_36 (hG.m0 (by decide)) rfl ?_
  refine am_iload_n dX11_goOnSync_4 rfl ?_
  obtain ⟨g1, h⟩ := am_gd_some h
  refine am_ialdG dX11_goOnSync_5 (hG.m0 (by decide)) rfl g1 (show 4 < 2 ^ 31 by decide) ?_
  refine am_if_ne (tgt := 46) dX11_goOnSync_6 rfl (fun c => ?_) (fun c => ?_)
  · rw [if_neg c] at h
    exact am_lwJ (lo' := [some (.inr (0, 60)), some (.inl l1)]) ⟨rfl, rfl, trivial⟩ (tX11_goOnSync_46 hG h)
  · rw [if_pos c] at h
    refine am_aload_n dX11_goOnSync_9 rfl ?_
    refine am_get (v := .inr (0, 70)) dX11_goOnSync_10 fl_11_30 (hG.m0 (by decide)) rfl ?_
    refine am_iload_n dX11_goOnSync_13 rfl ?_
    obtain ⟨g2, h⟩ := am_gd_some h
    refine am_ialdG dX11_goOnSync_14 (hG.m0 (by decide)) rfl g2 (show 4 < 2 ^ 31 by decide) ?_
    refine am_if_ne (tgt := 46) dX11_goOnSync_15 rfl (fun c => ?_) (fun c => ?_)
    · rw [if_neg c] at h
      exact am_lwJ (lo' := [some (.inr (0, 60)), some (.inl l1)]) ⟨rfl, rfl, trivial⟩ (tX11_goOnSync_46 hG h)
    · rw [if_pos c] at h
      refine am_aload_n dX11_goOnSync_18 rfl ?_
      refine am_get (v := .inr (0, 91)) dX11_goOnSync_19 fl_11_93 (hG.m0 (by decide)) rfl ?_
      refine am_iload_n dX11_goOnSync_22 rfl ?_
      refine am_dup2 dX11_goOnSync_23 ?_
      obtain ⟨g3, h⟩ := am_gd_some h
      refine am_ialdG dX11_goOnSync_24 (hG.m0 (by decide)) rfl g3 (show 4 < 2 ^ 31 by decide) ?_
      refine am_iconst (v := nI 1) dX11_goOnSync_25 (by decide) ?_
      refine am_iadd dX11_goOnSync_26 ?_
      obtain ⟨g4, h⟩ := am_gd_some h
      refine am_iastG dX11_goOnSync_27 (hG.m0 (by decide)) rfl g4 (show 4 < 2 ^ 31 by decide) ?_
      obtain ⟨I5, hI5, h⟩ := am_lt_some h
      refine am_st10 hI5 ?_
      refine am_aload_n dX11_goOnSync_28 rfl ?_
      refine am_iload_n dX11_goOnSync_29 rfl ?_
      refine am_iconst (v := nI 2) dX11_goOnSync_30 (by decide) ?_
      refine am_iconst (v := nI 0) dX11_goOnSync_31 (by decide) ?_
      refine am_iconst (v := nI 0) dX11_goOnSync_32 (by decide) ?_
      obtain ⟨q6, hq6, h⟩ := am_bd h
      refine am_callVe (i := 0) (j := 60) (as := [.inl l1, .inl (nI 2), .inl (nI 0), .inl (nI 0)]) (rest := []) dX11_goOnSync_33 lkX11_note ml_X11_286 imX11_note seX11_note rfl rfl (hG.m0 (by decide)) rfl (Nat.le_of_ble_eq_true rfl) rfl (sX11_note hG hq6) ?_
      refine am_aload_n dX11_goOnSync_36 rfl ?_
      refine am_iload_n dX11_goOnSync_37 rfl ?_
      refine am_iconst (v := nI 2) dX11_goOnSync_38 (by decide) ?_
      refine am_iconst (v := nI 0) dX11_goOnSync_39 (by decide) ?_
      obtain ⟨q7, hq7, h⟩ := am_bd h
      refine am_callVe (i := 0) (j := 60) (as := [.inl l1, .inl (nI 2), .inl (nI 0)]) (rest := []) dX11_goOnSync_40 lkX11_end ml_X11_289 imX11_end seX11_end rfl rfl (hG.m0 (by decide)) rfl (Nat.le_of_ble_eq_true rfl) rfl (sX11_end hG hq7) ?_
      refine am_goto (tgt := 60) dX11_goOnSync_43 rfl ?_
      exact am_lwJ (lo' := [none, none]) trivial (tX11_goOnSync_60 hG h)
def gX11_goOnSync (n : Nat) (l1 : Int32) (I : am_I) : Option (am_I) := bX11_goOnSync_0 n l1 I
theorem sX11_goOnSync {G : am_G} (hG : am_okM G) {d : Nat} {l1 : Int32} {I : am_I} {r : am_I} (h : gX11_goOnSync G.2.2.2.1 l1 I = some r) : am_C G (d + 6) mX11_goOnSync [.inr (0, 60), .inl l1] I (am_E none r) :=
  am_of (by decide +kernel) hG.nd (Nat.le_of_ble_eq_true rfl) (am_lwJ (lo' := [some (.inr (0, 60)), some (.inl l1)]) ⟨rfl, rfl, trivial⟩ (tX11_goOnSync_0 hG h))
def bX11_pinAll_119 (n : Nat) (k2 : Int32 → Int32 → am_I → Option (Int32 × am_I)) (l1 : Int32) (l2 : Int32) (I : am_I) : Option (Int32 × am_I) := k2 l1 (l2 + nI 1) I
theorem tX11_pinAll_119 {G : am_G} (hG : am_okM G) {d : Nat} {k2 : Int32 → Int32 → am_I → Option (Int32 × am_I)} (hk2 : ∀ (l1 : Int32) (l2 : Int32) (I : am_I) (r : Int32 × am_I), k2 l1 l2 I = some r → am_J G (d + 1) mX11_pinAll am_no (am_E (some r.1) r.2) 2 [some (.inr (0, 60)), some (.inl l1), some (.inl l2), none] [] I) {l1 : Int32} {l2 : Int32} {I : am_I} {r : Int32 × am_I} (h : bX11_pinAll_119 G.2.2.2.1 k2 l1 l2  I = some r) : am_J G (d + 1) mX11_pinAll am_no (am_E (some r.1) r.2) 119 [some (.inr (0, 60)), some (.inl l1), some (.inl l2), none] [] I := by
  unfold bX11_pinAll_119 at h
  refine am_iinc (v := l2 + nI 1) dX11_pinAll_119 rfl rfl ?_
  refine am_goto (tgt := 2) dX11_pinAll_122 rfl ?_
  exact am_lwJ (lo' := [some (.inr (0, 60)), some (.inl l1), some (.inl (l2 + nI 1)), none]) ⟨rfl, rfl, rfl, trivial⟩ (hk2 l1 (l2 + nI 1) _ _ h)
def bX11_pinAll_110 (n : Nat) (I : am_I) : Option (Int32 × am_I) := some (nI 0, I)
theorem tX11_pinAll_110 {G : am_G} (hG : am_okM G) {d : Nat} {I : am_I} {r : Int32 × am_I} (h : bX11_pinAll_110 G.2.2.2.1  I = some r) : am_J G (d + 1) mX11_pinAll am_no (am_E (some r.1) r.2) 110 [none, none, none, none] [] I := by
  unfold bX11_pinAll_110 at h
  refine am_iconst (v := nI 0) dX11_pinAll_110 (by decide) ?_
  cases h
  exact am_iret dX11_pinAll_111 rfl (am_nz (by decide)).1 ⟨rfl, rfl⟩
def bX11_pinAll_61 (n : Nat) (l1 : Int32) (l2 : Int32) (l3 : Int32) (I : am_I) : Option (Int32 × am_I) := am_gd (am_inb l3 544) (if (I 0 78 l3.toNatClampNeg) = (-1 : Int32) then (am_gd (am_inb l3 544) (if (I 0 77 l3.toNatClampNeg) = 0 then (am_gd (am_inb l3 544) (am_gd (am_inb l3 544) (am_lt (am_up I 0 77 l3.toNatClampNeg (I 0 81 l3.toNatClampNeg)) (fun I5 => (gX11_masterOf n l2 I5).bind (fun q6 => am_gd (am_inb l3 544) ((gX11_send n l1 q6.1 (nI 0) l2 (q6.2 0 81 l3.toNatClampNeg) q6.2).bind (fun q8 => bX11_pinAll_110 n q8))))))) else (bX11_pinAll_110 n I))) else (bX11_pinAll_110 n I))
theorem tX11_pinAll_61 {G : am_G} (hG : am_okM G) {d : Nat} {l1 : Int32} {l2 : Int32} {l3 : Int32} {I : am_I} {r : Int32 × am_I} (h : bX11_pinAll_61 G.2.2.2.1 l1 l2 l3  I = some r) : am_J G (d + 1) mX11_pinAll am_no (am_E (some r.1) r.2) 61 [some (.inr (0, 60)), some (.inl l1), some (.inl l2), some (.inl l3)] [] I := by
  unfold bX11_pinAll_61 at h
  refine am_aload_n dX11_pinAll_61 rfl ?_
  refine am_get (v := .inr (0, 78)) dX11_pinAll_62 fl_11_54 (hG.m0 (by decide)) rfl ?_
  refine am_iload_n dX11_pinAll_65 rfl ?_
  obtain ⟨g1, h⟩ := am_gd_some h
  refine am_ialdG dX11_pinAll_66 (hG.m0 (by decide)) rfl g1 (show 544 < 2 ^ 31 by decide) ?_
  refine am_iconst (v := (-1 : Int32)) dX11_pinAll_67 (by decide) ?_
  refine am_icmp_ne (tgt := 110) dX11_pinAll_68 rfl (fun c => ?_) (fun c => ?_)
  · rw [if_neg c] at h
    exact am_lwJ (lo' := [none, none, none, none]) trivial (tX11_pinAll_110 hG h)
  · rw [if_pos c] at h
    refine am_aload_n dX11_pinAll_71 rfl ?_
    refine am_get (v := .inr (0, 77)) dX11_pinAll_72 fl_11_51 (hG.m0 (by decide)) rfl ?_
    refine am_iload_n dX11_pinAll_75 rfl ?_
    obtain ⟨g2, h⟩ := am_gd_some h
    refine am_ialdG dX11_pinAll_76 (hG.m0 (by decide)) rfl g2 (show 544 < 2 ^ 31 by decide) ?_
    refine am_if_ne (tgt := 110) dX11_pinAll_77 rfl (fun c => ?_) (fun c => ?_)
    · rw [if_neg c] at h
      exact am_lwJ (lo' := [none, none, none, none]) trivial (tX11_pinAll_110 hG h)
    · rw [if_pos c] at h
      refine am_aload_n dX11_pinAll_80 rfl ?_
      refine am_get (v := .inr (0, 77)) dX11_pinAll_81 fl_11_51 (hG.m0 (by decide)) rfl ?_
      refine am_iload_n dX11_pinAll_84 rfl ?_
      refine am_aload_n dX11_pinAll_85 rfl ?_
      refine am_get (v := .inr (0, 81)) dX11_pinAll_86 fl_11_63 (hG.m0 (by decide)) rfl ?_
      refine am_iload_n dX11_pinAll_89 rfl ?_
      obtain ⟨g3, h⟩ := am_gd_some h
      refine am_ialdG dX11_pinAll_90 (hG.m0 (by decide)) rfl g3 (show 544 < 2 ^ 31 by decide) ?_
      obtain ⟨g4, h⟩ := am_gd_some h
      refine am_iastG dX11_pinAll_91 (hG.m0 (by decide)) rfl g4 (show 544 < 2 ^ 31 by decide) ?_
      obtain ⟨I5, hI5, h⟩ := am_lt_some h
      refine am_st10 hI5 ?_
      refine am_aload_n dX11_pinAll_92 rfl ?_
      refine am_iload_n dX11_pinAll_93 rfl ?_
      refine am_aload_n dX11_pinAll_94 rfl ?_
      refine am_iload_n dX11_pinAll_95 rfl ?_
      obtain ⟨q6, hq6, h⟩ := am_bd h
      refine am_callVx (i := 0) (j := 60) (as := [.inl l2]) (rest := [.inl l1, .inr (0, 60)]) dX11_pinAll_96 lkX11_masterOf ml_X11_226 imX11_masterOf seX11_masterOf rfl rfl (hG.m0 (by decide)) rfl (Nat.le_of_ble_eq_true rfl) rfl (sX11_masterOf hG hq6) ?_
      refine am_iconst (v := nI 0) dX11_pinAll_99 (by decide) ?_
      refine am_iload_n dX11_pinAll_100 rfl ?_
      refine am_aload_n dX11_pinAll_101 rfl ?_
      refine am_get (v := .inr (0, 81)) dX11_pinAll_102 fl_11_63 (hG.m0 (by decide)) rfl ?_
      refine am_iload_n dX11_pinAll_105 rfl ?_
      obtain ⟨g7, h⟩ := am_gd_some h
      refine am_ialdG dX11_pinAll_106 (hG.m0 (by decide)) rfl g7 (show 544 < 2 ^ 31 by decide) ?_
      obtain ⟨q8, hq8, h⟩ := am_bd h
      refine am_callVe (i := 0) (j := 60) (as := [.inl l1, .inl q6.1, .inl (nI 0), .inl l2, .inl (q6.2 0 81 l3.toNatClampNeg)]) (rest := []) dX11_pinAll_107 lkX11_send ml_X11_229 imX11_send seX11_send rfl rfl (hG.m0 (by decide)) rfl (Nat.le_of_ble_eq_true rfl) rfl (sX11_send hG hq8) ?_
      exact am_lwJ (lo' := [none, none, none, none]) trivial (tX11_pinAll_110 hG h)
def bX11_pinAll_2 (n : Nat) : Nat → Int32 → Int32 → am_I → Option (Int32 × am_I)
  | 0, _, _, _ => none
  | fu + 1, l1, l2, I => (fun k2 => if (nI 136) ≤ l2 then (some (nI 1, I)) else ((gX11_at n l1 l2 I).bind (fun q1 => am_gd (am_inb q1.1 544) (if (q1.2 0 81 q1.1.toNatClampNeg) = 0 then (bX11_pinAll_119 n k2 l1 l2 q1.2) else (am_gd (am_inb q1.1 544) (if (q1.2 0 79 q1.1.toNatClampNeg) = 0 then (am_gd (am_inb q1.1 544) (am_gd (am_inb q1.1 544) (if (q1.2 0 76 q1.1.toNatClampNeg) < (q1.2 0 81 q1.1.toNatClampNeg) then (bX11_pinAll_61 n l1 l2 q1.1 q1.2) else (am_gd (am_inb q1.1 544) (if (q1.2 0 78 q1.1.toNatClampNeg) = (-1 : Int32) then (am_gd (am_inb q1.1 544) (am_lt (am_up q1.2 0 79 q1.1.toNatClampNeg (nI 1)) (fun I8 => bX11_pinAll_119 n k2 l1 l2 I8))) else (bX11_pinAll_61 n l1 l2 q1.1 q1.2)))))) else (bX11_pinAll_119 n k2 l1 l2 q1.2))))))) (bX11_pinAll_2 n fu)
theorem tX11_pinAll_2 {G : am_G} (hG : am_okM G) {d : Nat} : ∀ {fu : Nat} {l1 : Int32} {l2 : Int32} {I : am_I} {r : Int32 × am_I}, bX11_pinAll_2 G.2.2.2.1 fu l1 l2 I = some r → am_J G (d + 1) mX11_pinAll am_no (am_E (some r.1) r.2) 2 [some (.inr (0, 60)), some (.inl l1), some (.inl l2), none] [] I := by
  intro fu
  induction fu with
  | zero => intro l1 l2 I r h; cases h
  | succ fu ih =>
    intro l1 l2 I r h
    have hk2 : ∀ (l1 : Int32) (l2 : Int32) (I : am_I) (r : Int32 × am_I), bX11_pinAll_2 G.2.2.2.1 fu l1 l2 I = some r → am_J G (d + 1) mX11_pinAll am_no (am_E (some r.1) r.2) 2 [some (.inr (0, 60)), some (.inl l1), some (.inl l2), none] [] I := fun l1 l2 I r h => ih h
    unfold bX11_pinAll_2 at h
    generalize bX11_pinAll_2 G.2.2.2.1 fu = k2 at hk2 h
    dsimp only at h
    refine am_iload_n dX11_pinAll_2 rfl ?_
    refine am_sipush (v := nI 136) dX11_pinAll_3 (by decide) ?_
    refine am_icmp_ge (tgt := 125) dX11_pinAll_6 rfl (fun c => ?_) (fun c => ?_)
    · rw [if_pos c] at h
      refine am_iconst (v := nI 1) dX11_pinAll_125 (by decide) ?_
      cases h
      exact am_iret dX11_pinAll_126 rfl (am_nz (by decide)).1 ⟨rfl, rfl⟩
    · rw [if_neg c] at h
      refine am_iload_n dX11_pinAll_9 rfl ?_
      refine am_iload_n dX11_pinAll_10 rfl ?_
      obtain ⟨q1, hq1, h⟩ := am_bd h
      refine am_callSx (as := [.inl l1, .inl l2]) (rest := []) dX11_pinAll_11 lkX11_at ml_X11_208 isX11_at rfl (Nat.le_of_ble_eq_true rfl) rfl (sX11_at hG hq1) ?_
      refine am_istore_n dX11_pinAll_14 (by decide) ?_
      refine am_aload_n dX11_pinAll_15 rfl ?_
      refine am_get (v := .inr (0, 81)) dX11_pinAll_16 fl_11_63 (hG.m0 (by decide)) rfl ?_
      refine am_iload_n dX11_pinAll_19 rfl ?_
      obtain ⟨g2, h⟩ := am_gd_some h
      refine am_ialdG dX11_pinAll_20 (hG.m0 (by decide)) rfl g2 (show 544 < 2 ^ 31 by decide) ?_
      refine am_if_eq (tgt := 119) dX11_pinAll_21 rfl (fun c => ?_) (fun c => ?_)
      · rw [if_pos c] at h
        exact am_lwJ (lo' := [some (.inr (0, 60)), some (.inl l1), some (.inl l2), none]) ⟨rfl, rfl, rfl, trivial⟩ (tX11_pinAll_119 hG hk2 h)
      · rw [if_neg c] at h
        refine am_aload_n dX11_pinAll_24 rfl ?_
        refine am_get (v := .inr (0, 79)) dX11_pinAll_25 fl_11_57 (hG.m0 (by decide)) rfl ?_
        refine am_iload_n dX11_pinAll_28 rfl ?_
        obtain ⟨g3, h⟩ := am_gd_some h
        refine am_zaldG dX11_pinAll_29 (hG.m0 (by decide)) rfl g3 (show 544 < 2 ^ 31 by decide) ?_
        refine am_if_eq (tgt := 36) dX11_pinAll_30 rfl (fun c => ?_) (fun c => ?_)
        · rw [if_pos c] at h
          refine am_aload_n dX11_pinAll_36 rfl ?_
          refine am_get (v := .inr (0, 76)) dX11_pinAll_37 fl_11_48 (hG.m0 (by decide)) rfl ?_
          refine am_iload_n dX11_pinAll_40 rfl ?_
          obtain ⟨g4, h⟩ := am_gd_some h
          refine am_ialdG dX11_pinAll_41 (hG.m0 (by decide)) rfl g4 (show 544 < 2 ^ 31 by decide) ?_
          refine am_aload_n dX11_pinAll_42 rfl ?_
          refine am_get (v := .inr (0, 81)) dX11_pinAll_43 fl_11_63 (hG.m0 (by decide)) rfl ?_
          refine am_iload_n dX11_pinAll_46 rfl ?_
          obtain ⟨g5, h⟩ := am_gd_some h
          refine am_ialdG dX11_pinAll_47 (hG.m0 (by decide)) rfl g5 (show 544 < 2 ^ 31 by decide) ?_
          refine am_icmp_lt (tgt := 61) dX11_pinAll_48 rfl (fun c => ?_) (fun c => ?_)
          · rw [if_pos c] at h
            exact am_lwJ (lo' := [some (.inr (0, 60)), some (.inl l1), some (.inl l2), some (.inl q1.1)]) ⟨rfl, rfl, rfl, rfl, trivial⟩ (tX11_pinAll_61 hG h)
          · rw [if_neg c] at h
            refine am_aload_n dX11_pinAll_51 rfl ?_
            refine am_get (v := .inr (0, 78)) dX11_pinAll_52 fl_11_54 (hG.m0 (by decide)) rfl ?_
            refine am_iload_n dX11_pinAll_55 rfl ?_
            obtain ⟨g6, h⟩ := am_gd_some h
            refine am_ialdG dX11_pinAll_56 (hG.m0 (by decide)) rfl g6 (show 544 < 2 ^ 31 by decide) ?_
            refine am_iconst (v := (-1 : Int32)) dX11_pinAll_57 (by decide) ?_
            refine am_icmp_eq (tgt := 112) dX11_pinAll_58 rfl (fun c => ?_) (fun c => ?_)
            · rw [if_pos c] at h
              refine am_aload_n dX11_pinAll_112 rfl ?_
              refine am_get (v := .inr (0, 79)) dX11_pinAll_113 fl_11_57 (hG.m0 (by decide)) rfl ?_
              refine am_iload_n dX11_pinAll_116 rfl ?_
              refine am_iconst (v := nI 1) dX11_pinAll_117 (by decide) ?_
              obtain ⟨g7, h⟩ := am_gd_some h
              refine am_zastG dX11_pinAll_118 (hG.m0 (by decide)) rfl (by decide) g7 (show 544 < 2 ^ 31 by decide) ?_
              obtain ⟨I8, hI8, h⟩ := am_lt_some h
              refine am_st10 hI8 ?_
              exact am_lwJ (lo' := [some (.inr (0, 60)), some (.inl l1), some (.inl l2), none]) ⟨rfl, rfl, rfl, trivial⟩ (tX11_pinAll_119 hG hk2 h)
            · rw [if_neg c] at h
              exact am_lwJ (lo' := [some (.inr (0, 60)), some (.inl l1), some (.inl l2), some (.inl q1.1)]) ⟨rfl, rfl, rfl, rfl, trivial⟩ (tX11_pinAll_61 hG h)
        · rw [if_neg c] at h
          refine am_goto (tgt := 119) dX11_pinAll_33 rfl ?_
          exact am_lwJ (lo' := [some (.inr (0, 60)), some (.inl l1), some (.inl l2), none]) ⟨rfl, rfl, rfl, trivial⟩ (tX11_pinAll_119 hG hk2 h)
def bX11_pinAll_0 (n : Nat) (l1 : Int32) (I : am_I) : Option (Int32 × am_I) := bX11_pinAll_2 n am_fu l1 (nI 0) I
theorem tX11_pinAll_0 {G : am_G} (hG : am_okM G) {d : Nat} {l1 : Int32} {I : am_I} {r : Int32 × am_I} (h : bX11_pinAll_0 G.2.2.2.1 l1  I = some r) : am_J G (d + 1) mX11_pinAll am_no (am_E (some r.1) r.2) 0 [some (.inr (0, 60)), some (.inl l1), none, none] [] I := by
  unfold bX11_pinAll_0 at h
  refine am_iconst (v := nI 0) dX11_pinAll_0 (by decide) ?_
  refine am_istore_n dX11_pinAll_1 (by decide) ?_
  exact am_lwJ (lo' := [some (.inr (0, 60)), some (.inl l1), some (.inl (nI 0)), none]) ⟨rfl, rfl, rfl, trivial⟩ (tX11_pinAll_2 hG h)
def gX11_pinAll (n : Nat) (l1 : Int32) (I : am_I) : Option (Int32 × am_I) := bX11_pinAll_0 n l1 I
theorem sX11_pinAll {G : am_G} (hG : am_okM G) {d : Nat} {l1 : Int32} {I : am_I} {r : Int32 × am_I} (h : gX11_pinAll G.2.2.2.1 l1 I = some r) : am_C G (d + 1) mX11_pinAll [.inr (0, 60), .inl l1] I (am_E (some r.1) r.2) :=
  am_of (by decide +kernel) hG.nd (Nat.le_of_ble_eq_true rfl) (am_lwJ (lo' := [some (.inr (0, 60)), some (.inl l1), none, none]) ⟨rfl, rfl, trivial⟩ (tX11_pinAll_0 hG h))
def bX11_isOver_20 (n : Nat) (s0 : Int32) (I : am_I) : Option (Int32 × am_I) := am_gd (am_01 s0) (some (s0, I))
theorem tX11_isOver_20 {G : am_G} (hG : am_okM G) {d : Nat} {s0 : Int32} {I : am_I} {r : Int32 × am_I} (h : bX11_isOver_20 G.2.2.2.1 s0  I = some r) : am_J G d mX11_isOver am_no (am_E (some r.1) r.2) 20 [none] [.inl s0] I := by
  unfold bX11_isOver_20 at h
  obtain ⟨g1, h⟩ := am_gd_some h
  cases h
  exact am_iret dX11_isOver_20 rfl (am_nz (am_01_of g1)).1 ⟨rfl, rfl⟩
def bX11_isOver_15 (n : Nat) (I : am_I) : Option (Int32 × am_I) := bX11_isOver_20 n (nI 1) I
theorem tX11_isOver_15 {G : am_G} (hG : am_okM G) {d : Nat} {I : am_I} {r : Int32 × am_I} (h : bX11_isOver_15 G.2.2.2.1  I = some r) : am_J G d mX11_isOver am_no (am_E (some r.1) r.2) 15 [none] [] I := by
  unfold bX11_isOver_15 at h
  refine am_iconst (v := nI 1) dX11_isOver_15 (by decide) ?_
  refine am_goto (tgt := 20) dX11_isOver_16 rfl ?_
  exact am_lwJ (lo' := [none]) trivial (tX11_isOver_20 hG h)
def bX11_isOver_0 (n : Nat) (I : am_I) : Option (Int32 × am_I) := if (I 0 60 52) = (-1 : Int32) then (if (I 0 60 54) = 0 then (bX11_isOver_20 n (nI 0) I) else (bX11_isOver_15 n I)) else (bX11_isOver_15 n I)
theorem tX11_isOver_0 {G : am_G} (hG : am_okM G) {d : Nat} {I : am_I} {r : Int32 × am_I} (h : bX11_isOver_0 G.2.2.2.1  I = some r) : am_J G d mX11_isOver am_no (am_E (some r.1) r.2) 0 [some (.inr (0, 60))] [] I := by
  unfold bX11_isOver_0 at h
  refine am_aload_n dX11_isOver_0 rfl ?_
  refine am_get (v := .inl (I 0 60 52)) dX11_isOver_1 fl_11_295 (hG.m0 (by decide)) rfl ?_
  refine am_iconst (v := (-1 : Int32)) dX11_isOver_4 (by decide) ?_
  refine am_icmp_ne (tgt := 15) dX11_isOver_5 rfl (fun c => ?_) (fun c => ?_)
  · rw [if_neg c] at h
    exact am_lwJ (lo' := [none]) trivial (tX11_isOver_15 hG h)
  · rw [if_pos c] at h
    refine am_aload_n dX11_isOver_8 rfl ?_
    refine am_get (v := .inl (I 0 60 54)) dX11_isOver_9 fl_11_304 (hG.m0 (by decide)) rfl ?_
    refine am_if_eq (tgt := 19) dX11_isOver_12 rfl (fun c => ?_) (fun c => ?_)
    · rw [if_pos c] at h
      refine am_iconst (v := nI 0) dX11_isOver_19 (by decide) ?_
      exact am_lwJ (lo' := [none]) trivial (tX11_isOver_20 hG h)
    · rw [if_neg c] at h
      exact am_lwJ (lo' := [none]) trivial (tX11_isOver_15 hG h)
def gX11_isOver (n : Nat) (I : am_I) : Option (Int32 × am_I) := bX11_isOver_0 n I
theorem sX11_isOver {G : am_G} (hG : am_okM G) {d : Nat} {I : am_I} {r : Int32 × am_I} (h : gX11_isOver G.2.2.2.1 I = some r) : am_C G d mX11_isOver [.inr (0, 60)] I (am_E (some r.1) r.2) :=
  am_of (by decide +kernel) hG.nd (Nat.le_of_ble_eq_true rfl) (am_lwJ (lo' := [some (.inr (0, 60))]) ⟨rfl, trivial⟩ (tX11_isOver_0 hG h))
