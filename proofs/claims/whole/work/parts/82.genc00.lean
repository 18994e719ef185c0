def bX10_mapBlock_0 (n : Nat) (l0 : Int32) (I : am_I) : Option (Int32 × am_I) := some ((nI 128) + ((nI 64) * l0), I)
theorem tX10_mapBlock_0 {G : am_G} (hG : am_ok G) {d : Nat} {l0 : Int32} {I : am_I} {r : Int32 × am_I} (h : bX10_mapBlock_0 G.2.2.2.1 l0  I = some r) : am_J G d mX10_mapBlock am_no (am_E (some r.1) r.2) 0 [some (.inl l0)] [] I := by
  unfold bX10_mapBlock_0 at h
  refine am_sipush (v := nI 128) dX10_mapBlock_0 (by decide) ?_
  refine am_bipush (v := nI 64) dX10_mapBlock_3 (by decide) ?_
  refine am_iload_n dX10_mapBlock_5 rfl ?_
  refine am_imul dX10_mapBlock_6 ?_
  refine am_iadd dX10_mapBlock_7 ?_
  cases h
  exact am_iret dX10_mapBlock_8 rfl rfl ⟨rfl, rfl⟩
def gX10_mapBlock (n : Nat) (l0 : Int32) (I : am_I) : Option (Int32 × am_I) := bX10_mapBlock_0 n l0 I
theorem sX10_mapBlock {G : am_G} (hG : am_ok G) {d : Nat} {l0 : Int32} {I : am_I} {r : Int32 × am_I} (h : gX10_mapBlock G.2.2.2.1 l0 I = some r) : am_C G d mX10_mapBlock [.inl l0] I (am_E (some r.1) r.2) :=
  am_of (by decide +kernel) hG.nd (Nat.le_of_ble_eq_true rfl) (am_lwJ (lo' := [some (.inl l0)]) ⟨rfl, trivial⟩ (tX10_mapBlock_0 hG h))
def bX10_inodeBlock_0 (n : Nat) (l0 : Int32) (I : am_I) : Option (Int32 × am_I) := (gX10_mapBlock n (l0 / (nI 16)) I).bind (fun q1 => some ((q1.1 + (nI 1)) + (l0 - l0 / (nI 16) * (nI 16)), q1.2))
theorem tX10_inodeBlock_0 {G : am_G} (hG : am_ok G) {d : Nat} {l0 : Int32} {I : am_I} {r : Int32 × am_I} (h : bX10_inodeBlock_0 G.2.2.2.1 l0  I = some r) : am_J G (d + 1) mX10_inodeBlock am_no (am_E (some r.1) r.2) 0 [some (.inl l0)] [] I := by
  unfold bX10_inodeBlock_0 at h
  refine am_iload_n dX10_inodeBlock_0 rfl ?_
  refine am_bipush (v := nI 16) dX10_inodeBlock_1 (by decide) ?_
  refine am_idiv dX10_inodeBlock_3 (by decide) ?_
  obtain ⟨q1, hq1, h⟩ := am_bd h
  refine am_callSx (as := [.inl (l0 / (nI 16))]) (rest := []) dX10_inodeBlock_4 lkX10_mapBlock ml_X10_320 isX10_mapBlock rfl (Nat.le_of_ble_eq_true rfl) rfl (sX10_mapBlock hG hq1) ?_
  refine am_iconst (v := nI 1) dX10_inodeBlock_7 (by decide) ?_
  refine am_iadd dX10_inodeBlock_8 ?_
  refine am_iload_n dX10_inodeBlock_9 rfl ?_
  refine am_bipush (v := nI 16) dX10_inodeBlock_10 (by decide) ?_
  refine am_irem dX10_inodeBlock_12 (by decide) ?_
  refine am_iadd dX10_inodeBlock_13 ?_
  cases h
  exact am_iret dX10_inodeBlock_14 rfl rfl ⟨rfl, rfl⟩
def gX10_inodeBlock (n : Nat) (l0 : Int32) (I : am_I) : Option (Int32 × am_I) := bX10_inodeBlock_0 n l0 I
theorem sX10_inodeBlock {G : am_G} (hG : am_ok G) {d : Nat} {l0 : Int32} {I : am_I} {r : Int32 × am_I} (h : gX10_inodeBlock G.2.2.2.1 l0 I = some r) : am_C G (d + 1) mX10_inodeBlock [.inl l0] I (am_E (some r.1) r.2) :=
  am_of (by decide +kernel) hG.nd (Nat.le_of_ble_eq_true rfl) (am_lwJ (lo' := [some (.inl l0)]) ⟨rfl, trivial⟩ (tX10_inodeBlock_0 hG h))
def bX10_headBlock_0 (n : Nat) (l0 : Int32) (I : am_I) : Option (Int32 × am_I) := some ((nI 1) + ((nI 24) * l0), I)
theorem tX10_headBlock_0 {G : am_G} (hG : am_ok G) {d : Nat} {l0 : Int32} {I : am_I} {r : Int32 × am_I} (h : bX10_headBlock_0 G.2.2.2.1 l0  I = some r) : am_J G d mX10_headBlock am_no (am_E (some r.1) r.2) 0 [some (.inl l0)] [] I := by
  unfold bX10_headBlock_0 at h
  refine am_iconst (v := nI 1) dX10_headBlock_0 (by decide) ?_
  refine am_bipush (v := nI 24) dX10_headBlock_1 (by decide) ?_
  refine am_iload_n dX10_headBlock_3 rfl ?_
  refine am_imul dX10_headBlock_4 ?_
  refine am_iadd dX10_headBlock_5 ?_
  cases h
  exact am_iret dX10_headBlock_6 rfl rfl ⟨rfl, rfl⟩
def gX10_headBlock (n : Nat) (l0 : Int32) (I : am_I) : Option (Int32 × am_I) := bX10_headBlock_0 n l0 I
theorem sX10_headBlock {G : am_G} (hG : am_ok G) {d : Nat} {l0 : Int32} {I : am_I} {r : Int32 × am_I} (h : gX10_headBlock G.2.2.2.1 l0 I = some r) : am_C G d mX10_headBlock [.inl l0] I (am_E (some r.1) r.2) :=
  am_of (by decide +kernel) hG.nd (Nat.le_of_ble_eq_true rfl) (am_lwJ (lo' := [some (.inl l0)]) ⟨rfl, trivial⟩ (tX10_headBlock_0 hG h))
def bX10_isNode_18 (n : Nat) (s0 : Int32) (I : am_I) : Option (Int32 × am_I) := am_gd (am_01 s0) (some (s0, I))
theorem tX10_isNode_18 {G : am_G} (hG : am_ok G) {d : Nat} {s0 : Int32} {I : am_I} {r : Int32 × am_I} (h : bX10_isNode_18 G.2.2.2.1 s0  I = some r) : am_J G d mX10_isNode am_no (am_E (some r.1) r.2) 18 [none, none] [.inl s0] I := by
  unfold bX10_isNode_18 at h
  obtain ⟨g1, h⟩ := am_gd_some h
  cases h
  exact am_iret dX10_isNode_18 rfl (am_nz (am_01_of g1)).1 ⟨rfl, rfl⟩
def bX10_isNode_17 (n : Nat) (I : am_I) : Option (Int32 × am_I) := bX10_isNode_18 n (nI 0) I
theorem tX10_isNode_17 {G : am_G} (hG : am_ok G) {d : Nat} {I : am_I} {r : Int32 × am_I} (h : bX10_isNode_17 G.2.2.2.1  I = some r) : am_J G d mX10_isNode am_no (am_E (some r.1) r.2) 17 [none, none] [] I := by
  unfold bX10_isNode_17 at h
  refine am_iconst (v := nI 0) dX10_isNode_17 (by decide) ?_
  exact am_lwJ (lo' := [none, none]) trivial (tX10_isNode_18 hG h)
def bX10_isNode_0 (n : Nat) (l1 : Int32) (I : am_I) : Option (Int32 × am_I) := if l1 < 0 then (bX10_isNode_17 n I) else (if (nI n) ≤ l1 then (bX10_isNode_17 n I) else (bX10_isNode_18 n (nI 1) I))
theorem tX10_isNode_0 {G : am_G} (hG : am_ok G) {d : Nat} {l1 : Int32} {I : am_I} {r : Int32 × am_I} (h : bX10_isNode_0 G.2.2.2.1 l1  I = some r) : am_J G d mX10_isNode am_no (am_E (some r.1) r.2) 0 [some (.inr (0, 0)), some (.inl l1)] [] I := by
  unfold bX10_isNode_0 at h
  refine am_iload_n dX10_isNode_0 rfl ?_
  refine am_if_lt (tgt := 17) dX10_isNode_1 rfl (fun c => ?_) (fun c => ?_)
  · rw [if_pos c] at h
    exact am_lwJ (lo' := [none, none]) trivial (tX10_isNode_17 hG h)
  · rw [if_neg c] at h
    refine am_iload_n dX10_isNode_4 rfl ?_
    refine am_aload_n dX10_isNode_5 rfl ?_
    refine am_get (v := .inr (0, 2)) dX10_isNode_6 fl_10_19 (hG.m0 (by decide)) rfl ?_
    refine am_alen3 dX10_isNode_9 (hG.m0 (by decide)) rfl ?_
    refine am_icmp_ge (tgt := 17) dX10_isNode_10 rfl (fun c => ?_) (fun c => ?_)
    · rw [if_pos c] at h
      exact am_lwJ (lo' := [none, none]) trivial (tX10_isNode_17 hG h)
    · rw [if_neg c] at h
      refine am_iconst (v := nI 1) dX10_isNode_13 (by decide) ?_
      refine am_goto (tgt := 18) dX10_isNode_14 rfl ?_
      exact am_lwJ (lo' := [none, none]) trivial (tX10_isNode_18 hG h)
def gX10_isNode (n : Nat) (l1 : Int32) (I : am_I) : Option (Int32 × am_I) := bX10_isNode_0 n l1 I
theorem sX10_isNode {G : am_G} (hG : am_ok G) {d : Nat} {l1 : Int32} {I : am_I} {r : Int32 × am_I} (h : gX10_isNode G.2.2.2.1 l1 I = some r) : am_C G d mX10_isNode [.inr (0, 0), .inl l1] I (am_E (some r.1) r.2) :=
  am_of (by decide +kernel) hG.nd (Nat.le_of_ble_eq_true rfl) (am_lwJ (lo' := [some (.inr (0, 0)), some (.inl l1)]) ⟨rfl, rfl, trivial⟩ (tX10_isNode_0 hG h))
def bX10_isInode_16 (n : Nat) (s0 : Int32) (I : am_I) : Option (Int32 × am_I) := am_gd (am_01 s0) (some (s0, I))
theorem tX10_isInode_16 {G : am_G} (hG : am_ok G) {d : Nat} {s0 : Int32} {I : am_I} {r : Int32 × am_I} (h : bX10_isInode_16 G.2.2.2.1 s0  I = some r) : am_J G d mX10_isInode am_no (am_E (some r.1) r.2) 16 [none] [.inl s0] I := by
  unfold bX10_isInode_16 at h
  obtain ⟨g1, h⟩ := am_gd_some h
  cases h
  exact am_iret dX10_isInode_16 rfl (am_nz (am_01_of g1)).1 ⟨rfl, rfl⟩
def bX10_isInode_15 (n : Nat) (I : am_I) : Option (Int32 × am_I) := bX10_isInode_16 n (nI 0) I
theorem tX10_isInode_15 {G : am_G} (hG : am_ok G) {d : Nat} {I : am_I} {r : Int32 × am_I} (h : bX10_isInode_15 G.2.2.2.1  I = some r) : am_J G d mX10_isInode am_no (am_E (some r.1) r.2) 15 [none] [] I := by
  unfold bX10_isInode_15 at h
  refine am_iconst (v := nI 0) dX10_isInode_15 (by decide) ?_
  exact am_lwJ (lo' := [none]) trivial (tX10_isInode_16 hG h)
def bX10_isInode_0 (n : Nat) (l0 : Int32) (I : am_I) : Option (Int32 × am_I) := if l0 < 0 then (bX10_isInode_15 n I) else (if (nI 128) ≤ l0 then (bX10_isInode_15 n I) else (bX10_isInode_16 n (nI 1) I))
theorem tX10_isInode_0 {G : am_G} (hG : am_ok G) {d : Nat} {l0 : Int32} {I : am_I} {r : Int32 × am_I} (h : bX10_isInode_0 G.2.2.2.1 l0  I = some r) : am_J G d mX10_isInode am_no (am_E (some r.1) r.2) 0 [some (.inl l0)] [] I := by
  unfold bX10_isInode_0 at h
  refine am_iload_n dX10_isInode_0 rfl ?_
  refine am_if_lt (tgt := 15) dX10_isInode_1 rfl (fun c => ?_) (fun c => ?_)
  · rw [if_pos c] at h
    exact am_lwJ (lo' := [none]) trivial (tX10_isInode_15 hG h)
  · rw [if_neg c] at h
    refine am_iload_n dX10_isInode_4 rfl ?_
    refine am_sipush (v := nI 128) dX10_isInode_5 (by decide) ?_
    refine am_icmp_ge (tgt := 15) dX10_isInode_8 rfl (fun c => ?_) (fun c => ?_)
    · rw [if_pos c] at h
      exact am_lwJ (lo' := [none]) trivial (tX10_isInode_15 hG h)
    · rw [if_neg c] at h
      refine am_iconst (v := nI 1) dX10_isInode_11 (by decide) ?_
      refine am_goto (tgt := 16) dX10_isInode_12 rfl ?_
      exact am_lwJ (lo' := [none]) trivial (tX10_isInode_16 hG h)
def gX10_isInode (n : Nat) (l0 : Int32) (I : am_I) : Option (Int32 × am_I) := bX10_isInode_0 n l0 I
theorem sX10_isInode {G : am_G} (hG : am_ok G) {d : Nat} {l0 : Int32} {I : am_I} {r : Int32 × am_I} (h : gX10_isInode G.2.2.2.1 l0 I = some r) : am_C G d mX10_isInode [.inl l0] I (am_E (some r.1) r.2) :=
  am_of (by decide +kernel) hG.nd (Nat.le_of_ble_eq_true rfl) (am_lwJ (lo' := [some (.inl l0)]) ⟨rfl, trivial⟩ (tX10_isInode_0 hG h))
def bX10_isCall_92 (n : Nat) (s0 : Int32) (I : am_I) : Option (Int32 × am_I) := am_gd (am_01 s0) (some (s0, I))
theorem tX10_isCall_92 {G : am_G} (hG : am_ok G) {d : Nat} {s0 : Int32} {I : am_I} {r : Int32 × am_I} (h : bX10_isCall_92 G.2.2.2.1 s0  I = some r) : am_J G (d + 1) mX10_isCall am_no (am_E (some r.1) r.2) 92 [none, none, none, none, none] [.inl s0] I := by
  unfold bX10_isCall_92 at h
  obtain ⟨g1, h⟩ := am_gd_some h
  cases h
  exact am_iret dX10_isCall_92 rfl (am_nz (am_01_of g1)).1 ⟨rfl, rfl⟩
def bX10_isCall_91 (n : Nat) (I : am_I) : Option (Int32 × am_I) := bX10_isCall_92 n (nI 0) I
theorem tX10_isCall_91 {G : am_G} (hG : am_ok G) {d : Nat} {I : am_I} {r : Int32 × am_I} (h : bX10_isCall_91 G.2.2.2.1  I = some r) : am_J G (d + 1) mX10_isCall am_no (am_E (some r.1) r.2) 91 [none, none, none, none, none] [] I := by
  unfold bX10_isCall_91 at h
  refine am_iconst (v := nI 0) dX10_isCall_91 (by decide) ?_
  exact am_lwJ (lo' := [none, none, none, none, none]) trivial (tX10_isCall_92 hG h)
def bX10_isCall_119 (n : Nat) (s0 : Int32) (I : am_I) : Option (Int32 × am_I) := am_gd (am_01 s0) (some (s0, I))
theorem tX10_isCall_119 {G : am_G} (hG : am_ok G) {d : Nat} {s0 : Int32} {I : am_I} {r : Int32 × am_I} (h : bX10_isCall_119 G.2.2.2.1 s0  I = some r) : am_J G (d + 1) mX10_isCall am_no (am_E (some r.1) r.2) 119 [none, none, none, none, none] [.inl s0] I := by
  unfold bX10_isCall_119 at h
  obtain ⟨g1, h⟩ := am_gd_some h
  cases h
  exact am_iret dX10_isCall_119 rfl (am_nz (am_01_of g1)).1 ⟨rfl, rfl⟩
def bX10_isCall_118 (n : Nat) (I : am_I) : Option (Int32 × am_I) := bX10_isCall_119 n (nI 0) I
theorem tX10_isCall_118 {G : am_G} (hG : am_ok G) {d : Nat} {I : am_I} {r : Int32 × am_I} (h : bX10_isCall_118 G.2.2.2.1  I = some r) : am_J G (d + 1) mX10_isCall am_no (am_E (some r.1) r.2) 118 [none, none, none, none, none] [] I := by
  unfold bX10_isCall_118 at h
  refine am_iconst (v := nI 0) dX10_isCall_118 (by decide) ?_
  exact am_lwJ (lo' := [none, none, none, none, none]) trivial (tX10_isCall_119 hG h)
def bX10_isCall_114 (n : Nat) (I : am_I) : Option (Int32 × am_I) := bX10_isCall_119 n (nI 1) I
theorem tX10_isCall_114 {G : am_G} (hG : am_ok G) {d : Nat} {I : am_I} {r : Int32 × am_I} (h : bX10_isCall_114 G.2.2.2.1  I = some r) : am_J G (d + 1) mX10_isCall am_no (am_E (some r.1) r.2) 114 [none, none, none, none, none] [] I := by
  unfold bX10_isCall_114 at h
  refine am_iconst (v := nI 1) dX10_isCall_114 (by decide) ?_
  refine am_goto (tgt := 119) dX10_isCall_115 rfl ?_
  exact am_lwJ (lo' := [none, none, none, none, none]) trivial (tX10_isCall_119 hG h)
def bX10_isCall_143 (n : Nat) (s0 : Int32) (I : am_I) : Option (Int32 × am_I) := am_gd (am_01 s0) (some (s0, I))
theorem tX10_isCall_143 {G : am_G} (hG : am_ok G) {d : Nat} {s0 : Int32} {I : am_I} {r : Int32 × am_I} (h : bX10_isCall_143 G.2.2.2.1 s0  I = some r) : am_J G (d + 1) mX10_isCall am_no (am_E (some r.1) r.2) 143 [none, none, none, none, none] [.inl s0] I := by
  unfold bX10_isCall_143 at h
  obtain ⟨g1, h⟩ := am_gd_some h
  cases h
  exact am_iret dX10_isCall_143 rfl (am_nz (am_01_of g1)).1 ⟨rfl, rfl⟩
def bX10_isCall_142 (n : Nat) (I : am_I) : Option (Int32 × am_I) := bX10_isCall_143 n (nI 0) I
theorem tX10_isCall_142 {G : am_G} (hG : am_ok G) {d : Nat} {I : am_I} {r : Int32 × am_I} (h : bX10_isCall_142 G.2.2.2.1  I = some r) : am_J G (d + 1) mX10_isCall am_no (am_E (some r.1) r.2) 142 [none, none, none, none, none] [] I := by
  unfold bX10_isCall_142 at h
  refine am_iconst (v := nI 0) dX10_isCall_142 (by decide) ?_
  exact am_lwJ (lo' := [none, none, none, none, none]) trivial (tX10_isCall_143 hG h)
def bX10_isCall_172 (n : Nat) (s0 : Int32) (I : am_I) : Option (Int32 × am_I) := am_gd (am_01 s0) (some (s0, I))
theorem tX10_isCall_172 {G : am_G} (hG : am_ok G) {d : Nat} {s0 : Int32} {I : am_I} {r : Int32 × am_I} (h : bX10_isCall_172 G.2.2.2.1 s0  I = some r) : am_J G (d + 1) mX10_isCall am_no (am_E (some r.1) r.2) 172 [none, none, none, none, none] [.inl s0] I := by
  unfold bX10_isCall_172 at h
  obtain ⟨g1, h⟩ := am_gd_some h
  cases h
  exact am_iret dX10_isCall_172 rfl (am_nz (am_01_of g1)).1 ⟨rfl, rfl⟩
def bX10_isCall_171 (n : Nat) (I : am_I) : Option (Int32 × am_I) := bX10_isCall_172 n (nI 0) I
theorem tX10_isCall_171 {G : am_G} (hG : am_ok G) {d : Nat} {I : am_I} {r : Int32 × am_I} (h : bX10_isCall_171 G.2.2.2.1  I = some r) : am_J G (d + 1) mX10_isCall am_no (am_E (some r.1) r.2) 171 [none, none, none, none, none] [] I := by
  unfold bX10_isCall_171 at h
  refine am_iconst (v := nI 0) dX10_isCall_171 (by decide) ?_
  exact am_lwJ (lo' := [none, none, none, none, none]) trivial (tX10_isCall_172 hG h)
def bX10_isCall_196 (n : Nat) (s0 : Int32) (I : am_I) : Option (Int32 × am_I) := am_gd (am_01 s0) (some (s0, I))
theorem tX10_isCall_196 {G : am_G} (hG : am_ok G) {d : Nat} {s0 : Int32} {I : am_I} {r : Int32 × am_I} (h : bX10_isCall_196 G.2.2.2.1 s0  I = some r) : am_J G (d + 1) mX10_isCall am_no (am_E (some r.1) r.2) 196 [none, none, none, none, none] [.inl s0] I := by
  unfold bX10_isCall_196 at h
  obtain ⟨g1, h⟩ := am_gd_some h
  cases h
  exact am_iret dX10_isCall_196 rfl (am_nz (am_01_of g1)).1 ⟨rfl, rfl⟩
def bX10_isCall_195 (n : Nat) (I : am_I) : Option (Int32 × am_I) := bX10_isCall_196 n (nI 0) I
theorem tX10_isCall_195 {G : am_G} (hG : am_ok G) {d : Nat} {I : am_I} {r : Int32 × am_I} (h : bX10_isCall_195 G.2.2.2.1  I = some r) : am_J G (d + 1) mX10_isCall am_no (am_E (some r.1) r.2) 195 [none, none, none, none, none] [] I := by
  unfold bX10_isCall_195 at h
  refine am_iconst (v := nI 0) dX10_isCall_195 (by decide) ?_
  exact am_lwJ (lo' := [none, none, none, none, none]) trivial (tX10_isCall_196 hG h)
def bX10_isCall_220 (n : Nat) (s0 : Int32) (I : am_I) : Option (Int32 × am_I) := am_gd (am_01 s0) (some (s0, I))
theorem tX10_isCall_220 {G : am_G} (hG : am_ok G) {d : Nat} {s0 : Int32} {I : am_I} {r : Int32 × am_I} (h : bX10_isCall_220 G.2.2.2.1 s0  I = some r) : am_J G (d + 1) mX10_isCall am_no (am_E (some r.1) r.2) 220 [none, none, none, none, none] [.inl s0] I := by
  unfold bX10_isCall_220 at h
  obtain ⟨g1, h⟩ := am_gd_some h
  cases h
  exact am_iret dX10_isCall_220 rfl (am_nz (am_01_of g1)).1 ⟨rfl, rfl⟩
def bX10_isCall_219 (n : Nat) (I : am_I) : Option (Int32 × am_I) := bX10_isCall_220 n (nI 0) I
theorem tX10_isCall_219 {G : am_G} (hG : am_ok G) {d : Nat} {I : am_I} {r : Int32 × am_I} (h : bX10_isCall_219 G.2.2.2.1  I = some r) : am_J G (d + 1) mX10_isCall am_no (am_E (some r.1) r.2) 219 [none, none, none, none, none] [] I := by
  unfold bX10_isCall_219 at h
  refine am_iconst (v := nI 0) dX10_isCall_219 (by decide) ?_
  exact am_lwJ (lo' := [none, none, none, none, none]) trivial (tX10_isCall_220 hG h)
def bX10_isCall_244 (n : Nat) (s0 : Int32) (I : am_I) : Option (Int32 × am_I) := am_gd (am_01 s0) (some (s0, I))
theorem tX10_isCall_244 {G : am_G} (hG : am_ok G) {d : Nat} {s0 : Int32} {I : am_I} {r : Int32 × am_I} (h : bX10_isCall_244 G.2.2.2.1 s0  I = some r) : am_J G (d + 1) mX10_isCall am_no (am_E (some r.1) r.2) 244 [none, none, none, none, none] [.inl s0] I := by
  unfold bX10_isCall_244 at h
  obtain ⟨g1, h⟩ := am_gd_some h
  cases h
  exact am_iret dX10_isCall_244 rfl (am_nz (am_01_of g1)).1 ⟨rfl, rfl⟩
def bX10_isCall_243 (n : Nat) (I : am_I) : Option (Int32 × am_I) := bX10_isCall_244 n (nI 0) I
theorem tX10_isCall_243 {G : am_G} (hG : am_ok G) {d : Nat} {I : am_I} {r : Int32 × am_I} (h : bX10_isCall_243 G.2.2.2.1  I = some r) : am_J G (d + 1) mX10_isCall am_no (am_E (some r.1) r.2) 243 [none, none, none, none, none] [] I := by
  unfold bX10_isCall_243 at h
  refine am_iconst (v := nI 0) dX10_isCall_243 (by decide) ?_
  exact am_lwJ (lo' := [none, none, none, none, none]) trivial (tX10_isCall_244 hG h)
def bX10_isCall_266 (n : Nat) (s0 : Int32) (I : am_I) : Option (Int32 × am_I) := am_gd (am_01 s0) (some (s0, I))
theorem tX10_isCall_266 {G : am_G} (hG : am_ok G) {d : Nat} {s0 : Int32} {I : am_I} {r : Int32 × am_I} (h : bX10_isCall_266 G.2.2.2.1 s0  I = some r) : am_J G (d + 1) mX10_isCall am_no (am_E (some r.1) r.2) 266 [none, none, none, none, none] [.inl s0] I := by
  unfold bX10_isCall_266 at h
  obtain ⟨g1, h⟩ := am_gd_some h
  cases h
  exact am_iret dX10_isCall_266 rfl (am_nz (am_01_of g1)).1 ⟨rfl, rfl⟩
def bX10_isCall_265 (n : Nat) (I : am_I) : Option (Int32 × am_I) := bX10_isCall_266 n (nI 0) I
theorem tX10_isCall_265 {G : am_G} (hG : am_ok G) {d : Nat} {I : am_I} {r : Int32 × am_I} (h : bX10_isCall_265 G.2.2.2.1  I = some r) : am_J G (d + 1) mX10_isCall am_no (am_E (some r.1) r.2) 265 [none, none, none, none, none] [] I := by
  unfold bX10_isCall_265 at h
  refine am_iconst (v := nI 0) dX10_isCall_265 (by decide) ?_
  exact am_lwJ (lo' := [none, none, none, none, none]) trivial (tX10_isCall_266 hG h)
def bX10_isCall_0 (n : Nat) (l0 : Int32) (l1 : Int32) (l2 : Int32) (l3 : Int32) (l4 : Int32) (I : am_I) : Option (Int32 × am_I) := if l0 = nI 0 then ((gX10_isInode n l1 I).bind (fun q1 => if q1.1 = 0 then (bX10_isCall_91 n q1.2) else (if l2 = 0 then (bX10_isCall_91 n q1.2) else (bX10_isCall_92 n (nI 1) q1.2)))) else (if l0 = nI 1 then ((gX10_isInode n l1 I).bind (fun q2 => if q2.1 = 0 then (bX10_isCall_118 n q2.2) else (if l2 = 0 then (bX10_isCall_118 n q2.2) else (if l3 = (nI 1) then (bX10_isCall_114 n q2.2) else (if l3 = (nI 2) then (bX10_isCall_114 n q2.2) else (bX10_isCall_118 n q2.2)))))) else (if l0 = nI 2 then ((gX10_isInode n l1 I).bind (fun q3 => if q3.1 = 0 then (bX10_isCall_91 n q3.2) else (if l2 = 0 then (bX10_isCall_91 n q3.2) else (bX10_isCall_92 n (nI 1) q3.2)))) else (if l0 = nI 3 then ((gX10_isInode n l1 I).bind (fun q4 => if q4.1 = 0 then (bX10_isCall_142 n q4.2) else (if l2 = 0 then (bX10_isCall_142 n q4.2) else ((gX10_isInode n l3 q4.2).bind (fun q5 => if q5.1 = 0 then (bX10_isCall_142 n q5.2) else (bX10_isCall_143 n (nI 1) q5.2)))))) else (if l0 = nI 4 then ((gX10_isInode n l1 I).bind (fun q6 => if q6.1 = 0 then (bX10_isCall_171 n q6.2) else (if l2 = 0 then (bX10_isCall_171 n q6.2) else ((gX10_isInode n l3 q6.2).bind (fun q7 => if q7.1 = 0 then (bX10_isCall_171 n q7.2) else (if l4 = 0 then (bX10_isCall_171 n q7.2) else (bX10_isCall_172 n (nI 1) q7.2))))))) else (if l0 = nI 5 then ((gX10_isInode n l1 I).bind (fun q8 => if q8.1 = 0 then (bX10_isCall_195 n q8.2) else (if l2 < 0 then (bX10_isCall_195 n q8.2) else (if (nI 384) ≤ l2 then (bX10_isCall_195 n q8.2) else (bX10_isCall_196 n (nI 1) q8.2))))) else (if l0 = nI 6 then ((gX10_isInode n l1 I).bind (fun q9 => if q9.1 = 0 then (bX10_isCall_195 n q9.2) else (if l2 < 0 then (bX10_isCall_195 n q9.2) else (if (nI 384) ≤ l2 then (bX10_isCall_195 n q9.2) else (bX10_isCall_196 n (nI 1) q9.2))))) else (if l0 = nI 7 then ((gX10_isInode n l1 I).bind (fun q10 => if q10.1 = 0 then (bX10_isCall_219 n q10.2) else (if l2 < 0 then (bX10_isCall_219 n q10.2) else (if (nI 384) < l2 then (bX10_isCall_219 n q10.2) else (bX10_isCall_220 n (nI 1) q10.2))))) else (if l0 = nI 8 then ((gX10_isInode n l1 I).bind (fun q11 => if q11.1 = 0 then (bX10_isCall_243 n q11.2) else (if l2 < 0 then (bX10_isCall_243 n q11.2) else (if (nI 192) ≤ l2 then (bX10_isCall_243 n q11.2) else (bX10_isCall_244 n (nI 1) q11.2))))) else (if l0 = nI 9 then ((gX10_isInode n l1 I).bind (fun q12 => if q12.1 = 0 then (bX10_isCall_265 n q12.2) else (if l2 < 0 then (bX10_isCall_265 n q12.2) else (if (nI 3) < l2 then (bX10_isCall_265 n q12.2) else (bX10_isCall_266 n (nI 1) q12.2))))) else (if l0 = nI 10 then (some (nI 1, I)) else (if l0 = nI 11 then ((gX10_isInode n l1 I).bind (fun q13 => if q13.1 = 0 then (bX10_isCall_195 n q13.2) else (if l2 < 0 then (bX10_isCall_195 n q13.2) else (if (nI 384) ≤ l2 then (bX10_isCall_195 n q13.2) else (bX10_isCall_196 n (nI 1) q13.2))))) else (if l0 = nI 12 then ((gX10_isInode n l1 I).bind (fun q14 => am_gd (am_01 q14.1) (some (q14.1, q14.2)))) else (if l0 = nI 13 then ((gX10_isInode n l1 I).bind (fun q16 => am_gd (am_01 q16.1) (some (q16.1, q16.2)))) else (if l0 = nI 14 then (some (nI 1, I)) else (some (nI 0, I))))))))))))))))
theorem tX10_isCall_0 {G : am_G} (hG : am_ok G) {d : Nat} {l0 : Int32} {l1 : Int32} {l2 : Int32} {l3 : Int32} {l4 : Int32} {I : am_I} {r : Int32 × am_I} (h : bX10_isCall_0 G.2.2.2.1 l0 l1 l2 l3 l4  I = some r) : am_J G (d + 1) mX10_isCall am_no (am_E (some r.1) r.2) 0 [some (.inl l0), some (.inl l1), some (.inl l2), some (.inl l3), some (.inl l4)] [] I := by
  unfold bX10_isCall_0 at h
  refine am_iload_n dX10_isCall_0 rfl ?_
  rcases am_sw 14 l0 with ⟨m, hm, hx⟩ | hx
  · match m, hm, hx with
    | 0, _, hx =>
      rw [if_pos hx] at h
      refine am_tabIn (off := 75) (tgt := 76) dX10_isCall_1 (by rw [hx]; decide) (by rw [hx]; decide) (by rw [hx]; rfl) rfl ?_
      refine am_iload_n dX10_isCall_76 rfl ?_
      obtain ⟨q1, hq1, h⟩ := am_bd h
      refine am_callSx (as := [.inl l1]) (rest := []) dX10_isCall_77 lkX10_isInode ml_X10_317 isX10_isInode rfl (Nat.le_of_ble_eq_true rfl) rfl (sX10_isInode hG hq1) ?_
      refine am_if_eq (tgt := 91) dX10_isCall_80 rfl (fun c => ?_) (fun c => ?_)
      · rw [if_pos c] at h
        exact am_lwJ (lo' := [none, none, none, none, none]) trivial (tX10_isCall_91 hG h)
      · rw [if_neg c] at h
        refine am_iload_n dX10_isCall_83 rfl ?_
        refine am_if_eq (tgt := 91) dX10_isCall_84 rfl (fun c => ?_) (fun c => ?_)
        · rw [if_pos c] at h
          exact am_lwJ (lo' := [none, none, none, none, none]) trivial (tX10_isCall_91 hG h)
        · rw [if_neg c] at h
          refine am_iconst (v := nI 1) dX10_isCall_87 (by decide) ?_
          refine am_goto (tgt := 92) dX10_isCall_88 rfl ?_
          exact am_lwJ (lo' := [none, none, none, none, none]) trivial (tX10_isCall_92 hG h)
    | 1, _, hx =>
      rw [if_neg (show ¬ l0 = nI 0 by rw [hx]; decide)] at h
      rw [if_pos hx] at h
      refine am_tabIn (off := 92) (tgt := 93) dX10_isCall_1 (by rw [hx]; decide) (by rw [hx]; decide) (by rw [hx]; rfl) rfl ?_
      refine am_iload_n dX10_isCall_93 rfl ?_
      obtain ⟨q2, hq2, h⟩ := am_bd h
      refine am_callSx (as := [.inl l1]) (rest := []) dX10_isCall_94 lkX10_isInode ml_X10_317 isX10_isInode rfl (Nat.le_of_ble_eq_true rfl) rfl (sX10_isInode hG hq2) ?_
      refine am_if_eq (tgt := 118) dX10_isCall_97 rfl (fun c => ?_) (fun c => ?_)
      · rw [if_pos c] at h
        exact am_lwJ (lo' := [none, none, none, none, none]) trivial (tX10_isCall_118 hG h)
      · rw [if_neg c] at h
        refine am_iload_n dX10_isCall_100 rfl ?_
        refine am_if_eq (tgt := 118) dX10_isCall_101 rfl (fun c => ?_) (fun c => ?_)
        · rw [if_pos c] at h
          exact am_lwJ (lo' := [none, none, none, none, none]) trivial (tX10_isCall_118 hG h)
        · rw [if_neg c] at h
          refine am_iload_n dX10_isCall_104 rfl ?_
          refine am_iconst (v := nI 1) dX10_isCall_105 (by decide) ?_
          refine am_icmp_eq (tgt := 114) dX10_isCall_106 rfl (fun c => ?_) (fun c => ?_)
          · rw [if_pos c] at h
            exact am_lwJ (lo' := [none, none, none, none, none]) trivial (tX10_isCall_114 hG h)
          · rw [if_neg c] at h
            refine am_iload_n dX10_isCall_109 rfl ?_
            refine am_iconst (v := nI 2) dX10_isCall_110 (by decide) ?_
            refine am_icmp_ne (tgt := 118) dX10_isCall_111 rfl (fun c => ?_) (fun c => ?_)
            · rw [if_neg c] at h
              exact am_lwJ (lo' := [none, none, none, none, none]) trivial (tX10_isCall_118 hG h)
            · rw [if_pos c] at h
              exact am_lwJ (lo' := [none, none, none, none, none]) trivial (tX10_isCall_114 hG h)
    | 2, _, hx =>
      rw [if_neg (show ¬ l0 = nI 0 by rw [hx]; decide), if_neg (show ¬ l0 = nI 1 by rw [hx]; decide)] at h
      rw [if_pos hx] at h
      refine am_tabIn (off := 75) (tgt := 76) dX10_isCall_1 (by rw [hx]; decide) (by rw [hx]; decide) (by rw [hx]; rfl) rfl ?_
      refine am_iload_n dX10_isCall_76 rfl ?_
      obtain ⟨q3, hq3, h⟩ := am_bd h
      refine am_callSx (as := [.inl l1]) (rest := []) dX10_isCall_77 lkX10_isInode ml_X10_317 isX10_isInode rfl (Nat.le_of_ble_eq_true rfl) rfl (sX10_isInode hG hq3) ?_
      refine am_if_eq (tgt := 91) dX10_isCall_80 rfl (fun c => ?_) (fun c => ?_)
      · rw [if_pos c] at h
        exact am_lwJ (lo' := [none, none, none, none, none]) trivial (tX10_isCall_91 hG h)
      · rw [if_neg c] at h
        refine am_iload_n dX10_isCall_83 rfl ?_
        refine am_if_eq (tgt := 91) dX10_isCall_84 rfl (fun c => ?_) (fun c => ?_)
        · rw [if_pos c] at h
          exact am_lwJ (lo' := [none, none, none, none, none]) trivial (tX10_isCall_91 hG h)
        · rw [if_neg c] at h
          refine am_iconst (v := nI 1) dX10_isCall_87 (by decide) ?_
          refine am_goto (tgt := 92) dX10_isCall_88 rfl ?_
          exact am_lwJ (lo' := [none, none, none, none, none]) trivial (tX10_isCall_92 hG h)
    | 3, _, hx =>
      rw [if_neg (show ¬ l0 = nI 0 by rw [hx]; decide), if_neg (show ¬ l0 = nI 1 by rw [hx]; decide), if_neg (show ¬ l0 = nI 2 by rw [hx]; decide)] at h
      rw [if_pos hx] at h
      refine am_tabIn (off := 119) (tgt := 120) dX10_isCall_1 (by rw [hx]; decide) (by rw [hx]; decide) (by rw [hx]; rfl) rfl ?_
      refine am_iload_n dX10_isCall_120 rfl ?_
      obtain ⟨q4, hq4, h⟩ := am_bd h
      refine am_callSx (as := [.inl l1]) (rest := []) dX10_isCall_121 lkX10_isInode ml_X10_317 isX10_isInode rfl (Nat.le_of_ble_eq_true rfl) rfl (sX10_isInode hG hq4) ?_
      refine am_if_eq (tgt := 142) dX10_isCall_124 rfl (fun c => ?_) (fun c => ?_)
      · rw [if_pos c] at h
        exact am_lwJ (lo' := [none, none, none, none, none]) trivial (tX10_isCall_142 hG h)
      · rw [if_neg c] at h
        refine am_iload_n dX10_isCall_127 rfl ?_
        refine am_if_eq (tgt := 142) dX10_isCall_128 rfl (fun c => ?_) (fun c => ?_)
        · rw [if_pos c] at h
          exact am_lwJ (lo' := [none, none, none, none, none]) trivial (tX10_isCall_142 hG h)
        · rw [if_neg c] at h
          refine am_iload_n dX10_isCall_131 rfl ?_
          obtain ⟨q5, hq5, h⟩ := am_bd h
          refine am_callSx (as := [.inl l3]) (rest := []) dX10_isCall_132 lkX10_isInode ml_X10_317 isX10_isInode rfl (Nat.le_of_ble_eq_true rfl) rfl (sX10_isInode hG hq5) ?_
          refine am_if_eq (tgt := 142) dX10_isCall_135 rfl (fun c => ?_) (fun c => ?_)
          · rw [if_pos c] at h
            exact am_lwJ (lo' := [none, none, none, none, none]) trivial (tX10_isCall_142 hG h)
          · rw [if_neg c] at h
            refine am_iconst (v := nI 1) dX10_isCall_138 (by decide) ?_
            refine am_goto (tgt := 143) dX10_isCall_139 rfl ?_
            exact am_lwJ (lo' := [none, none, none, none, none]) trivial (tX10_isCall_143 hG h)
    | 4, _, hx =>
      rw [if_neg (show ¬ l0 = nI 0 by rw [hx]; decide), if_neg (show ¬ l0 = nI 1 by rw [hx]; decide), if_neg (show ¬ l0 = nI 2 by rw [hx]; decide), if_neg (show ¬ l0 = nI 3 by rw [hx]; decide)] at h
      rw [if_pos hx] at h
      refine am_tabIn (off := 143) (tgt := 144) dX10_isCall_1 (by rw [hx]; decide) (by rw [hx]; decide) (by rw [hx]; rfl) rfl ?_
      refine am_iload_n dX10_isCall_144 rfl ?_
      obtain ⟨q6, hq6, h⟩ := am_bd h
      refine am_callSx (as := [.inl l1]) (rest := []) dX10_isCall_145 lkX10_isInode ml_X10_317 isX10_isInode rfl (Nat.le_of_ble_eq_true rfl) rfl (sX10_isInode hG hq6) ?_
      refine am_if_eq (tgt := 171) dX10_isCall_148 rfl (fun c => ?_) (fun c => ?_)
      · rw [if_pos c] at h
        exact am_lwJ (lo' := [none, none, none, none, none]) trivial (tX10_isCall_171 hG h)
      · rw [if_neg c] at h
        refine am_iload_n dX10_isCall_151 rfl ?_
        refine am_if_eq (tgt := 171) dX10_isCall_152 rfl (fun c => ?_) (fun c => ?_)
        · rw [if_pos c] at h
          exact am_lwJ (lo' := [none, none, none, none, none]) trivial (tX10_isCall_171 hG h)
        · rw [if_neg c] at h
          refine am_iload_n dX10_isCall_155 rfl ?_
          obtain ⟨q7, hq7, h⟩ := am_bd h
          refine am_callSx (as := [.inl l3]) (rest := []) dX10_isCall_156 lkX10_isInode ml_X10_317 isX10_isInode rfl (Nat.le_of_ble_eq_true rfl) rfl (sX10_isInode hG hq7) ?_
          refine am_if_eq (tgt := 171) dX10_isCall_159 rfl (fun c => ?_) (fun c => ?_)
          · rw [if_pos c] at h
            exact am_lwJ (lo' := [none, none, none, none, none]) trivial (tX10_isCall_171 hG h)
          · rw [if_neg c] at h
            refine am_iload dX10_isCall_162 rfl ?_
            refine am_if_eq (tgt := 171) dX10_isCall_164 rfl (fun c => ?_) (fun c => ?_)
            · rw [if_pos c] at h
              exact am_lwJ (lo' := [none, none, none, none, none]) trivial (tX10_isCall_171 hG h)
            · rw [if_neg c] at h
              refine am_iconst (v := nI 1) dX10_isCall_167 (by decide) ?_
              refine am_goto (tgt := 172) dX10_isCall_168 rfl ?_
              exact am_lwJ (lo' := [none, none, none, none, none]) trivial (tX10_isCall_172 hG h)
    | 5, _, hx =>
      rw [if_neg (show ¬ l0 = nI 0 by rw [hx]; decide), if_neg (show ¬ l0 = nI 1 by rw [hx]; decide), if_neg (show ¬ l0 = nI 2 by rw [hx]; decide), if_neg (show ¬ l0 = nI 3 by rw [hx]; decide), if_neg (show ¬ l0 = nI 4 by rw [hx]; decide)] at h
      rw [if_pos hx] at h
      refine am_tabIn (off := 172) (tgt := 173) dX10_isCall_1 (by rw [hx]; decide) (by rw [hx]; decide) (by rw [hx]; rfl) rfl ?_
      refine am_iload_n dX10_isCall_173 rfl ?_
      obtain ⟨q8, hq8, h⟩ := am_bd h
      refine am_callSx (as := [.inl l1]) (rest := []) dX10_isCall_174 lkX10_isInode ml_X10_317 isX10_isInode rfl (Nat.le_of_ble_eq_true rfl) rfl (sX10_isInode hG hq8) ?_
      refine am_if_eq (tgt := 195) dX10_isCall_177 rfl (fun c => ?_) (fun c => ?_)
      · rw [if_pos c] at h
        exact am_lwJ (lo' := [none, none, none, none, none]) trivial (tX10_isCall_195 hG h)
      · rw [if_neg c] at h
        refine am_iload_n dX10_isCall_180 rfl ?_
        refine am_if_lt (tgt := 195) dX10_isCall_181 rfl (fun c => ?_) (fun c => ?_)
        · rw [if_pos c] at h
          exact am_lwJ (lo' := [none, none, none, none, none]) trivial (tX10_isCall_195 hG h)
        · rw [if_neg c] at h
          refine am_iload_n dX10_isCall_184 rfl ?_
          refine am_sipush (v := nI 384) dX10_isCall_185 (by decide) ?_
          refine am_icmp_ge (tgt := 195) dX10_isCall_188 rfl (fun c => ?_) (fun c => ?_)
          · rw [if_pos c] at h
            exact am_lwJ (lo' := [none, none, none, none, none]) trivial (tX10_isCall_195 hG h)
          · rw [if_neg c] at h
            refine am_iconst (v := nI 1) dX10_isCall_191 (by decide) ?_
            refine am_goto (tgt := 196) dX10_isCall_192 rfl ?_
            exact am_lwJ (lo' := [none, none, none, none, none]) trivial (tX10_isCall_196 hG h)
    | 6, _, hx =>
      rw [if_neg (show ¬ l0 = nI 0 by rw [hx]; decide), if_neg (show ¬ l0 = nI 1 by rw [hx]; decide), if_neg (show ¬ l0 = nI 2 by rw [hx]; decide), if_neg (show ¬ l0 = nI 3 by rw [hx]; decide), if_neg (show ¬ l0 = nI 4 by rw [hx]; decide), if_neg (show ¬ l0 = nI 5 by rw [hx]; decide)] at h
      rw [if_pos hx] at h
      refine am_tabIn (off := 172) (tgt := 173) dX10_isCall_1 (by rw [hx]; decide) (by rw [hx]; decide) (by rw [hx]; rfl) rfl ?_
      refine am_iload_n dX10_isCall_173 rfl ?_
      obtain ⟨q9, hq9, h⟩ := am_bd h
      refine am_callSx (as := [.inl l1]) (rest := []) dX10_isCall_174 lkX10_isInode ml_X10_317 isX10_isInode rfl (Nat.le_of_ble_eq_true rfl) rfl (sX10_isInode hG hq9) ?_
      refine am_if_eq (tgt := 195) dX10_isCall_177 rfl (fun c => ?_) (fun c => ?_)
      · rw [if_pos c] at h
        exact am_lwJ (lo' := [none, none, none, none, none]) trivial (tX10_isCall_195 hG h)
      · rw [if_neg c] at h
        refine am_iload_n dX10_isCall_180 rfl ?_
        refine am_if_lt (tgt := 195) dX10_isCall_181 rfl (fun c => ?_) (fun c => ?_)
        · rw [if_pos c] at h
          exact am_lwJ (lo' := [none, none, none, none, none]) trivial (tX10_isCall_195 hG h)
        · rw [if_neg c] at h
          refine am_iload_n dX10_isCall_184 rfl ?_
          refine am_sipush (v := nI 384) dX10_isCall_185 (by decide) ?_
          refine am_icmp_ge (tgt := 195) dX10_isCall_188 rfl (fun c => ?_) (fun c => ?_)
          · rw [if_pos c] at h
            exact am_lwJ (lo' := [none, none, none, none, none]) trivial (tX10_isCall_195 hG h)
          · rw [if_neg c] at h
            refine am_iconst (v := nI 1) dX10_isCall_191 (by decide) ?_
            refine am_goto (tgt := 196) dX10_isCall_192 rfl ?_
            exact am_lwJ (lo' := [none, none, none, none, none]) trivial (tX10_isCall_196 hG h)
    | 7, _, hx =>
      rw [if_neg (show ¬ l0 = nI 0 by rw [hx]; decide), if_neg (show ¬ l0 = nI 1 by rw [hx]; decide), if_neg (show ¬ l0 = nI 2 by rw [hx]; decide), if_neg (show ¬ l0 = nI 3 by rw [hx]; decide), if_neg (show ¬ l0 = nI 4 by rw [hx]; decide), if_neg (show ¬ l0 = nI 5 by rw [hx]; decide), if_neg (show ¬ l0 = nI 6 by rw [hx]; decide)] at h
      rw [if_pos hx] at h
      refine am_tabIn (off := 196) (tgt := 197) dX10_isCall_1 (by rw [hx]; decide) (by rw [hx]; decide) (by rw [hx]; rfl) rfl ?_
      refine am_iload_n dX10_isCall_197 rfl ?_
      obtain ⟨q10, hq10, h⟩ := am_bd h
      refine am_callSx (as := [.inl l1]) (rest := []) dX10_isCall_198 lkX10_isInode ml_X10_317 isX10_isInode rfl (Nat.le_of_ble_eq_true rfl) rfl (sX10_isInode hG hq10) ?_
      refine am_if_eq (tgt := 219) dX10_isCall_201 rfl (fun c => ?_) (fun c => ?_)
      · rw [if_pos c] at h
        exact am_lwJ (lo' := [none, none, none, none, none]) trivial (tX10_isCall_219 hG h)
      · rw [if_neg c] at h
        refine am_iload_n dX10_isCall_204 rfl ?_
        refine am_if_lt (tgt := 219) dX10_isCall_205 rfl (fun c => ?_) (fun c => ?_)
        · rw [if_pos c] at h
          exact am_lwJ (lo' := [none, none, none, none, none]) trivial (tX10_isCall_219 hG h)
        · rw [if_neg c] at h
          refine am_iload_n dX10_isCall_208 rfl ?_
          refine am_sipush (v := nI 384) dX10_isCall_209 (by decide) ?_
          refine am_icmp_gt (tgt := 219) dX10_isCall_212 rfl (fun c => ?_) (fun c => ?_)
          · rw [if_pos c] at h
            exact am_lwJ (lo' := [none, none, none, none, none]) trivial (tX10_isCall_219 hG h)
          · rw [if_neg c] at h
            refine am_iconst (v := nI 1) dX10_isCall_215 (by decide) ?_
            refine am_goto (tgt := 220) dX10_isCall_216 rfl ?_
            exact am_lwJ (lo' := [none, none, none, none, none]) trivial (tX10_isCall_220 hG h)
    | 8, _, hx =>
      rw [if_neg (show ¬ l0 = nI 0 by rw [hx]; decide), if_neg (show ¬ l0 = nI 1 by rw [hx]; decide), if_neg (show ¬ l0 = nI 2 by rw [hx]; decide), if_neg (show ¬ l0 = nI 3 by rw [hx]; decide), if_neg (show ¬ l0 = nI 4 by rw [hx]; decide), if_neg (show ¬ l0 = nI 5 by rw [hx]; decide), if_neg (show ¬ l0 = nI 6 by rw [hx]; decide), if_neg (show ¬ l0 = nI 7 by rw [hx]; decide)] at h
      rw [if_pos hx] at h
      refine am_tabIn (off := 220) (tgt := 221) dX10_isCall_1 (by rw [hx]; decide) (by rw [hx]; decide) (by rw [hx]; rfl) rfl ?_
      refine am_iload_n dX10_isCall_221 rfl ?_
      obtain ⟨q11, hq11, h⟩ := am_bd h
      refine am_callSx (as := [.inl l1]) (rest := []) dX10_isCall_222 lkX10_isInode ml_X10_317 isX10_isInode rfl (Nat.le_of_ble_eq_true rfl) rfl (sX10_isInode hG hq11) ?_
      refine am_if_eq (tgt := 243) dX10_isCall_225 rfl (fun c => ?_) (fun c => ?_)
      · rw [if_pos c] at h
        exact am_lwJ (lo' := [none, none, none, none, none]) trivial (tX10_isCall_243 hG h)
      · rw [if_neg c] at h
        refine am_iload_n dX10_isCall_228 rfl ?_
        refine am_if_lt (tgt := 243) dX10_isCall_229 rfl (fun c => ?_) (fun c => ?_)
        · rw [if_pos c] at h
          exact am_lwJ (lo' := [none, none, none, none, none]) trivial (tX10_isCall_243 hG h)
        · rw [if_neg c] at h
          refine am_iload_n dX10_isCall_232 rfl ?_
          refine am_sipush (v := nI 192) dX10_isCall_233 (by decide) ?_
          refine am_icmp_ge (tgt := 243) dX10_isCall_236 rfl (fun c => ?_) (fun c => ?_)
          · rw [if_pos c] at h
            exact am_lwJ (lo' := [none, none, none, none, none]) trivial (tX10_isCall_243 hG h)
          · rw [if_neg c] at h
            refine am_iconst (v := nI 1) dX10_isCall_239 (by decide) ?_
            refine am_goto (tgt := 244) dX10_isCall_240 rfl ?_
            exact am_lwJ (lo' := [none, none, none, none, none]) trivial (tX10_isCall_244 hG h)
    | 9, _, hx =>
      rw [if_neg (show ¬ l0 = nI 0 by rw [hx]; decide), if_neg (show ¬ l0 = nI 1 by rw [hx]; decide), if_neg (show ¬ l0 = nI 2 by rw [hx]; decide), if_neg (show ¬ l0 = nI 3 by rw [hx]; decide), if_neg (show ¬ l0 = nI 4 by rw [hx]; decide), if_neg (show ¬ l0 = nI 5 by rw [hx]; decide), if_neg (show ¬ l0 = nI 6 by rw [hx]; decide), if_neg (show ¬ l0 = nI 7 by rw [hx]; decide), if_neg (show ¬ l0 = nI 8 by rw [hx]; decide)] at h
      rw [if_pos hx] at h
      refine am_tabIn (off := 244) (tgt := 245) dX10_isCall_1 (by rw [hx]; decide) (by rw [hx]; decide) (by rw [hx]; rfl) rfl ?_
      refine am_iload_n dX10_isCall_245 rfl ?_
      obtain ⟨q12, hq12, h⟩ := am_bd h
      refine am_callSx (as := [.inl l1]) (rest := []) dX10_isCall_246 lkX10_isInode ml_X10_317 isX10_isInode rfl (Nat.le_of_ble_eq_true rfl) rfl (sX10_isInode hG hq12) ?_
      refine am_if_eq (tgt := 265) dX10_isCall_249 rfl (fun c => ?_) (fun c => ?_)
      · rw [if_pos c] at h
        exact am_lwJ (lo' := [none, none, none, none, none]) trivial (tX10_isCall_265 hG h)
      · rw [if_neg c] at h
        refine am_iload_n dX10_isCall_252 rfl ?_
        refine am_if_lt (tgt := 265) dX10_isCall_253 rfl (fun c => ?_) (fun c => ?_)
        · rw [if_pos c] at h
          exact am_lwJ (lo' := [none, none, none, none, none]) trivial (tX10_isCall_265 hG h)
        · rw [if_neg c] at h
          refine am_iload_n dX10_isCall_256 rfl ?_
          refine am_iconst (v := nI 3) dX10_isCall_257 (by decide) ?_
          refine am_icmp_gt (tgt := 265) dX10_isCall_258 rfl (fun c => ?_) (fun c => ?_)
          · rw [if_pos c] at h
            exact am_lwJ (lo' := [none, none, none, none, none]) trivial (tX10_isCall_265 hG h)
          · rw [if_neg c] at h
            refine am_iconst (v := nI 1) dX10_isCall_261 (by decide) ?_
            refine am_goto (tgt := 266) dX10_isCall_262 rfl ?_
            exact am_lwJ (lo' := [none, none, none, none, none]) trivial (tX10_isCall_266 hG h)
    | 10, _, hx =>
      rw [if_neg (show ¬ l0 = nI 0 by rw [hx]; decide), if_neg (show ¬ l0 = nI 1 by rw [hx]; decide), if_neg (show ¬ l0 = nI 2 by rw [hx]; decide), if_neg (show ¬ l0 = nI 3 by rw [hx]; decide), if_neg (show ¬ l0 = nI 4 by rw [hx]; decide), if_neg (show ¬ l0 = nI 5 by rw [hx]; decide), if_neg (show ¬ l0 = nI 6 by rw [hx]; decide), if_neg (show ¬ l0 = nI 7 by rw [hx]; decide), if_neg (show ¬ l0 = nI 8 by rw [hx]; decide), if_neg (show ¬ l0 = nI 9 by rw [hx]; decide)] at h
      rw [if_pos hx] at h
      refine am_tabIn (off := 271) (tgt := 272) dX10_isCall_1 (by rw [hx]; decide) (by rw [hx]; decide) (by rw [hx]; rfl) rfl ?_
      refine am_iconst (v := nI 1) dX10_isCall_272 (by decide) ?_
      cases h
      exact am_iret dX10_isCall_273 rfl (am_nz (by decide)).1 ⟨rfl, rfl⟩
    | 11, _, hx =>
      rw [if_neg (show ¬ l0 = nI 0 by rw [hx]; decide), if_neg (show ¬ l0 = nI 1 by rw [hx]; decide), if_neg (show ¬ l0 = nI 2 by rw [hx]; decide), if_neg (show ¬ l0 = nI 3 by rw [hx]; decide), if_neg (show ¬ l0 = nI 4 by rw [hx]; decide), if_neg (show ¬ l0 = nI 5 by rw [hx]; decide), if_neg (show ¬ l0 = nI 6 by rw [hx]; decide), if_neg (show ¬ l0 = nI 7 by rw [hx]; decide), if_neg (show ¬ l0 = nI 8 by rw [hx]; decide), if_neg (show ¬ l0 = nI 9 by rw [hx]; decide), if_neg (show ¬ l0 = nI 10 by rw [hx]; decide)] at h
      rw [if_pos hx] at h
      refine am_tabIn (off := 172) (tgt := 173) dX10_isCall_1 (by rw [hx]; decide) (by rw [hx]; decide) (by rw [hx]; rfl) rfl ?_
      refine am_iload_n dX10_isCall_173 rfl ?_
      obtain ⟨q13, hq13, h⟩ := am_bd h
      refine am_callSx (as := [.inl l1]) (rest := []) dX10_isCall_174 lkX10_isInode ml_X10_317 isX10_isInode rfl (Nat.le_of_ble_eq_true rfl) rfl (sX10_isInode hG hq13) ?_
      refine am_if_eq (tgt := 195) dX10_isCall_177 rfl (fun c => ?_) (fun c => ?_)
      · rw [if_pos c] at h
        exact am_lwJ (lo' := [none, none, none, none, none]) trivial (tX10_isCall_195 hG h)
      · rw [if_neg c] at h
        refine am_iload_n dX10_isCall_180 rfl ?_
        refine am_if_lt (tgt := 195) dX10_isCall_181 rfl (fun c => ?_) (fun c => ?_)
        · rw [if_pos c] at h
          exact am_lwJ (lo' := [none, none, none, none, none]) trivial (tX10_isCall_195 hG h)
        · rw [if_neg c] at h
          refine am_iload_n dX10_isCall_184 rfl ?_
          refine am_sipush (v := nI 384) dX10_isCall_185 (by decide) ?_
          refine am_icmp_ge (tgt := 195) dX10_isCall_188 rfl (fun c => ?_) (fun c => ?_)
          · rw [if_pos c] at h
            exact am_lwJ (lo' := [none, none, none, none, none]) trivial (tX10_isCall_195 hG h)
          · rw [if_neg c] at h
            refine am_iconst (v := nI 1) dX10_isCall_191 (by decide) ?_
            refine am_goto (tgt := 196) dX10_isCall_192 rfl ?_
            exact am_lwJ (lo' := [none, none, none, none, none]) trivial (tX10_isCall_196 hG h)
    | 12, _, hx =>
      rw [if_neg (show ¬ l0 = nI 0 by rw [hx]; decide), if_neg (show ¬ l0 = nI 1 by rw [hx]; decide), if_neg (show ¬ l0 = nI 2 by rw [hx]; decide), if_neg (show ¬ l0 = nI 3 by rw [hx]; decide), if_neg (show ¬ l0 = nI 4 by rw [hx]; decide), if_neg (show ¬ l0 = nI 5 by rw [hx]; decide), if_neg (show ¬ l0 = nI 6 by rw [hx]; decide), if_neg (show ¬ l0 = nI 7 by rw [hx]; decide), if_neg (show ¬ l0 = nI 8 by rw [hx]; decide), if_neg (show ¬ l0 = nI 9 by rw [hx]; decide), if_neg (show ¬ l0 = nI 10 by rw [hx]; decide), if_neg (show ¬ l0 = nI 11 by rw [hx]; decide)] at h
      rw [if_pos hx] at h
      refine am_tabIn (off := 266) (tgt := 267) dX10_isCall_1 (by rw [hx]; decide) (by rw [hx]; decide) (by rw [hx]; rfl) rfl ?_
      refine am_iload_n dX10_isCall_267 rfl ?_
      obtain ⟨q14, hq14, h⟩ := am_bd h
      refine am_callSx (as := [.inl l1]) (rest := []) dX10_isCall_268 lkX10_isInode ml_X10_317 isX10_isInode rfl (Nat.le_of_ble_eq_true rfl) rfl (sX10_isInode hG hq14) ?_
      obtain ⟨g15, h⟩ := am_gd_some h
      cases h
      exact am_iret dX10_isCall_271 rfl (am_nz (am_01_of g15)).1 ⟨rfl, rfl⟩
    | 13, _, hx =>
      rw [if_neg (show ¬ l0 = nI 0 by rw [hx]; decide), if_neg (show ¬ l0 = nI 1 by rw [hx]; decide), if_neg (show ¬ l0 = nI 2 by rw [hx]; decide), if_neg (show ¬ l0 = nI 3 by rw [hx]; decide), if_neg (show ¬ l0 = nI 4 by rw [hx]; decide), if_neg (show ¬ l0 = nI 5 by rw [hx]; decide), if_neg (show ¬ l0 = nI 6 by rw [hx]; decide), if_neg (show ¬ l0 = nI 7 by rw [hx]; decide), if_neg (show ¬ l0 = nI 8 by rw [hx]; decide), if_neg (show ¬ l0 = nI 9 by rw [hx]; decide), if_neg (show ¬ l0 = nI 10 by rw [hx]; decide), if_neg (show ¬ l0 = nI 11 by rw [hx]; decide), if_neg (show ¬ l0 = nI 12 by rw [hx]; decide)] at h
      rw [if_pos hx] at h
      refine am_tabIn (off := 266) (tgt := 267) dX10_isCall_1 (by rw [hx]; decide) (by rw [hx]; decide) (by rw [hx]; rfl) rfl ?_
      refine am_iload_n dX10_isCall_267 rfl ?_
      obtain ⟨q16, hq16, h⟩ := am_bd h
      refine am_callSx (as := [.inl l1]) (rest := []) dX10_isCall_268 lkX10_isInode ml_X10_317 isX10_isInode rfl (Nat.le_of_ble_eq_true rfl) rfl (sX10_isInode hG hq16) ?_
      obtain ⟨g17, h⟩ := am_gd_some h
      cases h
      exact am_iret dX10_isCall_271 rfl (am_nz (am_01_of g17)).1 ⟨rfl, rfl⟩
    | 14, _, hx =>
      rw [if_neg (show ¬ l0 = nI 0 by rw [hx]; decide), if_neg (show ¬ l0 = nI 1 by rw [hx]; decide), if_neg (show ¬ l0 = nI 2 by rw [hx]; decide), if_neg (show ¬ l0 = nI 3 by rw [hx]; decide), if_neg (show ¬ l0 = nI 4 by rw [hx]; decide), if_neg (show ¬ l0 = nI 5 by rw [hx]; decide), if_neg (show ¬ l0 = nI 6 by rw [hx]; decide), if_neg (show ¬ l0 = nI 7 by rw [hx]; decide), if_neg (show ¬ l0 = nI 8 by rw [hx]; decide), if_neg (show ¬ l0 = nI 9 by rw [hx]; decide), if_neg (show ¬ l0 = nI 10 by rw [hx]; decide), if_neg (show ¬ l0 = nI 11 by rw [hx]; decide), if_neg (show ¬ l0 = nI 12 by rw [hx]; decide), if_neg (show ¬ l0 = nI 13 by rw [hx]; decide)] at h
      rw [if_pos hx] at h
      refine am_tabIn (off := 271) (tgt := 272) dX10_isCall_1 (by rw [hx]; decide) (by rw [hx]; decide) (by rw [hx]; rfl) rfl ?_
      refine am_iconst (v := nI 1) dX10_isCall_272 (by decide) ?_
      cases h
      exact am_iret dX10_isCall_273 rfl (am_nz (by decide)).1 ⟨rfl, rfl⟩
    | m + 15, hm, _ => exact absurd hm (by omega)
  · rw [if_neg (am_swd (k := 0) hx (by decide) (by decide)), if_neg (am_swd (k := 1) hx (by decide) (by decide)), if_neg (am_swd (k := 2) hx (by decide) (by decide)), if_neg (am_swd (k := 3) hx (by decide) (by decide)), if_neg (am_swd (k := 4) hx (by decide) (by decide)), if_neg (am_swd (k := 5) hx (by decide) (by decide)), if_neg (am_swd (k := 6) hx (by decide) (by decide)), if_neg (am_swd (k := 7) hx (by decide) (by decide)), if_neg (am_swd (k := 8) hx (by decide) (by decide)), if_neg (am_swd (k := 9) hx (by decide) (by decide)), if_neg (am_swd (k := 10) hx (by decide) (by decide)), if_neg (am_swd (k := 11) hx (by decide) (by decide)), if_neg (am_swd (k := 12) hx (by decide) (by decide)), if_neg (am_swd (k := 13) hx (by decide) (by decide)), if_neg (am_swd (k := 14) hx (by decide) (by decide))] at h
    refine am_tabOut (tgt := 274) dX10_isCall_1 (by omega) rfl ?_
    refine am_iconst (v := nI 0) dX10_isCall_274 (by decide) ?_
    cases h
    exact am_iret dX10_isCall_275 rfl (am_nz (by decide)).1 ⟨rfl, rfl⟩
def gX10_isCall (n : Nat) (l0 : Int32) (l1 : Int32) (l2 : Int32) (l3 : Int32) (l4 : Int32) (I : am_I) : Option (Int32 × am_I) := bX10_isCall_0 n l0 l1 l2 l3 l4 I
theorem sX10_isCall {G : am_G} (hG : am_ok G) {d : Nat} {l0 : Int32} {l1 : Int32} {l2 : Int32} {l3 : Int32} {l4 : Int32} {I : am_I} {r : Int32 × am_I} (h : gX10_isCall G.2.2.2.1 l0 l1 l2 l3 l4 I = some r) : am_C G (d + 1) mX10_isCall [.inl l0, .inl l1, .inl l2, .inl l3, .inl l4] I (am_E (some r.1) r.2) :=
  am_of (by decide +kernel) hG.nd (Nat.le_of_ble_eq_true rfl) (am_lwJ (lo' := [some (.inl l0), some (.inl l1), some (.inl l2), some (.inl l3), some (.inl l4)]) ⟨rfl, rfl, rfl, rfl, rfl, trivial⟩ (tX10_isCall_0 hG h))
def bX8_begin_0 (n : Nat) (l0 : Nat) (l1 : Int32) (l2 : Int32) (I : am_I) : Option (am_I) := am_lt (am_up I l0 55 0 l1) (fun I1 => am_lt (am_up I1 l0 55 5 (nI 1)) (fun I2 => am_lt (am_up I2 l0 55 6 (nI 0)) (fun I3 => am_lt (am_up I3 l0 55 7 l2) (fun I4 => am_lt (am_up I4 l0 55 8 (nI 0)) (fun I5 => am_lt (am_up I5 l0 55 9 (nI 0)) (fun I6 => am_lt (am_up I6 l0 55 10 (nI 0)) (fun I7 => am_lt (am_up I7 l0 55 11 (nI 0)) (fun I8 => some I8))))))))
theorem tX8_begin_0 {G : am_G} (hG : am_ok G) {d : Nat} {l0 : Nat} {l1 : Int32} {l2 : Int32} (hl0 : l0 < G.2.2.2.1) {I : am_I} {r : am_I} (h : bX8_begin_0 G.2.2.2.1 l0 l1 l2  I = some r) : am_J G d mX8_begin am_no (am_E none r) 0 [some (.inr (l0, 55)), some (.inl l1), some (.inl l2)] [] I := by
  unfold bX8_begin_0 at h
  refine am_aload_n dX8_begin_0 rfl ?_
  refine am_iload_n dX8_begin_1 rfl ?_
  refine am_put (x := l1) dX8_begin_2 fp_8_9 (hG.mn hl0 (by decide) (by decide)) (Nat.le_of_ble_eq_true rfl) rfl ?_
  obtain ⟨I1, hI1, h⟩ := am_lt_some h
  refine am_st10 hI1 ?_
  refine am_aload_n dX8_begin_5 rfl ?_
  refine am_iconst (v := nI 1) dX8_begin_6 (by decide) ?_
  refine am_put (x := nI 1) dX8_begin_7 fp_8_15 (hG.mn hl0 (by decide) (by decide)) (Nat.le_of_ble_eq_true rfl) rfl ?_
  obtain ⟨I2, hI2, h⟩ := am_lt_some h
  refine am_st10 hI2 ?_
  refine am_aload_n dX8_begin_10 rfl ?_
  refine am_iconst (v := nI 0) dX8_begin_11 (by decide) ?_
  refine am_put (x := nI 0) dX8_begin_12 fp_8_18 (hG.mn hl0 (by decide) (by decide)) (Nat.le_of_ble_eq_true rfl) rfl ?_
  obtain ⟨I3, hI3, h⟩ := am_lt_some h
  refine am_st10 hI3 ?_
  refine am_aload_n dX8_begin_15 rfl ?_
  refine am_iload_n dX8_begin_16 rfl ?_
  refine am_put (x := l2) dX8_begin_17 fp_8_21 (hG.mn hl0 (by decide) (by decide)) (Nat.le_of_ble_eq_true rfl) rfl ?_
  obtain ⟨I4, hI4, h⟩ := am_lt_some h
  refine am_st10 hI4 ?_
  refine am_aload_n dX8_begin_20 rfl ?_
  refine am_iconst (v := nI 0) dX8_begin_21 (by decide) ?_
  refine am_put (x := nI 0) dX8_begin_22 fp_8_24 (hG.mn hl0 (by decide) (by decide)) (Nat.le_of_ble_eq_true rfl) rfl ?_
  obtain ⟨I5, hI5, h⟩ := am_lt_some h
  refine am_st10 hI5 ?_
  refine am_aload_n dX8_begin_25 rfl ?_
  refine am_iconst (v := nI 0) dX8_begin_26 (by decide) ?_
  refine am_put (x := nI 0) dX8_begin_27 fp_8_27 (hG.mn hl0 (by decide) (by decide)) (Nat.le_of_ble_eq_true rfl) rfl ?_
  obtain ⟨I6, hI6, h⟩ := am_lt_some h
  refine am_st10 hI6 ?_
  refine am_aload_n dX8_begin_30 rfl ?_
  refine am_iconst (v := nI 0) dX8_begin_31 (by decide) ?_
  refine am_put (x := nI 0) dX8_begin_32 fp_8_30 (hG.mn hl0 (by decide) (by decide)) (Nat.le_of_ble_eq_true rfl) rfl ?_
  obtain ⟨I7, hI7, h⟩ := am_lt_some h
  refine am_st10 hI7 ?_
  refine am_aload_n dX8_begin_35 rfl ?_
  refine am_iconst (v := nI 0) dX8_begin_36 (by decide) ?_
  refine am_putz (x := nI 0) dX8_begin_37 fp_8_33 (hG.mn hl0 (by decide) (by decide)) (by decide) (Nat.le_of_ble_eq_true rfl) rfl ?_
  obtain ⟨I8, hI8, h⟩ := am_lt_some h
  refine am_st10 hI8 ?_
  cases h
  exact am_vret dX8_begin_40 rfl ⟨rfl, rfl⟩
def gX8_begin (n : Nat) (l0 : Nat) (l1 : Int32) (l2 : Int32) (I : am_I) : Option (am_I) := bX8_begin_0 n l0 l1 l2 I
theorem sX8_begin {G : am_G} (hG : am_ok G) {d : Nat} {l0 : Nat} {l1 : Int32} {l2 : Int32} (hl0 : l0 < G.2.2.2.1) {I : am_I} {r : am_I} (h : gX8_begin G.2.2.2.1 l0 l1 l2 I = some r) : am_C G d mX8_begin [.inr (l0, 55), .inl l1, .inl l2] I (am_E none r) :=
  am_of (by decide +kernel) hG.nd (Nat.le_of_ble_eq_true rfl) (am_lwJ (lo' := [some (.inr (l0, 55)), some (.inl l1), some (.inl l2)]) ⟨rfl, rfl, rfl, trivial⟩ (tX8_begin_0 hG hl0 h))
def bX8_take_0 (n : Nat) (l0 : Nat) (l1 : Int32) (l2 : Int32) (l3 : Int32) (l4 : Int32) (I : am_I) : Option (am_I) := am_lt (am_up I l0 55 1 l1) (fun I1 => am_lt (am_up I1 l0 55 2 l2) (fun I2 => am_lt (am_up I2 l0 55 3 l3) (fun I3 => am_lt (am_up I3 l0 55 4 l4) (fun I4 => some I4))))
theorem tX8_take_0 {G : am_G} (hG : am_ok G) {d : Nat} {l0 : Nat} {l1 : Int32} {l2 : Int32} {l3 : Int32} {l4 : Int32} (hl0 : l0 < G.2.2.2.1) {I : am_I} {r : am_I} (h : bX8_take_0 G.2.2.2.1 l0 l1 l2 l3 l4  I = some r) : am_J G d mX8_take am_no (am_E none r) 0 [some (.inr (l0, 55)), some (.inl l1), some (.inl l2), some (.inl l3), some (.inl l4)] [] I := by
  unfold bX8_take_0 at h
  refine am_aload_n dX8_take_0 rfl ?_
  refine am_iload_n dX8_take_1 rfl ?_
  refine am_put (x := l1) dX8_take_2 fp_8_37 (hG.mn hl0 (by decide) (by decide)) (Nat.le_of_ble_eq_true rfl) rfl ?_
  obtain ⟨I1, hI1, h⟩ := am_lt_some h
  refine am_st10 hI1 ?_
  refine am_aload_n dX8_take_5 rfl ?_
  refine am_iload_n dX8_take_6 rfl ?_
  refine am_put (x := l2) dX8_take_7 fp_8_40 (hG.mn hl0 (by decide) (by decide)) (Nat.le_of_ble_eq_true rfl) rfl ?_
  obtain ⟨I2, hI2, h⟩ := am_lt_some h
  refine am_st10 hI2 ?_
  refine am_aload_n dX8_take_10 rfl ?_
  refine am_iload_n dX8_take_11 rfl ?_
  refine am_put (x := l3) dX8_take_12 fp_8_43 (hG.mn hl0 (by decide) (by decide)) (Nat.le_of_ble_eq_true rfl) rfl ?_
  obtain ⟨I3, hI3, h⟩ := am_lt_some h
  refine am_st10 hI3 ?_
  refine am_aload_n dX8_take_15 rfl ?_
  refine am_iload dX8_take_16 rfl ?_
  refine am_put (x := l4) dX8_take_18 fp_8_46 (hG.mn hl0 (by decide) (by decide)) (Nat.le_of_ble_eq_true rfl) rfl ?_
  obtain ⟨I4, hI4, h⟩ := am_lt_some h
  refine am_st10 hI4 ?_
  cases h
  exact am_vret dX8_take_21 rfl ⟨rfl, rfl⟩
def gX8_take (n : Nat) (l0 : Nat) (l1 : Int32) (l2 : Int32) (l3 : Int32) (l4 : Int32) (I : am_I) : Option (am_I) := bX8_take_0 n l0 l1 l2 l3 l4 I
theorem sX8_take {G : am_G} (hG : am_ok G) {d : Nat} {l0 : Nat} {l1 : Int32} {l2 : Int32} {l3 : Int32} {l4 : Int32} (hl0 : l0 < G.2.2.2.1) {I : am_I} {r : am_I} (h : gX8_take G.2.2.2.1 l0 l1 l2 l3 l4 I = some r) : am_C G d mX8_take [.inr (l0, 55), .inl l1, .inl l2, .inl l3, .inl l4] I (am_E none r) :=
  am_of (by decide +kernel) hG.nd (Nat.le_of_ble_eq_true rfl) (am_lwJ (lo' := [some (.inr (l0, 55)), some (.inl l1), some (.inl l2), some (.inl l3), some (.inl l4)]) ⟨rfl, rfl, rfl, rfl, rfl, trivial⟩ (tX8_take_0 hG hl0 h))
def bX3_isFlushing_12 (n : Nat) (s0 : Int32) (I : am_I) : Option (Int32 × am_I) := am_gd (am_01 s0) (some (s0, I))
theorem tX3_isFlushing_12 {G : am_G} (hG : am_ok G) {d : Nat} {s0 : Int32} {I : am_I} {r : Int32 × am_I} (h : bX3_isFlushing_12 G.2.2.2.1 s0  I = some r) : am_J G d mX3_isFlushing am_no (am_E (some r.1) r.2) 12 [none] [.inl s0] I := by
  unfold bX3_isFlushing_12 at h
  obtain ⟨g1, h⟩ := am_gd_some h
  cases h
  exact am_iret dX3_isFlushing_12 rfl (am_nz (am_01_of g1)).1 ⟨rfl, rfl⟩
def bX3_isFlushing_0 (n : Nat) (l0 : Nat) (I : am_I) : Option (Int32 × am_I) := if (I l0 44 5) ≤ 0 then (bX3_isFlushing_12 n (nI 0) I) else (bX3_isFlushing_12 n (nI 1) I)
theorem tX3_isFlushing_0 {G : am_G} (hG : am_ok G) {d : Nat} {l0 : Nat} (hl0 : l0 < G.2.2.2.1) {I : am_I} {r : Int32 × am_I} (h : bX3_isFlushing_0 G.2.2.2.1 l0  I = some r) : am_J G d mX3_isFlushing am_no (am_E (some r.1) r.2) 0 [some (.inr (l0, 44))] [] I := by
  unfold bX3_isFlushing_0 at h
  refine am_aload_n dX3_isFlushing_0 rfl ?_
  refine am_get (v := .inl (I l0 44 5)) dX3_isFlushing_1 fl_3_25 (hG.mn hl0 (by decide) (by decide)) rfl ?_
  refine am_if_le (tgt := 11) dX3_isFlushing_4 rfl (fun c => ?_) (fun c => ?_)
  · rw [if_pos c] at h
    refine am_iconst (v := nI 0) dX3_isFlushing_11 (by decide) ?_
    exact am_lwJ (lo' := [none]) trivial (tX3_isFlushing_12 hG h)
  · rw [if_neg c] at h
    refine am_iconst (v := nI 1) dX3_isFlushing_7 (by decide) ?_
    refine am_goto (tgt := 12) dX3_isFlushing_8 rfl ?_
    exact am_lwJ (lo' := [none]) trivial (tX3_isFlushing_12 hG h)
def gX3_isFlushing (n : Nat) (l0 : Nat) (I : am_I) : Option (Int32 × am_I) := bX3_isFlushing_0 n l0 I
theorem sX3_isFlushing {G : am_G} (hG : am_ok G) {d : Nat} {l0 : Nat} (hl0 : l0 < G.2.2.2.1) {I : am_I} {r : Int32 × am_I} (h : gX3_isFlushing G.2.2.2.1 l0 I = some r) : am_C G d mX3_isFlushing [.inr (l0, 44)] I (am_E (some r.1) r.2) :=
  am_of (by decide +kernel) hG.nd (Nat.le_of_ble_eq_true rfl) (am_lwJ (lo' := [some (.inr (l0, 44))]) ⟨rfl, trivial⟩ (tX3_isFlushing_0 hG hl0 h))
def bX3_isIdle_19 (n : Nat) (s0 : Int32) (I : am_I) : Option (Int32 × am_I) := am_gd (am_01 s0) (some (s0, I))
theorem tX3_isIdle_19 {G : am_G} (hG : am_ok G) {d : Nat} {s0 : Int32} {I : am_I} {r : Int32 × am_I} (h : bX3_isIdle_19 G.2.2.2.1 s0  I = some r) : am_J G d mX3_isIdle am_no (am_E (some r.1) r.2) 19 [none] [.inl s0] I := by
  unfold bX3_isIdle_19 at h
  obtain ⟨g1, h⟩ := am_gd_some h
  cases h
  exact am_iret dX3_isIdle_19 rfl (am_nz (am_01_of g1)).1 ⟨rfl, rfl⟩
def bX3_isIdle_18 (n : Nat) (I : am_I) : Option (Int32 × am_I) := bX3_isIdle_19 n (nI 0) I
theorem tX3_isIdle_18 {G : am_G} (hG : am_ok G) {d : Nat} {I : am_I} {r : Int32 × am_I} (h : bX3_isIdle_18 G.2.2.2.1  I = some r) : am_J G d mX3_isIdle am_no (am_E (some r.1) r.2) 18 [none] [] I := by
  unfold bX3_isIdle_18 at h
  refine am_iconst (v := nI 0) dX3_isIdle_18 (by decide) ?_
  exact am_lwJ (lo' := [none]) trivial (tX3_isIdle_19 hG h)
def bX3_isIdle_0 (n : Nat) (l0 : Nat) (I : am_I) : Option (Int32 × am_I) := if (I l0 44 5) = 0 then (if (I l0 44 2) = 0 then (bX3_isIdle_19 n (nI 1) I) else (bX3_isIdle_18 n I)) else (bX3_isIdle_18 n I)
theorem tX3_isIdle_0 {G : am_G} (hG : am_ok G) {d : Nat} {l0 : Nat} (hl0 : l0 < G.2.2.2.1) {I : am_I} {r : Int32 × am_I} (h : bX3_isIdle_0 G.2.2.2.1 l0  I = some r) : am_J G d mX3_isIdle am_no (am_E (some r.1) r.2) 0 [some (.inr (l0, 44))] [] I := by
  unfold bX3_isIdle_0 at h
  refine am_aload_n dX3_isIdle_0 rfl ?_
  refine am_get (v := .inl (I l0 44 5)) dX3_isIdle_1 fl_3_25 (hG.mn hl0 (by decide) (by decide)) rfl ?_
  refine am_if_ne (tgt := 18) dX3_isIdle_4 rfl (fun c => ?_) (fun c => ?_)
  · rw [if_neg c] at h
    exact am_lwJ (lo' := [none]) trivial (tX3_isIdle_18 hG h)
  · rw [if_pos c] at h
    refine am_aload_n dX3_isIdle_7 rfl ?_
    refine am_get (v := .inl (I l0 44 2)) dX3_isIdle_8 fl_3_28 (hG.mn hl0 (by decide) (by decide)) rfl ?_
    refine am_if_ne (tgt := 18) dX3_isIdle_11 rfl (fun c => ?_) (fun c => ?_)
    · rw [if_neg c] at h
      exact am_lwJ (lo' := [none]) trivial (tX3_isIdle_18 hG h)
    · rw [if_pos c] at h
      refine am_iconst (v := nI 1) dX3_isIdle_14 (by decide) ?_
      refine am_goto (tgt := 19) dX3_isIdle_15 rfl ?_
      exact am_lwJ (lo' := [none]) trivial (tX3_isIdle_19 hG h)
def gX3_isIdle (n : Nat) (l0 : Nat) (I : am_I) : Option (Int32 × am_I) := bX3_isIdle_0 n l0 I
theorem sX3_isIdle {G : am_G} (hG : am_ok G) {d : Nat} {l0 : Nat} (hl0 : l0 < G.2.2.2.1) {I : am_I} {r : Int32 × am_I} (h : gX3_isIdle G.2.2.2.1 l0 I = some r) : am_C G d mX3_isIdle [.inr (l0, 44)] I (am_E (some r.1) r.2) :=
  am_of (by decide +kernel) hG.nd (Nat.le_of_ble_eq_true rfl) (am_lwJ (lo' := [some (.inr (l0, 44))]) ⟨rfl, trivial⟩ (tX3_isIdle_0 hG hl0 h))
def bX3_open_10 (n : Nat) : Nat → Nat → Nat → Int32 → Int32 → am_I → Option (am_I)
  | 0, _, _, _, _, _ => none
  | fu + 1, l0, l1, l2, l3, I => (fun k10 => if (I l0 44 2) ≤ l3 then (am_lt (am_up I l0 44 5 (I l0 44 2)) (fun I1 => am_lt (am_up I1 l0 44 2 (nI 0)) (fun I2 => am_lt (am_up I2 l0 44 6 (nI 0)) (fun I3 => am_lt (am_up I3 l0 44 7 ((I3 l0 44 7) + (nI 1))) (fun I4 => am_lt (am_up I4 l0 44 8 l2) (fun I5 => some I5)))))) else (am_gd (am_inb l3 16) (am_gd (am_inb l3 16) (am_lt (am_up I l0 46 l3.toNatClampNeg (I l0 45 l3.toNatClampNeg)) (fun I8 => am_gd (am_inb l3 16) (am_gd (am_cpb ((I8 l0 45 l3.toNatClampNeg) * (nI 16)) (l3 * (nI 16)) (nI 16) 10240 256) (am_lt (am_upf I8 l0 47 (va_cpy (I8 l1 42) (I8 l0 47) ((I8 l0 45 l3.toNatClampNeg) * (nI 16)).toNatClampNeg (l3 * (nI 16)).toNatClampNeg (nI 16).toNatClampNeg)) (fun I11 => k10 l0 l1 l2 (l3 + nI 1) I11)))))))) (bX3_open_10 n fu)
theorem tX3_open_10 {G : am_G} (hG : am_ok G) {d : Nat} : ∀ {fu : Nat} {l0 : Nat} {l1 : Nat} {l2 : Int32} {l3 : Int32} (hl0 : l0 < G.2.2.2.1) (hl1 : l1 < G.2.2.2.1) {I : am_I} {r : am_I}, bX3_open_10 G.2.2.2.1 fu l0 l1 l2 l3 I = some r → am_J G (d + 1) mX3_open am_no (am_E none r) 10 [some (.inr (l0, 44)), some (.inr (l1, 41)), some (.inl l2), some (.inl l3)] [] I := by
  intro fu
  induction fu with
  | zero => intro l0 l1 l2 l3 hl0 hl1 I r h; cases h
  | succ fu ih =>
    intro l0 l1 l2 l3 hl0 hl1 I r h
    have hk10 : ∀ (l0 : Nat) (l1 : Nat) (l2 : Int32) (l3 : Int32) (hl0 : l0 < G.2.2.2.1) (hl1 : l1 < G.2.2.2.1) (I : am_I) (r : am_I), bX3_open_10 G.2.2.2.1 fu l0 l1 l2 l3 I = some r → am_J G (d + 1) mX3_open am_no (am_E none r) 10 [some (.inr (l0, 44)), some (.inr (l1, 41)), some (.inl l2), some (.inl l3)] [] I := fun l0 l1 l2 l3 hl0 hl1 I r h => ih hl0 hl1 h
    unfold bX3_open_10 at h
    generalize bX3_open_10 G.2.2.2.1 fu = k10 at hk10 h
    dsimp only at h
    refine am_iload_n dX3_open_10 rfl ?_
    refine am_aload_n dX3_open_11 rfl ?_
    refine am_get (v := .inl (I l0 44 2)) dX3_open_12 fl_3_28 (hG.mn hl0 (by decide) (by decide)) rfl ?_
    refine am_icmp_ge (tgt := 62) dX3_open_15 rfl (fun c => ?_) (fun c => ?_)
    · rw [if_pos c] at h
      refine am_aload_n dX3_open_62 rfl ?_
      refine am_aload_n dX3_open_63 rfl ?_
      refine am_get (v := .inl (I l0 44 2)) dX3_open_64 fl_3_28 (hG.mn hl0 (by decide) (by decide)) rfl ?_
      refine am_put (x := I l0 44 2) dX3_open_67 fp_3_25 (hG.mn hl0 (by decide) (by decide)) (Nat.le_of_ble_eq_true rfl) rfl ?_
      obtain ⟨I1, hI1, h⟩ := am_lt_some h
      refine am_st10 hI1 ?_
      refine am_aload_n dX3_open_70 rfl ?_
      refine am_iconst (v := nI 0) dX3_open_71 (by decide) ?_
      refine am_put (x := nI 0) dX3_open_72 fp_3_28 (hG.mn hl0 (by decide) (by decide)) (Nat.le_of_ble_eq_true rfl) rfl ?_
      obtain ⟨I2, hI2, h⟩ := am_lt_some h
      refine am_st10 hI2 ?_
      refine am_aload_n dX3_open_75 rfl ?_
      refine am_iconst (v := nI 0) dX3_open_76 (by decide) ?_
      refine am_put (x := nI 0) dX3_open_77 fp_3_31 (hG.mn hl0 (by decide) (by decide)) (Nat.le_of_ble_eq_true rfl) rfl ?_
      obtain ⟨I3, hI3, h⟩ := am_lt_some h
      refine am_st10 hI3 ?_
      refine am_aload_n dX3_open_80 rfl ?_
      refine am_dup dX3_open_81 ?_
      refine am_get (v := .inl (I3 l0 44 7)) dX3_open_82 fl_3_47 (hG.mn hl0 (by decide) (by decide)) rfl ?_
      refine am_iconst (v := nI 1) dX3_open_85 (by decide) ?_
      refine am_iadd dX3_open_86 ?_
      refine am_put (x := (I3 l0 44 7) + (nI 1)) dX3_open_87 fp_3_47 (hG.mn hl0 (by decide) (by decide)) (Nat.le_of_ble_eq_true rfl) rfl ?_
      obtain ⟨I4, hI4, h⟩ := am_lt_some h
      refine am_st10 hI4 ?_
      refine am_aload_n dX3_open_90 rfl ?_
      refine am_iload_n dX3_open_91 rfl ?_
      refine am_put (x := l2) dX3_open_92 fp_3_50 (hG.mn hl0 (by decide) (by decide)) (Nat.le_of_ble_eq_true rfl) rfl ?_
      obtain ⟨I5, hI5, h⟩ := am_lt_some h
      refine am_st10 hI5 ?_
      cases h
      exact am_vret dX3_open_95 rfl ⟨rfl, rfl⟩
    · rw [if_neg c] at h
      refine am_aload_n dX3_open_18 rfl ?_
      refine am_get (v := .inr (l0, 46)) dX3_open_19 fl_3_15 (hG.mn hl0 (by decide) (by decide)) rfl ?_
      refine am_iload_n dX3_open_22 rfl ?_
      refine am_aload_n dX3_open_23 rfl ?_
      refine am_get (v := .inr (l0, 45)) dX3_open_24 fl_3_9 (hG.mn hl0 (by decide) (by decide)) rfl ?_
      refine am_iload_n dX3_open_27 rfl ?_
      obtain ⟨g6, h⟩ := am_gd_some h
      refine am_ialdG dX3_open_28 (hG.mn hl0 (by decide) (by decide)) rfl g6 (show 16 < 2 ^ 31 by decide) ?_
      obtain ⟨g7, h⟩ := am_gd_some h
      refine am_iastG dX3_open_29 (hG.mn hl0 (by decide) (by decide)) rfl g7 (show 16 < 2 ^ 31 by decide) ?_
      obtain ⟨I8, hI8, h⟩ := am_lt_some h
      refine am_st10 hI8 ?_
      refine am_aload_n dX3_open_30 rfl ?_
      refine am_get (v := .inr (l1, 42)) dX3_open_31 fl_3_38 (hG.mn hl1 (by decide) (by decide)) rfl ?_
      refine am_aload_n dX3_open_34 rfl ?_
      refine am_get (v := .inr (l0, 45)) dX3_open_35 fl_3_9 (hG.mn hl0 (by decide) (by decide)) rfl ?_
      refine am_iload_n dX3_open_38 rfl ?_
      obtain ⟨g9, h⟩ := am_gd_some h
      refine am_ialdG dX3_open_39 (hG.mn hl0 (by decide) (by decide)) rfl g9 (show 16 < 2 ^ 31 by decide) ?_
      refine am_bipush (v := nI 16) dX3_open_40 (by decide) ?_
      refine am_imul dX3_open_42 ?_
      refine am_aload_n dX3_open_43 rfl ?_
      refine am_get (v := .inr (l0, 47)) dX3_open_44 fl_3_18 (hG.mn hl0 (by decide) (by decide)) rfl ?_
      refine am_iload_n dX3_open_47 rfl ?_
      refine am_bipush (v := nI 16) dX3_open_48 (by decide) ?_
      refine am_imul dX3_open_50 ?_
      refine am_bipush (v := nI 16) dX3_open_51 (by decide) ?_
      obtain ⟨g10, h⟩ := am_gd_some h
      refine am_copy (rest := []) dX3_open_53 ml_X3_41 (hG.mn hl1 (by decide) (by decide)) (hG.mn hl0 (by decide) (by decide)) rfl rfl g10 (Nat.le_of_ble_eq_true rfl) ?_
      obtain ⟨I11, hI11, h⟩ := am_lt_some h
      refine am_st10 hI11 ?_
      refine am_iinc (v := l3 + nI 1) dX3_open_56 rfl rfl ?_
      refine am_goto (tgt := 10) dX3_open_59 rfl ?_
      exact am_lwJ (lo' := [some (.inr (l0, 44)), some (.inr (l1, 41)), some (.inl l2), some (.inl (l3 + nI 1))]) ⟨rfl, rfl, rfl, rfl, trivial⟩ (hk10 l0 l1 l2 (l3 + nI 1) hl0 hl1 _ _ h)
def bX3_open_0 (n : Nat) (l0 : Nat) (l1 : Nat) (l2 : Int32) (I : am_I) : Option (am_I) := if (I l0 44 2) = 0 then (some I) else (bX3_open_10 n am_fu l0 l1 l2 (nI 0) I)
theorem tX3_open_0 {G : am_G} (hG : am_ok G) {d : Nat} {l0 : Nat} {l1 : Nat} {l2 : Int32} (hl0 : l0 < G.2.2.2.1) (hl1 : l1 < G.2.2.2.1) {I : am_I} {r : am_I} (h : bX3_open_0 G.2.2.2.1 l0 l1 l2  I = some r) : am_J G (d + 1) mX3_open am_no (am_E none r) 0 [some (.inr (l0, 44)), some (.inr (l1, 41)), some (.inl l2), none] [] I := by
  unfold bX3_open_0 at h
  refine am_aload_n dX3_open_0 rfl ?_
  refine am_get (v := .inl (I l0 44 2)) dX3_open_1 fl_3_28 (hG.mn hl0 (by decide) (by decide)) rfl ?_
  refine am_if_ne (tgt := 8) dX3_open_4 rfl (fun c => ?_) (fun c => ?_)
  · rw [if_neg c] at h
    refine am_iconst (v := nI 0) dX3_open_8 (by decide) ?_
    refine am_istore_n dX3_open_9 (by decide) ?_
    exact am_lwJ (lo' := [some (.inr (l0, 44)), some (.inr (l1, 41)), some (.inl l2), some (.inl (nI 0))]) ⟨rfl, rfl, rfl, rfl, trivial⟩ (tX3_open_10 hG hl0 hl1 h)
  · rw [if_pos c] at h
    cases h
    exact am_vret dX3_open_7 rfl ⟨rfl, rfl⟩
def gX3_open (n : Nat) (l0 : Nat) (l1 : Nat) (l2 : Int32) (I : am_I) : Option (am_I) := bX3_open_0 n l0 l1 l2 I
theorem sX3_open {G : am_G} (hG : am_ok G) {d : Nat} {l0 : Nat} {l1 : Nat} {l2 : Int32} (hl0 : l0 < G.2.2.2.1) (hl1 : l1 < G.2.2.2.1) {I : am_I} {r : am_I} (h : gX3_open G.2.2.2.1 l0 l1 l2 I = some r) : am_C G (d + 1) mX3_open [.inr (l0, 44), .inr (l1, 41), .inl l2] I (am_E none r) :=
  am_of (by decide +kernel) hG.nd (Nat.le_of_ble_eq_true rfl) (am_lwJ (lo' := [some (.inr (l0, 44)), some (.inr (l1, 41)), some (.inl l2), none]) ⟨rfl, rfl, rfl, trivial⟩ (tX3_open_0 hG hl0 hl1 h))
def bX10_beginFlush_28 (n : Nat) (I : am_I) : Option (am_I) := some I
theorem tX10_beginFlush_28 {G : am_G} (hG : am_ok G) {d : Nat} {I : am_I} {r : am_I} (h : bX10_beginFlush_28 G.2.2.2.1  I = some r) : am_J G (d + 2) mX10_beginFlush am_no (am_E none r) 28 [none, none] [] I := by
  unfold bX10_beginFlush_28 at h
  cases h
  exact am_vret dX10_beginFlush_28 rfl ⟨rfl, rfl⟩
def bX10_beginFlush_0 (n : Nat) (l1 : Nat) (I : am_I) : Option (am_I) := (gX3_isFlushing n l1 I).bind (fun q1 => if q1.1 = 0 then ((gX3_open n l1 l1 (q1.2 0 13 1) q1.2).bind (fun q2 => bX10_beginFlush_28 n q2)) else (bX10_beginFlush_28 n q1.2))
theorem tX10_beginFlush_0 {G : am_G} (hG : am_ok G) {d : Nat} {l1 : Nat} (hl1 : l1 < G.2.2.2.1) {I : am_I} {r : am_I} (h : bX10_beginFlush_0 G.2.2.2.1 l1  I = some r) : am_J G (d + 2) mX10_beginFlush am_no (am_E none r) 0 [some (.inr (0, 0)), some (.inr (l1, 40))] [] I := by
  unfold bX10_beginFlush_0 at h
  refine am_aload_n dX10_beginFlush_0 rfl ?_
  refine am_get (v := .inr (l1, 44)) dX10_beginFlush_1 fl_10_284 (hG.mn hl1 (by decide) (by decide)) rfl ?_
  obtain ⟨q1, hq1, h⟩ := am_bd h
  refine am_callVx (i := l1) (j := 44) (as := []) (rest := []) dX10_beginFlush_4 lkX3_isFlushing ml_X10_371 imX3_isFlushing seX3_isFlushing rfl rfl (hG.mn hl1 (by decide) (by decide)) rfl (Nat.le_of_ble_eq_true rfl) rfl (sX3_isFlushing hG hl1 hq1) ?_
  refine am_if_ne (tgt := 28) dX10_beginFlush_7 rfl (fun c => ?_) (fun c => ?_)
  · rw [if_neg c] at h
    exact am_lwJ (lo' := [none, none]) trivial (tX10_beginFlush_28 hG h)
  · rw [if_pos c] at h
    refine am_aload_n dX10_beginFlush_10 rfl ?_
    refine am_get (v := .inr (l1, 44)) dX10_beginFlush_11 fl_10_284 (hG.mn hl1 (by decide) (by decide)) rfl ?_
    refine am_aload_n dX10_beginFlush_14 rfl ?_
    refine am_get (v := .inr (l1, 41)) dX10_beginFlush_15 fl_10_221 (hG.mn hl1 (by decide) (by decide)) rfl ?_
    refine am_aload_n dX10_beginFlush_18 rfl ?_
    refine am_get (v := .inr (0, 13)) dX10_beginFlush_19 fl_10_43 (hG.m0 (by decide)) rfl ?_
    refine am_get (v := .inl (q1.2 0 13 1)) dX10_beginFlush_22 fl_10_121 (hG.m0 (by decide)) rfl ?_
    obtain ⟨q2, hq2, h⟩ := am_bd h
    refine am_callVe (i := l1) (j := 44) (as := [.inr (l1, 41), .inl (q1.2 0 13 1)]) (rest := []) dX10_beginFlush_25 lkX3_open ml_X10_460 imX3_open seX3_open rfl rfl (hG.mn hl1 (by decide) (by decide)) rfl (Nat.le_of_ble_eq_true rfl) rfl (sX3_open hG hl1 hl1 hq2) ?_
    exact am_lwJ (lo' := [none, none]) trivial (tX10_beginFlush_28 hG h)
def gX10_beginFlush (n : Nat) (l1 : Nat) (I : am_I) : Option (am_I) := bX10_beginFlush_0 n l1 I
theorem sX10_beginFlush {G : am_G} (hG : am_ok G) {d : Nat} {l1 : Nat} (hl1 : l1 < G.2.2.2.1) {I : am_I} {r : am_I} (h : gX10_beginFlush G.2.2.2.1 l1 I = some r) : am_C G (d + 2) mX10_beginFlush [.inr (0, 0), .inr (l1, 40)] I (am_E none r) :=
  am_of (by decide +kernel) hG.nd (Nat.le_of_ble_eq_true rfl) (am_lwJ (lo' := [some (.inr (0, 0)), some (.inr (l1, 40))]) ⟨rfl, rfl, trivial⟩ (tX10_beginFlush_0 hG hl1 h))
def bX10_waitForLog_0 (n : Nat) (l1 : Nat) (I : am_I) : Option (am_I) := am_lt (am_up I l1 55 11 (nI 1)) (fun I1 => (gX10_beginFlush n l1 I1).bind (fun q2 => some q2))
theorem tX10_waitForLog_0 {G : am_G} (hG : am_ok G) {d : Nat} {l1 : Nat} (hl1 : l1 < G.2.2.2.1) {I : am_I} {r : am_I} (h : bX10_waitForLog_0 G.2.2.2.1 l1  I = some r) : am_J G (d + 3) mX10_waitForLog am_no (am_E none r) 0 [some (.inr (0, 0)), some (.inr (l1, 40))] [] I := by
  unfold bX10_waitForLog_0 at h
  refine am_aload_n dX10_waitForLog_0 rfl ?_
  refine am_get (v := .inr (l1, 55)) dX10_waitForLog_1 fl_10_84 (hG.mn hl1 (by decide) (by decide)) rfl ?_
  refine am_iconst (v := nI 1) dX10_waitForLog_4 (by decide) ?_
  refine am_putz (x := nI 1) dX10_waitForLog_5 fp_10_368 (hG.mn hl1 (by decide) (by decide)) (by decide) (Nat.le_of_ble_eq_true rfl) rfl ?_
  obtain ⟨I1, hI1, h⟩ := am_lt_some h
  refine am_st10 hI1 ?_
  refine am_aload_n dX10_waitForLog_8 rfl ?_
  refine am_aload_n dX10_waitForLog_9 rfl ?_
  obtain ⟨q2, hq2, h⟩ := am_bd h
  refine am_callVe (i := 0) (j := 0) (as := [.inr (l1, 40)]) (rest := []) dX10_waitForLog_10 lkX10_beginFlush ml_X10_380 imX10_beginFlush seX10_beginFlush rfl rfl (hG.m0 (by decide)) rfl (Nat.le_of_ble_eq_true rfl) rfl (sX10_beginFlush hG hl1 hq2) ?_
  cases h
  exact am_vret dX10_waitForLog_13 rfl ⟨rfl, rfl⟩
def gX10_waitForLog (n : Nat) (l1 : Nat) (I : am_I) : Option (am_I) := bX10_waitForLog_0 n l1 I
theorem sX10_waitForLog {G : am_G} (hG : am_ok G) {d : Nat} {l1 : Nat} (hl1 : l1 < G.2.2.2.1) {I : am_I} {r : am_I} (h : gX10_waitForLog G.2.2.2.1 l1 I = some r) : am_C G (d + 3) mX10_waitForLog [.inr (0, 0), .inr (l1, 40)] I (am_E none r) :=
  am_of (by decide +kernel) hG.nd (Nat.le_of_ble_eq_true rfl) (am_lwJ (lo' := [some (.inr (0, 0)), some (.inr (l1, 40))]) ⟨rfl, rfl, trivial⟩ (tX10_waitForLog_0 hG hl1 h))
def bX10_mayGoOn_30 (n : Nat) (I : am_I) : Option (Int32 × am_I) := some (nI 0, I)
theorem tX10_mayGoOn_30 {G : am_G} (hG : am_ok G) {d : Nat} {I : am_I} {r : Int32 × am_I} (h : bX10_mayGoOn_30 G.2.2.2.1  I = some r) : am_J G (d + 4) mX10_mayGoOn am_no (am_E (some r.1) r.2) 30 [none, none, none] [] I := by
  unfold bX10_mayGoOn_30 at h
  refine am_iconst (v := nI 0) dX10_mayGoOn_30 (by decide) ?_
  cases h
  exact am_iret dX10_mayGoOn_31 rfl (am_nz (by decide)).1 ⟨rfl, rfl⟩
def bX10_mayGoOn_63 (n : Nat) (I : am_I) : Option (Int32 × am_I) := some (nI 1, I)
theorem tX10_mayGoOn_63 {G : am_G} (hG : am_ok G) {d : Nat} {I : am_I} {r : Int32 × am_I} (h : bX10_mayGoOn_63 G.2.2.2.1  I = some r) : am_J G (d + 4) mX10_mayGoOn am_no (am_E (some r.1) r.2) 63 [none, none, none] [] I := by
  unfold bX10_mayGoOn_63 at h
  refine am_iconst (v := nI 1) dX10_mayGoOn_63 (by decide) ?_
  cases h
  exact am_iret dX10_mayGoOn_64 rfl (am_nz (by decide)).1 ⟨rfl, rfl⟩
def bX10_mayGoOn_32 (n : Nat) (l1 : Nat) (l2 : Nat) (I : am_I) : Option (Int32 × am_I) := am_lt (am_up I l2 55 11 (nI 0)) (fun I1 => if (I1 l2 55 0) = (nI 10) then ((gX3_isIdle n l1 I1).bind (fun q2 => if q2.1 = 0 then ((gX10_waitForLog n l1 q2.2).bind (fun q3 => some (nI 0, q3))) else (bX10_mayGoOn_63 n q2.2))) else (bX10_mayGoOn_63 n I1))
theorem tX10_mayGoOn_32 {G : am_G} (hG : am_ok G) {d : Nat} {l1 : Nat} {l2 : Nat} (hl1 : l1 < G.2.2.2.1) (hl2 : l2 < G.2.2.2.1) {I : am_I} {r : Int32 × am_I} (h : bX10_mayGoOn_32 G.2.2.2.1 l1 l2  I = some r) : am_J G (d + 4) mX10_mayGoOn am_no (am_E (some r.1) r.2) 32 [some (.inr (0, 0)), some (.inr (l1, 40)), some (.inr (l2, 55))] [] I := by
  unfold bX10_mayGoOn_32 at h
  refine am_aload_n dX10_mayGoOn_32 rfl ?_
  refine am_iconst (v := nI 0) dX10_mayGoOn_33 (by decide) ?_
  refine am_putz (x := nI 0) dX10_mayGoOn_34 fp_10_368 (hG.mn hl2 (by decide) (by decide)) (by decide) (Nat.le_of_ble_eq_true rfl) rfl ?_
  obtain ⟨I1, hI1, h⟩ := am_lt_some h
  refine am_st10 hI1 ?_
  refine am_aload_n dX10_mayGoOn_37 rfl ?_
  refine am_get (v := .inl (I1 l2 55 0)) dX10_mayGoOn_38 fl_10_374 (hG.mn hl2 (by decide) (by decide)) rfl ?_
  refine am_bipush (v := nI 10) dX10_mayGoOn_41 (by decide) ?_
  refine am_icmp_ne (tgt := 63) dX10_mayGoOn_43 rfl (fun c => ?_) (fun c => ?_)
  · rw [if_neg c] at h
    exact am_lwJ (lo' := [none, none, none]) trivial (tX10_mayGoOn_63 hG h)
  · rw [if_pos c] at h
    refine am_aload_n dX10_mayGoOn_46 rfl ?_
    refine am_get (v := .inr (l1, 44)) dX10_mayGoOn_47 fl_10_284 (hG.mn hl1 (by decide) (by decide)) rfl ?_
    obtain ⟨q2, hq2, h⟩ := am_bd h
    refine am_callVx (i := l1) (j := 44) (as := []) (rest := []) dX10_mayGoOn_50 lkX3_isIdle ml_X10_377 imX3_isIdle seX3_isIdle rfl rfl (hG.mn hl1 (by decide) (by decide)) rfl (Nat.le_of_ble_eq_true rfl) rfl (sX3_isIdle hG hl1 hq2) ?_
    refine am_if_ne (tgt := 63) dX10_mayGoOn_53 rfl (fun c => ?_) (fun c => ?_)
    · rw [if_neg c] at h
      exact am_lwJ (lo' := [none, none, none]) trivial (tX10_mayGoOn_63 hG h)
    · rw [if_pos c] at h
      refine am_aload_n dX10_mayGoOn_56 rfl ?_
      refine am_aload_n dX10_mayGoOn_57 rfl ?_
      obtain ⟨q3, hq3, h⟩ := am_bd h
      refine am_callVe (i := 0) (j := 0) (as := [.inr (l1, 40)]) (rest := []) dX10_mayGoOn_58 lkX10_waitForLog ml_X10_362 imX10_waitForLog seX10_waitForLog rfl rfl (hG.m0 (by decide)) rfl (Nat.le_of_ble_eq_true rfl) rfl (sX10_waitForLog hG hl1 hq3) ?_
      refine am_iconst (v := nI 0) dX10_mayGoOn_61 (by decide) ?_
      cases h
      exact am_iret dX10_mayGoOn_62 rfl (am_nz (by decide)).1 ⟨rfl, rfl⟩
def bX10_mayGoOn_0 (n : Nat) (l1 : Nat) (I : am_I) : Option (Int32 × am_I) := if (I l1 55 5) = (nI 1) then (if (I l1 55 11) = 0 then (bX10_mayGoOn_32 n l1 l1 I) else ((gX3_isFlushing n l1 I).bind (fun q1 => if q1.1 = 0 then (bX10_mayGoOn_32 n l1 l1 q1.2) else (bX10_mayGoOn_30 n q1.2)))) else (bX10_mayGoOn_30 n I)
theorem tX10_mayGoOn_0 {G : am_G} (hG : am_ok G) {d : Nat} {l1 : Nat} (hl1 : l1 < G.2.2.2.1) {I : am_I} {r : Int32 × am_I} (h : bX10_mayGoOn_0 G.2.2.2.1 l1  I = some r) : am_J G (d + 4) mX10_mayGoOn am_no (am_E (some r.1) r.2) 0 [some (.inr (0, 0)), some (.inr (l1, 40)), none] [] I := by
  unfold bX10_mayGoOn_0 at h
  refine am_aload_n dX10_mayGoOn_0 rfl ?_
  refine am_get (v := .inr (l1, 55)) dX10_mayGoOn_1 fl_10_84 (hG.mn hl1 (by decide) (by decide)) rfl ?_
  refine am_astore_n dX10_mayGoOn_4 (by decide) ?_
  refine am_aload_n dX10_mayGoOn_5 rfl ?_
  refine am_get (v := .inl (I l1 55 5)) dX10_mayGoOn_6 fl_10_88 (hG.mn hl1 (by decide) (by decide)) rfl ?_
  refine am_iconst (v := nI 1) dX10_mayGoOn_9 (by decide) ?_
  refine am_icmp_ne (tgt := 30) dX10_mayGoOn_10 rfl (fun c => ?_) (fun c => ?_)
  · rw [if_neg c] at h
    exact am_lwJ (lo' := [none, none, none]) trivial (tX10_mayGoOn_30 hG h)
  · rw [if_pos c] at h
    refine am_aload_n dX10_mayGoOn_13 rfl ?_
    refine am_get (v := .inl (I l1 55 11)) dX10_mayGoOn_14 fl_10_368 (hG.mn hl1 (by decide) (by decide)) rfl ?_
    refine am_if_eq (tgt := 32) dX10_mayGoOn_17 rfl (fun c => ?_) (fun c => ?_)
    · rw [if_pos c] at h
      exact am_lwJ (lo' := [some (.inr (0, 0)), some (.inr (l1, 40)), some (.inr (l1, 55))]) ⟨rfl, rfl, rfl, trivial⟩ (tX10_mayGoOn_32 hG hl1 hl1 h)
    · rw [if_neg c] at h
      refine am_aload_n dX10_mayGoOn_20 rfl ?_
      refine am_get (v := .inr (l1, 44)) dX10_mayGoOn_21 fl_10_284 (hG.mn hl1 (by decide) (by decide)) rfl ?_
      obtain ⟨q1, hq1, h⟩ := am_bd h
      refine am_callVx (i := l1) (j := 44) (as := []) (rest := []) dX10_mayGoOn_24 lkX3_isFlushing ml_X10_371 imX3_isFlushing seX3_isFlushing rfl rfl (hG.mn hl1 (by decide) (by decide)) rfl (Nat.le_of_ble_eq_true rfl) rfl (sX3_isFlushing hG hl1 hq1) ?_
      refine am_if_eq (tgt := 32) dX10_mayGoOn_27 rfl (fun c => ?_) (fun c => ?_)
      · rw [if_pos c] at h
        exact am_lwJ (lo' := [some (.inr (0, 0)), some (.inr (l1, 40)), some (.inr (l1, 55))]) ⟨rfl, rfl, rfl, trivial⟩ (tX10_mayGoOn_32 hG hl1 hl1 h)
      · rw [if_neg c] at h
        exact am_lwJ (lo' := [none, none, none]) trivial (tX10_mayGoOn_30 hG h)
def gX10_mayGoOn (n : Nat) (l1 : Nat) (I : am_I) : Option (Int32 × am_I) := bX10_mayGoOn_0 n l1 I
theorem sX10_mayGoOn {G : am_G} (hG : am_ok G) {d : Nat} {l1 : Nat} (hl1 : l1 < G.2.2.2.1) {I : am_I} {r : Int32 × am_I} (h : gX10_mayGoOn G.2.2.2.1 l1 I = some r) : am_C G (d + 4) mX10_mayGoOn [.inr (0, 0), .inr (l1, 40)] I (am_E (some r.1) r.2) :=
  am_of (by decide +kernel) hG.nd (Nat.le_of_ble_eq_true rfl) (am_lwJ (lo' := [some (.inr (0, 0)), some (.inr (l1, 40)), none]) ⟨rfl, rfl, trivial⟩ (tX10_mayGoOn_0 hG hl1 h))
def bX10_masterOf_14 (n : Nat) : Nat → Int32 → Int32 → Int32 → am_I → Option (Int32 × am_I)
  | 0, _, _, _, _ => none
  | fu + 1, l1, l2, l3, I => (fun k14 => if l2 ≤ l3 then (some ((-1 : Int32), I)) else (am_gd (decide (¬ l2 = 0)) (am_gd (am_inb ((l1 + l3) - (l1 + l3) / l2 * l2) n) (if (I (((l1 + l3) - (l1 + l3) / l2 * l2).toNatClampNeg) 40 6) = 0 then (k14 l1 l2 (l3 + nI 1) I) else (some ((l1 + l3) - (l1 + l3) / l2 * l2, I)))))) (bX10_masterOf_14 n fu)
theorem tX10_masterOf_14 {G : am_G} (hG : am_ok G) {d : Nat} : ∀ {fu : Nat} {l1 : Int32} {l2 : Int32} {l3 : Int32} {I : am_I} {r : Int32 × am_I}, bX10_masterOf_14 G.2.2.2.1 fu l1 l2 l3 I = some r → am_J G d mX10_masterOf am_no (am_E (some r.1) r.2) 14 [some (.inr (0, 0)), some (.inl l1), some (.inl l2), some (.inl l3), none] [] I := by
  intro fu
  induction fu with
  | zero => intro l1 l2 l3 I r h; cases h
  | succ fu ih =>
    intro l1 l2 l3 I r h
    have hk14 : ∀ (l1 : Int32) (l2 : Int32) (l3 : Int32) (I : am_I) (r : Int32 × am_I), bX10_masterOf_14 G.2.2.2.1 fu l1 l2 l3 I = some r → am_J G d mX10_masterOf am_no (am_E (some r.1) r.2) 14 [some (.inr (0, 0)), some (.inl l1), some (.inl l2), some (.inl l3), none] [] I := fun l1 l2 l3 I r h => ih h
    unfold bX10_masterOf_14 at h
    generalize bX10_masterOf_14 G.2.2.2.1 fu = k14 at hk14 h
    dsimp only at h
    refine am_iload_n dX10_masterOf_14 rfl ?_
    refine am_iload_n dX10_masterOf_15 rfl ?_
    refine am_icmp_ge (tgt := 48) dX10_masterOf_16 rfl (fun c => ?_) (fun c => ?_)
    · rw [if_pos c] at h
      refine am_iconst (v := (-1 : Int32)) dX10_masterOf_48 (by decide) ?_
      cases h
      exact am_iret dX10_masterOf_49 rfl rfl ⟨rfl, rfl⟩
    · rw [if_neg c] at h
      refine am_iload_n dX10_masterOf_19 rfl ?_
      refine am_iload_n dX10_masterOf_20 rfl ?_
      refine am_iadd dX10_masterOf_21 ?_
      refine am_iload_n dX10_masterOf_22 rfl ?_
      obtain ⟨g1, h⟩ := am_gd_some h
      refine am_irem dX10_masterOf_23 (of_decide_eq_true g1) ?_
      refine am_istore dX10_masterOf_24 (by decide) ?_
      refine am_aload_n dX10_masterOf_26 rfl ?_
      refine am_get (v := .inr (0, 2)) dX10_masterOf_27 fl_10_19 (hG.m0 (by decide)) rfl ?_
      refine am_iload dX10_masterOf_30 rfl ?_
      obtain ⟨g2, h⟩ := am_gd_some h
      refine am_aaldG dX10_masterOf_32 (hG.m0 (by decide)) rfl g2 hG.n31 ?_
      refine am_get (v := .inl (I (((l1 + l3) - (l1 + l3) / l2 * l2).toNatClampNeg) 40 6)) dX10_masterOf_33 fl_10_166 (hG.mn (am_inb_lt g2) (by decide) (by decide)) rfl ?_
      refine am_if_eq (tgt := 42) dX10_masterOf_36 rfl (fun c => ?_) (fun c => ?_)
      · rw [if_pos c] at h
        refine am_iinc (v := l3 + nI 1) dX10_masterOf_42 rfl rfl ?_
        refine am_goto (tgt := 14) dX10_masterOf_45 rfl ?_
        exact am_lwJ (lo' := [some (.inr (0, 0)), some (.inl l1), some (.inl l2), some (.inl (l3 + nI 1)), none]) ⟨rfl, rfl, rfl, rfl, trivial⟩ (hk14 l1 l2 (l3 + nI 1) _ _ h)
      · rw [if_neg c] at h
        refine am_iload dX10_masterOf_39 rfl ?_
        cases h
        exact am_iret dX10_masterOf_41 rfl rfl ⟨rfl, rfl⟩
def bX10_masterOf_0 (n : Nat) (l1 : Int32) (I : am_I) : Option (Int32 × am_I) := if (nI n) = 0 then (some ((-1 : Int32), I)) else (bX10_masterOf_14 n am_fu l1 (nI n) (nI 0) I)
theorem tX10_masterOf_0 {G : am_G} (hG : am_ok G) {d : Nat} {l1 : Int32} {I : am_I} {r : Int32 × am_I} (h : bX10_masterOf_0 G.2.2.2.1 l1  I = some r) : am_J G d mX10_masterOf am_no (am_E (some r.1) r.2) 0 [some (.inr (0, 0)), some (.inl l1), none, none, none] [] I := by
  unfold bX10_masterOf_0 at h
  refine am_aload_n dX10_masterOf_0 rfl ?_
  refine am_get (v := .inr (0, 2)) dX10_masterOf_1 fl_10_19 (hG.m0 (by decide)) rfl ?_
  refine am_alen3 dX10_masterOf_4 (hG.m0 (by decide)) rfl ?_
  refine am_istore_n dX10_masterOf_5 (by decide) ?_
  refine am_iload_n dX10_masterOf_6 rfl ?_
  refine am_if_ne (tgt := 12) dX10_masterOf_7 rfl (fun c => ?_) (fun c => ?_)
  · rw [if_neg c] at h
    refine am_iconst (v := nI 0) dX10_masterOf_12 (by decide) ?_
    refine am_istore_n dX10_masterOf_13 (by decide) ?_
    exact am_lwJ (lo' := [some (.inr (0, 0)), some (.inl l1), some (.inl (nI G.2.2.2.1)), some (.inl (nI 0)), none]) ⟨rfl, rfl, rfl, rfl, trivial⟩ (tX10_masterOf_14 hG h)
  · rw [if_pos c] at h
    refine am_iconst (v := (-1 : Int32)) dX10_masterOf_10 (by decide) ?_
    cases h
    exact am_iret dX10_masterOf_11 rfl rfl ⟨rfl, rfl⟩
def gX10_masterOf (n : Nat) (l1 : Int32) (I : am_I) : Option (Int32 × am_I) := bX10_masterOf_0 n l1 I
theorem sX10_masterOf {G : am_G} (hG : am_ok G) {d : Nat} {l1 : Int32} {I : am_I} {r : Int32 × am_I} (h : gX10_masterOf G.2.2.2.1 l1 I = some r) : am_C G d mX10_masterOf [.inr (0, 0), .inl l1] I (am_E (some r.1) r.2) :=
  am_of (by decide +kernel) hG.nd (Nat.le_of_ble_eq_true rfl) (am_lwJ (lo' := [some (.inr (0, 0)), some (.inl l1), none, none, none]) ⟨rfl, rfl, trivial⟩ (tX10_masterOf_0 hG h))
def bX5_send_85 (n : Nat) (k29 : Int32 → Int32 → Int32 → Int32 → Int32 → Int32 → Int32 → am_I → Option (am_I)) (l1 : Int32) (l2 : Int32) (l3 : Int32) (l4 : Int32) (l5 : Int32) (l7 : Int32) (l8 : Int32) (I : am_I) : Option (am_I) := k29 l1 l2 l3 l4 l5 l7 (l8 + nI 1) I
theorem tX5_send_85 {G : am_G} (hG : am_ok G) {d : Nat} {k29 : Int32 → Int32 → Int32 → Int32 → Int32 → Int32 → Int32 → am_I → Option (am_I)} (hk29 : ∀ (l1 : Int32) (l2 : Int32) (l3 : Int32) (l4 : Int32) (l5 : Int32) (l7 : Int32) (l8 : Int32) (I : am_I) (r : am_I), k29 l1 l2 l3 l4 l5 l7 l8 I = some r → am_J G (d + 1) mX5_send am_no (am_E none r) 29 [some (.inr (0, 9)), some (.inl l1), some (.inl l2), some (.inl l3), some (.inl l4), some (.inl l5), none, some (.inl l7), some (.inl l8), none] [] I) {l1 : Int32} {l2 : Int32} {l3 : Int32} {l4 : Int32} {l5 : Int32} {l7 : Int32} {l8 : Int32} {I : am_I} {r : am_I} (h : bX5_send_85 G.2.2.2.1 k29 l1 l2 l3 l4 l5 l7 l8  I = some r) : am_J G (d + 1) mX5_send am_no (am_E none r) 85 [some (.inr (0, 9)), some (.inl l1), some (.inl l2), some (.inl l3), some (.inl l4), some (.inl l5), none, some (.inl l7), some (.inl l8), none] [] I := by
  unfold bX5_send_85 at h
  refine am_iinc (v := l8 + nI 1) dX5_send_85 rfl rfl ?_
  refine am_goto (tgt := 29) dX5_send_88 rfl ?_
  exact am_lwJ (lo' := [some (.inr (0, 9)), some (.inl l1), some (.inl l2), some (.inl l3), some (.inl l4), some (.inl l5), none, some (.inl l7), some (.inl (l8 + nI 1)), none]) ⟨rfl, rfl, rfl, rfl, rfl, rfl, rfl, rfl, trivial⟩ (hk29 l1 l2 l3 l4 l5 l7 (l8 + nI 1) _ _ h)
def bX5_send_29 (n : Nat) : Nat → Int32 → Int32 → Int32 → Int32 → Int32 → Int32 → Int32 → am_I → Option (am_I)
  | 0, _, _, _, _, _, _, _, _ => none
  | fu + 1, l1, l2, l3, l4, l5, l7, l8, I => (fun k29 => if (I 0 9 3) ≤ l8 then (am_gd (am_inb ((I 0 9 3) * (nI 6)) 768) (am_lt (am_up I 0 11 ((I 0 9 3) * (nI 6)).toNatClampNeg l1) (fun I2 => am_gd (am_inb (((I 0 9 3) * (nI 6)) + (nI 1)) 768) (am_lt (am_up I2 0 11 (((I 0 9 3) * (nI 6)) + (nI 1)).toNatClampNeg l2) (fun I4 => am_gd (am_inb (((I 0 9 3) * (nI 6)) + (nI 2)) 768) (am_lt (am_up I4 0 11 (((I 0 9 3) * (nI 6)) + (nI 2)).toNatClampNeg l3) (fun I6 => am_gd (am_inb (((I 0 9 3) * (nI 6)) + (nI 3)) 768) (am_lt (am_up I6 0 11 (((I 0 9 3) * (nI 6)) + (nI 3)).toNatClampNeg l4) (fun I8 => am_gd (am_inb (((I 0 9 3) * (nI 6)) + (nI 4)) 768) (am_lt (am_up I8 0 11 (((I 0 9 3) * (nI 6)) + (nI 4)).toNatClampNeg l5) (fun I10 => am_gd (am_inb (((I 0 9 3) * (nI 6)) + (nI 5)) 768) (am_lt (am_up I10 0 11 (((I 0 9 3) * (nI 6)) + (nI 5)).toNatClampNeg l7) (fun I12 => am_lt (am_up I12 0 9 3 ((I12 0 9 3) + (nI 1))) (fun I13 => some I13)))))))))))))) else (am_gd (am_inb (l8 * (nI 6)) 768) (if (I 0 11 ((l8 * (nI 6)).toNatClampNeg)) = l1 then (am_gd (am_inb ((l8 * (nI 6)) + (nI 1)) 768) (if (I 0 11 (((l8 * (nI 6)) + (nI 1)).toNatClampNeg)) = l2 then (am_gd (am_inb ((l8 * (nI 6)) + (nI 5)) 768) (bX5_send_85 n k29 l1 l2 l3 l4 l5 ((if (I 0 11 (((l8 * (nI 6)) + (nI 5)).toNatClampNeg)) ≤ l7 then l7 else (I 0 11 (((l8 * (nI 6)) + (nI 5)).toNatClampNeg)))) l8 I)) else (bX5_send_85 n k29 l1 l2 l3 l4 l5 l7 l8 I))) else (bX5_send_85 n k29 l1 l2 l3 l4 l5 l7 l8 I)))) (bX5_send_29 n fu)
theorem tX5_send_29 {G : am_G} (hG : am_ok G) {d : Nat} : ∀ {fu : Nat} {l1 : Int32} {l2 : Int32} {l3 : Int32} {l4 : Int32} {l5 : Int32} {l7 : Int32} {l8 : Int32} {I : am_I} {r : am_I}, bX5_send_29 G.2.2.2.1 fu l1 l2 l3 l4 l5 l7 l8 I = some r → am_J G (d + 1) mX5_send am_no (am_E none r) 29 [some (.inr (0, 9)), some (.inl l1), some (.inl l2), some (.inl l3), some (.inl l4), some (.inl l5), none, some (.inl l7), some (.inl l8), none] [] I := by
  intro fu
  induction fu with
  | zero => intro l1 l2 l3 l4 l5 l7 l8 I r h; cases h
  | succ fu ih =>
    intro l1 l2 l3 l4 l5 l7 l8 I r h
    have hk29 : ∀ (l1 : Int32) (l2 : Int32) (l3 : Int32) (l4 : Int32) (l5 : Int32) (l7 : Int32) (l8 : Int32) (I : am_I) (r : am_I), bX5_send_29 G.2.2.2.1 fu l1 l2 l3 l4 l5 l7 l8 I = some r → am_J G (d + 1) mX5_send am_no (am_E none r) 29 [some (.inr (0, 9)), some (.inl l1), some (.inl l2), some (.inl l3), some (.inl l4), some (.inl l5), none, some (.inl l7), some (.inl l8), none] [] I := fun l1 l2 l3 l4 l5 l7 l8 I r h => ih h
    unfold bX5_send_29 at h
    generalize bX5_send_29 G.2.2.2.1 fu = k29 at hk29 h
    dsimp only at h
    refine am_iload dX5_send_29 rfl ?_
    refine am_aload_n dX5_send_31 rfl ?_
    refine am_get (v := .inl (I 0 9 3)) dX5_send_32 fl_5_27 (hG.m0 (by decide)) rfl ?_
    refine am_icmp_ge (tgt := 91) dX5_send_35 rfl (fun c => ?_) (fun c => ?_)
    · rw [if_pos c] at h
      refine am_aload_n dX5_send_91 rfl ?_
      refine am_get (v := .inl (I 0 9 3)) dX5_send_92 fl_5_27 (hG.m0 (by decide)) rfl ?_
      refine am_bipush (v := nI 6) dX5_send_95 (by decide) ?_
      refine am_imul dX5_send_97 ?_
      refine am_istore dX5_send_98 (by decide) ?_
      refine am_aload_n dX5_send_100 rfl ?_
      refine am_get (v := .inr (0, 11)) dX5_send_101 fl_5_15 (hG.m0 (by decide)) rfl ?_
      refine am_iload dX5_send_104 rfl ?_
      refine am_iload_n dX5_send_106 rfl ?_
      obtain ⟨g1, h⟩ := am_gd_some h
      refine am_iastG dX5_send_107 (hG.m0 (by decide)) rfl g1 (show 768 < 2 ^ 31 by decide) ?_
      obtain ⟨I2, hI2, h⟩ := am_lt_some h
      refine am_st10 hI2 ?_
      refine am_aload_n dX5_send_108 rfl ?_
      refine am_get (v := .inr (0, 11)) dX5_send_109 fl_5_15 (hG.m0 (by decide)) rfl ?_
      refine am_iload dX5_send_112 rfl ?_
      refine am_iconst (v := nI 1) dX5_send_114 (by decide) ?_
      refine am_iadd dX5_send_115 ?_
      refine am_iload_n dX5_send_116 rfl ?_
      obtain ⟨g3, h⟩ := am_gd_some h
      refine am_iastG dX5_send_117 (hG.m0 (by decide)) rfl g3 (show 768 < 2 ^ 31 by decide) ?_
      obtain ⟨I4, hI4, h⟩ := am_lt_some h
      refine am_st10 hI4 ?_
      refine am_aload_n dX5_send_118 rfl ?_
      refine am_get (v := .inr (0, 11)) dX5_send_119 fl_5_15 (hG.m0 (by decide)) rfl ?_
      refine am_iload dX5_send_122 rfl ?_
      refine am_iconst (v := nI 2) dX5_send_124 (by decide) ?_
      refine am_iadd dX5_send_125 ?_
      refine am_iload_n dX5_send_126 rfl ?_
      obtain ⟨g5, h⟩ := am_gd_some h
      refine am_iastG dX5_send_127 (hG.m0 (by decide)) rfl g5 (show 768 < 2 ^ 31 by decide) ?_
      obtain ⟨I6, hI6, h⟩ := am_lt_some h
      refine am_st10 hI6 ?_
      refine am_aload_n dX5_send_128 rfl ?_
      refine am_get (v := .inr (0, 11)) dX5_send_129 fl_5_15 (hG.m0 (by decide)) rfl ?_
      refine am_iload dX5_send_132 rfl ?_
      refine am_iconst (v := nI 3) dX5_send_134 (by decide) ?_
      refine am_iadd dX5_send_135 ?_
      refine am_iload dX5_send_136 rfl ?_
      obtain ⟨g7, h⟩ := am_gd_some h
      refine am_iastG dX5_send_138 (hG.m0 (by decide)) rfl g7 (show 768 < 2 ^ 31 by decide) ?_
      obtain ⟨I8, hI8, h⟩ := am_lt_some h
      refine am_st10 hI8 ?_
      refine am_aload_n dX5_send_139 rfl ?_
      refine am_get (v := .inr (0, 11)) dX5_send_140 fl_5_15 (hG.m0 (by decide)) rfl ?_
      refine am_iload dX5_send_143 rfl ?_
      refine am_iconst (v := nI 4) dX5_send_145 (by decide) ?_
      refine am_iadd dX5_send_146 ?_
      refine am_iload dX5_send_147 rfl ?_
      obtain ⟨g9, h⟩ := am_gd_some h
      refine am_iastG dX5_send_149 (hG.m0 (by decide)) rfl g9 (show 768 < 2 ^ 31 by decide) ?_
      obtain ⟨I10, hI10, h⟩ := am_lt_some h
      refine am_st10 hI10 ?_
      refine am_aload_n dX5_send_150 rfl ?_
      refine am_get (v := .inr (0, 11)) dX5_send_151 fl_5_15 (hG.m0 (by decide)) rfl ?_
      refine am_iload dX5_send_154 rfl ?_
      refine am_iconst (v := nI 5) dX5_send_156 (by decide) ?_
      refine am_iadd dX5_send_157 ?_
      refine am_iload dX5_send_158 rfl ?_
      obtain ⟨g11, h⟩ := am_gd_some h
      refine am_iastG dX5_send_160 (hG.m0 (by decide)) rfl g11 (show 768 < 2 ^ 31 by decide) ?_
      obtain ⟨I12, hI12, h⟩ := am_lt_some h
      refine am_st10 hI12 ?_
      refine am_aload_n dX5_send_161 rfl ?_
      refine am_dup dX5_send_162 ?_
      refine am_get (v := .inl (I12 0 9 3)) dX5_send_163 fl_5_27 (hG.m0 (by decide)) rfl ?_
      refine am_iconst (v := nI 1) dX5_send_166 (by decide) ?_
      refine am_iadd dX5_send_167 ?_
      refine am_put (x := (I12 0 9 3) + (nI 1)) dX5_send_168 fp_5_27 (hG.m0 (by decide)) (Nat.le_of_ble_eq_true rfl) rfl ?_
      obtain ⟨I13, hI13, h⟩ := am_lt_some h
      refine am_st10 hI13 ?_
      cases h
      exact am_vret dX5_send_171 rfl ⟨rfl, rfl⟩
    · rw [if_neg c] at h
      refine am_iload dX5_send_38 rfl ?_
      refine am_bipush (v := nI 6) dX5_send_40 (by decide) ?_
      refine am_imul dX5_send_42 ?_
      refine am_istore dX5_send_43 (by decide) ?_
      refine am_aload_n dX5_send_45 rfl ?_
      refine am_get (v := .inr (0, 11)) dX5_send_46 fl_5_15 (hG.m0 (by decide)) rfl ?_
      refine am_iload dX5_send_49 rfl ?_
      obtain ⟨g14, h⟩ := am_gd_some h
      refine am_ialdG dX5_send_51 (hG.m0 (by decide)) rfl g14 (show 768 < 2 ^ 31 by decide) ?_
      refine am_iload_n dX5_send_52 rfl ?_
      refine am_icmp_ne (tgt := 85) dX5_send_53 rfl (fun c => ?_) (fun c => ?_)
      · rw [if_neg c] at h
        exact am_lwJ (lo' := [some (.inr (0, 9)), some (.inl l1), some (.inl l2), some (.inl l3), some (.inl l4), some (.inl l5), none, some (.inl l7), some (.inl l8), none]) ⟨rfl, rfl, rfl, rfl, rfl, rfl, rfl, rfl, trivial⟩ (tX5_send_85 hG hk29 h)
      · rw [if_pos c] at h
        refine am_aload_n dX5_send_56 rfl ?_
        refine am_get (v := .inr (0, 11)) dX5_send_57 fl_5_15 (hG.m0 (by decide)) rfl ?_
        refine am_iload dX5_send_60 rfl ?_
        refine am_iconst (v := nI 1) dX5_send_62 (by decide) ?_
        refine am_iadd dX5_send_63 ?_
        obtain ⟨g15, h⟩ := am_gd_some h
        refine am_ialdG dX5_send_64 (hG.m0 (by decide)) rfl g15 (show 768 < 2 ^ 31 by decide) ?_
        refine am_iload_n dX5_send_65 rfl ?_
        refine am_icmp_ne (tgt := 85) dX5_send_66 rfl (fun c => ?_) (fun c => ?_)
        · rw [if_neg c] at h
          exact am_lwJ (lo' := [some (.inr (0, 9)), some (.inl l1), some (.inl l2), some (.inl l3), some (.inl l4), some (.inl l5), none, some (.inl l7), some (.inl l8), none]) ⟨rfl, rfl, rfl, rfl, rfl, rfl, rfl, rfl, trivial⟩ (tX5_send_85 hG hk29 h)
        · rw [if_pos c] at h
          refine am_iload dX5_send_69 rfl ?_
          refine am_aload_n dX5_send_71 rfl ?_
          refine am_get (v := .inr (0, 11)) dX5_send_72 fl_5_15 (hG.m0 (by decide)) rfl ?_
          refine am_iload dX5_send_75 rfl ?_
          refine am_iconst (v := nI 5) dX5_send_77 (by decide) ?_
          refine am_iadd dX5_send_78 ?_
          obtain ⟨g16, h⟩ := am_gd_some h
          refine am_ialdG dX5_send_79 (hG.m0 (by decide)) rfl g16 (show 768 < 2 ^ 31 by decide) ?_
          refine am_callSx (as := [.inl l7, .inl (I 0 11 (((l8 * (nI 6)) + (nI 5)).toNatClampNeg))]) (rest := []) dX5_send_80 lkJ9_max_7cf53 ml_X5_31 isJ9_max_7cf53 rfl (Nat.le_of_ble_eq_true rfl) rfl (c_max hG.nd l7 (I 0 11 (((l8 * (nI 6)) + (nI 5)).toNatClampNeg)) I) ?_
          refine am_istore dX5_send_83 (by decide) ?_
          exact am_lwJ (lo' := [some (.inr (0, 9)), some (.inl l1), some (.inl l2), some (.inl l3), some (.inl l4), some (.inl l5), none, some (.inl ((if (I 0 11 (((l8 * (nI 6)) + (nI 5)).toNatClampNeg)) ≤ l7 then l7 else (I 0 11 (((l8 * (nI 6)) + (nI 5)).toNatClampNeg))))), some (.inl l8), none]) ⟨rfl, rfl, rfl, rfl, rfl, rfl, rfl, rfl, trivial⟩ (tX5_send_85 hG hk29 h)
def bX5_send_0 (n : Nat) (l1 : Int32) (l2 : Int32) (l3 : Int32) (l4 : Int32) (l5 : Int32) (l6 : Int32) (I : am_I) : Option (am_I) := if (I 0 9 3) < (nI 128) then (am_gd (am_inb ((l1 * (nI 4)) + l2) 16) (bX5_send_29 n am_fu l1 l2 l3 l4 l5 (l6 + (I 0 10 (((l1 * (nI 4)) + l2).toNatClampNeg))) (nI 0) I)) else (some I)
theorem tX5_send_0 {G : am_G} (hG : am_ok G) {d : Nat} {l1 : Int32} {l2 : Int32} {l3 : Int32} {l4 : Int32} {l5 : Int32} {l6 : Int32} {I : am_I} {r : am_I} (h : bX5_send_0 G.2.2.2.1 l1 l2 l3 l4 l5 l6  I = some r) : am_J G (d + 1) mX5_send am_no (am_E none r) 0 [some (.inr (0, 9)), some (.inl l1), some (.inl l2), some (.inl l3), some (.inl l4), some (.inl l5), some (.inl l6), none, none, none] [] I := by
  unfold bX5_send_0 at h
  refine am_aload_n dX5_send_0 rfl ?_
  refine am_get (v := .inl (I 0 9 3)) dX5_send_1 fl_5_27 (hG.m0 (by decide)) rfl ?_
  refine am_sipush (v := nI 128) dX5_send_4 (by decide) ?_
  refine am_icmp_lt (tgt := 11) dX5_send_7 rfl (fun c => ?_) (fun c => ?_)
  · rw [if_pos c] at h
    refine am_iload dX5_send_11 rfl ?_
    refine am_aload_n dX5_send_13 rfl ?_
    refine am_get (v := .inr (0, 10)) dX5_send_14 fl_5_9 (hG.m0 (by decide)) rfl ?_
    refine am_iload_n dX5_send_17 rfl ?_
    refine am_iconst (v := nI 4) dX5_send_18 (by decide) ?_
    refine am_imul dX5_send_19 ?_
    refine am_iload_n dX5_send_20 rfl ?_
    refine am_iadd dX5_send_21 ?_
    obtain ⟨g1, h⟩ := am_gd_some h
    refine am_ialdG dX5_send_22 (hG.m0 (by decide)) rfl g1 (show 16 < 2 ^ 31 by decide) ?_
    refine am_iadd dX5_send_23 ?_
    refine am_istore dX5_send_24 (by decide) ?_
    refine am_iconst (v := nI 0) dX5_send_26 (by decide) ?_
    refine am_istore dX5_send_27 (by decide) ?_
    exact am_lwJ (lo' := [some (.inr (0, 9)), some (.inl l1), some (.inl l2), some (.inl l3), some (.inl l4), some (.inl l5), none, some (.inl (l6 + (I 0 10 (((l1 * (nI 4)) + l2).toNatClampNeg)))), some (.inl (nI 0)), none]) ⟨rfl, rfl, rfl, rfl, rfl, rfl, rfl, rfl, trivial⟩ (tX5_send_29 hG h)
  · rw [if_neg c] at h
    cases h
    exact am_vret dX5_send_10 rfl ⟨rfl, rfl⟩
def gX5_send (n : Nat) (l1 : Int32) (l2 : Int32) (l3 : Int32) (l4 : Int32) (l5 : Int32) (l6 : Int32) (I : am_I) : Option (am_I) := bX5_send_0 n l1 l2 l3 l4 l5 l6 I
theorem sX5_send {G : am_G} (hG : am_ok G) {d : Nat} {l1 : Int32} {l2 : Int32} {l3 : Int32} {l4 : Int32} {l5 : Int32} {l6 : Int32} {I : am_I} {r : am_I} (h : gX5_send G.2.2.2.1 l1 l2 l3 l4 l5 l6 I = some r) : am_C G (d + 1) mX5_send [.inr (0, 9), .inl l1, .inl l2, .inl l3, .inl l4, .inl l5, .inl l6] I (am_E none r) :=
  am_of (by decide +kernel) hG.nd (Nat.le_of_ble_eq_true rfl) (am_lwJ (lo' := [some (.inr (0, 9)), some (.inl l1), some (.inl l2), some (.inl l3), some (.inl l4), some (.inl l5), some (.inl l6), none, none, none]) ⟨rfl, rfl, rfl, rfl, rfl, rfl, rfl, trivial⟩ (tX5_send_0 hG h))
def bX10_post_51 (n : Nat) (I : am_I) : Option (am_I) := some I
theorem tX10_post_51 {G : am_G} (hG : am_ok G) {d : Nat} {I : am_I} {r : am_I} (h : bX10_post_51 G.2.2.2.1  I = some r) : am_J G (d + 2) mX10_post am_no (am_E none r) 51 [none, none, none, none, none, none] [] I := by
  unfold bX10_post_51 at h
  cases h
  exact am_vret dX10_post_51 rfl ⟨rfl, rfl⟩
def bX10_post_0 (n : Nat) (l1 : Int32) (l2 : Int32) (l3 : Int32) (l4 : Int32) (l5 : Int32) (I : am_I) : Option (am_I) := am_lt (am_up I 0 9 4 ((I 0 9 4) + (nI 1))) (fun I1 => (gX10_isNode n l2 I1).bind (fun q2 => if q2.1 = 0 then (bX10_post_51 n q2.2) else (am_gd (am_inb l2 n) (if (q2.2 l2.toNatClampNeg 40 5) = 0 then (bX10_post_51 n q2.2) else ((gX5_send n l1 l2 l3 l4 l5 (q2.2 0 0 7) q2.2).bind (fun q4 => bX10_post_51 n q4))))))
theorem tX10_post_0 {G : am_G} (hG : am_ok G) {d : Nat} {l1 : Int32} {l2 : Int32} {l3 : Int32} {l4 : Int32} {l5 : Int32} {I : am_I} {r : am_I} (h : bX10_post_0 G.2.2.2.1 l1 l2 l3 l4 l5  I = some r) : am_J G (d + 2) mX10_post am_no (am_E none r) 0 [some (.inr (0, 0)), some (.inl l1), some (.inl l2), some (.inl l3), some (.inl l4), some (.inl l5)] [] I := by
  unfold bX10_post_0 at h
  refine am_aload_n dX10_post_0 rfl ?_
  refine am_get (v := .inr (0, 9)) dX10_post_1 fl_10_36 (hG.m0 (by decide)) rfl ?_
  refine am_dup dX10_post_4 ?_
  refine am_get (v := .inl (I 0 9 4)) dX10_post_5 fl_10_303 (hG.m0 (by decide)) rfl ?_
  refine am_iconst (v := nI 1) dX10_post_8 (by decide) ?_
  refine am_iadd dX10_post_9 ?_
  refine am_put (x := (I 0 9 4) + (nI 1)) dX10_post_10 fp_10_303 (hG.m0 (by decide)) (Nat.le_of_ble_eq_true rfl) rfl ?_
  obtain ⟨I1, hI1, h⟩ := am_lt_some h
  refine am_st10 hI1 ?_
  refine am_aload_n dX10_post_13 rfl ?_
  refine am_iload_n dX10_post_14 rfl ?_
  obtain ⟨q2, hq2, h⟩ := am_bd h
  refine am_callVx (i := 0) (j := 0) (as := [.inl l2]) (rest := []) dX10_post_15 lkX10_isNode ml_X10_65 imX10_isNode seX10_isNode rfl rfl (hG.m0 (by decide)) rfl (Nat.le_of_ble_eq_true rfl) rfl (sX10_isNode hG hq2) ?_
  refine am_if_eq (tgt := 51) dX10_post_18 rfl (fun c => ?_) (fun c => ?_)
  · rw [if_pos c] at h
    exact am_lwJ (lo' := [none, none, none, none, none, none]) trivial (tX10_post_51 hG h)
  · rw [if_neg c] at h
    refine am_aload_n dX10_post_21 rfl ?_
    refine am_get (v := .inr (0, 2)) dX10_post_22 fl_10_19 (hG.m0 (by decide)) rfl ?_
    refine am_iload_n dX10_post_25 rfl ?_
    obtain ⟨g3, h⟩ := am_gd_some h
    refine am_aaldG dX10_post_26 (hG.m0 (by decide)) rfl g3 hG.n31 ?_
    refine am_get (v := .inl (q2.2 l2.toNatClampNeg 40 5)) dX10_post_27 fl_10_80 (hG.mn (am_inb_lt g3) (by decide) (by decide)) rfl ?_
    refine am_if_eq (tgt := 51) dX10_post_30 rfl (fun c => ?_) (fun c => ?_)
    · rw [if_pos c] at h
      exact am_lwJ (lo' := [none, none, none, none, none, none]) trivial (tX10_post_51 hG h)
    · rw [if_neg c] at h
      refine am_aload_n dX10_post_33 rfl ?_
      refine am_get (v := .inr (0, 9)) dX10_post_34 fl_10_36 (hG.m0 (by decide)) rfl ?_
      refine am_iload_n dX10_post_37 rfl ?_
      refine am_iload_n dX10_post_38 rfl ?_
      refine am_iload_n dX10_post_39 rfl ?_
      refine am_iload dX10_post_40 rfl ?_
      refine am_iload dX10_post_42 rfl ?_
      refine am_aload_n dX10_post_44 rfl ?_
      refine am_get (v := .inl (q2.2 0 0 7)) dX10_post_45 fl_10_99 (hG.m0 (by decide)) rfl ?_
      obtain ⟨q4, hq4, h⟩ := am_bd h
      refine am_callVe (i := 0) (j := 9) (as := [.inl l1, .inl l2, .inl l3, .inl l4, .inl l5, .inl (q2.2 0 0 7)]) (rest := []) dX10_post_48 lkX5_send ml_X10_412 imX5_send seX5_send rfl rfl (hG.m0 (by decide)) rfl (Nat.le_of_ble_eq_true rfl) rfl (sX5_send hG hq4) ?_
      exact am_lwJ (lo' := [none, none, none, none, none, none]) trivial (tX10_post_51 hG h)
def gX10_post (n : Nat) (l1 : Int32) (l2 : Int32) (l3 : Int32) (l4 : Int32) (l5 : Int32) (I : am_I) : Option (am_I) := bX10_post_0 n l1 l2 l3 l4 l5 I
theorem sX10_post {G : am_G} (hG : am_ok G) {d : Nat} {l1 : Int32} {l2 : Int32} {l3 : Int32} {l4 : Int32} {l5 : Int32} {I : am_I} {r : am_I} (h : gX10_post G.2.2.2.1 l1 l2 l3 l4 l5 I = some r) : am_C G (d + 2) mX10_post [.inr (0, 0), .inl l1, .inl l2, .inl l3, .inl l4, .inl l5] I (am_E none r) :=
  am_of (by decide +kernel) hG.nd (Nat.le_of_ble_eq_true rfl) (am_lwJ (lo' := [some (.inr (0, 0)), some (.inl l1), some (.inl l2), some (.inl l3), some (.inl l4), some (.inl l5)]) ⟨rfl, rfl, rfl, rfl, rfl, rfl, trivial⟩ (tX10_post_0 hG h))
def bX10_pinAll_129 (n : Nat) (I : am_I) : Option (Int32 × am_I) := some (nI 0, I)
theorem tX10_pinAll_129 {G : am_G} (hG : am_ok G) {d : Nat} {I : am_I} {r : Int32 × am_I} (h : bX10_pinAll_129 G.2.2.2.1  I = some r) : am_J G (d + 3) mX10_pinAll am_no (am_E (some r.1) r.2) 129 [none, none, none, none, none, none] [] I := by
  unfold bX10_pinAll_129 at h
  refine am_iconst (v := nI 0) dX10_pinAll_129 (by decide) ?_
  cases h
  exact am_iret dX10_pinAll_130 rfl (am_nz (by decide)).1 ⟨rfl, rfl⟩
def bX10_pinAll_76 (n : Nat) (l1 : Nat) (l2 : Nat) (l4 : Int32) (l5 : Int32) (I : am_I) : Option (Int32 × am_I) := if l5 = 0 then (am_gd (am_inb l4 136) (if (I l2 50 l4.toNatClampNeg) = 0 then (am_gd (am_inb l4 136) (am_gd (am_inb l4 136) (am_lt (am_up I l2 50 l4.toNatClampNeg (I l2 54 l4.toNatClampNeg)) (fun I4 => (gX10_masterOf n l4 I4).bind (fun q5 => am_gd (am_inb l4 136) ((gX10_post n (I4 l1 40 0) q5.1 (nI 0) l4 (q5.2 l2 50 l4.toNatClampNeg) q5.2).bind (fun q7 => bX10_pinAll_129 n q7))))))) else (bX10_pinAll_129 n I))) else (bX10_pinAll_129 n I)
theorem tX10_pinAll_76 {G : am_G} (hG : am_ok G) {d : Nat} {l1 : Nat} {l2 : Nat} {l4 : Int32} {l5 : Int32} (hl1 : l1 < G.2.2.2.1) (hl2 : l2 < G.2.2.2.1) {I : am_I} {r : Int32 × am_I} (h : bX10_pinAll_76 G.2.2.2.1 l1 l2 l4 l5  I = some r) : am_J G (d + 3) mX10_pinAll am_no (am_E (some r.1) r.2) 76 [some (.inr (0, 0)), some (.inr (l1, 40)), some (.inr (l2, 48)), none, some (.inl l4), some (.inl l5)] [] I := by
  unfold bX10_pinAll_76 at h
  refine am_iload dX10_pinAll_76 rfl ?_
  refine am_if_ne (tgt := 129) dX10_pinAll_78 rfl (fun c => ?_) (fun c => ?_)
  · rw [if_neg c] at h
    exact am_lwJ (lo' := [none, none, none, none, none, none]) trivial (tX10_pinAll_129 hG h)
  · rw [if_pos c] at h
    refine am_aload_n dX10_pinAll_81 rfl ?_
    refine am_get (v := .inr (l2, 50)) dX10_pinAll_82 fl_10_253 (hG.mn hl2 (by decide) (by decide)) rfl ?_
    refine am_iload dX10_pinAll_85 rfl ?_
    obtain ⟨g1, h⟩ := am_gd_some h
    refine am_ialdG dX10_pinAll_87 (hG.mn hl2 (by decide) (by decide)) rfl g1 (show 136 < 2 ^ 31 by decide) ?_
    refine am_if_ne (tgt := 129) dX10_pinAll_88 rfl (fun c => ?_) (fun c => ?_)
    · rw [if_neg c] at h
      exact am_lwJ (lo' := [none, none, none, none, none, none]) trivial (tX10_pinAll_129 hG h)
    · rw [if_pos c] at h
      refine am_aload_n dX10_pinAll_91 rfl ?_
      refine am_get (v := .inr (l2, 50)) dX10_pinAll_92 fl_10_253 (hG.mn hl2 (by decide) (by decide)) rfl ?_
      refine am_iload dX10_pinAll_95 rfl ?_
      refine am_aload_n dX10_pinAll_97 rfl ?_
      refine am_get (v := .inr (l2, 54)) dX10_pinAll_98 fl_10_259 (hG.mn hl2 (by decide) (by decide)) rfl ?_
      refine am_iload dX10_pinAll_101 rfl ?_
      obtain ⟨g2, h⟩ := am_gd_some h
      refine am_ialdG dX10_pinAll_103 (hG.mn hl2 (by decide) (by decide)) rfl g2 (show 136 < 2 ^ 31 by decide) ?_
      obtain ⟨g3, h⟩ := am_gd_some h
      refine am_iastG dX10_pinAll_104 (hG.mn hl2 (by decide) (by decide)) rfl g3 (show 136 < 2 ^ 31 by decide) ?_
      obtain ⟨I4, hI4, h⟩ := am_lt_some h
      refine am_st10 hI4 ?_
      refine am_aload_n dX10_pinAll_105 rfl ?_
      refine am_aload_n dX10_pinAll_106 rfl ?_
      refine am_get (v := .inl (I4 l1 40 0)) dX10_pinAll_107 fl_10_388 (hG.mn hl1 (by decide) (by decide)) rfl ?_
      refine am_aload_n dX10_pinAll_110 rfl ?_
      refine am_iload dX10_pinAll_111 rfl ?_
      obtain ⟨q5, hq5, h⟩ := am_bd h
      refine am_callVx (i := 0) (j := 0) (as := [.inl l4]) (rest := [.inl (I4 l1 40 0), .inr (0, 0)]) dX10_pinAll_113 lkX10_masterOf ml_X10_158 imX10_masterOf seX10_masterOf rfl rfl (hG.m0 (by decide)) rfl (Nat.le_of_ble_eq_true rfl) rfl (sX10_masterOf hG hq5) ?_
      refine am_iconst (v := nI 0) dX10_pinAll_116 (by decide) ?_
      refine am_iload dX10_pinAll_117 rfl ?_
      refine am_aload_n dX10_pinAll_119 rfl ?_
      refine am_get (v := .inr (l2, 50)) dX10_pinAll_120 fl_10_253 (hG.mn hl2 (by decide) (by decide)) rfl ?_
      refine am_iload dX10_pinAll_123 rfl ?_
      obtain ⟨g6, h⟩ := am_gd_some h
      refine am_ialdG dX10_pinAll_125 (hG.mn hl2 (by decide) (by decide)) rfl g6 (show 136 < 2 ^ 31 by decide) ?_
      obtain ⟨q7, hq7, h⟩ := am_bd h
      refine am_callVe (i := 0) (j := 0) (as := [.inl (I4 l1 40 0), .inl q5.1, .inl (nI 0), .inl l4, .inl (q5.2 l2 50 l4.toNatClampNeg)]) (rest := []) dX10_pinAll_126 lkX10_post ml_X10_391 imX10_post seX10_post rfl rfl (hG.m0 (by decide)) rfl (Nat.le_of_ble_eq_true rfl) rfl (sX10_post hG hq7) ?_
      exact am_lwJ (lo' := [none, none, none, none, none, none]) trivial (tX10_pinAll_129 hG h)
def bX10_pinAll_139 (n : Nat) (k7 : Nat → Nat → Int32 → am_I → Option (Int32 × am_I)) (l1 : Nat) (l2 : Nat) (l3 : Int32) (I : am_I) : Option (Int32 × am_I) := k7 l1 l2 (l3 + nI 1) I
theorem tX10_pinAll_139 {G : am_G} (hG : am_ok G) {d : Nat} {k7 : Nat → Nat → Int32 → am_I → Option (Int32 × am_I)} (hk7 : ∀ (l1 : Nat) (l2 : Nat) (l3 : Int32) (hl1 : l1 < G.2.2.2.1) (hl2 : l2 < G.2.2.2.1) (I : am_I) (r : Int32 × am_I), k7 l1 l2 l3 I = some r → am_J G (d + 3) mX10_pinAll am_no (am_E (some r.1) r.2) 7 [some (.inr (0, 0)), some (.inr (l1, 40)), some (.inr (l2, 48)), some (.inl l3), none, none] [] I) {l1 : Nat} {l2 : Nat} {l3 : Int32} (hl1 : l1 < G.2.2.2.1) (hl2 : l2 < G.2.2.2.1) {I : am_I} {r : Int32 × am_I} (h : bX10_pinAll_139 G.2.2.2.1 k7 l1 l2 l3  I = some r) : am_J G (d + 3) mX10_pinAll am_no (am_E (some r.1) r.2) 139 [some (.inr (0, 0)), some (.inr (l1, 40)), some (.inr (l2, 48)), some (.inl l3), none, none] [] I := by
  unfold bX10_pinAll_139 at h
  refine am_iinc (v := l3 + nI 1) dX10_pinAll_139 rfl rfl ?_
  refine am_goto (tgt := 7) dX10_pinAll_142 rfl ?_
  exact am_lwJ (lo' := [some (.inr (0, 0)), some (.inr (l1, 40)), some (.inr (l2, 48)), some (.inl (l3 + nI 1)), none, none]) ⟨rfl, rfl, rfl, rfl, trivial⟩ (hk7 l1 l2 (l3 + nI 1) hl1 hl2 _ _ h)
def bX10_pinAll_52 (n : Nat) (k7 : Nat → Nat → Int32 → am_I → Option (Int32 × am_I)) (l1 : Nat) (l2 : Nat) (l3 : Int32) (l4 : Int32) (s0 : Int32) (I : am_I) : Option (Int32 × am_I) := if s0 = 0 then (am_gd (am_inb l4 136) (am_gd (am_inb l4 136) (if (I l2 54 l4.toNatClampNeg) ≤ (I l2 49 l4.toNatClampNeg) then (am_gd (am_inb l4 136) (am_lt (am_up I l2 52 l4.toNatClampNeg (nI 1)) (fun I4 => bX10_pinAll_139 n k7 l1 l2 l3 I4))) else (bX10_pinAll_76 n l1 l2 l4 s0 I)))) else (bX10_pinAll_76 n l1 l2 l4 s0 I)
theorem tX10_pinAll_52 {G : am_G} (hG : am_ok G) {d : Nat} {k7 : Nat → Nat → Int32 → am_I → Option (Int32 × am_I)} (hk7 : ∀ (l1 : Nat) (l2 : Nat) (l3 : Int32) (hl1 : l1 < G.2.2.2.1) (hl2 : l2 < G.2.2.2.1) (I : am_I) (r : Int32 × am_I), k7 l1 l2 l3 I = some r → am_J G (d + 3) mX10_pinAll am_no (am_E (some r.1) r.2) 7 [some (.inr (0, 0)), some (.inr (l1, 40)), some (.inr (l2, 48)), some (.inl l3), none, none] [] I) {l1 : Nat} {l2 : Nat} {l3 : Int32} {l4 : Int32} {s0 : Int32} (hl1 : l1 < G.2.2.2.1) (hl2 : l2 < G.2.2.2.1) {I : am_I} {r : Int32 × am_I} (h : bX10_pinAll_52 G.2.2.2.1 k7 l1 l2 l3 l4 s0  I = some r) : am_J G (d + 3) mX10_pinAll am_no (am_E (some r.1) r.2) 52 [some (.inr (0, 0)), some (.inr (l1, 40)), some (.inr (l2, 48)), some (.inl l3), some (.inl l4), none] [.inl s0] I := by
  unfold bX10_pinAll_52 at h
  refine am_istore dX10_pinAll_52 (by decide) ?_
  refine am_iload dX10_pinAll_54 rfl ?_
  refine am_if_ne (tgt := 76) dX10_pinAll_56 rfl (fun c => ?_) (fun c => ?_)
  · rw [if_neg c] at h
    exact am_lwJ (lo' := [some (.inr (0, 0)), some (.inr (l1, 40)), some (.inr (l2, 48)), none, some (.inl l4), some (.inl s0)]) ⟨rfl, rfl, rfl, rfl, rfl, trivial⟩ (tX10_pinAll_76 hG hl1 hl2 h)
  · rw [if_pos c] at h
    refine am_aload_n dX10_pinAll_59 rfl ?_
    refine am_get (v := .inr (l2, 49)) dX10_pinAll_60 fl_10_248 (hG.mn hl2 (by decide) (by decide)) rfl ?_
    refine am_iload dX10_pinAll_63 rfl ?_
    obtain ⟨g1, h⟩ := am_gd_some h
    refine am_ialdG dX10_pinAll_65 (hG.mn hl2 (by decide) (by decide)) rfl g1 (show 136 < 2 ^ 31 by decide) ?_
    refine am_aload_n dX10_pinAll_66 rfl ?_
    refine am_get (v := .inr (l2, 54)) dX10_pinAll_67 fl_10_259 (hG.mn hl2 (by decide) (by decide)) rfl ?_
    refine am_iload dX10_pinAll_70 rfl ?_
    obtain ⟨g2, h⟩ := am_gd_some h
    refine am_ialdG dX10_pinAll_72 (hG.mn hl2 (by decide) (by decide)) rfl g2 (show 136 < 2 ^ 31 by decide) ?_
    refine am_icmp_ge (tgt := 131) dX10_pinAll_73 rfl (fun c => ?_) (fun c => ?_)
    · rw [if_pos c] at h
      refine am_aload_n dX10_pinAll_131 rfl ?_
      refine am_get (v := .inr (l2, 52)) dX10_pinAll_132 fl_10_385 (hG.mn hl2 (by decide) (by decide)) rfl ?_
      refine am_iload dX10_pinAll_135 rfl ?_
      refine am_iconst (v := nI 1) dX10_pinAll_137 (by decide) ?_
      obtain ⟨g3, h⟩ := am_gd_some h
      refine am_zastG dX10_pinAll_138 (hG.mn hl2 (by decide) (by decide)) rfl (by decide) g3 (show 136 < 2 ^ 31 by decide) ?_
      obtain ⟨I4, hI4, h⟩ := am_lt_some h
      refine am_st10 hI4 ?_
      exact am_lwJ (lo' := [some (.inr (0, 0)), some (.inr (l1, 40)), some (.inr (l2, 48)), some (.inl l3), none, none]) ⟨rfl, rfl, rfl, rfl, trivial⟩ (tX10_pinAll_139 hG hk7 hl1 hl2 h)
    · rw [if_neg c] at h
      exact am_lwJ (lo' := [some (.inr (0, 0)), some (.inr (l1, 40)), some (.inr (l2, 48)), none, some (.inl l4), some (.inl s0)]) ⟨rfl, rfl, rfl, rfl, rfl, trivial⟩ (tX10_pinAll_76 hG hl1 hl2 h)
def bX10_pinAll_7 (n : Nat) : Nat → Nat → Nat → Int32 → am_I → Option (Int32 × am_I)
  | 0, _, _, _, _ => none
  | fu + 1, l1, l2, l3, I => (fun k7 => if (I l2 48 6) ≤ l3 then (some (nI 1, I)) else (am_gd (am_inb l3 136) (am_gd (am_inb (I l2 53 l3.toNatClampNeg) 136) (if (I l2 52 ((I l2 53 l3.toNatClampNeg).toNatClampNeg)) = 0 then (am_gd (am_inb (I l2 53 l3.toNatClampNeg) 136) (if (I l2 51 ((I l2 53 l3.toNatClampNeg).toNatClampNeg)) = (-1 : Int32) then (bX10_pinAll_52 n k7 l1 l2 l3 (I l2 53 l3.toNatClampNeg) (nI 0) I) else (bX10_pinAll_52 n k7 l1 l2 l3 (I l2 53 l3.toNatClampNeg) (nI 1) I))) else (bX10_pinAll_139 n k7 l1 l2 l3 I))))) (bX10_pinAll_7 n fu)
theorem tX10_pinAll_7 {G : am_G} (hG : am_ok G) {d : Nat} : ∀ {fu : Nat} {l1 : Nat} {l2 : Nat} {l3 : Int32} (hl1 : l1 < G.2.2.2.1) (hl2 : l2 < G.2.2.2.1) {I : am_I} {r : Int32 × am_I}, bX10_pinAll_7 G.2.2.2.1 fu l1 l2 l3 I = some r → am_J G (d + 3) mX10_pinAll am_no (am_E (some r.1) r.2) 7 [some (.inr (0, 0)), some (.inr (l1, 40)), some (.inr (l2, 48)), some (.inl l3), none, none] [] I := by
  intro fu
  induction fu with
  | zero => intro l1 l2 l3 hl1 hl2 I r h; cases h
  | succ fu ih =>
    intro l1 l2 l3 hl1 hl2 I r h
    have hk7 : ∀ (l1 : Nat) (l2 : Nat) (l3 : Int32) (hl1 : l1 < G.2.2.2.1) (hl2 : l2 < G.2.2.2.1) (I : am_I) (r : Int32 × am_I), bX10_pinAll_7 G.2.2.2.1 fu l1 l2 l3 I = some r → am_J G (d + 3) mX10_pinAll am_no (am_E (some r.1) r.2) 7 [some (.inr (0, 0)), some (.inr (l1, 40)), some (.inr (l2, 48)), some (.inl l3), none, none] [] I := fun l1 l2 l3 hl1 hl2 I r h => ih hl1 hl2 h
    unfold bX10_pinAll_7 at h
    generalize bX10_pinAll_7 G.2.2.2.1 fu = k7 at hk7 h
    dsimp only at h
    refine am_iload_n dX10_pinAll_7 rfl ?_
    refine am_aload_n dX10_pinAll_8 rfl ?_
    refine am_get (v := .inl (I l2 48 6)) dX10_pinAll_9 fl_10_353 (hG.mn hl2 (by decide) (by decide)) rfl ?_
    refine am_icmp_ge (tgt := 145) dX10_pinAll_12 rfl (fun c => ?_) (fun c => ?_)
    · rw [if_pos c] at h
      refine am_iconst (v := nI 1) dX10_pinAll_145 (by decide) ?_
      cases h
      exact am_iret dX10_pinAll_146 rfl (am_nz (by decide)).1 ⟨rfl, rfl⟩
    · rw [if_neg c] at h
      refine am_aload_n dX10_pinAll_15 rfl ?_
      refine am_get (v := .inr (l2, 53)) dX10_pinAll_16 fl_10_383 (hG.mn hl2 (by decide) (by decide)) rfl ?_
      refine am_iload_n dX10_pinAll_19 rfl ?_
      obtain ⟨g1, h⟩ := am_gd_some h
      refine am_ialdG dX10_pinAll_20 (hG.mn hl2 (by decide) (by decide)) rfl g1 (show 136 < 2 ^ 31 by decide) ?_
      refine am_istore dX10_pinAll_21 (by decide) ?_
      refine am_aload_n dX10_pinAll_23 rfl ?_
      refine am_get (v := .inr (l2, 52)) dX10_pinAll_24 fl_10_385 (hG.mn hl2 (by decide) (by decide)) rfl ?_
      refine am_iload dX10_pinAll_27 rfl ?_
      obtain ⟨g2, h⟩ := am_gd_some h
      refine am_zaldG dX10_pinAll_29 (hG.mn hl2 (by decide) (by decide)) rfl g2 (show 136 < 2 ^ 31 by decide) ?_
      refine am_if_eq (tgt := 36) dX10_pinAll_30 rfl (fun c => ?_) (fun c => ?_)
      · rw [if_pos c] at h
        refine am_aload_n dX10_pinAll_36 rfl ?_
        refine am_get (v := .inr (l2, 51)) dX10_pinAll_37 fl_10_256 (hG.mn hl2 (by decide) (by decide)) rfl ?_
        refine am_iload dX10_pinAll_40 rfl ?_
        obtain ⟨g3, h⟩ := am_gd_some h
        refine am_ialdG dX10_pinAll_42 (hG.mn hl2 (by decide) (by decide)) rfl g3 (show 136 < 2 ^ 31 by decide) ?_
        refine am_iconst (v := (-1 : Int32)) dX10_pinAll_43 (by decide) ?_
        refine am_icmp_eq (tgt := 51) dX10_pinAll_44 rfl (fun c => ?_) (fun c => ?_)
        · rw [if_pos c] at h
          refine am_iconst (v := nI 0) dX10_pinAll_51 (by decide) ?_
          exact am_lwJ (lo' := [some (.inr (0, 0)), some (.inr (l1, 40)), some (.inr (l2, 48)), some (.inl l3), some (.inl (I l2 53 l3.toNatClampNeg)), none]) ⟨rfl, rfl, rfl, rfl, rfl, trivial⟩ (tX10_pinAll_52 hG hk7 hl1 hl2 h)
        · rw [if_neg c] at h
          refine am_iconst (v := nI 1) dX10_pinAll_47 (by decide) ?_
          refine am_goto (tgt := 52) dX10_pinAll_48 rfl ?_
          exact am_lwJ (lo' := [some (.inr (0, 0)), some (.inr (l1, 40)), some (.inr (l2, 48)), some (.inl l3), some (.inl (I l2 53 l3.toNatClampNeg)), none]) ⟨rfl, rfl, rfl, rfl, rfl, trivial⟩ (tX10_pinAll_52 hG hk7 hl1 hl2 h)
      · rw [if_neg c] at h
        refine am_goto (tgt := 139) dX10_pinAll_33 rfl ?_
        exact am_lwJ (lo' := [some (.inr (0, 0)), some (.inr (l1, 40)), some (.inr (l2, 48)), some (.inl l3), none, none]) ⟨rfl, rfl, rfl, rfl, trivial⟩ (tX10_pinAll_139 hG hk7 hl1 hl2 h)
def bX10_pinAll_0 (n : Nat) (l1 : Nat) (I : am_I) : Option (Int32 × am_I) := bX10_pinAll_7 n am_fu l1 l1 (nI 0) I
theorem tX10_pinAll_0 {G : am_G} (hG : am_ok G) {d : Nat} {l1 : Nat} (hl1 : l1 < G.2.2.2.1) {I : am_I} {r : Int32 × am_I} (h : bX10_pinAll_0 G.2.2.2.1 l1  I = some r) : am_J G (d + 3) mX10_pinAll am_no (am_E (some r.1) r.2) 0 [some (.inr (0, 0)), some (.inr (l1, 40)), none, none, none, none] [] I := by
  unfold bX10_pinAll_0 at h
  refine am_aload_n dX10_pinAll_0 rfl ?_
  refine am_get (v := .inr (l1, 48)) dX10_pinAll_1 fl_10_244 (hG.mn hl1 (by decide) (by decide)) rfl ?_
  refine am_astore_n dX10_pinAll_4 (by decide) ?_
  refine am_iconst (v := nI 0) dX10_pinAll_5 (by decide) ?_
  refine am_istore_n dX10_pinAll_6 (by decide) ?_
  exact am_lwJ (lo' := [some (.inr (0, 0)), some (.inr (l1, 40)), some (.inr (l1, 48)), some (.inl (nI 0)), none, none]) ⟨rfl, rfl, rfl, rfl, trivial⟩ (tX10_pinAll_7 hG hl1 hl1 h)
def gX10_pinAll (n : Nat) (l1 : Nat) (I : am_I) : Option (Int32 × am_I) := bX10_pinAll_0 n l1 I
theorem sX10_pinAll {G : am_G} (hG : am_ok G) {d : Nat} {l1 : Nat} (hl1 : l1 < G.2.2.2.1) {I : am_I} {r : Int32 × am_I} (h : gX10_pinAll G.2.2.2.1 l1 I = some r) : am_C G (d + 3) mX10_pinAll [.inr (0, 0), .inr (l1, 40)] I (am_E (some r.1) r.2) :=
  am_of (by decide +kernel) hG.nd (Nat.le_of_ble_eq_true rfl) (am_lwJ (lo' := [some (.inr (0, 0)), some (.inr (l1, 40)), none, none, none, none]) ⟨rfl, rfl, trivial⟩ (tX10_pinAll_0 hG hl1 h))
def bX9_meet_33 (n : Nat) (l1 : Int32) (l2 : Int32) (I : am_I) : Option (Int32 × am_I) := am_lt (am_up I 0 15 9 (nI 3)) (fun I1 => am_lt (am_up I1 0 15 11 l1) (fun I2 => am_lt (am_up I2 0 15 12 l2) (fun I3 => some (nI 0, I3))))
theorem tX9_meet_33 {G : am_G} (hG : am_ok G) {d : Nat} {l1 : Int32} {l2 : Int32} {I : am_I} {r : Int32 × am_I} (h : bX9_meet_33 G.2.2.2.1 l1 l2  I = some r) : am_J G d mX9_meet am_no (am_E (some r.1) r.2) 33 [some (.inr (0, 15)), some (.inl l1), some (.inl l2)] [] I := by
  unfold bX9_meet_33 at h
  refine am_aload_n dX9_meet_33 rfl ?_
  refine am_iconst (v := nI 3) dX9_meet_34 (by decide) ?_
  refine am_put (x := nI 3) dX9_meet_35 fp_9_41 (hG.m0 (by decide)) (Nat.le_of_ble_eq_true rfl) rfl ?_
  obtain ⟨I1, hI1, h⟩ := am_lt_some h
  refine am_st10 hI1 ?_
  refine am_aload_n dX9_meet_38 rfl ?_
  refine am_iload_n dX9_meet_39 rfl ?_
  refine am_put (x := l1) dX9_meet_40 fp_9_169 (hG.m0 (by decide)) (Nat.le_of_ble_eq_true rfl) rfl ?_
  obtain ⟨I2, hI2, h⟩ := am_lt_some h
  refine am_st10 hI2 ?_
  refine am_aload_n dX9_meet_43 rfl ?_
  refine am_iload_n dX9_meet_44 rfl ?_
  refine am_put (x := l2) dX9_meet_45 fp_9_172 (hG.m0 (by decide)) (Nat.le_of_ble_eq_true rfl) rfl ?_
  obtain ⟨I3, hI3, h⟩ := am_lt_some h
  refine am_st10 hI3 ?_
  refine am_iconst (v := nI 0) dX9_meet_48 (by decide) ?_
  cases h
  exact am_iret dX9_meet_49 rfl (am_nz (by decide)).1 ⟨rfl, rfl⟩
def bX9_meet_0 (n : Nat) (l1 : Int32) (l2 : Int32) (I : am_I) : Option (Int32 × am_I) := am_gd (decide ((I 0 15 8).toNatClampNeg < n)) (am_gd (am_inb l1 136) (if (I ((I 0 15 8).toNatClampNeg) 52 l1.toNatClampNeg) = 0 then (bX9_meet_33 n l1 l2 I) else (am_gd (decide ((I 0 15 8).toNatClampNeg < n)) (am_gd (am_inb l1 136) (if (I ((I 0 15 8).toNatClampNeg) 49 l1.toNatClampNeg) < l2 then (bX9_meet_33 n l1 l2 I) else (some (nI 1, I)))))))
theorem tX9_meet_0 {G : am_G} (hG : am_ok G) {d : Nat} {l1 : Int32} {l2 : Int32} {I : am_I} {r : Int32 × am_I} (h : bX9_meet_0 G.2.2.2.1 l1 l2  I = some r) : am_J G d mX9_meet am_no (am_E (some r.1) r.2) 0 [some (.inr (0, 15)), some (.inl l1), some (.inl l2)] [] I := by
  unfold bX9_meet_0 at h
  refine am_aload_n dX9_meet_0 rfl ?_
  obtain ⟨g1, h⟩ := am_gd_some h
  have g1 := of_decide_eq_true g1
  refine am_get (v := .inr ((I 0 15 8).toNatClampNeg, 40)) dX9_meet_1 fl_9_31 (hG.m0 (by decide)) rfl ?_
  refine am_get (v := .inr ((I 0 15 8).toNatClampNeg, 48)) dX9_meet_4 fl_9_157 (hG.mn g1 (by decide) (by decide)) rfl ?_
  refine am_get (v := .inr ((I 0 15 8).toNatClampNeg, 52)) dX9_meet_7 fl_9_161 (hG.mn g1 (by decide) (by decide)) rfl ?_
  refine am_iload_n dX9_meet_10 rfl ?_
  obtain ⟨g2, h⟩ := am_gd_some h
  refine am_zaldG dX9_meet_11 (hG.mn g1 (by decide) (by decide)) rfl g2 (show 136 < 2 ^ 31 by decide) ?_
  refine am_if_eq (tgt := 33) dX9_meet_12 rfl (fun c => ?_) (fun c => ?_)
  · rw [if_pos c] at h
    exact am_lwJ (lo' := [some (.inr (0, 15)), some (.inl l1), some (.inl l2)]) ⟨rfl, rfl, rfl, trivial⟩ (tX9_meet_33 hG h)
  · rw [if_neg c] at h
    refine am_aload_n dX9_meet_15 rfl ?_
    obtain ⟨g3, h⟩ := am_gd_some h
    have g3 := of_decide_eq_true g3
    refine am_get (v := .inr ((I 0 15 8).toNatClampNeg, 40)) dX9_meet_16 fl_9_31 (hG.m0 (by decide)) rfl ?_
    refine am_get (v := .inr ((I 0 15 8).toNatClampNeg, 48)) dX9_meet_19 fl_9_157 (hG.mn g3 (by decide) (by decide)) rfl ?_
    refine am_get (v := .inr ((I 0 15 8).toNatClampNeg, 49)) dX9_meet_22 fl_9_166 (hG.mn g3 (by decide) (by decide)) rfl ?_
    refine am_iload_n dX9_meet_25 rfl ?_
    obtain ⟨g4, h⟩ := am_gd_some h
    refine am_ialdG dX9_meet_26 (hG.mn g3 (by decide) (by decide)) rfl g4 (show 136 < 2 ^ 31 by decide) ?_
    refine am_iload_n dX9_meet_27 rfl ?_
    refine am_icmp_lt (tgt := 33) dX9_meet_28 rfl (fun c => ?_) (fun c => ?_)
    · rw [if_pos c] at h
      exact am_lwJ (lo' := [some (.inr (0, 15)), some (.inl l1), some (.inl l2)]) ⟨rfl, rfl, rfl, trivial⟩ (tX9_meet_33 hG h)
    · rw [if_neg c] at h
      refine am_iconst (v := nI 1) dX9_meet_31 (by decide) ?_
      cases h
      exact am_iret dX9_meet_32 rfl (am_nz (by decide)).1 ⟨rfl, rfl⟩
def gX9_meet (n : Nat) (l1 : Int32) (l2 : Int32) (I : am_I) : Option (Int32 × am_I) := bX9_meet_0 n l1 l2 I
theorem sX9_meet {G : am_G} (hG : am_ok G) {d : Nat} {l1 : Int32} {l2 : Int32} {I : am_I} {r : Int32 × am_I} (h : gX9_meet G.2.2.2.1 l1 l2 I = some r) : am_C G d mX9_meet [.inr (0, 15), .inl l1, .inl l2] I (am_E (some r.1) r.2) :=
  am_of (by decide +kernel) hG.nd (Nat.le_of_ble_eq_true rfl) (am_lwJ (lo' := [some (.inr (0, 15)), some (.inl l1), some (.inl l2)]) ⟨rfl, rfl, rfl, trivial⟩ (tX9_meet_0 hG h))
def bX10_isWord_26 (n : Nat) (s0 : Int32) (I : am_I) : Option (Int32 × am_I) := am_gd (am_01 s0) (some (s0, I))
theorem tX10_isWord_26 {G : am_G} (hG : am_ok G) {d : Nat} {s0 : Int32} {I : am_I} {r : Int32 × am_I} (h : bX10_isWord_26 G.2.2.2.1 s0  I = some r) : am_J G d mX10_isWord am_no (am_E (some r.1) r.2) 26 [none, none] [.inl s0] I := by
  unfold bX10_isWord_26 at h
  obtain ⟨g1, h⟩ := am_gd_some h
  cases h
  exact am_iret dX10_isWord_26 rfl (am_nz (am_01_of g1)).1 ⟨rfl, rfl⟩
def bX10_isWord_25 (n : Nat) (I : am_I) : Option (Int32 × am_I) := bX10_isWord_26 n (nI 0) I
theorem tX10_isWord_25 {G : am_G} (hG : am_ok G) {d : Nat} {I : am_I} {r : Int32 × am_I} (h : bX10_isWord_25 G.2.2.2.1  I = some r) : am_J G d mX10_isWord am_no (am_E (some r.1) r.2) 25 [none, none] [] I := by
  unfold bX10_isWord_25 at h
  refine am_iconst (v := nI 0) dX10_isWord_25 (by decide) ?_
  exact am_lwJ (lo' := [none, none]) trivial (tX10_isWord_26 hG h)
def bX10_isWord_0 (n : Nat) (l0 : Int32) (l1 : Int32) (I : am_I) : Option (Int32 × am_I) := if l0 < 0 then (bX10_isWord_25 n I) else (if (nI 640) ≤ l0 then (bX10_isWord_25 n I) else (if l1 < 0 then (bX10_isWord_25 n I) else (if (nI 16) ≤ l1 then (bX10_isWord_25 n I) else (bX10_isWord_26 n (nI 1) I))))
theorem tX10_isWord_0 {G : am_G} (hG : am_ok G) {d : Nat} {l0 : Int32} {l1 : Int32} {I : am_I} {r : Int32 × am_I} (h : bX10_isWord_0 G.2.2.2.1 l0 l1  I = some r) : am_J G d mX10_isWord am_no (am_E (some r.1) r.2) 0 [some (.inl l0), some (.inl l1)] [] I := by
  unfold bX10_isWord_0 at h
  refine am_iload_n dX10_isWord_0 rfl ?_
  refine am_if_lt (tgt := 25) dX10_isWord_1 rfl (fun c => ?_) (fun c => ?_)
  · rw [if_pos c] at h
    exact am_lwJ (lo' := [none, none]) trivial (tX10_isWord_25 hG h)
  · rw [if_neg c] at h
    refine am_iload_n dX10_isWord_4 rfl ?_
    refine am_sipush (v := nI 640) dX10_isWord_5 (by decide) ?_
    refine am_icmp_ge (tgt := 25) dX10_isWord_8 rfl (fun c => ?_) (fun c => ?_)
    · rw [if_pos c] at h
      exact am_lwJ (lo' := [none, none]) trivial (tX10_isWord_25 hG h)
    · rw [if_neg c] at h
      refine am_iload_n dX10_isWord_11 rfl ?_
      refine am_if_lt (tgt := 25) dX10_isWord_12 rfl (fun c => ?_) (fun c => ?_)
      · rw [if_pos c] at h
        exact am_lwJ (lo' := [none, none]) trivial (tX10_isWord_25 hG h)
      · rw [if_neg c] at h
        refine am_iload_n dX10_isWord_15 rfl ?_
        refine am_bipush (v := nI 16) dX10_isWord_16 (by decide) ?_
        refine am_icmp_ge (tgt := 25) dX10_isWord_18 rfl (fun c => ?_) (fun c => ?_)
        · rw [if_pos c] at h
          exact am_lwJ (lo' := [none, none]) trivial (tX10_isWord_25 hG h)
        · rw [if_neg c] at h
          refine am_iconst (v := nI 1) dX10_isWord_21 (by decide) ?_
          refine am_goto (tgt := 26) dX10_isWord_22 rfl ?_
          exact am_lwJ (lo' := [none, none]) trivial (tX10_isWord_26 hG h)
def gX10_isWord (n : Nat) (l0 : Int32) (l1 : Int32) (I : am_I) : Option (Int32 × am_I) := bX10_isWord_0 n l0 l1 I
theorem sX10_isWord {G : am_G} (hG : am_ok G) {d : Nat} {l0 : Int32} {l1 : Int32} {I : am_I} {r : Int32 × am_I} (h : gX10_isWord G.2.2.2.1 l0 l1 I = some r) : am_C G d mX10_isWord [.inl l0, .inl l1] I (am_E (some r.1) r.2) :=
  am_of (by decide +kernel) hG.nd (Nat.le_of_ble_eq_true rfl) (am_lwJ (lo' := [some (.inl l0), some (.inl l1)]) ⟨rfl, rfl, trivial⟩ (tX10_isWord_0 hG h))
def bX9_load_16 (n : Nat) : Nat → Int32 → Nat → Int32 → Int32 → am_I → Option (am_I)
  | 0, _, _, _, _, _ => none
  | fu + 1, l1, l2, l3, l4, I => (fun k16 => if (l3 + (nI 16)) ≤ l4 then (am_gd (am_inb l1 640) (am_lt (am_up I l2 43 l1.toNatClampNeg (nI 1)) (fun I2 => am_lt (am_up I2 l2 41 2 ((I2 l2 41 2) + (nI 1))) (fun I3 => some I3)))) else (am_gd (am_inb l4 10240) (am_gd (am_inb l4 10240) (am_lt (am_up I l2 42 l4.toNatClampNeg (I 0 1 l4.toNatClampNeg)) (fun I6 => k16 l1 l2 l3 (l4 + nI 1) I6))))) (bX9_load_16 n fu)
theorem tX9_load_16 {G : am_G} (hG : am_ok G) {d : Nat} : ∀ {fu : Nat} {l1 : Int32} {l2 : Nat} {l3 : Int32} {l4 : Int32} (hl2 : l2 < G.2.2.2.1) {I : am_I} {r : am_I}, bX9_load_16 G.2.2.2.1 fu l1 l2 l3 l4 I = some r → am_J G d mX9_load am_no (am_E none r) 16 [some (.inr (0, 15)), some (.inl l1), some (.inr (l2, 41)), some (.inl l3), some (.inl l4)] [] I := by
  intro fu
  induction fu with
  | zero => intro l1 l2 l3 l4 hl2 I r h; cases h
  | succ fu ih =>
    intro l1 l2 l3 l4 hl2 I r h
    have hk16 : ∀ (l1 : Int32) (l2 : Nat) (l3 : Int32) (l4 : Int32) (hl2 : l2 < G.2.2.2.1) (I : am_I) (r : am_I), bX9_load_16 G.2.2.2.1 fu l1 l2 l3 l4 I = some r → am_J G d mX9_load am_no (am_E none r) 16 [some (.inr (0, 15)), some (.inl l1), some (.inr (l2, 41)), some (.inl l3), some (.inl l4)] [] I := fun l1 l2 l3 l4 hl2 I r h => ih hl2 h
    unfold bX9_load_16 at h
    generalize bX9_load_16 G.2.2.2.1 fu = k16 at hk16 h
    dsimp only at h
    refine am_iload dX9_load_16 rfl ?_
    refine am_iload_n dX9_load_18 rfl ?_
    refine am_bipush (v := nI 16) dX9_load_19 (by decide) ?_
    refine am_iadd dX9_load_21 ?_
    refine am_icmp_ge (tgt := 45) dX9_load_22 rfl (fun c => ?_) (fun c => ?_)
    · rw [if_pos c] at h
      refine am_aload_n dX9_load_45 rfl ?_
      refine am_get (v := .inr (l2, 43)) dX9_load_46 fl_9_175 (hG.mn hl2 (by decide) (by decide)) rfl ?_
      refine am_iload_n dX9_load_49 rfl ?_
      refine am_iconst (v := nI 1) dX9_load_50 (by decide) ?_
      obtain ⟨g1, h⟩ := am_gd_some h
      refine am_zastG dX9_load_51 (hG.mn hl2 (by decide) (by decide)) rfl (by decide) g1 (show 640 < 2 ^ 31 by decide) ?_
      obtain ⟨I2, hI2, h⟩ := am_lt_some h
      refine am_st10 hI2 ?_
      refine am_aload_n dX9_load_52 rfl ?_
      refine am_dup dX9_load_53 ?_
      refine am_get (v := .inl (I2 l2 41 2)) dX9_load_54 fl_9_178 (hG.mn hl2 (by decide) (by decide)) rfl ?_
      refine am_iconst (v := nI 1) dX9_load_57 (by decide) ?_
      refine am_iadd dX9_load_58 ?_
      refine am_put (x := (I2 l2 41 2) + (nI 1)) dX9_load_59 fp_9_178 (hG.mn hl2 (by decide) (by decide)) (Nat.le_of_ble_eq_true rfl) rfl ?_
      obtain ⟨I3, hI3, h⟩ := am_lt_some h
      refine am_st10 hI3 ?_
      cases h
      exact am_vret dX9_load_62 rfl ⟨rfl, rfl⟩
    · rw [if_neg c] at h
      refine am_aload_n dX9_load_25 rfl ?_
      refine am_get (v := .inr (l2, 42)) dX9_load_26 fl_9_114 (hG.mn hl2 (by decide) (by decide)) rfl ?_
      refine am_iload dX9_load_29 rfl ?_
      refine am_aload_n dX9_load_31 rfl ?_
      refine am_get (v := .inr (0, 1)) dX9_load_32 fl_9_28 (hG.m0 (by decide)) rfl ?_
      refine am_iload dX9_load_35 rfl ?_
      obtain ⟨g4, h⟩ := am_gd_some h
      refine am_ialdG dX9_load_37 (hG.m0 (by decide)) rfl g4 (show 10240 < 2 ^ 31 by decide) ?_
      obtain ⟨g5, h⟩ := am_gd_some h
      refine am_iastG dX9_load_38 (hG.mn hl2 (by decide) (by decide)) rfl g5 (show 10240 < 2 ^ 31 by decide) ?_
      obtain ⟨I6, hI6, h⟩ := am_lt_some h
      refine am_st10 hI6 ?_
      refine am_iinc (v := l4 + nI 1) dX9_load_39 rfl rfl ?_
      refine am_goto (tgt := 16) dX9_load_42 rfl ?_
      exact am_lwJ (lo' := [some (.inr (0, 15)), some (.inl l1), some (.inr (l2, 41)), some (.inl l3), some (.inl (l4 + nI 1))]) ⟨rfl, rfl, rfl, rfl, rfl, trivial⟩ (hk16 l1 l2 l3 (l4 + nI 1) hl2 _ _ h)
def bX9_load_0 (n : Nat) (l1 : Int32) (I : am_I) : Option (am_I) := am_gd (decide ((I 0 15 8).toNatClampNeg < n)) (bX9_load_16 n am_fu l1 ((I 0 15 8).toNatClampNeg) (l1 * (nI 16)) (l1 * (nI 16)) I)
theorem tX9_load_0 {G : am_G} (hG : am_ok G) {d : Nat} {l1 : Int32} {I : am_I} {r : am_I} (h : bX9_load_0 G.2.2.2.1 l1  I = some r) : am_J G d mX9_load am_no (am_E none r) 0 [some (.inr (0, 15)), some (.inl l1), none, none, none] [] I := by
  unfold bX9_load_0 at h
  refine am_aload_n dX9_load_0 rfl ?_
  obtain ⟨g1, h⟩ := am_gd_some h
  have g1 := of_decide_eq_true g1
  refine am_get (v := .inr ((I 0 15 8).toNatClampNeg, 40)) dX9_load_1 fl_9_31 (hG.m0 (by decide)) rfl ?_
  refine am_get (v := .inr ((I 0 15 8).toNatClampNeg, 41)) dX9_load_4 fl_9_107 (hG.mn g1 (by decide) (by decide)) rfl ?_
  refine am_astore_n dX9_load_7 (by decide) ?_
  refine am_iload_n dX9_load_8 rfl ?_
  refine am_bipush (v := nI 16) dX9_load_9 (by decide) ?_
  refine am_imul dX9_load_11 ?_
  refine am_istore_n dX9_load_12 (by decide) ?_
  refine am_iload_n dX9_load_13 rfl ?_
  refine am_istore dX9_load_14 (by decide) ?_
  exact am_lwJ (lo' := [some (.inr (0, 15)), some (.inl l1), some (.inr ((I 0 15 8).toNatClampNeg, 41)), some (.inl (l1 * (nI 16))), some (.inl (l1 * (nI 16)))]) ⟨rfl, rfl, rfl, rfl, rfl, trivial⟩ (tX9_load_16 hG g1 h)
def gX9_load (n : Nat) (l1 : Int32) (I : am_I) : Option (am_I) := bX9_load_0 n l1 I
theorem sX9_load {G : am_G} (hG : am_ok G) {d : Nat} {l1 : Int32} {I : am_I} {r : am_I} (h : gX9_load G.2.2.2.1 l1 I = some r) : am_C G d mX9_load [.inr (0, 15), .inl l1] I (am_E none r) :=
  am_of (by decide +kernel) hG.nd (Nat.le_of_ble_eq_true rfl) (am_lwJ (lo' := [some (.inr (0, 15)), some (.inl l1), none, none, none]) ⟨rfl, rfl, trivial⟩ (tX9_load_0 hG h))
def bX9_read_30 (n : Nat) (l1 : Int32) (l2 : Int32) (I : am_I) : Option (Int32 × am_I) := am_gd (decide ((I 0 15 8).toNatClampNeg < n)) (am_gd (am_inb ((l1 * (nI 16)) + l2) 10240) (some (I ((I 0 15 8).toNatClampNeg) 42 (((l1 * (nI 16)) + l2).toNatClampNeg), I)))
theorem tX9_read_30 {G : am_G} (hG : am_ok G) {d : Nat} {l1 : Int32} {l2 : Int32} {I : am_I} {r : Int32 × am_I} (h : bX9_read_30 G.2.2.2.1 l1 l2  I = some r) : am_J G (d + 1) mX9_read am_no (am_E (some r.1) r.2) 30 [some (.inr (0, 15)), some (.inl l1), some (.inl l2)] [] I := by
  unfold bX9_read_30 at h
  refine am_aload_n dX9_read_30 rfl ?_
  obtain ⟨g1, h⟩ := am_gd_some h
  have g1 := of_decide_eq_true g1
  refine am_get (v := .inr ((I 0 15 8).toNatClampNeg, 40)) dX9_read_31 fl_9_31 (hG.m0 (by decide)) rfl ?_
  refine am_get (v := .inr ((I 0 15 8).toNatClampNeg, 41)) dX9_read_34 fl_9_107 (hG.mn g1 (by decide) (by decide)) rfl ?_
  refine am_get (v := .inr ((I 0 15 8).toNatClampNeg, 42)) dX9_read_37 fl_9_114 (hG.mn g1 (by decide) (by decide)) rfl ?_
  refine am_iload_n dX9_read_40 rfl ?_
  refine am_bipush (v := nI 16) dX9_read_41 (by decide) ?_
  refine am_imul dX9_read_43 ?_
  refine am_iload_n dX9_read_44 rfl ?_
  refine am_iadd dX9_read_45 ?_
  obtain ⟨g2, h⟩ := am_gd_some h
  refine am_ialdG dX9_read_46 (hG.mn g1 (by decide) (by decide)) rfl g2 (show 10240 < 2 ^ 31 by decide) ?_
  cases h
  exact am_iret dX9_read_47 rfl rfl ⟨rfl, rfl⟩
def bX9_read_0 (n : Nat) (l1 : Int32) (l2 : Int32) (I : am_I) : Option (Int32 × am_I) := (gX10_isWord n l1 l2 I).bind (fun q1 => if q1.1 = 0 then (some (nI 0, q1.2)) else (am_gd (decide ((q1.2 0 15 8).toNatClampNeg < n)) (am_gd (am_inb l1 640) (if (q1.2 ((q1.2 0 15 8).toNatClampNeg) 43 l1.toNatClampNeg) = 0 then ((gX9_load n l1 q1.2).bind (fun q4 => bX9_read_30 n l1 l2 q4)) else (bX9_read_30 n l1 l2 q1.2)))))
theorem tX9_read_0 {G : am_G} (hG : am_ok G) {d : Nat} {l1 : Int32} {l2 : Int32} {I : am_I} {r : Int32 × am_I} (h : bX9_read_0 G.2.2.2.1 l1 l2  I = some r) : am_J G (d + 1) mX9_read am_no (am_E (some r.1) r.2) 0 [some (.inr (0, 15)), some (.inl l1), some (.inl l2)] [] I := by
  unfold bX9_read_0 at h
  refine am_iload_n dX9_read_0 rfl ?_
  refine am_iload_n dX9_read_1 rfl ?_
  obtain ⟨q1, hq1, h⟩ := am_bd h
  refine am_callSNx (as := [.inl l1, .inl l2]) (rest := []) dX9_read_2 lkX10_isWord nl_X9_180 isX10_isWord rfl (Nat.le_of_ble_eq_true rfl) rfl (sX10_isWord hG hq1) ?_
  refine am_if_ne (tgt := 10) dX9_read_5 rfl (fun c => ?_) (fun c => ?_)
  · rw [if_neg c] at h
    refine am_aload_n dX9_read_10 rfl ?_
    obtain ⟨g2, h⟩ := am_gd_some h
    have g2 := of_decide_eq_true g2
    refine am_get (v := .inr ((q1.2 0 15 8).toNatClampNeg, 40)) dX9_read_11 fl_9_31 (hG.m0 (by decide)) rfl ?_
    refine am_get (v := .inr ((q1.2 0 15 8).toNatClampNeg, 41)) dX9_read_14 fl_9_107 (hG.mn g2 (by decide) (by decide)) rfl ?_
    refine am_get (v := .inr ((q1.2 0 15 8).toNatClampNeg, 43)) dX9_read_17 fl_9_175 (hG.mn g2 (by decide) (by decide)) rfl ?_
    refine am_iload_n dX9_read_20 rfl ?_
    obtain ⟨g3, h⟩ := am_gd_some h
    refine am_zaldG dX9_read_21 (hG.mn g2 (by decide) (by decide)) rfl g3 (show 640 < 2 ^ 31 by decide) ?_
    refine am_if_ne (tgt := 30) dX9_read_22 rfl (fun c => ?_) (fun c => ?_)
    · rw [if_neg c] at h
      exact am_lwJ (lo' := [some (.inr (0, 15)), some (.inl l1), some (.inl l2)]) ⟨rfl, rfl, rfl, trivial⟩ (tX9_read_30 hG h)
    · rw [if_pos c] at h
      refine am_aload_n dX9_read_25 rfl ?_
      refine am_iload_n dX9_read_26 rfl ?_
      obtain ⟨q4, hq4, h⟩ := am_bd h
      refine am_callVe (i := 0) (j := 15) (as := [.inl l1]) (rest := []) dX9_read_27 lkX9_load ml_X9_184 imX9_load seX9_load rfl rfl (hG.m0 (by decide)) rfl (Nat.le_of_ble_eq_true rfl) rfl (sX9_load hG hq4) ?_
      exact am_lwJ (lo' := [some (.inr (0, 15)), some (.inl l1), some (.inl l2)]) ⟨rfl, rfl, rfl, trivial⟩ (tX9_read_30 hG h)
  · rw [if_pos c] at h
    refine am_iconst (v := nI 0) dX9_read_8 (by decide) ?_
    cases h
    exact am_iret dX9_read_9 rfl rfl ⟨rfl, rfl⟩
def gX9_read (n : Nat) (l1 : Int32) (l2 : Int32) (I : am_I) : Option (Int32 × am_I) := bX9_read_0 n l1 l2 I
theorem sX9_read {G : am_G} (hG : am_ok G) {d : Nat} {l1 : Int32} {l2 : Int32} {I : am_I} {r : Int32 × am_I} (h : gX9_read G.2.2.2.1 l1 l2 I = some r) : am_C G (d + 1) mX9_read [.inr (0, 15), .inl l1, .inl l2] I (am_E (some r.1) r.2) :=
  am_of (by decide +kernel) hG.nd (Nat.le_of_ble_eq_true rfl) (am_lwJ (lo' := [some (.inr (0, 15)), some (.inl l1), some (.inl l2)]) ⟨rfl, rfl, rfl, trivial⟩ (tX9_read_0 hG h))
def bX9_fail_0 (n : Nat) (l1 : Int32) (I : am_I) : Option (Int32 × am_I) := am_lt (am_up I 0 15 9 (nI 2)) (fun I1 => am_lt (am_up I1 0 15 10 l1) (fun I2 => some (nI 0, I2)))
theorem tX9_fail_0 {G : am_G} (hG : am_ok G) {d : Nat} {l1 : Int32} {I : am_I} {r : Int32 × am_I} (h : bX9_fail_0 G.2.2.2.1 l1  I = some r) : am_J G d mX9_fail am_no (am_E (some r.1) r.2) 0 [some (.inr (0, 15)), some (.inl l1)] [] I := by
  unfold bX9_fail_0 at h
  refine am_aload_n dX9_fail_0 rfl ?_
  refine am_iconst (v := nI 2) dX9_fail_1 (by decide) ?_
  refine am_put (x := nI 2) dX9_fail_2 fp_9_41 (hG.m0 (by decide)) (Nat.le_of_ble_eq_true rfl) rfl ?_
  obtain ⟨I1, hI1, h⟩ := am_lt_some h
  refine am_st10 hI1 ?_
  refine am_aload_n dX9_fail_5 rfl ?_
  refine am_iload_n dX9_fail_6 rfl ?_
  refine am_put (x := l1) dX9_fail_7 fp_9_45 (hG.m0 (by decide)) (Nat.le_of_ble_eq_true rfl) rfl ?_
  obtain ⟨I2, hI2, h⟩ := am_lt_some h
  refine am_st10 hI2 ?_
  refine am_iconst (v := nI 0) dX9_fail_10 (by decide) ?_
  cases h
  exact am_iret dX9_fail_11 rfl (am_nz (by decide)).1 ⟨rfl, rfl⟩
def gX9_fail (n : Nat) (l1 : Int32) (I : am_I) : Option (Int32 × am_I) := bX9_fail_0 n l1 I
theorem sX9_fail {G : am_G} (hG : am_ok G) {d : Nat} {l1 : Int32} {I : am_I} {r : Int32 × am_I} (h : gX9_fail G.2.2.2.1 l1 I = some r) : am_C G d mX9_fail [.inr (0, 15), .inl l1] I (am_E (some r.1) r.2) :=
  am_of (by decide +kernel) hG.nd (Nat.le_of_ble_eq_true rfl) (am_lwJ (lo' := [some (.inr (0, 15)), some (.inl l1)]) ⟨rfl, rfl, trivial⟩ (tX9_fail_0 hG h))
def bX9_meetDirectory_36 (n : Nat) (s0 : Int32) (I : am_I) : Option (Int32 × am_I) := am_gd (am_01 s0) (some (s0, I))
theorem tX9_meetDirectory_36 {G : am_G} (hG : am_ok G) {d : Nat} {s0 : Int32} {I : am_I} {r : Int32 × am_I} (h : bX9_meetDirectory_36 G.2.2.2.1 s0  I = some r) : am_J G (d + 2) mX9_meetDirectory am_no (am_E (some r.1) r.2) 36 [none, none, none] [.inl s0] I := by
  unfold bX9_meetDirectory_36 at h
  obtain ⟨g1, h⟩ := am_gd_some h
  cases h
  exact am_iret dX9_meetDirectory_36 rfl (am_nz (am_01_of g1)).1 ⟨rfl, rfl⟩
def bX9_meetDirectory_35 (n : Nat) (I : am_I) : Option (Int32 × am_I) := bX9_meetDirectory_36 n (nI 0) I
theorem tX9_meetDirectory_35 {G : am_G} (hG : am_ok G) {d : Nat} {I : am_I} {r : Int32 × am_I} (h : bX9_meetDirectory_35 G.2.2.2.1  I = some r) : am_J G (d + 2) mX9_meetDirectory am_no (am_E (some r.1) r.2) 35 [none, none, none] [] I := by
  unfold bX9_meetDirectory_35 at h
  refine am_iconst (v := nI 0) dX9_meetDirectory_35 (by decide) ?_
  exact am_lwJ (lo' := [none, none, none]) trivial (tX9_meetDirectory_36 hG h)
def bX9_meetDirectory_31 (n : Nat) (I : am_I) : Option (Int32 × am_I) := bX9_meetDirectory_36 n (nI 1) I
theorem tX9_meetDirectory_31 {G : am_G} (hG : am_ok G) {d : Nat} {I : am_I} {r : Int32 × am_I} (h : bX9_meetDirectory_31 G.2.2.2.1  I = some r) : am_J G (d + 2) mX9_meetDirectory am_no (am_E (some r.1) r.2) 31 [none, none, none] [] I := by
  unfold bX9_meetDirectory_31 at h
  refine am_iconst (v := nI 1) dX9_meetDirectory_31 (by decide) ?_
  refine am_goto (tgt := 36) dX9_meetDirectory_32 rfl ?_
  exact am_lwJ (lo' := [none, none, none]) trivial (tX9_meetDirectory_36 hG h)
def bX9_meetDirectory_0 (n : Nat) (l1 : Int32) (l2 : Int32) (I : am_I) : Option (Int32 × am_I) := (gX9_meet n l1 l2 I).bind (fun q1 => if q1.1 = 0 then (bX9_meetDirectory_35 n q1.2) else ((gX10_inodeBlock n l1 q1.2).bind (fun q2 => (gX9_read n q2.1 (nI 0) q2.2).bind (fun q3 => if q3.1 = (nI 2) then (bX9_meetDirectory_31 n q3.2) else ((gX9_fail n (-2 : Int32) q3.2).bind (fun q4 => if q4.1 = 0 then (bX9_meetDirectory_35 n q4.2) else (bX9_meetDirectory_31 n q4.2)))))))
theorem tX9_meetDirectory_0 {G : am_G} (hG : am_ok G) {d : Nat} {l1 : Int32} {l2 : Int32} {I : am_I} {r : Int32 × am_I} (h : bX9_meetDirectory_0 G.2.2.2.1 l1 l2  I = some r) : am_J G (d + 2) mX9_meetDirectory am_no (am_E (some r.1) r.2) 0 [some (.inr (0, 15)), some (.inl l1), some (.inl l2)] [] I := by
  unfold bX9_meetDirectory_0 at h
  refine am_aload_n dX9_meetDirectory_0 rfl ?_
  refine am_iload_n dX9_meetDirectory_1 rfl ?_
  refine am_iload_n dX9_meetDirectory_2 rfl ?_
  obtain ⟨q1, hq1, h⟩ := am_bd h
  refine am_callVx (i := 0) (j := 15) (as := [.inl l1, .inl l2]) (rest := []) dX9_meetDirectory_3 lkX9_meet ml_X9_211 imX9_meet seX9_meet rfl rfl (hG.m0 (by decide)) rfl (Nat.le_of_ble_eq_true rfl) rfl (sX9_meet hG hq1) ?_
  refine am_if_eq (tgt := 35) dX9_meetDirectory_6 rfl (fun c => ?_) (fun c => ?_)
  · rw [if_pos c] at h
    exact am_lwJ (lo' := [none, none, none]) trivial (tX9_meetDirectory_35 hG h)
  · rw [if_neg c] at h
    refine am_aload_n dX9_meetDirectory_9 rfl ?_
    refine am_iload_n dX9_meetDirectory_10 rfl ?_
    obtain ⟨q2, hq2, h⟩ := am_bd h
    refine am_callSNx (as := [.inl l1]) (rest := [.inr (0, 15)]) dX9_meetDirectory_11 lkX10_inodeBlock nl_X9_193 isX10_inodeBlock rfl (Nat.le_of_ble_eq_true rfl) rfl (sX10_inodeBlock hG hq2) ?_
    refine am_iconst (v := nI 0) dX9_meetDirectory_14 (by decide) ?_
    obtain ⟨q3, hq3, h⟩ := am_bd h
    refine am_callVx (i := 0) (j := 15) (as := [.inl q2.1, .inl (nI 0)]) (rest := []) dX9_meetDirectory_15 lkX9_read ml_X9_197 imX9_read seX9_read rfl rfl (hG.m0 (by decide)) rfl (Nat.le_of_ble_eq_true rfl) rfl (sX9_read hG hq3) ?_
    refine am_iconst (v := nI 2) dX9_meetDirectory_18 (by decide) ?_
    refine am_icmp_eq (tgt := 31) dX9_meetDirectory_19 rfl (fun c => ?_) (fun c => ?_)
    · rw [if_pos c] at h
      exact am_lwJ (lo' := [none, none, none]) trivial (tX9_meetDirectory_31 hG h)
    · rw [if_neg c] at h
      refine am_aload_n dX9_meetDirectory_22 rfl ?_
      refine am_bipush (v := (-2 : Int32)) dX9_meetDirectory_23 (by decide) ?_
      obtain ⟨q4, hq4, h⟩ := am_bd h
      refine am_callVx (i := 0) (j := 15) (as := [.inl (-2 : Int32)]) (rest := []) dX9_meetDirectory_25 lkX9_fail ml_X9_225 imX9_fail seX9_fail rfl rfl (hG.m0 (by decide)) rfl (Nat.le_of_ble_eq_true rfl) rfl (sX9_fail hG hq4) ?_
      refine am_if_eq (tgt := 35) dX9_meetDirectory_28 rfl (fun c => ?_) (fun c => ?_)
      · rw [if_pos c] at h
        exact am_lwJ (lo' := [none, none, none]) trivial (tX9_meetDirectory_35 hG h)
      · rw [if_neg c] at h
        exact am_lwJ (lo' := [none, none, none]) trivial (tX9_meetDirectory_31 hG h)
def gX9_meetDirectory (n : Nat) (l1 : Int32) (l2 : Int32) (I : am_I) : Option (Int32 × am_I) := bX9_meetDirectory_0 n l1 l2 I
theorem sX9_meetDirectory {G : am_G} (hG : am_ok G) {d : Nat} {l1 : Int32} {l2 : Int32} {I : am_I} {r : Int32 × am_I} (h : gX9_meetDirectory G.2.2.2.1 l1 l2 I = some r) : am_C G (d + 2) mX9_meetDirectory [.inr (0, 15), .inl l1, .inl l2] I (am_E (some r.1) r.2) :=
  am_of (by decide +kernel) hG.nd (Nat.le_of_ble_eq_true rfl) (am_lwJ (lo' := [some (.inr (0, 15)), some (.inl l1), some (.inl l2)]) ⟨rfl, rfl, rfl, trivial⟩ (tX9_meetDirectory_0 hG h))
def bX9_sizeOf_0 (n : Nat) (l1 : Int32) (I : am_I) : Option (Int32 × am_I) := (gX10_inodeBlock n l1 I).bind (fun q1 => (gX9_read n q1.1 (nI 2) q1.2).bind (fun q2 => some ((if ((if (nI 384) ≤ q2.1 then (nI 384) else q2.1)) ≤ (nI 0) then (nI 0) else ((if (nI 384) ≤ q2.1 then (nI 384) else q2.1))), q2.2)))
theorem tX9_sizeOf_0 {G : am_G} (hG : am_ok G) {d : Nat} {l1 : Int32} {I : am_I} {r : Int32 × am_I} (h : bX9_sizeOf_0 G.2.2.2.1 l1  I = some r) : am_J G (d + 2) mX9_sizeOf am_no (am_E (some r.1) r.2) 0 [some (.inr (0, 15)), some (.inl l1)] [] I := by
  unfold bX9_sizeOf_0 at h
  refine am_iconst (v := nI 0) dX9_sizeOf_0 (by decide) ?_
  refine am_sipush (v := nI 384) dX9_sizeOf_1 (by decide) ?_
  refine am_aload_n dX9_sizeOf_4 rfl ?_
  refine am_iload_n dX9_sizeOf_5 rfl ?_
  obtain ⟨q1, hq1, h⟩ := am_bd h
  refine am_callSNx (as := [.inl l1]) (rest := [.inr (0, 15), .inl (nI 384), .inl (nI 0)]) dX9_sizeOf_6 lkX10_inodeBlock nl_X9_193 isX10_inodeBlock rfl (Nat.le_of_ble_eq_true rfl) rfl (sX10_inodeBlock hG hq1) ?_
  refine am_iconst (v := nI 2) dX9_sizeOf_9 (by decide) ?_
  obtain ⟨q2, hq2, h⟩ := am_bd h
  refine am_callVx (i := 0) (j := 15) (as := [.inl q1.1, .inl (nI 2)]) (rest := [.inl (nI 384), .inl (nI 0)]) dX9_sizeOf_10 lkX9_read ml_X9_197 imX9_read seX9_read rfl rfl (hG.m0 (by decide)) rfl (Nat.le_of_ble_eq_true rfl) rfl (sX9_read hG hq2) ?_
  refine am_callSx (as := [.inl (nI 384), .inl q2.1]) (rest := [.inl (nI 0)]) dX9_sizeOf_13 lkJ9_min_7cf53 ml_X9_245 isJ9_min_7cf53 rfl (Nat.le_of_ble_eq_true rfl) rfl (c_min hG.nd (nI 384) q2.1 q2.2) ?_
  refine am_callSx (as := [.inl (nI 0), .inl ((if (nI 384) ≤ q2.1 then (nI 384) else q2.1))]) (rest := []) dX9_sizeOf_16 lkJ9_max_7cf53 ml_X9_250 isJ9_max_7cf53 rfl (Nat.le_of_ble_eq_true rfl) rfl (c_max hG.nd (nI 0) ((if (nI 384) ≤ q2.1 then (nI 384) else q2.1)) q2.2) ?_
  cases h
  exact am_iret dX9_sizeOf_19 rfl rfl ⟨rfl, rfl⟩
def gX9_sizeOf (n : Nat) (l1 : Int32) (I : am_I) : Option (Int32 × am_I) := bX9_sizeOf_0 n l1 I
theorem sX9_sizeOf {G : am_G} (hG : am_ok G) {d : Nat} {l1 : Int32} {I : am_I} {r : Int32 × am_I} (h : gX9_sizeOf G.2.2.2.1 l1 I = some r) : am_C G (d + 2) mX9_sizeOf [.inr (0, 15), .inl l1] I (am_E (some r.1) r.2) :=
  am_of (by decide +kernel) hG.nd (Nat.le_of_ble_eq_true rfl) (am_lwJ (lo' := [some (.inr (0, 15)), some (.inl l1)]) ⟨rfl, rfl, trivial⟩ (tX9_sizeOf_0 hG h))
def bX9_blockOf_54 (n : Nat) (s0 : Int32) (I : am_I) : Option (Int32 × am_I) := some (s0, I)
theorem tX9_blockOf_54 {G : am_G} (hG : am_ok G) {d : Nat} {s0 : Int32} {I : am_I} {r : Int32 × am_I} (h : bX9_blockOf_54 G.2.2.2.1 s0  I = some r) : am_J G (d + 2) mX9_blockOf am_no (am_E (some r.1) r.2) 54 [none, none, none, none, none] [.inl s0] I := by
  unfold bX9_blockOf_54 at h
  cases h
  exact am_iret dX9_blockOf_54 rfl rfl ⟨rfl, rfl⟩
def bX9_blockOf_0 (n : Nat) (l1 : Int32) (l2 : Int32) (I : am_I) : Option (Int32 × am_I) := if (nI 8) ≤ (l2 / (nI 16)) then ((gX10_inodeBlock n l1 I).bind (fun q1 => (gX9_read n q1.1 (nI 11) q1.2).bind (fun q2 => if q2.1 = 0 then (bX9_blockOf_54 n (nI 0) q2.2) else ((gX9_read n q2.1 ((l2 / (nI 16)) - (nI 8)) q2.2).bind (fun q3 => bX9_blockOf_54 n q3.1 q3.2))))) else ((gX10_inodeBlock n l1 I).bind (fun q4 => (gX9_read n q4.1 ((nI 3) + (l2 / (nI 16))) q4.2).bind (fun q5 => some (q5.1, q5.2))))
theorem tX9_blockOf_0 {G : am_G} (hG : am_ok G) {d : Nat} {l1 : Int32} {l2 : Int32} {I : am_I} {r : Int32 × am_I} (h : bX9_blockOf_0 G.2.2.2.1 l1 l2  I = some r) : am_J G (d + 2) mX9_blockOf am_no (am_E (some r.1) r.2) 0 [some (.inr (0, 15)), some (.inl l1), some (.inl l2), none, none] [] I := by
  unfold bX9_blockOf_0 at h
  refine am_iload_n dX9_blockOf_0 rfl ?_
  refine am_bipush (v := nI 16) dX9_blockOf_1 (by decide) ?_
  refine am_idiv dX9_blockOf_3 (by decide) ?_
  refine am_istore_n dX9_blockOf_4 (by decide) ?_
  refine am_iload_n dX9_blockOf_5 rfl ?_
  refine am_bipush (v := nI 8) dX9_blockOf_6 (by decide) ?_
  refine am_icmp_ge (tgt := 23) dX9_blockOf_8 rfl (fun c => ?_) (fun c => ?_)
  · rw [if_pos c] at h
    refine am_aload_n dX9_blockOf_23 rfl ?_
    refine am_iload_n dX9_blockOf_24 rfl ?_
    obtain ⟨q1, hq1, h⟩ := am_bd h
    refine am_callSNx (as := [.inl l1]) (rest := [.inr (0, 15)]) dX9_blockOf_25 lkX10_inodeBlock nl_X9_193 isX10_inodeBlock rfl (Nat.le_of_ble_eq_true rfl) rfl (sX10_inodeBlock hG hq1) ?_
    refine am_bipush (v := nI 11) dX9_blockOf_28 (by decide) ?_
    obtain ⟨q2, hq2, h⟩ := am_bd h
    refine am_callVx (i := 0) (j := 15) (as := [.inl q1.1, .inl (nI 11)]) (rest := []) dX9_blockOf_30 lkX9_read ml_X9_197 imX9_read seX9_read rfl rfl (hG.m0 (by decide)) rfl (Nat.le_of_ble_eq_true rfl) rfl (sX9_read hG hq2) ?_
    refine am_istore dX9_blockOf_33 (by decide) ?_
    refine am_iload dX9_blockOf_35 rfl ?_
    refine am_if_ne (tgt := 44) dX9_blockOf_37 rfl (fun c => ?_) (fun c => ?_)
    · rw [if_neg c] at h
      refine am_aload_n dX9_blockOf_44 rfl ?_
      refine am_iload dX9_blockOf_45 rfl ?_
      refine am_iload_n dX9_blockOf_47 rfl ?_
      refine am_bipush (v := nI 8) dX9_blockOf_48 (by decide) ?_
      refine am_isub dX9_blockOf_50 ?_
      obtain ⟨q3, hq3, h⟩ := am_bd h
      refine am_callVx (i := 0) (j := 15) (as := [.inl q2.1, .inl ((l2 / (nI 16)) - (nI 8))]) (rest := []) dX9_blockOf_51 lkX9_read ml_X9_197 imX9_read seX9_read rfl rfl (hG.m0 (by decide)) rfl (Nat.le_of_ble_eq_true rfl) rfl (sX9_read hG hq3) ?_
      exact am_lwJ (lo' := [none, none, none, none, none]) trivial (tX9_blockOf_54 hG h)
    · rw [if_pos c] at h
      refine am_iconst (v := nI 0) dX9_blockOf_40 (by decide) ?_
      refine am_goto (tgt := 54) dX9_blockOf_41 rfl ?_
      exact am_lwJ (lo' := [none, none, none, none, none]) trivial (tX9_blockOf_54 hG h)
  · rw [if_neg c] at h
    refine am_aload_n dX9_blockOf_11 rfl ?_
    refine am_iload_n dX9_blockOf_12 rfl ?_
    obtain ⟨q4, hq4, h⟩ := am_bd h
    refine am_callSNx (as := [.inl l1]) (rest := [.inr (0, 15)]) dX9_blockOf_13 lkX10_inodeBlock nl_X9_193 isX10_inodeBlock rfl (Nat.le_of_ble_eq_true rfl) rfl (sX10_inodeBlock hG hq4) ?_
    refine am_iconst (v := nI 3) dX9_blockOf_16 (by decide) ?_
    refine am_iload_n dX9_blockOf_17 rfl ?_
    refine am_iadd dX9_blockOf_18 ?_
    obtain ⟨q5, hq5, h⟩ := am_bd h
    refine am_callVx (i := 0) (j := 15) (as := [.inl q4.1, .inl ((nI 3) + (l2 / (nI 16)))]) (rest := []) dX9_blockOf_19 lkX9_read ml_X9_197 imX9_read seX9_read rfl rfl (hG.m0 (by decide)) rfl (Nat.le_of_ble_eq_true rfl) rfl (sX9_read hG hq5) ?_
    cases h
    exact am_iret dX9_blockOf_22 rfl rfl ⟨rfl, rfl⟩
def gX9_blockOf (n : Nat) (l1 : Int32) (l2 : Int32) (I : am_I) : Option (Int32 × am_I) := bX9_blockOf_0 n l1 l2 I
theorem sX9_blockOf {G : am_G} (hG : am_ok G) {d : Nat} {l1 : Int32} {l2 : Int32} {I : am_I} {r : Int32 × am_I} (h : gX9_blockOf G.2.2.2.1 l1 l2 I = some r) : am_C G (d + 2) mX9_blockOf [.inr (0, 15), .inl l1, .inl l2] I (am_E (some r.1) r.2) :=
  am_of (by decide +kernel) hG.nd (Nat.le_of_ble_eq_true rfl) (am_lwJ (lo' := [some (.inr (0, 15)), some (.inl l1), some (.inl l2), none, none]) ⟨rfl, rfl, rfl, trivial⟩ (tX9_blockOf_0 hG h))
def bX9_find_62 (n : Nat) (k9 : Int32 → Int32 → Int32 → Int32 → am_I → Option (Int32 × am_I)) (k38 : Int32 → Int32 → Int32 → Int32 → Int32 → Int32 → Int32 → am_I → Option (Int32 × am_I)) (l1 : Int32) (l2 : Int32) (l3 : Int32) (l4 : Int32) (l5 : Int32) (l6 : Int32) (l7 : Int32) (s0 : Int32) (I : am_I) : Option (Int32 × am_I) := if s0 = l2 then (some (l4 + l7, I)) else (k38 l1 l2 l3 l4 l5 l6 (l7 + nI 2) I)
theorem tX9_find_62 {G : am_G} (hG : am_ok G) {d : Nat} {k9 : Int32 → Int32 → Int32 → Int32 → am_I → Option (Int32 × am_I)} {k38 : Int32 → Int32 → Int32 → Int32 → Int32 → Int32 → Int32 → am_I → Option (Int32 × am_I)} (hk9 : ∀ (l1 : Int32) (l2 : Int32) (l3 : Int32) (l4 : Int32) (I : am_I) (r : Int32 × am_I), k9 l1 l2 l3 l4 I = some r → am_J G (d + 3) mX9_find am_no (am_E (some r.1) r.2) 9 [some (.inr (0, 15)), some (.inl l1), some (.inl l2), some (.inl l3), some (.inl l4), none, none, none, none] [] I) (hk38 : ∀ (l1 : Int32) (l2 : Int32) (l3 : Int32) (l4 : Int32) (l5 : Int32) (l6 : Int32) (l7 : Int32) (I : am_I) (r : Int32 × am_I), k38 l1 l2 l3 l4 l5 l6 l7 I = some r → am_J G (d + 3) mX9_find am_no (am_E (some r.1) r.2) 38 [some (.inr (0, 15)), some (.inl l1), some (.inl l2), some (.inl l3), some (.inl l4), some (.inl l5), some (.inl l6), some (.inl l7), none] [] I) {l1 : Int32} {l2 : Int32} {l3 : Int32} {l4 : Int32} {l5 : Int32} {l6 : Int32} {l7 : Int32} {s0 : Int32} {I : am_I} {r : Int32 × am_I} (h : bX9_find_62 G.2.2.2.1 k9 k38 l1 l2 l3 l4 l5 l6 l7 s0  I = some r) : am_J G (d + 3) mX9_find am_no (am_E (some r.1) r.2) 62 [some (.inr (0, 15)), some (.inl l1), some (.inl l2), some (.inl l3), some (.inl l4), some (.inl l5), some (.inl l6), some (.inl l7), none] [.inl s0] I := by
  unfold bX9_find_62 at h
  refine am_istore dX9_find_62 (by decide) ?_
  refine am_iload dX9_find_64 rfl ?_
  refine am_iload_n dX9_find_66 rfl ?_
  refine am_icmp_ne (tgt := 76) dX9_find_67 rfl (fun c => ?_) (fun c => ?_)
  · rw [if_neg c] at h
    refine am_iinc (v := l7 + nI 2) dX9_find_76 rfl rfl ?_
    refine am_goto (tgt := 38) dX9_find_79 rfl ?_
    exact am_lwJ (lo' := [some (.inr (0, 15)), some (.inl l1), some (.inl l2), some (.inl l3), some (.inl l4), some (.inl l5), some (.inl l6), some (.inl (l7 + nI 2)), none]) ⟨rfl, rfl, rfl, rfl, rfl, rfl, rfl, rfl, trivial⟩ (hk38 l1 l2 l3 l4 l5 l6 (l7 + nI 2) _ _ h)
  · rw [if_pos c] at h
    refine am_iload dX9_find_70 rfl ?_
    refine am_iload dX9_find_72 rfl ?_
    refine am_iadd dX9_find_74 ?_
    cases h
    exact am_iret dX9_find_75 rfl rfl ⟨rfl, rfl⟩
def bX9_find_38 (n : Nat) (k9 : Int32 → Int32 → Int32 → Int32 → am_I → Option (Int32 × am_I)) : Nat → Int32 → Int32 → Int32 → Int32 → Int32 → Int32 → Int32 → am_I → Option (Int32 × am_I)
  | 0, _, _, _, _, _, _, _, _ => none
  | fu + 1, l1, l2, l3, l4, l5, l6, l7, I => (fun k38 => if l6 ≤ l7 then (k9 l1 l2 l3 (l4 + nI 16) I) else (if l5 = 0 then (bX9_find_62 n k9 k38 l1 l2 l3 l4 l5 l6 l7 (nI 0) I) else ((gX9_read n l5 l7 I).bind (fun q1 => bX9_find_62 n k9 k38 l1 l2 l3 l4 l5 l6 l7 q1.1 q1.2)))) (bX9_find_38 n k9 fu)
theorem tX9_find_38 {G : am_G} (hG : am_ok G) {d : Nat} {k9 : Int32 → Int32 → Int32 → Int32 → am_I → Option (Int32 × am_I)} (hk9 : ∀ (l1 : Int32) (l2 : Int32) (l3 : Int32) (l4 : Int32) (I : am_I) (r : Int32 × am_I), k9 l1 l2 l3 l4 I = some r → am_J G (d + 3) mX9_find am_no (am_E (some r.1) r.2) 9 [some (.inr (0, 15)), some (.inl l1), some (.inl l2), some (.inl l3), some (.inl l4), none, none, none, none] [] I) : ∀ {fu : Nat} {l1 : Int32} {l2 : Int32} {l3 : Int32} {l4 : Int32} {l5 : Int32} {l6 : Int32} {l7 : Int32} {I : am_I} {r : Int32 × am_I}, bX9_find_38 G.2.2.2.1 k9 fu l1 l2 l3 l4 l5 l6 l7 I = some r → am_J G (d + 3) mX9_find am_no (am_E (some r.1) r.2) 38 [some (.inr (0, 15)), some (.inl l1), some (.inl l2), some (.inl l3), some (.inl l4), some (.inl l5), some (.inl l6), some (.inl l7), none] [] I := by
  intro fu
  induction fu with
  | zero => intro l1 l2 l3 l4 l5 l6 l7 I r h; cases h
  | succ fu ih =>
    intro l1 l2 l3 l4 l5 l6 l7 I r h
    have hk38 : ∀ (l1 : Int32) (l2 : Int32) (l3 : Int32) (l4 : Int32) (l5 : Int32) (l6 : Int32) (l7 : Int32) (I : am_I) (r : Int32 × am_I), bX9_find_38 G.2.2.2.1 k9 fu l1 l2 l3 l4 l5 l6 l7 I = some r → am_J G (d + 3) mX9_find am_no (am_E (some r.1) r.2) 38 [some (.inr (0, 15)), some (.inl l1), some (.inl l2), some (.inl l3), some (.inl l4), some (.inl l5), some (.inl l6), some (.inl l7), none] [] I := fun l1 l2 l3 l4 l5 l6 l7 I r h => ih h
    unfold bX9_find_38 at h
    generalize bX9_find_38 G.2.2.2.1 k9 fu = k38 at hk38 h
    dsimp only at h
    refine am_iload dX9_find_38 rfl ?_
    refine am_iload dX9_find_40 rfl ?_
    refine am_icmp_ge (tgt := 82) dX9_find_42 rfl (fun c => ?_) (fun c => ?_)
    · rw [if_pos c] at h
      refine am_iinc (v := l4 + nI 16) dX9_find_82 rfl rfl ?_
      refine am_goto (tgt := 9) dX9_find_85 rfl ?_
      exact am_lwJ (lo' := [some (.inr (0, 15)), some (.inl l1), some (.inl l2), some (.inl l3), some (.inl (l4 + nI 16)), none, none, none, none]) ⟨rfl, rfl, rfl, rfl, rfl, trivial⟩ (hk9 l1 l2 l3 (l4 + nI 16) _ _ h)
    · rw [if_neg c] at h
      refine am_iload dX9_find_45 rfl ?_
      refine am_if_ne (tgt := 54) dX9_find_47 rfl (fun c => ?_) (fun c => ?_)
      · rw [if_neg c] at h
        refine am_aload_n dX9_find_54 rfl ?_
        refine am_iload dX9_find_55 rfl ?_
        refine am_iload dX9_find_57 rfl ?_
        obtain ⟨q1, hq1, h⟩ := am_bd h
        refine am_callVx (i := 0) (j := 15) (as := [.inl l5, .inl l7]) (rest := []) dX9_find_59 lkX9_read ml_X9_197 imX9_read seX9_read rfl rfl (hG.m0 (by decide)) rfl (Nat.le_of_ble_eq_true rfl) rfl (sX9_read hG hq1) ?_
        exact am_lwJ (lo' := [some (.inr (0, 15)), some (.inl l1), some (.inl l2), some (.inl l3), some (.inl l4), some (.inl l5), some (.inl l6), some (.inl l7), none]) ⟨rfl, rfl, rfl, rfl, rfl, rfl, rfl, rfl, trivial⟩ (tX9_find_62 hG hk9 hk38 h)
      · rw [if_pos c] at h
        refine am_iconst (v := nI 0) dX9_find_50 (by decide) ?_
        refine am_goto (tgt := 62) dX9_find_51 rfl ?_
        exact am_lwJ (lo' := [some (.inr (0, 15)), some (.inl l1), some (.inl l2), some (.inl l3), some (.inl l4), some (.inl l5), some (.inl l6), some (.inl l7), none]) ⟨rfl, rfl, rfl, rfl, rfl, rfl, rfl, rfl, trivial⟩ (tX9_find_62 hG hk9 hk38 h)
def bX9_find_9 (n : Nat) : Nat → Int32 → Int32 → Int32 → Int32 → am_I → Option (Int32 × am_I)
  | 0, _, _, _, _, _ => none
  | fu + 1, l1, l2, l3, l4, I => (fun k9 => if l3 ≤ l4 then (some ((-1 : Int32), I)) else ((gX9_blockOf n l1 l4 I).bind (fun q1 => bX9_find_38 n k9 am_fu l1 l2 l3 l4 q1.1 ((if (nI 16) ≤ (l3 - l4) then (nI 16) else (l3 - l4))) (nI 0) q1.2))) (bX9_find_9 n fu)
theorem tX9_find_9 {G : am_G} (hG : am_ok G) {d : Nat} : ∀ {fu : Nat} {l1 : Int32} {l2 : Int32} {l3 : Int32} {l4 : Int32} {I : am_I} {r : Int32 × am_I}, bX9_find_9 G.2.2.2.1 fu l1 l2 l3 l4 I = some r → am_J G (d + 3) mX9_find am_no (am_E (some r.1) r.2) 9 [some (.inr (0, 15)), some (.inl l1), some (.inl l2), some (.inl l3), some (.inl l4), none, none, none, none] [] I := by
  intro fu
  induction fu with
  | zero => intro l1 l2 l3 l4 I r h; cases h
  | succ fu ih =>
    intro l1 l2 l3 l4 I r h
    have hk9 : ∀ (l1 : Int32) (l2 : Int32) (l3 : Int32) (l4 : Int32) (I : am_I) (r : Int32 × am_I), bX9_find_9 G.2.2.2.1 fu l1 l2 l3 l4 I = some r → am_J G (d + 3) mX9_find am_no (am_E (some r.1) r.2) 9 [some (.inr (0, 15)), some (.inl l1), some (.inl l2), some (.inl l3), some (.inl l4), none, none, none, none] [] I := fun l1 l2 l3 l4 I r h => ih h
    unfold bX9_find_9 at h
    generalize bX9_find_9 G.2.2.2.1 fu = k9 at hk9 h
    dsimp only at h
    refine am_iload dX9_find_9 rfl ?_
    refine am_iload_n dX9_find_11 rfl ?_
    refine am_icmp_ge (tgt := 88) dX9_find_12 rfl (fun c => ?_) (fun c => ?_)
    · rw [if_pos c] at h
      refine am_iconst (v := (-1 : Int32)) dX9_find_88 (by decide) ?_
      cases h
      exact am_iret dX9_find_89 rfl rfl ⟨rfl, rfl⟩
    · rw [if_neg c] at h
      refine am_aload_n dX9_find_15 rfl ?_
      refine am_iload_n dX9_find_16 rfl ?_
      refine am_iload dX9_find_17 rfl ?_
      obtain ⟨q1, hq1, h⟩ := am_bd h
      refine am_callVx (i := 0) (j := 15) (as := [.inl l1, .inl l4]) (rest := []) dX9_find_19 lkX9_blockOf ml_X9_256 imX9_blockOf seX9_blockOf rfl rfl (hG.m0 (by decide)) rfl (Nat.le_of_ble_eq_true rfl) rfl (sX9_blockOf hG hq1) ?_
      refine am_istore dX9_find_22 (by decide) ?_
      refine am_bipush (v := nI 16) dX9_find_24 (by decide) ?_
      refine am_iload_n dX9_find_26 rfl ?_
      refine am_iload dX9_find_27 rfl ?_
      refine am_isub dX9_find_29 ?_
      refine am_callSx (as := [.inl (nI 16), .inl (l3 - l4)]) (rest := []) dX9_find_30 lkJ9_min_7cf53 ml_X9_245 isJ9_min_7cf53 rfl (Nat.le_of_ble_eq_true rfl) rfl (c_min hG.nd (nI 16) (l3 - l4) q1.2) ?_
      refine am_istore dX9_find_33 (by decide) ?_
      refine am_iconst (v := nI 0) dX9_find_35 (by decide) ?_
      refine am_istore dX9_find_36 (by decide) ?_
      exact am_lwJ (lo' := [some (.inr (0, 15)), some (.inl l1), some (.inl l2), some (.inl l3), some (.inl l4), some (.inl q1.1), some (.inl ((if (nI 16) ≤ (l3 - l4) then (nI 16) else (l3 - l4)))), some (.inl (nI 0)), none]) ⟨rfl, rfl, rfl, rfl, rfl, rfl, rfl, rfl, trivial⟩ (tX9_find_38 hG hk9 h)
def bX9_find_0 (n : Nat) (l1 : Int32) (l2 : Int32) (I : am_I) : Option (Int32 × am_I) := (gX9_sizeOf n l1 I).bind (fun q1 => bX9_find_9 n am_fu l1 l2 q1.1 (nI 0) q1.2)
theorem tX9_find_0 {G : am_G} (hG : am_ok G) {d : Nat} {l1 : Int32} {l2 : Int32} {I : am_I} {r : Int32 × am_I} (h : bX9_find_0 G.2.2.2.1 l1 l2  I = some r) : am_J G (d + 3) mX9_find am_no (am_E (some r.1) r.2) 0 [some (.inr (0, 15)), some (.inl l1), some (.inl l2), none, none, none, none, none, none] [] I := by
  unfold bX9_find_0 at h
  refine am_aload_n dX9_find_0 rfl ?_
  refine am_iload_n dX9_find_1 rfl ?_
  obtain ⟨q1, hq1, h⟩ := am_bd h
  refine am_callVx (i := 0) (j := 15) (as := [.inl l1]) (rest := []) dX9_find_2 lkX9_sizeOf ml_X9_253 imX9_sizeOf seX9_sizeOf rfl rfl (hG.m0 (by decide)) rfl (Nat.le_of_ble_eq_true rfl) rfl (sX9_sizeOf hG hq1) ?_
  refine am_istore_n dX9_find_5 (by decide) ?_
  refine am_iconst (v := nI 0) dX9_find_6 (by decide) ?_
  refine am_istore dX9_find_7 (by decide) ?_
  exact am_lwJ (lo' := [some (.inr (0, 15)), some (.inl l1), some (.inl l2), some (.inl q1.1), some (.inl (nI 0)), none, none, none, none]) ⟨rfl, rfl, rfl, rfl, rfl, trivial⟩ (tX9_find_9 hG h)
def gX9_find (n : Nat) (l1 : Int32) (l2 : Int32) (I : am_I) : Option (Int32 × am_I) := bX9_find_0 n l1 l2 I
theorem sX9_find {G : am_G} (hG : am_ok G) {d : Nat} {l1 : Int32} {l2 : Int32} {I : am_I} {r : Int32 × am_I} (h : gX9_find G.2.2.2.1 l1 l2 I = some r) : am_C G (d + 3) mX9_find [.inr (0, 15), .inl l1, .inl l2] I (am_E (some r.1) r.2) :=
  am_of (by decide +kernel) hG.nd (Nat.le_of_ble_eq_true rfl) (am_lwJ (lo' := [some (.inr (0, 15)), some (.inl l1), some (.inl l2), none, none, none, none, none, none]) ⟨rfl, rfl, rfl, trivial⟩ (tX9_find_0 hG h))
def bX9_inodeAt_0 (n : Nat) (l1 : Int32) (l2 : Int32) (I : am_I) : Option (Int32 × am_I) := (gX9_blockOf n l1 l2 I).bind (fun q1 => (gX9_read n q1.1 ((l2 - l2 / (nI 16) * (nI 16)) + (nI 1)) q1.2).bind (fun q2 => some (q2.1, q2.2)))
theorem tX9_inodeAt_0 {G : am_G} (hG : am_ok G) {d : Nat} {l1 : Int32} {l2 : Int32} {I : am_I} {r : Int32 × am_I} (h : bX9_inodeAt_0 G.2.2.2.1 l1 l2  I = some r) : am_J G (d + 3) mX9_inodeAt am_no (am_E (some r.1) r.2) 0 [some (.inr (0, 15)), some (.inl l1), some (.inl l2)] [] I := by
  unfold bX9_inodeAt_0 at h
  refine am_aload_n dX9_inodeAt_0 rfl ?_
  refine am_aload_n dX9_inodeAt_1 rfl ?_
  refine am_iload_n dX9_inodeAt_2 rfl ?_
  refine am_iload_n dX9_inodeAt_3 rfl ?_
  obtain ⟨q1, hq1, h⟩ := am_bd h
  refine am_callVx (i := 0) (j := 15) (as := [.inl l1, .inl l2]) (rest := [.inr (0, 15)]) dX9_inodeAt_4 lkX9_blockOf ml_X9_256 imX9_blockOf seX9_blockOf rfl rfl (hG.m0 (by decide)) rfl (Nat.le_of_ble_eq_true rfl) rfl (sX9_blockOf hG hq1) ?_
  refine am_iload_n dX9_inodeAt_7 rfl ?_
  refine am_bipush (v := nI 16) dX9_inodeAt_8 (by decide) ?_
  refine am_irem dX9_inodeAt_10 (by decide) ?_
  refine am_iconst (v := nI 1) dX9_inodeAt_11 (by decide) ?_
  refine am_iadd dX9_inodeAt_12 ?_
  obtain ⟨q2, hq2, h⟩ := am_bd h
  refine am_callVx (i := 0) (j := 15) (as := [.inl q1.1, .inl ((l2 - l2 / (nI 16) * (nI 16)) + (nI 1))]) (rest := []) dX9_inodeAt_13 lkX9_read ml_X9_197 imX9_read seX9_read rfl rfl (hG.m0 (by decide)) rfl (Nat.le_of_ble_eq_true rfl) rfl (sX9_read hG hq2) ?_
  cases h
  exact am_iret dX9_inodeAt_16 rfl rfl ⟨rfl, rfl⟩
def gX9_inodeAt (n : Nat) (l1 : Int32) (l2 : Int32) (I : am_I) : Option (Int32 × am_I) := bX9_inodeAt_0 n l1 l2 I
theorem sX9_inodeAt {G : am_G} (hG : am_ok G) {d : Nat} {l1 : Int32} {l2 : Int32} {I : am_I} {r : Int32 × am_I} (h : gX9_inodeAt G.2.2.2.1 l1 l2 I = some r) : am_C G (d + 3) mX9_inodeAt [.inr (0, 15), .inl l1, .inl l2] I (am_E (some r.1) r.2) :=
  am_of (by decide +kernel) hG.nd (Nat.le_of_ble_eq_true rfl) (am_lwJ (lo' := [some (.inr (0, 15)), some (.inl l1), some (.inl l2)]) ⟨rfl, rfl, rfl, trivial⟩ (tX9_inodeAt_0 hG h))
def bX9_finish_0 (n : Nat) (l1 : Int32) (I : am_I) : Option (am_I) := am_lt (am_up I 0 15 9 (nI 1)) (fun I1 => am_lt (am_up I1 0 15 10 l1) (fun I2 => some I2))
theorem tX9_finish_0 {G : am_G} (hG : am_ok G) {d : Nat} {l1 : Int32} {I : am_I} {r : am_I} (h : bX9_finish_0 G.2.2.2.1 l1  I = some r) : am_J G d mX9_finish am_no (am_E none r) 0 [some (.inr (0, 15)), some (.inl l1)] [] I := by
  unfold bX9_finish_0 at h
  refine am_aload_n dX9_finish_0 rfl ?_
  refine am_iconst (v := nI 1) dX9_finish_1 (by decide) ?_
  refine am_put (x := nI 1) dX9_finish_2 fp_9_41 (hG.m0 (by decide)) (Nat.le_of_ble_eq_true rfl) rfl ?_
  obtain ⟨I1, hI1, h⟩ := am_lt_some h
  refine am_st10 hI1 ?_
  refine am_aload_n dX9_finish_5 rfl ?_
  refine am_iload_n dX9_finish_6 rfl ?_
  refine am_put (x := l1) dX9_finish_7 fp_9_45 (hG.m0 (by decide)) (Nat.le_of_ble_eq_true rfl) rfl ?_
  obtain ⟨I2, hI2, h⟩ := am_lt_some h
  refine am_st10 hI2 ?_
  cases h
  exact am_vret dX9_finish_10 rfl ⟨rfl, rfl⟩
def gX9_finish (n : Nat) (l1 : Int32) (I : am_I) : Option (am_I) := bX9_finish_0 n l1 I
theorem sX9_finish {G : am_G} (hG : am_ok G) {d : Nat} {l1 : Int32} {I : am_I} {r : am_I} (h : gX9_finish G.2.2.2.1 l1 I = some r) : am_C G d mX9_finish [.inr (0, 15), .inl l1] I (am_E none r) :=
  am_of (by decide +kernel) hG.nd (Nat.le_of_ble_eq_true rfl) (am_lwJ (lo' := [some (.inr (0, 15)), some (.inl l1)]) ⟨rfl, rfl, trivial⟩ (tX9_finish_0 hG h))
def bX9_seek_0 (n : Nat) (l1 : Nat) (I : am_I) : Option (am_I) := (gX9_meetDirectory n (I l1 55 1) (nI 1) I).bind (fun q1 => if q1.1 = 0 then (some q1.2) else ((gX9_find n (q1.2 l1 55 1) (q1.2 l1 55 2) q1.2).bind (fun q2 => if q2.1 = (-1 : Int32) then ((gX9_fail n (-3 : Int32) q2.2).bind (fun q5 => some q5.2)) else ((gX9_inodeAt n (q2.2 l1 55 1) q2.1 q2.2).bind (fun q3 => (gX9_finish n q3.1 q3.2).bind (fun q4 => some q4))))))
theorem tX9_seek_0 {G : am_G} (hG : am_ok G) {d : Nat} {l1 : Nat} (hl1 : l1 < G.2.2.2.1) {I : am_I} {r : am_I} (h : bX9_seek_0 G.2.2.2.1 l1  I = some r) : am_J G (d + 4) mX9_seek am_no (am_E none r) 0 [some (.inr (0, 15)), some (.inr (l1, 55)), none] [] I := by
  unfold bX9_seek_0 at h
  refine am_aload_n dX9_seek_0 rfl ?_
  refine am_aload_n dX9_seek_1 rfl ?_
  refine am_get (v := .inl (I l1 55 1)) dX9_seek_2 fl_9_271 (hG.mn hl1 (by decide) (by decide)) rfl ?_
  refine am_iconst (v := nI 1) dX9_seek_5 (by decide) ?_
  obtain ⟨q1, hq1, h⟩ := am_bd h
  refine am_callVx (i := 0) (j := 15) (as := [.inl (I l1 55 1), .inl (nI 1)]) (rest := []) dX9_seek_6 lkX9_meetDirectory ml_X9_274 imX9_meetDirectory seX9_meetDirectory rfl rfl (hG.m0 (by decide)) rfl (Nat.le_of_ble_eq_true rfl) rfl (sX9_meetDirectory hG hq1) ?_
  refine am_if_ne (tgt := 13) dX9_seek_9 rfl (fun c => ?_) (fun c => ?_)
  · rw [if_neg c] at h
    refine am_aload_n dX9_seek_13 rfl ?_
    refine am_aload_n dX9_seek_14 rfl ?_
    refine am_get (v := .inl (q1.2 l1 55 1)) dX9_seek_15 fl_9_271 (hG.mn hl1 (by decide) (by decide)) rfl ?_
    refine am_aload_n dX9_seek_18 rfl ?_
    refine am_get (v := .inl (q1.2 l1 55 2)) dX9_seek_19 fl_9_277 (hG.mn hl1 (by decide) (by decide)) rfl ?_
    obtain ⟨q2, hq2, h⟩ := am_bd h
    refine am_callVx (i := 0) (j := 15) (as := [.inl (q1.2 l1 55 1), .inl (q1.2 l1 55 2)]) (rest := []) dX9_seek_22 lkX9_find ml_X9_265 imX9_find seX9_find rfl rfl (hG.m0 (by decide)) rfl (Nat.le_of_ble_eq_true rfl) rfl (sX9_find hG hq2) ?_
    refine am_istore_n dX9_seek_25 (by decide) ?_
    refine am_iload_n dX9_seek_26 rfl ?_
    refine am_iconst (v := (-1 : Int32)) dX9_seek_27 (by decide) ?_
    refine am_icmp_ne (tgt := 39) dX9_seek_28 rfl (fun c => ?_) (fun c => ?_)
    · rw [if_neg c] at h
      refine am_aload_n dX9_seek_39 rfl ?_
      refine am_aload_n dX9_seek_40 rfl ?_
      refine am_aload_n dX9_seek_41 rfl ?_
      refine am_get (v := .inl (q2.2 l1 55 1)) dX9_seek_42 fl_9_271 (hG.mn hl1 (by decide) (by decide)) rfl ?_
      refine am_iload_n dX9_seek_45 rfl ?_
      obtain ⟨q3, hq3, h⟩ := am_bd h
      refine am_callVx (i := 0) (j := 15) (as := [.inl (q2.2 l1 55 1), .inl q2.1]) (rest := [.inr (0, 15)]) dX9_seek_46 lkX9_inodeAt ml_X9_280 imX9_inodeAt seX9_inodeAt rfl rfl (hG.m0 (by decide)) rfl (Nat.le_of_ble_eq_true rfl) rfl (sX9_inodeAt hG hq3) ?_
      obtain ⟨q4, hq4, h⟩ := am_bd h
      refine am_callVe (i := 0) (j := 15) (as := [.inl q3.1]) (rest := []) dX9_seek_49 lkX9_finish ml_X9_283 imX9_finish seX9_finish rfl rfl (hG.m0 (by decide)) rfl (Nat.le_of_ble_eq_true rfl) rfl (sX9_finish hG hq4) ?_
      cases h
      exact am_vret dX9_seek_52 rfl ⟨rfl, rfl⟩
    · rw [if_pos c] at h
      refine am_aload_n dX9_seek_31 rfl ?_
      refine am_bipush (v := (-3 : Int32)) dX9_seek_32 (by decide) ?_
      obtain ⟨q5, hq5, h⟩ := am_bd h
      refine am_callVx (i := 0) (j := 15) (as := [.inl (-3 : Int32)]) (rest := []) dX9_seek_34 lkX9_fail ml_X9_225 imX9_fail seX9_fail rfl rfl (hG.m0 (by decide)) rfl (Nat.le_of_ble_eq_true rfl) rfl (sX9_fail hG hq5) ?_
      refine am_pop dX9_seek_37 ?_
      cases h
      exact am_vret dX9_seek_38 rfl ⟨rfl, rfl⟩
  · rw [if_pos c] at h
    cases h
    exact am_vret dX9_seek_12 rfl ⟨rfl, rfl⟩
def gX9_seek (n : Nat) (l1 : Nat) (I : am_I) : Option (am_I) := bX9_seek_0 n l1 I
theorem sX9_seek {G : am_G} (hG : am_ok G) {d : Nat} {l1 : Nat} (hl1 : l1 < G.2.2.2.1) {I : am_I} {r : am_I} (h : gX9_seek G.2.2.2.1 l1 I = some r) : am_C G (d + 4) mX9_seek [.inr (0, 15), .inr (l1, 55)] I (am_E none r) :=
  am_of (by decide +kernel) hG.nd (Nat.le_of_ble_eq_true rfl) (am_lwJ (lo' := [some (.inr (0, 15)), some (.inr (l1, 55)), none]) ⟨rfl, rfl, trivial⟩ (tX9_seek_0 hG hl1 h))
def bX10_mapResource_0 (n : Nat) (l0 : Int32) (I : am_I) : Option (Int32 × am_I) := some ((nI 128) + l0, I)
theorem tX10_mapResource_0 {G : am_G} (hG : am_ok G) {d : Nat} {l0 : Int32} {I : am_I} {r : Int32 × am_I} (h : bX10_mapResource_0 G.2.2.2.1 l0  I = some r) : am_J G d mX10_mapResource am_no (am_E (some r.1) r.2) 0 [some (.inl l0)] [] I := by
  unfold bX10_mapResource_0 at h
  refine am_sipush (v := nI 128) dX10_mapResource_0 (by decide) ?_
  refine am_iload_n dX10_mapResource_3 rfl ?_
  refine am_iadd dX10_mapResource_4 ?_
  cases h
  exact am_iret dX10_mapResource_5 rfl rfl ⟨rfl, rfl⟩
def gX10_mapResource (n : Nat) (l0 : Int32) (I : am_I) : Option (Int32 × am_I) := bX10_mapResource_0 n l0 I
theorem sX10_mapResource {G : am_G} (hG : am_ok G) {d : Nat} {l0 : Int32} {I : am_I} {r : Int32 × am_I} (h : gX10_mapResource G.2.2.2.1 l0 I = some r) : am_C G d mX10_mapResource [.inl l0] I (am_E (some r.1) r.2) :=
  am_of (by decide +kernel) hG.nd (Nat.le_of_ble_eq_true rfl) (am_lwJ (lo' := [some (.inl l0)]) ⟨rfl, trivial⟩ (tX10_mapResource_0 hG h))
def bJ6_numberOfTrailingZeros_0f7a4_74 (n : Nat) (l0 : Int32) (l1 : Int32) (I : am_I) : Option (Int32 × am_I) := some (l1 + ((l0.toUInt32 >>> ((nI 1).toUInt32 &&& Int32.toUInt32 31)).toInt32), I)
theorem tJ6_numberOfTrailingZeros_0f7a4_74 {G : am_G} (hG : am_ok G) {d : Nat} {l0 : Int32} {l1 : Int32} {I : am_I} {r : Int32 × am_I} (h : bJ6_numberOfTrailingZeros_0f7a4_74 G.2.2.2.1 l0 l1  I = some r) : am_J G d mJ6_numberOfTrailingZeros_0f7a4 am_no (am_E (some r.1) r.2) 74 [some (.inl l0), some (.inl l1)] [] I := by
  unfold bJ6_numberOfTrailingZeros_0f7a4_74 at h
  refine am_iload_n dJ6_numberOfTrailingZeros_0f7a4_74 rfl ?_
  refine am_iload_n dJ6_numberOfTrailingZeros_0f7a4_75 rfl ?_
  refine am_iconst (v := nI 1) dJ6_numberOfTrailingZeros_0f7a4_76 (by decide) ?_
  refine am_iushr dJ6_numberOfTrailingZeros_0f7a4_77 ?_
  refine am_iadd dJ6_numberOfTrailingZeros_0f7a4_78 ?_
  cases h
  exact am_iret dJ6_numberOfTrailingZeros_0f7a4_79 rfl rfl ⟨rfl, rfl⟩
def bJ6_numberOfTrailingZeros_0f7a4_62 (n : Nat) (l0 : Int32) (l1 : Int32) (I : am_I) : Option (Int32 × am_I) := if l0 ≤ (nI 4) then (bJ6_numberOfTrailingZeros_0f7a4_74 n l0 l1 I) else (bJ6_numberOfTrailingZeros_0f7a4_74 n ((l0.toUInt32 >>> ((nI 2).toUInt32 &&& Int32.toUInt32 31)).toInt32) (l1 + nI 2) I)
theorem tJ6_numberOfTrailingZeros_0f7a4_62 {G : am_G} (hG : am_ok G) {d : Nat} {l0 : Int32} {l1 : Int32} {I : am_I} {r : Int32 × am_I} (h : bJ6_numberOfTrailingZeros_0f7a4_62 G.2.2.2.1 l0 l1  I = some r) : am_J G d mJ6_numberOfTrailingZeros_0f7a4 am_no (am_E (some r.1) r.2) 62 [some (.inl l0), some (.inl l1)] [] I := by
  unfold bJ6_numberOfTrailingZeros_0f7a4_62 at h
  refine am_iload_n dJ6_numberOfTrailingZeros_0f7a4_62 rfl ?_
  refine am_iconst (v := nI 4) dJ6_numberOfTrailingZeros_0f7a4_63 (by decide) ?_
  refine am_icmp_le (tgt := 74) dJ6_numberOfTrailingZeros_0f7a4_64 rfl (fun c => ?_) (fun c => ?_)
  · rw [if_pos c] at h
    exact am_lwJ (lo' := [some (.inl l0), some (.inl l1)]) ⟨rfl, rfl, trivial⟩ (tJ6_numberOfTrailingZeros_0f7a4_74 hG h)
  · rw [if_neg c] at h
    refine am_iinc (v := l1 + nI 2) dJ6_numberOfTrailingZeros_0f7a4_67 rfl rfl ?_
    refine am_iload_n dJ6_numberOfTrailingZeros_0f7a4_70 rfl ?_
    refine am_iconst (v := nI 2) dJ6_numberOfTrailingZeros_0f7a4_71 (by decide) ?_
    refine am_iushr dJ6_numberOfTrailingZeros_0f7a4_72 ?_
    refine am_istore_n dJ6_numberOfTrailingZeros_0f7a4_73 (by decide) ?_
    exact am_lwJ (lo' := [some (.inl ((l0.toUInt32 >>> ((nI 2).toUInt32 &&& Int32.toUInt32 31)).toInt32)), some (.inl (l1 + nI 2))]) ⟨rfl, rfl, trivial⟩ (tJ6_numberOfTrailingZeros_0f7a4_74 hG h)
def bJ6_numberOfTrailingZeros_0f7a4_49 (n : Nat) (l0 : Int32) (l1 : Int32) (I : am_I) : Option (Int32 × am_I) := if l0 ≤ (nI 16) then (bJ6_numberOfTrailingZeros_0f7a4_62 n l0 l1 I) else (bJ6_numberOfTrailingZeros_0f7a4_62 n ((l0.toUInt32 >>> ((nI 4).toUInt32 &&& Int32.toUInt32 31)).toInt32) (l1 + nI 4) I)
theorem tJ6_numberOfTrailingZeros_0f7a4_49 {G : am_G} (hG : am_ok G) {d : Nat} {l0 : Int32} {l1 : Int32} {I : am_I} {r : Int32 × am_I} (h : bJ6_numberOfTrailingZeros_0f7a4_49 G.2.2.2.1 l0 l1  I = some r) : am_J G d mJ6_numberOfTrailingZeros_0f7a4 am_no (am_E (some r.1) r.2) 49 [some (.inl l0), some (.inl l1)] [] I := by
  unfold bJ6_numberOfTrailingZeros_0f7a4_49 at h
  refine am_iload_n dJ6_numberOfTrailingZeros_0f7a4_49 rfl ?_
  refine am_bipush (v := nI 16) dJ6_numberOfTrailingZeros_0f7a4_50 (by decide) ?_
  refine am_icmp_le (tgt := 62) dJ6_numberOfTrailingZeros_0f7a4_52 rfl (fun c => ?_) (fun c => ?_)
  · rw [if_pos c] at h
    exact am_lwJ (lo' := [some (.inl l0), some (.inl l1)]) ⟨rfl, rfl, trivial⟩ (tJ6_numberOfTrailingZeros_0f7a4_62 hG h)
  · rw [if_neg c] at h
    refine am_iinc (v := l1 + nI 4) dJ6_numberOfTrailingZeros_0f7a4_55 rfl rfl ?_
    refine am_iload_n dJ6_numberOfTrailingZeros_0f7a4_58 rfl ?_
    refine am_iconst (v := nI 4) dJ6_numberOfTrailingZeros_0f7a4_59 (by decide) ?_
    refine am_iushr dJ6_numberOfTrailingZeros_0f7a4_60 ?_
    refine am_istore_n dJ6_numberOfTrailingZeros_0f7a4_61 (by decide) ?_
    exact am_lwJ (lo' := [some (.inl ((l0.toUInt32 >>> ((nI 4).toUInt32 &&& Int32.toUInt32 31)).toInt32)), some (.inl (l1 + nI 4))]) ⟨rfl, rfl, trivial⟩ (tJ6_numberOfTrailingZeros_0f7a4_62 hG h)
def bJ6_numberOfTrailingZeros_0f7a4_34 (n : Nat) (l0 : Int32) (l1 : Int32) (I : am_I) : Option (Int32 × am_I) := if l0 ≤ (nI 256) then (bJ6_numberOfTrailingZeros_0f7a4_49 n l0 l1 I) else (bJ6_numberOfTrailingZeros_0f7a4_49 n ((l0.toUInt32 >>> ((nI 8).toUInt32 &&& Int32.toUInt32 31)).toInt32) (l1 + nI 8) I)
theorem tJ6_numberOfTrailingZeros_0f7a4_34 {G : am_G} (hG : am_ok G) {d : Nat} {l0 : Int32} {l1 : Int32} {I : am_I} {r : Int32 × am_I} (h : bJ6_numberOfTrailingZeros_0f7a4_34 G.2.2.2.1 l0 l1  I = some r) : am_J G d mJ6_numberOfTrailingZeros_0f7a4 am_no (am_E (some r.1) r.2) 34 [some (.inl l0), some (.inl l1)] [] I := by
  unfold bJ6_numberOfTrailingZeros_0f7a4_34 at h
  refine am_iload_n dJ6_numberOfTrailingZeros_0f7a4_34 rfl ?_
  refine am_sipush (v := nI 256) dJ6_numberOfTrailingZeros_0f7a4_35 (by decide) ?_
  refine am_icmp_le (tgt := 49) dJ6_numberOfTrailingZeros_0f7a4_38 rfl (fun c => ?_) (fun c => ?_)
  · rw [if_pos c] at h
    exact am_lwJ (lo' := [some (.inl l0), some (.inl l1)]) ⟨rfl, rfl, trivial⟩ (tJ6_numberOfTrailingZeros_0f7a4_49 hG h)
  · rw [if_neg c] at h
    refine am_iinc (v := l1 + nI 8) dJ6_numberOfTrailingZeros_0f7a4_41 rfl rfl ?_
    refine am_iload_n dJ6_numberOfTrailingZeros_0f7a4_44 rfl ?_
    refine am_bipush (v := nI 8) dJ6_numberOfTrailingZeros_0f7a4_45 (by decide) ?_
    refine am_iushr dJ6_numberOfTrailingZeros_0f7a4_47 ?_
    refine am_istore_n dJ6_numberOfTrailingZeros_0f7a4_48 (by decide) ?_
    exact am_lwJ (lo' := [some (.inl ((l0.toUInt32 >>> ((nI 8).toUInt32 &&& Int32.toUInt32 31)).toInt32)), some (.inl (l1 + nI 8))]) ⟨rfl, rfl, trivial⟩ (tJ6_numberOfTrailingZeros_0f7a4_49 hG h)
def bJ6_numberOfTrailingZeros_0f7a4_0 (n : Nat) (l0 : Int32) (I : am_I) : Option (Int32 × am_I) := if 0 < ((l0 ^^^ (-1 : Int32)) &&& (l0 - (nI 1))) then (if ((l0 ^^^ (-1 : Int32)) &&& (l0 - (nI 1))) ≤ (nI 65536) then (bJ6_numberOfTrailingZeros_0f7a4_34 n ((l0 ^^^ (-1 : Int32)) &&& (l0 - (nI 1))) (nI 1) I) else (bJ6_numberOfTrailingZeros_0f7a4_34 n ((((l0 ^^^ (-1 : Int32)) &&& (l0 - (nI 1))).toUInt32 >>> ((nI 16).toUInt32 &&& Int32.toUInt32 31)).toInt32) ((nI 1) + nI 16) I)) else (some (((l0 ^^^ (-1 : Int32)) &&& (l0 - (nI 1))) &&& (nI 32), I))
theorem tJ6_numberOfTrailingZeros_0f7a4_0 {G : am_G} (hG : am_ok G) {d : Nat} {l0 : Int32} {I : am_I} {r : Int32 × am_I} (h : bJ6_numberOfTrailingZeros_0f7a4_0 G.2.2.2.1 l0  I = some r) : am_J G d mJ6_numberOfTrailingZeros_0f7a4 am_no (am_E (some r.1) r.2) 0 [some (.inl l0), none] [] I := by
  unfold bJ6_numberOfTrailingZeros_0f7a4_0 at h
  refine am_iload_n dJ6_numberOfTrailingZeros_0f7a4_0 rfl ?_
  refine am_iconst (v := (-1 : Int32)) dJ6_numberOfTrailingZeros_0f7a4_1 (by decide) ?_
  refine am_ixor dJ6_numberOfTrailingZeros_0f7a4_2 ?_
  refine am_iload_n dJ6_numberOfTrailingZeros_0f7a4_3 rfl ?_
  refine am_iconst (v := nI 1) dJ6_numberOfTrailingZeros_0f7a4_4 (by decide) ?_
  refine am_isub dJ6_numberOfTrailingZeros_0f7a4_5 ?_
  refine am_iand dJ6_numberOfTrailingZeros_0f7a4_6 ?_
  refine am_istore_n dJ6_numberOfTrailingZeros_0f7a4_7 (by decide) ?_
  refine am_iload_n dJ6_numberOfTrailingZeros_0f7a4_8 rfl ?_
  refine am_if_gt (tgt := 17) dJ6_numberOfTrailingZeros_0f7a4_9 rfl (fun c => ?_) (fun c => ?_)
  · rw [if_pos c] at h
    refine am_iconst (v := nI 1) dJ6_numberOfTrailingZeros_0f7a4_17 (by decide) ?_
    refine am_istore_n dJ6_numberOfTrailingZeros_0f7a4_18 (by decide) ?_
    refine am_iload_n dJ6_numberOfTrailingZeros_0f7a4_19 rfl ?_
    refine am_ldcw (v := (65536 : Int32)) dJ6_numberOfTrailingZeros_0f7a4_20 kc_J6_264 ?_
    refine am_top (show (65536 : Int32) = nI 65536 by decide) ?_
    refine am_icmp_le (tgt := 34) dJ6_numberOfTrailingZeros_0f7a4_23 rfl (fun c => ?_) (fun c => ?_)
    · rw [if_pos c] at h
      exact am_lwJ (lo' := [some (.inl ((l0 ^^^ (-1 : Int32)) &&& (l0 - (nI 1)))), some (.inl (nI 1))]) ⟨rfl, rfl, trivial⟩ (tJ6_numberOfTrailingZeros_0f7a4_34 hG h)
    · rw [if_neg c] at h
      refine am_iinc (v := (nI 1) + nI 16) dJ6_numberOfTrailingZeros_0f7a4_26 rfl rfl ?_
      refine am_iload_n dJ6_numberOfTrailingZeros_0f7a4_29 rfl ?_
      refine am_bipush (v := nI 16) dJ6_numberOfTrailingZeros_0f7a4_30 (by decide) ?_
      refine am_iushr dJ6_numberOfTrailingZeros_0f7a4_32 ?_
      refine am_istore_n dJ6_numberOfTrailingZeros_0f7a4_33 (by decide) ?_
      exact am_lwJ (lo' := [some (.inl ((((l0 ^^^ (-1 : Int32)) &&& (l0 - (nI 1))).toUInt32 >>> ((nI 16).toUInt32 &&& Int32.toUInt32 31)).toInt32)), some (.inl ((nI 1) + nI 16))]) ⟨rfl, rfl, trivial⟩ (tJ6_numberOfTrailingZeros_0f7a4_34 hG h)
  · rw [if_neg c] at h
    refine am_iload_n dJ6_numberOfTrailingZeros_0f7a4_12 rfl ?_
    refine am_bipush (v := nI 32) dJ6_numberOfTrailingZeros_0f7a4_13 (by decide) ?_
    refine am_iand dJ6_numberOfTrailingZeros_0f7a4_15 ?_
    cases h
    exact am_iret dJ6_numberOfTrailingZeros_0f7a4_16 rfl rfl ⟨rfl, rfl⟩
def gJ6_numberOfTrailingZeros_0f7a4 (n : Nat) (l0 : Int32) (I : am_I) : Option (Int32 × am_I) := bJ6_numberOfTrailingZeros_0f7a4_0 n l0 I
theorem sJ6_numberOfTrailingZeros_0f7a4 {G : am_G} (hG : am_ok G) {d : Nat} {l0 : Int32} {I : am_I} {r : Int32 × am_I} (h : gJ6_numberOfTrailingZeros_0f7a4 G.2.2.2.1 l0 I = some r) : am_C G d mJ6_numberOfTrailingZeros_0f7a4 [.inl l0] I (am_E (some r.1) r.2) :=
  am_of (by decide +kernel) hG.nd (Nat.le_of_ble_eq_true rfl) (am_lwJ (lo' := [some (.inl l0), none]) ⟨rfl, trivial⟩ (tJ6_numberOfTrailingZeros_0f7a4_0 hG h))
def bX9_keep_18 (n : Nat) (I : am_I) : Option (am_I) := some I
theorem tX9_keep_18 {G : am_G} (hG : am_ok G) {d : Nat} {I : am_I} {r : am_I} (h : bX9_keep_18 G.2.2.2.1  I = some r) : am_J G d mX9_keep am_no (am_E none r) 18 [none, none, none] [] I := by
  unfold bX9_keep_18 at h
  cases h
  exact am_vret dX9_keep_18 rfl ⟨rfl, rfl⟩
def bX9_keep_59 (n : Nat) : Nat → Int32 → Int32 → am_I → Option (am_I)
  | 0, _, _, _ => none
  | fu + 1, l1, l2, I => (fun k59 => if (nI 16) ≤ l2 then (am_lt (am_up I 0 15 5 ((I 0 15 5) + (nI 1))) (fun I1 => some I1)) else (am_gd (decide ((I 0 15 8).toNatClampNeg < n)) (am_gd (am_inb ((l1 * (nI 16)) + l2) 10240) (am_gd (am_inb (((I 0 15 5) * (nI 16)) + l2) 512) (am_lt (am_up I 0 18 (((I 0 15 5) * (nI 16)) + l2).toNatClampNeg (I ((I 0 15 8).toNatClampNeg) 42 (((l1 * (nI 16)) + l2).toNatClampNeg))) (fun I5 => k59 l1 (l2 + nI 1) I5)))))) (bX9_keep_59 n fu)
theorem tX9_keep_59 {G : am_G} (hG : am_ok G) {d : Nat} : ∀ {fu : Nat} {l1 : Int32} {l2 : Int32} {I : am_I} {r : am_I}, bX9_keep_59 G.2.2.2.1 fu l1 l2 I = some r → am_J G d mX9_keep am_no (am_E none r) 59 [some (.inr (0, 15)), some (.inl l1), some (.inl l2)] [] I := by
  intro fu
  induction fu with
  | zero => intro l1 l2 I r h; cases h
  | succ fu ih =>
    intro l1 l2 I r h
    have hk59 : ∀ (l1 : Int32) (l2 : Int32) (I : am_I) (r : am_I), bX9_keep_59 G.2.2.2.1 fu l1 l2 I = some r → am_J G d mX9_keep am_no (am_E none r) 59 [some (.inr (0, 15)), some (.inl l1), some (.inl l2)] [] I := fun l1 l2 I r h => ih h
    unfold bX9_keep_59 at h
    generalize bX9_keep_59 G.2.2.2.1 fu = k59 at hk59 h
    dsimp only at h
    refine am_iload_n dX9_keep_59 rfl ?_
    refine am_bipush (v := nI 16) dX9_keep_60 (by decide) ?_
    refine am_icmp_ge (tgt := 102) dX9_keep_62 rfl (fun c => ?_) (fun c => ?_)
    · rw [if_pos c] at h
      refine am_aload_n dX9_keep_102 rfl ?_
      refine am_dup dX9_keep_103 ?_
      refine am_get (v := .inl (I 0 15 5)) dX9_keep_104 fl_9_111 (hG.m0 (by decide)) rfl ?_
      refine am_iconst (v := nI 1) dX9_keep_107 (by decide) ?_
      refine am_iadd dX9_keep_108 ?_
      refine am_put (x := (I 0 15 5) + (nI 1)) dX9_keep_109 fp_9_111 (hG.m0 (by decide)) (Nat.le_of_ble_eq_true rfl) rfl ?_
      obtain ⟨I1, hI1, h⟩ := am_lt_some h
      refine am_st10 hI1 ?_
      cases h
      exact am_vret dX9_keep_112 rfl ⟨rfl, rfl⟩
    · rw [if_neg c] at h
      refine am_aload_n dX9_keep_65 rfl ?_
      refine am_get (v := .inr (0, 18)) dX9_keep_66 fl_9_19 (hG.m0 (by decide)) rfl ?_
      refine am_aload_n dX9_keep_69 rfl ?_
      refine am_get (v := .inl (I 0 15 5)) dX9_keep_70 fl_9_111 (hG.m0 (by decide)) rfl ?_
      refine am_bipush (v := nI 16) dX9_keep_73 (by decide) ?_
      refine am_imul dX9_keep_75 ?_
      refine am_iload_n dX9_keep_76 rfl ?_
      refine am_iadd dX9_keep_77 ?_
      refine am_aload_n dX9_keep_78 rfl ?_
      obtain ⟨g2, h⟩ := am_gd_some h
      have g2 := of_decide_eq_true g2
      refine am_get (v := .inr ((I 0 15 8).toNatClampNeg, 40)) dX9_keep_79 fl_9_31 (hG.m0 (by decide)) rfl ?_
      refine am_get (v := .inr ((I 0 15 8).toNatClampNeg, 41)) dX9_keep_82 fl_9_107 (hG.mn g2 (by decide) (by decide)) rfl ?_
      refine am_get (v := .inr ((I 0 15 8).toNatClampNeg, 42)) dX9_keep_85 fl_9_114 (hG.mn g2 (by decide) (by decide)) rfl ?_
      refine am_iload_n dX9_keep_88 rfl ?_
      refine am_bipush (v := nI 16) dX9_keep_89 (by decide) ?_
      refine am_imul dX9_keep_91 ?_
      refine am_iload_n dX9_keep_92 rfl ?_
      refine am_iadd dX9_keep_93 ?_
      obtain ⟨g3, h⟩ := am_gd_some h
      refine am_ialdG dX9_keep_94 (hG.mn g2 (by decide) (by decide)) rfl g3 (show 10240 < 2 ^ 31 by decide) ?_
      obtain ⟨g4, h⟩ := am_gd_some h
      refine am_iastG dX9_keep_95 (hG.m0 (by decide)) rfl g4 (show 512 < 2 ^ 31 by decide) ?_
      obtain ⟨I5, hI5, h⟩ := am_lt_some h
      refine am_st10 hI5 ?_
      refine am_iinc (v := l2 + nI 1) dX9_keep_96 rfl rfl ?_
      refine am_goto (tgt := 59) dX9_keep_99 rfl ?_
      exact am_lwJ (lo' := [some (.inr (0, 15)), some (.inl l1), some (.inl (l2 + nI 1))]) ⟨rfl, rfl, rfl, trivial⟩ (hk59 l1 (l2 + nI 1) _ _ h)
def bX9_keep_0 (n : Nat) (l1 : Int32) (I : am_I) : Option (am_I) := am_gd (am_inb l1 640) (if (I 0 19 l1.toNatClampNeg) = 0 then (if (I 0 15 5) < (nI 32) then (am_gd (am_inb l1 640) (am_lt (am_up I 0 19 l1.toNatClampNeg (nI 1)) (fun I3 => am_gd (am_inb (I3 0 15 5) 32) (am_lt (am_up I3 0 16 (I3 0 15 5).toNatClampNeg l1) (fun I5 => am_gd (decide ((I5 0 15 8).toNatClampNeg < n)) (am_gd (am_inb l1 640) (am_gd (am_inb (I5 0 15 5) 32) (am_gd (am_01 (I5 ((I5 0 15 8).toNatClampNeg) 43 l1.toNatClampNeg)) (am_lt (am_up I5 0 17 (I5 0 15 5).toNatClampNeg (I5 ((I5 0 15 8).toNatClampNeg) 43 l1.toNatClampNeg)) (fun I10 => bX9_keep_59 n am_fu l1 (nI 0) I10)))))))))) else (bX9_keep_18 n I)) else (bX9_keep_18 n I))
theorem tX9_keep_0 {G : am_G} (hG : am_ok G) {d : Nat} {l1 : Int32} {I : am_I} {r : am_I} (h : bX9_keep_0 G.2.2.2.1 l1  I = some r) : am_J G d mX9_keep am_no (am_E none r) 0 [some (.inr (0, 15)), some (.inl l1), none] [] I := by
  unfold bX9_keep_0 at h
  refine am_aload_n dX9_keep_0 rfl ?_
  refine am_get (v := .inr (0, 19)) dX9_keep_1 fl_9_22 (hG.m0 (by decide)) rfl ?_
  refine am_iload_n dX9_keep_4 rfl ?_
  obtain ⟨g1, h⟩ := am_gd_some h
  refine am_zaldG dX9_keep_5 (hG.m0 (by decide)) rfl g1 (show 640 < 2 ^ 31 by decide) ?_
  refine am_if_ne (tgt := 18) dX9_keep_6 rfl (fun c => ?_) (fun c => ?_)
  · rw [if_neg c] at h
    exact am_lwJ (lo' := [none, none, none]) trivial (tX9_keep_18 hG h)
  · rw [if_pos c] at h
    refine am_aload_n dX9_keep_9 rfl ?_
    refine am_get (v := .inl (I 0 15 5)) dX9_keep_10 fl_9_111 (hG.m0 (by decide)) rfl ?_
    refine am_bipush (v := nI 32) dX9_keep_13 (by decide) ?_
    refine am_icmp_lt (tgt := 19) dX9_keep_15 rfl (fun c => ?_) (fun c => ?_)
    · rw [if_pos c] at h
      refine am_aload_n dX9_keep_19 rfl ?_
      refine am_get (v := .inr (0, 19)) dX9_keep_20 fl_9_22 (hG.m0 (by decide)) rfl ?_
      refine am_iload_n dX9_keep_23 rfl ?_
      refine am_iconst (v := nI 1) dX9_keep_24 (by decide) ?_
      obtain ⟨g2, h⟩ := am_gd_some h
      refine am_zastG dX9_keep_25 (hG.m0 (by decide)) rfl (by decide) g2 (show 640 < 2 ^ 31 by decide) ?_
      obtain ⟨I3, hI3, h⟩ := am_lt_some h
      refine am_st10 hI3 ?_
      refine am_aload_n dX9_keep_26 rfl ?_
      refine am_get (v := .inr (0, 16)) dX9_keep_27 fl_9_11 (hG.m0 (by decide)) rfl ?_
      refine am_aload_n dX9_keep_30 rfl ?_
      refine am_get (v := .inl (I3 0 15 5)) dX9_keep_31 fl_9_111 (hG.m0 (by decide)) rfl ?_
      refine am_iload_n dX9_keep_34 rfl ?_
      obtain ⟨g4, h⟩ := am_gd_some h
      refine am_iastG dX9_keep_35 (hG.m0 (by decide)) rfl g4 (show 32 < 2 ^ 31 by decide) ?_
      obtain ⟨I5, hI5, h⟩ := am_lt_some h
      refine am_st10 hI5 ?_
      refine am_aload_n dX9_keep_36 rfl ?_
      refine am_get (v := .inr (0, 17)) dX9_keep_37 fl_9_15 (hG.m0 (by decide)) rfl ?_
      refine am_aload_n dX9_keep_40 rfl ?_
      refine am_get (v := .inl (I5 0 15 5)) dX9_keep_41 fl_9_111 (hG.m0 (by decide)) rfl ?_
      refine am_aload_n dX9_keep_44 rfl ?_
      obtain ⟨g6, h⟩ := am_gd_some h
      have g6 := of_decide_eq_true g6
      refine am_get (v := .inr ((I5 0 15 8).toNatClampNeg, 40)) dX9_keep_45 fl_9_31 (hG.m0 (by decide)) rfl ?_
      refine am_get (v := .inr ((I5 0 15 8).toNatClampNeg, 41)) dX9_keep_48 fl_9_107 (hG.mn g6 (by decide) (by decide)) rfl ?_
      refine am_get (v := .inr ((I5 0 15 8).toNatClampNeg, 43)) dX9_keep_51 fl_9_175 (hG.mn g6 (by decide) (by decide)) rfl ?_
      refine am_iload_n dX9_keep_54 rfl ?_
      obtain ⟨g7, h⟩ := am_gd_some h
      refine am_zaldG dX9_keep_55 (hG.mn g6 (by decide) (by decide)) rfl g7 (show 640 < 2 ^ 31 by decide) ?_
      obtain ⟨g8, h⟩ := am_gd_some h
      obtain ⟨g9, h⟩ := am_gd_some h
      refine am_zastG dX9_keep_56 (hG.m0 (by decide)) rfl (am_01_of g9) g8 (show 32 < 2 ^ 31 by decide) ?_
      obtain ⟨I10, hI10, h⟩ := am_lt_some h
      refine am_st10 hI10 ?_
      refine am_iconst (v := nI 0) dX9_keep_57 (by decide) ?_
      refine am_istore_n dX9_keep_58 (by decide) ?_
      exact am_lwJ (lo' := [some (.inr (0, 15)), some (.inl l1), some (.inl (nI 0))]) ⟨rfl, rfl, rfl, trivial⟩ (tX9_keep_59 hG h)
    · rw [if_neg c] at h
      exact am_lwJ (lo' := [none, none, none]) trivial (tX9_keep_18 hG h)
def gX9_keep (n : Nat) (l1 : Int32) (I : am_I) : Option (am_I) := bX9_keep_0 n l1 I
theorem sX9_keep {G : am_G} (hG : am_ok G) {d : Nat} {l1 : Int32} {I : am_I} {r : am_I} (h : gX9_keep G.2.2.2.1 l1 I = some r) : am_C G d mX9_keep [.inr (0, 15), .inl l1] I (am_E none r) :=
  am_of (by decide +kernel) hG.nd (Nat.le_of_ble_eq_true rfl) (am_lwJ (lo' := [some (.inr (0, 15)), some (.inl l1), none]) ⟨rfl, rfl, trivial⟩ (tX9_keep_0 hG h))
def bX9_set_29 (n : Nat) (l1 : Int32) (l2 : Int32) (l3 : Int32) (I : am_I) : Option (am_I) := (gX9_keep n l1 I).bind (fun q1 => am_gd (decide ((q1 0 15 8).toNatClampNeg < n)) (am_gd (am_inb ((l1 * (nI 16)) + l2) 10240) (am_lt (am_up q1 ((q1 0 15 8).toNatClampNeg) 42 ((l1 * (nI 16)) + l2).toNatClampNeg l3) (fun I4 => some I4))))
theorem tX9_set_29 {G : am_G} (hG : am_ok G) {d : Nat} {l1 : Int32} {l2 : Int32} {l3 : Int32} {I : am_I} {r : am_I} (h : bX9_set_29 G.2.2.2.1 l1 l2 l3  I = some r) : am_J G (d + 1) mX9_set am_no (am_E none r) 29 [some (.inr (0, 15)), some (.inl l1), some (.inl l2), some (.inl l3)] [] I := by
  unfold bX9_set_29 at h
  refine am_aload_n dX9_set_29 rfl ?_
  refine am_iload_n dX9_set_30 rfl ?_
  obtain ⟨q1, hq1, h⟩ := am_bd h
  refine am_callVe (i := 0) (j := 15) (as := [.inl l1]) (rest := []) dX9_set_31 lkX9_keep ml_X9_187 imX9_keep seX9_keep rfl rfl (hG.m0 (by decide)) rfl (Nat.le_of_ble_eq_true rfl) rfl (sX9_keep hG hq1) ?_
  refine am_aload_n dX9_set_34 rfl ?_
  obtain ⟨g2, h⟩ := am_gd_some h
  have g2 := of_decide_eq_true g2
  refine am_get (v := .inr ((q1 0 15 8).toNatClampNeg, 40)) dX9_set_35 fl_9_31 (hG.m0 (by decide)) rfl ?_
  refine am_get (v := .inr ((q1 0 15 8).toNatClampNeg, 41)) dX9_set_38 fl_9_107 (hG.mn g2 (by decide) (by decide)) rfl ?_
  refine am_get (v := .inr ((q1 0 15 8).toNatClampNeg, 42)) dX9_set_41 fl_9_114 (hG.mn g2 (by decide) (by decide)) rfl ?_
  refine am_iload_n dX9_set_44 rfl ?_
  refine am_bipush (v := nI 16) dX9_set_45 (by decide) ?_
  refine am_imul dX9_set_47 ?_
  refine am_iload_n dX9_set_48 rfl ?_
  refine am_iadd dX9_set_49 ?_
  refine am_iload_n dX9_set_50 rfl ?_
  obtain ⟨g3, h⟩ := am_gd_some h
  refine am_iastG dX9_set_51 (hG.mn g2 (by decide) (by decide)) rfl g3 (show 10240 < 2 ^ 31 by decide) ?_
  obtain ⟨I4, hI4, h⟩ := am_lt_some h
  refine am_st10 hI4 ?_
  cases h
  exact am_vret dX9_set_52 rfl ⟨rfl, rfl⟩
def bX9_set_0 (n : Nat) (l1 : Int32) (l2 : Int32) (l3 : Int32) (I : am_I) : Option (am_I) := (gX10_isWord n l1 l2 I).bind (fun q1 => if q1.1 = 0 then (some q1.2) else (am_gd (decide ((q1.2 0 15 8).toNatClampNeg < n)) (am_gd (am_inb l1 640) (if (q1.2 ((q1.2 0 15 8).toNatClampNeg) 43 l1.toNatClampNeg) = 0 then ((gX9_load n l1 q1.2).bind (fun q4 => bX9_set_29 n l1 l2 l3 q4)) else (bX9_set_29 n l1 l2 l3 q1.2)))))
theorem tX9_set_0 {G : am_G} (hG : am_ok G) {d : Nat} {l1 : Int32} {l2 : Int32} {l3 : Int32} {I : am_I} {r : am_I} (h : bX9_set_0 G.2.2.2.1 l1 l2 l3  I = some r) : am_J G (d + 1) mX9_set am_no (am_E none r) 0 [some (.inr (0, 15)), some (.inl l1), some (.inl l2), some (.inl l3)] [] I := by
  unfold bX9_set_0 at h
  refine am_iload_n dX9_set_0 rfl ?_
  refine am_iload_n dX9_set_1 rfl ?_
  obtain ⟨q1, hq1, h⟩ := am_bd h
  refine am_callSNx (as := [.inl l1, .inl l2]) (rest := []) dX9_set_2 lkX10_isWord nl_X9_180 isX10_isWord rfl (Nat.le_of_ble_eq_true rfl) rfl (sX10_isWord hG hq1) ?_
  refine am_if_ne (tgt := 9) dX9_set_5 rfl (fun c => ?_) (fun c => ?_)
  · rw [if_neg c] at h
    refine am_aload_n dX9_set_9 rfl ?_
    obtain ⟨g2, h⟩ := am_gd_some h
    have g2 := of_decide_eq_true g2
    refine am_get (v := .inr ((q1.2 0 15 8).toNatClampNeg, 40)) dX9_set_10 fl_9_31 (hG.m0 (by decide)) rfl ?_
    refine am_get (v := .inr ((q1.2 0 15 8).toNatClampNeg, 41)) dX9_set_13 fl_9_107 (hG.mn g2 (by decide) (by decide)) rfl ?_
    refine am_get (v := .inr ((q1.2 0 15 8).toNatClampNeg, 43)) dX9_set_16 fl_9_175 (hG.mn g2 (by decide) (by decide)) rfl ?_
    refine am_iload_n dX9_set_19 rfl ?_
    obtain ⟨g3, h⟩ := am_gd_some h
    refine am_zaldG dX9_set_20 (hG.mn g2 (by decide) (by decide)) rfl g3 (show 640 < 2 ^ 31 by decide) ?_
    refine am_if_ne (tgt := 29) dX9_set_21 rfl (fun c => ?_) (fun c => ?_)
    · rw [if_neg c] at h
      exact am_lwJ (lo' := [some (.inr (0, 15)), some (.inl l1), some (.inl l2), some (.inl l3)]) ⟨rfl, rfl, rfl, rfl, trivial⟩ (tX9_set_29 hG h)
    · rw [if_pos c] at h
      refine am_aload_n dX9_set_24 rfl ?_
      refine am_iload_n dX9_set_25 rfl ?_
      obtain ⟨q4, hq4, h⟩ := am_bd h
      refine am_callVe (i := 0) (j := 15) (as := [.inl l1]) (rest := []) dX9_set_26 lkX9_load ml_X9_184 imX9_load seX9_load rfl rfl (hG.m0 (by decide)) rfl (Nat.le_of_ble_eq_true rfl) rfl (sX9_load hG hq4) ?_
      exact am_lwJ (lo' := [some (.inr (0, 15)), some (.inl l1), some (.inl l2), some (.inl l3)]) ⟨rfl, rfl, rfl, rfl, trivial⟩ (tX9_set_29 hG h)
  · rw [if_pos c] at h
    cases h
    exact am_vret dX9_set_8 rfl ⟨rfl, rfl⟩
def gX9_set (n : Nat) (l1 : Int32) (l2 : Int32) (l3 : Int32) (I : am_I) : Option (am_I) := bX9_set_0 n l1 l2 l3 I
theorem sX9_set {G : am_G} (hG : am_ok G) {d : Nat} {l1 : Int32} {l2 : Int32} {l3 : Int32} {I : am_I} {r : am_I} (h : gX9_set G.2.2.2.1 l1 l2 l3 I = some r) : am_C G (d + 1) mX9_set [.inr (0, 15), .inl l1, .inl l2, .inl l3] I (am_E none r) :=
  am_of (by decide +kernel) hG.nd (Nat.le_of_ble_eq_true rfl) (am_lwJ (lo' := [some (.inr (0, 15)), some (.inl l1), some (.inl l2), some (.inl l3)]) ⟨rfl, rfl, rfl, rfl, trivial⟩ (tX9_set_0 hG h))
