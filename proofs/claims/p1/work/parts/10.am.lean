/-! THE ABSTRACT MACHINE: the cells of the system by their roles (i, j): i the node (0 where there is none), j the place; what changes is a function I : i → j → slot → Int32. -/
abbrev am_V : Type := Int32 ⊕ (Nat × Nat)
abbrev am_I : Type := Nat → Nat → Nat → Int32
/-- launch and class numbers; the classes of int, boolean and node arrays; addresses; how many nodes; the roles that there are -/
abbrev am_G : Type := (Launch × va_G) × (ClassId × ClassId × ClassId) × (Nat → Nat → Nat) × Nat × List (Nat × Nat)
/-- a method: its name, its bytes, its locals, what it returns -/
abbrev am_M : Type := MethodName × ByteArray × Nat × Option FieldType
def am_val (G : am_G) : am_V → Value
  | .inl x => .int x
  | .inr r => .ref (G.2.2.1 r.1 r.2)
def am_upf (I : am_I) (i j : Nat) (f : Nat → Int32) : am_I := fun i' j' => if i' = i ∧ j' = j then f else I i' j'
def am_up (I : am_I) (i j k : Nat) (v : Int32) : am_I := am_upf I i j (upd (I i j) k v)
theorem am_upf_at (I : am_I) (i j : Nat) (f : Nat → Int32) : am_upf I i j f i j = f := if_pos ⟨rfl, rfl⟩
theorem am_upf_ne (I : am_I) {i j i' j' : Nat} (f : Nat → Int32) (h : ¬ (i' = i ∧ j' = j)) : am_upf I i j f i' j' = I i' j' := if_neg h
/-- what is at a role: 0 an object, 1 ints, 2 booleans, 3 the nodes -/
def am_k (j : Nat) : Nat := match j with
  | 1 => 1
  | 2 => 3
  | 4 => 1
  | 5 => 1
  | 6 => 1
  | 7 => 1
  | 8 => 1
  | 10 => 1
  | 11 => 1
  | 12 => 1
  | 14 => 1
  | 16 => 1
  | 17 => 2
  | 18 => 1
  | 19 => 2
  | 20 => 1
  | 22 => 1
  | 23 => 1
  | 24 => 2
  | 25 => 1
  | 26 => 1
  | 42 => 1
  | 43 => 2
  | 45 => 1
  | 46 => 1
  | 47 => 1
  | 49 => 1
  | 50 => 1
  | 51 => 1
  | 52 => 2
  | 53 => 1
  | 54 => 1
  | 64 => 1
  | 65 => 2
  | 66 => 2
  | 67 => 1
  | 68 => 2
  | 69 => 2
  | 70 => 1
  | 71 => 1
  | 72 => 1
  | 73 => 1
  | 74 => 1
  | 75 => 1
  | 76 => 1
  | 77 => 1
  | 78 => 1
  | 79 => 2
  | 80 => 2
  | 81 => 1
  | 82 => 1
  | 83 => 1
  | 84 => 1
  | 85 => 1
  | 86 => 1
  | 87 => 1
  | 88 => 1
  | 89 => 1
  | 90 => 1
  | 91 => 1
  | 92 => 1
  | 93 => 2
  | 94 => 1
  | 95 => 1
  | 96 => 1
  | 97 => 1
  | 98 => 1
  | 101 => 1
  | 102 => 1
  | 103 => 1
  | 104 => 1
  | 105 => 1
  | 106 => 1
  | 107 => 1
  | 108 => 1
  | 118 => 1
  | 119 => 2
  | 120 => 2
  | 121 => 1
  | 123 => 1
  | 125 => 1
  | 126 => 2
  | 127 => 1
  | 128 => 2
  | 129 => 1
  | 130 => 1
  | 131 => 1
  | _ => 0
def am_len (n j : Nat) : Nat := match j with
  | 1 => 10240
  | 2 => n
  | 4 => 544
  | 5 => 544
  | 6 => 544
  | 7 => 544
  | 8 => 136
  | 10 => 16
  | 11 => 768
  | 12 => 768
  | 14 => 4000
  | 16 => 32
  | 17 => 32
  | 18 => 512
  | 19 => 640
  | 20 => 32
  | 22 => 640
  | 23 => 128
  | 24 => 128
  | 25 => 128
  | 26 => 24
  | 42 => 10240
  | 43 => 640
  | 45 => 16
  | 46 => 16
  | 47 => 256
  | 49 => 136
  | 50 => 136
  | 51 => 136
  | 52 => 136
  | 53 => 136
  | 54 => 136
  | 64 => 10240
  | 65 => 4
  | 66 => 4
  | 67 => 40960
  | 68 => 2560
  | 69 => 2560
  | 70 => 4
  | 71 => 4
  | 72 => 4
  | 73 => 4
  | 74 => 144
  | 75 => 2304
  | 76 => 544
  | 77 => 544
  | 78 => 544
  | 79 => 544
  | 80 => 544
  | 81 => 544
  | 82 => 4
  | 83 => 4
  | 84 => 4
  | 85 => 4
  | 86 => 4
  | 87 => 4
  | 88 => 4
  | 89 => 4
  | 90 => 4
  | 91 => 4
  | 92 => 4
  | 93 => 4
  | 94 => 544
  | 95 => 544
  | 96 => 136
  | 97 => 2176
  | 98 => 2176
  | 101 => 4096
  | 102 => 4096
  | 103 => 4096
  | 104 => 4096
  | 105 => 4096
  | 106 => 4096
  | 107 => 16
  | 108 => 16
  | 118 => 640
  | 119 => 640
  | 120 => 640
  | 121 => 10240
  | 123 => 64
  | 125 => 4000
  | 126 => 400
  | 127 => 10240
  | 128 => 128
  | 129 => 128
  | 130 => 128
  | 131 => 640
  | _ => 0
def am_ci (j : Nat) : Nat := match j with
  | 0 => 10
  | 3 => 6
  | 9 => 5
  | 13 => 0
  | 15 => 9
  | 21 => 2
  | 40 => 7
  | 41 => 1
  | 44 => 3
  | 48 => 4
  | 55 => 8
  | 60 => 11
  | _ => 0
def am_fs (G : am_G) (f : Nat → Int32) (i j : Nat) : List Value := match j with
  | 0 => [.ref (G.2.2.1 0 1), .ref (G.2.2.1 0 2), .ref (G.2.2.1 0 3), .ref (G.2.2.1 0 9), .ref (G.2.2.1 0 13), .ref (G.2.2.1 0 15), .ref (G.2.2.1 0 21), .int (f 7), .int (f 8), .int (f 9)]
  | 3 => [.ref (G.2.2.1 0 4), .ref (G.2.2.1 0 5), .ref (G.2.2.1 0 6), .ref (G.2.2.1 0 7), .ref (G.2.2.1 0 8)]
  | 9 => [.ref (G.2.2.1 0 10), .ref (G.2.2.1 0 11), .ref (G.2.2.1 0 12), .int (f 3), .int (f 4)]
  | 13 => [.ref (G.2.2.1 0 14), .int (f 1)]
  | 15 => [.ref (G.2.2.1 0 1), .ref (G.2.2.1 0 16), .ref (G.2.2.1 0 17), .ref (G.2.2.1 0 18), .ref (G.2.2.1 0 19), .int (f 5), .ref (G.2.2.1 0 20), .int (f 7), .ref (G.2.2.1 (f 8).toNatClampNeg 40), .int (f 9), .int (f 10), .int (f 11), .int (f 12), .int (f 13), .int (f 14), .int (f 15), .int (f 16)]
  | 21 => [.ref (G.2.2.1 0 1), .ref (G.2.2.1 0 22), .ref (G.2.2.1 0 23), .ref (G.2.2.1 0 24), .ref (G.2.2.1 0 25), .int (f 5), .ref (G.2.2.1 0 26), .int (f 7)]
  | 40 => [.int (f 0), .ref (G.2.2.1 i 41), .ref (G.2.2.1 i 44), .ref (G.2.2.1 i 48), .ref (G.2.2.1 i 55), .int (f 5), .int (f 6)]
  | 41 => [.ref (G.2.2.1 i 42), .ref (G.2.2.1 i 43), .int (f 2)]
  | 44 => [.int (f 0), .ref (G.2.2.1 i 45), .int (f 2), .ref (G.2.2.1 i 46), .ref (G.2.2.1 i 47), .int (f 5), .int (f 6), .int (f 7), .int (f 8)]
  | 48 => [.ref (G.2.2.1 i 49), .ref (G.2.2.1 i 50), .ref (G.2.2.1 i 51), .ref (G.2.2.1 i 52), .ref (G.2.2.1 i 53), .ref (G.2.2.1 i 54), .int (f 6)]
  | 55 => [.int (f 0), .int (f 1), .int (f 2), .int (f 3), .int (f 4), .int (f 5), .int (f 6), .int (f 7), .int (f 8), .int (f 9), .int (f 10), .int (f 11)]
  | 60 => [.int (f 0), .int (f 1), .int (f 2), .ref (G.2.2.1 0 64), .ref (G.2.2.1 0 65), .ref (G.2.2.1 0 66), .ref (G.2.2.1 0 67), .ref (G.2.2.1 0 68), .ref (G.2.2.1 0 69), .ref (G.2.2.1 0 70), .ref (G.2.2.1 0 71), .ref (G.2.2.1 0 72), .ref (G.2.2.1 0 73), .ref (G.2.2.1 0 74), .ref (G.2.2.1 0 75), .ref (G.2.2.1 0 76), .ref (G.2.2.1 0 77), .ref (G.2.2.1 0 78), .ref (G.2.2.1 0 79), .ref (G.2.2.1 0 80), .ref (G.2.2.1 0 81), .ref (G.2.2.1 0 82), .ref (G.2.2.1 0 83), .ref (G.2.2.1 0 84), .ref (G.2.2.1 0 85), .ref (G.2.2.1 0 86), .ref (G.2.2.1 0 87), .ref (G.2.2.1 0 88), .ref (G.2.2.1 0 89), .ref (G.2.2.1 0 90), .ref (G.2.2.1 0 91), .ref (G.2.2.1 0 92), .ref (G.2.2.1 0 93), .ref (G.2.2.1 0 94), .ref (G.2.2.1 0 95), .ref (G.2.2.1 0 96), .ref (G.2.2.1 0 97), .ref (G.2.2.1 0 98), .int (f 38), .int (f 39), .ref (G.2.2.1 0 101), .ref (G.2.2.1 0 102), .ref (G.2.2.1 0 103), .ref (G.2.2.1 0 104), .ref (G.2.2.1 0 105), .ref (G.2.2.1 0 106), .ref (G.2.2.1 0 107), .ref (G.2.2.1 0 108), .int (f 48), .int (f 49), .int (f 50), .int (f 51), .int (f 52), .int (f 53), .int (f 54), .int (f 55), .int (f 56), .ref (G.2.2.1 0 118), .ref (G.2.2.1 0 119), .ref (G.2.2.1 0 120), .ref (G.2.2.1 0 121), .int (f 61), .ref (G.2.2.1 0 123), .int (f 63), .ref (G.2.2.1 0 125), .ref (G.2.2.1 0 126), .ref (G.2.2.1 0 127), .ref (G.2.2.1 0 128), .ref (G.2.2.1 0 129), .ref (G.2.2.1 0 130), .ref (G.2.2.1 0 131)]
  | _ => []
/-- the links among nest mates -/
def am_nl : List (String × Nat × MethodName × String) := [(RX10, 42, yX0_init, "ClusterShelf"), (RX1, 23, yX10_mapBlock, "ClusterShelf"), (RX1, 31, yX10_inodeBlock, "ClusterShelf"), (RX1, 38, yX10_isData, "ClusterShelf"), (RX2, 107, yX10_isInode, "ClusterShelf"), (RX2, 114, yX10_isData, "ClusterShelf"), (RX2, 117, yX10_dataNumber, "ClusterShelf"), (RX2, 120, yX10_groupOf, "ClusterShelf"), (RX2, 123, yX10_mapBlock, "ClusterShelf"), (RX2, 58, yX10_headBlock, "ClusterShelf"), (RX2, 73, yX10_isBlock, "ClusterShelf"), (RX2, 77, yX10_isWord, "ClusterShelf"), (RX2, 81, yX10_inodeBlock, "ClusterShelf"), (RX3, 57, yX10_isBlock, "ClusterShelf"), (RX7, 25, yX8_init, "ClusterShelf"), (RX7, 43, yX10_headBlock, "ClusterShelf"), (RX7, 9, yX1_init, "ClusterShelf"), (RX9, 180, yX10_isWord, "ClusterShelf"), (RX9, 193, yX10_inodeBlock, "ClusterShelf"), (RX9, 208, yX10_mapResource, "ClusterShelf"), (RX9, 214, yX10_mapBlock, "ClusterShelf"), (RX9, 229, yX10_isData, "ClusterShelf"), (RX9, 232, yX10_groupOf, "ClusterShelf"), (RX9, 235, yX10_dataNumber, "ClusterShelf"), (RX9, 96, yX10_isInode, "ClusterShelf")]
def am_nw : List Cond := am_nl.map (fun q => Cond.methodLinkNest q.1 q.2.1 q.2.2.1 q.2.2.2)
def am_cell (G : am_G) (f : Nat → Int32) (i j : Nat) : va_E :=
  if am_k j = 1 then .inl (G.2.1.1, am_len G.2.2.2.1 j, .inl f)
  else if am_k j = 2 then .inl (G.2.1.2.1, am_len G.2.2.2.1 j, .inl f)
  else if am_k j = 3 then .inl (G.2.1.2.2, G.2.2.2.1, .inr (.inr (.inr (.inr (fun x => some (G.2.2.1 x 40))))))
  else .inr (am_ci j, am_fs G f i j)
def am_ws (G : am_G) (I : am_I) : va_W := G.2.2.2.2.map (fun r => (G.2.2.1 r.1 r.2, am_cell G (I r.1 r.2) r.1 r.2))
abbrev am_tys (G : am_G) : List (ClassId × FieldType) := [(G.2.1.1, .int), (G.2.1.2.1, .boolean), (G.2.1.2.2, .object RX7)]
def am_A (G : am_G) (sz : Nat) : Nat → Prop := fun q => (∃ r ∈ G.2.2.2.2, G.2.2.1 r.1 r.2 = q) ∨ sz ≤ q
theorem am_at {G : am_G} {i j : Nat} (h : (i, j) ∈ G.2.2.2.2) (I : am_I) : ∃ k : Nat, G.2.2.2.2[k]? = some (i, j) ∧ (am_ws G I)[k]? = some (G.2.2.1 i j, am_cell G (I i j) i j) := by
  obtain ⟨k, hk⟩ := List.getElem?_of_mem h
  exact ⟨k, hk, by simp [am_ws, hk]⟩
theorem am_set {G : am_G} (hn : G.2.2.2.2.Nodup) {i j k : Nat} (hk : G.2.2.2.2[k]? = some (i, j)) (I : am_I) (f : Nat → Int32) : (am_ws G I).set k (G.2.2.1 i j, am_cell G f i j) = am_ws G (am_upf I i j f) := by
  apply List.ext_getElem?
  intro q
  by_cases hq : k = q
  · subst hq
    have hl : k < G.2.2.2.2.length := (List.getElem?_eq_some_iff.mp hk).1
    rw [List.getElem?_set_self (by simpa [am_ws] using hl)]
    simp [am_ws, hk, am_upf_at]
  · rw [List.getElem?_set_ne hq]
    simp only [am_ws, List.getElem?_map]
    cases hr : G.2.2.2.2[q]? with
    | none => rfl
    | some r =>
      have hne : ¬ (r.1 = i ∧ r.2 = j) := fun h => by
        have hr2 : G.2.2.2.2[q]? = some (i, j) := by rw [hr, ← h.1, ← h.2]
        exact hq ((List.getElem?_inj (List.getElem?_eq_some_iff.mp hk).1 hn).mp (hk.trans hr2.symm))
      simp only [Option.map_some, am_upf_ne I f hne]
theorem am_D {G : am_G} {A : Nat → Prop} {I : am_I} (h : va_D A (am_ws G I)) (I' : am_I) : va_D A (am_ws G I') := by
  have key : ∀ (k : Nat) (q : Nat × va_E), (am_ws G I')[k]? = some q → ∃ q', (am_ws G I)[k]? = some q' ∧ q'.1 = q.1 := by
    intro k q hk
    simp only [am_ws, List.getElem?_map] at hk ⊢
    cases hr : G.2.2.2.2[k]? with
    | none => rw [hr] at hk; cases hk
    | some r => rw [hr] at hk; cases hk; exact ⟨_, rfl, rfl⟩
  refine ⟨fun i j p q hp hq e => ?_, fun k q hk => ?_⟩
  · obtain ⟨p', h1, e1⟩ := key i p hp
    obtain ⟨q', h2, e2⟩ := key j q hq
    exact h.1 i j p' q' h1 h2 (e1.trans (e.trans e2.symm))
  · obtain ⟨q', h1, e1⟩ := key k q hk
    rw [← e1]
    exact h.2 k q' h1
def am_T : List Cond := lw_tbl.filter goodWord
theorem am_mem {w : Cond} (h : w ∈ lw_tbl) (hg : goodWord w = true) : w ∈ am_T := List.mem_filter.mpr ⟨h, hg⟩
theorem am_good {w : Cond} (h : w ∈ am_T) : (w.onTables && w.keeps) = true ∨ ∃ ty, w = .arrayClass ty := good_of_word (List.mem_filter.mp h).2
abbrev am_w (M : am_M) : List Cond := .code M.1 M.2.1 M.2.2.1 M.2.2.2 :: am_T
theorem am_gin {M : am_M} {ws : List Cond} (h : ∀ w ∈ ws, w ∈ am_T) : GoodIn (am_w M) ws := fun w hw => ⟨List.mem_cons_of_mem _ (h w hw), am_good (h w hw)⟩
def am_rm (d : Nat) : Room := { frames := d, cells := 0, slots := 0, locals := 41 * d }
def am_B (G : am_G) (I : am_I) (U : State) : Prop := va_P G.1.2 vwCl (am_ws G I) U.heap ∧ va_K G.1.2 vwCl (am_tys G) U ∧ va_D (fun _ => True) (am_ws G I) ∧ ∀ w ∈ am_nw, va_Nw w U
def am_Qc (G : am_G) (M : am_M) (Q : Option Int32 → am_I → Prop) (A : Nat → Prop) : Array Value → State → Outcome → State → Prop := match M.2.2.2 with
  | none => va_Qv (fun I' => Q none I') (am_B G) A
  | some _ => va_Qi (fun r I' => Q (some r) I') (am_B G) A
/-- THE CONTRACT of a method at a depth: called with these, over I, it returns so that Q -/
def am_C (G : am_G) (d : Nat) (M : am_M) (as : List am_V) (I : am_I) (Q : Option Int32 → am_I → Prop) : Prop :=
  ∀ sz : Nat, Met G.1.1 M.1 (am_w M) (am_rm d) (va_Pc (as.map (am_val G)) (fun U => U.heap.size = sz ∧ am_B G I U)) (am_Qc G M Q (am_A G sz)) 0 0 (am_A G sz)
def am_L (G : am_G) (M : am_M) (ls : Array Slot) (lo : List (Option am_V)) : Prop := ls.size = M.2.2.1 ∧ lv_wf ls ∧ lo.length = M.2.2.1 ∧ ∀ (i : Nat) (v : am_V), lo[i]? = some (some v) → ls[i]? = some (.val (am_val G v))
def am_H (G : am_G) (A : Nat → Prop) (s : State) (H : Heap) (locs : List Loc) (I : am_I) : Prop := va_P G.1.2 vwCl (am_ws G I) H ∧ va_D A (am_ws G I) ∧ va_S A s.heap H locs
/-- what stays through a method's body -/
def am_X (G : am_G) (d : Nat) (M : am_M) (p : Program) (e : Env) (R : Room) (s : State) (m : MethodId) (args : Array Value) (below : List Frame) (meth : Method) (c : Code) (A : Nat → Prop) (Z : State → Prop) (cells slots : Nat) (TH : Nat → List (Option am_V) → List am_V → am_I → Prop) (Q : Option Int32 → am_I → Prop) : Prop :=
  (p.tables.exec = Jvm.exec ∧ c.code = M.2.1 ∧ meth.sig.returnType = M.2.2.2 ∧ c.maxLocals = M.2.2.1 ∧ s.vm.findClass M.1.cls = some m.cls ∧ (∀ w ∈ am_w M, w.before args s = true) ∧ meth.locks = false) ∧
  ((∀ q : Nat, s.heap.size ≤ q → A q) ∧ va_K G.1.2 vwCl (am_tys G) s ∧ (∀ w ∈ am_nw, va_Nw w s) ∧ G.2.2.2.2.Nodup ∧ (∀ r ∈ G.2.2.2.2, A (G.2.2.1 r.1 r.2))) ∧
  (d ≤ R.frames ∧ 41 * d ≤ R.locals ∧ cells ≤ R.cells ∧ slots ≤ R.slots) ∧
  (∀ (r : Option Int32) (I' : am_I) (H' : Heap) (locs' : List Loc) (g : JFrame), r.isSome = M.2.2.2.isSome → Q r I' → am_H G A s H' locs' I' → W p G.1.1 e R s m args below meth c H' locs' cells slots (MQ below (fun _ _ oc t => oc = .returned (r.map Value.int) ∧ t.heap = H' ∧ s.WarmedH t.vm) args s cells slots A) g → W p G.1.1 e R s m args below meth c H' locs' cells slots Z g) ∧
  (∀ (pc : Nat) (lo : List (Option am_V)) (st : List am_V) (I' : am_I) (H' : Heap) (locs' : List Loc) (ls : Array Slot), TH pc lo st I' → am_H G A s H' locs' I' → am_L G M ls lo → W p G.1.1 e R s m args below meth c H' locs' cells slots Z (F0 m pc ls (st.map (am_val G))))
/-- THE JUDGEMENT: from here the method's body comes to its end so that Q, or to a place that TH names -/
def am_J (G : am_G) (d : Nat) (M : am_M) (TH : Nat → List (Option am_V) → List am_V → am_I → Prop) (Q : Option Int32 → am_I → Prop) (pc : Nat) (lo : List (Option am_V)) (st : List am_V) (I : am_I) : Prop :=
  ∀ (p : Program) (e : Env) (R : Room) (s : State) (m : MethodId) (args : Array Value) (below : List Frame) (meth : Method) (c : Code) (A : Nat → Prop) (Z : State → Prop) (cells slots : Nat) (H : Heap) (locs : List Loc) (ls : Array Slot),
    am_X G d M p e R s m args below meth c A Z cells slots TH Q → am_H G A s H locs I → am_L G M ls lo → W p G.1.1 e R s m args below meth c H locs cells slots Z (F0 m pc ls (st.map (am_val G)))
abbrev am_no : Nat → List (Option am_V) → List am_V → am_I → Prop := fun _ _ _ _ => False
