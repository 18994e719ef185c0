/-- machine, layout of the classes; the classes of int[], boolean[], Node[]; of long[] -/
abbrev k_B : Type := (Launch × va_G) × (ClassId × ClassId × ClassId) × ClassId
abbrev k_tys (B : k_B) : List (ClassId × FieldType) := [(B.2.1.1, .int), (B.2.1.2.1, .boolean), (B.2.1.2.2, .object RX7), (B.2.2, .long)]
/-- there is a class of arrays of nodes -/
def k_N (_ : k_B) (U : State) : Prop := va_AO RX7 U
/-- roles that are addresses -/
abbrev k_G (B : k_B) : am_G := (B.1, B.2.1, fun i _ => i, 0, [])
def k_A (ws : va_W) (sz : Nat) : Nat → Prop := fun q => (∃ x ∈ ws, x.1 = q) ∨ sz ≤ q
def k_W (B : k_B) (ws : va_W) (U : State) : Prop := va_P B.1.2 vwCl ws U.heap ∧ va_K B.1.2 vwCl (k_tys B) U ∧ k_N B U ∧ va_D (fun _ => True) ws ∧ ∀ w ∈ am_nw, va_Nw w U
def k_rm (d mc ms : Nat) : Room := { frames := d, cells := mc, slots := ms, locals := 41 * d }
def k_Qc (B : k_B) (M : am_M) (Q : Option Int32 → va_W → Prop) (A : Nat → Prop) : Array Value → State → Outcome → State → Prop := match M.2.2.2 with
  | none => va_Qv (fun ws' => Q none ws' ∧ va_D A ws') (k_W B) A
  | some _ => va_Qi (fun r ws' => Q (some r) ws' ∧ va_D A ws') (k_W B) A
/-- THE CONTRACT of a method that makes mc cells of ms slots: over the world ws it returns so that Q -/
def k_C (B : k_B) (d mc ms : Nat) (M : am_M) (as : List am_V) (ws : va_W) (Q : Option Int32 → va_W → Prop) : Prop :=
  ∀ sz : Nat, Met B.1.1 M.1 (am_w M) (k_rm d mc ms) (va_Pc (as.map (am_val (k_G B))) (fun U => U.heap.size = sz ∧ k_W B ws U)) (k_Qc B M Q (k_A ws sz)) mc ms (k_A ws sz)
def k_H (B : k_B) (A : Nat → Prop) (s : State) (H : Heap) (locs : List Loc) (ws : va_W) : Prop := va_P B.1.2 vwCl ws H ∧ va_D A ws ∧ va_S A s.heap H locs
/-- what stays through a body -/
def k_X (B : k_B) (d : Nat) (M : am_M) (mc ms : Nat) (p : Program) (e : Env) (R : Room) (s : State) (m : MethodId) (args : Array Value) (below : List Frame) (meth : Method) (c : Code) (A : Nat → Prop) (Z : State → Prop) (Q : Option Int32 → va_W → Prop) : Prop :=
  (p.tables.exec = Jvm.exec ∧ c.code = M.2.1 ∧ meth.sig.returnType = M.2.2.2 ∧ c.maxLocals = M.2.2.1 ∧ s.vm.findClass M.1.cls = some m.cls ∧ (∀ w ∈ am_T, w.before args s = true) ∧ meth.locks = false ∧ meth.name = M.1.name) ∧
  ((∀ q : Nat, s.heap.size ≤ q → A q) ∧ va_K B.1.2 vwCl (k_tys B) s ∧ k_N B s ∧ (∀ w ∈ am_nw, va_Nw w s)) ∧
  (d ≤ R.frames ∧ 41 * d ≤ R.locals ∧ mc ≤ R.cells ∧ ms ≤ R.slots) ∧
  (∀ (r : Option Int32) (ws' : va_W) (H' : Heap) (locs' : List Loc) (g : JFrame), r.isSome = M.2.2.2.isSome → Q r ws' → k_H B A s H' locs' ws' → W p B.1.1 e R s m args below meth c H' locs' mc ms (MQ below (fun _ _ oc t => oc = .returned (r.map Value.int) ∧ t.heap = H' ∧ s.WarmedH t.vm) args s mc ms A) g → W p B.1.1 e R s m args below meth c H' locs' mc ms Z g)
/-- THE JUDGEMENT -/
def am_K (B : k_B) (d : Nat) (M : am_M) (mc ms : Nat) (Q : Option Int32 → va_W → Prop) (pc : Nat) (lo : List (Option am_V)) (st : List Value) (ws : va_W) (nc ns : Nat) : Prop :=
  ∀ (p : Program) (e : Env) (R : Room) (s : State) (m : MethodId) (args : Array Value) (below : List Frame) (meth : Method) (c : Code) (A : Nat → Prop) (Z : State → Prop) (H : Heap) (locs : List Loc) (ls : Array Slot),
    k_X B d M mc ms p e R s m args below meth c A Z Q → k_H B A s H locs ws → am_L (k_G B) M ls lo → W p B.1.1 e R s m args below meth c H locs nc ns Z (F0 m pc ls st)
section KR
variable {B : k_B} {d : Nat} {M : am_M} {mc ms : Nat} {Q : Option Int32 → va_W → Prop} {pc : Nat} {lo : List (Option am_V)} {st : List Value} {ws : va_W} {nc ns : Nat}
theorem k_iconst {z : Int} {v : Int32} (hd : decode M.2.1 pc = .ok (.iconst z, 1)) (hv : Int32.ofInt z = v) (hk : am_K B d M mc ms Q (pc + 1) lo (.int v :: st) ws nc ns) : am_K B d M mc ms Q pc lo st ws nc ns := by
  intro p e R s m args below meth c A Z H locs ls X hH hL
  obtain ⟨hx, hb, hr, hml, hown, hts, hlocks, hnm⟩ := id X.1
  exact lv_iconst hx hb hd hv (hk p e R s m args below meth c A Z H locs ls X hH hL)
theorem k_bipush {z : Int} {v : Int32} (hd : decode M.2.1 pc = .ok (.bipush z, 2)) (hv : (Int8.ofInt z).toInt32 = v) (hk : am_K B d M mc ms Q (pc + 2) lo (.int v :: st) ws nc ns) : am_K B d M mc ms Q pc lo st ws nc ns := by
  intro p e R s m args below meth c A Z H locs ls X hH hL
  obtain ⟨hx, hb, hr, hml, hown, hts, hlocks, hnm⟩ := id X.1
  exact lv_bipush hx hb hd hv (hk p e R s m args below meth c A Z H locs ls X hH hL)
theorem k_sipush {z : Int} {v : Int32} (hd : decode M.2.1 pc = .ok (.sipush z, 3)) (hv : (Int16.ofInt z).toInt32 = v) (hk : am_K B d M mc ms Q (pc + 3) lo (.int v :: st) ws nc ns) : am_K B d M mc ms Q pc lo st ws nc ns := by
  intro p e R s m args below meth c A Z H locs ls X hH hL
  obtain ⟨hx, hb, hr, hml, hown, hts, hlocks, hnm⟩ := id X.1
  exact lv_sipush hx hb hd hv (hk p e R s m args below meth c A Z H locs ls X hH hL)
theorem k_iload_n {k : Fin 4} {x : Int32} (hd : decode M.2.1 pc = .ok (.iload_n k, 1)) (hl : lo[(k : Nat)]? = some (some (.inl x))) (hk : am_K B d M mc ms Q (pc + 1) lo (.int x :: st) ws nc ns) : am_K B d M mc ms Q pc lo st ws nc ns := by
  intro p e R s m args below meth c A Z H locs ls X hH hL
  obtain ⟨hx, hb, hr, hml, hown, hts, hlocks, hnm⟩ := id X.1
  exact lv_iload_n hx hb hd rfl (hL.2.2.2 _ _ hl) (hk p e R s m args below meth c A Z H locs ls X hH hL)
theorem k_iload {k : Nat} {x : Int32} (hd : decode M.2.1 pc = .ok (.iload k, 2)) (hl : lo[k]? = some (some (.inl x))) (hk : am_K B d M mc ms Q (pc + 2) lo (.int x :: st) ws nc ns) : am_K B d M mc ms Q pc lo st ws nc ns := by
  intro p e R s m args below meth c A Z H locs ls X hH hL
  obtain ⟨hx, hb, hr, hml, hown, hts, hlocks, hnm⟩ := id X.1
  exact lv_iload hx hb hd (hL.2.2.2 _ _ hl) (hk p e R s m args below meth c A Z H locs ls X hH hL)
theorem k_istore_n {k : Fin 4} {x : Int32} (hd : decode M.2.1 pc = .ok (.istore_n k, 1)) (hn : (k : Nat) < M.2.2.1) (hk : am_K B d M mc ms Q (pc + 1) (lo.set (k : Nat) (some (.inl x))) st ws nc ns) : am_K B d M mc ms Q pc lo (.int x :: st) ws nc ns := by
  intro p e R s m args below meth c A Z H locs ls X hH hL
  obtain ⟨hx, hb, hr, hml, hown, hts, hlocks, hnm⟩ := id X.1
  exact lv_istore_n hx hb hd rfl hL.has hn rfl (fun ls' hl' => hk p e R s m args below meth c A Z H locs ls' X hH (hL.store (v := .inl x) hl'))
theorem k_istore {k : Nat} {x : Int32} (hd : decode M.2.1 pc = .ok (.istore k, 2)) (hn : k < M.2.2.1) (hk : am_K B d M mc ms Q (pc + 2) (lo.set k (some (.inl x))) st ws nc ns) : am_K B d M mc ms Q pc lo (.int x :: st) ws nc ns := by
  intro p e R s m args below meth c A Z H locs ls X hH hL
  obtain ⟨hx, hb, hr, hml, hown, hts, hlocks, hnm⟩ := id X.1
  exact lv_istore hx hb hd hL.has hn rfl (fun ls' hl' => hk p e R s m args below meth c A Z H locs ls' X hH (hL.store (v := .inl x) hl'))
theorem k_aload_n {k : Fin 4} {x : Nat} (hd : decode M.2.1 pc = .ok (.aload_n k, 1)) (hl : lo[(k : Nat)]? = some (some (.inr (x, 0)))) (hk : am_K B d M mc ms Q (pc + 1) lo (.ref x :: st) ws nc ns) : am_K B d M mc ms Q pc lo st ws nc ns := by
  intro p e R s m args below meth c A Z H locs ls X hH hL
  obtain ⟨hx, hb, hr, hml, hown, hts, hlocks, hnm⟩ := id X.1
  exact lv_aload_n hx hb hd rfl (hL.2.2.2 _ _ hl) (hk p e R s m args below meth c A Z H locs ls X hH hL)
theorem k_aload {k : Nat} {x : Nat} (hd : decode M.2.1 pc = .ok (.aload k, 2)) (hl : lo[k]? = some (some (.inr (x, 0)))) (hk : am_K B d M mc ms Q (pc + 2) lo (.ref x :: st) ws nc ns) : am_K B d M mc ms Q pc lo st ws nc ns := by
  intro p e R s m args below meth c A Z H locs ls X hH hL
  obtain ⟨hx, hb, hr, hml, hown, hts, hlocks, hnm⟩ := id X.1
  exact lv_aload hx hb hd (hL.2.2.2 _ _ hl) (hk p e R s m args below meth c A Z H locs ls X hH hL)
theorem k_astore_n {k : Fin 4} {x : Nat} (hd : decode M.2.1 pc = .ok (.astore_n k, 1)) (hn : (k : Nat) < M.2.2.1) (hk : am_K B d M mc ms Q (pc + 1) (lo.set (k : Nat) (some (.inr (x, 0)))) st ws nc ns) : am_K B d M mc ms Q pc lo (.ref x :: st) ws nc ns := by
  intro p e R s m args below meth c A Z H locs ls X hH hL
  obtain ⟨hx, hb, hr, hml, hown, hts, hlocks, hnm⟩ := id X.1
  exact lv_astore_n hx hb hd rfl hL.has hn rfl (fun ls' hl' => hk p e R s m args below meth c A Z H locs ls' X hH (hL.store (v := .inr (x, 0)) hl'))
theorem k_astore {k : Nat} {x : Nat} (hd : decode M.2.1 pc = .ok (.astore k, 2)) (hn : k < M.2.2.1) (hk : am_K B d M mc ms Q (pc + 2) (lo.set k (some (.inr (x, 0)))) st ws nc ns) : am_K B d M mc ms Q pc lo (.ref x :: st) ws nc ns := by
  intro p e R s m args below meth c A Z H locs ls X hH hL
  obtain ⟨hx, hb, hr, hml, hown, hts, hlocks, hnm⟩ := id X.1
  exact lv_astore hx hb hd hL.has hn rfl (fun ls' hl' => hk p e R s m args below meth c A Z H locs ls' X hH (hL.store (v := .inr (x, 0)) hl'))
theorem k_iinc {k : Nat} {z : Int} {x v : Int32} (hd : decode M.2.1 pc = .ok (.iinc k z, 3)) (hl : lo[k]? = some (some (.inl x))) (hv : x + Int32.ofInt z = v) (hk : am_K B d M mc ms Q (pc + 3) (lo.set k (some (.inl v))) st ws nc ns) : am_K B d M mc ms Q pc lo st ws nc ns := by
  intro p e R s m args below meth c A Z H locs ls X hH hL
  obtain ⟨hx, hb, hr, hml, hown, hts, hlocks, hnm⟩ := id X.1
  have hn : k < M.2.2.1 := by rw [← hL.2.2.1]; exact (List.getElem?_eq_some_iff.mp hl).1
  obtain ⟨q, hq⟩ := List.getElem?_of_mem (am_lv_mem (G := k_G B) hl)
  exact lv_iinc hx hb hd hL.has hq hv hn rfl (fun ls' hl' => hk p e R s m args below meth c A Z H locs ls' X hH (hL.store (v := .inl v) hl'))
theorem k_iadd {x y : Int32} (hd : decode M.2.1 pc = .ok (.iadd, 1)) (hk : am_K B d M mc ms Q (pc + 1) lo (.int (x + y) :: st) ws nc ns) : am_K B d M mc ms Q pc lo (.int y :: .int x :: st) ws nc ns := by
  intro p e R s m args below meth c A Z H locs ls X hH hL
  obtain ⟨hx, hb, hr, hml, hown, hts, hlocks, hnm⟩ := id X.1
  exact lv_iadd hx hb hd (hk p e R s m args below meth c A Z H locs ls X hH hL)
theorem k_isub {x y : Int32} (hd : decode M.2.1 pc = .ok (.isub, 1)) (hk : am_K B d M mc ms Q (pc + 1) lo (.int (x - y) :: st) ws nc ns) : am_K B d M mc ms Q pc lo (.int y :: .int x :: st) ws nc ns := by
  intro p e R s m args below meth c A Z H locs ls X hH hL
  obtain ⟨hx, hb, hr, hml, hown, hts, hlocks, hnm⟩ := id X.1
  exact lv_isub hx hb hd (hk p e R s m args below meth c A Z H locs ls X hH hL)
theorem k_imul {x y : Int32} (hd : decode M.2.1 pc = .ok (.imul, 1)) (hk : am_K B d M mc ms Q (pc + 1) lo (.int (x * y) :: st) ws nc ns) : am_K B d M mc ms Q pc lo (.int y :: .int x :: st) ws nc ns := by
  intro p e R s m args below meth c A Z H locs ls X hH hL
  obtain ⟨hx, hb, hr, hml, hown, hts, hlocks, hnm⟩ := id X.1
  exact lv_imul hx hb hd (hk p e R s m args below meth c A Z H locs ls X hH hL)
theorem k_iand {x y : Int32} (hd : decode M.2.1 pc = .ok (.iand, 1)) (hk : am_K B d M mc ms Q (pc + 1) lo (.int (x &&& y) :: st) ws nc ns) : am_K B d M mc ms Q pc lo (.int y :: .int x :: st) ws nc ns := by
  intro p e R s m args below meth c A Z H locs ls X hH hL
  obtain ⟨hx, hb, hr, hml, hown, hts, hlocks, hnm⟩ := id X.1
  exact lv_iand hx hb hd (hk p e R s m args below meth c A Z H locs ls X hH hL)
theorem k_if_eq {x : Int32} {off : Int} {tgt : Nat} (hd : decode M.2.1 pc = .ok (.ifCond .eq off, 3)) (ht : (pc : Int) + off = (tgt : Int)) (kt : x = 0 → am_K B d M mc ms Q tgt lo st ws nc ns) (kf : ¬ x = 0 → am_K B d M mc ms Q (pc + 3) lo st ws nc ns) : am_K B d M mc ms Q pc lo (.int x :: st) ws nc ns := by
  intro p e R s m args below meth c A Z H locs ls X hH hL
  obtain ⟨hx, hb, hr, hml, hown, hts, hlocks, hnm⟩ := id X.1
  exact lv_if_eq hx hb hd ht (fun h => kt h p e R s m args below meth c A Z H locs ls X hH hL) (fun h => kf h p e R s m args below meth c A Z H locs ls X hH hL)
theorem k_icmp_eq {x y : Int32} {off : Int} {tgt : Nat} (hd : decode M.2.1 pc = .ok (.if_icmp .eq off, 3)) (ht : (pc : Int) + off = (tgt : Int)) (kt : x = y → am_K B d M mc ms Q tgt lo st ws nc ns) (kf : ¬ x = y → am_K B d M mc ms Q (pc + 3) lo st ws nc ns) : am_K B d M mc ms Q pc lo (.int y :: .int x :: st) ws nc ns := by
  intro p e R s m args below meth c A Z H locs ls X hH hL
  obtain ⟨hx, hb, hr, hml, hown, hts, hlocks, hnm⟩ := id X.1
  exact lv_icmp_eq hx hb hd ht (fun h => kt h p e R s m args below meth c A Z H locs ls X hH hL) (fun h => kf h p e R s m args below meth c A Z H locs ls X hH hL)
theorem k_if_ne {x : Int32} {off : Int} {tgt : Nat} (hd : decode M.2.1 pc = .ok (.ifCond .ne off, 3)) (ht : (pc : Int) + off = (tgt : Int)) (kt : ¬ x = 0 → am_K B d M mc ms Q tgt lo st ws nc ns) (kf : x = 0 → am_K B d M mc ms Q (pc + 3) lo st ws nc ns) : am_K B d M mc ms Q pc lo (.int x :: st) ws nc ns := by
  intro p e R s m args below meth c A Z H locs ls X hH hL
  obtain ⟨hx, hb, hr, hml, hown, hts, hlocks, hnm⟩ := id X.1
  exact lv_if_ne hx hb hd ht (fun h => kt h p e R s m args below meth c A Z H locs ls X hH hL) (fun h => kf h p e R s m args below meth c A Z H locs ls X hH hL)
theorem k_icmp_ne {x y : Int32} {off : Int} {tgt : Nat} (hd : decode M.2.1 pc = .ok (.if_icmp .ne off, 3)) (ht : (pc : Int) + off = (tgt : Int)) (kt : ¬ x = y → am_K B d M mc ms Q tgt lo st ws nc ns) (kf : x = y → am_K B d M mc ms Q (pc + 3) lo st ws nc ns) : am_K B d M mc ms Q pc lo (.int y :: .int x :: st) ws nc ns := by
  intro p e R s m args below meth c A Z H locs ls X hH hL
  obtain ⟨hx, hb, hr, hml, hown, hts, hlocks, hnm⟩ := id X.1
  exact lv_icmp_ne hx hb hd ht (fun h => kt h p e R s m args below meth c A Z H locs ls X hH hL) (fun h => kf h p e R s m args below meth c A Z H locs ls X hH hL)
theorem k_if_lt {x : Int32} {off : Int} {tgt : Nat} (hd : decode M.2.1 pc = .ok (.ifCond .lt off, 3)) (ht : (pc : Int) + off = (tgt : Int)) (kt : x < 0 → am_K B d M mc ms Q tgt lo st ws nc ns) (kf : ¬ x < 0 → am_K B d M mc ms Q (pc + 3) lo st ws nc ns) : am_K B d M mc ms Q pc lo (.int x :: st) ws nc ns := by
  intro p e R s m args below meth c A Z H locs ls X hH hL
  obtain ⟨hx, hb, hr, hml, hown, hts, hlocks, hnm⟩ := id X.1
  exact lv_if_lt hx hb hd ht (fun h => kt h p e R s m args below meth c A Z H locs ls X hH hL) (fun h => kf h p e R s m args below meth c A Z H locs ls X hH hL)
theorem k_icmp_lt {x y : Int32} {off : Int} {tgt : Nat} (hd : decode M.2.1 pc = .ok (.if_icmp .lt off, 3)) (ht : (pc : Int) + off = (tgt : Int)) (kt : x < y → am_K B d M mc ms Q tgt lo st ws nc ns) (kf : ¬ x < y → am_K B d M mc ms Q (pc + 3) lo st ws nc ns) : am_K B d M mc ms Q pc lo (.int y :: .int x :: st) ws nc ns := by
  intro p e R s m args below meth c A Z H locs ls X hH hL
  obtain ⟨hx, hb, hr, hml, hown, hts, hlocks, hnm⟩ := id X.1
  exact lv_icmp_lt hx hb hd ht (fun h => kt h p e R s m args below meth c A Z H locs ls X hH hL) (fun h => kf h p e R s m args below meth c A Z H locs ls X hH hL)
theorem k_if_ge {x : Int32} {off : Int} {tgt : Nat} (hd : decode M.2.1 pc = .ok (.ifCond .ge off, 3)) (ht : (pc : Int) + off = (tgt : Int)) (kt : 0 ≤ x → am_K B d M mc ms Q tgt lo st ws nc ns) (kf : ¬ 0 ≤ x → am_K B d M mc ms Q (pc + 3) lo st ws nc ns) : am_K B d M mc ms Q pc lo (.int x :: st) ws nc ns := by
  intro p e R s m args below meth c A Z H locs ls X hH hL
  obtain ⟨hx, hb, hr, hml, hown, hts, hlocks, hnm⟩ := id X.1
  exact lv_if_ge hx hb hd ht (fun h => kt h p e R s m args below meth c A Z H locs ls X hH hL) (fun h => kf h p e R s m args below meth c A Z H locs ls X hH hL)
theorem k_icmp_ge {x y : Int32} {off : Int} {tgt : Nat} (hd : decode M.2.1 pc = .ok (.if_icmp .ge off, 3)) (ht : (pc : Int) + off = (tgt : Int)) (kt : y ≤ x → am_K B d M mc ms Q tgt lo st ws nc ns) (kf : ¬ y ≤ x → am_K B d M mc ms Q (pc + 3) lo st ws nc ns) : am_K B d M mc ms Q pc lo (.int y :: .int x :: st) ws nc ns := by
  intro p e R s m args below meth c A Z H locs ls X hH hL
  obtain ⟨hx, hb, hr, hml, hown, hts, hlocks, hnm⟩ := id X.1
  exact lv_icmp_ge hx hb hd ht (fun h => kt h p e R s m args below meth c A Z H locs ls X hH hL) (fun h => kf h p e R s m args below meth c A Z H locs ls X hH hL)
theorem k_if_gt {x : Int32} {off : Int} {tgt : Nat} (hd : decode M.2.1 pc = .ok (.ifCond .gt off, 3)) (ht : (pc : Int) + off = (tgt : Int)) (kt : 0 < x → am_K B d M mc ms Q tgt lo st ws nc ns) (kf : ¬ 0 < x → am_K B d M mc ms Q (pc + 3) lo st ws nc ns) : am_K B d M mc ms Q pc lo (.int x :: st) ws nc ns := by
  intro p e R s m args below meth c A Z H locs ls X hH hL
  obtain ⟨hx, hb, hr, hml, hown, hts, hlocks, hnm⟩ := id X.1
  exact lv_if_gt hx hb hd ht (fun h => kt h p e R s m args below meth c A Z H locs ls X hH hL) (fun h => kf h p e R s m args below meth c A Z H locs ls X hH hL)
theorem k_icmp_gt {x y : Int32} {off : Int} {tgt : Nat} (hd : decode M.2.1 pc = .ok (.if_icmp .gt off, 3)) (ht : (pc : Int) + off = (tgt : Int)) (kt : y < x → am_K B d M mc ms Q tgt lo st ws nc ns) (kf : ¬ y < x → am_K B d M mc ms Q (pc + 3) lo st ws nc ns) : am_K B d M mc ms Q pc lo (.int y :: .int x :: st) ws nc ns := by
  intro p e R s m args below meth c A Z H locs ls X hH hL
  obtain ⟨hx, hb, hr, hml, hown, hts, hlocks, hnm⟩ := id X.1
  exact lv_icmp_gt hx hb hd ht (fun h => kt h p e R s m args below meth c A Z H locs ls X hH hL) (fun h => kf h p e R s m args below meth c A Z H locs ls X hH hL)
theorem k_if_le {x : Int32} {off : Int} {tgt : Nat} (hd : decode M.2.1 pc = .ok (.ifCond .le off, 3)) (ht : (pc : Int) + off = (tgt : Int)) (kt : x ≤ 0 → am_K B d M mc ms Q tgt lo st ws nc ns) (kf : ¬ x ≤ 0 → am_K B d M mc ms Q (pc + 3) lo st ws nc ns) : am_K B d M mc ms Q pc lo (.int x :: st) ws nc ns := by
  intro p e R s m args below meth c A Z H locs ls X hH hL
  obtain ⟨hx, hb, hr, hml, hown, hts, hlocks, hnm⟩ := id X.1
  exact lv_if_le hx hb hd ht (fun h => kt h p e R s m args below meth c A Z H locs ls X hH hL) (fun h => kf h p e R s m args below meth c A Z H locs ls X hH hL)
theorem k_icmp_le {x y : Int32} {off : Int} {tgt : Nat} (hd : decode M.2.1 pc = .ok (.if_icmp .le off, 3)) (ht : (pc : Int) + off = (tgt : Int)) (kt : x ≤ y → am_K B d M mc ms Q tgt lo st ws nc ns) (kf : ¬ x ≤ y → am_K B d M mc ms Q (pc + 3) lo st ws nc ns) : am_K B d M mc ms Q pc lo (.int y :: .int x :: st) ws nc ns := by
  intro p e R s m args below meth c A Z H locs ls X hH hL
  obtain ⟨hx, hb, hr, hml, hown, hts, hlocks, hnm⟩ := id X.1
  exact lv_icmp_le hx hb hd ht (fun h => kt h p e R s m args below meth c A Z H locs ls X hH hL) (fun h => kf h p e R s m args below meth c A Z H locs ls X hH hL)
theorem k_goto {off : Int} {tgt : Nat} (hd : decode M.2.1 pc = .ok (.goto off, 3)) (ht : (pc : Int) + off = (tgt : Int)) (hk : am_K B d M mc ms Q tgt lo st ws nc ns) : am_K B d M mc ms Q pc lo st ws nc ns := by
  intro p e R s m args below meth c A Z H locs ls X hH hL
  obtain ⟨hx, hb, hr, hml, hown, hts, hlocks, hnm⟩ := id X.1
  exact lv_goto hx hb hd ht (hk p e R s m args below meth c A Z H locs ls X hH hL)
theorem k_tabIn {dflt lw hi : Int} {offs : Array Int} {len : Nat} {x : Int32} {off : Int} {tgt : Nat} (hd : decode M.2.1 pc = .ok (.tableswitch dflt lw hi offs, len)) (h1 : ¬ x.toInt < lw) (h2 : ¬ hi < x.toInt) (ho : offs[(x.toInt - lw).toNat]? = some off) (ht : (pc : Int) + off = (tgt : Int)) (hk : am_K B d M mc ms Q tgt lo st ws nc ns) : am_K B d M mc ms Q pc lo (.int x :: st) ws nc ns := by
  intro p e R s m args below meth c A Z H locs ls X hH hL
  obtain ⟨hx, hb, hr, hml, hown, hts, hlocks, hnm⟩ := id X.1
  exact lv_tableIn hx hb hd h1 h2 ho ht (hk p e R s m args below meth c A Z H locs ls X hH hL)
theorem k_tabOut {dflt lw hi : Int} {offs : Array Int} {len : Nat} {x : Int32} {tgt : Nat} (hd : decode M.2.1 pc = .ok (.tableswitch dflt lw hi offs, len)) (h : x.toInt < lw ∨ hi < x.toInt) (ht : (pc : Int) + dflt = (tgt : Int)) (hk : am_K B d M mc ms Q tgt lo st ws nc ns) : am_K B d M mc ms Q pc lo (.int x :: st) ws nc ns := by
  intro p e R s m args below meth c A Z H locs ls X hH hL
  obtain ⟨hx, hb, hr, hml, hown, hts, hlocks, hnm⟩ := id X.1
  exact lv_tableOut hx hb hd h ht (hk p e R s m args below meth c A Z H locs ls X hH hL)
theorem k_dup {x : Value} (hd : decode M.2.1 pc = .ok (.dup, 1)) (hc : x.category = 1) (hk : am_K B d M mc ms Q (pc + 1) lo (x :: x :: st) ws nc ns) : am_K B d M mc ms Q pc lo (x :: st) ws nc ns := by
  intro p e R s m args below meth c A Z H locs ls X hH hL
  obtain ⟨hx, hb, hr, hml, hown, hts, hlocks, hnm⟩ := id X.1
  exact lv_dup hx hb hd hc (hk p e R s m args below meth c A Z H locs ls X hH hL)
theorem k_pop {x : Value} (hd : decode M.2.1 pc = .ok (.pop, 1)) (hc : x.category = 1) (hk : am_K B d M mc ms Q (pc + 1) lo st ws nc ns) : am_K B d M mc ms Q pc lo (x :: st) ws nc ns := by
  intro p e R s m args below meth c A Z H locs ls X hH hL
  obtain ⟨hx, hb, hr, hml, hown, hts, hlocks, hnm⟩ := id X.1
  exact lv_pop hx hb hd hc (hk p e R s m args below meth c A Z H locs ls X hH hL)
theorem k_i2l {x : Int32} (hd : decode M.2.1 pc = .ok (.i2l, 1)) (hk : am_K B d M mc ms Q (pc + 1) lo (.long x.toInt64 :: st) ws nc ns) : am_K B d M mc ms Q pc lo (.int x :: st) ws nc ns := by
  intro p e R s m args below meth c A Z H locs ls X hH hL
  obtain ⟨hx, hb, hr, hml, hown, hts, hlocks, hnm⟩ := id X.1
  exact lv_i2l hx hb hd rfl (hk p e R s m args below meth c A Z H locs ls X hH hL)
/-- an array's class is the one of its name -/
theorem k_same {U : State} {a b : ClassId} {ty : FieldType} (h1 : va_RA U a ty) (h2 : va_RA U b ty) : a = b := by
  cases ty with
  | object C =>
    obtain ⟨_, _, _, _, _, f⟩ := h1
    obtain ⟨_, _, _, _, _, g⟩ := h2
    exact Option.some.inj (f.symm.trans g)
  | _ => exact Option.some.inj (h1.symm.trans h2)
theorem k_newI {n : Int32} {N' : Nat} (hd : decode M.2.1 pc = .ok (.newarray .int, 2)) (harr : Cond.arrayClass .int ∈ am_T) (hn : ¬ n < 0) (hN : n.toNatClampNeg = N') (hby : N' * componentBytes .int ≤ 536870912) (hc : nc + 1 ≤ mc) (hs : ns + N' ≤ ms)
    (hk : ∀ q : Nat, am_K B d M mc ms Q (pc + 2) lo (.ref q :: st) (ws ++ [(q, .inl (B.2.1.1, N', .inl (fun _ => 0)))]) (nc + 1) (ns + N')) : am_K B d M mc ms Q pc lo (.int n :: st) ws nc ns := by
  intro p e R s m args below meth c A Z H locs ls X hH hL
  obtain ⟨hx, hb, hr, hml, hown, hts, hlocks, hnm⟩ := id X.1
  refine va_newa (atype := .int) hx hb (hts _ harr) (ty := .int) rfl X.2.1.2.1 hH.1 hH.2.1 hH.2.2 X.2.1.1 (a0 := (N', .inl (fun _ => 0))) (fun _ => rfl) hn hN hby (Nat.le_trans hc X.2.2.1.2.2.1) (Nat.le_trans hs X.2.2.1.2.2.2) hd (fun q cA H1 hK' hP hD hS => ?_)
  obtain rfl := k_same (hK'.2 4 _ rfl).2 ((X.2.1.2.1).2 0 _ rfl).2
  exact hk q p e R s m args below meth c A Z H1 locs ls X ⟨hP, hD, hS⟩ hL
theorem k_newZ {n : Int32} {N' : Nat} (hd : decode M.2.1 pc = .ok (.newarray .boolean, 2)) (harr : Cond.arrayClass .boolean ∈ am_T) (hn : ¬ n < 0) (hN : n.toNatClampNeg = N') (hby : N' * componentBytes .boolean ≤ 536870912) (hc : nc + 1 ≤ mc) (hs : ns + N' ≤ ms)
    (hk : ∀ q : Nat, am_K B d M mc ms Q (pc + 2) lo (.ref q :: st) (ws ++ [(q, .inl (B.2.1.2.1, N', .inl (fun _ => 0)))]) (nc + 1) (ns + N')) : am_K B d M mc ms Q pc lo (.int n :: st) ws nc ns := by
  intro p e R s m args below meth c A Z H locs ls X hH hL
  obtain ⟨hx, hb, hr, hml, hown, hts, hlocks, hnm⟩ := id X.1
  refine va_newa (atype := .boolean) hx hb (hts _ harr) (ty := .boolean) rfl X.2.1.2.1 hH.1 hH.2.1 hH.2.2 X.2.1.1 (a0 := (N', .inl (fun _ => 0))) (fun _ => rfl) hn hN hby (Nat.le_trans hc X.2.2.1.2.2.1) (Nat.le_trans hs X.2.2.1.2.2.2) hd (fun q cA H1 hK' hP hD hS => ?_)
  obtain rfl := k_same (hK'.2 4 _ rfl).2 ((X.2.1.2.1).2 1 _ rfl).2
  exact hk q p e R s m args below meth c A Z H1 locs ls X ⟨hP, hD, hS⟩ hL
theorem k_newL {n : Int32} {N' : Nat} (hd : decode M.2.1 pc = .ok (.newarray .long, 2)) (harr : Cond.arrayClass .long ∈ am_T) (hn : ¬ n < 0) (hN : n.toNatClampNeg = N') (hby : N' * componentBytes .long ≤ 536870912) (hc : nc + 1 ≤ mc) (hs : ns + N' ≤ ms)
    (hk : ∀ q : Nat, am_K B d M mc ms Q (pc + 2) lo (.ref q :: st) (ws ++ [(q, .inl (B.2.2, N', .inr (.inl (fun _ => 0))))]) (nc + 1) (ns + N')) : am_K B d M mc ms Q pc lo (.int n :: st) ws nc ns := by
  intro p e R s m args below meth c A Z H locs ls X hH hL
  obtain ⟨hx, hb, hr, hml, hown, hts, hlocks, hnm⟩ := id X.1
  refine va_newa (atype := .long) hx hb (hts _ harr) (ty := .long) rfl X.2.1.2.1 hH.1 hH.2.1 hH.2.2 X.2.1.1 (a0 := (N', .inr (.inl (fun _ => 0)))) (fun _ => rfl) hn hN hby (Nat.le_trans hc X.2.2.1.2.2.1) (Nat.le_trans hs X.2.2.1.2.2.2) hd (fun q cA H1 hK' hP hD hS => ?_)
  obtain rfl := k_same (hK'.2 4 _ rfl).2 ((X.2.1.2.1).2 3 _ rfl).2
  exact hk q p e R s m args below meth c A Z H1 locs ls X ⟨hP, hD, hS⟩ hL
/-- what 'new C' needs of the words; fs: the fresh fields -/
def k_nk (own : String) (idx ci N : Nat) (fs : List Value) : Prop := ∃ (C : String) (T : u_T) (ty : Nat → FieldType), vwCl[ci]? = some (C, T, N) ∧ (∀ w ∈ u_ws C T N, w ∈ am_T) ∧ (∀ k, k < N → parseFieldDescriptor (T k).2.2.1 = some (ty k)) ∧ Cond.classLink own idx C ∈ am_T ∧ Cond.instantiable C N ∈ am_T ∧ Cond.initialized C ∈ am_T ∧ ∀ j, j < N → defaultValue (ty j) = vp_V fs j
theorem k_new {idx ci N : Nat} {fs : List Value} (hd : decode M.2.1 pc = .ok (.new idx, 3)) (hn : k_nk M.1.cls idx ci N fs) (hc : nc + 1 ≤ mc) (hs : ns + N ≤ ms)
    (hk : ∀ q : Nat, am_K B d M mc ms Q (pc + 3) lo (.ref q :: st) (ws ++ [(q, .inr (ci, fs))]) (nc + 1) (ns + N)) : am_K B d M mc ms Q pc lo st ws nc ns := by
  intro p e R s m args below meth c A Z H locs ls X hH hL
  obtain ⟨hx, hb, hr, hml, hown, hts, hlocks, hnm⟩ := id X.1
  obtain ⟨C, T, ty, h1, h2, h3, h4, h5, h6, h7⟩ := hn
  exact va_new hx hb hts h2 ty h3 hown (hts _ h4) (hts _ h5) (hts _ h6) X.2.1.2.1 hH.1 hH.2.1 hH.2.2 X.2.1.1 h1 h7 (Nat.le_trans hc X.2.2.1.2.2.1) (Nat.le_trans hs X.2.2.1.2.2.2) hd (fun q H1 hP hD hS => hk q p e R s m args below meth c A Z H1 locs ls X ⟨hP, hD, hS⟩ hL)
/-- a final field of the class itself -/
def k_ff (own : String) (idx ci k : Nat) (ty : FieldType) : Prop := ∃ (C : String) (T : u_T) (N : Nat) (ty0 : Nat → FieldType), vwCl[ci]? = some (C, T, N) ∧ (∀ w ∈ u_ws C T N, w ∈ am_T) ∧ k < N ∧ Cond.fieldLink own idx (T k).1 (T k).2.1 (T k).2.2.1 ∈ am_T ∧ (∀ a, a < N → ∀ b, b < N → a ≠ b → (T a).2.1 ≠ (T b).2.1) ∧ (∀ k, k < N → parseFieldDescriptor (T k).2.2.1 = some (ty0 k)) ∧ (T k).2.2.2 = true ∧ (T k).1 = own ∧ parseFieldDescriptor (T k).2.2.1 = some ty
theorem k_putF {idx ci k a : Nat} {fs : List Value} {v : Value} {ty : FieldType} {w0 : va_W} (hd : decode M.2.1 pc = .ok (.putfield idx, 3)) (hf : k_ff M.1.cls idx ci k ty) (hni : M.1.name = "<init>") (hn : narrow ty v = v) (hfit : fits ty v = true) (hl : k < fs.length)
    (hk : am_K B d M mc ms Q (pc + 3) lo st ((a, .inr (ci, fs.set k v)) :: w0) nc ns) : am_K B d M mc ms Q pc lo (v :: .ref a :: st) ((a, .inr (ci, fs)) :: w0) nc ns := by
  intro p e R s m args below meth c A Z H locs ls X hH hL
  obtain ⟨hx, hb, hr, hml, hown, hts, hlocks, hnm⟩ := id X.1
  obtain ⟨C, T, N, ty0, h1, h2, h3, h4, h6, h7, h8, h9, h10⟩ := hf
  exact va_putF hx hb hts h2 ty0 h7 h6 hown X.2.1.2.1 hH.1 hH.2.1 hH.2.2 0 rfl h1 k h3 (hts _ h4) (fun _ h => h) h8 (hnm.trans hni) h9 h10 hn hfit hl hd (fun H1 locs1 hP hD hS => hk p e R s m args below meth c A Z H1 locs1 ls X ⟨hP, hD, hS⟩ hL)
theorem k_put {idx j k a : Nat} {fs : List Value} {v : Value} {ty : FieldType} {w0 : va_W} (hd : decode M.2.1 pc = .ok (.putfield idx, 3)) (hf : am_fp M.1.cls idx j k ty) (hn : narrow ty v = v) (hfit : fits ty v = true) (hl : k < fs.length)
    (hk : am_K B d M mc ms Q (pc + 3) lo st ((a, .inr (am_ci j, fs.set k v)) :: w0) nc ns) : am_K B d M mc ms Q pc lo (v :: .ref a :: st) ((a, .inr (am_ci j, fs)) :: w0) nc ns := by
  intro p e R s m args below meth c A Z H locs ls X hH hL
  obtain ⟨hx, hb, hr, hml, hown, hts, hlocks, hnm⟩ := id X.1
  obtain ⟨C, T, N, ty0, h1, h2, h3, h4, h5, h6, h7, h8, h9⟩ := hf
  exact va_put hx hb hts h2 ty0 h7 h6 hown X.2.1.2.1 hH.1 hH.2.1 hH.2.2 0 rfl h1 k h3 (hts _ h4) (fun _ h => h) h8 h9 hn hfit hl hd (fun H1 locs1 hP hD hS => hk p e R s m args below meth c A Z H1 locs1 ls X ⟨hP, hD, hS⟩ hL)
theorem k_get {idx j k a : Nat} {fs : List Value} {v : Value} {w0 : va_W} (hd : decode M.2.1 pc = .ok (.getfield idx, 3)) (hf : am_fl M.1.cls idx j k) (hv : fs[k]? = some v)
    (hk : am_K B d M mc ms Q (pc + 3) lo (v :: st) ((a, .inr (am_ci j, fs)) :: w0) nc ns) : am_K B d M mc ms Q pc lo (.ref a :: st) ((a, .inr (am_ci j, fs)) :: w0) nc ns := by
  intro p e R s m args below meth c A Z H locs ls X hH hL
  obtain ⟨hx, hb, hr, hml, hown, hts, hlocks, hnm⟩ := id X.1
  obtain ⟨C, T, N, h1, h2, h3, h4, h5⟩ := hf
  exact va_get hx hb hts h2 hown X.2.1.2.1 hH.1 0 rfl h1 k h3 (hts _ h4) (fun _ h => h) hv hd (hk p e R s m args below meth c A Z H locs ls X hH hL)
theorem k_iast {q0 a n b : Nat} {x y : Int32} {f : Nat → Int32} (hd : decode M.2.1 pc = .ok (.iastore, 1)) (hw : ws[q0]? = some (a, .inl (B.2.1.1, n, .inl f))) (hxa : x = nI b) (ha : b < n) (h31 : n < 2 ^ 31)
    (hk : am_K B d M mc ms Q (pc + 1) lo st (ws.set q0 (a, .inl (B.2.1.1, n, .inl (upd f b y)))) nc ns) : am_K B d M mc ms Q pc lo (.int y :: .int x :: .ref a :: st) ws nc ns := by
  intro p e R s m args below meth c A Z H locs ls X hH hL
  obtain ⟨hx, hb, hr, hml, hown, hts, hlocks, hnm⟩ := id X.1
  subst hxa
  refine va_iast hx hb X.2.1.2.1 hH.1 hH.2.1 hH.2.2 q0 0 hw rfl (vp_in_nI ha h31) hd (fun H1 locs1 hP hD hS => ?_)
  rw [nI_clamp (Nat.lt_trans ha h31)] at hP hD
  exact hk p e R s m args below meth c A Z H1 locs1 ls X ⟨hP, hD, hS⟩ hL
theorem k_newQ {idx N' : Nat} {n : Int32} (hd : decode M.2.1 pc = .ok (.anewarray idx, 3)) (hcl : Cond.classLink M.1.cls idx RX7 ∈ am_T) (hn : ¬ n < 0) (hN : n.toNatClampNeg = N') (hby : N' * 4 ≤ 536870912) (hc : nc + 1 ≤ mc) (hs : ns + N' ≤ ms)
    (hk : ∀ q : Nat, am_K B d M mc ms Q (pc + 3) lo (.ref q :: st) (ws ++ [(q, .inl (B.2.1.2.2, N', .inr (.inr (.inr (.inr (fun _ => none))))))]) (nc + 1) (ns + N')) : am_K B d M mc ms Q pc lo (.int n :: st) ws nc ns := by
  intro p e R s m args below meth c A Z H locs ls X hH hL
  obtain ⟨hx, hb, hr, hml, hown, hts, hlocks, hnm⟩ := id X.1
  refine va_newq hx hb hown (hts _ hcl) X.2.1.2.2.1 X.2.1.2.1 hH.1 hH.2.1 hH.2.2 X.2.1.1 hn hN hby (Nat.le_trans hc X.2.2.1.2.2.1) (Nat.le_trans hs X.2.2.1.2.2.2) hd (fun q cA H1 hK' hP hD hS => ?_)
  obtain rfl := k_same (hK'.2 4 _ rfl).2 ((X.2.1.2.1).2 2 _ rfl).2
  exact hk q p e R s m args below meth c A Z H1 locs ls X ⟨hP, hD, hS⟩ hL
theorem k_astQ {q0 a n b v : Nat} {x : Int32} {f : Nat → Option Nat} {vs : List Value} (hd : decode M.2.1 pc = .ok (.aastore, 1)) (hw : ws[q0]? = some (a, .inl (B.2.1.2.2, n, .inr (.inr (.inr (.inr f)))))) (hv : (v, .inr (7, vs)) ∈ ws) (hxa : x = nI b) (ha : b < n) (h31 : n < 2 ^ 31)
    (hk : am_K B d M mc ms Q (pc + 1) lo st (ws.set q0 (a, .inl (B.2.1.2.2, n, .inr (.inr (.inr (.inr (va_up f b (some v)))))))) nc ns) : am_K B d M mc ms Q pc lo (.ref v :: .int x :: .ref a :: st) ws nc ns := by
  intro p e R s m args below meth c A Z H locs ls X hH hL
  obtain ⟨hx, hb, hr, hml, hown, hts, hlocks, hnm⟩ := id X.1
  subst hxa
  obtain ⟨qk, hqk⟩ := List.getElem?_of_mem hv
  refine va_astq (r := (RX7, TX7, 7)) hx hb X.2.1.2.1 hH.1 hH.2.1 hH.2.2 q0 2 qk 7 hw rfl hqk rfl (vp_in_nI ha h31) hd (fun H1 locs1 hP hD hS => ?_)
  rw [nI_clamp (Nat.lt_trans ha h31)] at hP hD
  exact hk p e R s m args below meth c A Z H1 locs1 ls X ⟨hP, hD, hS⟩ hL
theorem k_aaldQ {q0 a n b v : Nat} {x : Int32} {f : Nat → Option Nat} (hd : decode M.2.1 pc = .ok (.aaload, 1)) (hw : ws[q0]? = some (a, .inl (B.2.1.2.2, n, .inr (.inr (.inr (.inr f)))))) (hxa : x = nI b) (ha : b < n) (h31 : n < 2 ^ 31) (hf : f b = some v)
    (hk : am_K B d M mc ms Q (pc + 1) lo (.ref v :: st) ws nc ns) : am_K B d M mc ms Q pc lo (.int x :: .ref a :: st) ws nc ns := by
  intro p e R s m args below meth c A Z H locs ls X hH hL
  obtain ⟨hx, hb, hr, hml, hown, hts, hlocks, hnm⟩ := id X.1
  subst hxa
  refine va_aldq hx hb X.2.1.2.1 hH.1 q0 2 hw rfl (vp_in_nI ha h31) hd ?_
  rw [nI_clamp (Nat.lt_trans ha h31), hf]
  exact hk p e R s m args below meth c A Z H locs ls X hH hL
theorem k_obj {idx a : Nat} (hd : decode M.2.1 pc = .ok (.invokespecial idx, 3)) (hl : Cond.methodLink M.1.cls idx objectInit ∈ am_T) (hi : Cond.instanceMethod objectInit ∈ am_T) (hc : Cond.code objectInit ⟨#[0xb1]⟩ 1 none ∈ am_T) (h1 : 1 ≤ d) (hst : st = [])
    (hk : am_K B d M mc ms Q (pc + 3) lo st ws nc ns) : am_K B d M mc ms Q pc lo (.ref a :: st) ws nc ns := by
  intro p e R s m args below meth c A Z H locs ls X hH hL
  obtain ⟨hx, hb, hr, hml, hown, hts, hlocks, hnm⟩ := id X.1
  subst hst
  refine W.objInit hx hb hown (hts _ hl) (hts _ hi) (hts _ hc) rfl (by rw [hml]; exact hL.1) rfl hd ?_ ?_ ?_
  · have := X.2.2.1.1
    show 1 ≤ R.frames
    omega
  · have := X.2.2.1.2.1
    show 12 ≤ R.locals
    omega
  · refine W.eq (g2 := F0 m (pc + 3) ls []) rfl ?_
    exact hk p e R s m args below meth c A Z H locs ls X hH hL
theorem k_vret (hd : decode M.2.1 pc = .ok (.return_, 1)) (ht : M.2.2.2 = none) (hnc : nc = mc) (hns : ns = ms) (hq : Q none ws) : am_K B d M mc ms Q pc lo [] ws nc ns := by
  intro p e R s m args below meth c A Z H locs ls X hH hL
  obtain ⟨hx, hb, hr, hml, hown, hts, hlocks, hnm⟩ := id X.1
  subst hnc hns
  exact X.2.2.2 none ws H locs _ (by rw [ht]; rfl) hq hH (W.vret hx hb (hr.trans ht) (fun t ht hW => ⟨rfl, ht, hW⟩) hH.2.2.2.2 hd hlocks)
theorem k_iret {v : Int32} {ty : FieldType} (hd : decode M.2.1 pc = .ok (.ireturn, 1)) (ht : M.2.2.2 = some ty) (hn : narrow ty (.int v) = .int v) (hnc : nc = mc) (hns : ns = ms) (hq : Q (some v) ws) : am_K B d M mc ms Q pc lo [.int v] ws nc ns := by
  intro p e R s m args below meth c A Z H locs ls X hH hL
  obtain ⟨hx, hb, hr, hml, hown, hts, hlocks, hnm⟩ := id X.1
  subst hnc hns
  exact X.2.2.2 (some v) ws H locs _ (by rw [ht]; rfl) hq hH (W.zret hx hb (hr.trans ht) hn (fun t ht hW => ⟨rfl, ht, hW⟩) hH.2.2.2.2 hd hlocks)
end KR
