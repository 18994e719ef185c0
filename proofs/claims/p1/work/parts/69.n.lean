/-- a body's own context -/
abbrev n_E : Type := Program → Env → Room → State → MethodId → Array Value → List Frame → Method → Code → (Nat → Prop) → (State → Prop) → Prop
def n_X (B : k_B) (d : Nat) (M : am_M) (mc ms : Nat) (p : Program) (e : Env) (R : Room) (s : State) (m : MethodId) (args : Array Value) (below : List Frame) (meth : Method) (c : Code) (A : Nat → Prop) (Z : State → Prop) (E : n_E) : Prop :=
  (p.tables.exec = Jvm.exec ∧ c.code = M.2.1 ∧ meth.sig.returnType = M.2.2.2 ∧ c.maxLocals = M.2.2.1 ∧ s.vm.findClass M.1.cls = some m.cls ∧ (∀ w ∈ am_T, w.before args s = true) ∧ meth.locks = false ∧ True) ∧
  ((∀ q : Nat, s.heap.size ≤ q → A q) ∧ va_K B.1.2 vwCl (k_tys B) s ∧ k_N B s ∧ (∀ w ∈ am_nw, va_Nw w s)) ∧
  (d ≤ R.frames ∧ 41 * d ≤ R.locals ∧ mc ≤ R.cells ∧ ms ≤ R.slots) ∧ E p e R s m args below meth c A Z
/-- THE JUDGEMENT -/
def am_N (B : k_B) (d : Nat) (M : am_M) (mc ms : Nat) (E : n_E) (pc : Nat) (lo : List (Option am_V)) (st : List Value) (ws : va_W) (nc ns : Nat) : Prop :=
  ∀ (p : Program) (e : Env) (R : Room) (s : State) (m : MethodId) (args : Array Value) (below : List Frame) (meth : Method) (c : Code) (A : Nat → Prop) (Z : State → Prop) (H : Heap) (locs : List Loc) (ls : Array Slot),
    n_X B d M mc ms p e R s m args below meth c A Z E → k_H B A s H locs ws → am_L (k_G B) M ls lo → W p B.1.1 e R s m args below meth c H locs nc ns Z (F0 m pc ls st)
section NR
variable {B : k_B} {d : Nat} {M : am_M} {mc ms : Nat} {E : n_E} {pc : Nat} {lo : List (Option am_V)} {st : List Value} {ws : va_W} {nc ns : Nat}
theorem n_iconst {z : Int} {v : Int32} (hd : decode M.2.1 pc = .ok (.iconst z, 1)) (hv : Int32.ofInt z = v) (hk : am_N B d M mc ms E (pc + 1) lo (.int v :: st) ws nc ns) : am_N B d M mc ms E pc lo st ws nc ns := by
  intro p e R s m args below meth c A Z H locs ls X hH hL
  obtain ⟨hx, hb, hr, hml, hown, hts, hlocks, hnm⟩ := id X.1
  exact lv_iconst hx hb hd hv (hk p e R s m args below meth c A Z H locs ls X hH hL)
theorem n_bipush {z : Int} {v : Int32} (hd : decode M.2.1 pc = .ok (.bipush z, 2)) (hv : (Int8.ofInt z).toInt32 = v) (hk : am_N B d M mc ms E (pc + 2) lo (.int v :: st) ws nc ns) : am_N B d M mc ms E pc lo st ws nc ns := by
  intro p e R s m args below meth c A Z H locs ls X hH hL
  obtain ⟨hx, hb, hr, hml, hown, hts, hlocks, hnm⟩ := id X.1
  exact lv_bipush hx hb hd hv (hk p e R s m args below meth c A Z H locs ls X hH hL)
theorem n_sipush {z : Int} {v : Int32} (hd : decode M.2.1 pc = .ok (.sipush z, 3)) (hv : (Int16.ofInt z).toInt32 = v) (hk : am_N B d M mc ms E (pc + 3) lo (.int v :: st) ws nc ns) : am_N B d M mc ms E pc lo st ws nc ns := by
  intro p e R s m args below meth c A Z H locs ls X hH hL
  obtain ⟨hx, hb, hr, hml, hown, hts, hlocks, hnm⟩ := id X.1
  exact lv_sipush hx hb hd hv (hk p e R s m args below meth c A Z H locs ls X hH hL)
theorem n_iload_n {k : Fin 4} {x : Int32} (hd : decode M.2.1 pc = .ok (.iload_n k, 1)) (hl : lo[(k : Nat)]? = some (some (.inl x))) (hk : am_N B d M mc ms E (pc + 1) lo (.int x :: st) ws nc ns) : am_N B d M mc ms E pc lo st ws nc ns := by
  intro p e R s m args below meth c A Z H locs ls X hH hL
  obtain ⟨hx, hb, hr, hml, hown, hts, hlocks, hnm⟩ := id X.1
  exact lv_iload_n hx hb hd rfl (hL.2.2.2 _ _ hl) (hk p e R s m args below meth c A Z H locs ls X hH hL)
theorem n_iload {k : Nat} {x : Int32} (hd : decode M.2.1 pc = .ok (.iload k, 2)) (hl : lo[k]? = some (some (.inl x))) (hk : am_N B d M mc ms E (pc + 2) lo (.int x :: st) ws nc ns) : am_N B d M mc ms E pc lo st ws nc ns := by
  intro p e R s m args below meth c A Z H locs ls X hH hL
  obtain ⟨hx, hb, hr, hml, hown, hts, hlocks, hnm⟩ := id X.1
  exact lv_iload hx hb hd (hL.2.2.2 _ _ hl) (hk p e R s m args below meth c A Z H locs ls X hH hL)
theorem n_istore_n {k : Fin 4} {x : Int32} (hd : decode M.2.1 pc = .ok (.istore_n k, 1)) (hn : (k : Nat) < M.2.2.1) (hk : am_N B d M mc ms E (pc + 1) (lo.set (k : Nat) (some (.inl x))) st ws nc ns) : am_N B d M mc ms E pc lo (.int x :: st) ws nc ns := by
  intro p e R s m args below meth c A Z H locs ls X hH hL
  obtain ⟨hx, hb, hr, hml, hown, hts, hlocks, hnm⟩ := id X.1
  exact lv_istore_n hx hb hd rfl hL.has hn rfl (fun ls' hl' => hk p e R s m args below meth c A Z H locs ls' X hH (hL.store (v := .inl x) hl'))
theorem n_istore {k : Nat} {x : Int32} (hd : decode M.2.1 pc = .ok (.istore k, 2)) (hn : k < M.2.2.1) (hk : am_N B d M mc ms E (pc + 2) (lo.set k (some (.inl x))) st ws nc ns) : am_N B d M mc ms E pc lo (.int x :: st) ws nc ns := by
  intro p e R s m args below meth c A Z H locs ls X hH hL
  obtain ⟨hx, hb, hr, hml, hown, hts, hlocks, hnm⟩ := id X.1
  exact lv_istore hx hb hd hL.has hn rfl (fun ls' hl' => hk p e R s m args below meth c A Z H locs ls' X hH (hL.store (v := .inl x) hl'))
theorem n_aload_n {k : Fin 4} {x : Nat} (hd : decode M.2.1 pc = .ok (.aload_n k, 1)) (hl : lo[(k : Nat)]? = some (some (.inr (x, 0)))) (hk : am_N B d M mc ms E (pc + 1) lo (.ref x :: st) ws nc ns) : am_N B d M mc ms E pc lo st ws nc ns := by
  intro p e R s m args below meth c A Z H locs ls X hH hL
  obtain ⟨hx, hb, hr, hml, hown, hts, hlocks, hnm⟩ := id X.1
  exact lv_aload_n hx hb hd rfl (hL.2.2.2 _ _ hl) (hk p e R s m args below meth c A Z H locs ls X hH hL)
theorem n_aload {k : Nat} {x : Nat} (hd : decode M.2.1 pc = .ok (.aload k, 2)) (hl : lo[k]? = some (some (.inr (x, 0)))) (hk : am_N B d M mc ms E (pc + 2) lo (.ref x :: st) ws nc ns) : am_N B d M mc ms E pc lo st ws nc ns := by
  intro p e R s m args below meth c A Z H locs ls X hH hL
  obtain ⟨hx, hb, hr, hml, hown, hts, hlocks, hnm⟩ := id X.1
  exact lv_aload hx hb hd (hL.2.2.2 _ _ hl) (hk p e R s m args below meth c A Z H locs ls X hH hL)
theorem n_astore_n {k : Fin 4} {x : Nat} (hd : decode M.2.1 pc = .ok (.astore_n k, 1)) (hn : (k : Nat) < M.2.2.1) (hk : am_N B d M mc ms E (pc + 1) (lo.set (k : Nat) (some (.inr (x, 0)))) st ws nc ns) : am_N B d M mc ms E pc lo (.ref x :: st) ws nc ns := by
  intro p e R s m args below meth c A Z H locs ls X hH hL
  obtain ⟨hx, hb, hr, hml, hown, hts, hlocks, hnm⟩ := id X.1
  exact lv_astore_n hx hb hd rfl hL.has hn rfl (fun ls' hl' => hk p e R s m args below meth c A Z H locs ls' X hH (hL.store (v := .inr (x, 0)) hl'))
theorem n_astore {k : Nat} {x : Nat} (hd : decode M.2.1 pc = .ok (.astore k, 2)) (hn : k < M.2.2.1) (hk : am_N B d M mc ms E (pc + 2) (lo.set k (some (.inr (x, 0)))) st ws nc ns) : am_N B d M mc ms E pc lo (.ref x :: st) ws nc ns := by
  intro p e R s m args below meth c A Z H locs ls X hH hL
  obtain ⟨hx, hb, hr, hml, hown, hts, hlocks, hnm⟩ := id X.1
  exact lv_astore hx hb hd hL.has hn rfl (fun ls' hl' => hk p e R s m args below meth c A Z H locs ls' X hH (hL.store (v := .inr (x, 0)) hl'))
theorem n_iinc {k : Nat} {z : Int} {x v : Int32} (hd : decode M.2.1 pc = .ok (.iinc k z, 3)) (hl : lo[k]? = some (some (.inl x))) (hv : x + Int32.ofInt z = v) (hk : am_N B d M mc ms E (pc + 3) (lo.set k (some (.inl v))) st ws nc ns) : am_N B d M mc ms E pc lo st ws nc ns := by
  intro p e R s m args below meth c A Z H locs ls X hH hL
  obtain ⟨hx, hb, hr, hml, hown, hts, hlocks, hnm⟩ := id X.1
  have hn : k < M.2.2.1 := by rw [← hL.2.2.1]; exact (List.getElem?_eq_some_iff.mp hl).1
  obtain ⟨q, hq⟩ := List.getElem?_of_mem (am_lv_mem (G := k_G B) hl)
  exact lv_iinc hx hb hd hL.has hq hv hn rfl (fun ls' hl' => hk p e R s m args below meth c A Z H locs ls' X hH (hL.store (v := .inl v) hl'))
theorem n_iadd {x y : Int32} (hd : decode M.2.1 pc = .ok (.iadd, 1)) (hk : am_N B d M mc ms E (pc + 1) lo (.int (x + y) :: st) ws nc ns) : am_N B d M mc ms E pc lo (.int y :: .int x :: st) ws nc ns := by
  intro p e R s m args below meth c A Z H locs ls X hH hL
  obtain ⟨hx, hb, hr, hml, hown, hts, hlocks, hnm⟩ := id X.1
  exact lv_iadd hx hb hd (hk p e R s m args below meth c A Z H locs ls X hH hL)
theorem n_isub {x y : Int32} (hd : decode M.2.1 pc = .ok (.isub, 1)) (hk : am_N B d M mc ms E (pc + 1) lo (.int (x - y) :: st) ws nc ns) : am_N B d M mc ms E pc lo (.int y :: .int x :: st) ws nc ns := by
  intro p e R s m args below meth c A Z H locs ls X hH hL
  obtain ⟨hx, hb, hr, hml, hown, hts, hlocks, hnm⟩ := id X.1
  exact lv_isub hx hb hd (hk p e R s m args below meth c A Z H locs ls X hH hL)
theorem n_imul {x y : Int32} (hd : decode M.2.1 pc = .ok (.imul, 1)) (hk : am_N B d M mc ms E (pc + 1) lo (.int (x * y) :: st) ws nc ns) : am_N B d M mc ms E pc lo (.int y :: .int x :: st) ws nc ns := by
  intro p e R s m args below meth c A Z H locs ls X hH hL
  obtain ⟨hx, hb, hr, hml, hown, hts, hlocks, hnm⟩ := id X.1
  exact lv_imul hx hb hd (hk p e R s m args below meth c A Z H locs ls X hH hL)
theorem n_iand {x y : Int32} (hd : decode M.2.1 pc = .ok (.iand, 1)) (hk : am_N B d M mc ms E (pc + 1) lo (.int (x &&& y) :: st) ws nc ns) : am_N B d M mc ms E pc lo (.int y :: .int x :: st) ws nc ns := by
  intro p e R s m args below meth c A Z H locs ls X hH hL
  obtain ⟨hx, hb, hr, hml, hown, hts, hlocks, hnm⟩ := id X.1
  exact lv_iand hx hb hd (hk p e R s m args below meth c A Z H locs ls X hH hL)
theorem n_if_eq {x : Int32} {off : Int} {tgt : Nat} (hd : decode M.2.1 pc = .ok (.ifCond .eq off, 3)) (ht : (pc : Int) + off = (tgt : Int)) (kt : x = 0 → am_N B d M mc ms E tgt lo st ws nc ns) (kf : ¬ x = 0 → am_N B d M mc ms E (pc + 3) lo st ws nc ns) : am_N B d M mc ms E pc lo (.int x :: st) ws nc ns := by
  intro p e R s m args below meth c A Z H locs ls X hH hL
  obtain ⟨hx, hb, hr, hml, hown, hts, hlocks, hnm⟩ := id X.1
  exact lv_if_eq hx hb hd ht (fun h => kt h p e R s m args below meth c A Z H locs ls X hH hL) (fun h => kf h p e R s m args below meth c A Z H locs ls X hH hL)
theorem n_icmp_eq {x y : Int32} {off : Int} {tgt : Nat} (hd : decode M.2.1 pc = .ok (.if_icmp .eq off, 3)) (ht : (pc : Int) + off = (tgt : Int)) (kt : x = y → am_N B d M mc ms E tgt lo st ws nc ns) (kf : ¬ x = y → am_N B d M mc ms E (pc + 3) lo st ws nc ns) : am_N B d M mc ms E pc lo (.int y :: .int x :: st) ws nc ns := by
  intro p e R s m args below meth c A Z H locs ls X hH hL
  obtain ⟨hx, hb, hr, hml, hown, hts, hlocks, hnm⟩ := id X.1
  exact lv_icmp_eq hx hb hd ht (fun h => kt h p e R s m args below meth c A Z H locs ls X hH hL) (fun h => kf h p e R s m args below meth c A Z H locs ls X hH hL)
theorem n_if_ne {x : Int32} {off : Int} {tgt : Nat} (hd : decode M.2.1 pc = .ok (.ifCond .ne off, 3)) (ht : (pc : Int) + off = (tgt : Int)) (kt : ¬ x = 0 → am_N B d M mc ms E tgt lo st ws nc ns) (kf : x = 0 → am_N B d M mc ms E (pc + 3) lo st ws nc ns) : am_N B d M mc ms E pc lo (.int x :: st) ws nc ns := by
  intro p e R s m args below meth c A Z H locs ls X hH hL
  obtain ⟨hx, hb, hr, hml, hown, hts, hlocks, hnm⟩ := id X.1
  exact lv_if_ne hx hb hd ht (fun h => kt h p e R s m args below meth c A Z H locs ls X hH hL) (fun h => kf h p e R s m args below meth c A Z H locs ls X hH hL)
theorem n_icmp_ne {x y : Int32} {off : Int} {tgt : Nat} (hd : decode M.2.1 pc = .ok (.if_icmp .ne off, 3)) (ht : (pc : Int) + off = (tgt : Int)) (kt : ¬ x = y → am_N B d M mc ms E tgt lo st ws nc ns) (kf : x = y → am_N B d M mc ms E (pc + 3) lo st ws nc ns) : am_N B d M mc ms E pc lo (.int y :: .int x :: st) ws nc ns := by
  intro p e R s m args below meth c A Z H locs ls X hH hL
  obtain ⟨hx, hb, hr, hml, hown, hts, hlocks, hnm⟩ := id X.1
  exact lv_icmp_ne hx hb hd ht (fun h => kt h p e R s m args below meth c A Z H locs ls X hH hL) (fun h => kf h p e R s m args below meth c A Z H locs ls X hH hL)
theorem n_if_lt {x : Int32} {off : Int} {tgt : Nat} (hd : decode M.2.1 pc = .ok (.ifCond .lt off, 3)) (ht : (pc : Int) + off = (tgt : Int)) (kt : x < 0 → am_N B d M mc ms E tgt lo st ws nc ns) (kf : ¬ x < 0 → am_N B d M mc ms E (pc + 3) lo st ws nc ns) : am_N B d M mc ms E pc lo (.int x :: st) ws nc ns := by
  intro p e R s m args below meth c A Z H locs ls X hH hL
  obtain ⟨hx, hb, hr, hml, hown, hts, hlocks, hnm⟩ := id X.1
  exact lv_if_lt hx hb hd ht (fun h => kt h p e R s m args below meth c A Z H locs ls X hH hL) (fun h => kf h p e R s m args below meth c A Z H locs ls X hH hL)
theorem n_icmp_lt {x y : Int32} {off : Int} {tgt : Nat} (hd : decode M.2.1 pc = .ok (.if_icmp .lt off, 3)) (ht : (pc : Int) + off = (tgt : Int)) (kt : x < y → am_N B d M mc ms E tgt lo st ws nc ns) (kf : ¬ x < y → am_N B d M mc ms E (pc + 3) lo st ws nc ns) : am_N B d M mc ms E pc lo (.int y :: .int x :: st) ws nc ns := by
  intro p e R s m args below meth c A Z H locs ls X hH hL
  obtain ⟨hx, hb, hr, hml, hown, hts, hlocks, hnm⟩ := id X.1
  exact lv_icmp_lt hx hb hd ht (fun h => kt h p e R s m args below meth c A Z H locs ls X hH hL) (fun h => kf h p e R s m args below meth c A Z H locs ls X hH hL)
theorem n_if_ge {x : Int32} {off : Int} {tgt : Nat} (hd : decode M.2.1 pc = .ok (.ifCond .ge off, 3)) (ht : (pc : Int) + off = (tgt : Int)) (kt : 0 ≤ x → am_N B d M mc ms E tgt lo st ws nc ns) (kf : ¬ 0 ≤ x → am_N B d M mc ms E (pc + 3) lo st ws nc ns) : am_N B d M mc ms E pc lo (.int x :: st) ws nc ns := by
  intro p e R s m args below meth c A Z H locs ls X hH hL
  obtain ⟨hx, hb, hr, hml, hown, hts, hlocks, hnm⟩ := id X.1
  exact lv_if_ge hx hb hd ht (fun h => kt h p e R s m args below meth c A Z H locs ls X hH hL) (fun h => kf h p e R s m args below meth c A Z H locs ls X hH hL)
theorem n_icmp_ge {x y : Int32} {off : Int} {tgt : Nat} (hd : decode M.2.1 pc = .ok (.if_icmp .ge off, 3)) (ht : (pc : Int) + off = (tgt : Int)) (kt : y ≤ x → am_N B d M mc ms E tgt lo st ws nc ns) (kf : ¬ y ≤ x → am_N B d M mc ms E (pc + 3) lo st ws nc ns) : am_N B d M mc ms E pc lo (.int y :: .int x :: st) ws nc ns := by
  intro p e R s m args below meth c A Z H locs ls X hH hL
  obtain ⟨hx, hb, hr, hml, hown, hts, hlocks, hnm⟩ := id X.1
  exact lv_icmp_ge hx hb hd ht (fun h => kt h p e R s m args below meth c A Z H locs ls X hH hL) (fun h => kf h p e R s m args below meth c A Z H locs ls X hH hL)
theorem n_if_gt {x : Int32} {off : Int} {tgt : Nat} (hd : decode M.2.1 pc = .ok (.ifCond .gt off, 3)) (ht : (pc : Int) + off = (tgt : Int)) (kt : 0 < x → am_N B d M mc ms E tgt lo st ws nc ns) (kf : ¬ 0 < x → am_N B d M mc ms E (pc + 3) lo st ws nc ns) : am_N B d M mc ms E pc lo (.int x :: st) ws nc ns := by
  intro p e R s m args below meth c A Z H locs ls X hH hL
  obtain ⟨hx, hb, hr, hml, hown, hts, hlocks, hnm⟩ := id X.1
  exact lv_if_gt hx hb hd ht (fun h => kt h p e R s m args below meth c A Z H locs ls X hH hL) (fun h => kf h p e R s m args below meth c A Z H locs ls X hH hL)
theorem n_icmp_gt {x y : Int32} {off : Int} {tgt : Nat} (hd : decode M.2.1 pc = .ok (.if_icmp .gt off, 3)) (ht : (pc : Int) + off = (tgt : Int)) (kt : y < x → am_N B d M mc ms E tgt lo st ws nc ns) (kf : ¬ y < x → am_N B d M mc ms E (pc + 3) lo st ws nc ns) : am_N B d M mc ms E pc lo (.int y :: .int x :: st) ws nc ns := by
  intro p e R s m args below meth c A Z H locs ls X hH hL
  obtain ⟨hx, hb, hr, hml, hown, hts, hlocks, hnm⟩ := id X.1
  exact lv_icmp_gt hx hb hd ht (fun h => kt h p e R s m args below meth c A Z H locs ls X hH hL) (fun h => kf h p e R s m args below meth c A Z H locs ls X hH hL)
theorem n_if_le {x : Int32} {off : Int} {tgt : Nat} (hd : decode M.2.1 pc = .ok (.ifCond .le off, 3)) (ht : (pc : Int) + off = (tgt : Int)) (kt : x ≤ 0 → am_N B d M mc ms E tgt lo st ws nc ns) (kf : ¬ x ≤ 0 → am_N B d M mc ms E (pc + 3) lo st ws nc ns) : am_N B d M mc ms E pc lo (.int x :: st) ws nc ns := by
  intro p e R s m args below meth c A Z H locs ls X hH hL
  obtain ⟨hx, hb, hr, hml, hown, hts, hlocks, hnm⟩ := id X.1
  exact lv_if_le hx hb hd ht (fun h => kt h p e R s m args below meth c A Z H locs ls X hH hL) (fun h => kf h p e R s m args below meth c A Z H locs ls X hH hL)
theorem n_icmp_le {x y : Int32} {off : Int} {tgt : Nat} (hd : decode M.2.1 pc = .ok (.if_icmp .le off, 3)) (ht : (pc : Int) + off = (tgt : Int)) (kt : x ≤ y → am_N B d M mc ms E tgt lo st ws nc ns) (kf : ¬ x ≤ y → am_N B d M mc ms E (pc + 3) lo st ws nc ns) : am_N B d M mc ms E pc lo (.int y :: .int x :: st) ws nc ns := by
  intro p e R s m args below meth c A Z H locs ls X hH hL
  obtain ⟨hx, hb, hr, hml, hown, hts, hlocks, hnm⟩ := id X.1
  exact lv_icmp_le hx hb hd ht (fun h => kt h p e R s m args below meth c A Z H locs ls X hH hL) (fun h => kf h p e R s m args below meth c A Z H locs ls X hH hL)
theorem n_goto {off : Int} {tgt : Nat} (hd : decode M.2.1 pc = .ok (.goto off, 3)) (ht : (pc : Int) + off = (tgt : Int)) (hk : am_N B d M mc ms E tgt lo st ws nc ns) : am_N B d M mc ms E pc lo st ws nc ns := by
  intro p e R s m args below meth c A Z H locs ls X hH hL
  obtain ⟨hx, hb, hr, hml, hown, hts, hlocks, hnm⟩ := id X.1
  exact lv_goto hx hb hd ht (hk p e R s m args below meth c A Z H locs ls X hH hL)
theorem n_tabIn {dflt lw hi : Int} {offs : Array Int} {len : Nat} {x : Int32} {off : Int} {tgt : Nat} (hd : decode M.2.1 pc = .ok (.tableswitch dflt lw hi offs, len)) (h1 : ¬ x.toInt < lw) (h2 : ¬ hi < x.toInt) (ho : offs[(x.toInt - lw).toNat]? = some off) (ht : (pc : Int) + off = (tgt : Int)) (hk : am_N B d M mc ms E tgt lo st ws nc ns) : am_N B d M mc ms E pc lo (.int x :: st) ws nc ns := by
  intro p e R s m args below meth c A Z H locs ls X hH hL
  obtain ⟨hx, hb, hr, hml, hown, hts, hlocks, hnm⟩ := id X.1
  exact lv_tableIn hx hb hd h1 h2 ho ht (hk p e R s m args below meth c A Z H locs ls X hH hL)
theorem n_tabOut {dflt lw hi : Int} {offs : Array Int} {len : Nat} {x : Int32} {tgt : Nat} (hd : decode M.2.1 pc = .ok (.tableswitch dflt lw hi offs, len)) (h : x.toInt < lw ∨ hi < x.toInt) (ht : (pc : Int) + dflt = (tgt : Int)) (hk : am_N B d M mc ms E tgt lo st ws nc ns) : am_N B d M mc ms E pc lo (.int x :: st) ws nc ns := by
  intro p e R s m args below meth c A Z H locs ls X hH hL
  obtain ⟨hx, hb, hr, hml, hown, hts, hlocks, hnm⟩ := id X.1
  exact lv_tableOut hx hb hd h ht (hk p e R s m args below meth c A Z H locs ls X hH hL)
theorem n_dup {x : Value} (hd : decode M.2.1 pc = .ok (.dup, 1)) (hc : x.category = 1) (hk : am_N B d M mc ms E (pc + 1) lo (x :: x :: st) ws nc ns) : am_N B d M mc ms E pc lo (x :: st) ws nc ns := by
  intro p e R s m args below meth c A Z H locs ls X hH hL
  obtain ⟨hx, hb, hr, hml, hown, hts, hlocks, hnm⟩ := id X.1
  exact lv_dup hx hb hd hc (hk p e R s m args below meth c A Z H locs ls X hH hL)
theorem n_pop {x : Value} (hd : decode M.2.1 pc = .ok (.pop, 1)) (hc : x.category = 1) (hk : am_N B d M mc ms E (pc + 1) lo st ws nc ns) : am_N B d M mc ms E pc lo (x :: st) ws nc ns := by
  intro p e R s m args below meth c A Z H locs ls X hH hL
  obtain ⟨hx, hb, hr, hml, hown, hts, hlocks, hnm⟩ := id X.1
  exact lv_pop hx hb hd hc (hk p e R s m args below meth c A Z H locs ls X hH hL)
theorem n_i2l {x : Int32} (hd : decode M.2.1 pc = .ok (.i2l, 1)) (hk : am_N B d M mc ms E (pc + 1) lo (.long x.toInt64 :: st) ws nc ns) : am_N B d M mc ms E pc lo (.int x :: st) ws nc ns := by
  intro p e R s m args below meth c A Z H locs ls X hH hL
  obtain ⟨hx, hb, hr, hml, hown, hts, hlocks, hnm⟩ := id X.1
  exact lv_i2l hx hb hd rfl (hk p e R s m args below meth c A Z H locs ls X hH hL)
theorem n_newL {n : Int32} {N' : Nat} (hd : decode M.2.1 pc = .ok (.newarray .long, 2)) (harr : Cond.arrayClass .long ∈ am_T) (hn : ¬ n < 0) (hN : n.toNatClampNeg = N') (hby : N' * componentBytes .long ≤ 536870912) (hc : nc + 1 ≤ mc) (hs : ns + N' ≤ ms)
    (hk : ∀ q : Nat, am_N B d M mc ms E (pc + 2) lo (.ref q :: st) (ws ++ [(q, .inl (B.2.2, N', .inr (.inl (fun _ => 0))))]) (nc + 1) (ns + N')) : am_N B d M mc ms E pc lo (.int n :: st) ws nc ns := by
  intro p e R s m args below meth c A Z H locs ls X hH hL
  obtain ⟨hx, hb, hr, hml, hown, hts, hlocks, hnm⟩ := id X.1
  refine va_newa (atype := .long) hx hb (hts _ harr) (ty := .long) rfl X.2.1.2.1 hH.1 hH.2.1 hH.2.2 X.2.1.1 (a0 := (N', .inr (.inl (fun _ => 0)))) (fun _ => rfl) hn hN hby (Nat.le_trans hc X.2.2.1.2.2.1) (Nat.le_trans hs X.2.2.1.2.2.2) hd (fun q cA H1 hK' hP hD hS => ?_)
  obtain rfl := k_same (hK'.2 4 _ rfl).2 ((X.2.1.2.1).2 3 _ rfl).2
  exact hk q p e R s m args below meth c A Z H1 locs ls X ⟨hP, hD, hS⟩ hL
theorem n_new {idx ci N : Nat} {fs : List Value} (hd : decode M.2.1 pc = .ok (.new idx, 3)) (hn : k_nk M.1.cls idx ci N fs) (hc : nc + 1 ≤ mc) (hs : ns + N ≤ ms)
    (hk : ∀ q : Nat, am_N B d M mc ms E (pc + 3) lo (.ref q :: st) (ws ++ [(q, .inr (ci, fs))]) (nc + 1) (ns + N)) : am_N B d M mc ms E pc lo st ws nc ns := by
  intro p e R s m args below meth c A Z H locs ls X hH hL
  obtain ⟨hx, hb, hr, hml, hown, hts, hlocks, hnm⟩ := id X.1
  obtain ⟨C, T, ty, h1, h2, h3, h4, h5, h6, h7⟩ := hn
  exact va_new hx hb hts h2 ty h3 hown (hts _ h4) (hts _ h5) (hts _ h6) X.2.1.2.1 hH.1 hH.2.1 hH.2.2 X.2.1.1 h1 h7 (Nat.le_trans hc X.2.2.1.2.2.1) (Nat.le_trans hs X.2.2.1.2.2.2) hd (fun q H1 hP hD hS => hk q p e R s m args below meth c A Z H1 locs ls X ⟨hP, hD, hS⟩ hL)
end NR
section NC
variable {B : k_B} {d : Nat} {M : am_M} {mc ms : Nat} {E : n_E} {pc : Nat} {lo : List (Option am_V)} {st : List Value} {ws : va_W} {nc ns : Nat}
theorem n_back {M' : am_M} {Q' : Option Int32 → va_W → Prop} {w1 w2 w3 : va_W} {rest : List Value} {mc' ms' : Nat} (hw : ws = w1 ++ w2 ++ w3) (hk : ∀ (r : Option Int32) (w4 : va_W), r.isSome = M'.2.2.2.isSome → Q' r w4 → am_N B d M mc ms E (pc + 3) lo (r.toList.map Value.int ++ rest) (w1 ++ w4 ++ w3) (nc + mc') (ns + ms'))
    {p : Program} {e : Env} {R : Room} {s : State} {m : MethodId} {args : Array Value} {below : List Frame} {meth : Method} {c : Code} {A : Nat → Prop} {Z : State → Prop} {H : Heap} {locs : List Loc} {ls : Array Slot}
    (X : n_X B d M mc ms p e R s m args below meth c A Z E) (hH : k_H B A s H locs ws) (hL : am_L (k_G B) M ls lo) {a : Array Value} {st0 : List Value}
    (hr : va_Run p B.1.1 e R s m args below meth c H locs nc ns mc' ms' (F0 m pc ls st0) rest (k_Qc B M' Q' (k_A w2 H.size) a) (k_A w2 H.size)) : W p B.1.1 e R s m args below meth c H locs nc ns Z (F0 m pc ls st0) := by
  subst hw
  have hF := k_sub hH.2.1 X.2.1.1 hH.2.2
  have hA : ∀ q, H.size ≤ q → A q := fun q h => X.2.1.1 q (Nat.le_trans hH.2.2.1 h)
  cases hret : M'.2.2.2 with
  | none =>
    simp only [k_Qc, hret] at hr
    refine va_callv hr hH.2.2 (fun q _ h => hF q h) hF (fun u t H1 locs1 ht hvm hw hB hz hk1 hS => ?_)
    obtain ⟨g1, g2⟩ := k_frame hH.1 hH.2.1 hk1 (by rw [← ht]; exact hB.1) hw.2 hA
    exact hk none u (by rw [hret]; rfl) hw.1 p e R s m args below meth c A Z H1 locs1 ls X ⟨g1, g2, hS⟩ hL
  | some ty =>
    simp only [k_Qc, hret] at hr
    refine va_calli hr hH.2.2 (fun q _ h => hF q h) hF (fun r u t H1 locs1 ht hvm hw hB hz hk1 hS => ?_)
    obtain ⟨g1, g2⟩ := k_frame hH.1 hH.2.1 hk1 (by rw [← ht]; exact hB.1) hw.2 hA
    exact hk (some r) u (by rw [hret]; rfl) hw.1 p e R s m args below meth c A Z H1 locs1 ls X ⟨g1, g2, hS⟩ hL
theorem n_preB {w1 w2 w3 : va_W} {p : Program} {e : Env} {R : Room} {s : State} {m : MethodId} {args : Array Value} {below : List Frame} {meth : Method} {c : Code} {A : Nat → Prop} {Z : State → Prop} {H : Heap} {locs : List Loc}
    (X : n_X B d M mc ms p e R s m args below meth c A Z E) (hH : k_H B A s H locs (w1 ++ w2 ++ w3)) {U : State} (hU : U.heap = H) (hW : s.WarmedH U.vm) : U.heap.size = H.size ∧ k_W B w2 U :=
  ⟨by rw [hU], by rw [hU]; exact (k_mid hH.1 hH.2.1).1, va_K.moved hW.alike X.2.1.2.1, va_AO.moved hW.alike X.2.1.2.2.1, (k_mid hH.1 hH.2.1).2, am_nw_warm hW X.2.1.2.2.2⟩
theorem n_ws' {M' : am_M} {na : Nat} (h : am_lk M' na) : GoodIn am_T (am_w M') := k_gin (fun w hw => by
  rcases List.mem_cons.mp hw with rfl | h2
  · exact h.1
  · exact h2)
theorem n_callI {M' : am_M} {idx na o : Nat} {as : List am_V} {rest : List Value} {w1 w2 w3 : va_W} {mc' ms' : Nat} {Q' : Option Int32 → va_W → Prop} (hd : decode M.2.1 pc = .ok (.invokespecial idx, 3)) (hlk : am_lk M' na) (hl : Cond.methodLink M.1.cls idx M'.1 ∈ am_T) (hin : Cond.instanceMethod M'.1 ∈ am_T) (hni : M'.1.name = "<init>") (hnr : M'.2.2.2 = none)
    (hlen : as.length = na) (hrest : rest.length ≤ 4) (hst : st = (as.map (am_val (k_G B))).reverse ++ .ref o :: rest) (hw : ws = w1 ++ w2 ++ w3) (hc : nc + mc' ≤ mc) (hs : ns + ms' ≤ ms)
    (hC : k_C B d mc' ms' M' (.inr (o, 0) :: as) w2 Q') (hk : ∀ w4 : va_W, Q' none w4 → am_N B (d + 1) M mc ms E (pc + 3) lo rest (w1 ++ w4 ++ w3) (nc + mc') (ns + ms')) : am_N B (d + 1) M mc ms E pc lo st ws nc ns := by
  intro p e R s m args below meth c A Z H locs ls X hH hL
  obtain ⟨hx, hb, hr, hml, hown, hts, hlocks, hnm⟩ := id X.1
  obtain ⟨h1, h2, h3, h4⟩ := id hlk
  refine n_back (M' := M') (Q' := Q') (rest := rest) hw (fun r w4 hr hq => ?_) X hH hL (a := (Value.ref o :: as.map (am_val (k_G B))).toArray) (va_runI (As := as.map (am_val (k_G B))) (b := o) (index := idx) (n := na) (bytes := M'.2.1) (maxL := M'.2.2.1) ⟨hx, hb, hml, hown, hts⟩ (hC H.size)
    ⟨callB_of na hts (k_ws' hlk) (by rw [← hnr]) rfl rfl (hts _ h2) (hts _ hl) h3 ⟨?_, ?_⟩, hni, hts _ hin⟩
    ⟨k_blind, fun U hU hW => ⟨rfl, n_preB X (by rw [← hw]; exact hH) hU hW⟩⟩ rfl (by rw [List.length_map]; exact hlen) hL.1 ?_ (lv_room ?_) hd ⟨Nat.le_trans hc X.2.2.1.2.2.1, Nat.le_trans hs X.2.2.1.2.2.2⟩)
  · rw [hnr] at hr
    cases r with
    | some v => cases hr
    | none => exact hk w4 hq
  · show d + 1 ≤ R.frames
    exact X.2.2.1.1
  · show 8 + (M'.2.2.1 + 11) + 41 * d ≤ R.locals
    have := X.2.2.1.2.1
    omega
  · exact hst
  · have := k_cats rest (fun v _ => k_cat2 v)
    omega
theorem n_backA {G : am_G} (hg : k_gb G B) {M' : am_M} {I : am_I} {Q' : Option Int32 → am_I → Prop} {w1 w3 : va_W} {rest : List Value} (hw : ws = w1 ++ am_ws G I ++ w3) (hk : ∀ (r : Option Int32) (I' : am_I), r.isSome = M'.2.2.2.isSome → Q' r I' → am_N B d M mc ms E (pc + 3) lo (r.toList.map Value.int ++ rest) (w1 ++ am_ws G I' ++ w3) nc ns)
    {p : Program} {e : Env} {R : Room} {s : State} {m : MethodId} {args : Array Value} {below : List Frame} {meth : Method} {c : Code} {A : Nat → Prop} {Z : State → Prop} {H : Heap} {locs : List Loc} {ls : Array Slot}
    (X : n_X B d M mc ms p e R s m args below meth c A Z E) (hH : k_H B A s H locs ws) (hL : am_L (k_G B) M ls lo) {a : Array Value} {st0 : List Value}
    (hr : va_Run p B.1.1 e R s m args below meth c H locs nc ns 0 0 (F0 m pc ls st0) rest (am_Qc G M' Q' (am_A G H.size) a) (am_A G H.size)) : W p B.1.1 e R s m args below meth c H locs nc ns Z (F0 m pc ls st0) := by
  subst hw
  have hF := k_sub hH.2.1 X.2.1.1 hH.2.2
  have hA : ∀ q, H.size ≤ q → A q := fun q h => X.2.1.1 q (Nat.le_trans hH.2.2.1 h)
  have hD2 : ∀ I' : am_I, va_D (k_A (am_ws G I) H.size) (am_ws G I') := fun I' => am_D ((k_mid hH.1 hH.2.1).2.weaken (fun k q hk _ => Or.inl ⟨q, List.mem_of_getElem? hk, rfl⟩)) I'
  rw [← k_Aeq (I := I)] at hr
  cases hret : M'.2.2.2 with
  | none =>
    simp only [am_Qc, hret] at hr
    refine va_callv hr hH.2.2 (fun q _ h => hF q h) hF (fun u t H1 locs1 ht hvm hw hB hz hk1 hS => ?_)
    obtain ⟨g1, g2⟩ := k_frame hH.1 hH.2.1 hk1 (by rw [← ht]; exact k_ofB hg hB) (hD2 u) hA
    exact hk none u (by rw [hret]; rfl) hw p e R s m args below meth c A Z H1 locs1 ls X ⟨g1, g2, hS⟩ hL
  | some ty =>
    simp only [am_Qc, hret] at hr
    refine va_calli hr hH.2.2 (fun q _ h => hF q h) hF (fun r u t H1 locs1 ht hvm hw hB hz hk1 hS => ?_)
    obtain ⟨g1, g2⟩ := k_frame hH.1 hH.2.1 hk1 (by rw [← ht]; exact k_ofB hg hB) (hD2 u) hA
    exact hk (some r) u (by rw [hret]; rfl) hw p e R s m args below meth c A Z H1 locs1 ls X ⟨g1, g2, hS⟩ hL
theorem n_callS {G : am_G} (hg : k_gb G B) {M' : am_M} {I : am_I} {idx na : Nat} {as : List am_V} {rest : List Value} {w1 w3 : va_W} {Q' : Option Int32 → am_I → Prop} (hd : decode M.2.1 pc = .ok (.invokestatic idx, 3)) (hlk : am_lk M' na) (hl : Cond.methodLink M.1.cls idx M'.1 ∈ am_T) (hin : Cond.static M'.1 ∈ am_T)
    (hlen : as.length = na) (hrest : rest.length ≤ 4) (hst : st = (as.map (am_val G)).reverse ++ rest) (hw : ws = w1 ++ am_ws G I ++ w3) (hc : nc ≤ mc) (hs : ns ≤ ms)
    (hC : am_C G d M' as I Q') (hk : ∀ (r : Option Int32) (I' : am_I), r.isSome = M'.2.2.2.isSome → Q' r I' → am_N B (d + 1) M mc ms E (pc + 3) lo (r.toList.map Value.int ++ rest) (w1 ++ am_ws G I' ++ w3) nc ns) : am_N B (d + 1) M mc ms E pc lo st ws nc ns := by
  intro p e R s m args below meth c A Z H locs ls X hH hL
  obtain ⟨hx, hb, hr, hml, hown, hts, hlocks, hnm⟩ := id X.1
  obtain ⟨h1, h2, h3, h4⟩ := id hlk
  have hC9 := hC H.size
  rw [hg.1] at hC9
  refine n_backA hg (M' := M') (Q' := Q') (rest := rest) hw hk X hH hL (a := (as.map (am_val G)).toArray) (va_runS (As := as.map (am_val G)) (index := idx) (n := na) (bytes := M'.2.1) (maxL := M'.2.2.1) (ret := M'.2.2.2) ⟨hx, hb, hml, hown, hts⟩ hC9
    ⟨callB_of na hts (k_ws' hlk) rfl rfl rfl (hts _ h2) (hts _ hl) h3 ⟨?_, ?_⟩, hts _ hin⟩
    ⟨am_blind, fun U hU hW => ⟨rfl, (n_preB X (by rw [← hw]; exact hH) hU hW).1, k_toB hg (n_preB X (by rw [← hw]; exact hH) hU hW).2⟩⟩ rfl (by rw [List.length_map]; exact hlen) hL.1 ?_ (lv_room ?_) hd ⟨Nat.le_trans hc X.2.2.1.2.2.1, Nat.le_trans hs X.2.2.1.2.2.2⟩)
  · show d + 1 ≤ R.frames
    exact X.2.2.1.1
  · show 8 + (M'.2.2.1 + 11) + 41 * d ≤ R.locals
    have := X.2.2.1.2.1
    omega
  · exact hst
  · have := k_cats rest (fun v _ => k_cat2 v)
    omega
theorem n_widen {nc' ns' : Nat} (hc : nc ≤ nc') (hs : ns ≤ ns') (hk : am_N B d M mc ms E pc lo st ws nc' ns') : am_N B d M mc ms E pc lo st ws nc ns := by
  intro p e R s m args below meth c A Z H locs ls X hH hL
  obtain ⟨hx, hb, hr, hml, hown, hts, hlocks, hnm⟩ := id X.1
  exact W.widen (k := nc') (n := ns') hc hs (hk p e R s m args below meth c A Z H locs ls X hH hL)
theorem n_ws {ws' : va_W} (h : ws = ws') (hk : am_N B d M mc ms E pc lo st ws' nc ns) : am_N B d M mc ms E pc lo st ws nc ns := by rw [h]; exact hk
theorem n_lo {lo' : List (Option am_V)} (h : lo = lo') (hk : am_N B d M mc ms E pc lo' st ws nc ns) : am_N B d M mc ms E pc lo st ws nc ns := by rw [h]; exact hk
theorem n_st {st' : List Value} (h : st = st') (hk : am_N B d M mc ms E pc lo st' ws nc ns) : am_N B d M mc ms E pc lo st ws nc ns := by rw [h]; exact hk
theorem n_n {nc' ns' : Nat} (h1 : nc = nc') (h2 : ns = ns') (hk : am_N B d M mc ms E pc lo st ws nc' ns') : am_N B d M mc ms E pc lo st ws nc ns := by rw [h1, h2]; exact hk
theorem n_ctor {M' : am_M} {idx na o : Nat} {as : List am_V} {rest : List Value} {w1 w2 : va_W} {mc' ms' : Nat} {Q' : Option Int32 → va_W → Prop} (hd : decode M.2.1 pc = .ok (.invokespecial idx, 3)) (hlk : am_lk M' na) (hl : Cond.methodLink M.1.cls idx M'.1 ∈ am_T) (hin : Cond.instanceMethod M'.1 ∈ am_T) (hni : M'.1.name = "<init>") (hnr : M'.2.2.2 = none)
    (hlen : as.length = na) (hrest : rest.length ≤ 4) (hst : st = (as.map (am_val (k_G B))).reverse ++ .ref o :: rest) (hw : ws = w1 ++ w2) (hc : nc + mc' ≤ mc) (hs : ns + ms' ≤ ms)
    (hC : k_C B d mc' ms' M' (.inr (o, 0) :: as) w2 Q') (hk : ∀ w4 : va_W, Q' none w4 → am_N B (d + 1) M mc ms E (pc + 3) lo rest (w1 ++ w4) (nc + mc') (ns + ms')) : am_N B (d + 1) M mc ms E pc lo st ws nc ns :=
  n_callI (w3 := []) hd hlk hl hin hni hnr hlen hrest hst (by rw [hw, List.append_nil]) hc hs hC (fun w4 h => by rw [List.append_nil]; exact hk w4 h)
theorem n_to {ws' : va_W} (h : k_eq ws ws') (hk : am_N B d M mc ms E pc lo st ws' nc ns) : am_N B d M mc ms E pc lo st ws nc ns :=
  fun p e R s m args below meth c A Z H locs ls X hH hL => hk p e R s m args below meth c A Z H locs ls X ⟨h.P hH.1, h.D hH.2.1, hH.2.2⟩ hL
/-- a longs' array -/
theorem n_last {q0 a n : Nat} {i : Int32} {x : Int64} {f : Nat → Int64} (hd : decode M.2.1 pc = .ok (.lastore, 1)) (hw : ws[q0]? = some (a, .inl (B.2.2, n, .inr (.inl f)))) (hin : vp_in i n)
    (hk : am_N B d M mc ms E (pc + 1) lo st (ws.set q0 (a, .inl (B.2.2, n, .inr (.inl (vp_updL f i.toNatClampNeg x))))) nc ns) : am_N B d M mc ms E pc lo (.long x :: .int i :: .ref a :: st) ws nc ns := by
  intro p e R s m args below meth c A Z H locs ls X hH hL
  obtain ⟨hx, hb, hr, hml, hown, hts, hlocks, hnm⟩ := id X.1
  exact va_last hx hb X.2.1.2.1 hH.1 hH.2.1 hH.2.2 q0 3 hw rfl hin hd (fun H1 locs1 hP hD hS => hk p e R s m args below meth c A Z H1 locs1 ls X ⟨hP, hD, hS⟩ hL)
theorem n_lald {q0 a n : Nat} {i : Int32} {f : Nat → Int64} (hd : decode M.2.1 pc = .ok (.laload, 1)) (hw : ws[q0]? = some (a, .inl (B.2.2, n, .inr (.inl f)))) (hin : vp_in i n)
    (hk : am_N B d M mc ms E (pc + 1) lo (.long (f i.toNatClampNeg) :: st) ws nc ns) : am_N B d M mc ms E pc lo (.int i :: .ref a :: st) ws nc ns := by
  intro p e R s m args below meth c A Z H locs ls X hH hL
  obtain ⟨hx, hb, hr, hml, hown, hts, hlocks, hnm⟩ := id X.1
  exact va_lald hx hb X.2.1.2.1 hH.1 q0 3 hw rfl hin hd (hk p e R s m args below meth c A Z H locs ls X hH hL)
theorem n_lcmp {x y : Int64} (hd : decode M.2.1 pc = .ok (.lcmp, 1)) (hk : am_N B d M mc ms E (pc + 1) lo (.int (lg_cmp x y) :: st) ws nc ns) : am_N B d M mc ms E pc lo (.long y :: .long x :: st) ws nc ns := by
  intro p e R s m args below meth c A Z H locs ls X hH hL
  obtain ⟨hx, hb, hr, hml, hown, hts, hlocks, hnm⟩ := id X.1
  exact W.lcmp hx hb hd (hk p e R s m args below meth c A Z H locs ls X hH hL)
theorem n_callV {G : am_G} (hg : k_gb G B) {M' : am_M} {I : am_I} {idx na i j : Nat} {as : List am_V} {rest : List Value} {w1 w3 : va_W} {Q' : Option Int32 → am_I → Prop} {T : u_T} {N : Nat} (hd : decode M.2.1 pc = .ok (.invokevirtual idx, 3)) (hlk : am_lk M' na) (hl : Cond.methodLink M.1.cls idx M'.1 ∈ am_T) (hin : Cond.instanceMethod M'.1 ∈ am_T) (hse : Cond.selects M'.1.cls M'.1 M'.1 ∈ am_T)
    (hci : vwCl[am_ci j]? = some (M'.1.cls, T, N)) (hk0 : am_k j = 0) (hm : (i, j) ∈ G.2.2.2.2) (hlen : as.length = na) (hrest : rest.length ≤ 4) (hst : st = (as.map (am_val G)).reverse ++ .ref (G.2.2.1 i j) :: rest) (hw : ws = w1 ++ am_ws G I ++ w3) (hc : nc ≤ mc) (hs : ns ≤ ms)
    (hC : am_C G d M' (.inr (i, j) :: as) I Q') (hk : ∀ (r : Option Int32) (I' : am_I), r.isSome = M'.2.2.2.isSome → Q' r I' → am_N B (d + 1) M mc ms E (pc + 3) lo (r.toList.map Value.int ++ rest) (w1 ++ am_ws G I' ++ w3) nc ns) : am_N B (d + 1) M mc ms E pc lo st ws nc ns := by
  intro p e R s m args below meth c A Z H locs ls X hH hL
  obtain ⟨hx, hb, hr, hml, hown, hts, hlocks, hnm⟩ := id X.1
  obtain ⟨h1, h2, h3, h4⟩ := id hlk
  have hC9 := hC H.size
  rw [hg.1] at hC9
  obtain ⟨q, -, hwq⟩ := am_at hm I
  rw [am_cell0 hk0] at hwq
  have hPm := (k_mid (by rw [← hw]; exact hH.1) (by rw [← hw]; exact hH.2.1 : va_D A (w1 ++ am_ws G I ++ w3))).1
  refine n_backA hg (M' := M') (Q' := Q') (rest := rest) hw hk X hH hL (a := (Value.ref (G.2.2.1 i j) :: as.map (am_val G)).toArray) (va_runV (As := as.map (am_val G)) (b := G.2.2.1 i j) (C := M'.1.cls) (index := idx) (n := na) (bytes := M'.2.1) (maxL := M'.2.2.1) (ret := M'.2.2.2) ⟨hx, hb, hml, hown, hts⟩ hC9
    ⟨callB_of na hts (k_ws' hlk) rfl rfl rfl (hts _ h2) (hts _ hl) h3 ⟨?_, ?_⟩, hts _ hin, hts _ hse⟩
    ⟨am_blind, va_recv X.2.1.2.1 hPm hci hwq, fun U hU hW => ⟨rfl, (n_preB X (by rw [← hw]; exact hH) hU hW).1, k_toB hg (n_preB X (by rw [← hw]; exact hH) hU hW).2⟩⟩ rfl (by rw [List.length_map]; exact hlen) hL.1 ?_ (lv_room ?_) hd ⟨Nat.le_trans hc X.2.2.1.2.2.1, Nat.le_trans hs X.2.2.1.2.2.2⟩)
  · show d + 1 ≤ R.frames
    exact X.2.2.1.1
  · show 8 + (M'.2.2.1 + 11) + 41 * d ≤ R.locals
    have := X.2.2.1.2.1
    omega
  · exact hst
  · have := k_cats rest (fun v _ => k_cat2 v)
    omega
abbrev am_xs : List String := ["java/lang/IllegalArgumentException", "java/lang/IllegalStateException", "java/lang/IndexOutOfBoundsException", "java/util/NoSuchElementException"]
/-- what throws and catches need of the state -/
def am_TW (A : Nat → Prop) (U : State) : Prop := am_TS A U ∧ ∀ a ∈ am_xs, ∀ b ∈ am_xs, a ≠ b → va_Nc a b U
theorem am_Nc_moved {C T : String} {u U : State} (hvm : u.vm.Alike U.vm) (h : va_Nc C T u) : va_Nc C T U := by
  obtain ⟨c, t, h1, h2, h3⟩ := h
  exact ⟨c, t, by rw [hvm.findClass]; exact h1, by rw [hvm.findClass]; exact h2, by rw [hvm.assignable]; exact h3⟩
theorem am_tw_face : ∀ w ∈ am_tw, w.faceAtom = true := fun w h => List.all_eq_true.mp (show am_tw.all Cond.faceAtom = true by decide +kernel) w h
theorem am_TS.move {A A' : Nat → Prop} {s U : State} {H : Heap} {locs : List Loc} (hTS : am_TS A s) (hS : va_S A s.heap H locs) (hU : U.heap = H) (hW : s.WarmedH U.vm) (hA : ∀ q, A' q → A q) : am_TS A' U := by
  obtain ⟨h1, h2, h3, h4⟩ := hTS
  subst hU
  refine ⟨(vx_Zq.kept (vx_Zq.moved hW.alike h1) hS.2.1).narrow hA, (vx_Zq.kept (vx_Zq.moved hW.alike h2) hS.2.1).narrow hA, fun q hq => ?_, fun w hw => ?_⟩
  · obtain ⟨a, ha⟩ := h3 q hq
    exact ⟨a, vk_R.warm hW ha⟩
  · exact va_tabs (am_tw_on w hw) (rfl : (s.setVm U.vm).vm = U.vm) (Cond.faceAtom_setVm hW.alike w (am_tw_face w hw) (h4 w hw))
theorem am_TW.move {A A' : Nat → Prop} {s U : State} {H : Heap} {locs : List Loc} (h : am_TW A s) (hS : va_S A s.heap H locs) (hU : U.heap = H) (hW : s.WarmedH U.vm) (hA : ∀ q, A' q → A q) : am_TW A' U :=
  ⟨h.1.move hS hU hW hA, fun a ha b hb hab => am_Nc_moved hW.alike (h.2 a ha b hb hab)⟩
/-- a wrapper's contract: static, with handlers; it makes at most one exception -/
abbrev n_w (M : am_M) (hh : List (Nat × Nat × Nat × Nat)) : List Cond := .codeWith M.1 M.2.1 M.2.2.1 M.2.2.2 hh :: am_T
def n_C (B : k_B) (d : Nat) (M : am_M) (hh : List (Nat × Nat × Nat × Nat)) (As : List Value) (ws : va_W) (Q : Int32 → va_W → Prop) : Prop :=
  ∀ sz : Nat, Met B.1.1 M.1 (n_w M hh) (k_rm d 1 6) (va_Pc As (fun U => U.heap.size = sz ∧ k_W B ws U ∧ am_TW (k_A ws sz) U)) (va_Qi (fun r ws' => Q r ws' ∧ va_D (k_A ws sz) ws') (k_W B) (k_A ws sz)) 1 6 (k_A ws sz)
def n_lk (own : String) (idx : Nat) (M : am_M) (hh : List (Nat × Nat × Nat × Nat)) (na : Nat) : Prop := Cond.codeWith M.1 M.2.1 M.2.2.1 M.2.2.2 hh ∈ am_T ∧ Cond.initialized M.1.cls ∈ am_T ∧ Cond.methodLink own idx M.1 ∈ am_T ∧ Cond.static M.1 ∈ am_T ∧ (M.1.cls ≠ "java/lang/invoke/MethodHandle" ∧ M.1.cls ≠ "java/lang/invoke/VarHandle" ∧ (parseMethodDescriptor M.1.desc).map (fun d => d.parameters.length) = some na) ∧ M.2.2.1 ≤ 22 ∧ M.2.2.2 = some .int
theorem n_blindW {sz : Nat} {av : List Value} {A : Nat → Prop} : FrameBlind (va_Pc av (fun U => U.heap.size = sz ∧ k_W B ws U ∧ am_TW A U)) := by
  intro a U g mk q
  obtain ⟨q0, q1, ⟨qP, qK, qA, qD, qN⟩, ⟨t1, t2, t3, t4⟩, t5⟩ := q
  have hal : U.vm.Alike (U.calling g mk a).vm := Vm.Alike.refl U.vm
  refine ⟨q0, q1, ⟨qP, va_K.moved (u := U) (U := U.calling g mk a) hal qK, va_AO.moved (u := U) (U := U.calling g mk a) hal qA, qD, am_nw_same (s := U) (U := U.calling g mk a) rfl qN⟩, ⟨vx_Zq.moved hal t1, vx_Zq.moved hal t2, fun q hq => ?_, fun w hw => ?_⟩, fun a ha b hb hab => am_Nc_moved hal (t5 a ha b hb hab)⟩
  · obtain ⟨a, ha⟩ := t3 q hq
    exact ⟨a, ha⟩
  · exact va_tabs (u := U) (U := U.calling g mk a) (am_tw_on w hw) rfl (t4 w hw)
theorem n_callW {M' : am_M} {hh : List (Nat × Nat × Nat × Nat)} {idx na : Nat} {As rest : List Value} {w1 w2 w3 : va_W} {Q' : Int32 → va_W → Prop} (hd : decode M.2.1 pc = .ok (.invokestatic idx, 3)) (hlk : n_lk M.1.cls idx M' hh na) (hlen : As.length = na) (hrest : rest.length ≤ 4) (hst : st = As.reverse ++ rest) (hw : ws = w1 ++ w2 ++ w3) (hc : nc + 1 ≤ mc) (hs : ns + 6 ≤ ms)
    (hE : ∀ p e R s m args below meth c A Z, E p e R s m args below meth c A Z → am_TW A s) (hC : n_C B d M' hh As w2 Q') (hk : ∀ (r : Int32) (w4 : va_W), Q' r w4 → am_N B (d + 1) M mc ms E (pc + 3) lo (.int r :: rest) (w1 ++ w4 ++ w3) (nc + 1) (ns + 6)) : am_N B (d + 1) M mc ms E pc lo st ws nc ns := by
  intro p e R s m args below meth c A Z H locs ls X hH hL
  obtain ⟨hx, hb, hr, hml, hown, hts, hlocks, hnm⟩ := id X.1
  obtain ⟨h1, h2, h3, h4, h5, h6, h7⟩ := id hlk
  subst hw
  have hF := k_sub hH.2.1 X.2.1.1 hH.2.2
  have hA : ∀ q, H.size ≤ q → A q := fun q h => X.2.1.1 q (Nat.le_trans hH.2.2.1 h)
  have hTW := hE p e R s m args below meth c A Z X.2.2.2
  have hgood : GoodIn am_T (va_wsS M.1.cls idx M'.1 (n_w M' hh)) := k_gin (fun w hw => by
    simp only [va_wsS, n_w, List.mem_append, List.mem_cons, List.not_mem_nil, or_false] at hw
    rcases hw with hw | hw | hw
    · rcases hw with rfl | rfl | rfl
      · assumption
      · assumption
      · assumption
    · rw [hw]; exact h1
    · exact hw)
  have hrun := vx_runSW (e := e) (below := below) (meth := meth) (cells := nc) (slots := ns) (locs := locs) (H := H) (As := As) (rest := rest) (g := F0 m pc ls st) (index := idx) (n := na) (bytes := M'.2.1) (maxL := M'.2.2.1) (ret := M'.2.2.2) (hh := hh) ⟨hx, hb, hml, hown, hts⟩ (hC H.size)
    (vx_cwSW na hts hgood rfl rfl rfl h5 ⟨by show d + 1 ≤ R.frames; exact X.2.2.1.1, by show 8 + (M'.2.2.1 + 11) + 41 * d ≤ R.locals; have := X.2.2.1.2.1; omega⟩)
    ⟨n_blindW, fun U hU hW => ⟨rfl, (n_preB X hH hU hW).1, (n_preB X hH hU hW).2, hTW.move hH.2.2 hU hW hF⟩⟩ rfl hlen hL.1 hst (lv_room (by have := k_cats rest (fun v _ => k_cat2 v); omega)) hd ⟨Nat.le_trans hc X.2.2.1.2.2.1, Nat.le_trans hs X.2.2.1.2.2.2⟩
  refine va_calli hrun hH.2.2 (fun q _ h => hF q h) hF (fun r u t H1 locs1 ht hvm hw hB hz hk1 hS => ?_)
  obtain ⟨g1, g2⟩ := k_frame hH.1 hH.2.1 hk1 (by rw [← ht]; exact hB.1) hw.2 hA
  exact hk r u hw.1 p e R s m args below meth c A Z H1 locs1 ls X ⟨g1, g2, hS⟩ hL
end NC
