section AMR
variable {G : am_G} {d : Nat} {M : am_M} {TH : Nat → List (Option am_V) → List am_V → am_I → Prop} {Q : Option Int32 → am_I → Prop} {pc : Nat} {lo : List (Option am_V)} {st : List am_V} {I : am_I}
theorem am_exit (h : TH pc lo st I) : am_J G d M TH Q pc lo st I := fun _ _ _ _ _ _ _ _ _ _ _ _ _ _ _ _ X hH hL => X.2.2.2.2 _ _ _ _ _ _ _ h hH hL
theorem am_iconst {z : Int} {v : Int32} (hd : decode M.2.1 pc = .ok (.iconst z, 1)) (hv : Int32.ofInt z = v) (hk : am_J G d M TH Q (pc + 1) lo (.inl v :: st) I) : am_J G d M TH Q pc lo st I := by
  intro p e R s m args below meth c A Z cells slots H locs ls X hH hL
  obtain ⟨hx, hb, hr, hml, hown, hts, hlocks⟩ := X.1
  exact lv_iconst hx hb hd hv (hk p e R s m args below meth c A Z cells slots H locs ls X hH hL)
theorem am_bipush {z : Int} {v : Int32} (hd : decode M.2.1 pc = .ok (.bipush z, 2)) (hv : (Int8.ofInt z).toInt32 = v) (hk : am_J G d M TH Q (pc + 2) lo (.inl v :: st) I) : am_J G d M TH Q pc lo st I := by
  intro p e R s m args below meth c A Z cells slots H locs ls X hH hL
  obtain ⟨hx, hb, hr, hml, hown, hts, hlocks⟩ := X.1
  exact lv_bipush hx hb hd hv (hk p e R s m args below meth c A Z cells slots H locs ls X hH hL)
theorem am_sipush {z : Int} {v : Int32} (hd : decode M.2.1 pc = .ok (.sipush z, 3)) (hv : (Int16.ofInt z).toInt32 = v) (hk : am_J G d M TH Q (pc + 3) lo (.inl v :: st) I) : am_J G d M TH Q pc lo st I := by
  intro p e R s m args below meth c A Z cells slots H locs ls X hH hL
  obtain ⟨hx, hb, hr, hml, hown, hts, hlocks⟩ := X.1
  exact lv_sipush hx hb hd hv (hk p e R s m args below meth c A Z cells slots H locs ls X hH hL)
theorem am_ldc {z : Nat} {v : Int32} (hd : decode M.2.1 pc = .ok (.ldc z, 2)) (hc : Cond.constant M.1.cls z v ∈ am_T) (hk : am_J G d M TH Q (pc + 2) lo (.inl v :: st) I) : am_J G d M TH Q pc lo st I := by
  intro p e R s m args below meth c A Z cells slots H locs ls X hH hL
  obtain ⟨hx, hb, hr, hml, hown, hts, hlocks⟩ := X.1
  exact lv_ldc hx hb hown (hts _ (List.mem_cons_of_mem _ hc)) hd (hk p e R s m args below meth c A Z cells slots H locs ls X hH hL)
theorem am_ldcw {z : Nat} {v : Int32} (hd : decode M.2.1 pc = .ok (.ldc_w z, 3)) (hc : Cond.constant M.1.cls z v ∈ am_T) (hk : am_J G d M TH Q (pc + 3) lo (.inl v :: st) I) : am_J G d M TH Q pc lo st I := by
  intro p e R s m args below meth c A Z cells slots H locs ls X hH hL
  obtain ⟨hx, hb, hr, hml, hown, hts, hlocks⟩ := X.1
  exact lv_ldcw hx hb hown (hts _ (List.mem_cons_of_mem _ hc)) hd (hk p e R s m args below meth c A Z cells slots H locs ls X hH hL)
theorem am_iload_n {k : Fin 4} {x : Int32} (hd : decode M.2.1 pc = .ok (.iload_n k, 1)) (hl : lo[(k : Nat)]? = some (some (.inl x))) (hk : am_J G d M TH Q (pc + 1) lo (.inl x :: st) I) : am_J G d M TH Q pc lo st I := by
  intro p e R s m args below meth c A Z cells slots H locs ls X hH hL
  obtain ⟨hx, hb, hr, hml, hown, hts, hlocks⟩ := X.1
  exact lv_iload_n hx hb hd rfl (hL.2.2.2 _ _ hl) (hk p e R s m args below meth c A Z cells slots H locs ls X hH hL)
theorem am_iload {k : Nat} {x : Int32} (hd : decode M.2.1 pc = .ok (.iload k, 2)) (hl : lo[k]? = some (some (.inl x))) (hk : am_J G d M TH Q (pc + 2) lo (.inl x :: st) I) : am_J G d M TH Q pc lo st I := by
  intro p e R s m args below meth c A Z cells slots H locs ls X hH hL
  obtain ⟨hx, hb, hr, hml, hown, hts, hlocks⟩ := X.1
  exact lv_iload hx hb hd (hL.2.2.2 _ _ hl) (hk p e R s m args below meth c A Z cells slots H locs ls X hH hL)
theorem am_aload_n {k : Fin 4} {x : Nat × Nat} (hd : decode M.2.1 pc = .ok (.aload_n k, 1)) (hl : lo[(k : Nat)]? = some (some (.inr x))) (hk : am_J G d M TH Q (pc + 1) lo (.inr x :: st) I) : am_J G d M TH Q pc lo st I := by
  intro p e R s m args below meth c A Z cells slots H locs ls X hH hL
  obtain ⟨hx, hb, hr, hml, hown, hts, hlocks⟩ := X.1
  exact lv_aload_n hx hb hd rfl (hL.2.2.2 _ _ hl) (hk p e R s m args below meth c A Z cells slots H locs ls X hH hL)
theorem am_aload {k : Nat} {x : Nat × Nat} (hd : decode M.2.1 pc = .ok (.aload k, 2)) (hl : lo[k]? = some (some (.inr x))) (hk : am_J G d M TH Q (pc + 2) lo (.inr x :: st) I) : am_J G d M TH Q pc lo st I := by
  intro p e R s m args below meth c A Z cells slots H locs ls X hH hL
  obtain ⟨hx, hb, hr, hml, hown, hts, hlocks⟩ := X.1
  exact lv_aload hx hb hd (hL.2.2.2 _ _ hl) (hk p e R s m args below meth c A Z cells slots H locs ls X hH hL)
def am_lv (G : am_G) (lo : List (Option am_V)) : List (Nat × Value) := (List.range lo.length).filterMap (fun i => match lo[i]? with | some (some v) => some (i, am_val G v) | _ => none)
theorem am_lv_mem {i : Nat} {v : am_V} (h : lo[i]? = some (some v)) : (i, am_val G v) ∈ am_lv G lo := by
  refine List.mem_filterMap.mpr ⟨i, List.mem_range.mpr (List.getElem?_eq_some_iff.mp h).1, ?_⟩
  simp [h]
theorem am_lv_of {q : Nat × Value} (h : q ∈ am_lv G lo) : ∃ v : am_V, lo[q.1]? = some (some v) ∧ q.2 = am_val G v := by
  obtain ⟨i, -, hi⟩ := List.mem_filterMap.mp h
  cases hl : lo[i]? with
  | none => rw [hl] at hi; cases hi
  | some w =>
    cases w with
    | none => rw [hl] at hi; cases hi
    | some v => rw [hl] at hi; cases hi; exact ⟨v, hl, rfl⟩
theorem am_val_cat (v : am_V) : (am_val G v).category = 1 := by cases v <;> rfl
theorem am_L.has {ls : Array Slot} (h : am_L G M ls lo) : lv_has ls M.2.2.1 (am_lv G lo) := by
  refine ⟨h.1, h.2.1, fun q hq => ?_⟩
  obtain ⟨v, h1, h2⟩ := am_lv_of hq
  rw [h2]
  exact h.2.2.2 _ _ h1
theorem am_L.store {ls ls' : Array Slot} {k : Nat} {v : am_V} (h : am_L G M ls lo) (h' : lv_has ls' M.2.2.1 ((k, am_val G v) :: (am_lv G lo).filter (fun q => !(q.1 == k) && !(q.1 + 1 == k && q.2.category == 2)))) : am_L G M ls' (lo.set k (some v)) := by
  refine ⟨h'.1, h'.2.1, by rw [List.length_set]; exact h.2.2.1, fun i w hi => ?_⟩
  by_cases hik : k = i
  · subst hik
    have hk : k < lo.length := by
      have := (List.getElem?_eq_some_iff.mp hi).1
      rwa [List.length_set] at this
    rw [List.getElem?_set_self hk] at hi
    cases hi
    exact h'.2.2 (k, am_val G v) List.mem_cons_self
  · rw [List.getElem?_set_ne hik] at hi
    refine h'.2.2 (i, am_val G w) (List.mem_cons_of_mem _ (List.mem_filter.mpr ⟨am_lv_mem hi, ?_⟩))
    have : (am_val G w).category = 1 := am_val_cat w
    simp [this, Ne.symm hik]
theorem am_istore_n {k : Fin 4} {x : Int32} (hd : decode M.2.1 pc = .ok (.istore_n k, 1)) (hn : (k : Nat) < M.2.2.1) (hk : am_J G d M TH Q (pc + 1) (lo.set (k : Nat) (some (.inl x))) st I) : am_J G d M TH Q pc lo (.inl x :: st) I := by
  intro p e R s m args below meth c A Z cells slots H locs ls X hH hL
  obtain ⟨hx, hb, hr, hml, hown, hts, hlocks⟩ := X.1
  exact lv_istore_n hx hb hd rfl hL.has hn rfl (fun ls' hl' => hk p e R s m args below meth c A Z cells slots H locs ls' X hH (hL.store (v := .inl x) hl'))
theorem am_istore {k : Nat} {x : Int32} (hd : decode M.2.1 pc = .ok (.istore k, 2)) (hn : k < M.2.2.1) (hk : am_J G d M TH Q (pc + 2) (lo.set k (some (.inl x))) st I) : am_J G d M TH Q pc lo (.inl x :: st) I := by
  intro p e R s m args below meth c A Z cells slots H locs ls X hH hL
  obtain ⟨hx, hb, hr, hml, hown, hts, hlocks⟩ := X.1
  exact lv_istore hx hb hd hL.has hn rfl (fun ls' hl' => hk p e R s m args below meth c A Z cells slots H locs ls' X hH (hL.store (v := .inl x) hl'))
theorem am_astore_n {k : Fin 4} {x : Nat × Nat} (hd : decode M.2.1 pc = .ok (.astore_n k, 1)) (hn : (k : Nat) < M.2.2.1) (hk : am_J G d M TH Q (pc + 1) (lo.set (k : Nat) (some (.inr x))) st I) : am_J G d M TH Q pc lo (.inr x :: st) I := by
  intro p e R s m args below meth c A Z cells slots H locs ls X hH hL
  obtain ⟨hx, hb, hr, hml, hown, hts, hlocks⟩ := X.1
  exact lv_astore_n hx hb hd rfl hL.has hn rfl (fun ls' hl' => hk p e R s m args below meth c A Z cells slots H locs ls' X hH (hL.store (v := .inr x) hl'))
theorem am_astore {k : Nat} {x : Nat × Nat} (hd : decode M.2.1 pc = .ok (.astore k, 2)) (hn : k < M.2.2.1) (hk : am_J G d M TH Q (pc + 2) (lo.set k (some (.inr x))) st I) : am_J G d M TH Q pc lo (.inr x :: st) I := by
  intro p e R s m args below meth c A Z cells slots H locs ls X hH hL
  obtain ⟨hx, hb, hr, hml, hown, hts, hlocks⟩ := X.1
  exact lv_astore hx hb hd hL.has hn rfl (fun ls' hl' => hk p e R s m args below meth c A Z cells slots H locs ls' X hH (hL.store (v := .inr x) hl'))
theorem am_iinc {k : Nat} {z : Int} {x v : Int32} (hd : decode M.2.1 pc = .ok (.iinc k z, 3)) (hl : lo[k]? = some (some (.inl x))) (hv : x + Int32.ofInt z = v) (hk : am_J G d M TH Q (pc + 3) (lo.set k (some (.inl v))) st I) : am_J G d M TH Q pc lo st I := by
  intro p e R s m args below meth c A Z cells slots H locs ls X hH hL
  obtain ⟨hx, hb, hr, hml, hown, hts, hlocks⟩ := X.1
  have hn : k < M.2.2.1 := by rw [← hL.2.2.1]; exact (List.getElem?_eq_some_iff.mp hl).1
  obtain ⟨q, hq⟩ := List.getElem?_of_mem (am_lv_mem (G := G) hl)
  exact lv_iinc hx hb hd hL.has hq hv hn rfl (fun ls' hl' => hk p e R s m args below meth c A Z cells slots H locs ls' X hH (hL.store (v := .inl v) hl'))
theorem am_iadd {x y : Int32} (hd : decode M.2.1 pc = .ok (.iadd, 1)) (hk : am_J G d M TH Q (pc + 1) lo (.inl (x + y) :: st) I) : am_J G d M TH Q pc lo (.inl y :: .inl x :: st) I := by
  intro p e R s m args below meth c A Z cells slots H locs ls X hH hL
  obtain ⟨hx, hb, hr, hml, hown, hts, hlocks⟩ := X.1
  exact lv_iadd hx hb hd (hk p e R s m args below meth c A Z cells slots H locs ls X hH hL)
theorem am_isub {x y : Int32} (hd : decode M.2.1 pc = .ok (.isub, 1)) (hk : am_J G d M TH Q (pc + 1) lo (.inl (x - y) :: st) I) : am_J G d M TH Q pc lo (.inl y :: .inl x :: st) I := by
  intro p e R s m args below meth c A Z cells slots H locs ls X hH hL
  obtain ⟨hx, hb, hr, hml, hown, hts, hlocks⟩ := X.1
  exact lv_isub hx hb hd (hk p e R s m args below meth c A Z cells slots H locs ls X hH hL)
theorem am_imul {x y : Int32} (hd : decode M.2.1 pc = .ok (.imul, 1)) (hk : am_J G d M TH Q (pc + 1) lo (.inl (x * y) :: st) I) : am_J G d M TH Q pc lo (.inl y :: .inl x :: st) I := by
  intro p e R s m args below meth c A Z cells slots H locs ls X hH hL
  obtain ⟨hx, hb, hr, hml, hown, hts, hlocks⟩ := X.1
  exact lv_imul hx hb hd (hk p e R s m args below meth c A Z cells slots H locs ls X hH hL)
theorem am_iand {x y : Int32} (hd : decode M.2.1 pc = .ok (.iand, 1)) (hk : am_J G d M TH Q (pc + 1) lo (.inl (x &&& y) :: st) I) : am_J G d M TH Q pc lo (.inl y :: .inl x :: st) I := by
  intro p e R s m args below meth c A Z cells slots H locs ls X hH hL
  obtain ⟨hx, hb, hr, hml, hown, hts, hlocks⟩ := X.1
  exact lv_iand hx hb hd (hk p e R s m args below meth c A Z cells slots H locs ls X hH hL)
theorem am_ior {x y : Int32} (hd : decode M.2.1 pc = .ok (.ior, 1)) (hk : am_J G d M TH Q (pc + 1) lo (.inl (x ||| y) :: st) I) : am_J G d M TH Q pc lo (.inl y :: .inl x :: st) I := by
  intro p e R s m args below meth c A Z cells slots H locs ls X hH hL
  obtain ⟨hx, hb, hr, hml, hown, hts, hlocks⟩ := X.1
  exact lv_ior hx hb hd (hk p e R s m args below meth c A Z cells slots H locs ls X hH hL)
theorem am_ixor {x y : Int32} (hd : decode M.2.1 pc = .ok (.ixor, 1)) (hk : am_J G d M TH Q (pc + 1) lo (.inl (x ^^^ y) :: st) I) : am_J G d M TH Q pc lo (.inl y :: .inl x :: st) I := by
  intro p e R s m args below meth c A Z cells slots H locs ls X hH hL
  obtain ⟨hx, hb, hr, hml, hown, hts, hlocks⟩ := X.1
  exact lv_ixor hx hb hd (hk p e R s m args below meth c A Z cells slots H locs ls X hH hL)
theorem am_ishl {x y : Int32} (hd : decode M.2.1 pc = .ok (.ishl, 1)) (hk : am_J G d M TH Q (pc + 1) lo (.inl (x <<< (y &&& 31)) :: st) I) : am_J G d M TH Q pc lo (.inl y :: .inl x :: st) I := by
  intro p e R s m args below meth c A Z cells slots H locs ls X hH hL
  obtain ⟨hx, hb, hr, hml, hown, hts, hlocks⟩ := X.1
  exact lv_ishl hx hb hd (hk p e R s m args below meth c A Z cells slots H locs ls X hH hL)
theorem am_ishr {x y : Int32} (hd : decode M.2.1 pc = .ok (.ishr, 1)) (hk : am_J G d M TH Q (pc + 1) lo (.inl (x >>> (y &&& 31)) :: st) I) : am_J G d M TH Q pc lo (.inl y :: .inl x :: st) I := by
  intro p e R s m args below meth c A Z cells slots H locs ls X hH hL
  obtain ⟨hx, hb, hr, hml, hown, hts, hlocks⟩ := X.1
  exact lv_ishr hx hb hd (hk p e R s m args below meth c A Z cells slots H locs ls X hH hL)
theorem am_iushr {x y : Int32} (hd : decode M.2.1 pc = .ok (.iushr, 1)) (hk : am_J G d M TH Q (pc + 1) lo (.inl ((x.toUInt32 >>> (y.toUInt32 &&& Int32.toUInt32 31)).toInt32) :: st) I) : am_J G d M TH Q pc lo (.inl y :: .inl x :: st) I := by
  intro p e R s m args below meth c A Z cells slots H locs ls X hH hL
  obtain ⟨hx, hb, hr, hml, hown, hts, hlocks⟩ := X.1
  exact lv_iushr hx hb hd rfl (hk p e R s m args below meth c A Z cells slots H locs ls X hH hL)
theorem am_ineg {x : Int32} (hd : decode M.2.1 pc = .ok (.ineg, 1)) (hk : am_J G d M TH Q (pc + 1) lo (.inl (-x) :: st) I) : am_J G d M TH Q pc lo (.inl x :: st) I := by
  intro p e R s m args below meth c A Z cells slots H locs ls X hH hL
  obtain ⟨hx, hb, hr, hml, hown, hts, hlocks⟩ := X.1
  exact lv_ineg hx hb hd (hk p e R s m args below meth c A Z cells slots H locs ls X hH hL)
theorem am_idiv {x y : Int32} (hd : decode M.2.1 pc = .ok (.idiv, 1)) (hne : ¬ y = 0) (hk : am_J G d M TH Q (pc + 1) lo (.inl (x / y) :: st) I) : am_J G d M TH Q pc lo (.inl y :: .inl x :: st) I := by
  intro p e R s m args below meth c A Z cells slots H locs ls X hH hL
  obtain ⟨hx, hb, hr, hml, hown, hts, hlocks⟩ := X.1
  exact lv_idiv hx hb hd hne (hk p e R s m args below meth c A Z cells slots H locs ls X hH hL)
theorem am_irem {x y : Int32} (hd : decode M.2.1 pc = .ok (.irem, 1)) (hne : ¬ y = 0) (hk : am_J G d M TH Q (pc + 1) lo (.inl (x - x / y * y) :: st) I) : am_J G d M TH Q pc lo (.inl y :: .inl x :: st) I := by
  intro p e R s m args below meth c A Z cells slots H locs ls X hH hL
  obtain ⟨hx, hb, hr, hml, hown, hts, hlocks⟩ := X.1
  exact lv_irem hx hb hd hne (hk p e R s m args below meth c A Z cells slots H locs ls X hH hL)
theorem am_top {x y : Int32} (h : x = y) (hk : am_J G d M TH Q pc lo (.inl y :: st) I) : am_J G d M TH Q pc lo (.inl x :: st) I := by
  intro p e R s m args below meth c A Z cells slots H locs ls X hH hL
  obtain ⟨hx, hb, hr, hml, hown, hts, hlocks⟩ := X.1
  rw [h]
  exact hk p e R s m args below meth c A Z cells slots H locs ls X hH hL
theorem am_dup {x : am_V} (hd : decode M.2.1 pc = .ok (.dup, 1)) (hk : am_J G d M TH Q (pc + 1) lo (x :: x :: st) I) : am_J G d M TH Q pc lo (x :: st) I := by
  intro p e R s m args below meth c A Z cells slots H locs ls X hH hL
  obtain ⟨hx, hb, hr, hml, hown, hts, hlocks⟩ := X.1
  exact lv_dup hx hb hd (am_val_cat x) (hk p e R s m args below meth c A Z cells slots H locs ls X hH hL)
theorem am_pop {x : am_V} (hd : decode M.2.1 pc = .ok (.pop, 1)) (hk : am_J G d M TH Q (pc + 1) lo st I) : am_J G d M TH Q pc lo (x :: st) I := by
  intro p e R s m args below meth c A Z cells slots H locs ls X hH hL
  obtain ⟨hx, hb, hr, hml, hown, hts, hlocks⟩ := X.1
  exact lv_pop hx hb hd (am_val_cat x) (hk p e R s m args below meth c A Z cells slots H locs ls X hH hL)
theorem am_dup2 {x y : am_V} (hd : decode M.2.1 pc = .ok (.dup2, 1)) (hk : am_J G d M TH Q (pc + 1) lo (x :: y :: x :: y :: st) I) : am_J G d M TH Q pc lo (x :: y :: st) I := by
  intro p e R s m args below meth c A Z cells slots H locs ls X hH hL
  obtain ⟨hx, hb, hr, hml, hown, hts, hlocks⟩ := X.1
  exact lv_dup2_11 hx hb hd (am_val_cat x) (am_val_cat y) (hk p e R s m args below meth c A Z cells slots H locs ls X hH hL)
theorem am_dup_x1 {x y : am_V} (hd : decode M.2.1 pc = .ok (.dup_x1, 1)) (hk : am_J G d M TH Q (pc + 1) lo (x :: y :: x :: st) I) : am_J G d M TH Q pc lo (x :: y :: st) I := by
  intro p e R s m args below meth c A Z cells slots H locs ls X hH hL
  obtain ⟨hx, hb, hr, hml, hown, hts, hlocks⟩ := X.1
  exact lv_dup_x1 hx hb hd (am_val_cat x) (am_val_cat y) (hk p e R s m args below meth c A Z cells slots H locs ls X hH hL)
theorem am_if_eq {x : Int32} {off : Int} {tgt : Nat} (hd : decode M.2.1 pc = .ok (.ifCond .eq off, 3)) (ht : (pc : Int) + off = (tgt : Int)) (kt : x = 0 → am_J G d M TH Q tgt lo st I) (kf : ¬ x = 0 → am_J G d M TH Q (pc + 3) lo st I) : am_J G d M TH Q pc lo (.inl x :: st) I := by
  intro p e R s m args below meth c A Z cells slots H locs ls X hH hL
  obtain ⟨hx, hb, hr, hml, hown, hts, hlocks⟩ := X.1
  exact lv_if_eq hx hb hd ht (fun h => kt h p e R s m args below meth c A Z cells slots H locs ls X hH hL) (fun h => kf h p e R s m args below meth c A Z cells slots H locs ls X hH hL)
theorem am_icmp_eq {x y : Int32} {off : Int} {tgt : Nat} (hd : decode M.2.1 pc = .ok (.if_icmp .eq off, 3)) (ht : (pc : Int) + off = (tgt : Int)) (kt : x = y → am_J G d M TH Q tgt lo st I) (kf : ¬ x = y → am_J G d M TH Q (pc + 3) lo st I) : am_J G d M TH Q pc lo (.inl y :: .inl x :: st) I := by
  intro p e R s m args below meth c A Z cells slots H locs ls X hH hL
  obtain ⟨hx, hb, hr, hml, hown, hts, hlocks⟩ := X.1
  exact lv_icmp_eq hx hb hd ht (fun h => kt h p e R s m args below meth c A Z cells slots H locs ls X hH hL) (fun h => kf h p e R s m args below meth c A Z cells slots H locs ls X hH hL)
theorem am_if_ne {x : Int32} {off : Int} {tgt : Nat} (hd : decode M.2.1 pc = .ok (.ifCond .ne off, 3)) (ht : (pc : Int) + off = (tgt : Int)) (kt : ¬ x = 0 → am_J G d M TH Q tgt lo st I) (kf : x = 0 → am_J G d M TH Q (pc + 3) lo st I) : am_J G d M TH Q pc lo (.inl x :: st) I := by
  intro p e R s m args below meth c A Z cells slots H locs ls X hH hL
  obtain ⟨hx, hb, hr, hml, hown, hts, hlocks⟩ := X.1
  exact lv_if_ne hx hb hd ht (fun h => kt h p e R s m args below meth c A Z cells slots H locs ls X hH hL) (fun h => kf h p e R s m args below meth c A Z cells slots H locs ls X hH hL)
theorem am_icmp_ne {x y : Int32} {off : Int} {tgt : Nat} (hd : decode M.2.1 pc = .ok (.if_icmp .ne off, 3)) (ht : (pc : Int) + off = (tgt : Int)) (kt : ¬ x = y → am_J G d M TH Q tgt lo st I) (kf : x = y → am_J G d M TH Q (pc + 3) lo st I) : am_J G d M TH Q pc lo (.inl y :: .inl x :: st) I := by
  intro p e R s m args below meth c A Z cells slots H locs ls X hH hL
  obtain ⟨hx, hb, hr, hml, hown, hts, hlocks⟩ := X.1
  exact lv_icmp_ne hx hb hd ht (fun h => kt h p e R s m args below meth c A Z cells slots H locs ls X hH hL) (fun h => kf h p e R s m args below meth c A Z cells slots H locs ls X hH hL)
theorem am_if_lt {x : Int32} {off : Int} {tgt : Nat} (hd : decode M.2.1 pc = .ok (.ifCond .lt off, 3)) (ht : (pc : Int) + off = (tgt : Int)) (kt : x < 0 → am_J G d M TH Q tgt lo st I) (kf : ¬ x < 0 → am_J G d M TH Q (pc + 3) lo st I) : am_J G d M TH Q pc lo (.inl x :: st) I := by
  intro p e R s m args below meth c A Z cells slots H locs ls X hH hL
  obtain ⟨hx, hb, hr, hml, hown, hts, hlocks⟩ := X.1
  exact lv_if_lt hx hb hd ht (fun h => kt h p e R s m args below meth c A Z cells slots H locs ls X hH hL) (fun h => kf h p e R s m args below meth c A Z cells slots H locs ls X hH hL)
theorem am_icmp_lt {x y : Int32} {off : Int} {tgt : Nat} (hd : decode M.2.1 pc = .ok (.if_icmp .lt off, 3)) (ht : (pc : Int) + off = (tgt : Int)) (kt : x < y → am_J G d M TH Q tgt lo st I) (kf : ¬ x < y → am_J G d M TH Q (pc + 3) lo st I) : am_J G d M TH Q pc lo (.inl y :: .inl x :: st) I := by
  intro p e R s m args below meth c A Z cells slots H locs ls X hH hL
  obtain ⟨hx, hb, hr, hml, hown, hts, hlocks⟩ := X.1
  exact lv_icmp_lt hx hb hd ht (fun h => kt h p e R s m args below meth c A Z cells slots H locs ls X hH hL) (fun h => kf h p e R s m args below meth c A Z cells slots H locs ls X hH hL)
theorem am_if_ge {x : Int32} {off : Int} {tgt : Nat} (hd : decode M.2.1 pc = .ok (.ifCond .ge off, 3)) (ht : (pc : Int) + off = (tgt : Int)) (kt : 0 ≤ x → am_J G d M TH Q tgt lo st I) (kf : ¬ 0 ≤ x → am_J G d M TH Q (pc + 3) lo st I) : am_J G d M TH Q pc lo (.inl x :: st) I := by
  intro p e R s m args below meth c A Z cells slots H locs ls X hH hL
  obtain ⟨hx, hb, hr, hml, hown, hts, hlocks⟩ := X.1
  exact lv_if_ge hx hb hd ht (fun h => kt h p e R s m args below meth c A Z cells slots H locs ls X hH hL) (fun h => kf h p e R s m args below meth c A Z cells slots H locs ls X hH hL)
theorem am_icmp_ge {x y : Int32} {off : Int} {tgt : Nat} (hd : decode M.2.1 pc = .ok (.if_icmp .ge off, 3)) (ht : (pc : Int) + off = (tgt : Int)) (kt : y ≤ x → am_J G d M TH Q tgt lo st I) (kf : ¬ y ≤ x → am_J G d M TH Q (pc + 3) lo st I) : am_J G d M TH Q pc lo (.inl y :: .inl x :: st) I := by
  intro p e R s m args below meth c A Z cells slots H locs ls X hH hL
  obtain ⟨hx, hb, hr, hml, hown, hts, hlocks⟩ := X.1
  exact lv_icmp_ge hx hb hd ht (fun h => kt h p e R s m args below meth c A Z cells slots H locs ls X hH hL) (fun h => kf h p e R s m args below meth c A Z cells slots H locs ls X hH hL)
theorem am_if_gt {x : Int32} {off : Int} {tgt : Nat} (hd : decode M.2.1 pc = .ok (.ifCond .gt off, 3)) (ht : (pc : Int) + off = (tgt : Int)) (kt : 0 < x → am_J G d M TH Q tgt lo st I) (kf : ¬ 0 < x → am_J G d M TH Q (pc + 3) lo st I) : am_J G d M TH Q pc lo (.inl x :: st) I := by
  intro p e R s m args below meth c A Z cells slots H locs ls X hH hL
  obtain ⟨hx, hb, hr, hml, hown, hts, hlocks⟩ := X.1
  exact lv_if_gt hx hb hd ht (fun h => kt h p e R s m args below meth c A Z cells slots H locs ls X hH hL) (fun h => kf h p e R s m args below meth c A Z cells slots H locs ls X hH hL)
theorem am_icmp_gt {x y : Int32} {off : Int} {tgt : Nat} (hd : decode M.2.1 pc = .ok (.if_icmp .gt off, 3)) (ht : (pc : Int) + off = (tgt : Int)) (kt : y < x → am_J G d M TH Q tgt lo st I) (kf : ¬ y < x → am_J G d M TH Q (pc + 3) lo st I) : am_J G d M TH Q pc lo (.inl y :: .inl x :: st) I := by
  intro p e R s m args below meth c A Z cells slots H locs ls X hH hL
  obtain ⟨hx, hb, hr, hml, hown, hts, hlocks⟩ := X.1
  exact lv_icmp_gt hx hb hd ht (fun h => kt h p e R s m args below meth c A Z cells slots H locs ls X hH hL) (fun h => kf h p e R s m args below meth c A Z cells slots H locs ls X hH hL)
theorem am_if_le {x : Int32} {off : Int} {tgt : Nat} (hd : decode M.2.1 pc = .ok (.ifCond .le off, 3)) (ht : (pc : Int) + off = (tgt : Int)) (kt : x ≤ 0 → am_J G d M TH Q tgt lo st I) (kf : ¬ x ≤ 0 → am_J G d M TH Q (pc + 3) lo st I) : am_J G d M TH Q pc lo (.inl x :: st) I := by
  intro p e R s m args below meth c A Z cells slots H locs ls X hH hL
  obtain ⟨hx, hb, hr, hml, hown, hts, hlocks⟩ := X.1
  exact lv_if_le hx hb hd ht (fun h => kt h p e R s m args below meth c A Z cells slots H locs ls X hH hL) (fun h => kf h p e R s m args below meth c A Z cells slots H locs ls X hH hL)
theorem am_icmp_le {x y : Int32} {off : Int} {tgt : Nat} (hd : decode M.2.1 pc = .ok (.if_icmp .le off, 3)) (ht : (pc : Int) + off = (tgt : Int)) (kt : x ≤ y → am_J G d M TH Q tgt lo st I) (kf : ¬ x ≤ y → am_J G d M TH Q (pc + 3) lo st I) : am_J G d M TH Q pc lo (.inl y :: .inl x :: st) I := by
  intro p e R s m args below meth c A Z cells slots H locs ls X hH hL
  obtain ⟨hx, hb, hr, hml, hown, hts, hlocks⟩ := X.1
  exact lv_icmp_le hx hb hd ht (fun h => kt h p e R s m args below meth c A Z cells slots H locs ls X hH hL) (fun h => kf h p e R s m args below meth c A Z cells slots H locs ls X hH hL)
theorem am_goto {off : Int} {tgt : Nat} (hd : decode M.2.1 pc = .ok (.goto off, 3)) (ht : (pc : Int) + off = (tgt : Int)) (hk : am_J G d M TH Q tgt lo st I) : am_J G d M TH Q pc lo st I := by
  intro p e R s m args below meth c A Z cells slots H locs ls X hH hL
  obtain ⟨hx, hb, hr, hml, hown, hts, hlocks⟩ := X.1
  exact lv_goto hx hb hd ht (hk p e R s m args below meth c A Z cells slots H locs ls X hH hL)
theorem am_tabIn {dflt lw hi : Int} {offs : Array Int} {len : Nat} {x : Int32} {off : Int} {tgt : Nat} (hd : decode M.2.1 pc = .ok (.tableswitch dflt lw hi offs, len)) (h1 : ¬ x.toInt < lw) (h2 : ¬ hi < x.toInt) (ho : offs[(x.toInt - lw).toNat]? = some off) (ht : (pc : Int) + off = (tgt : Int)) (hk : am_J G d M TH Q tgt lo st I) : am_J G d M TH Q pc lo (.inl x :: st) I := by
  intro p e R s m args below meth c A Z cells slots H locs ls X hH hL
  obtain ⟨hx, hb, hr, hml, hown, hts, hlocks⟩ := X.1
  exact lv_tableIn hx hb hd h1 h2 ho ht (hk p e R s m args below meth c A Z cells slots H locs ls X hH hL)
theorem am_tabOut {dflt lw hi : Int} {offs : Array Int} {len : Nat} {x : Int32} {tgt : Nat} (hd : decode M.2.1 pc = .ok (.tableswitch dflt lw hi offs, len)) (h : x.toInt < lw ∨ hi < x.toInt) (ht : (pc : Int) + dflt = (tgt : Int)) (hk : am_J G d M TH Q tgt lo st I) : am_J G d M TH Q pc lo (.inl x :: st) I := by
  intro p e R s m args below meth c A Z cells slots H locs ls X hH hL
  obtain ⟨hx, hb, hr, hml, hown, hts, hlocks⟩ := X.1
  exact lv_tableOut hx hb hd h ht (hk p e R s m args below meth c A Z cells slots H locs ls X hH hL)
end AMR
