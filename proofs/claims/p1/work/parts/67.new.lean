/-- two entries with the same cell -/
def k_eqE (a b : va_E) : Prop := a = b ∨ (∃ (c : ClassId) (n : Nat) (f g : Nat → Int32), a = .inl (c, n, .inl f) ∧ b = .inl (c, n, .inl g) ∧ ∀ k, k < n → f k = g k) ∨ (∃ (c : ClassId) (n : Nat) (f g : Nat → Option Nat), a = .inl (c, n, .inr (.inr (.inr (.inr f)))) ∧ b = .inl (c, n, .inr (.inr (.inr (.inr g)))) ∧ ∀ k, k < n → f k = g k)
def k_eq : va_W → va_W → Prop
  | [], [] => True
  | x :: xs, y :: ys => (x.1 = y.1 ∧ k_eqE x.2 y.2) ∧ k_eq xs ys
  | _, _ => False
theorem k_eq.rf : ∀ ws : va_W, k_eq ws ws
  | [] => trivial
  | _ :: xs => ⟨⟨rfl, Or.inl rfl⟩, k_eq.rf xs⟩
theorem k_eq.app : ∀ {a b c d : va_W}, k_eq a b → k_eq c d → k_eq (a ++ c) (b ++ d)
  | [], [], _, _, _, h => h
  | _ :: _, _ :: _, _, _, h1, h => ⟨h1.1, k_eq.app h1.2 h⟩
  | [], _ :: _, _, _, h1, _ => h1.elim
  | _ :: _, [], _, _, h1, _ => h1.elim
theorem k_eq.flat {f g : Nat → va_W} : ∀ {l : List Nat}, (∀ k ∈ l, k_eq (f k) (g k)) → k_eq (l.flatMap f) (l.flatMap g)
  | [], _ => trivial
  | x :: xs, h => by
    simp only [List.flatMap_cons]
    exact (h x List.mem_cons_self).app (k_eq.flat (fun k hk => h k (List.mem_cons_of_mem _ hk)))
theorem k_eq.fst : ∀ {a b : va_W}, k_eq a b → a.map Prod.fst = b.map Prod.fst
  | [], [], _ => rfl
  | x :: xs, y :: ys, h => by
    simp only [List.map_cons]
    rw [h.1.1, k_eq.fst h.2]
  | [], _ :: _, h => h.elim
  | _ :: _, [], h => h.elim
theorem arrV_cg {c : ClassId} {n : Nat} {f g : Nat → Value} (h : ∀ k, k < n → f k = g k) : arrV c n f = arrV c n g := by
  unfold arrV
  congr 1
  apply Array.ext'
  simp
  exact congrArg List.ofFn (funext fun j => h j j.2)
theorem k_cellI {c : ClassId} {n : Nat} {f g : Nat → Int32} (h : ∀ k, k < n → f k = g k) : vp_cell c (n, .inl f) = vp_cell c (n, .inl g) := by
  rw [vp_cell_i, vp_cell_i]
  exact arrV_cg (fun k hk => by rw [h k hk])
theorem k_cellQ {c : ClassId} {n : Nat} {f g : Nat → Option Nat} (h : ∀ k, k < n → f k = g k) : vp_cell c (n, .inr (.inr (.inr (.inr f)))) = vp_cell c (n, .inr (.inr (.inr (.inr g)))) := by
  rw [vp_cell_q, vp_cell_q]
  exact arrV_cg (fun k hk => by rw [h k hk])
theorem k_eq.at {D : va_G} {q : Nat} {a b : va_E} {H : Heap} (h : k_eqE a b) (hP : va_at D vwCl (q, a) H) : va_at D vwCl (q, b) H := by
  rcases h with rfl | ⟨c, n, f, g, rfl, rfl, h⟩ | ⟨c, n, f, g, rfl, rfl, h⟩
  · exact hP
  · show H[q]? = some _
    rw [← k_cellI h]
    exact hP
  · show H[q]? = some _
    rw [← k_cellQ h]
    exact hP
theorem k_eq.P {D : va_G} {H : Heap} : ∀ {a b : va_W}, k_eq a b → va_P D vwCl a H → va_P D vwCl b H := by
  intro a b h hP
  rw [k_P] at hP ⊢
  induction a generalizing b with
  | nil =>
    cases b with
    | nil => intro x hx; cases hx
    | cons _ _ => exact h.elim
  | cons x xs ih =>
    cases b with
    | nil => exact h.elim
    | cons y ys =>
      intro z hz
      rcases List.mem_cons.mp hz with rfl | hz
      · have h9 := hP x List.mem_cons_self
        obtain ⟨x1, x2⟩ := x
        obtain ⟨z1, z2⟩ := z
        obtain ⟨⟨e1, e2⟩, -⟩ := h
        change x1 = z1 at e1
        subst e1
        exact k_eq.at e2 h9
      · exact ih h.2 (fun z hz => hP z (List.mem_cons_of_mem _ hz)) z hz
theorem k_eq.D {A : Nat → Prop} {a b : va_W} (h : k_eq a b) (hD : va_D A a) : va_D A b := by
  rw [k_D] at hD ⊢
  refine ⟨by rw [← h.fst]; exact hD.1, fun x hx => ?_⟩
  have h1 : x.1 ∈ b.map Prod.fst := List.mem_map_of_mem hx
  rw [← h.fst] at h1
  obtain ⟨y, hy, he⟩ := List.mem_map.mp h1
  rw [← he]
  exact hD.2 y hy
/-- the world may be put otherwise -/
theorem k_to {B : k_B} {d : Nat} {M : am_M} {mc ms : Nat} {Q : Option Int32 → va_W → Prop} {pc : Nat} {lo : List (Option am_V)} {st : List Value} {ws ws' : va_W} {nc ns : Nat} (h : k_eq ws ws') (hk : am_K B d M mc ms Q pc lo st ws' nc ns) : am_K B d M mc ms Q pc lo st ws nc ns :=
  fun p e R s m args below meth c A Z H locs ls X hH hL => hk p e R s m args below meth c A Z H locs ls X ⟨h.P hH.1, h.D hH.2.1, hH.2.2⟩ hL
/-- the roles of a node, of an object of n nodes, in the order of making -/
def k_rln (i : Nat) : List (Nat × Nat) := [(i, 40), (i, 41), (i, 42), (i, 43), (i, 48), (i, 49), (i, 50), (i, 51), (i, 52), (i, 53), (i, 54), (i, 55), (i, 44), (i, 45), (i, 46), (i, 47)]
def k_rl (n : Nat) : List (Nat × Nat) := (0, 0) :: (0, 1) :: (0, 2) :: ((List.range n).flatMap k_rln ++ [(0, 3), (0, 4), (0, 5), (0, 6), (0, 7), (0, 8), (0, 9), (0, 10), (0, 11), (0, 12), (0, 13), (0, 14), (0, 15), (0, 16), (0, 17), (0, 18), (0, 19), (0, 20), (0, 21), (0, 22), (0, 23), (0, 24), (0, 25), (0, 26)])
abbrev k_Gx (B : k_B) (n : Nat) (a : Nat → Nat → Nat) : am_G := (B.1, B.2.1, a, n, k_rl n)
theorem k_dk (n : Nat) : kw_dk n = am_dk n := by
  funext k
  simp only [kw_dk, am_dk, upd]
  by_cases h0 : k = 0
  · subst h0; rfl
  · by_cases h1 : k = 1
    · subst h1; rfl
    · by_cases h2 : k = 2048
      · subst h2; rfl
      · by_cases h3 : k = 2064
        · subst h3; rfl
        · by_cases h4 : k = 2065
          · subst h4; rfl
          · simp only [h0, h1, h2, h3, h4, if_false]
            exact nI_0.symm
theorem k_fil {n : Nat} {v : Int32} {f : Nat → Int32} : ∀ k, k < n → am_fil f n v k = v := fun k hk => by simp [am_fil, hk]
theorem k_node {B : k_B} {n i : Nat} {a : Nat → Nat → Nat} : k_eq (kw_7 B i (a i)) ((k_rln i).map (fun r => (a r.1 r.2, am_cell (k_Gx B n a) (am_fr n r.1 r.2) r.1 r.2))) := by
  refine ⟨⟨rfl, Or.inl rfl⟩, ⟨rfl, Or.inl rfl⟩, ⟨rfl, Or.inl rfl⟩, ⟨rfl, Or.inl rfl⟩, ⟨rfl, Or.inl rfl⟩, ⟨rfl, Or.inl rfl⟩, ⟨rfl, Or.inl rfl⟩, ⟨rfl, Or.inr (Or.inl ⟨_, _, _, _, rfl, rfl, ?_⟩)⟩, ⟨rfl, Or.inl rfl⟩, ⟨rfl, Or.inl rfl⟩, ⟨rfl, Or.inl rfl⟩, ⟨rfl, Or.inl rfl⟩, ⟨rfl, Or.inl rfl⟩, ⟨rfl, Or.inl rfl⟩, ⟨rfl, Or.inl rfl⟩, ⟨rfl, Or.inl rfl⟩, trivial⟩
  exact k_fil
theorem k_obj10 {B : k_B} {n : Nat} {a : Nat → Nat → Nat} : k_eq (kw_10 B n a) (am_ws (k_Gx B n a) (am_fr n)) := by
  have hn : k_eq (kw_nodes B n a) (((List.range n).flatMap k_rln).map (fun r => (a r.1 r.2, am_cell (k_Gx B n a) (am_fr n r.1 r.2) r.1 r.2))) := by
    rw [List.map_flatMap]
    exact k_eq.flat (fun k _ => k_node)
  refine ⟨⟨rfl, Or.inl rfl⟩, ⟨rfl, Or.inl ?_⟩, ⟨rfl, Or.inr (Or.inr ⟨_, _, _, _, rfl, rfl, ?_⟩)⟩, ?_⟩
  · rw [k_dk]; rfl
  · intro k hk
    simp [kw_cl, hk]
  · have h9 : k_eq (kw_nodes B n a ++ (kw_6 B (a 0) ++ (kw_5 B (a 0) ++ (kw_0 B (a 0) ++ (kw_9 B (a 0 1) (a 0 40) (a 0) ++ kw_2 B (a 0 1) (a 0)))))) (((List.range n).flatMap k_rln).map (fun r => (a r.1 r.2, am_cell (k_Gx B n a) (am_fr n r.1 r.2) r.1 r.2)) ++ ([(0, 3), (0, 4), (0, 5), (0, 6), (0, 7), (0, 8), (0, 9), (0, 10), (0, 11), (0, 12), (0, 13), (0, 14), (0, 15), (0, 16), (0, 17), (0, 18), (0, 19), (0, 20), (0, 21), (0, 22), (0, 23), (0, 24), (0, 25), (0, 26)] : List (Nat × Nat)).map (fun r => (a r.1 r.2, am_cell (k_Gx B n a) (am_fr n r.1 r.2) r.1 r.2))) := by
      refine hn.app ?_
      refine ⟨⟨rfl, Or.inl rfl⟩, ⟨rfl, Or.inl rfl⟩, ⟨rfl, Or.inr (Or.inl ⟨_, _, _, _, rfl, rfl, k_fil⟩)⟩, ⟨rfl, Or.inl rfl⟩, ⟨rfl, Or.inl rfl⟩, ⟨rfl, Or.inl rfl⟩, ⟨rfl, Or.inl rfl⟩, ⟨rfl, Or.inr (Or.inl ⟨_, _, _, _, rfl, rfl, k_fil⟩)⟩, ⟨rfl, Or.inl rfl⟩, ⟨rfl, Or.inl rfl⟩, ⟨rfl, Or.inl rfl⟩, ⟨rfl, Or.inl rfl⟩, ⟨rfl, Or.inl rfl⟩, ⟨rfl, Or.inl rfl⟩, ⟨rfl, Or.inl rfl⟩, ⟨rfl, Or.inl rfl⟩, ⟨rfl, Or.inl rfl⟩, ⟨rfl, Or.inl rfl⟩, ⟨rfl, Or.inl rfl⟩, ⟨rfl, Or.inl rfl⟩, ⟨rfl, Or.inl rfl⟩, ⟨rfl, Or.inl rfl⟩, ⟨rfl, Or.inl rfl⟩, ⟨rfl, Or.inl rfl⟩, trivial⟩
    simp only [List.append_assoc]
    show k_eq _ (((List.range n).flatMap k_rln ++ _).map _)
    rw [List.map_append]
    exact h9
theorem k_okx {B : k_B} {n : Nat} {a : Nat → Nat → Nat} (h2 : 2 ≤ n) (h4 : n ≤ 4) : am_ok (k_Gx B n a) := by
  have hn : n = 2 ∨ n = 3 ∨ n = 4 := by omega
  refine ⟨fun j hj => ?_, fun i j hi h40 h56 => ?_, ?_, h2, h4⟩
  · show (0, j) ∈ k_rl n
    have : j < 27 := by
      by_cases h : j < 27
      · exact h
      · simp [am_bs, show ¬ j < 27 by omega] at hj
    simp only [k_rl, List.mem_cons, List.mem_append, Prod.mk.injEq, true_and]
    omega
  · show (i, j) ∈ k_rl n
    refine List.mem_cons_of_mem _ (List.mem_cons_of_mem _ (List.mem_cons_of_mem _ (List.mem_append_left _ (List.mem_flatMap.mpr ⟨i, List.mem_range.mpr hi, ?_⟩))))
    simp only [k_rln, List.mem_cons, Prod.mk.injEq, true_and]
    omega
  · show (k_rl n).Nodup
    rcases hn with rfl | rfl | rfl <;> decide +kernel
