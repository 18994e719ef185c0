
section TOK3
variable {n T : Nat} {U : Nat → Int32} {mr : Nat → Nat} {ms ms' l1 l2 : List (Nat → Nat)} {rw : Nat → List (Nat × Nat)} {gv cl H A B : Nat → Nat → Nat} {m : Nat → Nat}
theorem rwc_app {row : List (Nat × Nat)} {e : Nat × Nat} {x : Nat} : rwc (row ++ [e]) x = rwc row x + (if e.1 = x then 1 else 0) := by
  unfold rwc
  rw [List.countP_append, List.countP_cons, List.countP_nil]
  by_cases h : e.1 = x
  · rw [if_pos h, if_pos (decide_eq_true h)]
  · rw [if_neg h, if_neg (fun q => h (of_decide_eq_true q))]
theorem rwc_cons {row : List (Nat × Nat)} {e : Nat × Nat} {x : Nat} : rwc (e :: row) x = rwc row x + (if e.1 = x then 1 else 0) := by
  unfold rwc
  rw [List.countP_cons]
  by_cases h : e.1 = x
  · rw [if_pos h, if_pos (decide_eq_true h)]
  · rw [if_neg h, if_neg (fun q => h (of_decide_eq_true q))]
theorem rwc_pos {row : List (Nat × Nat)} {x m : Nat} (hm : (x, m) ∈ row) : 0 < rwc row x := Nat.pos_of_ne_zero fun q => rwc_0 q hm
theorem row_nd {row : List (Nat × Nat)} (h : ∀ x, rwc row x ≤ 1) : (row.map (fun e => e.1)).Nodup := by
  unfold List.Nodup
  rw [List.pairwise_map, List.pairwise_iff_forall_sublist]
  intro a b hab e
  have := cnt_2 (p := fun e : Nat × Nat => decide (e.1 = a.1)) hab (decide_eq_true rfl) (decide_eq_true e.symm)
  have h1 := h a.1
  unfold rwc at h1
  omega
/-- of a row that nobody is in twice -/
theorem pl_rowU (h : PL n U mr ms rw gv cl H A B) {x k r : Nat} (hr : r < 136) (hx : (x, k) ∈ rw r) : U (mr r) = nI 1 ∧ x < n ∧ (k = 1 ∨ k = 2) := by
  obtain ⟨h1, h2, h3, h4, h5, h6, h7, h8⟩ := h
  refine ⟨Classical.byContradiction fun q => ?_, h5.2.2.2.1 r (x, k) hr hx⟩
  rw [(h7 r hr q).1] at hx
  cases hx
/-- a request comes -/
theorem pl_rq (h : PL n U mr (l1 ++ m :: l2) rw gv cl H A B) (hn : n ≤ 4) (hk : m 2 = 0) : PL n U mr (l1 ++ l2) (up1 rw (m 3) (rw (m 3) ++ [(m 0, m 4)])) gv cl H A B ∧ (rw (m 3)).length ≤ 3 ∧ (m 4 = 1 ∨ m 4 = 2) ∧ m 1 = mr (m 3) := by
  have h' := h
  obtain ⟨h1, h2, h3, h4, h5, h6, h7, h8⟩ := h
  have hi : Ins (l1 ++ m :: l2) (l1 ++ l2) m := ins_rem
  have hm : m ∈ l1 ++ m :: l2 := (hi.1 m).mpr (Or.inr rfl)
  obtain ⟨-, m0, m1, u0, u1, m3, q⟩ := h1 m hm
  obtain ⟨-, q1, q2⟩ : m 2 = 0 ∧ m 1 = mr (m 3) ∧ m 4 = A (m 0) (m 3) := by
    rcases q with q | q | q | q
    · exact q
    · omega
    · omega
    · omega
  have uM := (pl_mU h' hm).1
  have eg : ∀ y s, gr (l1 ++ m :: l2) y s ↔ gr (l1 ++ l2) y s := fun y s => (gr_ins hi).trans ⟨fun q => q.elim id (fun q => by omega), Or.inl⟩
  have el : ∀ y s, rl (l1 ++ m :: l2) y s ↔ rl (l1 ++ l2) y s := fun y s => (rl_ins hi).trans ⟨fun q => q.elim id (fun q => by omega), Or.inl⟩
  obtain ⟨k1, k2⟩ := h2 (m 0) (m 3) m0 m3 u0 uM
  have tm : tA (m 0) (m 3) m = true := tA_0.mpr ⟨rfl, Or.inl ⟨hk, rfl⟩⟩
  rw [hi.2, if_pos tm] at k1
  have c1 := nz1_le (a := A (m 0) (m 3))
  have c3 : rwc (rw (m 3)) (m 0) = 0 := by omega
  have c4 : ¬ A (m 0) (m 3) = 0 := nz1_1 (by omega)
  have hA2 := h5.2.2.2.2 (m 0) (m 3) m0 m3
  have hlen : (rw (m 3)).length ≤ 3 := by
    have := pigeon (m 0 :: (rw (m 3)).map (fun e => e.1)) (List.range n) (List.nodup_cons.mpr ⟨fun q => by
      obtain ⟨e, e1, e2⟩ := List.mem_map.mp q
      exact rwc_0 (m := e.2) c3 (by rw [← e2]; exact e1), row_nd (fun x => h5.2.1 x (m 3) m3)⟩) (fun a ha => by
      rw [List.mem_range]
      rcases List.mem_cons.mp ha with q | q
      · omega
      · obtain ⟨e, e1, e2⟩ := List.mem_map.mp q
        rw [← e2]
        exact (h5.2.2.2.1 (m 3) e m3 e1).1)
    rw [List.length_cons, List.length_map, List.length_range] at this
    omega
  have wm : ∀ s (e : Nat × Nat), e ∈ up1 rw (m 3) (rw (m 3) ++ [(m 0, m 4)]) s → e ∈ rw s ∨ (s = m 3 ∧ e = (m 0, m 4)) := fun s e he => by
    by_cases c : s = m 3
    · rw [c, up1_at] at he
      rcases List.mem_append.mp he with q | q
      · rw [c]; exact Or.inl q
      · exact Or.inr ⟨c, List.mem_singleton.mp q⟩
    · rw [up1_ne c] at he; exact Or.inl he
  have nA : ∀ s k, s < 136 → (m 0, k) ∈ rw s → s = m 3 := fun s k hs hk => by
    have g := (h2 (m 0) s m0 hs u0 (pl_rowU h' hs hk).1).1
    have := rwc_pos hk
    exact h5.2.2.1 (m 0) s (m 3) m0 hs m3 u0 (nz1_1 (by omega)) c4
  refine ⟨⟨fun a ha => h1 a ((hi.1 a).mpr (Or.inl ha)), fun y s hy hs hUy hUs => ?_, fun y s hy hs hUy hUs => ?_, fun y s hy hs hUy hUs => ?_, ⟨fun x s s' k k' hs hs' q q' => ?_, fun x s hs => ?_, h5.2.2.1, fun s e hs he => ?_, h5.2.2.2.2⟩, h6, fun s hs hUs => ?_, po_rem h8⟩, hlen, by omega, q1⟩
  · obtain ⟨g1, g2⟩ := h2 y s hy hs hUy hUs
    rw [hi.2] at g1
    by_cases c : s = m 3
    · subst c
      rw [up1_at, rwc_app]
      constructor
      · by_cases e : m 0 = y
        · rw [if_pos (by rw [← e]; exact tm)] at g1
          rw [if_pos e]; omega
        · rw [if_neg (fun q => e (by
            rcases (tA_0.mp q).2 with p2 | p2
            · exact p2.2
            · omega))] at g1
          rw [if_neg e]; omega
      · intro k hk
        rcases List.mem_append.mp hk with q | q
        · exact g2 k q
        · have := List.mem_singleton.mp q
          rw [Prod.mk.injEq] at this
          rw [this.1, this.2]; exact q2
    · rw [up1_ne c]
      rw [if_neg (fun q => c (tA_0.mp q).1.symm)] at g1
      exact ⟨g1, g2⟩
  · obtain ⟨g1, g2, g3, g4⟩ := h3 y s hy hs hUy hUs
    rw [eg, el] at g3
    rw [eg] at g2
    rw [hi.2, if_neg (fun q => by rcases (tB_0.mp q).2 with q2 | q2 <;> omega)] at g1
    refine ⟨g1, g2, g3, fun q => ?_⟩
    obtain ⟨z, md, rest, e1, e2⟩ := g4 q
    by_cases c : s = m 3
    · subst c
      exact ⟨z, md, rest ++ [(m 0, m 4)], by rw [up1_at, e1]; rfl, e2⟩
    · exact ⟨z, md, rest, by rw [up1_ne c]; exact e1, e2⟩
  · obtain ⟨g1, g2, g3⟩ := h4 y s hy hs hUy hUs
    rw [eg, el] at g2 g3
    exact ⟨g1, g2, g3⟩
  · rcases wm s _ q with c | ⟨c, d⟩ <;> rcases wm s' _ q' with c' | ⟨c', d'⟩
    · exact h5.1 x s s' k k' hs hs' c c'
    · rw [Prod.mk.injEq] at d'
      rw [d'.1] at c
      rw [c']; exact nA s k hs c
    · rw [Prod.mk.injEq] at d
      rw [d.1] at c'
      rw [c]; exact (nA s' k' hs' c').symm
    · omega
  · by_cases c : s = m 3
    · subst c
      rw [up1_at, rwc_app]
      by_cases e : m 0 = x
      · rw [if_pos e, ← e]; omega
      · rw [if_neg e]; exact h5.2.1 x (m 3) m3
    · rw [up1_ne c]; exact h5.2.1 x s hs
  · rcases wm s e he with q | ⟨-, q⟩
    · exact h5.2.2.2.1 s e hs q
    · rw [q]; exact ⟨m0, by show m 4 = 1 ∨ m 4 = 2; omega⟩
  · have hne : ¬ s = m 3 := fun e => hUs (by rw [e]; exact uM)
    rw [up1_ne hne]
    exact h7 s hs hUs
/-- a master calls back -/
theorem pl_cBk {r : Nat} (hr : r < 136) (hM : mr r < n) (uM : U (mr r) = nI 1) : cBk n T r (mr r) U (fun ms rw gv cl => PL n U mr ms rw gv cl H A B) := by
  intro ms rw gv cl z k rest y ms' h hrow hy hyz hag hcl hs
  obtain ⟨h1, h2, h3, h4, h5, h6, h7, h8⟩ := h
  have ocl : ∀ s y', ¬ (s = r ∧ y' = y) → up2 cl r y (flr k + 1) s y' = cl s y' := fun s y q => if_neg q
  have hd : PLd n U mr rw gv (up2 cl r y (flr k + 1)) := fun s hs hUs => by
    have hne : ¬ s = r := fun e => hUs (by rw [e]; exact uM)
    obtain ⟨g1, g2⟩ := h7 s hs hUs
    exact ⟨g1, fun y' hy' => by rw [ocl s y' (fun e => hne e.1)]; exact g2 y' hy'⟩
  rcases hs with ⟨uy, du, d1, d2, rfl⟩ | ⟨uy, rfl⟩
  · obtain ⟨k1, k2, k3, k4⟩ := h3 y r hy hr uy uM
    have c0 : cl r y = 0 := by
      rcases hcl with q | q
      · exact q
      · obtain ⟨z', k', rest', e1, e2, e3, e4⟩ := k4 (by omega)
        rw [hrow] at e1
        obtain ⟨e5, -⟩ := List.cons.inj e1
        rw [Prod.mk.injEq] at e5
        rw [← e5.2] at e4
        omega
    rw [c0, nz1_0] at k1
    have c1 : ms.countP (tB y r) = 0 := by omega
    have c2 : B y r = 0 := nz1_z (by omega)
    have nr : ¬ rl ms y r := by
      rintro ⟨a, a1, a2, a3, a4⟩
      have := cnt_p (p := tB y r) a1 (tB_0.mpr ⟨a4, Or.inr ⟨a2, a3⟩⟩)
      omega
    have hi : Ins (ms ++ [nm (mr r) y 2 r (flr k) du]) ms (nm (mr r) y 2 r (flr k) du) := ins_app
    have eg : ∀ y' s, gr (ms ++ [nm (mr r) y 2 r (flr k) du]) y' s ↔ gr ms y' s := fun y' s => (gr_ins hi).trans ⟨fun q => q.elim id (fun q => absurd q.1 (by show ¬ (2 : Nat) = 1; decide)), Or.inl⟩
    have el : ∀ y' s, rl (ms ++ [nm (mr r) y 2 r (flr k) du]) y' s ↔ rl ms y' s := fun y' s => (rl_ins hi).trans ⟨fun q => q.elim id (fun q => absurd q.1 (by show ¬ (2 : Nat) = 3; decide)), Or.inl⟩
    refine ⟨fun a ha => ?_, fun y' s hy' hs hUy hUs => ?_, fun y' s hy' hs hUy hUs => ?_, fun y' s hy' hs hUy hUs => ?_, h5, h6, hd, po_app h8 d2 (fun q => absurd q (by decide))⟩
    · rcases (hi.1 a).mp ha with hq | hq
      · obtain ⟨b1, b2, b3, b4, b5, b6, q⟩ := h1 a hq
        refine ⟨b1, b2, b3, b4, b5, b6, ?_⟩
        rcases q with q | q | q | q
        · exact Or.inl q
        · exact Or.inr (Or.inl q)
        · rw [ocl (a 3) (a 1) (fun e => by
            have := cnt_p (p := tB y r) hq (tB_0.mpr ⟨e.1, Or.inl ⟨q.1, e.2⟩⟩)
            omega)]
          exact Or.inr (Or.inr (Or.inl q))
        · rw [ocl (a 3) (a 0) (fun e => by
            have := cnt_p (p := tB y r) hq (tB_0.mpr ⟨e.1, Or.inr ⟨q.1, e.2⟩⟩)
            omega)]
          exact Or.inr (Or.inr (Or.inr q))
      · subst hq
        exact ⟨rfl, hM, hy, uM, uy, hr, Or.inr (Or.inr (Or.inl ⟨rfl, rfl, up2_a.symm⟩))⟩
    · obtain ⟨g1, g2⟩ := h2 y' s hy' hs hUy hUs
      rw [hi.2, if_neg (fun q => by
        rcases (tA_0.mp q).2 with q2 | q2
        · exact absurd q2.1 (by show ¬ (2 : Nat) = 0; decide)
        · exact absurd q2.1 (by show ¬ (2 : Nat) = 1; decide))]
      exact ⟨g1, g2⟩
    · obtain ⟨g1, g2, g3, g4⟩ := h3 y' s hy' hs hUy hUs
      rw [hi.2, eg, el]
      by_cases e : s = r ∧ y' = y
      · obtain ⟨rfl, rfl⟩ := e
        rw [if_pos (show tB y' s (nm (mr s) y' 2 s (flr k) du) = true from tB_0.mpr ⟨rfl, Or.inl ⟨rfl, rfl⟩⟩), up2_a, c1, c2, nz1_0, nz1_p (by omega)]
        exact ⟨rfl, fun q => absurd rfl q, fun q => absurd q nr, fun _ => ⟨z, k, rest, hrow, fun e => hyz e.symm, hag, rfl⟩⟩
      · rw [if_neg (fun q => e (by
          obtain ⟨q1, q2⟩ := tB_0.mp q
          rcases q2 with q2 | q2
          · exact ⟨q1.symm, q2.2.symm⟩
          · exact absurd q2.1 (by show ¬ (2 : Nat) = 3; decide))), ocl s y' e]
        exact ⟨g1, g2, g3, g4⟩
    · rw [eg, el]
      exact h4 y' s hy' hs hUy hUs
  · have nU : ∀ y', U y' = nI 1 → ¬ y' = y := fun y' q e => by rw [e, uy] at q; exact absurd q (by decide)
    refine ⟨fun a ha => ?_, h2, fun y' s hy' hs hUy hUs => ?_, h4, h5, h6, hd, h8⟩
    · obtain ⟨b1, b2, b3, b4, b5, b6, q⟩ := h1 a ha
      rw [ocl (a 3) (a 1) (fun e => nU _ b5 e.2), ocl (a 3) (a 0) (fun e => nU _ b4 e.2)]
      exact ⟨b1, b2, b3, b4, b5, b6, q⟩
    · rw [ocl s y' (fun e => nU _ hUy e.2)]
      exact h3 y' s hy' hs hUy hUs
/-- a master grants -/
theorem pl_cGr {r : Nat} (hr : r < 136) (hM : mr r < n) (uM : U (mr r) = nI 1) : cGr n T r (mr r) U (fun ms rw gv cl => PL n U mr ms rw gv cl H A B) := by
  intro ms rw gv cl z k rest ms' h hrow hag hs
  have h' := h
  obtain ⟨h1, h2, h3, h4, h5, h6, h7, h8⟩ := h
  have hmem : (z, k) ∈ rw r := by rw [hrow]; exact List.mem_cons_self
  obtain ⟨-, hz, hk⟩ := pl_rowU h' hr hmem
  have hag' : ∀ y, y < n → ¬ y = z → ¬ gv r y = 2 ∧ (k = 2 → gv r y = 0) := fun y hy e => by
    rcases hag y hy with q | q
    · exact absurd q e
    · unfold agt at q
      by_cases ek : k = 2
      · rw [if_pos ek] at q
        have := of_decide_eq_false q
        exact ⟨by omega, fun _ => by omega⟩
      · rw [if_neg ek] at q
        exact ⟨of_decide_eq_false q, fun e => absurd e ek⟩
  have ogv : ∀ s y, ¬ (s = r ∧ y = z) → up2 gv r z (max (gv r z) k) s y = gv s y := fun s y q => if_neg q
  have c0 : ∀ y, y < n → U y = nI 1 → cl r y = 0 := fun y hy uy => Classical.byContradiction fun q => by
    obtain ⟨z', k', rest', e1, e2, e3, e4⟩ := (h3 y r hy hr uy uM).2.2.2 q
    rw [hrow] at e1
    obtain ⟨e5, -⟩ := List.cons.inj e1
    rw [Prod.mk.injEq] at e5
    rcases hag y hy with c | c
    · exact e2 (by rw [← e5.1]; exact c.symm)
    · rw [e5.2] at c; rw [c] at e3; exact absurd e3 (by decide)
  have cT : ∀ y, y < n → U y = nI 1 → ms.countP (tB y r) = 0 ∧ B y r = 0 ∧ ¬ rl ms y r := fun y hy uy => by
    have g1 := (h3 y r hy hr uy uM).1
    rw [c0 y hy uy, nz1_0] at g1
    refine ⟨by omega, nz1_z (by omega), ?_⟩
    rintro ⟨a, a1, a2, a3, a4⟩
    have := cnt_p (p := tB y r) a1 (tB_0.mpr ⟨a4, Or.inr ⟨a2, a3⟩⟩)
    omega
  have wsub : ∀ s (e : Nat × Nat), e ∈ up1 rw r rest s → e ∈ rw s := fun s e he => by
    by_cases c : s = r
    · rw [c, up1_at] at he
      rw [c, hrow]; exact List.mem_cons_of_mem _ he
    · rw [up1_ne c] at he; exact he
  have hR : PLr n U (up1 rw r rest) A := ⟨fun x s s' j j' hs hs' q q' => h5.1 x s s' j j' hs hs' (wsub _ _ q) (wsub _ _ q'), fun x s hs => by
    by_cases c : s = r
    · rw [c, up1_at]
      have := h5.2.1 x r hr
      rw [hrow, rwc_cons] at this
      omega
    · rw [up1_ne c]; exact h5.2.1 x s hs, h5.2.2.1, fun s e hs he => h5.2.2.2.1 s e hs (wsub _ _ he), h5.2.2.2.2⟩
  have hG : PLg n (up2 gv r z (max (gv r z) k)) := fun s x y hs1 hx hy hne q => by
    by_cases e : s = r ∧ x = z
    · obtain ⟨rfl, rfl⟩ := e
      rw [up2_a] at q
      rw [ogv s y (fun e => hne e.2.symm)]
      have := hag' y hy (fun e => hne e.symm)
      rcases Nat.lt_or_ge (gv s x) 2 with c | c
      · exact this.2 (by omega)
      · exact h6 s x y hs1 hx hy hne (by omega)
    · rw [ogv s x e] at q
      by_cases e2 : s = r
      · exact absurd (by rw [← e2]; exact q) (hag' x hx (fun e3 => e ⟨e2, e3⟩)).1
      · rw [ogv s y (fun e3 => e2 e3.1)]
        exact h6 s x y hs1 hx hy hne q
  have hD : PLd n U mr (up1 rw r rest) (up2 gv r z (max (gv r z) k)) cl := fun s hs hUs => by
    have hne : ¬ s = r := fun e => hUs (by rw [e]; exact uM)
    obtain ⟨g1, g2⟩ := h7 s hs hUs
    exact ⟨by rw [up1_ne hne]; exact g1, fun y hy => by rw [ogv s y (fun e => hne e.1)]; exact g2 y hy⟩
  -- what the row says, without its first
  have hrc : ∀ y s, rwc (rw s) y = rwc (up1 rw r rest s) y + (if s = r ∧ y = z then 1 else 0) := fun y s => by
    by_cases c : s = r
    · rw [c, up1_at, hrow, rwc_cons]
      by_cases e : z = y
      · rw [if_pos e, if_pos ⟨rfl, e.symm⟩]
      · rw [if_neg e, if_neg (fun q => e q.2.symm)]
    · rw [up1_ne c, if_neg (fun q => c q.1)]; rfl
  have hb4 : ∀ y s, y < n → s < 136 → U y = nI 1 → U (mr s) = nI 1 → ¬ cl s y = 0 → ∃ z' m' rest', up1 rw r rest s = (z', m') :: rest' ∧ ¬ z' = y ∧ agt (up2 gv r z (max (gv r z) k) s y) m' = true ∧ cl s y = flr m' + 1 := fun y s hy hs hUy hUs q => by
    have c : ¬ s = r := fun e => by rw [e] at q; exact q (c0 y hy hUy)
    rw [up1_ne c, ogv s y (fun e => c e.1)]
    exact (h3 y s hy hs hUy hUs).2.2.2 q
  rcases hs with ⟨uz, du, d1, d2, rfl⟩ | ⟨uz, rfl⟩
  · obtain ⟨a1, a2⟩ := h2 z r hz hr uz uM
    have ek : k = A z r := a2 k hmem
    have r1 := rwc_pos hmem
    have a3 := nz1_le (a := A z r)
    have ng : ¬ gr ms z r := by
      rintro ⟨a, p1, p2, p3, p4⟩
      have := cnt_p (p := tA z r) p1 (tA_0.mpr ⟨p4, Or.inr ⟨p2, p3⟩⟩)
      omega
    have hi : Ins (ms ++ [nm (mr r) z 1 r k du]) ms (nm (mr r) z 1 r k du) := ins_app
    have eg : ∀ y s, gr (ms ++ [nm (mr r) z 1 r k du]) y s ↔ gr ms y s ∨ (z = y ∧ r = s) := fun y s => (gr_ins hi).trans ⟨fun q => q.elim Or.inl (fun q => Or.inr ⟨q.2.1, q.2.2⟩), fun q => q.elim Or.inl (fun q => Or.inr ⟨rfl, q.1, q.2⟩)⟩
    have el : ∀ y s, rl (ms ++ [nm (mr r) z 1 r k du]) y s ↔ rl ms y s := fun y s => (rl_ins hi).trans ⟨fun q => q.elim id (fun q => absurd q.1 (by show ¬ (1 : Nat) = 3; decide)), Or.inl⟩
    refine ⟨fun a ha => ?_, fun y s hy hs hUy hUs => ?_, fun y s hy hs hUy hUs => ?_, fun y s hy hs hUy hUs => ?_, hR, hG, hD, po_app h8 d2 (fun _ a ha q => ?_)⟩
    · rcases (hi.1 a).mp ha with hq | hq
      · exact h1 a hq
      · subst hq
        exact ⟨rfl, hM, hz, uM, uz, hr, Or.inr (Or.inl ⟨rfl, rfl, ek⟩)⟩
    · obtain ⟨g1, g2⟩ := h2 y s hy hs hUy hUs
      refine ⟨?_, fun j hj => g2 j (wsub _ _ hj)⟩
      rw [hi.2]
      rw [hrc] at g1
      by_cases e : s = r ∧ y = z
      · obtain ⟨rfl, rfl⟩ := e
        rw [if_pos (show tA y s (nm (mr s) y 1 s k du) = true from tA_0.mpr ⟨rfl, Or.inr ⟨rfl, rfl⟩⟩)]
        rw [if_pos ⟨rfl, rfl⟩] at g1
        omega
      · rw [if_neg (fun q => e (by
          obtain ⟨q1, q2⟩ := tA_0.mp q
          rcases q2 with q2 | q2
          · exact absurd q2.1 (by show ¬ (1 : Nat) = 0; decide)
          · exact ⟨q1.symm, q2.2.symm⟩))]
        rw [if_neg e] at g1
        omega
    · obtain ⟨g1, g2, g3, g4⟩ := h3 y s hy hs hUy hUs
      rw [hi.2, if_neg (fun q => by
        rcases (tB_0.mp q).2 with q2 | q2
        · exact absurd q2.1 (by show ¬ (1 : Nat) = 2; decide)
        · exact absurd q2.1 (by show ¬ (1 : Nat) = 3; decide)), eg, el]
      refine ⟨g1, fun q => ⟨(g2 q).1, fun q2 => ?_⟩, fun q q2 => ?_, hb4 y s hy hs hUy hUs⟩
      · rcases q2 with q2 | ⟨rfl, rfl⟩
        · exact (g2 q).2 q2
        · exact q (cT z hz uz).2.1
      · rcases q2 with q2 | ⟨rfl, rfl⟩
        · exact g3 q q2
        · exact (cT z hz uz).2.2 q
    · obtain ⟨g1, g2, g3⟩ := h4 y s hy hs hUy hUs
      rw [eg, el]
      by_cases e : s = r ∧ y = z
      · obtain ⟨rfl, rfl⟩ := e
        have := g3 (cT y hz uz).2.2 ng
        rw [up2_a]
        exact ⟨by omega, fun _ _ => by omega, fun _ q => absurd (Or.inr ⟨rfl, rfl⟩) q⟩
      · rw [ogv s y e]
        exact ⟨g1, fun q q2 => g2 q (q2.elim id (fun c => absurd ⟨c.2.symm, c.1.symm⟩ e)), fun q q2 => g3 q (fun c => q2 (Or.inl c))⟩
    · have := cnt_p (p := tB z r) ha (tB_0.mpr ⟨q.2.2, Or.inl ⟨q.1, q.2.1⟩⟩)
      have := (cT z hz uz).1
      omega
  · have nU : ∀ y, U y = nI 1 → ¬ y = z := fun y q e => by rw [e, uz] at q; exact absurd q (by decide)
    refine ⟨h1, fun y s hy hs hUy hUs => ?_, fun y s hy hs hUy hUs => ?_, fun y s hy hs hUy hUs => ?_, hR, hG, hD, h8⟩
    · obtain ⟨g1, g2⟩ := h2 y s hy hs hUy hUs
      rw [hrc, if_neg (fun q => nU _ hUy q.2)] at g1
      exact ⟨g1, fun j hj => g2 j (wsub _ _ hj)⟩
    · obtain ⟨g1, g2, g3, g4⟩ := h3 y s hy hs hUy hUs
      exact ⟨g1, g2, g3, hb4 y s hy hs hUy hUs⟩
    · rw [ogv s y (fun e => nU _ hUy e.2)]
      exact h4 y s hy hs hUy hUs
end TOK3
