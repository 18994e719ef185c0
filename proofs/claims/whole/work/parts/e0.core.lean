
/-- the master of a resource -/
def mrr (n : Nat) (J : am_I) (r : Nat) : Nat := (mst n (J 0 66) r n 0).toNatClampNeg
/-- a node's parts -/
def NDr (x : Nat) (I J : am_I) (lg fb : List Nat) (fq mk : Nat) (H A B : Nat → Nat) : Prop :=
  I x 40 0 = nI x ∧ I x 40 6 = J 0 66 x ∧ JNr x I J lg fb fq mk ∧ CHr x I J ∧ LKr x I J
  ∧ ∀ r, r < 136 → (H r ≤ 2 ∧ J 0 76 (136 * x + r) = nI (H r)) ∧ J 0 77 (136 * x + r) = nI (A r) ∧ (B r ≤ 2 ∧ J 0 78 (136 * x + r) = nO (B r)) ∧ (¬ B r = 0 → B r ≤ H r)
/-- who is up, and what the dead had -/
def STr (n : Nat) (J : am_I) (gv H A B : Nat → Nat → Nat) (K : Nat → Nat → Int) (lg fb jl : Nat → List Nat) : Prop := ∀ x, x < n →
  (J 0 66 x = nI 0 ∨ J 0 66 x = nI 1) ∧ (J 0 65 x = nI 1 → J 0 66 x = nI 1 ∧ (∀ r, r < 136 → K x r = H x r) ∧ (fb x = [] → jl x = []))
  ∧ (¬ J 0 65 x = nI 1 → lg x = [] ∧ fb x = [] ∧ ∀ r, r < 136 → H x r = 0 ∧ A x r = 0 ∧ B x r = 0 ∧ (J 0 65 (mrr n J r) = nI 1 → K x r ≤ gv r x))
  ∧ ((¬ J 0 66 x = nI 1 → jl x = [] ∧ ∀ r, K x r = 0) ∧ (¬ J 0 65 x = nI 1 → J 0 71 x = nI 0 ∧ ∀ b, b < 640 → J 0 68 (640 * x + b) = nI 0))
/-- no try is under way -/
def TID (I J : am_I) : Prop := (∀ b, b < 640 → J 0 120 b = nI 0) ∧ (∀ b, b < 640 → I 0 19 b = nI 0) ∧ I 0 15 5 = nI 0 ∧ I 0 15 7 = nI 0
/-- which ended calls a flush has -/
def MKr (n e : Nat) (J : am_I) (fb : Nat → List Nat) (fq mk : Nat → Nat) : Prop := ∀ x, x < n → (¬ fb x = [] → mk x ≤ e) ∧ (∀ k, k < e → J 0 125 (10 * k) = nI x → J 0 125 (10 * k + 9) = nI 1 → (¬ J 0 126 k = nI 0 ↔ ¬ fb x = [] ∧ k < mk x)) ∧ (¬ fb x = [] → (fb x).length + 1 < fq x → ∀ k, k < e → k < mk x → J 0 125 (10 * k) = nI x → ¬ J 0 125 (10 * k + 9) = nI 1)
/-- the messages that are due -/
def due (T : Nat) (ms : List (Nat → Nat)) : List (Nat → Nat) := ms.filter (fun m => decide (m 5 ≤ T))
/-- the class's row of those that came (gv 136 holds how many of them are gone, how many there were, how many later ones stand ahead) -/
def DUr (gv : Nat → Nat → Nat) (I : am_I) (T : Nat) (ms : List (Nat → Nat)) : Prop := (∀ k m, (due T ms)[k]? = some m → ∀ c, c < 6 → I 0 12 (6 * (gv 136 0 + k) + c) = nI (m c)) ∧ gv 136 0 + (due T ms).length = gv 136 1 ∧ gv 136 2 ≤ ms.length ∧ ∀ k m, ms[k]? = some m → k < gv 136 2 → T < m 5
theorem du_cg {gv : Nat → Nat → Nat} {I I' : am_I} {T : Nat} {ms : List (Nat → Nat)} (h : DUr gv I T ms) (h12 : I' 0 12 = I 0 12) : DUr gv I' T ms := by
  unfold DUr at h ⊢
  rw [h12]
  exact h
theorem du_snd {gv : Nat → Nat → Nat} {I I' : am_I} {U : Nat → Int32} {T f t k r md : Nat} {ms ms' : List (Nat → Nat)} (h : DUr gv I T ms) (hs : snd U T f t k r md ms ms') (h12 : I' 0 12 = I 0 12) : DUr gv I' T ms' := by
  rcases hs with ⟨-, du, h1, -, rfl⟩ | ⟨-, rfl⟩
  · have e : due T (ms ++ [nm f t k r md du]) = due T ms := by
      unfold due
      rw [List.filter_append, List.filter_cons_of_neg (by
        have : nm f t k r md du 5 = du := rfl
        rw [this, decide_eq_true_eq]; omega), List.filter_nil, List.append_nil]
    obtain ⟨a1, a2, a3, a4⟩ := h
    unfold DUr
    rw [e, h12]
    refine ⟨a1, a2, by rw [List.length_append]; omega, fun k' m hk hl => ?_⟩
    rw [List.getElem?_append_left (by omega)] at hk
    exact a4 k' m hk hl
  · exact du_cg h h12
/-- both sides -/
def COz (z0 n T e : Nat) (I J : am_I) (ms : List (Nat → Nat)) (rw : Nat → List (Nat × Nat)) (gv cl H A B : Nat → Nat → Nat) (K : Nat → Nat → Int) (lg fb jl : Nat → List Nat) (fq mk : Nat → Nat) : Prop :=
  (0 < n ∧ n ≤ 4) ∧ MLr n T I J ms ∧ MSr n I J rw gv cl ∧ BKr I J e ∧ (∀ x, x < n → NDr x I J (lg x) (fb x) (fq x) (mk x) (H x) (A x) (B x)) ∧ STr n J gv H A B K lg fb jl
  ∧ PL n (J 0 65) (mrr n J) ms rw gv cl H A B ∧ (∀ k, k < 10240 → I 0 1 k = J 0 64 k) ∧ TID I J ∧ CTI n z0 lg fb jl K I J ∧ (∀ z, z < n → FJ z (dD J) (fb z) (jl z) (fq z) (fwI I z)) ∧ MKr n e J fb fq mk ∧ DUr gv I T ms
def CO (n T e : Nat) (I J : am_I) (ms : List (Nat → Nat)) (rw : Nat → List (Nat × Nat)) (gv cl H A B : Nat → Nat → Nat) (K : Nat → Nat → Int) (lg fb jl : Nat → List Nat) (fq mk : Nat → Nat) : Prop := COz e n T e I J ms rw gv cl H A B K lg fb jl fq mk
section CORE
variable {n T e x : Nat} {I J I' J' : am_I} {ms ms0 : List (Nat → Nat)} {rw : Nat → List (Nat × Nat)} {gv cl H A B : Nat → Nat → Nat} {K : Nat → Nat → Int} {lg fb jl : Nat → List Nat} {fq mk : Nat → Nat}
theorem jn_cgz {lg fb : List Nat} {fq mk : Nat} (h : JNr x I J lg fb fq mk) (h4 : I' x 44 = I x 44) (h5 : I' x 45 = I x 45) (h6 : I' x 46 = I x 46) (h7 : I' x 47 = I x 47) (k9 : ∀ b, b < 640 → J' 0 69 (640 * x + b) = J 0 69 (640 * x + b)) (k0 : J' 0 70 x = J 0 70 x) (k1 : J' 0 71 x = J 0 71 x) (k2 : J' 0 72 x = J 0 72 x) (k3 : J' 0 73 x = J 0 73 x) (k4 : ∀ k, k < 36 → J' 0 74 (36 * x + k) = J 0 74 (36 * x + k)) (k5 : ∀ k i, k < 36 → i < 16 → J' 0 75 (16 * (36 * x + k) + i) = J 0 75 (16 * (36 * x + k) + i)) : JNr x I' J' lg fb fq mk := by
  obtain ⟨⟨a1, a2, a3, a4⟩, b1, b2, b3, b4, b5, b6, b7, b8, b9, c1⟩ := h
  unfold JNr
  rw [h4, h5, h6, h7, k0, k1, k2, k3]
  refine ⟨⟨a1, a2, a3, fun b hb => by rw [k9 b hb]; exact a4 b hb⟩, b1, b2, b3, b4, b5, b6, b7, b8, b9, fun q => ?_⟩
  obtain ⟨c2, c3, c4, c5, c6, c7⟩ := c1 q
  refine ⟨c2, c3, c4, c5, ⟨by rw [k2]; exact c6.1, fun k hk => ?_⟩, c7⟩
  obtain ⟨d1, d2⟩ := c6.2 k hk
  exact ⟨by rw [k4 k (by omega)]; exact d1, fun i hi => by rw [k5 k i (by omega) hi]; exact d2 i hi⟩
theorem srt_eq : ∀ l l' : List Nat, l.Pairwise (· < ·) → l'.Pairwise (· < ·) → (∀ b, b ∈ l ↔ b ∈ l') → l = l'
  | [], [], _, _, _ => rfl
  | [], a :: l', _, _, h => absurd ((h a).mpr List.mem_cons_self) (by simp)
  | a :: l, [], _, _, h => absurd ((h a).mp List.mem_cons_self) (by simp)
  | a :: l, b :: l', h1, h2, h => by
    rw [List.pairwise_cons] at h1 h2
    have e : a = b := by
      have q1 := (h a).mp List.mem_cons_self
      have q2 := (h b).mpr List.mem_cons_self
      rcases List.mem_cons.mp q1 with q1 | q1
      · exact q1
      · rcases List.mem_cons.mp q2 with q2 | q2
        · exact q2.symm
        · have := h2.1 a q1
          have := h1.1 b q2
          omega
    subst e
    rw [srt_eq l l' h1.2 h2.2 (fun c => ⟨fun q => by
      rcases List.mem_cons.mp ((h c).mp (List.mem_cons_of_mem _ q)) with d | d
      · have := h1.1 c q; omega
      · exact d, fun q => by
      rcases List.mem_cons.mp ((h c).mpr (List.mem_cons_of_mem _ q)) with d | d
      · have := h2.1 c q; omega
      · exact d⟩)]
theorem jn_uq {lg fb lg0 fb0 : List Nat} {fq mk fq0 mk0 : Nat} (h : JNr x I J lg fb fq mk) (h0 : JNr x I J lg0 fb0 fq0 mk0) : lg0 = lg ∧ fb0 = fb := by
  obtain ⟨⟨a1, a2, a3, a4⟩, b1, b2, b3, b4, b5, b6, b7, b8, b9, c1⟩ := h
  obtain ⟨⟨a1', a2', a3', a4'⟩, b1', b2', b3', b4', b5', b6', b7', b8', b9', c1'⟩ := h0
  have f1 : ∀ b, b < 640 → (b ∈ lg0 ↔ b ∈ lg) := fun b hb => by
    have := (a4 b hb).symm.trans (a4' b hb)
    by_cases p : b ∈ lg <;> by_cases q : b ∈ lg0
    · exact ⟨fun _ => p, fun _ => q⟩
    · rw [if_pos p, if_neg q] at this; exact absurd this (by decide)
    · rw [if_neg p, if_pos q] at this; exact absurd this (by decide)
    · exact ⟨fun c => absurd c q, fun c => absurd c p⟩
  refine ⟨srt_eq _ _ a1' a1 (fun b => ⟨fun q => (f1 b (a2' b q)).mp q, fun q => (f1 b (a2 b q)).mpr q⟩), ?_⟩
  have el : fb0.length = fb.length := by
    have := b6'.symm.trans b6
    rw [z_eq (by omega) (by omega)] at this
    exact this
  by_cases e0 : fb = []
  · rw [e0, List.length_nil] at el
    rw [e0]
    exact List.eq_nil_of_length_eq_zero el
  · have e0' : ¬ fb0 = [] := fun q => e0 (by rw [q, List.length_nil] at el; exact List.eq_nil_of_length_eq_zero el.symm)
    refine List.ext_getElem? fun k => ?_
    cases p : fb[k]? with
    | none => rw [List.getElem?_eq_none_iff] at p ⊢; omega
    | some b =>
      cases q : fb0[k]? with
      | none => rw [List.getElem?_eq_none_iff] at q; have := (List.getElem?_eq_some_iff.mp p).1; omega
      | some c =>
        have g := ((c1' e0').2.2.2.1 k c q).symm.trans ((c1 e0).2.2.2.1 k b p)
        have h1 := b8 b (List.mem_of_getElem? p)
        have h2 := b8' c (List.mem_of_getElem? q)
        rw [z_eq (by omega) (by omega)] at g
        rw [g]
theorem mxd_nz {f t : Nat} : ∀ l : List (Nat → Nat), mxd f t (l.map nz) = mxd f t l
  | [] => rfl
  | a :: l => by
    show (if nz a 0 = f ∧ nz a 1 = t then max (nz a 5) (mxd f t (l.map nz)) else mxd f t (l.map nz)) = (if a 0 = f ∧ a 1 = t then max (a 5) (mxd f t l) else mxd f t l)
    rw [mxd_nz l]
    rfl
theorem nz_c {m : Nat → Nat} {c : Nat} (hc : c < 6) : nz m c = m c := by
  rcases c6 hc with rfl | rfl | rfl | rfl | rfl | rfl <;> rfl
theorem lat_nz : lat T (ms.map nz) = (lat T ms).map nz := by
  unfold lat
  rw [List.filter_map]
  rfl
theorem ml_nz (h : MLr n T I J ms) : MLr n T I J (ms.map nz) := by
  obtain ⟨⟨a1, a2, a3⟩, ⟨b1, b2, b3⟩, c1, c2, c3, c4, c5, c6', c7, c8, c9⟩ := h
  have mwz : ∀ m : Nat → Nat, mw m → mw (nz m) := fun m hm c hc => by rw [nz_c hc]; exact hm c hc
  refine ⟨⟨by rw [lat_nz, List.length_map]; exact a1, fun m hm => ?_, fun k m hk c hc => ?_⟩, ⟨by rw [List.length_map]; exact b1, fun m hm => ?_, fun k m hk c hc => ?_⟩, c1, c2, c3, c4, c5, fun f t hf ht => by rw [mxd_nz]; exact c6' f t hf ht, fun m hm => ?_, c8, c9⟩
  · rw [lat_nz] at hm
    obtain ⟨a, ha, rfl⟩ := List.mem_map.mp hm
    exact mwz a (a2 a ha)
  · rw [lat_nz, List.getElem?_map, Option.map_eq_some_iff] at hk
    obtain ⟨a, ha, rfl⟩ := hk
    rw [nz_c hc]; exact a3 k a ha c hc
  · obtain ⟨a, ha, rfl⟩ := List.mem_map.mp hm
    exact mwz a (b2 a ha)
  · rw [List.getElem?_map, Option.map_eq_some_iff] at hk
    obtain ⟨a, ha, rfl⟩ := hk
    rw [nz_c hc]; exact b3 k a ha c hc
  · obtain ⟨a, ha, rfl⟩ := List.mem_map.mp hm
    exact c7 a ha
theorem ml_uq (h : MLr n T I J ms) (h0 : MLr n T I J ms0) (hl : ms.length < 128) (hl0 : ms0.length < 128) (hn : ∀ m, m ∈ ms → nz m = m) : ms0.map nz = ms := by
  obtain ⟨-, ⟨b1, b2, b3⟩, -⟩ := h
  obtain ⟨-, ⟨b1', b2', b3'⟩, -⟩ := h0
  have el : ms0.length = ms.length := by
    have := b1'.symm.trans b1
    rw [z_eq (by omega) (by omega)] at this
    exact this
  refine List.ext_getElem? fun k => ?_
  rw [List.getElem?_map]
  cases p : ms[k]? with
  | none =>
    rw [List.getElem?_eq_none_iff] at p
    rw [List.getElem?_eq_none_iff.mpr (by omega)]
    rfl
  | some b =>
    cases q : ms0[k]? with
    | none => rw [List.getElem?_eq_none_iff] at q; have := (List.getElem?_eq_some_iff.mp p).1; omega
    | some c =>
      have g : ∀ j, j < 6 → c j = b j := fun j hj => by
        have g := (b3' k c q j hj).symm.trans (b3 k b p j hj)
        have h1 := b2 b (List.mem_of_getElem? p) j hj
        have h2 := b2' c (List.mem_of_getElem? q) j hj
        rw [z_eq (by omega) (by omega)] at g
        exact g
      have : nz c = nz b := by
        unfold nz
        rw [g 0 (by omega), g 1 (by omega), g 2 (by omega), g 3 (by omega), g 4 (by omega), g 5 (by omega)]
      rw [Option.map_some, this, hn b (List.mem_of_getElem? p)]
theorem snd_nz {U : Nat → Int32} {f t k r md : Nat} {ms0' : List (Nat → Nat)} (h : snd U T f t k r md ms0 ms0') : snd U T f t k r md (ms0.map nz) (ms0'.map nz) := by
  rcases h with ⟨h1, du, h2, h3, rfl⟩ | ⟨h1, rfl⟩
  · refine Or.inl ⟨h1, du, h2, by rw [mxd_nz]; exact h3, ?_⟩
    rw [List.map_append]
    rfl
  · exact Or.inr ⟨h1, rfl⟩
theorem mst_ok {r : Nat} (hn : 0 < n) (hn4 : n ≤ 4) (hx : x < n) (h : ¬ J 0 66 x = nI 0) : mrr n J r < n ∧ mst n (J 0 66) r n 0 = nI (mrr n J r) := by
  unfold mrr
  rcases mst_c (n := n) (jn := J 0 66) (r := r) hn n 0 with ⟨-, q⟩ | ⟨M, q1, q2, -⟩
  · exfalso
    have hr := Nat.mod_lt r hn
    have key : ∀ k, k < n → (r + k) % n = x → False := fun k hk e => h (by have := q k (by omega) (by omega); rw [e] at this; exact this)
    have e1 : r % n + n * (r / n) = r := Nat.mod_add_div r n
    rcases Nat.lt_or_ge x (r % n) with c | c
    · refine key (x + n - r % n) (by omega) ?_
      have : r + (x + n - r % n) = x + n * (r / n + 1) := by rw [Nat.mul_add]; omega
      rw [this, Nat.add_mul_mod_self_left]; exact Nat.mod_eq_of_lt hx
    · refine key (x - r % n) (by omega) ?_
      have : r + (x - r % n) = x + n * (r / n) := by omega
      rw [this, Nat.add_mul_mod_self_left]; exact Nat.mod_eq_of_lt hx
  · rw [q2]
    rw [z_clamp (by omega)]
    exact ⟨q1, rfl⟩
end CORE
