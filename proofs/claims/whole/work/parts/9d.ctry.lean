def c_v (y : Nat) (I : am_I) : wS := fun b i => if I y 43 b = nI 1 then I y 42 (b * 16 + i) else I 0 1 (b * 16 + i)
/-- the class's side of a try -/
def pr_cls (y : Nat) (B : wS) (cv : List Nat) (I : am_I) : Prop :=
  I 0 15 8 = nI y ∧ (I 0 15 5 = nI cv.length ∧ cv.length ≤ 32) ∧ cv.Nodup ∧ (∀ b, b ∈ cv → b < 640)
  ∧ (∀ b, b < 640 → I 0 19 b = if b ∈ cv then nI 1 else nI 0)
  ∧ (∀ k b, cv[k]? = some b → I 0 16 k = nI b ∧ I 0 17 k = B b 16 ∧ (B b 16 = nI 1 → ∀ i, i < 16 → I 0 18 (k * 16 + i) = B b i))
  ∧ (∀ b, b < 640 → b ∉ cv → I y 43 b = B b 16 ∧ (B b 16 = nI 1 → ∀ i, i < 16 → I y 42 (b * 16 + i) = B b i))
  ∧ (∀ b, b < 640 → I y 43 b = nI 0 ∨ I y 43 b = nI 1)
  ∧ I y 41 2 = nI (cnt (I y 43) 640)
/-- what a try of the class leaves as it is -/
def fI (y : Nat) (I I' : am_I) : Prop := ∀ i j, ¬ (i = y ∧ 41 ≤ j ∧ j ≤ 43) → ¬ (i = 0 ∧ 15 ≤ j ∧ j ≤ 20) → I' i j = I i j
theorem fI.rf {y : Nat} {I : am_I} : fI y I I := fun _ _ _ _ => rfl
theorem fI.tr {y : Nat} {I I' I'' : am_I} (h : fI y I I') (h' : fI y I' I'') : fI y I I'' := fun i j a b => (h' i j a b).trans (h i j a b)
theorem c_isw {n b i : Nat} {I : am_I} (hb : b < 640) (hi : i < 16) : gX10_isWord n (nI b) (nI i) I = some (nI 1, I) := by
  have h1 : ¬ 640 ≤ b := by omega
  have h2 : ¬ 16 ≤ i := by omega
  simp (disch := omega) only [gX10_isWord, bX10_isWord_0, bX10_isWord_26, z_ni0, z_le, h1, h2, if_false, z_011, z_gdt]
theorem c_load {n y b : Nat} {B : wS} {cv : List Nat} {D : Nat → Int32} {I : am_I} (hy : y < 4) (hn : y < n) (hb : b < 640) (h : pr_cls y B cv I) (hcv : ∀ c, c ∈ cv → I y 43 c = nI 1) (hD : ∀ k, k < 10240 → I 0 1 k = D k) (h0 : I y 43 b = nI 0) : ∃ I', gX9_load n (nI b) I = some I' ∧ pr_cls y (Bf D B b) cv I' ∧ (∀ c i, c < 640 → i < 16 → c_v y I' c i = c_v y I c i) ∧ (∀ c, c < 640 → I' y 43 c = if c = b then nI 1 else I y 43 c) ∧ (∀ i j, ¬ (i = y ∧ 41 ≤ j ∧ j ≤ 43) → I' i j = I i j) := by
  obtain ⟨a1, a2, a3, a4, a5, a6, a7, a8, a9⟩ := h
  obtain ⟨J', e1, e2, e3⟩ := lq_load (n := n) hy hb 16 0 am_fu I rfl (by decide)
  have f43 : ∀ k, am_up (am_up J' y 43 b (nI 1)) y 41 2 (am_up J' y 43 b (nI 1) y 41 2 + nI 1) y 43 k = if k = b then nI 1 else I y 43 k := fun k => by
    rw [z_upj _ _ _ _ _ _ _ (by omega), z_upk, e2 y 43 (by omega)]
  have f42 : ∀ k, am_up (am_up J' y 43 b (nI 1)) y 41 2 (am_up J' y 43 b (nI 1) y 41 2 + nI 1) y 42 k = if b * 16 + 0 ≤ k ∧ k < b * 16 + 16 then I 0 1 (b * 16 + (k - (b * 16))) else I y 42 k := fun k => by
    rw [z_upj _ _ _ _ _ _ _ (by omega), z_upj _ _ _ _ _ _ _ (by omega), e3]
  have fr : ∀ i j, ¬ (i = y ∧ 41 ≤ j ∧ j ≤ 43) → am_up (am_up J' y 43 b (nI 1)) y 41 2 (am_up J' y 43 b (nI 1) y 41 2 + nI 1) i j = I i j := fun i j hij => by
    rw [z_upj _ _ _ _ _ _ _ (by omega), z_upj _ _ _ _ _ _ _ (by omega), e2 i j (by omega)]
  have w42 : ∀ c i, i < 16 → am_up (am_up J' y 43 b (nI 1)) y 41 2 (am_up J' y 43 b (nI 1) y 41 2 + nI 1) y 42 (c * 16 + i) = if c = b then I 0 1 (b * 16 + i) else I y 42 (c * 16 + i) := fun c i hi => by
    rw [f42]
    by_cases e : c = b
    · subst e
      rw [if_pos (by omega), if_pos rfl, show c * 16 + i - c * 16 = i from by omega]
    · rw [if_neg (by omega), if_neg e]
  have hbs : b ∉ cv := fun hm => by
    have := hcv b hm
    rw [h0] at this
    exact z_n01 this
  have eBo : ∀ c i, ¬ c = b → Bf D B b c i = B c i := fun c i e => if_neg e
  refine ⟨_, ?_, ⟨?_, ?_, a3, a4, fun c hc => ?_, fun k c hk => ?_, fun c hc hnc => ?_, fun c hc => ?_, ?_⟩, fun c i hc hi => ?_, fun c _ => f43 c, fr⟩
  · rw [← e1]
    simp (disch := omega) only [gX9_load, bX9_load_0, a1, z_clamp, hn, decide_true, z_gdt, pk_mul, Nat.add_zero]
  · rw [fr 0 15 (by omega)]; exact a1
  · rw [fr 0 15 (by omega)]; exact a2
  · rw [fr 0 19 (by omega)]; exact a5 c hc
  · have e : ¬ c = b := fun e => hbs (e ▸ List.mem_of_getElem? hk)
    rw [fr 0 16 (by omega), fr 0 17 (by omega), fr 0 18 (by omega), eBo c 16 e]
    refine ⟨(a6 k c hk).1, (a6 k c hk).2.1, fun hB i hi => ?_⟩
    rw [eBo c i e]
    exact (a6 k c hk).2.2 hB i hi
  · rw [f43]
    by_cases e : c = b
    · subst e
      rw [if_pos rfl]
      refine ⟨by unfold Bf; rw [if_pos rfl, if_pos rfl], fun _ i hi => ?_⟩
      rw [w42 c i hi, if_pos rfl]
      unfold Bf
      rw [if_pos rfl, if_neg (by omega), hD _ (by omega), Nat.mul_comm]
    · rw [if_neg e, eBo c 16 e]
      refine ⟨(a7 c hc hnc).1, fun hB i hi => ?_⟩
      rw [w42 c i hi, if_neg e, eBo c i e]
      exact (a7 c hc hnc).2 hB i hi
  · rw [f43]
    by_cases e : c = b
    · rw [if_pos e]; exact Or.inr rfl
    · rw [if_neg e]; exact a8 c hc
  · rw [cnt_up (f := I y 43) (b := b) 640 hb (fun c _ hne => (f43 c).trans (if_neg hne)) (by rw [h0]; exact z_n01) ((f43 b).trans (if_pos rfl)), z_upk, if_pos rfl, z_upj _ _ _ _ _ _ _ (by omega), e2 y 41 (by omega), a9, nI_add]
  · unfold c_v
    rw [f43, w42 c i hi, fr 0 1 (by omega)]
    by_cases e : c = b
    · subst e
      rw [if_pos rfl, if_pos rfl, if_pos rfl, h0, if_neg z_n01]
    · rw [if_neg e, if_neg e]
theorem c_fetch {n y b : Nat} {α : Type} {K : am_I → Option α} {B : wS} {cv : List Nat} {D : Nat → Int32} {I : am_I} (hy : y < 4) (hn : y < n) (hb : b < 640) (h : pr_cls y B cv I) (hcv : ∀ c, c ∈ cv → I y 43 c = nI 1) (hD : ∀ k, k < 10240 → I 0 1 k = D k) : ∃ I', (if I y 43 b = 0 then (gX9_load n (nI b) I).bind K else K I) = K I' ∧ pr_cls y (Bm (I y 43 b) D B b) cv I' ∧ (∀ c i, c < 640 → i < 16 → c_v y I' c i = c_v y I c i) ∧ (∀ c, c < 640 → I' y 43 c = if c = b then nI 1 else I y 43 c) ∧ (∀ i j, ¬ (i = y ∧ 41 ≤ j ∧ j ≤ 43) → I' i j = I i j) := by
  rcases h.2.2.2.2.2.2.2.1 b hb with h0 | h0
  · obtain ⟨I', e1, e2, e3, e4, e5⟩ := c_load (n := n) hy hn hb h hcv hD h0
    refine ⟨I', ?_, ?_, e3, e4, e5⟩
    · simp only [h0, z_00, if_true, e1, Option.bind_some]
    · unfold Bm
      rw [h0, if_neg z_n01]
      exact e2
  · refine ⟨I, ?_, ?_, fun _ _ _ _ => rfl, fun c hc => ?_, fun _ _ _ => rfl⟩
    · simp only [h0, z_10, if_false]
    · unfold Bm
      rw [h0, if_pos rfl]
      exact h
    · by_cases e : c = b
      · rw [if_pos e, e]; exact h0
      · rw [if_neg e]
theorem c_read {n y b i : Nat} {B : wS} {cv : List Nat} {D : Nat → Int32} {I : am_I} (hy : y < 4) (hn : y < n) (hb : b < 640) (hi : i < 16) (h : pr_cls y B cv I) (hcv : ∀ c, c ∈ cv → I y 43 c = nI 1) (hD : ∀ k, k < 10240 → I 0 1 k = D k) : ∃ I', gX9_read n (nI b) (nI i) I = some (c_v y I b i, I') ∧ pr_cls y (Bm (I y 43 b) D B b) cv I' ∧ (∀ c i, c < 640 → i < 16 → c_v y I' c i = c_v y I c i) ∧ (∀ c, c < 640 → I' y 43 c = if c = b then nI 1 else I y 43 c) ∧ (∀ i j, ¬ (i = y ∧ 41 ≤ j ∧ j ≤ 43) → I' i j = I i j) := by
  obtain ⟨I', e1, e2, e3, e4, e5⟩ := c_fetch (n := n) (K := fun q => bX9_read_30 n (nI b) (nI i) q) hy hn hb h hcv hD
  refine ⟨I', ?_, e2, e3, e4, e5⟩
  have hv : c_v y I b i = I' y 42 (b * 16 + i) := by
    rw [← e3 b i hb hi]
    unfold c_v
    rw [e4 b hb, if_pos rfl, if_pos rfl]
  have g : b * 16 + i < 10240 := by omega
  rw [hv]
  simp (disch := omega) only [gX9_read, bX9_read_0, c_isw hb hi, Option.bind_some, z_10, if_false, h.1, z_clamp, hn, decide_true, z_gdt, z_inb, hb]
  rw [e1]
  simp (disch := omega) only [bX9_read_30, e2.1, z_clamp, hn, decide_true, z_gdt, pk_mul, nI_add, z_inb, g]
theorem c_keep {n y b : Nat} {B : wS} {cv : List Nat} {I : am_I} (hy : y < 4) (hn : y < n) (hb : b < 640) (h : pr_cls y B cv I) (hl : b ∈ cv ∨ cv.length < 32) : ∃ I', gX9_keep n (nI b) I = some I' ∧ pr_cls y B (svp cv b) I' ∧ (∀ i j, ¬ (i = 0 ∧ 15 ≤ j ∧ j ≤ 19) → I' i j = I i j) ∧ ∀ k, ¬ k = 5 → I' 0 15 k = I 0 15 k := by
  obtain ⟨a1, a2, a3, a4, a5, a6, a7, a8, a9⟩ := h
  by_cases hm : b ∈ cv
  · have h5 := a5 b hb
    rw [if_pos hm] at h5
    have es : svp cv b = cv := by unfold svp; rw [if_pos hm]
    refine ⟨I, ?_, ?_, fun _ _ _ => rfl, fun _ _ => rfl⟩
    · simp (disch := omega) only [gX9_keep, bX9_keep_0, bX9_keep_18, z_inb, z_clamp, hb, decide_true, z_gdt, h5, z_10, if_false]
    · rw [es]
      exact ⟨a1, a2, a3, a4, a5, a6, a7, a8, a9⟩
  · have hl := hl.resolve_left hm
    have h5 := a5 b hb
    rw [if_neg hm] at h5
    have es : svp cv b = cv ++ [b] := by unfold svp; rw [if_neg hm]
    have h01 : am_01 (I y 43 b) = true := decide_eq_true (a8 b hb)
    obtain ⟨J', e1, e2, e3⟩ := lq_keep (n := n) hy hn hb hl 16 0 am_fu (am_up (am_up (am_up I 0 19 b (nI 1)) 0 16 cv.length (nI b)) 0 17 cv.length (I y 43 b)) rfl (by decide) (by simp (disch := omega) only [z_upj]; exact a1) (by simp (disch := omega) only [z_upj]; exact a2.1)
    have hJ56 : J' 0 15 5 = nI cv.length := by rw [e2 0 15 (by decide)]; simp (disch := omega) only [z_upj]; exact a2.1
    have fr : ∀ i j, ¬ (i = 0 ∧ 15 ≤ j ∧ j ≤ 19) → am_up J' 0 15 5 (nI cv.length + nI 1) i j = I i j := fun i j hij => by
      rw [z_upj _ _ _ _ _ _ _ (by omega), e2 i j (by omega)]
      simp (disch := omega) only [z_upj]
    have q15 : ∀ k, ¬ k = 5 → am_up J' 0 15 5 (nI cv.length + nI 1) 0 15 k = I 0 15 k := fun k hk => by
      rw [z_upk, if_neg hk, e2 0 15 (by decide)]
      simp (disch := omega) only [z_upj]
    have q16 : ∀ k, am_up J' 0 15 5 (nI cv.length + nI 1) 0 16 k = if k = cv.length then nI b else I 0 16 k := fun k => by
      rw [z_upj _ _ _ _ _ _ _ (by decide), e2 0 16 (by decide)]
      simp (disch := omega) only [z_upj, z_upk]
    have q17 : ∀ k, am_up J' 0 15 5 (nI cv.length + nI 1) 0 17 k = if k = cv.length then I y 43 b else I 0 17 k := fun k => by
      rw [z_upj _ _ _ _ _ _ _ (by decide), e2 0 17 (by decide)]
      simp (disch := omega) only [z_upj, z_upk]
    have q19 : ∀ k, am_up J' 0 15 5 (nI cv.length + nI 1) 0 19 k = if k = b then nI 1 else I 0 19 k := fun k => by
      rw [z_upj _ _ _ _ _ _ _ (by decide), e2 0 19 (by decide)]
      simp (disch := omega) only [z_upj, z_upk]
    have q18 : ∀ k, am_up J' 0 15 5 (nI cv.length + nI 1) 0 18 k = if cv.length * 16 + 0 ≤ k ∧ k < cv.length * 16 + 16 then I y 42 (b * 16 + (k - (cv.length * 16))) else I 0 18 k := fun k => by
      rw [z_upj _ _ _ _ _ _ _ (by decide), e3 k]
      simp (disch := omega) only [z_upj]
    refine ⟨am_up J' 0 15 5 (nI cv.length + nI 1), ?_, ?_, fr, q15⟩
    · rw [← hJ56, ← e1]
      simp (disch := omega) only [gX9_keep, bX9_keep_0, z_inb, z_clamp, hb, decide_true, z_gdt, h5, z_00, if_true, am_lt, z_upj, a2.1, z_lt, hl, a1, hn, h01]
    · rw [es]
      refine ⟨by rw [q15 8 (by decide)]; exact a1, ⟨by rw [z_upk, if_pos rfl, List.length_append, nI_add]; rfl, by rw [List.length_append, List.length_singleton]; omega⟩, es ▸ svp_nd a3, fun c hc => ?_, fun c hc => ?_, fun k c hk => ?_, fun c hc hn => ?_, fun c hc => by rw [fr y 43 (by omega)]; exact a8 c hc, by rw [fr y 41 (by omega), fr y 43 (by omega)]; exact a9⟩
      · rcases List.mem_append.mp hc with h | h
        · exact a4 c h
        · rw [List.mem_singleton.mp h]; exact hb
      · rw [q19]
        by_cases e : c = b
        · rw [if_pos e, if_pos (List.mem_append.mpr (Or.inr (List.mem_singleton.mpr e)))]
        · rw [if_neg e, a5 c hc]
          by_cases h : c ∈ cv
          · rw [if_pos h, if_pos (List.mem_append.mpr (Or.inl h))]
          · rw [if_neg h, if_neg (fun h2 => (List.mem_append.mp h2).elim h (fun h3 => e (List.mem_singleton.mp h3)))]
      · rw [q16, q17]
        by_cases e : k < cv.length
        · rw [List.getElem?_append_left e] at hk
          rw [if_neg (by omega), if_neg (by omega)]
          refine ⟨(a6 k c hk).1, (a6 k c hk).2.1, fun hB i hi => ?_⟩
          rw [q18, if_neg (by omega)]
          exact (a6 k c hk).2.2 hB i hi
        · rw [List.getElem?_append_right (by omega)] at hk
          have ek : k = cv.length := by
            rcases Nat.lt_or_ge (k - cv.length) 1 with h | h
            · omega
            · rw [List.getElem?_eq_none (by simpa using h)] at hk; cases hk
          subst ek
          rw [Nat.sub_self] at hk
          obtain rfl : b = c := by simpa using hk
          rw [if_pos rfl, if_pos rfl]
          refine ⟨rfl, (a7 b hb hm).1, fun hB i hi => ?_⟩
          rw [q18, if_pos (by omega), show cv.length * 16 + i - (cv.length * 16) = i from by omega]
          exact (a7 b hb hm).2 hB i hi
      · rw [fr y 43 (by omega), fr y 42 (by omega)]
        exact a7 c hc (fun h => hn (List.mem_append.mpr (Or.inl h)))
/-- a word of a cached, saved block -/
theorem c_put {y b i : Nat} {v : Int32} {B : wS} {cv : List Nat} {I : am_I} (hb : b < 640) (hi : i < 16) (h : pr_cls y B cv I) (hm : b ∈ cv) (h1 : I y 43 b = nI 1) : pr_cls y B cv (am_up I y 42 (b * 16 + i) v) ∧ (∀ c j, c < 640 → j < 16 → c_v y (am_up I y 42 (b * 16 + i) v) c j = w_up (c_v y I) b i v c j) := by
  obtain ⟨a1, a2, a3, a4, a5, a6, a7, a8, a9⟩ := h
  refine ⟨⟨by simp (disch := omega) only [z_upj]; exact a1, by simp (disch := omega) only [z_upj]; exact a2, a3, a4, fun c hc => by simp (disch := omega) only [z_upj]; exact a5 c hc, fun k c hk => by simp (disch := omega) only [z_upj]; exact a6 k c hk, fun c hc hn => ?_, fun c hc => by simp (disch := omega) only [z_upj]; exact a8 c hc, by simp (disch := omega) only [z_upj]; exact a9⟩, fun c j hc hj => ?_⟩
  · have e : ¬ c = b := fun e => hn (e ▸ hm)
    simp (disch := omega) only [z_upj]
    refine ⟨(a7 c hc hn).1, fun hB j hj => ?_⟩
    rw [z_upk, if_neg (by omega)]
    exact (a7 c hc hn).2 hB j hj
  · unfold c_v w_up
    simp (disch := omega) only [z_upj]
    by_cases e : c = b ∧ j = i
    · obtain ⟨rfl, rfl⟩ := e
      rw [if_pos h1, z_upk, if_pos rfl, if_pos ⟨rfl, rfl⟩]
    · rw [if_neg e, z_upk, show (if c * 16 + j = b * 16 + i then v else I y 42 (c * 16 + j)) = I y 42 (c * 16 + j) from if_neg (by omega)]
theorem c_set {n y b i : Nat} {v : Int32} {B : wS} {cv : List Nat} {D : Nat → Int32} {I : am_I} (hy : y < 4) (hn : y < n) (hb : b < 640) (hi : i < 16) (h : pr_cls y B cv I) (hcv : ∀ c, c ∈ cv → I y 43 c = nI 1) (hD : ∀ k, k < 10240 → I 0 1 k = D k) (hl : b ∈ cv ∨ cv.length < 32) : ∃ I', gX9_set n (nI b) (nI i) v I = some I' ∧ pr_cls y (Bm (I y 43 b) D B b) (svp cv b) I' ∧ (∀ c j, c < 640 → j < 16 → c_v y I' c j = w_up (c_v y I) b i v c j) ∧ (∀ c, c < 640 → I' y 43 c = if c = b then nI 1 else I y 43 c) ∧ fI y I I' ∧ (∀ k, ¬ k = 5 → I' 0 15 k = I 0 15 k) ∧ I' 0 20 = I 0 20 := by
  obtain ⟨I1, e1, e2, e3, e4, e5⟩ := c_fetch (n := n) (K := fun q => bX9_set_29 n (nI b) (nI i) v q) hy hn hb h hcv hD
  obtain ⟨I2, f1, f2, f3, f4⟩ := c_keep (n := n) hy hn hb e2 hl
  have h43 : ∀ k, I2 y 43 k = I1 y 43 k := fun k => by rw [f3 y 43 (by omega)]
  have hb2 : I2 y 43 b = nI 1 := by rw [h43, e4 b hb, if_pos rfl]
  obtain ⟨g1, g2⟩ := c_put (i := i) (v := v) hb hi f2 (svp_mem.mpr (Or.inr rfl)) hb2
  have hlt : b * 16 + i < 10240 := by omega
  have tv : ∀ c j, c_v y I2 c j = c_v y I1 c j := fun c j => by unfold c_v; rw [h43, f3 y 42 (by omega), f3 0 1 (by omega)]
  refine ⟨am_up I2 y 42 (b * 16 + i) v, ?_, g1, fun c j hc hj => ?_, fun c hc => ?_, fun i' j' hi' hj' => ?_, fun k hk => ?_, ?_⟩
  · simp (disch := omega) only [gX9_set, bX9_set_0, c_isw hb hi, Option.bind_some, z_10, if_false, h.1, z_clamp, hn, decide_true, z_gdt, z_inb, hb]
    rw [e1]
    simp (disch := omega) only [bX9_set_29, f1, Option.bind_some, f2.1, z_clamp, hn, decide_true, z_gdt, pk_mul, nI_add, z_inb, hlt, am_lt]
  · rw [g2 c j hc hj]
    unfold w_up
    rw [tv, e3 c j hc hj]
  · simp (disch := omega) only [z_upj]
    rw [h43, e4 c hc]
  · rw [z_upj _ _ _ _ _ _ _ (by omega), f3 i' j' (by omega), e5 i' j' hi']
  · simp (disch := omega) only [z_upj]
    rw [f4 k hk, e5 0 15 (by omega)]
  · simp (disch := omega) only [z_upj]
    rw [f3 0 20 (by omega), e5 0 20 (by omega)]
theorem c_clear {n y b : Nat} {B : wS} {cv : List Nat} {I : am_I} (hy : y < 4) (hn : y < n) (hb : b < 640) (h : pr_cls y B cv I) (hl : b ∈ cv ∨ cv.length < 32) : ∃ I', gX9_clear n (nI b) I = some I' ∧ pr_cls y B (svp cv b) I' ∧ (∀ c j, c < 640 → j < 16 → c_v y I' c j = w_cl (c_v y I) b c j) ∧ (∀ c, c < 640 → I' y 43 c = if c = b then nI 1 else I y 43 c) ∧ fI y I I' ∧ (∀ k, ¬ k = 5 → I' 0 15 k = I 0 15 k) ∧ I' 0 20 = I 0 20 := by
  obtain ⟨I2, f1, f2, f3, f4⟩ := c_keep (n := n) hy hn hb h hl
  obtain ⟨J', e1, e2, e3⟩ := lq_clear (n := n) hy hn hb 16 0 am_fu I2 rfl (by decide) f2.1
  obtain ⟨a1, a2, a3, a4, a5, a6, a7, a8, a9⟩ := f2
  have h43 : J' y 43 b = nI 0 ∨ J' y 43 b = nI 1 := by rw [e2 y 43 (by omega)]; exact a8 b hb
  have hx : ∃ I', gX1_admit n y (nI b) J' = some I' ∧ (∀ i j, ¬ (i = y ∧ (j = 41 ∨ j = 43)) → I' i j = J' i j) ∧ (∀ k, I' y 43 k = if k = b then nI 1 else J' y 43 k) ∧ I' y 41 2 = nI (cnt (I' y 43) 640) := by
    rcases h43 with h0 | h0
    · have q43 : ∀ k, am_up (am_up J' y 43 b (nI 1)) y 41 2 (J' y 41 2 + nI 1) y 43 k = if k = b then nI 1 else J' y 43 k := fun k => by rw [z_upj _ _ _ _ _ _ _ (by omega), z_upk]
      refine ⟨am_up (am_up J' y 43 b (nI 1)) y 41 2 (J' y 41 2 + nI 1), ?_, fun i j hij => ?_, q43, ?_⟩
      · simp (disch := omega) only [gX1_admit, bX1_admit_0, bX1_admit_26, z_inb, z_clamp, hb, decide_true, z_gdt, h0, z_00, if_true, am_lt, z_upj]
      · rw [z_upj _ _ _ _ _ _ _ (by omega), z_upj _ _ _ _ _ _ _ (by omega)]
      · rw [cnt_up (f := J' y 43) (b := b) 640 hb (fun c _ hne => (q43 c).trans (if_neg hne)) (by rw [h0]; exact z_n01) ((q43 b).trans (if_pos rfl)), z_upk, if_pos rfl, e2 y 41 (by omega), a9, nI_add, e2 y 43 (by omega)]
    · refine ⟨J', ?_, fun _ _ _ => rfl, fun k => ?_, ?_⟩
      · simp (disch := omega) only [gX1_admit, bX1_admit_0, bX1_admit_26, z_inb, z_clamp, hb, decide_true, z_gdt, h0, z_10, if_false]
      · by_cases e : k = b
        · rw [if_pos e, e]; exact h0
        · rw [if_neg e]
      · rw [e2 y 41 (by omega), e2 y 43 (by omega)]
        exact a9
  obtain ⟨I', x1, x2, x3, x4⟩ := hx
  have w43 : ∀ c, I' y 43 c = if c = b then nI 1 else I y 43 c := fun c => by
    rw [x3, e2 y 43 (by omega), f3 y 43 (by omega)]
  have w42 : ∀ c i, i < 16 → I' y 42 (c * 16 + i) = if c = b then nI 0 else I y 42 (c * 16 + i) := fun c i hi => by
    rw [x2 y 42 (by omega), e3, f3 y 42 (by omega)]
    by_cases e : c = b
    · rw [if_pos (by omega), if_pos e]
    · rw [if_neg (by omega), if_neg e]
  have fr : ∀ i j, ¬ (i = y ∧ 41 ≤ j ∧ j ≤ 43) → I' i j = I2 i j := fun i j hij => by
    rw [x2 i j (by omega), e2 i j (by omega)]
  refine ⟨I', ?_, ⟨by rw [fr 0 15 (by omega)]; exact a1, by rw [fr 0 15 (by omega)]; exact a2, a3, a4, fun c hc => by rw [fr 0 19 (by omega)]; exact a5 c hc, fun k c hk => by rw [fr 0 16 (by omega), fr 0 17 (by omega), fr 0 18 (by omega)]; exact a6 k c hk, fun c hc hnc => ?_, fun c hc => ?_, x4⟩, fun c j hc hj => ?_, fun c _ => w43 c, fun i j q1 q2 => by rw [fr i j q1]; exact f3 i j (by omega), fun k hk => by rw [fr 0 15 (by omega)]; exact f4 k hk, by rw [fr 0 20 (by omega), f3 0 20 (by omega)]⟩
  · rw [← x1, ← e1]
    simp (disch := omega) only [gX9_clear, bX9_clear_0, f1, Option.bind_some]
  · have e : ¬ c = b := fun e => hnc (svp_mem.mpr (Or.inr e))
    rw [w43 c, if_neg e]
    refine ⟨by rw [← f3 y 43 (by omega)]; exact (a7 c hc hnc).1, fun hB i hi => ?_⟩
    rw [w42 c i hi, if_neg e, ← f3 y 42 (by omega)]
    exact (a7 c hc hnc).2 hB i hi
  · rw [w43 c]
    by_cases e : c = b
    · rw [if_pos e]; exact Or.inr rfl
    · rw [if_neg e, ← f3 y 43 (by omega)]; exact a8 c hc
  · unfold c_v w_cl
    rw [w43 c, w42 c j hj, fr 0 1 (by omega), f3 0 1 (by omega)]
    by_cases e : c = b
    · rw [if_pos e, if_pos rfl, if_pos e, if_pos e]
    · rw [if_neg e, if_neg e, if_neg e]
