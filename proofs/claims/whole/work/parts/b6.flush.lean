
/-- the blocks of a flush's writes -/
def wb (x : Nat) (lg : List Nat) (k : Nat) : Nat := if k < lg.length then 3 + 24 * x + k else if k = lg.length then 2 + 24 * x else if k = lg.length + 1 then 1 + 24 * x else if k < 2 * lg.length + 2 then lg.getD (k - lg.length - 2) 0 else 1 + 24 * x
/-- their words -/
def ww (lg : List Nat) (be : Int32) (fw : Nat → Nat → Int32) (k i : Nat) : Int32 := if k < lg.length then fw k i else if k = lg.length then (if i < lg.length then nI (lg.getD i 0) else nI 0) else if k < 2 * lg.length + 2 ∧ ¬ k = lg.length + 1 then fw (k - lg.length - 2) i else if i = 0 then be else if i = 1 then nI lg.length else if i = 2 then nI (if k = lg.length + 1 then 1 else 0) else nI 0
theorem getD_some {lg : List Nat} {k b : Nat} (h : lg[k]? = some b) : lg.getD k 0 = b := by
  rw [List.getD_eq_getElem?_getD, h]
  rfl
/-- a loop over all blocks that does something for those of a list -/
theorem scan {ρ : Type} {lg : List Nat} (hs : lg.Pairwise (· < ·)) (h640 : ∀ b, b ∈ lg → b < 640) (L : Nat → Nat → Nat → am_I → Option ρ) (P : Nat → Nat → am_I → Prop)
    (hskip : ∀ f i m J, i < 640 → i ∉ lg → P i m J → ∃ J', L (f + 1) i m J = L f (i + 1) m J' ∧ P (i + 1) m J')
    (htake : ∀ f i m J, i < 640 → lg[m]? = some i → P i m J → ∃ J', L (f + 1) i m J = L f (i + 1) (m + 1) J' ∧ P (i + 1) (m + 1) J') :
    ∀ (q i fu : Nat) (l1 l2 : List Nat) (J : am_I), i + q = 640 → q < fu → lg = l1 ++ l2 → (∀ c, c ∈ l1 → c < i) → (∀ c, c ∈ l2 → i ≤ c) → P i l1.length J → ∃ J' f', L fu i l1.length J = L (f' + 1) 640 lg.length J' ∧ P 640 lg.length J' := by
  intro q
  induction q with
  | zero =>
    intro i fu l1 l2 J hi hf hl h1 h2 hP
    obtain ⟨fu, rfl⟩ : ∃ f, fu = f + 1 := ⟨fu - 1, by omega⟩
    obtain rfl : i = 640 := by omega
    have : l2 = [] := by
      cases l2 with
      | nil => rfl
      | cons a l =>
        have := h2 a List.mem_cons_self
        have := h640 a (by rw [hl]; exact List.mem_append.mpr (Or.inr List.mem_cons_self))
        omega
    subst this
    rw [List.append_nil] at hl
    rw [hl]
    exact ⟨J, fu, rfl, hP⟩
  | succ q ih =>
    intro i fu l1 l2 J hi hf hl h1 h2 hP
    obtain ⟨fu, rfl⟩ : ∃ f, fu = f + 1 := ⟨fu - 1, by omega⟩
    by_cases hm : i ∈ lg
    · have hm2 : i ∈ l2 := by
        rw [hl] at hm
        rcases List.mem_append.mp hm with h | h
        · have := h1 i h; omega
        · exact h
      obtain ⟨a, l, rfl⟩ : ∃ a l, l2 = a :: l := by
        cases l2 with
        | nil => exact absurd hm2 List.not_mem_nil
        | cons a l => exact ⟨a, l, rfl⟩
      rw [hl] at hs
      have hs2 := (List.pairwise_append.mp hs).2.1
      have hs3 := List.pairwise_cons.mp hs2
      have ea : a = i := by
        have h3 := h2 a List.mem_cons_self
        rcases List.mem_cons.mp hm2 with h | h
        · exact h.symm
        · have := hs3.1 i h
          omega
      subst ea
      have hg : lg[l1.length]? = some a := by
        rw [hl, List.getElem?_append_right (Nat.le_refl _), Nat.sub_self]
        rfl
      obtain ⟨J1, e1, e2⟩ := htake fu a l1.length J (by omega) hg hP
      have hlen : (l1 ++ [a]).length = l1.length + 1 := by rw [List.length_append]; rfl
      rw [← hlen] at e1 e2
      obtain ⟨J', f', r1, r2⟩ := ih (a + 1) fu (l1 ++ [a]) l J1 (by omega) (by omega) (by rw [hl, List.append_assoc]; rfl) (fun c hc => by
        rcases List.mem_append.mp hc with h | h
        · have := h1 c h; omega
        · rw [List.mem_singleton.mp h]; omega) (fun c hc => hs3.1 c hc) e2
      exact ⟨J', f', e1.trans r1, r2⟩
    · obtain ⟨J1, e1, e2⟩ := hskip fu i l1.length J (by omega) hm hP
      obtain ⟨J', f', r1, r2⟩ := ih (i + 1) fu l1 l2 J1 (by omega) (by omega) hl (fun c hc => by have := h1 c hc; omega) (fun c hc => by
        have h3 := h2 c hc
        have : ¬ c = i := fun e => hm (by rw [hl, ← e]; exact List.mem_append.mpr (Or.inr hc))
        omega) e2
      exact ⟨J', f', e1.trans r1, r2⟩
section FLUSH
variable {n x : Nat} {I J J0 : am_I} {lg : List Nat} {be : Int32} {fw : Nat → Nat → Int32}
theorem get_lt {m b : Nat} (h : lg[m]? = some b) : m < lg.length := by
  rcases Nat.lt_or_ge m lg.length with h2 | h2
  · exact h2
  · rw [List.getElem?_eq_none h2] at h; cases h
/-- what the reference's flush needs of the log -/
def LGr (x : Nat) (J : am_I) (lg : List Nat) : Prop := lg.Pairwise (· < ·) ∧ (∀ b, b ∈ lg → b < 640) ∧ lg.length ≤ 16 ∧ ∀ b, b < 640 → J 0 69 (640 * x + b) = nI (if b ∈ lg then 1 else 0)
theorem bf_1 (hx : x < 4) (hl : LGr x J0 lg) (hfw : ∀ k b i, lg[k]? = some b → i < 16 → fw k i = J0 0 67 (16 * (640 * x + b) + i)) (h : WR J0 x 0 (wb x lg) (ww lg be fw)) : ∃ J' f', bX11_beginFlush_36 n am_fu (nI x) (nI (1 + 24 * x)) (nI 0) (nI 0) J0 = bX11_beginFlush_36 n (f' + 1) (nI x) (nI (1 + 24 * x)) (nI lg.length) (nI 640) J' ∧ WR J' x lg.length (wb x lg) (ww lg be fw) ∧ fFl x J0 J' := by
  obtain ⟨l1, l2, l3, l4⟩ := hl
  refine scan l1 l2 (fun f i m J => bX11_beginFlush_36 n f (nI x) (nI (1 + 24 * x)) (nI m) (nI i) J) (fun i m J => WR J x m (wb x lg) (ww lg be fw) ∧ fFl x J0 J) (fun f i m J hi hm hP => ?_) (fun f i m J hi hm hP => ?_) 640 0 am_fu [] lg J0 (by omega) (fu_lt (by omega)) rfl (fun c hc => absurd hc List.not_mem_nil) (fun c _ => Nat.zero_le c) ⟨h, fFl.rf⟩
  · have hle : ¬ 640 ≤ i := by omega
    have g1 : 640 * x + i < 2560 := by omega
    have e : J 0 69 (640 * x + i) = nI 0 := by rw [hP.2.1 0 69 (by omega), l4 i hi, if_neg hm]
    refine ⟨J, ?_, hP⟩
    conv => lhs; unfold bX11_beginFlush_36
    simp (disch := omega) only [z_le, hle, if_false, pk_mul, nI_add, z_inb, g1, decide_true, z_gdt, z_clamp, e, z_00, if_true, bX11_beginFlush_75]
  · have hle : ¬ 640 ≤ i := by omega
    have g1 : 640 * x + i < 2560 := by omega
    have hmc := get_lt hm
    have e : J 0 69 (640 * x + i) = nI 1 := by rw [hP.2.1 0 69 (by omega), l4 i hi, if_pos (List.mem_of_getElem? hm)]
    obtain ⟨J', e1, e2, e3⟩ := r_copy (n := n) (m := m) (v := 3 + 24 * x + m) (b := i) hx (by omega) hi hP.1 (by unfold wb; rw [if_pos hmc]) (fun i' hi' => by
      unfold ww
      rw [if_pos hmc, hfw m i i' hm hi', hP.2.1 0 67 (by omega)])
    refine ⟨J', ?_, e2, hP.2.tr e3⟩
    conv => lhs; unfold bX11_beginFlush_36
    simp (disch := omega) only [z_le, hle, if_false, pk_mul, nI_add, z_inb, g1, decide_true, z_gdt, z_clamp, e, z_10, bX11_beginFlush_75]
    rw [show 1 + 24 * x + 2 + m = 3 + 24 * x + m from by omega, e1, Option.bind_some]
/-- the table -/
def wt (lg : List Nat) (be : Int32) (fw : Nat → Nat → Int32) (m k i : Nat) : Int32 := if k = lg.length ∧ m ≤ i then nI 0 else ww lg be fw k i
theorem bf_2 (hx : x < 4) (hl : LGr x J0 lg) (h : WR J0 x (lg.length + 1) (wb x lg) (wt lg be fw 0)) : ∃ J' f', bX11_beginFlush_105 n am_fu (nI x) (nI lg.length) (nI lg.length) (nI 0) (nI 0) J0 = bX11_beginFlush_105 n (f' + 1) (nI x) (nI lg.length) (nI lg.length) (nI lg.length) (nI 640) J' ∧ WR J' x (lg.length + 1) (wb x lg) (ww lg be fw) ∧ fFl x J0 J' := by
  obtain ⟨l1, l2, l3, l4⟩ := hl
  obtain ⟨J', f', r1, r2, r3⟩ := scan l1 l2 (fun f i m J => bX11_beginFlush_105 n f (nI x) (nI lg.length) (nI lg.length) (nI m) (nI i) J) (fun i m J => WR J x (lg.length + 1) (wb x lg) (wt lg be fw m) ∧ fFl x J0 J) (fun f i m J hi hm hP => by
    have hle : ¬ 640 ≤ i := by omega
    have g1 : 640 * x + i < 2560 := by omega
    have e : J 0 69 (640 * x + i) = nI 0 := by rw [hP.2.1 0 69 (by omega), l4 i hi, if_neg hm]
    refine ⟨J, ?_, hP⟩
    conv => lhs; unfold bX11_beginFlush_105
    simp (disch := omega) only [z_le, hle, if_false, pk_mul, nI_add, z_inb, g1, decide_true, z_gdt, z_clamp, e, z_00, if_true, bX11_beginFlush_143]) (fun f i m J hi hm hP => by
    have hle : ¬ 640 ≤ i := by omega
    have g1 : 640 * x + i < 2560 := by omega
    have hmc := get_lt hm
    have e : J 0 69 (640 * x + i) = nI 1 := by rw [hP.2.1 0 69 (by omega), l4 i hi, if_pos (List.mem_of_getElem? hm)]
    obtain ⟨w1, w2⟩ := wr_up (k := lg.length) (i := m) (v := nI i) hP.1 (by omega) (by omega) (by omega)
    refine ⟨_, ?_, wr_cg w1 (fun _ _ => rfl) (fun k i' hk hi' => ?_), hP.2.tr w2⟩
    · conv => lhs; unfold bX11_beginFlush_105
      simp (disch := omega) only [z_le, hle, if_false, pk_mul, nI_add, z_inb, g1, decide_true, z_gdt, z_clamp, e, z_10, bX11_beginFlush_143]
      rw [r_wrw hx (by omega) (by omega), Option.bind_some]
    · unfold wt
      by_cases e2 : k = lg.length ∧ i' = m
      · rw [if_pos e2, if_neg (by omega)]
        unfold ww
        rw [if_neg (by omega), if_pos e2.1, if_pos (by omega), e2.2, getD_some hm]
      · rw [if_neg e2]
        by_cases e3 : k = lg.length ∧ m + 1 ≤ i'
        · rw [if_pos e3, if_pos (by omega)]
        · rw [if_neg e3, if_neg (by omega)]) 640 0 am_fu [] lg J0 (by omega) (fu_lt (by omega)) rfl (fun c hc => absurd hc List.not_mem_nil) (fun c _ => Nat.zero_le c) ⟨h, fFl.rf⟩
  refine ⟨J', f', r1, wr_cg r2 (fun _ _ => rfl) (fun k i hk hi => ?_), r3⟩
  unfold wt
  by_cases e : k = lg.length ∧ lg.length ≤ i
  · rw [if_pos e]
    unfold ww
    rw [if_neg (by omega), if_pos e.1, if_neg (by omega)]
  · rw [if_neg e]
/-- what beginning a flush leaves as it is -/
def fBf (x : Nat) (J J' : am_I) : Prop := (∀ i j, ¬ (i = 0 ∧ ((69 ≤ j ∧ j ≤ 75) ∨ j = 126)) → J' i j = J i j) ∧ (∀ k, ¬ k = x → J' 0 70 k = J 0 70 k ∧ J' 0 71 k = J 0 71 k ∧ J' 0 72 k = J 0 72 k ∧ J' 0 73 k = J 0 73 k) ∧ (∀ k, ¬ (640 * x ≤ k ∧ k < 640 * x + 640) → J' 0 69 k = J 0 69 k) ∧ (∀ k, ¬ (36 * x ≤ k ∧ k < 36 * x + 36) → J' 0 74 k = J 0 74 k) ∧ ∀ k, ¬ (16 * (36 * x) ≤ k ∧ k < 16 * (36 * x + 36)) → J' 0 75 k = J 0 75 k
theorem bf_3 (hx : x < 4) (hl : LGr x J0 lg) (hfw : ∀ k b i, lg[k]? = some b → i < 16 → fw k i = J0 0 67 (16 * (640 * x + b) + i)) (h : WR J0 x (lg.length + 2) (wb x lg) (ww lg be fw)) : ∃ J' f', bX11_beginFlush_159 n am_fu (nI x) (nI lg.length) (nI 0) J0 = bX11_beginFlush_159 n (f' + 1) (nI x) (nI lg.length) (nI 640) J' ∧ WR J' x (2 * lg.length + 2) (wb x lg) (ww lg be fw) ∧ (∀ b, b < 640 → J' 0 69 (640 * x + b) = nI 0) ∧ (∀ i j, ¬ (i = 0 ∧ (j = 69 ∨ j = 72 ∨ j = 74 ∨ j = 75)) → J' i j = J0 i j) ∧ (∀ k, ¬ k = x → J' 0 72 k = J0 0 72 k) ∧ (∀ k, ¬ (640 * x ≤ k ∧ k < 640 * x + 640) → J' 0 69 k = J0 0 69 k) ∧ (∀ k, ¬ (36 * x ≤ k ∧ k < 36 * x + 36) → J' 0 74 k = J0 0 74 k) ∧ ∀ k, ¬ (16 * (36 * x) ≤ k ∧ k < 16 * (36 * x + 36)) → J' 0 75 k = J0 0 75 k := by
  obtain ⟨l1, l2, l3, l4⟩ := hl
  have hfl : ∀ (J J' : am_I) (i : Nat), i < 640 → (∀ b, b < 640 → J 0 69 (640 * x + b) = if b < i then nI 0 else J0 0 69 (640 * x + b)) → J' 0 69 (640 * x + i) = nI 0 → (∀ k, ¬ k = 640 * x + i → J' 0 69 k = J 0 69 k) → ∀ b, b < 640 → J' 0 69 (640 * x + b) = if b < i + 1 then nI 0 else J0 0 69 (640 * x + b) := fun J J' i hi h1 h2 h3 b hb => by
    by_cases e : b = i
    · rw [e, h2, if_pos (by omega)]
    · rw [h3 _ (by omega), h1 b hb]
      by_cases e2 : b < i
      · rw [if_pos e2, if_pos (by omega)]
      · rw [if_neg e2, if_neg (by omega)]
  obtain ⟨J', f', r1, r2, r3, r4⟩ := scan l1 l2 (fun f i m J => bX11_beginFlush_159 n f (nI x) (nI lg.length) (nI i) J) (fun i m J => WR J x (lg.length + 2 + m) (wb x lg) (ww lg be fw) ∧ (∀ b, b < 640 → J 0 69 (640 * x + b) = if b < i then nI 0 else J0 0 69 (640 * x + b)) ∧ ((∀ i j, ¬ (i = 0 ∧ (j = 69 ∨ j = 72 ∨ j = 74 ∨ j = 75)) → J i j = J0 i j) ∧ (∀ k, ¬ k = x → J 0 72 k = J0 0 72 k) ∧ (∀ k, ¬ (640 * x ≤ k ∧ k < 640 * x + 640) → J 0 69 k = J0 0 69 k) ∧ (∀ k, ¬ (36 * x ≤ k ∧ k < 36 * x + 36) → J 0 74 k = J0 0 74 k) ∧ ∀ k, ¬ (16 * (36 * x) ≤ k ∧ k < 16 * (36 * x + 36)) → J 0 75 k = J0 0 75 k)) (fun f i m J hi hm hP => by
    obtain ⟨p1, p2, p3⟩ := hP
    have hle : ¬ 640 ≤ i := by omega
    have g1 : 640 * x + i < 2560 := by omega
    have e : J 0 69 (640 * x + i) = nI 0 := by rw [p2 i hi, if_neg (by omega), l4 i hi, if_neg hm]
    refine ⟨J, ?_, p1, hfl J J i hi p2 e (fun _ _ => rfl), p3⟩
    conv => lhs; unfold bX11_beginFlush_159
    simp (disch := omega) only [z_le, hle, if_false, pk_mul, nI_add, z_inb, g1, decide_true, z_gdt, z_clamp, e, z_00, if_true, bX11_beginFlush_206]) (fun f i m J hi hm hP => by
    obtain ⟨p1, p2, p3, p4, p5, p6, p7⟩ := hP
    have hle : ¬ 640 ≤ i := by omega
    have g1 : 640 * x + i < 2560 := by omega
    have hmc := get_lt hm
    have e : J 0 69 (640 * x + i) = nI 1 := by rw [p2 i hi, if_neg (by omega), l4 i hi, if_pos (List.mem_of_getElem? hm)]
    obtain ⟨J1, e1, e2, e3⟩ := r_copy (n := n) (m := lg.length + 2 + m) (v := i) (b := i) hx (by omega) hi p1 (by
      unfold wb
      rw [if_neg (by omega), if_neg (by omega), if_neg (by omega), if_pos (by omega), show lg.length + 2 + m - lg.length - 2 = m from by omega, getD_some hm]) (fun i' hi' => by
      unfold ww
      rw [if_neg (by omega), if_neg (by omega), if_pos (by omega), show lg.length + 2 + m - lg.length - 2 = m from by omega, hfw m i i' hm hi', p3 0 67 (by omega)])
    refine ⟨am_up J1 0 69 (640 * x + i) (nI 0), ?_, ⟨by rw [z_upj _ _ _ _ _ _ _ (by omega)]; exact e2.1, fun k hk => ⟨by rw [z_upj _ _ _ _ _ _ _ (by omega)]; exact (e2.2 k hk).1, fun i' hi' => by rw [z_upj _ _ _ _ _ _ _ (by omega)]; exact (e2.2 k hk).2 i' hi'⟩⟩, hfl J _ i hi p2 (by rw [z_upk, if_pos rfl]) (fun k hk => by rw [z_upk, if_neg hk, e3.1 0 69 (by omega)]), fun a b q => by rw [z_upj _ _ _ _ _ _ _ (by omega), e3.1 a b (by omega)]; exact p3 a b q, fun k q => by rw [z_upj _ _ _ _ _ _ _ (by omega), e3.2.1 k q]; exact p4 k q, fun k q => by rw [z_upk, if_neg (by omega), e3.1 0 69 (by omega)]; exact p5 k q, fun k q => by rw [z_upj _ _ _ _ _ _ _ (by omega), e3.2.2.1 k q]; exact p6 k q, fun k q => by rw [z_upj _ _ _ _ _ _ _ (by omega), e3.2.2.2 k q]; exact p7 k q⟩
    conv => lhs; unfold bX11_beginFlush_159
    simp (disch := omega) only [z_le, hle, if_false, pk_mul, nI_add, z_inb, g1, decide_true, z_gdt, z_clamp, e, z_10, bX11_beginFlush_206, e1, Option.bind_some, am_lt]) 640 0 am_fu [] lg J0 (by omega) (fu_lt (by omega)) rfl (fun c hc => absurd hc List.not_mem_nil) (fun c _ => Nat.zero_le c) ⟨h, fun b _ => by rw [if_neg (by omega)], fun _ _ _ => rfl, fun _ _ => rfl, fun _ _ => rfl, fun _ _ => rfl, fun _ _ => rfl⟩
  refine ⟨J', f', r1, ?_, fun b hb => by rw [r3 b hb, if_pos hb], r4⟩
  rw [show 2 * lg.length + 2 = lg.length + 2 + lg.length from by omega]
  exact r2
/-- which calls the flush makes safe -/
theorem nf_lp {t : Nat} (hx : x < 4) (ht : t ≤ 400) : ∀ (q i fu : Nat) (J : am_I), i + q = t → q < fu → J 0 60 63 = nI t → ∃ J', bX11_noteFlush_2 n fu (nI x) (nI i) J = some J' ∧ (∀ k, J' 0 126 k = if i ≤ k ∧ k < t ∧ J 0 125 (10 * k) = nI x ∧ J 0 125 (10 * k + 9) = nI 1 then nI 1 else J 0 126 k) ∧ (∀ a b, ¬ (a = 0 ∧ b = 126) → J' a b = J a b) := by
  intro q
  induction q with
  | zero =>
    intro i fu J hi hf h63
    obtain ⟨fu, rfl⟩ : ∃ f, fu = f + 1 := ⟨fu - 1, by omega⟩
    obtain rfl : i = t := by omega
    refine ⟨J, ?_, fun k => by rw [if_neg (by omega)], fun _ _ _ => rfl⟩
    conv => lhs; unfold bX11_noteFlush_2
    simp (disch := omega) only [h63, z_le, Nat.le_refl, if_true]
  | succ q ih =>
    intro i fu J hi hf h63
    obtain ⟨fu, rfl⟩ : ∃ f, fu = f + 1 := ⟨fu - 1, by omega⟩
    have hle : ¬ t ≤ i := by omega
    have g1 : 10 * i < 4000 := by omega
    have g2 : 10 * i + 9 < 4000 := by omega
    have g3 : i < 400 := by omega
    by_cases e : J 0 125 (10 * i) = nI x ∧ J 0 125 (10 * i + 9) = nI 1
    · obtain ⟨J', e1, e2, e3⟩ := ih (i + 1) fu (am_up J 0 126 i (nI 1)) (by omega) (by omega) (by rw [z_upj _ _ _ _ _ _ _ (by omega)]; exact h63)
      refine ⟨J', ?_, fun k => ?_, fun a b h => by rw [e3 a b h, z_upj _ _ _ _ _ _ _ h]⟩
      · rw [← e1]
        conv => lhs; unfold bX11_noteFlush_2
        simp (disch := omega) only [h63, z_le, hle, if_false, pk_mul, nI_add, z_inb, g1, g2, g3, decide_true, z_gdt, z_clamp, e.1, e.2, if_true, am_lt, bX11_noteFlush_46]
      · rw [e2 k, z_upk, z_upj _ _ _ _ _ _ _ (by omega)]
        by_cases ek : k = i
        · subst ek
          rw [if_neg (by omega), if_pos rfl, if_pos ⟨Nat.le_refl _, by omega, e⟩]
        · rw [if_neg ek]
          by_cases e4 : i + 1 ≤ k ∧ k < t ∧ J 0 125 (10 * k) = nI x ∧ J 0 125 (10 * k + 9) = nI 1
          · rw [if_pos e4, if_pos ⟨by omega, e4.2⟩]
          · rw [if_neg e4, if_neg (fun q => e4 ⟨by omega, q.2⟩)]
    · obtain ⟨J', e1, e2, e3⟩ := ih (i + 1) fu J (by omega) (by omega) h63
      refine ⟨J', ?_, fun k => ?_, e3⟩
      · rw [← e1]
        conv => lhs; unfold bX11_noteFlush_2
        by_cases ea : J 0 125 (10 * i) = nI x
        · have eb : ¬ J 0 125 (10 * i + 9) = nI 1 := fun q => e ⟨ea, q⟩
          simp (disch := omega) only [h63, z_le, hle, if_false, pk_mul, nI_add, z_inb, g1, g2, g3, decide_true, z_gdt, z_clamp, ea, eb, if_true, bX11_noteFlush_46]
        · simp (disch := omega) only [h63, z_le, hle, if_false, pk_mul, nI_add, z_inb, g1, g2, g3, decide_true, z_gdt, z_clamp, ea, bX11_noteFlush_46]
      · rw [e2 k]
        by_cases e4 : i + 1 ≤ k ∧ k < t ∧ J 0 125 (10 * k) = nI x ∧ J 0 125 (10 * k + 9) = nI 1
        · rw [if_pos e4, if_pos ⟨by omega, e4.2⟩]
        · rw [if_neg e4, if_neg (fun q => ?_)]
          by_cases ek : k = i
          · rw [ek] at q
            exact e q.2.2
          · exact e4 ⟨by omega, q.2⟩
/-- the reference begins a flush -/
theorem r_bfl {t : Nat} (hx : x < 4) (ht : t ≤ 400) (h63 : J 0 60 63 = nI t) (hl : LGr x J lg) : ∃ J', gX11_beginFlush n (nI x) J = some J' ∧ WR J' x (2 * lg.length + 3) (wb x lg) (ww lg (J 0 71 x + nI 1) (fun k i => J 0 67 (16 * (640 * x + lg.getD k 0) + i))) ∧ J' 0 71 x = J 0 71 x + nI 1 ∧ J' 0 73 x = nI 0 ∧ J' 0 70 x = nI 0 ∧ (∀ b, b < 640 → J' 0 69 (640 * x + b) = nI 0) ∧ (∀ k, J' 0 126 k = if k < t ∧ J 0 125 (10 * k) = nI x ∧ J 0 125 (10 * k + 9) = nI 1 then nI 1 else J 0 126 k) ∧ fBf x J J' := by
  have g := (show am_inb (nI x) 4 = true by rw [z_inb (by omega)]; exact decide_eq_true hx)
  obtain ⟨l1, l2, l3, l4⟩ := hl
  have hfw : ∀ (K : am_I), K 0 67 = J 0 67 → ∀ k b i, lg[k]? = some b → i < 16 → (fun k i => J 0 67 (16 * (640 * x + lg.getD k 0) + i)) k i = K 0 67 (16 * (640 * x + b) + i) := fun K hK k b i hk _ => by
    show J 0 67 (16 * (640 * x + lg.getD k 0) + i) = _
    rw [hK, getD_some hk]
  have f0 : ∀ K : am_I, (∀ i j, ¬ (i = 0 ∧ (j = 71 ∨ j = 72 ∨ j = 73 ∨ j = 74 ∨ j = 75)) → K i j = J i j) → LGr x K lg := fun K hK => ⟨l1, l2, l3, by rw [hK 0 69 (by omega)]; exact l4⟩
  have h0 : ∀ i j, ¬ (i = 0 ∧ (j = 71 ∨ j = 72 ∨ j = 73 ∨ j = 74 ∨ j = 75)) → am_up (am_up (am_up J 0 71 x (J 0 71 x + nI 1)) 0 72 x (nI 0)) 0 73 x (nI 0) i j = J i j := fun i j q => by simp (disch := omega) only [z_upj]
  obtain ⟨J1, f1, a1, a2, a3⟩ := bf_1 (n := n) (be := J 0 71 x + nI 1) (fw := fun k i => J 0 67 (16 * (640 * x + lg.getD k 0) + i)) hx (f0 _ h0) (hfw _ (by rw [h0 0 67 (by omega)])) ⟨by simp (disch := omega) only [z_upj, z_upk]; rfl, fun k hk => absurd hk (Nat.not_lt_zero _)⟩
  obtain ⟨J2, b1, b2, b3⟩ := r_addW (n := n) (m := lg.length) (v := 2 + 24 * x) hx (by omega) a2
  have f2 : ∀ i j, ¬ (i = 0 ∧ (j = 71 ∨ j = 72 ∨ j = 73 ∨ j = 74 ∨ j = 75)) → J2 i j = J i j := fun i j q => by rw [b3.1 i j (by omega), a3.1 i j (by omega), h0 i j q]
  obtain ⟨J3, f3, c1, c2, c3⟩ := bf_2 (n := n) (be := J 0 71 x + nI 1) (fw := fun k i => J 0 67 (16 * (640 * x + lg.getD k 0) + i)) hx (f0 _ f2) (wr_cg b2 (fun k hk => by
    by_cases e : k = lg.length
    · rw [if_pos e]
      unfold wb
      rw [if_neg (by omega), if_pos e]
    · rw [if_neg e]) (fun k i hk hi => by
    unfold wt
    by_cases e : k = lg.length
    · rw [if_pos ⟨e, Nat.zero_le _⟩, if_pos e]
    · rw [if_neg (fun q => e q.1), if_neg e]))
  have e71 : J3 0 71 x = J 0 71 x + nI 1 := by
    rw [c3.1 0 71 (by omega), b3.1 0 71 (by omega), a3.1 0 71 (by omega)]
    simp (disch := omega) only [z_upj, z_upk]
    rfl
  obtain ⟨J4, d1, d2, d3⟩ := r_head (n := n) (m := lg.length + 1) (c := lg.length) (f := 1) hx (by omega) c2 e71 (by unfold wb; rw [if_neg (by omega), if_neg (by omega), if_pos rfl]) (fun i hi => by
    unfold ww
    rw [if_neg (by omega), if_neg (by omega), if_neg (by omega), if_pos rfl])
  have f4 : ∀ i j, ¬ (i = 0 ∧ (j = 71 ∨ j = 72 ∨ j = 73 ∨ j = 74 ∨ j = 75)) → J4 i j = J i j := fun i j q => by rw [d3.1 i j (by omega), c3.1 i j (by omega), f2 i j q]
  obtain ⟨J5, f5, e1, e2, e3, e4, e5, e6, e7, e8⟩ := bf_3 (n := n) (be := J 0 71 x + nI 1) (fw := fun k i => J 0 67 (16 * (640 * x + lg.getD k 0) + i)) hx (f0 _ f4) (hfw _ (f4 0 67 (by omega))) d2
  have e71' : J5 0 71 x = J 0 71 x + nI 1 := by rw [e4 0 71 (by omega), d3.1 0 71 (by omega)]; exact e71
  obtain ⟨J6, g1, g2, g3⟩ := r_head (n := n) (m := 2 * lg.length + 2) (c := lg.length) (f := 0) hx (by omega) e2 e71' (by unfold wb; rw [if_neg (by omega), if_neg (by omega), if_neg (by omega), if_neg (by omega)]) (fun i hi => by
    unfold ww
    rw [if_neg (by omega), if_neg (by omega), if_neg (by omega), if_neg (show ¬ 2 * lg.length + 2 = lg.length + 1 by omega)])
  have f6 : ∀ i j, ¬ (i = 0 ∧ (j = 69 ∨ j = 71 ∨ j = 72 ∨ j = 73 ∨ j = 74 ∨ j = 75)) → J6 i j = J i j := fun i j q => by rw [g3.1 i j (by omega), e4 i j (by omega), f4 i j (by omega)]
  obtain ⟨J7, h1, h2, h3⟩ := nf_lp (n := n) hx ht t 0 am_fu (am_up J6 0 70 x (nI 0)) (by omega) (fu_lt (by omega)) (by rw [z_upj _ _ _ _ _ _ _ (by omega), f6 0 60 (by omega)]; exact h63)
  have hne : ∀ k, ¬ k = x → am_up (am_up (am_up J 0 71 x (J 0 71 x + nI 1)) 0 72 x (nI 0)) 0 73 x (nI 0) 0 72 k = J 0 72 k := fun k q => by
    simp (disch := omega) only [z_upj, z_upk]
    rw [if_neg q]
  refine ⟨J7, ?_, ?_, ?_, ?_, ?_, fun b hb => ?_, fun k => ?_, fun i j q => ?_, fun k q => ⟨?_, ?_, ?_, ?_⟩, fun k q => ?_, fun k q => ?_, fun k q => ?_⟩
  · rw [gX11_beginFlush, bX11_beginFlush_0, am_gd_of g, am_gd_of g, z_clamp (by omega), am_lt, am_gd_of g, am_lt, am_gd_of g, am_lt, pk_mul, nI_add, a1]
    conv => lhs; unfold bX11_beginFlush_36
    show (if nI 640 ≤ nI 640 then _ else _) = _
    rw [if_pos (by decide), nI_add, show 1 + 24 * x + 1 = 2 + 24 * x from by omega, b1, Option.bind_some, am_gd_of g, z_clamp (by omega), b2.1, pk_sub (by omega), Nat.add_sub_cancel, c1]
    conv => lhs; unfold bX11_beginFlush_105
    show (if nI 640 ≤ nI 640 then _ else _) = _
    rw [if_pos (by decide), d1, Option.bind_some, e1]
    conv => lhs; unfold bX11_beginFlush_159
    show (if nI 640 ≤ nI 640 then _ else _) = _
    rw [if_pos (by decide), g1, Option.bind_some, am_gd_of g, z_clamp (by omega), am_lt, gX11_noteFlush, bX11_noteFlush_0, h1, Option.bind_some]
  · refine ⟨?_, fun k hk => ⟨?_, fun i hi => ?_⟩⟩
    · rw [h3 0 72 (by omega), z_upj _ _ _ _ _ _ _ (by omega)]; exact g2.1
    · rw [h3 0 74 (by omega), z_upj _ _ _ _ _ _ _ (by omega)]; exact (g2.2 k hk).1
    · rw [h3 0 75 (by omega), z_upj _ _ _ _ _ _ _ (by omega)]; exact (g2.2 k hk).2 i hi
  · rw [h3 0 71 (by omega), z_upj _ _ _ _ _ _ _ (by omega), g3.1 0 71 (by omega)]; exact e71'
  · rw [h3 0 73 (by omega), z_upj _ _ _ _ _ _ _ (by omega), g3.1 0 73 (by omega), e4 0 73 (by omega), d3.1 0 73 (by omega), c3.1 0 73 (by omega), b3.1 0 73 (by omega), a3.1 0 73 (by omega), z_upk, if_pos rfl]
  · rw [h3 0 70 (by omega), z_upk, if_pos rfl]
  · rw [h3 0 69 (by omega), z_upj _ _ _ _ _ _ _ (by omega), g3.1 0 69 (by omega)]; exact e3 b hb
  · rw [h2 k, z_upj _ _ _ _ _ _ _ (by omega), z_upj _ _ _ _ _ _ _ (by omega), f6 0 125 (by omega), f6 0 126 (by omega)]
    by_cases e : k < t ∧ J 0 125 (10 * k) = nI x ∧ J 0 125 (10 * k + 9) = nI 1
    · rw [if_pos e, if_pos ⟨Nat.zero_le _, e⟩]
    · rw [if_neg e, if_neg (fun q => e q.2)]
  · rw [h3 i j (by omega), z_upj _ _ _ _ _ _ _ (by omega), f6 i j (by omega)]
  · rw [h3 0 70 (by omega), z_upk, if_neg q, f6 0 70 (by omega)]
  · rw [h3 0 71 (by omega), z_upj _ _ _ _ _ _ _ (by omega), g3.1 0 71 (by omega), e4 0 71 (by omega), d3.1 0 71 (by omega), c3.1 0 71 (by omega), b3.1 0 71 (by omega), a3.1 0 71 (by omega)]
    simp (disch := omega) only [z_upj, z_upk]
    rw [if_neg q]
  · rw [h3 0 72 (by omega), z_upj _ _ _ _ _ _ _ (by omega), g3.2.1 k q, e5 k q, d3.2.1 k q, c3.2.1 k q, b3.2.1 k q, a3.2.1 k q, hne k q]
  · rw [h3 0 73 (by omega), z_upj _ _ _ _ _ _ _ (by omega), g3.1 0 73 (by omega), e4 0 73 (by omega), d3.1 0 73 (by omega), c3.1 0 73 (by omega), b3.1 0 73 (by omega), a3.1 0 73 (by omega), z_upk, if_neg q, z_upj _ _ _ _ _ _ _ (by omega), z_upj _ _ _ _ _ _ _ (by omega)]
  · rw [h3 0 69 (by omega), z_upj _ _ _ _ _ _ _ (by omega), g3.1 0 69 (by omega), e6 k q, f4 0 69 (by omega)]
  · rw [h3 0 74 (by omega), z_upj _ _ _ _ _ _ _ (by omega), g3.2.2.1 k q, e7 k q, d3.2.2.1 k q, c3.2.2.1 k q, b3.2.2.1 k q, a3.2.2.1 k q]
    simp (disch := omega) only [z_upj]
  · rw [h3 0 75 (by omega), z_upj _ _ _ _ _ _ _ (by omega), g3.2.2.2 k q, e8 k q, d3.2.2.2 k q, c3.2.2.2 k q, b3.2.2.2 k q, a3.2.2.2 k q]
    simp (disch := omega) only [z_upj]
end FLUSH
