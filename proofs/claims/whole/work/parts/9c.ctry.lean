theorem fJ_67 {y : Nat} {J J' : am_I} (h : f67 y J J') : fJ y J J' := ⟨fun i j e => h.1 i j (by omega), fun k _ => by rw [h.1 0 60 (by decide)], h.2.1, h.2.2⟩
theorem fJ_sv {y : Nat} {J J' : am_I} (h : ∀ i j, ¬ (i = 0 ∧ (j = 60 ∨ (118 ≤ j ∧ j ≤ 121))) → J' i j = J i j) (h2 : ∀ k, ¬ k = 56 → J' 0 60 k = J 0 60 k) : fJ y J J' := ⟨fun i j e => h i j (by omega), fun k e => h2 k (by omega), fun k _ => by rw [h 0 68 (by omega)], fun k _ => by rw [h 0 67 (by omega)]⟩
/-- a word of a cached, saved block -/
theorem r_put {y b i : Nat} {v : Int32} {B : wS} {sv : List Nat} {J : am_I} (hb : b < 640) (hi : i < 16) (h : pr_ref y B sv J) (hm : b ∈ sv) (h1 : J 0 68 (640 * y + b) = nI 1) : pr_ref y B sv (am_up J 0 67 (16 * (640 * y + b) + i) v) ∧ (∀ c j, c < 640 → j < 16 → t_v y (am_up J 0 67 (16 * (640 * y + b) + i) v) c j = w_up (t_v y J) b i v c j) := by
  obtain ⟨a1, a2, a3, a4, a5, a6, a7, a8⟩ := h
  refine ⟨⟨by simp (disch := omega) only [z_upj]; exact a1, by simp (disch := omega) only [z_upj]; exact a2, a3, a4, fun c hc => by simp (disch := omega) only [z_upj]; exact a5 c hc, fun k c hk => by simp (disch := omega) only [z_upj]; exact a6 k c hk, fun c hc hn => ?_, fun c hc => by simp (disch := omega) only [z_upj]; exact a8 c hc⟩, fun c j hc hj => ?_⟩
  · have e : ¬ c = b := fun e => hn (e ▸ hm)
    simp (disch := omega) only [z_upj]
    refine ⟨(a7 c hc hn).1, fun hB j hj => ?_⟩
    rw [z_upk, if_neg (by omega)]
    exact (a7 c hc hn).2 hB j hj
  · unfold t_v w_up
    simp (disch := omega) only [z_upj]
    by_cases e : c = b ∧ j = i
    · obtain ⟨rfl, rfl⟩ := e
      rw [if_pos h1, z_upk, if_pos rfl, if_pos ⟨rfl, rfl⟩]
    · rw [if_neg e, z_upk, show (if 16 * (640 * y + c) + j = 16 * (640 * y + b) + i then v else J 0 67 (16 * (640 * y + c) + j)) = J 0 67 (16 * (640 * y + c) + j) from if_neg (by omega)]
theorem r_set {n y b i : Nat} {v : Int32} {B : wS} {sv : List Nat} {J : am_I} (hy : y < 4) (hb : b < 640) (hi : i < 16) (h : pr_ref y B sv J) (hsv : ∀ c, c ∈ sv → J 0 68 (640 * y + c) = nI 1) (hl : sv.length < 640) : ∃ J', gX11_set n (nI b) (nI i) v J = some J' ∧ pr_ref y (Bm (J 0 68 (640 * y + b)) (J 0 64) B b) (svp sv b) J' ∧ (∀ c j, c < 640 → j < 16 → t_v y J' c j = w_up (t_v y J) b i v c j) ∧ (∀ c, c < 640 → J' 0 68 (640 * y + c) = if c = b then nI 1 else J 0 68 (640 * y + c)) ∧ fJ y J J' ∧ (∀ k, ¬ k = 56 → J' 0 60 k = J 0 60 k) ∧ J' 0 123 = J 0 123 := by
  obtain ⟨J1, e1, e2, e3, e4, e5⟩ := r_fetch (n := n) hy hb h hsv
  obtain ⟨J2, f1, f2, f3, f4⟩ := r_save (n := n) hy hb e2 hl
  have h68 : ∀ k, J2 0 68 k = J1 0 68 k := fun k => by rw [f3 0 68 (by decide)]
  have hb2 : J2 0 68 (640 * y + b) = nI 1 := by rw [h68, e4 b hb, if_pos rfl]
  obtain ⟨g1, g2⟩ := r_put (i := i) (v := v) hb hi f2 (svp_mem.mpr (Or.inr rfl)) hb2
  have hlt : 16 * (640 * y + b) + i < 40960 := by omega
  have tv : ∀ c j, t_v y J2 c j = t_v y J1 c j := fun c j => by unfold t_v; rw [h68, f3 0 67 (by decide), f3 0 64 (by decide)]
  have n123 : J2 0 123 = J1 0 123 := f3 0 123 (by decide)
  refine ⟨am_up J2 0 67 (16 * (640 * y + b) + i) v, ?_, g1, fun c j hc hj => ?_, fun c hc => ?_, ?_, fun k hk => ?_, ?_⟩
  · simp (disch := omega) only [gX11_set, bX11_set_0, e1, f1, Option.bind_some, f2.1, pk_mul, nI_add, z_inb, z_clamp, hlt, decide_true, z_gdt, am_lt]
  · rw [g2 c j hc hj]
    unfold w_up
    rw [tv, e3 c j hc hj]
  · simp (disch := omega) only [z_upj]
    rw [h68, e4 c hc]
  · refine (fJ_67 e5).tr ((fJ_sv f3 f4).tr (fJ_67 ⟨fun i' j' h => z_upj _ _ _ _ _ _ _ (by omega), fun k _ => by rw [z_upj _ _ _ _ _ _ _ (by omega)], fun k hk => by rw [z_upk, if_neg (by omega)]⟩))
  · simp (disch := omega) only [z_upj]
    rw [f4 k hk, e5.1 0 60 (by decide)]
  · simp (disch := omega) only [z_upj]
    rw [n123, e5.1 0 123 (by decide)]
theorem r_clear {n y b : Nat} {B : wS} {sv : List Nat} {J : am_I} (hy : y < 4) (hb : b < 640) (h : pr_ref y B sv J) (hl : sv.length < 640) : ∃ J', gX11_clear n (nI b) J = some J' ∧ pr_ref y B (svp sv b) J' ∧ (∀ c j, c < 640 → j < 16 → t_v y J' c j = w_cl (t_v y J) b c j) ∧ (∀ c, c < 640 → J' 0 68 (640 * y + c) = if c = b then nI 1 else J 0 68 (640 * y + c)) ∧ fJ y J J' ∧ (∀ k, ¬ k = 56 → J' 0 60 k = J 0 60 k) ∧ J' 0 123 = J 0 123 := by
  obtain ⟨J2, f1, f2, f3, f4⟩ := r_save (n := n) hy hb h hl
  obtain ⟨J', e1, e2, e3⟩ := lp_clear (n := n) hy hb 16 0 am_fu (am_up J2 0 68 (640 * y + b) (nI 1)) rfl (by decide) (by simp (disch := omega) only [z_upj]; exact f2.1)
  have g1 : 640 * y + b < 2560 := by omega
  have fr : ∀ i j, ¬ (i = 0 ∧ (j = 67 ∨ j = 68)) → J' i j = J2 i j := fun i j hij => by
    rw [e2 i j (fun e => hij ⟨e.1, Or.inl e.2⟩), z_upj _ _ _ _ _ _ _ (fun e => hij ⟨e.1, Or.inr e.2⟩)]
  have w68 : ∀ c, J' 0 68 (640 * y + c) = if c = b then nI 1 else J 0 68 (640 * y + c) := fun c => by
    rw [e2 0 68 (by decide), z_upk, f3 0 68 (by decide)]
    by_cases e : c = b
    · rw [if_pos (by omega), if_pos e]
    · rw [if_neg (by omega), if_neg e]
  have w67 : ∀ c i, i < 16 → J' 0 67 (16 * (640 * y + c) + i) = if c = b then nI 0 else J 0 67 (16 * (640 * y + c) + i) := fun c i hi => by
    rw [e3, z_upj _ _ _ _ _ _ _ (by decide), f3 0 67 (by decide)]
    by_cases e : c = b
    · rw [if_pos (by omega), if_pos e]
    · rw [if_neg (by omega), if_neg e]
  obtain ⟨a1, a2, a3, a4, a5, a6, a7, a8⟩ := f2
  refine ⟨J', ?_, ⟨by rw [fr 0 60 (by decide)]; exact a1, by rw [fr 0 60 (by decide)]; exact a2, a3, a4, fun c hc => by rw [fr 0 120 (by decide)]; exact a5 c hc, fun k c hk => by rw [fr 0 118 (by decide), fr 0 119 (by decide), fr 0 121 (by decide)]; exact a6 k c hk, fun c hc hn => ?_, fun c hc => ?_⟩, fun c j hc hj => ?_, fun c _ => w68 c, (fJ_sv f3 f4).tr (fJ_67 ⟨fr, fun k hk => by rw [e2 0 68 (by decide), z_upk, if_neg (by omega)], fun k hk => by rw [e3, if_neg (by omega), z_upj _ _ _ _ _ _ _ (by decide)]⟩), fun k hk => by rw [fr 0 60 (by decide)]; exact f4 k hk, by rw [fr 0 123 (by decide), f3 0 123 (by decide)]⟩
  · rw [← e1]
    simp (disch := omega) only [gX11_clear, bX11_clear_0, f1, Option.bind_some, a1, pk_mul, nI_add, z_inb, z_clamp, g1, decide_true, z_gdt, am_lt]
  · have e : ¬ c = b := fun e => hn (svp_mem.mpr (Or.inr e))
    rw [w68 c, if_neg e]
    refine ⟨by rw [← f3 0 68 (by decide)]; exact (a7 c hc hn).1, fun hB i hi => ?_⟩
    rw [w67 c i hi, if_neg e, ← f3 0 67 (by decide)]
    exact (a7 c hc hn).2 hB i hi
  · rw [w68 c]
    by_cases e : c = b
    · rw [if_pos e]; exact Or.inr rfl
    · rw [if_neg e, ← f3 0 68 (by decide)]; exact a8 c hc
  · unfold t_v w_cl
    rw [w68 c, w67 c j hj, fr 0 64 (by decide), f3 0 64 (by decide)]
    by_cases e : c = b
    · rw [if_pos e, if_pos rfl, if_pos e, if_pos e]
    · rw [if_neg e, if_neg e, if_neg e]
/-- how many are 1 -/
def cnt (f : Nat → Int32) : Nat → Nat
  | 0 => 0
  | m + 1 => cnt f m + (if f m = nI 1 then 1 else 0)
theorem cnt_le (f : Nat → Int32) : ∀ m, cnt f m ≤ m
  | 0 => Nat.le_refl _
  | m + 1 => by
    have := cnt_le f m
    unfold cnt
    split <;> omega
theorem cnt_cg {f g : Nat → Int32} : ∀ m, (∀ b, b < m → f b = g b) → cnt f m = cnt g m
  | 0, _ => rfl
  | m + 1, h => by
    unfold cnt
    rw [cnt_cg m (fun b hb => h b (by omega)), h m (by omega)]
theorem cnt_up {f g : Nat → Int32} {b : Nat} : ∀ m, b < m → (∀ c, c < m → ¬ c = b → g c = f c) → ¬ f b = nI 1 → g b = nI 1 → cnt g m = cnt f m + 1
  | 0, h, _, _, _ => absurd h (by omega)
  | m + 1, h, h1, h2, h3 => by
    unfold cnt
    by_cases e : b = m
    · subst e
      rw [cnt_cg b (fun c hc => h1 c (by omega) (by omega)), if_neg h2, if_pos h3]
    · rw [cnt_up m (by omega) (fun c hc hne => h1 c (by omega) hne) h2 h3, h1 m (by omega) (fun h => e h.symm)]
      omega
theorem cnt_pos {f : Nat → Int32} {b : Nat} : ∀ m, b < m → f b = nI 1 → 1 ≤ cnt f m
  | 0, h, _ => absurd h (by omega)
  | m + 1, h, h1 => by
    unfold cnt
    by_cases e : b = m
    · subst e
      rw [if_pos h1]
      omega
    · have := cnt_pos m (by omega : b < m) h1
      omega
