theorem z_upj (I : am_I) (i j k i' j' : Nat) (v : Int32) (h : ¬ (i' = i ∧ j' = j)) : am_up I i j k v i' j' = I i' j' := by
  funext k'
  rw [z_up, if_neg (fun e => h ⟨e.1, e.2.1⟩)]
theorem z_upk (I : am_I) (i j k k' : Nat) (v : Int32) : am_up I i j k v i j k' = if k' = k then v else I i j k' := by
  rw [z_up]
  by_cases e : k' = k
  · rw [if_pos e, if_pos ⟨rfl, rfl, e⟩]
  · rw [if_neg e, if_neg (fun h => e h.2.2)]
theorem z_01 : am_01 (nI 0) = true := by decide
theorem z_011 : am_01 (nI 1) = true := by decide
theorem z_ni0 {a : Nat} (h : a < 2 ^ 31) : (nI a < 0) = False := propext ⟨fun e => (nI_pos h e).elim, False.elim⟩
theorem z_10 : (nI 1 = (0 : Int32)) = False := by simp only [eq_iff_iff, iff_false]; decide
theorem z_00 : (nI 0 = (0 : Int32)) = True := by simp only [eq_iff_iff, iff_true]; decide
theorem z_bs {α : Type} (x : Option α) : (x.bind fun q => some q) = x := by cases x <;> rfl
theorem z_fu : am_fu = 19999 + 1 := rfl
theorem lp_fetch {n y b : Nat} (hy : y < 4) (hb : b < 640) : ∀ (m i fu : Nat) (J : am_I), i + m = 16 → m < fu → J 0 60 51 = nI y → ∃ J' : am_I, bX11_fetch_37 n fu (nI b) (nI i) J = some J' ∧ (∀ i' j', ¬ (i' = 0 ∧ j' = 67) → J' i' j' = J i' j') ∧ ∀ k, J' 0 67 k = if 16 * (640 * y + b) + i ≤ k ∧ k < 16 * (640 * y + b) + 16 then J 0 64 (16 * b + (k - (16 * (640 * y + b)))) else J 0 67 k := by
  intro m
  induction m with
  | zero =>
    intro i fu J hi hf hJ
    obtain ⟨fu, rfl⟩ : ∃ f, fu = f + 1 := ⟨fu - 1, by omega⟩
    obtain rfl : i = 16 := by omega
    refine ⟨J, ?_, fun _ _ _ => rfl, fun k => (if_neg (by omega)).symm⟩
    simp (disch := omega) only [bX11_fetch_37, z_le, nI_add, pk_mul, Nat.le_refl, if_true]
  | succ m ih =>
    intro i fu J hi hf hJ
    obtain ⟨fu, rfl⟩ : ∃ f, fu = f + 1 := ⟨fu - 1, by omega⟩
    obtain ⟨J', e1, e2, e3⟩ := ih (i + 1) fu (am_up J 0 67 (16 * (640 * y + b) + i) (J 0 64 (16 * b + i))) (by omega) (by omega) (by rw [z_upj _ _ _ _ _ _ _ (by omega)]; exact hJ)
    refine ⟨J', ?_, fun i' j' h => ?_, fun k => ?_⟩
    · have hlt : ¬ 16 ≤ i := by omega
      have g0 : 16 * b + i < 10240 := by omega
      have g1 : 16 * (640 * y + b) + i < 40960 := by omega
      simp (disch := omega) only [bX11_fetch_37, hJ, z_le, nI_add, pk_mul, z_clamp, z_inb, am_lt, hlt, if_false, g0, g1, decide_true, z_gdt]
      exact e1
    · rw [e2 i' j' h, z_upj _ _ _ _ _ _ _ h]
    · rw [e3 k, z_upj _ _ _ _ _ _ _ (by omega : ¬ (0 = 0 ∧ (64 : Nat) = 67)), z_upk]
      by_cases e : k = 16 * (640 * y + b) + i
      · subst e
        rw [if_neg (by omega), if_pos rfl, if_pos (by omega), show 16 * (640 * y + b) + i - (16 * (640 * y + b)) = i from by omega]
      · rw [if_neg e]
        by_cases e4 : 16 * (640 * y + b) + (i + 1) ≤ k ∧ k < 16 * (640 * y + b) + 16
        · rw [if_pos e4, if_pos (by omega)]
        · rw [if_neg e4, if_neg (by omega)]
theorem lp_save {n y b s : Nat} (hy : y < 4) (hb : b < 640) (hs6 : s < 640) : ∀ (m i fu : Nat) (J : am_I), i + m = 16 → m < fu → J 0 60 51 = nI y → J 0 60 56 = nI s → ∃ J' : am_I, bX11_save_53 n fu (nI b) (nI i) J = some (am_up J' 0 60 56 ((J' 0 60 56) + nI 1)) ∧ (∀ i' j', ¬ (i' = 0 ∧ j' = 121) → J' i' j' = J i' j') ∧ ∀ k, J' 0 121 k = if 16 * s + i ≤ k ∧ k < 16 * s + 16 then J 0 67 (16 * (640 * y + b) + (k - (16 * s))) else J 0 121 k := by
  intro m
  induction m with
  | zero =>
    intro i fu J hi hf hJ hs
    obtain ⟨fu, rfl⟩ : ∃ f, fu = f + 1 := ⟨fu - 1, by omega⟩
    obtain rfl : i = 16 := by omega
    refine ⟨J, ?_, fun _ _ _ => rfl, fun k => (if_neg (by omega)).symm⟩
    simp (disch := omega) only [bX11_save_53, z_le, nI_add, pk_mul, Nat.le_refl, if_true, am_lt]
  | succ m ih =>
    intro i fu J hi hf hJ hs
    obtain ⟨fu, rfl⟩ : ∃ f, fu = f + 1 := ⟨fu - 1, by omega⟩
    obtain ⟨J', e1, e2, e3⟩ := ih (i + 1) fu (am_up J 0 121 (16 * s + i) (J 0 67 (16 * (640 * y + b) + i))) (by omega) (by omega) (by rw [z_upj _ _ _ _ _ _ _ (by omega)]; exact hJ) (by rw [z_upj _ _ _ _ _ _ _ (by omega)]; exact hs)
    refine ⟨J', ?_, fun i' j' h => ?_, fun k => ?_⟩
    · have hlt : ¬ 16 ≤ i := by omega
      have g0 : 16 * (640 * y + b) + i < 40960 := by omega
      have g1 : 16 * s + i < 10240 := by omega
      simp (disch := omega) only [bX11_save_53, hJ, hs, z_le, nI_add, pk_mul, z_clamp, z_inb, am_lt, hlt, if_false, g0, g1, decide_true, z_gdt]
      exact e1
    · rw [e2 i' j' h, z_upj _ _ _ _ _ _ _ h]
    · rw [e3 k, z_upj _ _ _ _ _ _ _ (by omega : ¬ (0 = 0 ∧ (67 : Nat) = 121)), z_upk]
      by_cases e : k = 16 * s + i
      · subst e
        rw [if_neg (by omega), if_pos rfl, if_pos (by omega), show 16 * s + i - (16 * s) = i from by omega]
      · rw [if_neg e]
        by_cases e4 : 16 * s + (i + 1) ≤ k ∧ k < 16 * s + 16
        · rw [if_pos e4, if_pos (by omega)]
        · rw [if_neg e4, if_neg (by omega)]
theorem lp_clear {n y b : Nat} (hy : y < 4) (hb : b < 640) : ∀ (m i fu : Nat) (J : am_I), i + m = 16 → m < fu → J 0 60 51 = nI y → ∃ J' : am_I, bX11_clear_23 n fu (nI b) (nI i) J = some J' ∧ (∀ i' j', ¬ (i' = 0 ∧ j' = 67) → J' i' j' = J i' j') ∧ ∀ k, J' 0 67 k = if 16 * (640 * y + b) + i ≤ k ∧ k < 16 * (640 * y + b) + 16 then nI 0 else J 0 67 k := by
  intro m
  induction m with
  | zero =>
    intro i fu J hi hf hJ
    obtain ⟨fu, rfl⟩ : ∃ f, fu = f + 1 := ⟨fu - 1, by omega⟩
    obtain rfl : i = 16 := by omega
    refine ⟨J, ?_, fun _ _ _ => rfl, fun k => (if_neg (by omega)).symm⟩
    simp (disch := omega) only [bX11_clear_23, z_le, nI_add, pk_mul, Nat.le_refl, if_true]
  | succ m ih =>
    intro i fu J hi hf hJ
    obtain ⟨fu, rfl⟩ : ∃ f, fu = f + 1 := ⟨fu - 1, by omega⟩
    obtain ⟨J', e1, e2, e3⟩ := ih (i + 1) fu (am_up J 0 67 (16 * (640 * y + b) + i) (nI 0)) (by omega) (by omega) (by rw [z_upj _ _ _ _ _ _ _ (by omega)]; exact hJ)
    refine ⟨J', ?_, fun i' j' h => ?_, fun k => ?_⟩
    · have hlt : ¬ 16 ≤ i := by omega
      have g0 : 16 * (640 * y + b) + i < 40960 := by omega
      simp (disch := omega) only [bX11_clear_23, hJ, z_le, nI_add, pk_mul, z_clamp, z_inb, am_lt, hlt, if_false, g0, decide_true, z_gdt]
      exact e1
    · rw [e2 i' j' h, z_upj _ _ _ _ _ _ _ h]
    · rw [e3 k, z_upk]
      by_cases e : k = 16 * (640 * y + b) + i
      · subst e
        rw [if_neg (by omega), if_pos rfl, if_pos (by omega)]
      · rw [if_neg e]
        by_cases e4 : 16 * (640 * y + b) + (i + 1) ≤ k ∧ k < 16 * (640 * y + b) + 16
        · rw [if_pos e4, if_pos (by omega)]
        · rw [if_neg e4, if_neg (by omega)]
theorem lq_load {n y b : Nat} (hy : y < 4) (hb : b < 640) : ∀ (m i fu : Nat) (J : am_I), i + m = 16 → m < fu → ∃ J' : am_I, bX9_load_16 n fu (nI b) y (nI (b * 16)) (nI (b * 16 + i)) J = some (am_up (am_up J' y 43 b (nI 1)) y 41 2 (am_up J' y 43 b (nI 1) y 41 2 + nI 1)) ∧ (∀ i' j', ¬ (i' = y ∧ j' = 42) → J' i' j' = J i' j') ∧ ∀ k, J' y 42 k = if b * 16 + i ≤ k ∧ k < b * 16 + 16 then J 0 1 (b * 16 + (k - (b * 16))) else J y 42 k := by
  intro m
  induction m with
  | zero =>
    intro i fu J hi hf 
    obtain ⟨fu, rfl⟩ : ∃ f, fu = f + 1 := ⟨fu - 1, by omega⟩
    obtain rfl : i = 16 := by omega
    refine ⟨J, ?_, fun _ _ _ => rfl, fun k => (if_neg (by omega)).symm⟩
    simp (disch := omega) only [bX9_load_16, z_le, nI_add, pk_mul, Nat.le_refl, if_true, am_lt, z_clamp, z_inb, hb, decide_true, z_gdt]
  | succ m ih =>
    intro i fu J hi hf 
    obtain ⟨fu, rfl⟩ : ∃ f, fu = f + 1 := ⟨fu - 1, by omega⟩
    obtain ⟨J', e1, e2, e3⟩ := ih (i + 1) fu (am_up J y 42 (b * 16 + i) (J 0 1 (b * 16 + i))) (by omega) (by omega) 
    refine ⟨J', ?_, fun i' j' h => ?_, fun k => ?_⟩
    · have hlt : ¬ b * 16 + 16 ≤ b * 16 + i := by omega
      have g0 : b * 16 + i < 10240 := by omega
      simp (disch := omega) only [bX9_load_16, z_le, nI_add, pk_mul, z_clamp, z_inb, am_lt, hlt, if_false, g0, decide_true, z_gdt]
      exact e1
    · rw [e2 i' j' h, z_upj _ _ _ _ _ _ _ h]
    · rw [e3 k, z_upj _ _ _ _ _ _ _ (by omega : ¬ (0 = y ∧ (1 : Nat) = 42)), z_upk]
      by_cases e : k = b * 16 + i
      · subst e
        rw [if_neg (by omega), if_pos rfl, if_pos (by omega), show b * 16 + i - (b * 16) = i from by omega]
      · rw [if_neg e]
        by_cases e4 : b * 16 + (i + 1) ≤ k ∧ k < b * 16 + 16
        · rw [if_pos e4, if_pos (by omega)]
        · rw [if_neg e4, if_neg (by omega)]
theorem lq_keep {n y b s : Nat} (hy : y < 4) (hn : y < n) (hb : b < 640) (hs6 : s < 32) : ∀ (m i fu : Nat) (J : am_I), i + m = 16 → m < fu → J 0 15 8 = nI y → J 0 15 5 = nI s → ∃ J' : am_I, bX9_keep_59 n fu (nI b) (nI i) J = some (am_up J' 0 15 5 ((J' 0 15 5) + nI 1)) ∧ (∀ i' j', ¬ (i' = 0 ∧ j' = 18) → J' i' j' = J i' j') ∧ ∀ k, J' 0 18 k = if s * 16 + i ≤ k ∧ k < s * 16 + 16 then J y 42 (b * 16 + (k - (s * 16))) else J 0 18 k := by
  intro m
  induction m with
  | zero =>
    intro i fu J hi hf hJ hs
    obtain ⟨fu, rfl⟩ : ∃ f, fu = f + 1 := ⟨fu - 1, by omega⟩
    obtain rfl : i = 16 := by omega
    refine ⟨J, ?_, fun _ _ _ => rfl, fun k => (if_neg (by omega)).symm⟩
    simp (disch := omega) only [bX9_keep_59, z_le, nI_add, pk_mul, Nat.le_refl, if_true, am_lt, hn]
  | succ m ih =>
    intro i fu J hi hf hJ hs
    obtain ⟨fu, rfl⟩ : ∃ f, fu = f + 1 := ⟨fu - 1, by omega⟩
    obtain ⟨J', e1, e2, e3⟩ := ih (i + 1) fu (am_up J 0 18 (s * 16 + i) (J y 42 (b * 16 + i))) (by omega) (by omega) (by rw [z_upj _ _ _ _ _ _ _ (by omega)]; exact hJ) (by rw [z_upj _ _ _ _ _ _ _ (by omega)]; exact hs)
    refine ⟨J', ?_, fun i' j' h => ?_, fun k => ?_⟩
    · have hlt : ¬ 16 ≤ i := by omega
      have g0 : b * 16 + i < 10240 := by omega
      have g1 : s * 16 + i < 512 := by omega
      simp (disch := omega) only [bX9_keep_59, hJ, hs, z_le, nI_add, pk_mul, z_clamp, z_inb, am_lt, hlt, if_false, g0, g1, decide_true, z_gdt, hn]
      exact e1
    · rw [e2 i' j' h, z_upj _ _ _ _ _ _ _ h]
    · rw [e3 k, z_upj _ _ _ _ _ _ _ (by omega : ¬ (y = 0 ∧ (42 : Nat) = 18)), z_upk]
      by_cases e : k = s * 16 + i
      · subst e
        rw [if_neg (by omega), if_pos rfl, if_pos (by omega), show s * 16 + i - (s * 16) = i from by omega]
      · rw [if_neg e]
        by_cases e4 : s * 16 + (i + 1) ≤ k ∧ k < s * 16 + 16
        · rw [if_pos e4, if_pos (by omega)]
        · rw [if_neg e4, if_neg (by omega)]
theorem lq_clear {n y b : Nat} (hy : y < 4) (hn : y < n) (hb : b < 640) : ∀ (m i fu : Nat) (J : am_I), i + m = 16 → m < fu → J 0 15 8 = nI y → ∃ J' : am_I, bX9_clear_7 n fu (nI b) (nI i) J = gX1_admit n y (nI b) J' ∧ (∀ i' j', ¬ (i' = y ∧ j' = 42) → J' i' j' = J i' j') ∧ ∀ k, J' y 42 k = if b * 16 + i ≤ k ∧ k < b * 16 + 16 then nI 0 else J y 42 k := by
  intro m
  induction m with
  | zero =>
    intro i fu J hi hf hJ
    obtain ⟨fu, rfl⟩ : ∃ f, fu = f + 1 := ⟨fu - 1, by omega⟩
    obtain rfl : i = 16 := by omega
    refine ⟨J, ?_, fun _ _ _ => rfl, fun k => (if_neg (by omega)).symm⟩
    simp (disch := omega) only [bX9_clear_7, z_le, nI_add, pk_mul, Nat.le_refl, if_true, hJ, z_clamp, hn, decide_true, z_gdt, z_bs, hn]
  | succ m ih =>
    intro i fu J hi hf hJ
    obtain ⟨fu, rfl⟩ : ∃ f, fu = f + 1 := ⟨fu - 1, by omega⟩
    obtain ⟨J', e1, e2, e3⟩ := ih (i + 1) fu (am_up J y 42 (b * 16 + i) (nI 0)) (by omega) (by omega) (by rw [z_upj _ _ _ _ _ _ _ (by omega)]; exact hJ)
    refine ⟨J', ?_, fun i' j' h => ?_, fun k => ?_⟩
    · have hlt : ¬ 16 ≤ i := by omega
      have g0 : b * 16 + i < 10240 := by omega
      simp (disch := omega) only [bX9_clear_7, hJ, z_le, nI_add, pk_mul, z_clamp, z_inb, am_lt, hlt, if_false, g0, decide_true, z_gdt, hn]
      exact e1
    · rw [e2 i' j' h, z_upj _ _ _ _ _ _ _ h]
    · rw [e3 k, z_upk]
      by_cases e : k = b * 16 + i
      · subst e
        rw [if_neg (by omega), if_pos rfl, if_pos (by omega)]
      · rw [if_neg e]
        by_cases e4 : b * 16 + (i + 1) ≤ k ∧ k < b * 16 + 16
        · rw [if_pos e4, if_pos (by omega)]
        · rw [if_neg e4, if_neg (by omega)]
