
/-- the first m writes of a node's flush -/
def WR (J : am_I) (x m : Nat) (fB : Nat → Nat) (fW : Nat → Nat → Int32) : Prop := J 0 72 x = nI m ∧ ∀ k, k < m → J 0 74 (36 * x + k) = nI (fB k) ∧ ∀ i, i < 16 → J 0 75 (16 * (36 * x + k) + i) = fW k i
/-- what writing a flush down leaves as it is -/
def fFl (x : Nat) (J J' : am_I) : Prop := (∀ i j, ¬ (i = 0 ∧ (j = 72 ∨ j = 74 ∨ j = 75)) → J' i j = J i j) ∧ (∀ k, ¬ k = x → J' 0 72 k = J 0 72 k) ∧ (∀ k, ¬ (36 * x ≤ k ∧ k < 36 * x + 36) → J' 0 74 k = J 0 74 k) ∧ ∀ k, ¬ (16 * (36 * x) ≤ k ∧ k < 16 * (36 * x + 36)) → J' 0 75 k = J 0 75 k
theorem fFl.rf {x : Nat} {J : am_I} : fFl x J J := ⟨fun _ _ _ => rfl, fun _ _ => rfl, fun _ _ => rfl, fun _ _ => rfl⟩
theorem fFl.tr {x : Nat} {J J' J'' : am_I} (h : fFl x J J') (h' : fFl x J' J'') : fFl x J J'' := ⟨fun i j q => (h'.1 i j q).trans (h.1 i j q), fun k q => (h'.2.1 k q).trans (h.2.1 k q), fun k q => (h'.2.2.1 k q).trans (h.2.2.1 k q), fun k q => (h'.2.2.2 k q).trans (h.2.2.2 k q)⟩
section FLUSH
variable {n x : Nat} {I J : am_I}
theorem aw_lp {m : Nat} (hx : x < 4) (hm : m < 36) : ∀ (q i fu : Nat) (J : am_I), i + q = 16 → q < fu → J 0 72 x = nI m → ∃ J', bX11_addWrite_22 n fu (nI x) (nI (36 * x + m)) (nI i) J = some J' ∧ (∀ k, J' 0 72 k = if k = x then nI (m + 1) else J 0 72 k) ∧ (∀ k, J' 0 75 k = if 16 * (36 * x + m) + i ≤ k ∧ k < 16 * (36 * x + m) + 16 then nI 0 else J 0 75 k) ∧ (∀ a b, ¬ (a = 0 ∧ (b = 72 ∨ b = 75)) → J' a b = J a b) := by
  intro q
  induction q with
  | zero =>
    intro i fu J hi hf h72
    obtain ⟨fu, rfl⟩ : ∃ f, fu = f + 1 := ⟨fu - 1, by omega⟩
    obtain rfl : i = 16 := by omega
    refine ⟨am_up J 0 72 x (nI (m + 1)), ?_, fun k => z_upk _ _ _ _ _ _, fun k => by rw [if_neg (by omega), z_upj _ _ _ _ _ _ _ (by omega)], fun a b h => z_upj _ _ _ _ _ _ _ (by omega)⟩
    conv => lhs; unfold bX11_addWrite_22
    simp (disch := omega) only [z_le, Nat.le_refl, if_true, z_inb, hx, decide_true, z_gdt, z_clamp, h72, nI_add, am_lt]
  | succ q ih =>
    intro i fu J hi hf h72
    obtain ⟨fu, rfl⟩ : ∃ f, fu = f + 1 := ⟨fu - 1, by omega⟩
    have hle : ¬ 16 ≤ i := by omega
    have g1 : 16 * (36 * x + m) + i < 2304 := by omega
    obtain ⟨J', e1, e2, e3, e4⟩ := ih (i + 1) fu (am_up J 0 75 (16 * (36 * x + m) + i) (nI 0)) (by omega) (by omega) (by rw [z_upj _ _ _ _ _ _ _ (by omega)]; exact h72)
    refine ⟨J', ?_, fun k => by rw [e2 k, z_upj _ _ _ _ _ _ _ (by omega)], fun k => ?_, fun a b h => by rw [e4 a b h, z_upj _ _ _ _ _ _ _ (by omega)]⟩
    · rw [← e1]
      conv => lhs; unfold bX11_addWrite_22
      simp (disch := omega) only [z_le, hle, if_false, pk_mul, nI_add, z_inb, g1, decide_true, z_gdt, z_clamp, am_lt]
    · rw [e3 k, z_upk]
      by_cases e : 16 * (36 * x + m) + (i + 1) ≤ k ∧ k < 16 * (36 * x + m) + 16
      · rw [if_pos e, if_pos (by omega)]
      · rw [if_neg e]
        by_cases e2 : k = 16 * (36 * x + m) + i
        · rw [if_pos e2, if_pos (by omega)]
        · rw [if_neg e2, if_neg (by omega)]
theorem r_addW {m v : Nat} {fB : Nat → Nat} {fW : Nat → Nat → Int32} (hx : x < 4) (hm : m < 36) (h : WR J x m fB fW) : ∃ J', gX11_addWrite n (nI x) (nI v) J = some J' ∧ WR J' x (m + 1) (fun k => if k = m then v else fB k) (fun k i => if k = m then nI 0 else fW k i) ∧ fFl x J J' := by
  have h72 := h.1
  have g1 : 36 * x + m < 144 := by omega
  obtain ⟨J', e1, e2, e3, e4⟩ := aw_lp (n := n) (m := m) hx hm 16 0 am_fu (am_up J 0 74 (36 * x + m) (nI v)) (by omega) (fu_lt (by omega)) (by rw [z_upj _ _ _ _ _ _ _ (by omega)]; exact h72)
  refine ⟨J', ?_, ⟨by rw [e2, if_pos rfl], fun k hk => ⟨?_, fun i hi => ?_⟩⟩, fun a b q => by rw [e4 a b (by omega), z_upj _ _ _ _ _ _ _ (by omega)], fun k q => by rw [e2, if_neg q, z_upj _ _ _ _ _ _ _ (by omega)], fun k q => by rw [e4 0 74 (by omega), z_upk, if_neg (by omega)], fun k q => by rw [e3, if_neg (by omega), z_upj _ _ _ _ _ _ _ (by omega)]⟩
  · rw [gX11_addWrite, bX11_addWrite_0, am_gd_of (by rw [z_inb (by omega)]; exact decide_eq_true hx), z_clamp (by omega), h72, pk_mul, nI_add, am_gd_of (by rw [z_inb (by omega)]; exact decide_eq_true g1), z_clamp (by omega), am_lt]
    exact e1
  · rw [e4 0 74 (by omega), z_upk]
    dsimp only
    by_cases e : k = m
    · rw [if_pos (by omega), if_pos e]
    · rw [if_neg (by omega), if_neg e]
      exact (h.2 k (by omega)).1
  · rw [e3, z_upj _ _ _ _ _ _ _ (by omega)]
    dsimp only
    by_cases e : k = m
    · rw [if_pos (by omega), if_pos e]
    · rw [if_neg (by omega), if_neg e]
      exact (h.2 k (by omega)).2 i hi
theorem r_wrw {m i : Nat} {v : Int32} (hx : x < 4) (hm : m < 36) (hi : i < 16) : gX11_writeWord n (nI x) (nI m) (nI i) v J = some (am_up J 0 75 (16 * (36 * x + m) + i) v) := by
  have g1 : 16 * (36 * x + m) + i < 2304 := by omega
  rw [gX11_writeWord, bX11_writeWord_0, pk_mul, nI_add, pk_mul, nI_add, am_gd_of (by rw [z_inb (by omega)]; exact decide_eq_true g1), z_clamp (by omega), am_lt]
/-- a word of a write that has been added -/
theorem wr_up {m k i : Nat} {v : Int32} {fB : Nat → Nat} {fW : Nat → Nat → Int32} (h : WR J x m fB fW) (hk : k < m) (hm : m ≤ 36) (hi : i < 16) : WR (am_up J 0 75 (16 * (36 * x + k) + i) v) x m fB (fun k' i' => if k' = k ∧ i' = i then v else fW k' i') ∧ fFl x J (am_up J 0 75 (16 * (36 * x + k) + i) v) := by
  refine ⟨⟨by rw [z_upj _ _ _ _ _ _ _ (by omega)]; exact h.1, fun k' hk' => ⟨by rw [z_upj _ _ _ _ _ _ _ (by omega)]; exact (h.2 k' hk').1, fun i' hi' => ?_⟩⟩, fun a b q => z_upj _ _ _ _ _ _ _ (by omega), fun k q => by rw [z_upj _ _ _ _ _ _ _ (by omega)], fun k q => by rw [z_upj _ _ _ _ _ _ _ (by omega)], fun k' q => by rw [z_upk, if_neg (by omega)]⟩
  rw [z_upk]
  dsimp only
  by_cases e : k' = k ∧ i' = i
  · rw [if_pos (by omega), if_pos e]
  · rw [if_neg (by omega), if_neg e]
    exact (h.2 k' hk').2 i' hi'
theorem wr_cg {m : Nat} {fB fB' : Nat → Nat} {fW fW' : Nat → Nat → Int32} (h : WR J x m fB fW) (hB : ∀ k, k < m → fB' k = fB k) (hW : ∀ k i, k < m → i < 16 → fW' k i = fW k i) : WR J x m fB' fW' :=
  ⟨h.1, fun k hk => ⟨by rw [hB k hk]; exact (h.2 k hk).1, fun i hi => by rw [hW k i hk hi]; exact (h.2 k hk).2 i hi⟩⟩
theorem ac_lp {m b : Nat} {fB : Nat → Nat} (hx : x < 4) (hm : m < 36) (hb : b < 640) (c67 : Nat → Int32) : ∀ (q i fu : Nat) (J : am_I) (fW : Nat → Nat → Int32), i + q = 16 → q < fu → WR J x (m + 1) fB fW → J 0 67 = c67 → ∃ J', bX11_addCopy_9 n fu (nI x) (nI b) (nI i) J = some J' ∧ WR J' x (m + 1) fB (fun k i' => if k = m ∧ i ≤ i' then c67 (16 * (640 * x + b) + i') else fW k i') ∧ fFl x J J' := by
  intro q
  induction q with
  | zero =>
    intro i fu J fW hi hf h h67
    obtain ⟨fu, rfl⟩ : ∃ f, fu = f + 1 := ⟨fu - 1, by omega⟩
    obtain rfl : i = 16 := by omega
    refine ⟨J, ?_, wr_cg h (fun _ _ => rfl) (fun k i _ hi => by rw [if_neg (by omega)]), fFl.rf⟩
    conv => lhs; unfold bX11_addCopy_9
    simp (disch := omega) only [z_le, Nat.le_refl, if_true]
  | succ q ih =>
    intro i fu J fW hi hf h h67
    obtain ⟨fu, rfl⟩ : ∃ f, fu = f + 1 := ⟨fu - 1, by omega⟩
    have hle : ¬ 16 ≤ i := by omega
    have g1 : 16 * (640 * x + b) + i < 40960 := by omega
    have h72 := h.1
    obtain ⟨w1, w2⟩ := wr_up (k := m) (i := i) (v := c67 (16 * (640 * x + b) + i)) h (by omega) (by omega) (by omega)
    obtain ⟨J', e1, e2, e3⟩ := ih (i + 1) fu _ _ (by omega) (by omega) w1 (by rw [z_upj _ _ _ _ _ _ _ (by omega)]; exact h67)
    refine ⟨J', ?_, wr_cg e2 (fun _ _ => rfl) (fun k i' _ hi' => ?_), w2.tr e3⟩
    · rw [← e1]
      conv => lhs; unfold bX11_addCopy_9
      simp (disch := omega) only [z_le, hle, if_false, z_inb, hx, decide_true, z_gdt, z_clamp, h72, pk_sub, Nat.add_sub_cancel, pk_mul, nI_add, g1, h67]
      rw [r_wrw hx hm (by omega), Option.bind_some]
    · by_cases e : k = m ∧ i + 1 ≤ i'
      · rw [if_pos e, if_pos (by omega)]
      · rw [if_neg e]
        by_cases e4 : k = m ∧ i' = i
        · rw [if_pos e4, if_pos (by omega), e4.2]
        · rw [if_neg e4, if_neg (by omega)]
theorem r_copy {m v b : Nat} {fB : Nat → Nat} {fW : Nat → Nat → Int32} (hx : x < 4) (hm : m < 36) (hb : b < 640) (h : WR J x m fB fW) (hB : fB m = v) (hW : ∀ i, i < 16 → fW m i = J 0 67 (16 * (640 * x + b) + i)) : ∃ J', gX11_addCopy n (nI x) (nI v) (nI b) J = some J' ∧ WR J' x (m + 1) fB fW ∧ fFl x J J' := by
  obtain ⟨J1, e1, e2, e3⟩ := r_addW (n := n) (v := v) hx hm h
  obtain ⟨J', f1, f2, f3⟩ := ac_lp (n := n) (b := b) hx hm hb (J 0 67) 16 0 am_fu J1 _ (by omega) (fu_lt (by omega)) e2 (e3.1 0 67 (by omega))
  refine ⟨J', ?_, wr_cg f2 (fun k hk => ?_) (fun k i hk hi => ?_), e3.tr f3⟩
  · rw [gX11_addCopy, bX11_addCopy_0, e1, Option.bind_some]
    exact f1
  · by_cases e : k = m
    · rw [if_pos e, e]; exact hB
    · rw [if_neg e]
  · by_cases e : k = m
    · rw [if_pos ⟨e, Nat.zero_le _⟩, e]
      exact hW i hi
    · rw [if_neg (fun q => e q.1), if_neg e]
/-- the HEAD -/
theorem r_head {m c f : Nat} {be : Int32} {fB : Nat → Nat} {fW : Nat → Nat → Int32} (hx : x < 4) (hm : m < 36) (h : WR J x m fB fW) (h71 : J 0 71 x = be) (hB : fB m = 1 + 24 * x) (hW : ∀ i, i < 16 → fW m i = if i = 0 then be else if i = 1 then nI c else if i = 2 then nI f else nI 0) : ∃ J', gX11_addHead n (nI x) (nI c) (nI f) J = some J' ∧ WR J' x (m + 1) fB fW ∧ fFl x J J' := by
  obtain ⟨J1, e1, e2, e3⟩ := r_addW (n := n) (v := 1 + 24 * x) hx hm h
  obtain ⟨a1, a2⟩ := wr_up (k := m) (i := 0) (v := be) e2 (by omega) (by omega) (by omega)
  obtain ⟨b1, b2⟩ := wr_up (k := m) (i := 1) (v := nI c) a1 (by omega) (by omega) (by omega)
  obtain ⟨c1, c2⟩ := wr_up (k := m) (i := 2) (v := nI f) b1 (by omega) (by omega) (by omega)
  have h72 := e2.1
  have h72a := a1.1
  have h72b := b1.1
  have g := (show am_inb (nI x) 4 = true by rw [z_inb (by omega)]; exact decide_eq_true hx)
  have h71' : J1 0 71 x = be := by rw [e3.1 0 71 (by omega)]; exact h71
  refine ⟨_, ?_, wr_cg c1 (fun k hk => ?_) (fun k i hk hi => ?_), ((e3.tr a2).tr b2).tr c2⟩
  · rw [gX11_addHead, bX11_addHead_0, pk_mul, nI_add, e1, Option.bind_some, am_gd_of g, am_gd_of g, z_clamp (by omega), h72, h71', pk_sub (by omega), Nat.add_sub_cancel, r_wrw hx hm (by omega), Option.bind_some, am_gd_of g, h72a, pk_sub (by omega), Nat.add_sub_cancel, r_wrw hx hm (by omega), Option.bind_some, am_gd_of g, h72b, pk_sub (by omega), Nat.add_sub_cancel, r_wrw hx hm (by omega), Option.bind_some]
  · by_cases e : k = m
    · rw [if_pos e, e]; exact hB
    · rw [if_neg e]
  · by_cases e : k = m
    · rw [e, hW i hi]
      by_cases i0 : i = 0
      · subst i0
        simp
      · by_cases i1 : i = 1
        · subst i1
          simp
        · by_cases i2 : i = 2
          · subst i2
            simp
          · simp [i0, i1, i2]
    · rw [if_neg (fun q => e q.1), if_neg (fun q => e q.1), if_neg (fun q => e q.1), if_neg e]
end FLUSH
