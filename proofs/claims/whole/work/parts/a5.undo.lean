section UNDO
variable {n y : Nat} {Hd : Nat → Int} {F0 F F' : (Nat → Nat) → wS} {I0 J0 I J : am_I} {X : List Nat} {E : Nat → Prop} {gn : List Nat} {gp gp' pd pd' : Nat → Prop}
/-- both sides when no try is under way: the node's cache as B has it -/
def RS (y : Nat) (Hd : Nat → Int) (F0 : (Nat → Nat) → wS) (I0 J0 : am_I) (B : wS) (I J : am_I) : Prop :=
  (∀ b, b < 640 → J 0 68 (640 * y + b) = B b 16 ∧ (B b 16 = nI 1 → ∀ i, i < 16 → J 0 67 (16 * (640 * y + b) + i) = B b i))
  ∧ (∀ b, b < 640 → I y 43 b = B b 16 ∧ (B b 16 = nI 1 → ∀ i, i < 16 → I y 42 (b * 16 + i) = B b i))
  ∧ I y 41 2 = nI (cnt (I y 43) 640) ∧ BI y J0 B
  ∧ (∀ b, b < 640 → J 0 120 b = nI 0) ∧ (∀ b, b < 640 → I 0 19 b = nI 0)
  ∧ (J 0 60 56 = nI 0 ∧ J 0 60 61 = nI 0 ∧ I 0 15 5 = nI 0 ∧ I 0 15 7 = nI 0)
  ∧ fI y I0 I ∧ fJ y J0 J
  ∧ ∀ L, L y = 2 → ∀ b, (b < 640 ∧ B b 16 = nI 1) → ∃ r, w_of (F0 L) b r ∧ 0 < Hd r ∧ t_in (F0 L) (fun b => b < 640 ∧ B b 16 = nI 1) b r
theorem tr_undo (hC : TC n y Hd I0 J0) (h : TR y Hd F0 I0 J0 X E F gn gp pd I J) : ∃ B I' J', gX9_undo n I = some I' ∧ gX11_undo n J = some J' ∧ RS y Hd F0 I0 J0 B I' J' ∧ (∀ k, ¬ (k = 5 ∨ k = 7) → I' 0 15 k = I 0 15 k) ∧ (∀ k, ¬ (k = 56 ∨ k = 61) → J' 0 60 k = J 0 60 k) := by
  have hn4 := hC.2.1
  have hyn := hC.1
  obtain ⟨B, sv, cv, p1, p2, p3, p4, p5, p6, p7, p8, p9, p10, p11, p12, p13, p14, p15⟩ := h
  have hl2 := pigeon sv cv p1.2.2.1 p8
  obtain ⟨a1, a2, a3, a4, a5, a6, a7, a8⟩ := p1
  obtain ⟨b1, b2, b3, b4, b5, b6, b7, b8, b9⟩ := p2
  have hl := b2.2
  obtain ⟨J', r1, r2, r3, r4, r5, r6, r7⟩ := ru_lp (n := n) (B := B) (sv := sv) (by omega) a3 a4 (by omega) (fun b hb => (p15 b (a4 b hb)).2.2) sv.length 0 am_fu J (by omega) (fu_lt (by omega)) ⟨a1, a2, by rw [List.drop_zero]; exact a5, a6, by rw [List.drop_zero]; exact a7⟩
  obtain ⟨I', s1, s2, s3, s4, s5, s6, s7, s8⟩ := cu_lp (n := n) (B := B) (cv := cv) (by omega) b3 b4 (by omega) (fun b hb => (p15 b (b4 b hb)).2.2) cv.length am_fu I (Nat.le_refl _) (fu_lt (by omega)) ⟨b1, b2.1, b5, b6, by rw [List.take_length]; exact b7, by rw [List.take_length]; exact p4, b9⟩
  refine ⟨B, I', J', ?_, ?_, ⟨r3, s3, s4, p15, r2, s2, ⟨r4, r5, s5, s6⟩, p12.tr s8, p13.tr r7, fun L hL b hb => (p14 L hL).2.2.2.2.2.2.2.1 b hb⟩, s7, r6⟩
  · rw [gX9_undo, bX9_undo_0, b1, b2.1, z_clamp (by omega), am_gd_of (decide_eq_true hyn)]
    have e : nI cv.length - nI 1 = nI cv.length + (-1 : Int32) := by
      rw [Int32.sub_eq_add_neg]
      rfl
    rw [e]
    exact s1
  · rw [gX11_undo, bX11_undo_0]
    exact r1
end UNDO
