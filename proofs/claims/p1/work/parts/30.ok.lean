/-- which roles of the class there are once -/
def am_bs (j : Nat) : Bool := decide (j < 27)
/-- a whole system is there: all roles, of 2 to 4 nodes -/
def am_ok (G : am_G) : Prop := (∀ j, am_bs j = true → (0, j) ∈ G.2.2.2.2) ∧ (∀ i j, i < G.2.2.2.1 → 40 ≤ j → j < 56 → (i, j) ∈ G.2.2.2.2) ∧ G.2.2.2.2.Nodup ∧ 2 ≤ G.2.2.2.1 ∧ G.2.2.2.1 ≤ 4
theorem am_ok.m0 {G : am_G} (h : am_ok G) {j : Nat} (hj : am_bs j = true) : (0, j) ∈ G.2.2.2.2 := h.1 j hj
theorem am_ok.mn {G : am_G} (h : am_ok G) {i j : Nat} (hi : i < G.2.2.2.1) (h1 : 40 ≤ j) (h2 : j < 56) : (i, j) ∈ G.2.2.2.2 := h.2.1 i j hi h1 h2
theorem am_ok.nd {G : am_G} (h : am_ok G) : G.2.2.2.2.Nodup := h.2.2.1
theorem am_ok.lo {G : am_G} (h : am_ok G) : 2 ≤ G.2.2.2.1 := h.2.2.2.1
theorem am_ok.hi {G : am_G} (h : am_ok G) : G.2.2.2.1 ≤ 4 := h.2.2.2.2
theorem am_ok.n31 {G : am_G} (h : am_ok G) : G.2.2.2.1 < 2 ^ 31 := Nat.lt_of_le_of_lt h.hi (by decide)
/-- the reference is there -/
def am_bm (j : Nat) : Bool := decide (60 ≤ j) && decide (j < 132) && (decide (j = 60) || decide (am_k j ≠ 0))
def am_okM (G : am_G) : Prop := (∀ j, am_bm j = true → (0, j) ∈ G.2.2.2.2) ∧ G.2.2.2.2.Nodup ∧ 2 ≤ G.2.2.2.1 ∧ G.2.2.2.1 ≤ 4
theorem am_okM.m0 {G : am_G} (h : am_okM G) {j : Nat} (hj : am_bm j = true) : (0, j) ∈ G.2.2.2.2 := h.1 j hj
theorem am_okM.nd {G : am_G} (h : am_okM G) : G.2.2.2.2.Nodup := h.2.1
theorem am_okM.lo {G : am_G} (h : am_okM G) : 2 ≤ G.2.2.2.1 := h.2.2.1
theorem am_okM.hi {G : am_G} (h : am_okM G) : G.2.2.2.1 ≤ 4 := h.2.2.2
theorem am_okM.n31 {G : am_G} (h : am_okM G) : G.2.2.2.1 < 2 ^ 31 := Nat.lt_of_le_of_lt h.hi (by decide)
def am_b (b : Bool) : Int32 := if b then 1 else 0
theorem am_bz (b : Bool) : am_b b = 0 ↔ b = false := by cases b <;> decide
theorem am_bn (b : Bool) : ¬ am_b b = 0 ↔ b = true := by cases b <;> decide
theorem am_b01 (b : Bool) : am_b b = 0 ∨ am_b b = 1 := by cases b <;> decide
theorem am_bT {P : Prop} (i : Decidable P) (h : P) : am_b (@decide P i) = nI 1 := by rw [decide_eq_true h]; rfl
theorem am_bF {P : Prop} (i : Decidable P) (h : ¬ P) : am_b (@decide P i) = nI 0 := by rw [decide_eq_false h]; rfl
theorem am_ups (I : am_I) (i j k : Nat) (v : Int32) : am_up I i j k v i j k = v := by simp [am_up, am_upf, upd]
theorem am_upn (I : am_I) {i j k i' j' k' : Nat} (v : Int32) (h : ¬ (i' = i ∧ j' = j ∧ k' = k)) : am_up I i j k v i' j' k' = I i' j' k' := by
  simp only [am_up, am_upf]
  split
  · next h2 =>
    simp only [upd]
    rw [if_neg (fun z => h ⟨h2.1, h2.2, z⟩), h2.1, h2.2]
  · rfl
theorem am_i0 : (0 : Int32).toInt = 0 := by decide
theorem am_upf_upf (I : am_I) (i j : Nat) (f g : Nat → Int32) : am_upf (am_upf I i j f) i j g = am_upf I i j g := by
  funext a b
  simp only [am_upf]
  split <;> rfl
theorem am_up_upf (I : am_I) (i j a : Nat) (f : Nat → Int32) (v : Int32) : am_up (am_upf I i j f) i j a v = am_upf I i j (upd f a v) := by
  rw [am_up, am_upf_upf, am_upf_at]
theorem am_upf_self (I : am_I) (i j : Nat) : am_upf I i j (I i j) = I := by
  funext a b
  simp only [am_upf]
  split
  · next h => rw [h.1, h.2]
  · rfl
def am_fil (f : Nat → Int32) (a : Nat) (v : Int32) : Nat → Int32 := fun k => if k < a then v else f k
theorem am_fil0 (f : Nat → Int32) (v : Int32) : am_fil f 0 v = f := by funext k; simp [am_fil]
theorem am_fils (f : Nat → Int32) (a : Nat) (v : Int32) : upd (am_fil f a v) a v = am_fil f (a + 1) v := by
  funext k
  simp only [am_fil, upd]
  by_cases h : k = a
  · subst h; simp
  · rw [if_neg h]
    by_cases h2 : k < a
    · rw [if_pos h2, if_pos (by omega)]
    · rw [if_neg h2, if_neg (by omega)]
theorem am_nm {G : am_G} {d : Nat} {M : am_M} {TH : Nat → List (Option am_V) → List am_V → am_I → Prop} {Q : Option Int32 → am_I → Prop} {pc : Nat} {lo : List (Option am_V)} {st : List am_V} {I : am_I} (h : ∀ J : am_I, J = I → am_J G d M TH Q pc lo st J) : am_J G d M TH Q pc lo st I := h I rfl
