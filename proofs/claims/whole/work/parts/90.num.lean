theorem z_0 : (0 : Int32) = nI 0 := rfl
theorem z_1 : (1 : Int32) = nI 1 := rfl
theorem z_clamp {a : Nat} (h : a < 2 ^ 31) : (nI a).toNatClampNeg = a := nI_clamp h
theorem z_lt {a b : Nat} (ha : a < 2 ^ 31) (hb : b < 2 ^ 31) : (nI a < nI b) = (a < b) := propext (nI_ltI ha hb)
theorem z_le {a b : Nat} (ha : a < 2 ^ 31) (hb : b < 2 ^ 31) : (nI a ≤ nI b) = (a ≤ b) := propext (nI_leI ha hb)
theorem z_eq {a b : Nat} (ha : a < 2 ^ 31) (hb : b < 2 ^ 31) : (nI a = nI b) = (a = b) := propext (nI_eq ha hb)
theorem z_inb {a n : Nat} (ha : a < 2 ^ 31) : am_inb (nI a) n = decide (a < n) := by
  unfold am_inb
  have h1 : ¬ nI a < 0 := nI_pos ha
  simp only [h1, not_false_eq_true, true_and, nI_clamp ha]
theorem z_gdt {α : Type} {k : Option α} : am_gd true k = k := rfl
theorem z_m1 {a : Nat} (ha : a < 2 ^ 31) : (nI a = (-1 : Int32)) = False := by
  refine propext ⟨fun h => ?_, False.elim⟩
  have := congrArg Int32.toInt h
  rw [nI_toInt ha] at this
  have e : ((-1 : Int32)).toInt = -1 := by decide
  omega
theorem z_up (I : am_I) (i j k i' j' k' : Nat) (v : Int32) : am_up I i j k v i' j' k' = if i' = i ∧ j' = j ∧ k' = k then v else I i' j' k' := by
  simp only [am_up, am_upf, upd]
  by_cases h : i' = i ∧ j' = j
  · obtain ⟨rfl, rfl⟩ := h
    simp [upd]
  · simp only [h, if_false]
    rw [if_neg (fun h2 => h ⟨h2.1, h2.2.1⟩)]
/-- a value that is a number -/
def z_n (x : Int32) (m : Nat) : Prop := ∃ a : Nat, x = nI a ∧ a < m
