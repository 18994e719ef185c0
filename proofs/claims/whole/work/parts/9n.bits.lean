theorem b_1 (i : Nat) : bt (nI 1) i = decide (i = 0) := by
  rcases Nat.lt_or_ge i 32 with h | h
  · exact (by decide +kernel : ∀ i, i < 32 → bt (nI 1) i = decide (i = 0)) i h
  · rw [b_big h, decide_eq_false (by omega)]
theorem b_1s {m i : Nat} (hm : m < 32) (hi : i < 32) : bt (nI 1 <<< (nI m &&& 31)) i = decide (i = m) := by
  rw [b_shl m hm _ hi, b_1]
  by_cases e : i = m
  · subst e
    simp
  · rw [decide_eq_false e]
    by_cases h : m ≤ i
    · rw [decide_eq_false (by omega : ¬ i - m = 0), Bool.and_false]
    · rw [decide_eq_false h, Bool.false_and]
theorem z_bset {m i : Nat} (x : Int32) (hm : m < 32) (hi : i < 32) : bt (x ||| (nI 1 <<< (nI m &&& 31))) i = (bt x i || decide (i = m)) := by
  rw [b_or, b_1s hm hi]
theorem z_bclr {m i : Nat} (x : Int32) (hm : m < 32) (hi : i < 32) : bt (x &&& ((nI 1 <<< (nI m &&& 31)) ^^^ (-1 : Int32))) i = (bt x i && !decide (i = m)) := by
  rw [b_and, b_xor, b_1s hm hi, b_m1 i hi, Bool.xor_true]
theorem z_bit0 {m : Nat} (x : Int32) (hm : m < 32) : ((x >>> (nI m &&& 31)) &&& nI 1 = 0) ↔ bt x m = false := by
  constructor
  · intro h
    have h2 := congrArg (fun z => bt z 0) h
    simp only [b_and, b_sshr m hm x (by decide : 0 < 32), b_1, b_0] at h2
    rw [if_pos (by omega)] at h2
    simpa using h2
  · intro h
    refine b_ext (fun i hi => ?_)
    rw [b_and, b_1, b_0]
    by_cases e : i = 0
    · subst e
      rw [b_sshr m hm x hi, if_pos (by omega), Nat.add_zero, h, Bool.false_and]
    · rw [decide_eq_false e, Bool.and_false]
theorem z_bnot {x : Int32} {i : Nat} (hi : i < 32) : bt (x ^^^ (-1 : Int32)) i = !bt x i := by
  rw [b_xor, b_m1 i hi, Bool.xor_true]
theorem b_tb (x : Int32) (i : Nat) : bt x i = x.toBitVec.toNat.testBit i := rfl
theorem b_nI {a i : Nat} (ha : a < 2 ^ 32) : bt (nI a) i = a.testBit i := by
  rw [b_tb]
  show (BitVec.ofNat 32 a).toNat.testBit i = _
  rw [BitVec.toNat_ofNat, Nat.mod_eq_of_lt ha]
/-- the ones below the least one -/
theorem z_low {x : Int32} {t : Nat} (ht : t < 32) (h1 : bt x t = true) (h0 : ∀ i, i < t → bt x i = false) : (x ^^^ (-1 : Int32)) &&& (x - nI 1) = nI (2 ^ t - 1) := by
  have hp : 2 ^ t - 1 < 2 ^ 32 := Nat.lt_of_lt_of_le (Nat.sub_lt (Nat.two_pow_pos t) (by decide)) (Nat.pow_le_pow_right (by decide) (by omega))
  have hpos : 0 < 2 ^ t := Nat.two_pow_pos t
  have hX : x.toBitVec.toNat < 2 ^ 32 := x.toBitVec.isLt
  -- x is an odd number of 2 ^ t
  have hmod : x.toBitVec.toNat % 2 ^ t = 0 := by
    refine Nat.eq_of_testBit_eq (fun i => ?_)
    rw [Nat.testBit_mod_two_pow, Nat.zero_testBit]
    by_cases e : i < t
    · have := h0 i e
      rw [b_tb] at this
      rw [this, Bool.and_false]
    · rw [decide_eq_false e, Bool.false_and]
  have hodd : (x.toBitVec.toNat / 2 ^ t) % 2 = 1 := by
    have := h1
    rw [b_tb, Nat.testBit_eq_decide_div_mod_eq] at this
    exact of_decide_eq_true this
  have hx : x.toBitVec.toNat = 2 ^ t * (x.toBitVec.toNat / 2 ^ t) := by
    have := Nat.div_add_mod x.toBitVec.toNat (2 ^ t)
    omega
  have hge : 1 ≤ x.toBitVec.toNat := by
    refine Nat.pos_of_ne_zero (fun e => ?_)
    rw [e, Nat.zero_div] at hodd
    omega
  have hsub : (x - nI 1).toBitVec.toNat = 2 ^ t * (x.toBitVec.toNat / 2 ^ t - 1) + (2 ^ t - 1) := by
    have e1 : (x - nI 1).toBitVec.toNat = x.toBitVec.toNat - 1 := by
      rw [Int32.toBitVec_sub, BitVec.toNat_sub]
      show (2 ^ 32 - 1 + x.toBitVec.toNat) % 2 ^ 32 = _
      omega
    have e2 : 1 ≤ x.toBitVec.toNat / 2 ^ t := (by omega : ∀ q : Nat, q % 2 = 1 → 1 ≤ q) _ hodd
    have e3 : 2 ^ t * (x.toBitVec.toNat / 2 ^ t - 1) + 2 ^ t = 2 ^ t * (x.toBitVec.toNat / 2 ^ t) := by
      rw [← Nat.mul_succ, (by omega : ∀ q : Nat, 1 ≤ q → (q - 1).succ = q) _ e2]
    omega
  refine b_ext (fun i hi => ?_)
  rw [b_and, z_bnot hi, b_nI hp, b_tb (x - nI 1), hsub, Nat.testBit_two_pow_mul_add _ (by omega), Nat.testBit_two_pow_sub_one]
  by_cases e : i < t
  · rw [if_pos e, h0 i e, decide_eq_true e]
    rfl
  · rw [if_neg e, decide_eq_false e]
    by_cases e2 : i = t
    · subst e2
      rw [h1]
      rfl
    · have e3 : bt x i = (x.toBitVec.toNat / 2 ^ t).testBit (i - t) := by
        conv => lhs; rw [b_tb, hx, ← Nat.add_zero (2 ^ t * (x.toBitVec.toNat / 2 ^ t)), Nat.testBit_two_pow_mul_add _ hpos, if_neg e]
      have e4 : (x.toBitVec.toNat / 2 ^ t - 1).testBit (i - t) = (x.toBitVec.toNat / 2 ^ t).testBit (i - t) := by
        obtain ⟨j, hj⟩ : ∃ j, i - t = j + 1 := ⟨i - t - 1, by omega⟩
        rw [hj, Nat.testBit_succ, Nat.testBit_succ, (by omega : ∀ q : Nat, q % 2 = 1 → (q - 1) / 2 = q / 2) _ hodd]
      rw [e3, e4]
      cases (x.toBitVec.toNat / 2 ^ t).testBit (i - t) <;> rfl
/-- the JDK's numberOfTrailingZeros, behind its mask -/
def ntz (m : Int32) : Int32 := if 0 < m then (let g2 := fun (l0 l1 : Int32) => l1 + ((l0.toUInt32 >>> ((nI 1).toUInt32 &&& Int32.toUInt32 31)).toInt32)
  let g3 := fun (l0 l1 : Int32) => if l0 ≤ nI 4 then g2 l0 l1 else g2 ((l0.toUInt32 >>> ((nI 2).toUInt32 &&& Int32.toUInt32 31)).toInt32) (l1 + nI 2)
  let g4 := fun (l0 l1 : Int32) => if l0 ≤ nI 16 then g3 l0 l1 else g3 ((l0.toUInt32 >>> ((nI 4).toUInt32 &&& Int32.toUInt32 31)).toInt32) (l1 + nI 4)
  let g5 := fun (l0 l1 : Int32) => if l0 ≤ nI 256 then g4 l0 l1 else g4 ((l0.toUInt32 >>> ((nI 8).toUInt32 &&& Int32.toUInt32 31)).toInt32) (l1 + nI 8)
  if m ≤ nI 65536 then g5 m (nI 1) else g5 ((m.toUInt32 >>> ((nI 16).toUInt32 &&& Int32.toUInt32 31)).toInt32) (nI 1 + nI 16)) else m &&& nI 32
theorem ntz_tab : ∀ t, t < 32 → ntz (nI (2 ^ t - 1)) = nI t := by decide +kernel
theorem ntz_eq (n : Nat) (x : Int32) (I : am_I) : gJ6_numberOfTrailingZeros_0f7a4 n x I = some (ntz ((x ^^^ (-1 : Int32)) &&& (x - nI 1)), I) := by
  simp only [gJ6_numberOfTrailingZeros_0f7a4, bJ6_numberOfTrailingZeros_0f7a4_0, bJ6_numberOfTrailingZeros_0f7a4_34, bJ6_numberOfTrailingZeros_0f7a4_49, bJ6_numberOfTrailingZeros_0f7a4_62, bJ6_numberOfTrailingZeros_0f7a4_74, ntz]
  generalize (x ^^^ (-1 : Int32)) &&& (x - nI 1) = m
  split
  · split
    · repeat (first | rfl | split)
    · repeat (first | rfl | split)
  · rfl
theorem z_ntz {n t : Nat} {x : Int32} {I : am_I} (ht : t < 32) (h1 : bt x t = true) (h0 : ∀ i, i < t → bt x i = false) : gJ6_numberOfTrailingZeros_0f7a4 n x I = some (nI t, I) := by
  rw [ntz_eq, z_low ht h1 h0, ntz_tab t ht]
/-- the least of those that are so, if there is one -/
theorem least (p : Nat → Bool) : ∀ m, (∃ t, t < m ∧ p t = true ∧ ∀ i, i < t → p i = false) ∨ ∀ i, i < m → p i = false
  | 0 => Or.inr (fun i h => absurd h (by omega))
  | m + 1 => by
    rcases least p m with ⟨t, h1, h2, h3⟩ | h
    · exact Or.inl ⟨t, by omega, h2, h3⟩
    · cases e : p m
      · refine Or.inr (fun i hi => ?_)
        by_cases e2 : i = m
        · subst e2; exact e
        · exact h i (by omega)
      · exact Or.inl ⟨m, by omega, e, h⟩
theorem z_zero {x : Int32} : x = 0 ↔ ∀ i, i < 32 → bt x i = false := by
  constructor
  · rintro rfl i _
    exact b_0 i
  · intro h
    exact b_ext (fun i hi => by rw [h i hi, b_0])
theorem b_7fff (i : Nat) : bt (nI 32767) i = decide (i < 15) := by
  rcases Nat.lt_or_ge i 32 with h | h
  · exact (by decide +kernel : ∀ i, i < 32 → bt (nI 32767) i = decide (i < 15)) i h
  · rw [b_big h, decide_eq_false (by omega)]
theorem b_ffff (i : Nat) : bt (nI 65535) i = decide (i < 16) := b_65535 i
