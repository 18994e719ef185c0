
theorem tb_lo {X i : Nat} (h : i < 8) : X.testBit i = (X % 256).testBit i := by
  rw [show (256 : Nat) = 2 ^ 8 from rfl, Nat.testBit_mod_two_pow, decide_eq_true h, Bool.true_and]
theorem tb_hi {X i : Nat} : X.testBit (8 + i) = (X / 256).testBit i := by
  rw [show (256 : Nat) = 2 ^ 8 from rfl, Nat.testBit_div_two_pow, Nat.add_comm]
theorem and_split {a b c d : Nat} (ha : a < 256) (hc : c < 256) : (a + 256 * b) &&& (c + 256 * d) = (a &&& c) + 256 * (b &&& d) := by
  have hac : a &&& c < 256 := Nat.lt_of_le_of_lt Nat.and_le_left ha
  refine Nat.eq_of_testBit_eq (fun i => ?_)
  rw [Nat.testBit_and]
  rcases Nat.lt_or_ge i 8 with h | h
  · rw [tb_lo (X := a + 256 * b) h, tb_lo (X := c + 256 * d) h, tb_lo (X := (a &&& c) + 256 * (b &&& d)) h, show (a + 256 * b) % 256 = a from by omega, show (c + 256 * d) % 256 = c from by omega, show ((a &&& c) + 256 * (b &&& d)) % 256 = a &&& c from by omega, Nat.testBit_and]
  · obtain ⟨j, rfl⟩ : ∃ j, i = 8 + j := ⟨i - 8, by omega⟩
    rw [tb_hi, tb_hi, tb_hi, show (a + 256 * b) / 256 = b from by omega, show (c + 256 * d) / 256 = d from by omega, show ((a &&& c) + 256 * (b &&& d)) / 256 = b &&& d from by omega, Nat.testBit_and]
theorem z_and {a b : Nat} (ha : a < 2 ^ 32) (hb : b < 2 ^ 32) : nI a &&& nI b = nI (a &&& b) := b_ext (fun i _ => by
  rw [b_and, b_nI ha, b_nI hb, b_nI (Nat.lt_of_le_of_lt Nat.and_le_left ha), Nat.testBit_and])
theorem z_ushr {a : Nat} (k : Nat) (hk : k < 32) (ha : a < 2 ^ 32) : ((nI a).toUInt32 >>> ((nI k).toUInt32 &&& Int32.toUInt32 31)).toInt32 = nI (a / 2 ^ k) := b_ext (fun i _ => by
  rw [b_ushr k hk, b_nI ha, b_nI (Nat.lt_of_le_of_lt (Nat.div_le_self _ _) ha), Nat.testBit_div_two_pow, Nat.add_comm])
def q_1 (x : Nat) : Nat := x - (x / 2 &&& 85)
def q_2 (x : Nat) : Nat := (x &&& 51) + (x / 4 &&& 51)
def q_3 (x : Nat) : Nat := (x + x / 16) &&& 15
def p_8 (x : Nat) : Nat := v_sum (fun i => if x.testBit i = true then 1 else 0) 8
theorem bc_t : ∀ x, x < 256 → (x / 2 &&& 85) ≤ x ∧ q_1 x < 256 ∧ q_2 (q_1 x) ≤ 68 ∧ q_2 (q_1 x) % 16 ≤ 4 ∧ q_3 (q_2 (q_1 x)) = p_8 x ∧ p_8 x ≤ 8 := by decide +kernel
theorem bc_m1 : ∀ x, x < 256 → ∀ c, c < 2 → (x / 2 + 128 * c) &&& 85 = x / 2 &&& 85 := by decide +kernel
theorem bc_m2 : ∀ x, x < 256 → ∀ c, c < 4 → (x / 4 + 64 * c) &&& 51 = x / 4 &&& 51 := by decide +kernel
theorem bc_m3 : ∀ z, z < 69 → ∀ c, c < 5 → (z + z / 16 + 16 * c) &&& 15 = (z + z / 16) &&& 15 := by decide +kernel
theorem bc_m4 : ∀ s, s < 64 → s &&& 63 = s := by decide +kernel
theorem bc_1 {x X M : Nat} (hx : x < 256) : (x + 256 * X) - ((x + 256 * X) / 2 &&& (85 + 256 * M)) = q_1 x + 256 * (X - (X / 2 &&& M)) := by
  have e : (x + 256 * X) / 2 = (x / 2 + 128 * (X % 2)) + 256 * (X / 2) := by omega
  rw [e, and_split (by omega) (by decide), bc_m1 x hx _ (by omega)]
  have h1 := (bc_t x hx).1
  have h2 : X / 2 &&& M ≤ X / 2 := Nat.and_le_left
  unfold q_1
  omega
theorem bc_2 {x X M : Nat} (hx : x < 256) : ((x + 256 * X) &&& (51 + 256 * M)) + ((x + 256 * X) / 4 &&& (51 + 256 * M)) = q_2 x + 256 * ((X &&& M) + (X / 4 &&& M)) := by
  have e : (x + 256 * X) / 4 = (x / 4 + 64 * (X % 4)) + 256 * (X / 4) := by omega
  rw [e, and_split hx (by decide), and_split (by omega) (by decide), bc_m2 x hx _ (by omega)]
  unfold q_2
  omega
theorem bc_3 {z Z M : Nat} (hz : z ≤ 68) (hZ : Z % 16 ≤ 4) : ((z + 256 * Z) + (z + 256 * Z) / 16) &&& (15 + 256 * M) = q_3 z + 256 * ((Z + Z / 16) &&& M) := by
  have e : (z + 256 * Z) + (z + 256 * Z) / 16 = (z + z / 16 + 16 * (Z % 16)) + 256 * (Z + Z / 16) := by omega
  rw [e, and_split (by omega) (by decide), bc_m3 z (by omega) _ (by omega)]
  rfl
def v_ones (x : Int32) (m : Nat) : Nat := v_sum (fun i => if bt x i = true then 1 else 0) m
theorem v_sum_add {f : Nat → Nat} (a : Nat) : ∀ b, v_sum f (a + b) = v_sum f a + v_sum (fun i => f (a + i)) b
  | 0 => rfl
  | b + 1 => by
    rw [show a + (b + 1) = (a + b) + 1 from rfl, v_sum, v_sum_add a b, v_sum]
    omega
theorem ones_4 (x : Int32) : v_ones x 32 = p_8 (x.toBitVec.toNat % 256) + (p_8 (x.toBitVec.toNat / 256 % 256) + (p_8 (x.toBitVec.toNat / 256 / 256 % 256) + p_8 (x.toBitVec.toNat / 256 / 256 / 256 % 256))) := by
  unfold v_ones
  show v_sum (fun i => if bt x i = true then 1 else 0) (8 + (8 + (8 + 8))) = _
  rw [v_sum_add, v_sum_add, v_sum_add]
  have hb : ∀ (X : Nat) (f : Nat → Nat), (∀ i, i < 8 → f i = if X.testBit i = true then 1 else 0) → v_sum f 8 = p_8 (X % 256) := fun X f h => v_sum_cg 8 (fun i hi => by
    rw [h i hi]
    show _ = if (X % 256).testBit i = true then 1 else 0
    rw [← tb_lo hi])
  rw [hb x.toBitVec.toNat (fun i => if bt x i = true then 1 else 0) (fun i _ => by rw [b_tb]), hb (x.toBitVec.toNat / 256) (fun i => if bt x (8 + i) = true then 1 else 0) (fun i _ => by rw [b_tb, tb_hi]), hb (x.toBitVec.toNat / 256 / 256) (fun i => if bt x (8 + (8 + i)) = true then 1 else 0) (fun i _ => by rw [b_tb, tb_hi, tb_hi]), hb (x.toBitVec.toNat / 256 / 256 / 256) (fun i => if bt x (8 + (8 + (8 + i))) = true then 1 else 0) (fun i _ => by rw [b_tb, tb_hi, tb_hi, tb_hi])]
theorem bc_N {n x0 x1 x2 x3 : Nat} {I : am_I} (h0 : x0 < 256) (h1 : x1 < 256) (h2 : x2 < 256) (h3 : x3 < 256) : gJ6_bitCount_0f7a4 n (nI (x0 + 256 * (x1 + 256 * (x2 + 256 * x3)))) I = some (nI (p_8 x0 + (p_8 x1 + (p_8 x2 + p_8 x3))), I) := by
  obtain ⟨-, a1, b1, c1, d1, f1⟩ := bc_t x0 h0
  obtain ⟨-, a2, b2, c2, d2, f2⟩ := bc_t x1 h1
  obtain ⟨-, a3, b3, c3, d3, f3⟩ := bc_t x2 h2
  obtain ⟨-, a4, b4, c4, d4, f4⟩ := bc_t x3 h3
  have e5 : (1431655765 : Nat) = 85 + 256 * (85 + 256 * (85 + 256 * 85)) := by decide
  have e3 : (858993459 : Nat) = 51 + 256 * (51 + 256 * (51 + 256 * 51)) := by decide
  have ef : (252645135 : Nat) = 15 + 256 * (15 + 256 * (15 + 256 * 15)) := by decide
  have s1 : nI (x0 + 256 * (x1 + 256 * (x2 + 256 * x3))) - (((nI (x0 + 256 * (x1 + 256 * (x2 + 256 * x3)))).toUInt32 >>> ((nI 1).toUInt32 &&& Int32.toUInt32 31)).toInt32 &&& nI 1431655765) = nI (q_1 x0 + 256 * (q_1 x1 + 256 * (q_1 x2 + 256 * q_1 x3))) := by
    rw [z_ushr 1 (by decide) (by omega), z_and (by omega) (by decide), pk_sub (Nat.le_trans Nat.and_le_left (by omega)), e5, show 2 ^ 1 = 2 from rfl, bc_1 h0, bc_1 h1, bc_1 h2]
    rfl
  have s2 : (nI (q_1 x0 + 256 * (q_1 x1 + 256 * (q_1 x2 + 256 * q_1 x3))) &&& nI 858993459) + (((nI (q_1 x0 + 256 * (q_1 x1 + 256 * (q_1 x2 + 256 * q_1 x3)))).toUInt32 >>> ((nI 2).toUInt32 &&& Int32.toUInt32 31)).toInt32 &&& nI 858993459) = nI (q_2 (q_1 x0) + 256 * (q_2 (q_1 x1) + 256 * (q_2 (q_1 x2) + 256 * q_2 (q_1 x3)))) := by
    rw [z_ushr 2 (by decide) (by omega), z_and (by omega) (by decide), z_and (by omega) (by decide), nI_add, e3, show 2 ^ 2 = 4 from rfl, bc_2 a1, bc_2 a2, bc_2 a3]
    rfl
  have s3 : (nI (q_2 (q_1 x0) + 256 * (q_2 (q_1 x1) + 256 * (q_2 (q_1 x2) + 256 * q_2 (q_1 x3)))) + ((nI (q_2 (q_1 x0) + 256 * (q_2 (q_1 x1) + 256 * (q_2 (q_1 x2) + 256 * q_2 (q_1 x3))))).toUInt32 >>> ((nI 4).toUInt32 &&& Int32.toUInt32 31)).toInt32) &&& nI 252645135 = nI (p_8 x0 + 256 * (p_8 x1 + 256 * (p_8 x2 + 256 * p_8 x3))) := by
    rw [z_ushr 4 (by decide) (by omega), nI_add, z_and (by omega) (by decide), ef, show 2 ^ 4 = 16 from rfl, bc_3 b1 (by omega), bc_3 b2 (by omega), bc_3 b3 (by omega), d1, d2, d3, ← d4]
    rfl
  have s4 : nI (p_8 x0 + 256 * (p_8 x1 + 256 * (p_8 x2 + 256 * p_8 x3))) + ((nI (p_8 x0 + 256 * (p_8 x1 + 256 * (p_8 x2 + 256 * p_8 x3)))).toUInt32 >>> ((nI 8).toUInt32 &&& Int32.toUInt32 31)).toInt32 = nI ((p_8 x0 + p_8 x1) + 256 * ((p_8 x1 + p_8 x2) + 256 * ((p_8 x2 + p_8 x3) + 256 * p_8 x3))) := by
    rw [z_ushr 8 (by decide) (by omega), nI_add, show 2 ^ 8 = 256 from rfl]
    exact congrArg nI (by omega)
  have s5 : nI ((p_8 x0 + p_8 x1) + 256 * ((p_8 x1 + p_8 x2) + 256 * ((p_8 x2 + p_8 x3) + 256 * p_8 x3))) + ((nI ((p_8 x0 + p_8 x1) + 256 * ((p_8 x1 + p_8 x2) + 256 * ((p_8 x2 + p_8 x3) + 256 * p_8 x3)))).toUInt32 >>> ((nI 16).toUInt32 &&& Int32.toUInt32 31)).toInt32 = nI ((p_8 x0 + (p_8 x1 + (p_8 x2 + p_8 x3))) + 256 * ((p_8 x1 + p_8 x2 + p_8 x3) + 256 * ((p_8 x2 + p_8 x3) + 256 * p_8 x3))) := by
    rw [z_ushr 16 (by decide) (by omega), nI_add, show 2 ^ 16 = 65536 from rfl]
    exact congrArg nI (by omega)
  have s6 : nI ((p_8 x0 + (p_8 x1 + (p_8 x2 + p_8 x3))) + 256 * ((p_8 x1 + p_8 x2 + p_8 x3) + 256 * ((p_8 x2 + p_8 x3) + 256 * p_8 x3))) &&& nI 63 = nI (p_8 x0 + (p_8 x1 + (p_8 x2 + p_8 x3))) := by
    rw [z_and (by omega) (by decide), show (63 : Nat) = 63 + 256 * 0 from rfl, and_split (by omega) (by decide), bc_m4 _ (by omega), Nat.and_zero, Nat.mul_zero, Nat.add_zero]
  unfold gJ6_bitCount_0f7a4 bJ6_bitCount_0f7a4_0
  rw [s1, s2, s3, s4, s5, s6]
/-- the number of ones -/
theorem z_bc {n : Nat} (x : Int32) {I : am_I} : gJ6_bitCount_0f7a4 n x I = some (nI (v_ones x 32), I) := by
  have hX : x.toBitVec.toNat < 2 ^ 32 := x.toBitVec.isLt
  have e : x = nI (x.toBitVec.toNat % 256 + 256 * (x.toBitVec.toNat / 256 % 256 + 256 * (x.toBitVec.toNat / 256 / 256 % 256 + 256 * (x.toBitVec.toNat / 256 / 256 / 256 % 256)))) := by
    have : x.toBitVec.toNat % 256 + 256 * (x.toBitVec.toNat / 256 % 256 + 256 * (x.toBitVec.toNat / 256 / 256 % 256 + 256 * (x.toBitVec.toNat / 256 / 256 / 256 % 256))) = x.toBitVec.toNat := by omega
    rw [this]
    exact b_ext (fun i _ => by rw [b_nI hX, b_tb])
  rw [ones_4]
  conv => lhs; rw [e]
  exact bc_N (by omega) (by omega) (by omega) (by omega)
theorem ones_15 (x : Int32) : v_ones (x &&& nI 32767) 32 = v_ones x 15 := by
  unfold v_ones
  show v_sum (fun i => if bt (x &&& nI 32767) i = true then 1 else 0) (15 + 17) = _
  rw [v_sum_add]
  have h1 : v_sum (fun i => if bt (x &&& nI 32767) (15 + i) = true then 1 else 0) 17 = 0 := by
    rw [v_sum_cg (g := fun _ => 0) 17 (fun i _ => by
      show (if bt (x &&& nI 32767) (15 + i) = true then 1 else 0) = 0
      rw [b_and, b_7fff, decide_eq_false (by omega : ¬ 15 + i < 15), Bool.and_false]
      rfl)]
    rfl
  rw [h1, Nat.add_zero]
  exact v_sum_cg 15 (fun i hi => by
    show (if bt (x &&& nI 32767) i = true then 1 else 0) = (if bt x i = true then 1 else 0)
    rw [b_and, b_7fff, decide_eq_true hi, Bool.and_true])
