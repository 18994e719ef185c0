def bt (x : Int32) (i : Nat) : Bool := x.toBitVec.getLsbD i
theorem b_ext {x y : Int32} (h : ∀ i, i < 32 → bt x i = bt y i) : x = y := Int32.toBitVec_inj.mp (BitVec.eq_of_getLsbD_eq (fun i hi => h i hi))
theorem b_or (x y : Int32) (i : Nat) : bt (x ||| y) i = (bt x i || bt y i) := by unfold bt; rw [Int32.toBitVec_or, BitVec.getLsbD_or]
theorem b_and (x y : Int32) (i : Nat) : bt (x &&& y) i = (bt x i && bt y i) := by unfold bt; rw [Int32.toBitVec_and, BitVec.getLsbD_and]
theorem b_xor (x y : Int32) (i : Nat) : bt (x ^^^ y) i = (bt x i ^^ bt y i) := by unfold bt; rw [Int32.toBitVec_xor, BitVec.getLsbD_xor]
theorem b_big {x : Int32} {i : Nat} (h : 32 ≤ i) : bt x i = false := BitVec.getLsbD_of_ge _ _ h
theorem b_255 (i : Nat) : bt 255 i = decide (i < 8) := by
  rcases Nat.lt_or_ge i 32 with h | h
  · exact (by decide +kernel : ∀ i, i < 32 → bt 255 i = decide (i < 8)) i h
  · rw [b_big h, decide_eq_false (by omega)]
theorem b_65535 (i : Nat) : bt 65535 i = decide (i < 16) := by
  rcases Nat.lt_or_ge i 32 with h | h
  · exact (by decide +kernel : ∀ i, i < 32 → bt 65535 i = decide (i < 16)) i h
  · rw [b_big h, decide_eq_false (by omega)]
theorem b_m1 : ∀ i, i < 32 → bt (-1) i = true := by decide +kernel
theorem b_0 (i : Nat) : bt 0 i = false := BitVec.getLsbD_zero
theorem s_l : ∀ n, n < 32 → ((nI n &&& 31).toBitVec.smod 32).toNat = n := by decide +kernel
theorem s_u : ∀ n, n < 32 → (((nI n).toUInt32 &&& Int32.toUInt32 31).toBitVec % 32).toNat = n := by decide +kernel
theorem b_shl (n : Nat) (hn : n < 32) (x : Int32) {i : Nat} (hi : i < 32) : bt (x <<< (nI n &&& 31)) i = (decide (n ≤ i) && bt x (i - n)) := by
  unfold bt
  rw [Int32.toBitVec_shiftLeft]
  show (x.toBitVec <<< ((nI n &&& 31).toBitVec.smod 32).toNat).getLsbD i = _
  rw [s_l n hn, BitVec.getLsbD_shiftLeft]
  rcases Nat.lt_or_ge i n with h | h
  · simp [h, Nat.not_le.mpr h]
  · simp [hi, h, Nat.not_lt.mpr h]
theorem b_ushr (n : Nat) (hn : n < 32) (x : Int32) (i : Nat) : bt ((x.toUInt32 >>> ((nI n).toUInt32 &&& Int32.toUInt32 31)).toInt32) i = bt x (n + i) := by
  show (x.toUInt32 >>> ((nI n).toUInt32 &&& Int32.toUInt32 31)).toBitVec.getLsbD i = x.toUInt32.toBitVec.getLsbD (n + i)
  rw [UInt32.toBitVec_shiftRight]
  show (x.toUInt32.toBitVec >>> (((nI n).toUInt32 &&& Int32.toUInt32 31).toBitVec % 32).toNat).getLsbD i = _
  rw [s_u n hn, BitVec.getLsbD_ushiftRight]
theorem b_sshr (n : Nat) (hn : n < 32) (x : Int32) {i : Nat} (hi : i < 32) : bt (x >>> (nI n &&& 31)) i = if n + i < 32 then bt x (n + i) else bt x 31 := by
  unfold bt
  rw [Int32.toBitVec_shiftRight]
  show (x.toBitVec.sshiftRight ((nI n &&& 31).toBitVec.smod 32).toNat).getLsbD i = _
  rw [s_l n hn, BitVec.getLsbD_sshiftRight, BitVec.msb_eq_getLsbD_last]
  simp [hi]

/-- a store: blocks of words -/
abbrev wS : Type := Nat → Nat → Int32
def w_up (s : wS) (b i : Nat) (v : Int32) : wS := fun b' i' => if b' = b ∧ i' = i then v else s b' i'
def w_cl (s : wS) (b : Nat) : wS := fun b' i' => if b' = b then nI 0 else s b' i'
theorem w_up_at (s : wS) (b i : Nat) (v : Int32) : w_up s b i v b i = v := if_pos ⟨rfl, rfl⟩
theorem w_up_b (s : wS) {b b' : Nat} (i i' : Nat) (v : Int32) (h : ¬ b' = b) : w_up s b i v b' i' = s b' i' := if_neg (fun h2 => h h2.1)
theorem w_up_i (s : wS) (b : Nat) {i i' : Nat} (v : Int32) (h : ¬ i' = i) : w_up s b i v b i' = s b i' := if_neg (fun h2 => h h2.2)
def w_ib (k : Nat) : Nat := 129 + 64 * (k / 16) + k % 16
def w_mp (g : Nat) : Nat := 128 + 64 * g
def w_D (b : Nat) : Prop := 128 ≤ b ∧ b < 640 ∧ 16 < (b - 128) % 64
/-- no block, or a data block -/
def w_pt (x : Int32) : Prop := x = nI 0 ∨ ∃ b : Nat, x = nI b ∧ w_D b
/-- a place of an inode: 0 .. 7, by the index 8 .. 23, the index itself 24 -/
def w_pl (s : wS) (k p : Nat) : Int32 := if p < 8 then s (w_ib k) (3 + p) else if p = 24 then s (w_ib k) 11 else if s (w_ib k) 11 = nI 0 then nI 0 else s (s (w_ib k) 11).toNatClampNeg (p - 8)
def w_own (s : wS) (k p b : Nat) : Prop := k < 128 ∧ p < 25 ∧ w_D b ∧ w_pl s k p = nI b
def w_bit (s : wS) (b : Nat) : Bool := bt (s (w_mp ((b - 128) / 64)) (1 + ((b - 128) % 64 - 17) / 32)) (((b - 128) % 64 - 17) % 32)
def w_A (s : wS) : Prop := ∀ k p, k < 128 → p < 25 → w_pt (w_pl s k p)
def w_B (s : wS) : Prop := ∀ k p k' p' b, w_own s k p b → w_own s k' p' b → k = k' ∧ p = p'
def w_C (s : wS) (gone : Nat → Prop) : Prop := ∀ k p b, w_own s k p b → w_bit s b = true ∨ gone b
def w_K (s : wS) (k : Nat) : Prop := (s (w_ib k) 0 = nI 0 ∨ s (w_ib k) 0 = nI 1 ∨ s (w_ib k) 0 = nI 2) ∧ ∃ z : Nat, s (w_ib k) 2 = nI z ∧ z ≤ 384 ∧ (s (w_ib k) 0 = nI 2 → z % 2 = 0)
def w_E (s : wS) : Prop := ∀ k p b, w_own s k p b → p < 24 → s (w_ib k) 0 = nI 2 → ∀ i, i < 8 → ∃ t : Nat, t < 128 ∧ s b (2 * i + 1) = nI t
/-- a well-formed store; gone: blocks given back whose places still stand -/
def w_wf (s : wS) (gone : Nat → Prop) : Prop := w_A s ∧ w_B s ∧ w_C s gone ∧ (∀ k, k < 128 → w_K s k) ∧ w_E s
theorem w_ib_D {k : Nat} (h : k < 128) : ¬ w_D (w_ib k) := by
  unfold w_D w_ib
  omega
theorem w_mp_D (g : Nat) : ¬ w_D (w_mp g) := by
  unfold w_D w_mp
  omega
theorem w_ib_mp {k g : Nat} (h : k < 128) : ¬ w_ib k = w_mp g := by
  unfold w_ib w_mp
  omega
theorem w_ib_inj {k k' : Nat} (h : k < 128) (h' : k' < 128) (e : w_ib k = w_ib k') : k = k' := by
  unfold w_ib at e
  omega
theorem w_D0 {b : Nat} (h : w_D b) : ¬ nI b = nI 0 := by
  intro e
  have := congrArg Int32.toInt e
  unfold w_D at h
  rw [nI_toInt (by omega), nI_toInt (by omega)] at this
  omega
theorem w_nI {a b : Nat} (ha : a < 2 ^ 31) (hb : b < 2 ^ 31) (e : nI a = nI b) : a = b := (nI_eq ha hb).mp e
theorem w_Dlt {b : Nat} (h : w_D b) : b < 2 ^ 31 := by unfold w_D at h; omega
/-- the index of an inode that has one is a data block of its own -/
theorem w_ix {s : wS} {k : Nat} (hA : w_A s) (hk : k < 128) (h : ¬ s (w_ib k) 11 = nI 0) : ∃ b : Nat, s (w_ib k) 11 = nI b ∧ w_D b ∧ w_own s k 24 b := by
  rcases hA k 24 hk (by decide) with h1 | ⟨b, h1, h2⟩
  · exact absurd h1 h
  · exact ⟨b, h1, h2, hk, by decide, h2, h1⟩
/-- two stores that agree on inodes and on their indexes have the same places -/
theorem w_pl_cg {s s' : wS} {k p : Nat} (h1 : ∀ i, s' (w_ib k) i = s (w_ib k) i) (h2 : ∀ i, ¬ s (w_ib k) 11 = nI 0 → s' (s (w_ib k) 11).toNatClampNeg i = s (s (w_ib k) 11).toNatClampNeg i) : w_pl s' k p = w_pl s k p := by
  unfold w_pl
  rw [h1, h1]
  by_cases h8 : p < 8
  · rw [if_pos h8, if_pos h8]
  · rw [if_neg h8, if_neg h8]
    by_cases h24 : p = 24
    · rw [if_pos h24, if_pos h24]
    · rw [if_neg h24, if_neg h24]
      by_cases h0 : s (w_ib k) 11 = nI 0
      · rw [if_pos h0, if_pos h0]
      · rw [if_neg h0, if_neg h0, h2 _ h0]
/-- a store that differs only in blocks that are neither inodes nor owned -/
theorem w_keep {s s' : wS} {g g' : Nat → Prop} (h : w_wf s g) (hi : ∀ k i, k < 128 → s' (w_ib k) i = s (w_ib k) i) (ho : ∀ k p b i, w_own s k p b → s' b i = s b i) (hc : ∀ k p b, w_own s k p b → w_bit s b = true ∨ g b → w_bit s' b = true ∨ g' b) : w_wf s' g' := by
  obtain ⟨hA, hB, hC, hK, hE⟩ := h
  have hp : ∀ k p, k < 128 → w_pl s' k p = w_pl s k p := fun k p hk => w_pl_cg (fun i => hi k i hk) (fun i h0 => by
    obtain ⟨b, e1, e2, e3⟩ := w_ix hA hk h0
    rw [e1, nI_clamp (w_Dlt e2)]
    exact ho k 24 b i e3)
  have hw : ∀ k p b, w_own s' k p b ↔ w_own s k p b := fun k p b => by
    constructor
    · rintro ⟨a1, a2, a3, a4⟩
      exact ⟨a1, a2, a3, by rw [← hp k p a1]; exact a4⟩
    · rintro ⟨a1, a2, a3, a4⟩
      exact ⟨a1, a2, a3, by rw [hp k p a1]; exact a4⟩
  refine ⟨fun k p hk hpp => by rw [hp k p hk]; exact hA k p hk hpp, fun k p k' p' b h1 h2 => hB k p k' p' b ((hw _ _ _).mp h1) ((hw _ _ _).mp h2), fun k p b h1 => hc k p b ((hw _ _ _).mp h1) (hC k p b ((hw _ _ _).mp h1)), fun k hk => ?_, fun k p b h1 h2 h3 i h4 => ?_⟩
  · unfold w_K
    rw [hi k 0 hk, hi k 2 hk]
    exact hK k hk
  · have h1' := (hw _ _ _).mp h1
    rw [hi k 0 h1'.1] at h3
    rw [ho k p b _ h1']
    exact hE k p b h1' h2 h3 i h4
