section BEGIN
variable {n y : Nat} {Hd : Nat → Int} {F0 : (Nat → Nat) → wS} {I0 J0 I J : am_I}
/-- the node's side at rest, with the stores -/
def RT (y : Nat) (Hd : Nat → Int) (F0 : (Nat → Nat) → wS) (I0 J0 : am_I) : Prop :=
  (∀ b, b < 640 → J0 0 68 (640 * y + b) = nI 0 ∨ J0 0 68 (640 * y + b) = nI 1) ∧ (∀ b, b < 640 → I0 y 43 b = J0 0 68 (640 * y + b))
  ∧ (∀ b, b < 640 → J0 0 68 (640 * y + b) = nI 1 → ∀ i, i < 16 → I0 y 42 (b * 16 + i) = J0 0 67 (16 * (640 * y + b) + i))
  ∧ I0 y 41 2 = nI (cnt (I0 y 43) 640) ∧ (∀ k, k < 10240 → I0 0 1 k = J0 0 64 k) ∧ (∀ b, b < 640 → J0 0 120 b = nI 0) ∧ (∀ b, b < 640 → I0 0 19 b = nI 0) ∧ I0 0 15 5 = nI 0 ∧ I0 0 15 7 = nI 0
  ∧ ∀ L, L y = 2 → x_wf (F0 L) (fun _ => False) ∧ (∀ b r, w_of (F0 L) b r → 0 < Hd r → ∀ i, i < 16 → t_v y J0 b i = F0 L b i) ∧ (∀ b, tH y J0 b → ∃ r, w_of (F0 L) b r ∧ 0 < Hd r ∧ t_in (F0 L) (tH y J0) b r)
def B0 (y : Nat) (J0 : am_I) : wS := fun b i => if i = 16 then J0 0 68 (640 * y + b) else J0 0 67 (16 * (640 * y + b) + i)
theorem B0_16 {b : Nat} : B0 y J0 b 16 = J0 0 68 (640 * y + b) := if_pos rfl
theorem B0_i {b i : Nat} (h : i < 16) : B0 y J0 b i = J0 0 67 (16 * (640 * y + b) + i) := if_neg (by omega)
theorem tn_init (h : RT y Hd F0 I0 J0) (hI : ∀ i j, ¬ (i = 0 ∧ j = 15) → I i j = I0 i j) (h5 : I 0 15 5 = I0 0 15 5) (h7 : I 0 15 7 = I0 0 15 7) (h8 : I 0 15 8 = nI y) (h9 : I 0 15 9 = nI 0) (hJ : ∀ i j, ¬ (i = 0 ∧ j = 60) → J i j = J0 i j) (hJ2 : ∀ k, ¬ ((51 ≤ k ∧ k ≤ 56) ∨ k = 61) → J 0 60 k = J0 0 60 k) (j51 : J 0 60 51 = nI y) (j52 : J 0 60 52 = (-1 : Int32)) (j54 : J 0 60 54 = nI 0) (j56 : J 0 60 56 = nI 0) (j61 : J 0 60 61 = nI 0) : TN0 y Hd F0 I0 J0 I J := by
  obtain ⟨r1, r2, r3, r4, r5, r6, r7, r8, r9, r10⟩ := h
  have hv : ∀ b i, t_v y J b i = t_v y J0 b i := fun b i => by unfold t_v; rw [hJ 0 68 (by omega), hJ 0 67 (by omega), hJ 0 64 (by omega)]
  have ht : ∀ b, tH y J b ↔ tH y J0 b := fun b => by unfold tH; rw [hJ 0 68 (by omega)]
  refine ⟨⟨B0 y J0, [], [], ⟨j51, j56, List.nodup_nil, fun b q => absurd q List.not_mem_nil, fun b hb => ?_, fun k b q => by simp at q, fun b hb _ => ⟨?_, fun _ i hi => ?_⟩, fun b hb => by rw [hJ 0 68 (by omega)]; exact r1 b hb⟩, ⟨h8, ⟨h5.trans r8, Nat.zero_le _⟩, List.nodup_nil, fun b q => absurd q List.not_mem_nil, fun b hb => ?_, fun k b q => by simp at q, fun b hb _ => ⟨?_, fun hB i hi => ?_⟩, fun b hb => ?_, ?_⟩, fun b q => absurd q List.not_mem_nil, fun b q => absurd q List.not_mem_nil, fun k hk => ?_, fun b hb => ?_, fun b i hb hi _ => ?_, fun b q => absurd q List.not_mem_nil, fun b q => absurd q List.not_mem_nil, fun b q => absurd q List.not_mem_nil, ⟨j61, h7.trans r9, fun k b q => by simp at q, List.nodup_nil, Nat.zero_le _⟩, fun i j _ q => hI i j (by omega), ⟨fun i j q => hJ i j (by omega), hJ2, fun k _ => by rw [hJ 0 68 (by omega)], fun k _ => by rw [hJ 0 67 (by omega)]⟩, fun L hL => ?_, fun b hb => ⟨fun q => ⟨?_, fun i hi => ?_⟩, fun q q2 => ?_, ?_⟩⟩, h9, j52, j54⟩
  · rw [hJ 0 120 (by omega), r6 b hb, if_neg List.not_mem_nil]
  · rw [hJ 0 68 (by omega), B0_16]
  · rw [hJ 0 67 (by omega), B0_i hi]
  · rw [hI 0 19 (by omega), r7 b hb, if_neg List.not_mem_nil]
  · rw [hI y 43 (by omega), B0_16]
    exact r2 b hb
  · rw [hI y 42 (by omega), B0_i hi]
    rw [B0_16] at hB
    exact r3 b hb hB i hi
  · rw [hI y 43 (by omega), r2 b hb]
    exact r1 b hb
  · rw [hI y 41 (by omega), hI y 43 (by omega)]
    exact r4
  · rw [hI 0 1 (by omega), hJ 0 64 (by omega)]
    exact r5 k hk
  · rw [hI y 43 (by omega), hJ 0 68 (by omega)]
    exact r2 b hb
  · rw [hv]
    unfold c_v t_v
    rw [hI y 43 (by omega), hI y 42 (by omega), hI 0 1 (by omega), r2 b hb]
    by_cases e : J0 0 68 (640 * y + b) = nI 1
    · rw [if_pos e, if_pos e]
      exact r3 b hb e i hi
    · rw [if_neg e, if_neg e, r5 _ (by omega), Nat.mul_comm]
  · obtain ⟨w1, w2, w3⟩ := r10 L hL
    refine ti_cg (ti_init (hs := tH y J0) w1 w2 w3) (fun b i _ _ => hv b i) (fun b => ⟨fun q => absurd q List.not_mem_nil, fun q => q.elim⟩) (fun _ => Iff.rfl) ht (fun b => ?_)
    unfold tH
    rw [B0_16]
  · rw [B0_16]; exact q
  · rw [B0_i hi]
  · rw [B0_16] at q2
    exact absurd q2 q
  · rw [B0_16]
    exact r1 b hb
end BEGIN
