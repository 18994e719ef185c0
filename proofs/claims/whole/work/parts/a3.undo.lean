theorem lp_undo {n y b s : Nat} {k2 : Int32 → am_I → Option am_I} (hy : y < 4) (hb : b < 640) (hs6 : s < 640) : ∀ (m i fu : Nat) (J : am_I), i + m = 16 → m < fu → J 0 60 51 = nI y → ∃ J' : am_I, bX11_undo_47 n k2 fu (nI s) (nI b) (nI i) J = k2 (nI (s + 1)) J' ∧ (∀ i' j', ¬ (i' = 0 ∧ j' = 67) → J' i' j' = J i' j') ∧ ∀ k, J' 0 67 k = if 16 * (640 * y + b) + i ≤ k ∧ k < 16 * (640 * y + b) + 16 then J 0 121 (16 * s + (k - (16 * (640 * y + b)))) else J 0 67 k := by
  intro m
  induction m with
  | zero =>
    intro i fu J hi hf hJ
    obtain ⟨fu, rfl⟩ : ∃ f, fu = f + 1 := ⟨fu - 1, by omega⟩
    obtain rfl : i = 16 := by omega
    refine ⟨J, ?_, fun _ _ _ => rfl, fun k => (if_neg (by omega)).symm⟩
    simp (disch := omega) only [bX11_undo_47, z_le, nI_add, pk_mul, Nat.le_refl, if_true]
  | succ m ih =>
    intro i fu J hi hf hJ
    obtain ⟨fu, rfl⟩ : ∃ f, fu = f + 1 := ⟨fu - 1, by omega⟩
    obtain ⟨J', e1, e2, e3⟩ := ih (i + 1) fu (am_up J 0 67 (16 * (640 * y + b) + i) (J 0 121 (16 * s + i))) (by omega) (by omega) (by rw [z_upj _ _ _ _ _ _ _ (by omega)]; exact hJ)
    refine ⟨J', ?_, fun i' j' h => ?_, fun k => ?_⟩
    · have hlt : ¬ 16 ≤ i := by omega
      have g0 : 16 * (640 * y + b) + i < 40960 := by omega
      have g1 : 16 * s + i < 10240 := by omega
      simp (disch := omega) only [bX11_undo_47, hJ, z_le, nI_add, pk_mul, z_clamp, z_inb, am_lt, hlt, if_false, g0, g1, decide_true, z_gdt]
      exact e1
    · rw [e2 i' j' h, z_upj _ _ _ _ _ _ _ h]
    · rw [e3 k, z_upj _ _ _ _ _ _ _ (by omega : ¬ (0 = 0 ∧ (121 : Nat) = 67)), z_upk]
      by_cases e : k = 16 * (640 * y + b) + i
      · subst e
        rw [if_neg (by omega), if_pos rfl, if_pos (by omega), show 16 * (640 * y + b) + i - (16 * (640 * y + b)) = i from by omega]
      · rw [if_neg e]
        by_cases e4 : 16 * (640 * y + b) + (i + 1) ≤ k ∧ k < 16 * (640 * y + b) + 16
        · rw [if_pos e4, if_pos (by omega)]
        · rw [if_neg e4, if_neg (by omega)]
section UNDO
variable {n y : Nat}
/-- the reference, while a try is being undone: k are back -/
def ur (y : Nat) (B : wS) (sv : List Nat) (k : Nat) (J : am_I) : Prop :=
  J 0 60 51 = nI y ∧ J 0 60 56 = nI sv.length
  ∧ (∀ b, b < 640 → J 0 120 b = if b ∈ sv.drop k then nI 1 else nI 0)
  ∧ (∀ k b, sv[k]? = some b → J 0 118 k = nI b ∧ J 0 119 k = B b 16 ∧ (B b 16 = nI 1 → ∀ i, i < 16 → J 0 121 (16 * k + i) = B b i))
  ∧ (∀ b, b < 640 → b ∉ sv.drop k → J 0 68 (640 * y + b) = B b 16 ∧ (B b 16 = nI 1 → ∀ i, i < 16 → J 0 67 (16 * (640 * y + b) + i) = B b i))
theorem ru_lp {B : wS} {sv : List Nat} (hy : y < 4) (hnd : sv.Nodup) (hlt : ∀ b, b ∈ sv → b < 640) (hl : sv.length < 640) (hB : ∀ b, b ∈ sv → B b 16 = nI 0 ∨ B b 16 = nI 1) : ∀ (m k fu : Nat) (J : am_I), k + m = sv.length → m < fu → ur y B sv k J → ∃ J', bX11_undo_2 n fu (nI k) J = some J' ∧ (∀ b, b < 640 → J' 0 120 b = nI 0) ∧ (∀ b, b < 640 → J' 0 68 (640 * y + b) = B b 16 ∧ (B b 16 = nI 1 → ∀ i, i < 16 → J' 0 67 (16 * (640 * y + b) + i) = B b i)) ∧ J' 0 60 56 = nI 0 ∧ J' 0 60 61 = nI 0 ∧ (∀ k, ¬ (k = 56 ∨ k = 61) → J' 0 60 k = J 0 60 k) ∧ fJ y J J' := by
  intro m
  induction m with
  | zero =>
    intro k fu J hk hf h
    obtain ⟨a1, a2, a3, a4, a5⟩ := h
    obtain ⟨fu, rfl⟩ : ∃ f, fu = f + 1 := ⟨fu - 1, by omega⟩
    obtain rfl : k = sv.length := by omega
    have hd : sv.drop sv.length = [] := List.drop_length
    refine ⟨am_up (am_up J 0 60 56 (nI 0)) 0 60 61 (nI 0), ?_, fun b hb => ?_, fun b hb => ?_, ?_, ?_, fun k hk => ?_, fun i j q => ?_, fun k q => ?_, fun k q => ?_, fun k q => ?_⟩
    · conv => lhs; unfold bX11_undo_2
      simp (disch := omega) only [a2, z_le, Nat.le_refl, if_true, am_lt]
    · simp (disch := omega) only [z_upj]
      rw [a3 b hb, hd, if_neg List.not_mem_nil]
    · simp (disch := omega) only [z_upj]
      exact a5 b hb (by rw [hd]; exact List.not_mem_nil)
    · rw [z_upk, if_neg (by decide), z_upk, if_pos rfl]
    · rw [z_upk, if_pos rfl]
    · rw [z_upk, if_neg (by omega), z_upk, if_neg (by omega)]
    · rw [z_upj _ _ _ _ _ _ _ (by omega), z_upj _ _ _ _ _ _ _ (by omega)]
    · rw [z_upk, if_neg (by omega), z_upk, if_neg (by omega)]
    · rw [z_upj _ _ _ _ _ _ _ (by omega), z_upj _ _ _ _ _ _ _ (by omega)]
    · rw [z_upj _ _ _ _ _ _ _ (by omega), z_upj _ _ _ _ _ _ _ (by omega)]
  | succ m ih =>
    intro k fu J hk hf h
    obtain ⟨a1, a2, a3, a4, a5⟩ := h
    obtain ⟨fu, rfl⟩ : ∃ f, fu = f + 1 := ⟨fu - 1, by omega⟩
    have hkl : k < sv.length := by omega
    have hg : sv[k]? = some sv[k] := List.getElem?_eq_getElem hkl
    obtain ⟨b, hbe⟩ : ∃ b, b = sv[k] := ⟨_, rfl⟩
    rw [← hbe] at hg
    have hbm : b ∈ sv := List.mem_of_getElem? hg
    have hb := hlt b hbm
    obtain ⟨c1, c2, c3⟩ := a4 k b hg
    have hdr : sv.drop k = b :: sv.drop (k + 1) := by rw [hbe]; exact List.drop_eq_getElem_cons hkl
    have hnb : b ∉ sv.drop (k + 1) := by
      have : (sv.drop k).Nodup := List.Pairwise.sublist (List.drop_sublist k sv) hnd
      rw [hdr] at this
      exact (List.nodup_cons.mp this).1
    have g1 : 640 * y + b < 2560 := by omega
    have h01 : am_01 (B b 16) = true := decide_eq_true (hB b hbm)
    obtain ⟨J1, e1, e2, e3⟩ := lp_undo (n := n) (k2 := bX11_undo_2 n fu) (s := k) hy hb (by omega) 16 0 am_fu (am_up (am_up J 0 120 b (nI 0)) 0 68 (640 * y + b) (B b 16)) (by omega) (fu_lt (by omega)) (by simp (disch := omega) only [z_upj]; exact a1)
    have hle : ¬ sv.length ≤ k := by omega
    have hk6 : k < 640 := by omega
    have w68 : ∀ q, J1 0 68 q = if q = 640 * y + b then B b 16 else J 0 68 q := fun q => by
      rw [e2 0 68 (by decide), z_upk]
      simp (disch := omega) only [z_upj]
    have w120 : ∀ q, J1 0 120 q = if q = b then nI 0 else J 0 120 q := fun q => by
      rw [e2 0 120 (by decide)]
      simp (disch := omega) only [z_upj, z_upk]
    have w67 : ∀ q, J1 0 67 q = if 16 * (640 * y + b) + 0 ≤ q ∧ q < 16 * (640 * y + b) + 16 then J 0 121 (16 * k + (q - (16 * (640 * y + b)))) else J 0 67 q := fun q => by
      rw [e3]
      simp (disch := omega) only [z_upj]
    have fr : ∀ i j, ¬ (i = 0 ∧ (j = 67 ∨ j = 68 ∨ j = 120)) → J1 i j = J i j := fun i j hij => by
      rw [e2 i j (by omega), z_upj _ _ _ _ _ _ _ (by omega), z_upj _ _ _ _ _ _ _ (by omega)]
    obtain ⟨J2, r1, r2, r3, r4, r5, r6, r7⟩ := ih (k + 1) fu J1 (by omega) (by omega) ⟨by rw [fr 0 60 (by omega)]; exact a1, by rw [fr 0 60 (by omega)]; exact a2, fun c hc => by
        rw [w120]
        by_cases e : c = b
        · rw [if_pos e, if_neg (by rw [e]; exact hnb)]
        · rw [if_neg e, a3 c hc, hdr]
          by_cases q : c ∈ sv.drop (k + 1)
          · rw [if_pos q, if_pos (List.mem_cons_of_mem _ q)]
          · rw [if_neg q, if_neg (fun h2 => (List.mem_cons.mp h2).elim e q)], fun k' c hc => by
        rw [fr 0 118 (by omega), fr 0 119 (by omega), fr 0 121 (by omega)]
        exact a4 k' c hc, fun c hc hnc => by
        by_cases e : c = b
        · subst e
          refine ⟨by rw [w68, if_pos rfl], fun hB1 i hi => ?_⟩
          rw [w67, if_pos (by omega), show 16 * (640 * y + c) + i - 16 * (640 * y + c) = i from by omega]
          exact c3 hB1 i hi
        · have hnc2 : c ∉ sv.drop k := by rw [hdr]; exact fun h2 => (List.mem_cons.mp h2).elim e hnc
          refine ⟨by rw [w68, if_neg (by omega)]; exact (a5 c hc hnc2).1, fun hB1 i hi => ?_⟩
          rw [w67, if_neg (by omega)]
          exact (a5 c hc hnc2).2 hB1 i hi⟩
    have f01 : fJ y J J1 := ⟨fun i j q => fr i j (by omega), fun q _ => by rw [fr 0 60 (by omega)], fun q hq => by rw [w68, if_neg (by omega)], fun q hq => by rw [w67, if_neg (by omega)]⟩
    refine ⟨J2, ?_, r2, r3, r4, r5, fun q hq => by rw [r6 q hq, fr 0 60 (by omega)], f01.tr r7⟩
    rw [← r1, ← e1]
    conv => lhs; unfold bX11_undo_2
    simp (disch := omega) only [a2, z_le, hle, if_false, z_inb, z_clamp, hk6, decide_true, z_gdt, c1, hb, am_lt, z_upj, a1, pk_mul, nI_add, g1, c2, h01]
end UNDO
