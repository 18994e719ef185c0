theorem z_upfj (I : am_I) (i j i' j' : Nat) (f : Nat → Int32) (h : ¬ (i' = i ∧ j' = j)) : am_upf I i j f i' j' = I i' j' := by
  unfold am_upf
  rw [if_neg h]
theorem z_upfs (I : am_I) (i j : Nat) (f : Nat → Int32) : am_upf I i j f i j = f := by
  unfold am_upf
  rw [if_pos ⟨rfl, rfl⟩]
theorem z_cpb {a b c n0 n1 : Nat} (h0 : a + c ≤ n0) (h1 : b + c ≤ n1) (ha : a < 2 ^ 31) (hb : b < 2 ^ 31) (hc : c < 2 ^ 31) : am_cpb (nI a) (nI b) (nI c) n0 n1 = true := by
  refine decide_eq_true ⟨nI_pos ha, nI_pos hb, nI_pos hc, ?_, ?_⟩
  · rw [nI_clamp ha, nI_clamp hc]; exact h0
  · rw [nI_clamp hb, nI_clamp hc]; exact h1
section UNDO
variable {n y : Nat}
/-- the flags go -/
theorem cf_lp {cv : List Nat} (hnd : cv.Nodup) (hlt : ∀ b, b ∈ cv → b < 640) (hl : cv.length ≤ 32) : ∀ (m k fu : Nat) (I : am_I), k + m = cv.length → m < fu → I 0 15 5 = nI cv.length → (∀ k b, cv[k]? = some b → I 0 16 k = nI b) → (∀ b, b < 640 → I 0 19 b = if b ∈ cv.drop k then nI 1 else nI 0) → ∃ I', bX9_forget_2 n fu (nI k) I = some I' ∧ (∀ b, b < 640 → I' 0 19 b = nI 0) ∧ I' 0 15 5 = nI 0 ∧ I' 0 15 7 = nI 0 ∧ (∀ k, ¬ (k = 5 ∨ k = 7) → I' 0 15 k = I 0 15 k) ∧ ∀ i j, ¬ (i = 0 ∧ (j = 15 ∨ j = 19)) → I' i j = I i j := by
  intro m
  induction m with
  | zero =>
    intro k fu I hk hf h5 h16 h19
    obtain ⟨fu, rfl⟩ : ∃ f, fu = f + 1 := ⟨fu - 1, by omega⟩
    obtain rfl : k = cv.length := by omega
    refine ⟨am_up (am_up I 0 15 5 (nI 0)) 0 15 7 (nI 0), ?_, fun b hb => ?_, ?_, ?_, fun k hk => ?_, fun i j q => ?_⟩
    · conv => lhs; unfold bX9_forget_2
      simp (disch := omega) only [h5, z_le, Nat.le_refl, if_true, am_lt]
    · simp (disch := omega) only [z_upj]
      rw [h19 b hb, List.drop_length, if_neg List.not_mem_nil]
    · rw [z_upk, if_neg (by decide), z_upk, if_pos rfl]
    · rw [z_upk, if_pos rfl]
    · rw [z_upk, if_neg (by omega), z_upk, if_neg (by omega)]
    · rw [z_upj _ _ _ _ _ _ _ (by omega), z_upj _ _ _ _ _ _ _ (by omega)]
  | succ m ih =>
    intro k fu I hk hf h5 h16 h19
    obtain ⟨fu, rfl⟩ : ∃ f, fu = f + 1 := ⟨fu - 1, by omega⟩
    have hkl : k < cv.length := by omega
    have hg : cv[k]? = some cv[k] := List.getElem?_eq_getElem hkl
    obtain ⟨b, hbe⟩ : ∃ b, b = cv[k] := ⟨_, rfl⟩
    rw [← hbe] at hg
    have hb := hlt b (List.mem_of_getElem? hg)
    have hdr : cv.drop k = b :: cv.drop (k + 1) := by rw [hbe]; exact List.drop_eq_getElem_cons hkl
    have hle : ¬ cv.length ≤ k := by omega
    have hk3 : k < 32 := by omega
    have h16k := h16 k b hg
    obtain ⟨I', r1, r2, r3, r4, r5, r6⟩ := ih (k + 1) fu (am_up I 0 19 b (nI 0)) (by omega) (by omega) (by simp (disch := omega) only [z_upj]; exact h5) (fun k' c hc => by simp (disch := omega) only [z_upj]; exact h16 k' c hc) (fun c hc => by
      rw [z_upk]
      by_cases q : c ∈ cv.drop (k + 1)
      · by_cases e : c = b
        · exfalso
          have hn : (cv.drop k).Nodup := List.Pairwise.sublist (List.drop_sublist k cv) hnd
          rw [hdr] at hn
          exact (List.nodup_cons.mp hn).1 (e ▸ q)
        · rw [if_neg e, h19 c hc, hdr, if_pos (List.mem_cons_of_mem _ q), if_pos q]
      · rw [if_neg q]
        by_cases e : c = b
        · rw [if_pos e]
        · rw [if_neg e, h19 c hc, hdr, if_neg (fun h2 => (List.mem_cons.mp h2).elim e q)])
    refine ⟨I', ?_, r2, r3, r4, fun k hk => by rw [r5 k hk]; simp (disch := omega) only [z_upj], fun i j q => by rw [r6 i j q, z_upj _ _ _ _ _ _ _ (by omega)]⟩
    rw [← r1]
    conv => lhs; unfold bX9_forget_2
    simp (disch := omega) only [h5, z_le, hle, if_false, z_inb, z_clamp, hk3, decide_true, z_gdt, h16k, hb, am_lt, nI_add]
/-- the class, while a try is being undone: those from k on are back -/
def uc (y : Nat) (B : wS) (cv : List Nat) (k : Nat) (I : am_I) : Prop :=
  I 0 15 8 = nI y ∧ I 0 15 5 = nI cv.length
  ∧ (∀ b, b < 640 → I 0 19 b = if b ∈ cv then nI 1 else nI 0)
  ∧ (∀ k b, cv[k]? = some b → I 0 16 k = nI b ∧ I 0 17 k = B b 16 ∧ (B b 16 = nI 1 → ∀ i, i < 16 → I 0 18 (k * 16 + i) = B b i))
  ∧ (∀ b, b < 640 → b ∉ cv.take k → I y 43 b = B b 16 ∧ (B b 16 = nI 1 → ∀ i, i < 16 → I y 42 (b * 16 + i) = B b i))
  ∧ (∀ b, b ∈ cv.take k → I y 43 b = nI 1) ∧ I y 41 2 = nI (cnt (I y 43) 640)
theorem cu_lp {B : wS} {cv : List Nat} (hy : y < 4) (hnd : cv.Nodup) (hlt : ∀ b, b ∈ cv → b < 640) (hl : cv.length ≤ 32) (hB : ∀ b, b ∈ cv → B b 16 = nI 0 ∨ B b 16 = nI 1) : ∀ (k fu : Nat) (I : am_I), k ≤ cv.length → k < fu → uc y B cv k I → ∃ I', bX9_undo_15 n fu y (nI k + (-1 : Int32)) I = some I' ∧ (∀ b, b < 640 → I' 0 19 b = nI 0) ∧ (∀ b, b < 640 → I' y 43 b = B b 16 ∧ (B b 16 = nI 1 → ∀ i, i < 16 → I' y 42 (b * 16 + i) = B b i)) ∧ I' y 41 2 = nI (cnt (I' y 43) 640) ∧ I' 0 15 5 = nI 0 ∧ I' 0 15 7 = nI 0 ∧ (∀ k, ¬ (k = 5 ∨ k = 7) → I' 0 15 k = I 0 15 k) ∧ fI y I I' := by
  intro k
  induction k with
  | zero =>
    intro fu I hk hf h
    obtain ⟨a1, a2, a3, a4, a5, a6, a7⟩ := h
    obtain ⟨fu, rfl⟩ : ∃ f, fu = f + 1 := ⟨fu - 1, by omega⟩
    obtain ⟨I', r1, r2, r3, r4, r5, r6⟩ := cf_lp (n := n) hnd hlt hl cv.length 0 am_fu I (by omega) (fu_lt (by omega)) a2 (fun k b q => (a4 k b q).1) (by rw [List.drop_zero]; exact a3)
    have hneg : nI 0 + (-1 : Int32) < 0 := by decide
    refine ⟨I', ?_, r2, fun b hb => ?_, ?_, r3, r4, r5, fun i j q1 q2 => r6 i j (by omega)⟩
    · rw [bX9_undo_15]
      show (if nI 0 + (-1 : Int32) < 0 then _ else _) = _
      rw [if_pos hneg, gX9_forget, bX9_forget_0, r1, Option.bind_some]
    · rw [r6 y 43 (by omega), r6 y 42 (by omega)]
      exact a5 b hb (by rw [List.take_zero]; exact List.not_mem_nil)
    · rw [r6 y 41 (by omega), r6 y 43 (by omega)]
      exact a7
  | succ k ih =>
    intro fu I hk hf h
    obtain ⟨a1, a2, a3, a4, a5, a6, a7⟩ := h
    obtain ⟨fu, rfl⟩ : ∃ f, fu = f + 1 := ⟨fu - 1, by omega⟩
    have hkl : k < cv.length := by omega
    have hg : cv[k]? = some cv[k] := List.getElem?_eq_getElem hkl
    obtain ⟨b, hbe⟩ : ∃ b, b = cv[k] := ⟨_, rfl⟩
    rw [← hbe] at hg
    have hbm : b ∈ cv := List.mem_of_getElem? hg
    have hb := hlt b hbm
    obtain ⟨c1, c2, c3⟩ := a4 k b hg
    have htk : cv.take (k + 1) = cv.take k ++ [b] := by rw [List.take_succ, hg]; rfl
    have hmem : ∀ c, c ∈ cv.take (k + 1) ↔ c ∈ cv.take k ∨ c = b := fun c => by rw [htk, List.mem_append, List.mem_singleton]
    have hnb : b ∉ cv.take k := fun q => by
      have hn : (cv.take (k + 1)).Nodup := List.Pairwise.sublist (List.take_sublist (k + 1) cv) hnd
      rw [htk, List.nodup_append] at hn
      exact hn.2.2 b q b (List.mem_singleton.mpr rfl) rfl
    have h43 : I y 43 b = nI 1 := a6 b ((hmem b).mpr (Or.inr rfl))
    have hl2 : nI (k + 1) + (-1 : Int32) = nI k := pk_m1 k
    have hk3 : k < 32 := by omega
    have h64 : ¬ 640 ≤ b := by omega
    have hnn : ¬ nI k < 0 := nI_pos (by omega)
    have hcp := z_cpb (a := k * 16) (b := b * 16) (c := 16) (n0 := 512) (n1 := 10240) (by omega) (by omega) (by omega) (by omega) (by omega)
    -- the words come back
    have w42 : ∀ c i, i < 16 → va_cpy (I 0 18) (I y 42) (k * 16) (b * 16) 16 (c * 16 + i) = if c = b then I 0 18 (k * 16 + i) else I y 42 (c * 16 + i) := fun c i hi => by
      by_cases e : c = b
      · subst e
        rw [if_pos rfl, pk_cpy_in (by omega) (by omega), show c * 16 + i - c * 16 = i from by omega]
      · rw [if_neg e, pk_cpy_out (by omega)]
    have go : ∀ I2 : am_I, (∀ i j, ¬ (i = y ∧ 41 ≤ j ∧ j ≤ 43) → I2 i j = I i j) → (∀ q, I2 y 42 q = va_cpy (I 0 18) (I y 42) (k * 16) (b * 16) 16 q) → (∀ c, I2 y 43 c = if c = b then B b 16 else I y 43 c) → I2 y 41 2 = nI (cnt (I2 y 43) 640) → uc y B cv k I2 := fun I2 fr q42 q43 q41 => by
      refine ⟨by rw [fr 0 15 (by omega)]; exact a1, by rw [fr 0 15 (by omega)]; exact a2, fun c hc => by rw [fr 0 19 (by omega)]; exact a3 c hc, fun k' c hc => by rw [fr 0 16 (by omega), fr 0 17 (by omega), fr 0 18 (by omega)]; exact a4 k' c hc, fun c hc hnc => ?_, fun c hc => ?_, q41⟩
      · by_cases e : c = b
        · subst e
          refine ⟨by rw [q43, if_pos rfl], fun hB1 i hi => ?_⟩
          rw [q42, w42 c i hi, if_pos rfl]
          exact c3 hB1 i hi
        · have hnc2 : c ∉ cv.take (k + 1) := fun q => ((hmem c).mp q).elim hnc e
          refine ⟨by rw [q43, if_neg e]; exact (a5 c hc hnc2).1, fun hB1 i hi => ?_⟩
          rw [q42, w42 c i hi, if_neg e]
          exact (a5 c hc hnc2).2 hB1 i hi
      · rw [q43, if_neg (fun e : c = b => hnb (e ▸ hc))]
        exact a6 c ((hmem c).mpr (Or.inl hc))
    have hI1 : ∀ i j, ¬ (i = y ∧ j = 42) → am_upf I y 42 (va_cpy (I 0 18) (I y 42) (k * 16) (b * 16) 16) i j = I i j := fun i j q => z_upfj _ _ _ _ _ _ q
    rcases hB b hbm with h0 | h0
    · have q43 : ∀ c, am_up (am_up (am_upf I y 42 (va_cpy (I 0 18) (I y 42) (k * 16) (b * 16) 16)) y 43 b (nI 0)) y 41 2 (I y 41 2 - nI 1) y 43 c = if c = b then B b 16 else I y 43 c := fun c => by
        rw [z_upj _ _ _ _ _ _ _ (by omega), z_upk, hI1 y 43 (by omega), h0]
      have hcu := cnt_up (f := am_up (am_up (am_upf I y 42 (va_cpy (I 0 18) (I y 42) (k * 16) (b * 16) 16)) y 43 b (nI 0)) y 41 2 (I y 41 2 - nI 1) y 43) (g := I y 43) (b := b) 640 hb (fun c _ hne => by rw [q43, if_neg hne]) (by rw [q43, if_pos rfl, h0]; exact z_n01) h43
      have hcl := cnt_le (I y 43) 640
      have hv : ∀ K : Nat → Int32, cnt (I y 43) 640 = cnt K 640 + 1 → I y 41 2 - nI 1 = nI (cnt K 640) := fun K h => by rw [a7, h, pk_sub (by omega), Nat.add_sub_cancel]
      obtain ⟨I', r1, r2, r3, r4, r5, r6, r7, r8⟩ := ih fu (am_up (am_up (am_upf I y 42 (va_cpy (I 0 18) (I y 42) (k * 16) (b * 16) 16)) y 43 b (nI 0)) y 41 2 (I y 41 2 - nI 1)) (by omega) (by omega) (go _ (fun i j q => by rw [z_upj _ _ _ _ _ _ _ (by omega), z_upj _ _ _ _ _ _ _ (by omega), hI1 i j (by omega)]) (fun q => by rw [z_upj _ _ _ _ _ _ _ (by omega), z_upj _ _ _ _ _ _ _ (by omega), z_upfs]) q43 (by rw [z_upk, if_pos rfl]; exact hv _ hcu))
      refine ⟨I', ?_, r2, r3, r4, r5, r6, fun k hk => by rw [r7 k hk, z_upj _ _ _ _ _ _ _ (by omega), z_upj _ _ _ _ _ _ _ (by omega), hI1 0 15 (by omega)], fun i j p1 p2 => by rw [r8 i j p1 p2, z_upj _ _ _ _ _ _ _ (by omega), z_upj _ _ _ _ _ _ _ (by omega), hI1 i j (by omega)]⟩
      rw [← r1, hl2]
      conv => lhs; unfold bX9_undo_15
      simp (disch := omega) only [hnn, if_false, z_inb, z_clamp, hk3, decide_true, z_gdt, c1, pk_mul, hcp, am_lt, hI1 0 17, c2, h0, z_00, if_true, gX1_drop, bX1_drop_0, bX1_drop_37, z_ni0, z_le, h64, hb, hI1 y 43, h43, z_10, Option.bind_some, bX9_undo_61, z_upj, hI1 y 41]
    · obtain ⟨I', r1, r2, r3, r4, r5, r6, r7, r8⟩ := ih fu (am_upf I y 42 (va_cpy (I 0 18) (I y 42) (k * 16) (b * 16) 16)) (by omega) (by omega) (go _ (fun i j q => hI1 i j (by omega)) (fun q => by rw [z_upfs]) (fun c => by
        rw [hI1 y 43 (by omega)]
        by_cases e : c = b
        · rw [if_pos e, e, h0]; exact h43
        · rw [if_neg e]) (by rw [hI1 y 41 (by omega), hI1 y 43 (by omega)]; exact a7))
      refine ⟨I', ?_, r2, r3, r4, r5, r6, fun k hk => by rw [r7 k hk, hI1 0 15 (by omega)], fun i j p1 p2 => by rw [r8 i j p1 p2, hI1 i j (by omega)]⟩
      rw [← r1, hl2]
      conv => lhs; unfold bX9_undo_15
      simp (disch := omega) only [hnn, if_false, z_inb, z_clamp, hk3, decide_true, z_gdt, c1, pk_mul, hcp, am_lt, hI1 0 17, c2, h0, z_10, bX9_undo_61]
end UNDO
