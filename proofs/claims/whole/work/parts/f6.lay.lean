
/-- the requests that stand, in the order of the nodes -/
def arow (A : Nat → Nat → Nat) : Nat → Nat → List (Nat × Nat)
  | 0, _ => []
  | i + 1, r => arow A i r ++ (if A i r = 0 then [] else [(i, A i r)])
def hv (H : Nat → Nat → Nat) (i s y : Nat) : Nat := if y < i then H y s else 0
theorem arow_len {A : Nat → Nat → Nat} {r : Nat} : ∀ i, (arow A i r).length ≤ i
  | 0 => Nat.le_refl _
  | i + 1 => by
    have := arow_len (A := A) (r := r) i
    show (arow A i r ++ _).length ≤ i + 1
    rw [List.length_append]
    by_cases c : A i r = 0
    · rw [if_pos c, List.length_nil]; omega
    · rw [if_neg c, List.length_cons, List.length_nil]; omega
theorem arow_mem {A : Nat → Nat → Nat} {r x m : Nat} : ∀ i, (x, m) ∈ arow A i r ↔ x < i ∧ m = A x r ∧ ¬ m = 0
  | 0 => ⟨fun q => by simp [arow] at q, fun q => absurd q.1 (by omega)⟩
  | i + 1 => by
    show (x, m) ∈ arow A i r ++ _ ↔ _
    rw [List.mem_append, arow_mem i]
    by_cases c : A i r = 0
    · rw [if_pos c]
      constructor
      · rintro (q | q)
        · exact ⟨by omega, q.2⟩
        · simp at q
      · intro q
        by_cases e : x = i
        · rw [e] at q; omega
        · exact Or.inl ⟨by omega, q.2⟩
    · rw [if_neg c, List.mem_singleton]
      constructor
      · rintro (q | q)
        · exact ⟨by omega, q.2⟩
        · cases q; exact ⟨by omega, rfl, c⟩
      · intro q
        by_cases e : x = i
        · refine Or.inr ?_
          rw [q.2.1, e]
        · exact Or.inl ⟨by omega, q.2⟩
theorem arow_cnt {A : Nat → Nat → Nat} {r x : Nat} : ∀ i, rwc (arow A i r) x = if x < i then nz1 (A x r) else 0
  | 0 => by rw [if_neg (by omega)]; rfl
  | i + 1 => by
    have ih := arow_cnt (A := A) (r := r) (x := x) i
    show rwc (arow A i r ++ _) x = _
    by_cases c : A i r = 0
    · rw [if_pos c, List.append_nil, ih]
      by_cases e : x = i
      · rw [if_neg (by omega), if_pos (by omega), e, c]; rfl
      · by_cases d : x < i
        · rw [if_pos d, if_pos (by omega)]
        · rw [if_neg d, if_neg (by omega)]
    · rw [if_neg c, rwc_app, ih]
      by_cases e : x = i
      · rw [if_neg (by omega), if_pos e.symm, if_pos (by omega), e, nz1_p c]
      · rw [if_neg (show ¬ i = x from fun q => e q.symm), Nat.add_zero]
        by_cases d : x < i
        · rw [if_pos d, if_pos (by omega)]
        · rw [if_neg d, if_neg (by omega)]
/-- one resource's master, the class -/
def msI1 (I : am_I) (row : List (Nat × Nat)) (gv : Nat → Nat) (r : Nat) : Prop := I 0 8 r = nI row.length ∧ (∀ i e, row[i]? = some e → I 0 6 (4 * r + i) = nI e.1 ∧ I 0 7 (4 * r + i) = nI e.2) ∧ ∀ y, y < 4 → I 0 4 (4 * r + y) = nI (gv y) ∧ I 0 5 (4 * r + y) = (-1 : Int32)
/-- .. the reference -/
def msJ1 (J : am_I) (row : List (Nat × Nat)) (gv : Nat → Nat) (r : Nat) : Prop := J 0 96 r = nI row.length ∧ (∀ i e, row[i]? = some e → J 0 97 (16 * r + i) = nI e.1 ∧ J 0 98 (16 * r + i) = nI e.2) ∧ ∀ y, y < 4 → J 0 94 (4 * r + y) = nI (gv y) ∧ J 0 95 (4 * r + y) = (-1 : Int32)
section LAY
variable {n : Nat} {H A : Nat → Nat → Nat}
theorem hv_0 {s : Nat} : hv H 0 s = fun _ => 0 := funext fun y => if_neg (by omega)
theorem lc_10 : ∀ (q r fu : Nat) (I : am_I), r + q = 136 → q < fu → (∀ s, s < r → msI1 I [] (fun _ => 0) s) → ∃ I', bX10_layLocksAnew_10 n fu (nI r) I = bX10_layLocksAnew_33 n am_fu (nI 0) I' ∧ (∀ s, s < 136 → msI1 I' [] (fun _ => 0) s) ∧ ∀ a b, ¬ (a = 0 ∧ (b = 4 ∨ b = 5 ∨ b = 8)) → I' a b = I a b := by
  intro q
  induction q with
  | zero =>
    intro r fu I hr hf hlo
    obtain ⟨fu, rfl⟩ : ∃ f, fu = f + 1 := ⟨fu - 1, by omega⟩
    refine ⟨I, ?_, fun s hs => hlo s (by omega), fun _ _ _ => rfl⟩
    conv => lhs; unfold bX10_layLocksAnew_10
    dsimp only
    rw [if_pos (by rw [z_le (by omega) (by omega)]; omega)]
  | succ q ih =>
    intro r fu I hr hf hlo
    obtain ⟨fu, rfl⟩ : ∃ f, fu = f + 1 := ⟨fu - 1, by omega⟩
    obtain ⟨I1, d1, d2, d3, d4, d5⟩ := c_wipe (n := n) (I := I) (r := r) (by omega)
    obtain ⟨I2, k1, k2, k3⟩ := ih (r + 1) fu I1 (by omega) (by omega) (fun s hs => by
      by_cases e : s = r
      · subst e
        refine ⟨by rw [d4, if_pos rfl]; rfl, fun i e he => by simp at he, fun y hy => ?_⟩
        rw [d2, if_pos (by omega), d3, if_pos (by omega)]
        exact ⟨rfl, rfl⟩
      · obtain ⟨w1, w2, w3⟩ := hlo s (by omega)
        refine ⟨by rw [d4, if_neg e]; exact w1, fun i e he => by simp at he, fun y hy => ?_⟩
        rw [d2, if_neg (by omega), d3, if_neg (by omega)]
        exact w3 y hy)
    refine ⟨I2, ?_, k2, fun a b q => (k3 a b q).trans (d5 a b q)⟩
    conv => lhs; unfold bX10_layLocksAnew_10
    dsimp only
    rw [if_neg (by rw [z_le (by omega) (by omega)]; omega), d1, Option.bind_some, nI_add]
    exact k1
theorem lc_62 {i : Nat} {k33 : Int32 → am_I → Option am_I} (hi : i < 4) : ∀ (q r fu : Nat) (I : am_I), r + q = 136 → q < fu → (∀ s, s < 136 → msI1 I (arow A (if s < r then i + 1 else i) s) (hv H (if s < r then i + 1 else i) s) s) → (∀ s, s < 136 → (H i s ≤ 2 ∧ I i 49 s = nI (H i s)) ∧ A i s ≤ 2 ∧ I i 50 s = nI (A i s)) → ∃ I', bX10_layLocksAnew_62 n k33 fu (nI i) i (nI r) I = k33 (nI (i + 1)) I' ∧ (∀ s, s < 136 → msI1 I' (arow A (i + 1) s) (hv H (i + 1) s) s) ∧ ∀ a b, ¬ (a = 0 ∧ (b = 4 ∨ b = 6 ∨ b = 7 ∨ b = 8)) → I' a b = I a b := by
  intro q
  induction q with
  | zero =>
    intro r fu I hr hf hM hN
    obtain ⟨fu, rfl⟩ : ∃ f, fu = f + 1 := ⟨fu - 1, by omega⟩
    refine ⟨I, ?_, fun s hs => ?_, fun _ _ _ => rfl⟩
    · conv => lhs; unfold bX10_layLocksAnew_62
      dsimp only
      rw [if_pos (by rw [z_le (by omega) (by omega)]; omega), nI_add]
    · have := hM s hs
      rw [if_pos (by omega)] at this
      exact this
  | succ q ih =>
    intro r fu I hr hf hM hN
    obtain ⟨fu, rfl⟩ : ∃ f, fu = f + 1 := ⟨fu - 1, by omega⟩
    have hr6 : r < 136 := by omega
    obtain ⟨⟨h1, h2⟩, h3, h4⟩ := hN r hr6
    have hMr := hM r hr6
    rw [if_neg (by omega)] at hMr
    obtain ⟨w1, w2, w3⟩ := hMr
    have hal := arow_len (A := A) (r := r) i
    have g6 : am_inb (nI r) 136 = true := by rw [z_inb (by omega)]; exact decide_eq_true hr6
    have g4 : am_inb (nI (4 * r + i)) 544 = true := by rw [z_inb (by omega)]; exact decide_eq_true (by omega)
    have v0 : I 0 4 (4 * r + i) = nI 0 := by rw [(w3 i hi).1]; unfold hv; rw [if_neg (by omega)]
    let I1 : am_I := am_up I 0 4 (4 * r + i) (nI (H i r))
    have hgive : gX6_give n (nI r) (nI i) (nI (H i r)) I = some I1 := by
      rw [gX6_give, bX6_give_0, pk_mul, Nat.mul_comm r 4, nI_add, am_gd_of g4, am_gd_of g4, am_lt, z_clamp (by omega), v0]
      have : (if nI (H i r) ≤ nI 0 then nI 0 else nI (H i r)) = nI (H i r) := by
        by_cases c : H i r = 0
        · rw [c, if_pos (by decide)]
        · rw [if_neg (by rw [z_le (by omega) (by omega)]; omega)]
      rw [this]
    have o1 : ∀ a b, ¬ (a = 0 ∧ b = 4) → I1 a b = I a b := fun a b q => z_upj _ _ _ _ _ _ _ q
    have k1 : ∀ p, I1 0 4 p = if p = 4 * r + i then nI (H i r) else I 0 4 p := fun p => z_upk _ _ _ _ _ _
    have st : bX10_layLocksAnew_62 n k33 (fu + 1) (nI i) i (nI r) I = if nI (A i r) = 0 then bX10_layLocksAnew_62 n k33 fu (nI i) i (nI (r + 1)) I1 else (gX6_ask n (nI r) (nI i) (nI (A i r)) I1).bind (fun q5 => bX10_layLocksAnew_62 n k33 fu (nI i) i (nI (r + 1)) q5) := by
      conv => lhs; unfold bX10_layLocksAnew_62
      dsimp only
      rw [if_neg (by rw [z_le (by omega) (by omega)]; omega), am_gd_of g6, z_clamp (by omega), h2, hgive, Option.bind_some, am_gd_of g6, o1 i 50 (by omega), h4, am_gd_of g6]
      unfold bX10_layLocksAnew_108
      rw [nI_add]
    -- how it stands behind the step
    have key : ∀ I2 : am_I, (∀ a b, ¬ (a = 0 ∧ (b = 6 ∨ b = 7 ∨ b = 8)) → I2 a b = I1 a b) → (∀ p, ¬ p = r → I2 0 8 p = I 0 8 p) → I2 0 8 r = nI (arow A (i + 1) r).length → (∀ p, ¬ (4 * r ≤ p ∧ p < 4 * r + 4) → I2 0 6 p = I 0 6 p ∧ I2 0 7 p = I 0 7 p) → (∀ k e, (arow A (i + 1) r)[k]? = some e → I2 0 6 (4 * r + k) = nI e.1 ∧ I2 0 7 (4 * r + k) = nI e.2) → ∀ s, s < 136 → msI1 I2 (arow A (if s < r + 1 then i + 1 else i) s) (hv H (if s < r + 1 then i + 1 else i) s) s := by
      intro I2 q1 q2 q3 q4 q5 s hs
      have e4 : ∀ p, I2 0 4 p = if p = 4 * r + i then nI (H i r) else I 0 4 p := fun p => by rw [q1 0 4 (by omega)]; exact k1 p
      have e5 : I2 0 5 = I 0 5 := by rw [q1 0 5 (by omega), o1 0 5 (by omega)]
      by_cases e : s = r
      · subst e
        rw [if_pos (by omega)]
        refine ⟨q3, q5, fun y hy => ?_⟩
        rw [e4, e5]
        refine ⟨?_, (w3 y hy).2⟩
        by_cases d : y = i
        · rw [if_pos (by omega), d]
          unfold hv
          rw [if_pos (by omega)]
        · rw [if_neg (by omega), (w3 y hy).1]
          unfold hv
          by_cases d2 : y < i
          · rw [if_pos d2, if_pos (by omega)]
          · rw [if_neg d2, if_neg (by omega)]
      · have hs' := hM s hs
        have ec : (if s < r + 1 then i + 1 else i) = (if s < r then i + 1 else i) := by
          by_cases d : s < r
          · rw [if_pos d, if_pos (by omega)]
          · rw [if_neg d, if_neg (by omega)]
        rw [ec]
        obtain ⟨u1, u2, u3⟩ := hs'
        have hl2 : (arow A (if s < r then i + 1 else i) s).length ≤ 4 := Nat.le_trans (arow_len _) (by split <;> omega)
        refine ⟨by rw [q2 s e]; exact u1, fun k e' he => ?_, fun y hy => ?_⟩
        · have hk := (List.getElem?_eq_some_iff.mp he).1
          rw [(q4 _ (by omega)).1, (q4 _ (by omega)).2]
          exact u2 k e' he
        · rw [e4, if_neg (by omega), e5]; exact u3 y hy
    by_cases c : A i r = 0
    · have er : arow A (i + 1) r = arow A i r := by
        show arow A i r ++ _ = _
        rw [if_pos c, List.append_nil]
      obtain ⟨I2, r1, r2, r3⟩ := ih (r + 1) fu I1 (by omega) (by omega) (key I1 (fun _ _ _ => rfl) (fun p _ => by rw [o1 0 8 (by omega)]) (by rw [o1 0 8 (by omega), er]; exact w1) (fun p _ => by rw [o1 0 6 (by omega), o1 0 7 (by omega)]; exact ⟨rfl, rfl⟩) (fun k e he => by rw [er] at he; rw [o1 0 6 (by omega), o1 0 7 (by omega)]; exact w2 k e he)) (fun s hs => by rw [o1 i 49 (by omega), o1 i 50 (by omega)]; exact hN s hs)
      refine ⟨I2, ?_, r2, fun a b q => (r3 a b q).trans (o1 a b (by omega))⟩
      rw [st, if_pos (show nI (A i r) = 0 by rw [c]; rfl)]
      exact r1
    · have er : arow A (i + 1) r = arow A i r ++ [(i, A i r)] := by
        show arow A i r ++ _ = _
        rw [if_neg c]
      have g2 : 4 * r + (arow A i r).length < 544 := by omega
      have g3 : ¬ 4 ≤ (arow A i r).length := by omega
      have c2 : I1 0 8 r = nI (arow A i r).length := by rw [o1 0 8 (by omega)]; exact w1
      let I2 : am_I := am_up (am_up (am_up I1 0 6 (4 * r + (arow A i r).length) (nI i)) 0 7 (4 * r + (arow A i r).length) (nI (A i r))) 0 8 r (nI ((arow A i r).length + 1))
      have hask : gX6_ask n (nI r) (nI i) (nI (A i r)) I1 = some I2 := by
        simp (disch := omega) only [gX6_ask, bX6_ask_0, bX6_ask_48, z_inb, hr6, decide_true, z_gdt, z_clamp, c2, z_le, g3, if_false, pk_mul, Nat.mul_comm r 4, nI_add, g2, am_lt, z_upj]
        rfl
      have o2 : ∀ a b, ¬ (a = 0 ∧ (b = 6 ∨ b = 7 ∨ b = 8)) → I2 a b = I1 a b := fun a b q => (z_upj _ _ _ _ _ _ _ (by omega)).trans ((z_upj _ _ _ _ _ _ _ (by omega)).trans (z_upj _ _ _ _ _ _ _ (by omega)))
      have k8 : ∀ p, I2 0 8 p = if p = r then nI ((arow A i r).length + 1) else I 0 8 p := fun p => by
        show am_up (am_up (am_up I1 0 6 _ _) 0 7 _ _) 0 8 r _ 0 8 p = _
        rw [z_upk, z_upj _ _ _ _ _ _ _ (by omega), z_upj _ _ _ _ _ _ _ (by omega), o1 0 8 (by omega)]
      have k6 : ∀ p, I2 0 6 p = if p = 4 * r + (arow A i r).length then nI i else I 0 6 p := fun p => by
        show am_up (am_up (am_up I1 0 6 _ _) 0 7 _ _) 0 8 r _ 0 6 p = _
        rw [z_upj _ _ _ _ _ _ _ (by omega), z_upj _ _ _ _ _ _ _ (by omega), z_upk, o1 0 6 (by omega)]
      have k7 : ∀ p, I2 0 7 p = if p = 4 * r + (arow A i r).length then nI (A i r) else I 0 7 p := fun p => by
        show am_up (am_up (am_up I1 0 6 _ _) 0 7 _ _) 0 8 r _ 0 7 p = _
        rw [z_upj _ _ _ _ _ _ _ (by omega), z_upk, z_upj _ _ _ _ _ _ _ (by omega), o1 0 7 (by omega)]
      obtain ⟨I3, r1, r2, r3⟩ := ih (r + 1) fu I2 (by omega) (by omega) (key I2 o2 (fun p hp => by rw [k8, if_neg hp]) (by rw [k8, if_pos rfl, er, List.length_append]; rfl) (fun p hp => by rw [k6, if_neg (by omega), k7, if_neg (by omega)]; exact ⟨rfl, rfl⟩) (fun k e he => by
        rw [er] at he
        rw [k6, k7]
        rcases app_get he with ⟨q1, q2⟩ | ⟨q1, q2⟩
        · rw [if_neg (by omega), if_neg (by omega)]; exact w2 k e q2
        · rw [if_pos (by omega), if_pos (by omega), q2]; exact ⟨rfl, rfl⟩)) (fun s hs => by rw [o2 i 49 (by omega), o2 i 50 (by omega), o1 i 49 (by omega), o1 i 50 (by omega)]; exact hN s hs)
      refine ⟨I3, ?_, r2, fun a b q => (r3 a b q).trans ((o2 a b (by omega)).trans (o1 a b (by omega)))⟩
      rw [st, if_neg (show ¬ nI (A i r) = 0 from fun q => c ((z_eq (a := A i r) (b := 0) (by omega) (by omega)).mp q)), hask, Option.bind_some]
      exact r1
theorem lc_33 (hn : n ≤ 4) : ∀ (q i fu : Nat) (I : am_I), i + q = n → q < fu → (∀ s, s < 136 → msI1 I (arow A i s) (hv H i s) s) → (∀ z, z < n → ∀ s, s < 136 → (H z s ≤ 2 ∧ I z 49 s = nI (H z s)) ∧ A z s ≤ 2 ∧ I z 50 s = nI (A z s)) → ∃ I', bX10_layLocksAnew_33 n fu (nI i) I = bX10_layLocksAnew_122 n am_fu (nI 0) I' ∧ (∀ s, s < 136 → msI1 I' (arow A n s) (hv H n s) s) ∧ (∀ z, i ≤ z → z < n → ∀ s, s < 136 → I' z 51 s = (-1 : Int32)) ∧ (∀ z, z < i → I' z 51 = I z 51) ∧ ∀ a b, ¬ (a = 0 ∧ (b = 4 ∨ b = 6 ∨ b = 7 ∨ b = 8)) → ¬ b = 51 → I' a b = I a b := by
  intro q
  induction q with
  | zero =>
    intro i fu I hi hf hM hN
    obtain ⟨fu, rfl⟩ : ∃ f, fu = f + 1 := ⟨fu - 1, by omega⟩
    obtain rfl : i = n := by omega
    refine ⟨I, ?_, hM, fun z q1 q2 => absurd q1 (by omega), fun _ _ => rfl, fun _ _ _ _ => rfl⟩
    conv => lhs; unfold bX10_layLocksAnew_33
    dsimp only
    rw [if_pos (by rw [z_le (by omega) (by omega)]; omega)]
  | succ q ih =>
    intro i fu I hi hf hM hN
    obtain ⟨fu, rfl⟩ : ∃ f, fu = f + 1 := ⟨fu - 1, by omega⟩
    obtain ⟨f, hfu, hf1⟩ := fu_ex
    have o0 : ∀ a b, ¬ (a = i ∧ b = 51) → am_upf I i 51 (am_fil (I i 51) 136 (-1 : Int32)) a b = I a b := fun a b q => z_upfj _ _ _ _ _ _ q
    obtain ⟨I1, k1, k2, k3⟩ := lc_62 (n := n) (H := H) (A := A) (i := i) (k33 := bX10_layLocksAnew_33 n fu) (by omega) 136 0 am_fu (am_upf I i 51 (am_fil (I i 51) 136 (-1 : Int32))) (by omega) (by rw [hfu]; omega) (fun s hs => by
      rw [if_neg (by omega)]
      unfold msI1
      rw [o0 0 8 (by omega), o0 0 6 (by omega), o0 0 7 (by omega), o0 0 4 (by omega), o0 0 5 (by omega)]
      exact hM s hs) (fun s hs => by rw [o0 i 49 (by omega), o0 i 50 (by omega)]; exact hN i (by omega) s hs)
    obtain ⟨I2, w1, w2, w3, w4, w5⟩ := ih (i + 1) fu I1 (by omega) (by omega) k2 (fun z hz s hs => by rw [k3 z 49 (by omega), k3 z 50 (by omega), o0 z 49 (by omega), o0 z 50 (by omega)]; exact hN z hz s hs)
    refine ⟨I2, ?_, w2, fun z q1 q2 s hs => ?_, fun z hz => ?_, fun a b q1 q2 => by rw [w5 a b q1 q2, k3 a b q1, o0 a b (by omega)]⟩
    · conv => lhs; unfold bX10_layLocksAnew_33
      dsimp only
      rw [if_neg (by rw [z_le (by omega) (by omega)]; omega), am_gd_of (by rw [z_inb (by omega)]; exact decide_eq_true (by omega)), am_lt, z_clamp (by omega), k1]
      exact w1
    · by_cases e : z = i
      · rw [e, w4 i (by omega), k3 i 51 (by omega), z_upfs]
        exact if_pos hs
      · exact w3 z (by omega) q2 s hs
    · rw [w4 z (by omega), k3 z 51 (by omega), o0 z 51 (by omega)]
/-- the class lays the locks anew, up to the serving -/
theorem c_lay (hn : n ≤ 4) {I : am_I} (hN : ∀ z, z < n → ∀ s, s < 136 → (H z s ≤ 2 ∧ I z 49 s = nI (H z s)) ∧ A z s ≤ 2 ∧ I z 50 s = nI (A z s)) : ∃ I', gX10_layLocksAnew n I = bX10_layLocksAnew_122 n am_fu (nI 0) I' ∧ (∀ s, s < 136 → msI1 I' (arow A n s) (hv H n s) s) ∧ (∀ z, z < n → ∀ s, s < 136 → I' z 51 s = (-1 : Int32)) ∧ I' 0 9 3 = nI 0 ∧ (∀ k, ¬ k = 3 → I' 0 9 k = I 0 9 k) ∧ ∀ a b, ¬ (a = 0 ∧ (4 ≤ b ∧ b ≤ 9)) → ¬ b = 51 → I' a b = I a b := by
  obtain ⟨f, hf, hf1⟩ := fu_ex
  obtain ⟨I1, k1, k2, k3⟩ := lc_10 (n := n) 136 0 am_fu (am_up I 0 9 3 (nI 0)) (by omega) (by rw [hf]; omega) (fun s hs => absurd hs (by omega))
  obtain ⟨I2, w1, w2, w3, -, w5⟩ := lc_33 (n := n) (H := H) (A := A) hn n 0 am_fu I1 (by omega) (by rw [hf]; omega) (fun s hs => by rw [hv_0]; exact k2 s hs) (fun z hz s hs => by rw [k3 z 49 (by omega), k3 z 50 (by omega), z_upj _ _ _ _ _ _ _ (by omega), z_upj _ _ _ _ _ _ _ (by omega)]; exact hN z hz s hs)
  have i9 : I2 0 9 = am_up I 0 9 3 (nI 0) 0 9 := by rw [w5 0 9 (by omega) (by omega), k3 0 9 (by omega)]
  refine ⟨I2, ?_, w2, fun z hz => w3 z (Nat.zero_le _) hz, by rw [i9, z_upk, if_pos rfl], fun k q => by rw [i9, z_upk, if_neg q], fun a b q1 q2 => by rw [w5 a b (by omega) q2, k3 a b (by omega), z_upj _ _ _ _ _ _ _ (by omega)]⟩
  rw [gX10_layLocksAnew, bX10_layLocksAnew_0, am_lt, k1, w1]
end LAY
