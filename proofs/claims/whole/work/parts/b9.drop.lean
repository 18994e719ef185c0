
/-- a node's cache, both sides -/
def CHr (x : Nat) (I J : am_I) : Prop := (∀ b, b < 640 → I x 43 b = J 0 68 (640 * x + b) ∧ (J 0 68 (640 * x + b) = nI 0 ∨ J 0 68 (640 * x + b) = nI 1)) ∧ I x 41 2 = nI (cnt (I x 43) 640) ∧ (∀ b i, b < 640 → i < 16 → J 0 68 (640 * x + b) = nI 1 → I x 42 (16 * b + i) = J 0 67 (16 * (640 * x + b) + i)) ∧ J 0 68 (640 * x) = nI 0
/-- blocks that leave -/
def RM (x : Nat) (J J' : am_I) (D : Nat → Prop) : Prop := ∀ c, c < 640 → (D c → J' 0 68 (640 * x + c) = nI 0) ∧ (¬ D c → J' 0 68 (640 * x + c) = J 0 68 (640 * x + c))
def fDI (x : Nat) (I I' : am_I) : Prop := ∀ a b, ¬ (a = x ∧ (b = 41 ∨ b = 43)) → I' a b = I a b
def fDJ (x : Nat) (J J' : am_I) : Prop := (∀ a b, ¬ (a = 0 ∧ b = 68) → J' a b = J a b) ∧ ∀ k, ¬ (640 * x ≤ k ∧ k < 640 * x + 640) → J' 0 68 k = J 0 68 k
theorem RM.tr {x : Nat} {J J' J'' : am_I} {D D' : Nat → Prop} (h : RM x J J' D) (h' : RM x J' J'' D') : RM x J J'' (fun c => D c ∨ D' c) := fun c hc => ⟨fun q => by
  by_cases e : D' c
  · exact (h' c hc).1 e
  · rw [(h' c hc).2 e]
    exact (h c hc).1 (q.resolve_right e), fun q => by rw [(h' c hc).2 (fun e => q (Or.inr e)), (h c hc).2 (fun e => q (Or.inl e))]⟩
theorem RM.cg {x : Nat} {J J' : am_I} {D D' : Nat → Prop} (h : RM x J J' D) (e : ∀ c, c < 640 → (D' c ↔ D c)) : RM x J J' D' := fun c hc => ⟨fun q => (h c hc).1 ((e c hc).mp q), fun q => (h c hc).2 (fun q2 => q ((e c hc).mpr q2))⟩
theorem RM.cg0 {x : Nat} {J J' : am_I} {D D' : Nat → Prop} (h : RM x J J' D) (h0 : J 0 68 (640 * x) = nI 0) (h0' : J' 0 68 (640 * x) = nI 0) (e : ∀ c, c < 640 → ¬ c = 0 → (D' c ↔ D c)) : RM x J J' D' := fun c hc => by
  by_cases ec : c = 0
  · subst ec
    exact ⟨fun _ => h0', fun _ => h0'.trans h0.symm⟩
  · exact ⟨fun q => (h c hc).1 ((e c hc ec).mp q), fun q => (h c hc).2 (fun q2 => q ((e c hc ec).mpr q2))⟩
theorem RM.no {x : Nat} {J : am_I} : RM x J J (fun _ => False) := fun _ _ => ⟨fun q => q.elim, fun _ => rfl⟩
theorem fDI.tr {x : Nat} {I I' I'' : am_I} (h : fDI x I I') (h' : fDI x I' I'') : fDI x I I'' := fun a b q => (h' a b q).trans (h a b q)
theorem fDJ.tr {x : Nat} {I I' I'' : am_I} (h : fDJ x I I') (h' : fDJ x I' I'') : fDJ x I I'' := ⟨fun a b q => (h'.1 a b q).trans (h.1 a b q), fun k q => (h'.2 k q).trans (h.2 k q)⟩
theorem fDI.rf {x : Nat} {I : am_I} : fDI x I I := fun _ _ _ => rfl
theorem fDJ.rf {x : Nat} {I : am_I} : fDJ x I I := ⟨fun _ _ _ => rfl, fun _ _ => rfl⟩
section DROP
variable {n x : Nat} {I J : am_I}
theorem p_drop {b : Nat} (hx : x < 4) (hb : b < 640) (h : CHr x I J) : ∃ I' J', gX1_drop n x (nI b) I = some I' ∧ gX11_leave n (nI x) (nI b) J = some J' ∧ CHr x I' J' ∧ RM x J J' (fun c => c = b) ∧ fDI x I I' ∧ fDJ x J J' := by
  obtain ⟨h1, h2, h3, h4⟩ := h
  obtain ⟨a1, a2⟩ := h1 b hb
  have g1 : 640 * x + b < 2560 := by omega
  have b1 : ¬ 640 ≤ b := by omega
  -- the reference
  have hr : ∃ J', gX11_leave n (nI x) (nI b) J = some J' ∧ RM x J J' (fun c => c = b) ∧ fDJ x J J' ∧ J' 0 68 (640 * x) = nI 0 ∧ (∀ c, c < 640 → J' 0 68 (640 * x + c) = nI 1 → J 0 68 (640 * x + c) = nI 1) := by
    by_cases e : b = 0
    · subst e
      refine ⟨J, ?_, fun c hc => ⟨fun q => by rw [q]; exact h4, fun _ => rfl⟩, fDJ.rf, h4, fun _ _ q => q⟩
      have e2 : nI 0 < nI 1 := by decide
      simp only [gX11_leave, bX11_leave_0, bX11_leave_24, gX11_in, bX11_in_0, bX11_in_14, bX11_in_15, e2, if_true, z_01, z_gdt, Option.bind_some, z_00]
    · have e2 : ¬ b < 1 := by omega
      have e3 : ¬ 639 < b := by omega
      refine ⟨am_up J 0 68 (640 * x + b) (nI 0), ?_, fun c hc => ⟨fun q => by rw [z_upk, if_pos (by omega)], fun q => by rw [z_upk, if_neg (by omega)]⟩, ⟨fun a c q => z_upj _ _ _ _ _ _ _ (by omega), fun k q => by rw [z_upk, if_neg (by omega)]⟩, by rw [z_upk, if_neg (by omega)]; exact h4, fun c hc q => ?_⟩
      · simp (disch := omega) only [gX11_leave, bX11_leave_0, bX11_leave_24, gX11_in, bX11_in_0, bX11_in_14, bX11_in_15, z_lt, e2, e3, if_false, z_011, z_gdt, Option.bind_some, z_10, pk_mul, nI_add, z_inb, g1, decide_true, z_clamp, am_lt]
      · rw [z_upk] at q
        by_cases ec : 640 * x + c = 640 * x + b
        · rw [if_pos ec] at q
          exact absurd q (by decide)
        · rw [if_neg ec] at q
          exact q
  obtain ⟨J', r1, r2, r3, r4, r5⟩ := hr
  rcases a2 with a2 | a2
  · -- it isn't cached
    have hI : I x 43 b = 0 := a1.trans a2
    have hsame : ∀ c, c < 640 → J' 0 68 (640 * x + c) = J 0 68 (640 * x + c) := fun c hc => by
      by_cases e : c = b
      · rw [(r2 c hc).1 e, e, a2]
      · exact (r2 c hc).2 e
    refine ⟨I, J', ?_, r1, ⟨fun c hc => by rw [hsame c hc]; exact h1 c hc, h2, fun c i hc hi q => by rw [r3.1 0 67 (by omega)]; exact h3 c i hc hi (r5 c hc q), r4⟩, r2, fDI.rf, r3⟩
    simp (disch := omega) only [gX1_drop, bX1_drop_0, bX1_drop_37, z_ni0, z_le, b1, if_false, z_inb, hb, decide_true, z_gdt, z_clamp, hI, if_true]
  · have hI : I x 43 b = nI 1 := a1.trans a2
    have hI0 : ¬ I x 43 b = 0 := by rw [hI]; decide
    have hc := cnt_up (f := am_up I x 43 b (nI 0) x 43) (g := I x 43) (b := b) 640 hb (fun c _ hne => by rw [z_upk, if_neg hne]) (by rw [z_upk, if_pos rfl]; decide) hI
    refine ⟨am_up (am_up I x 43 b (nI 0)) x 41 2 (I x 41 2 - nI 1), J', ?_, r1, ⟨fun c hc => ?_, ?_, fun c i hc hi q => ?_, r4⟩, r2, fun a c q => ?_, r3⟩
    · simp (disch := omega) only [gX1_drop, bX1_drop_0, bX1_drop_37, z_ni0, z_le, b1, if_false, z_inb, hb, decide_true, z_gdt, z_clamp, hI0, am_lt, z_upj]
    · rw [z_upj _ _ _ _ _ _ _ (by omega), z_upk]
      by_cases e : c = b
      · rw [if_pos e, (r2 c hc).1 e]
        exact ⟨rfl, Or.inl rfl⟩
      · rw [if_neg e, (r2 c hc).2 e]
        exact h1 c hc
    · rw [z_upk, if_pos rfl, z_upj _ _ _ _ _ _ _ (by omega), h2, hc, pk_sub (by omega), Nat.add_sub_cancel]
    · rw [z_upj _ _ _ _ _ _ _ (by omega), z_upj _ _ _ _ _ _ _ (by omega), r3.1 0 67 (by omega)]
      exact h3 c i hc hi (r5 c hc q)
    · rw [z_upj _ _ _ _ _ _ _ (by omega), z_upj _ _ _ _ _ _ _ (by omega)]
/-- the direct places -/
theorem fg_57 {b : Nat} {v : Nat → Nat} (hx : x < 4) (hb : b < 640) (hv : ∀ i, i < 8 → v i < 640) : ∀ (q i fu fur : Nat) (I J : am_I), i + q = 8 → q < fu → q < fur → CHr x I J → (∀ i, i < 8 → I x 42 (16 * b + 3 + i) = nI (v i) ∧ J 0 67 (16 * (640 * x + b) + (3 + i)) = nI (v i)) → ∃ I' J' f', bX1_dropAll_2 n fu x (nI (16 * b + 3)) (nI 8) (nI i) I = some I' ∧ bX11_forget_57 n fur (nI x) (nI b) (nI (16 * (640 * x + b))) (nI (3 + i)) J = bX11_forget_57 n (f' + 1) (nI x) (nI b) (nI (16 * (640 * x + b))) (nI 11) J' ∧ CHr x I' J' ∧ RM x J J' (fun c => ∃ j, i ≤ j ∧ j < 8 ∧ v j = c) ∧ fDI x I I' ∧ fDJ x J J' := by
  intro q
  induction q with
  | zero =>
    intro i fu fur I J hi hf hfr h hw
    obtain ⟨fu, rfl⟩ : ∃ f, fu = f + 1 := ⟨fu - 1, by omega⟩
    obtain ⟨fur, rfl⟩ : ∃ f, fur = f + 1 := ⟨fur - 1, by omega⟩
    obtain rfl : i = 8 := by omega
    refine ⟨I, J, fur, ?_, rfl, h, RM.no.cg (fun c _ => ⟨fun ⟨j, j1, j2, _⟩ => by omega, fun q => q.elim⟩), fDI.rf, fDJ.rf⟩
    conv => lhs; unfold bX1_dropAll_2
    simp (disch := omega) only [z_le, Nat.le_refl, if_true]
  | succ q ih =>
    intro i fu fur I J hi hf hfr h hw
    obtain ⟨fu, rfl⟩ : ∃ f, fu = f + 1 := ⟨fu - 1, by omega⟩
    obtain ⟨fur, rfl⟩ : ∃ f, fur = f + 1 := ⟨fur - 1, by omega⟩
    obtain ⟨w1, w2⟩ := hw i (by omega)
    obtain ⟨I1, J1, e1, e2, e3, e4, e5, e6⟩ := p_drop (n := n) hx (hv i (by omega)) h
    obtain ⟨I', J', f', r1, r2, r3, r4, r5, r6⟩ := ih (i + 1) fu fur I1 J1 (by omega) (by omega) (by omega) e3 (fun j hj => by rw [e5 x 42 (by omega), e6.1 0 67 (by omega)]; exact hw j hj)
    have hle : ¬ 8 ≤ i := by omega
    have hle2 : ¬ 11 ≤ 3 + i := by omega
    have g1 : 16 * b + 3 + i < 10240 := by omega
    have g2 : 16 * (640 * x + b) + (3 + i) < 40960 := by omega
    refine ⟨I', J', f', ?_, ?_, r3, (e4.tr r4).cg (fun c _ => ?_), e5.tr r5, e6.tr r6⟩
    · rw [← r1]
      conv => lhs; unfold bX1_dropAll_2
      simp (disch := omega) only [z_le, hle, if_false, nI_add, z_inb, g1, decide_true, z_gdt, z_clamp, w1, e1, Option.bind_some]
    · rw [← r2]
      conv => lhs; unfold bX11_forget_57
      simp (disch := omega) only [z_le, hle2, if_false, nI_add, z_inb, g2, decide_true, z_gdt, z_clamp, w2, e2, Option.bind_some]
      rfl
    · constructor
      · rintro ⟨j, j1, j2, j3⟩
        by_cases e : j = i
        · left; rw [← j3, e]
        · exact Or.inr ⟨j, by omega, j2, j3⟩
      · rintro (e | ⟨j, j1, j2, j3⟩)
        · exact ⟨i, Nat.le_refl _, by omega, e.symm⟩
        · exact ⟨j, by omega, j2, j3⟩
/-- the index's places -/
theorem fg_128 {b ib : Nat} {v : Nat → Nat} (hx : x < 4) (hb : b < 640) (hv : ∀ i, i < 16 → v i < 640) : ∀ (q i fu fur : Nat) (I J : am_I), i + q = 16 → q < fu → q < fur → CHr x I J → (∀ i, i < 16 → I x 42 (16 * b + i) = nI (v i) ∧ J 0 67 (16 * (640 * x + b) + i) = nI (v i)) → ∃ I' J', bX1_dropAll_2 n fu x (nI (16 * b)) (nI 16) (nI i) I = some I' ∧ bX11_forget_128 n fur (nI x) (nI ib) (nI b) (nI i) J = bX11_forget_165 n (nI x) (nI ib) (nI b) J' ∧ CHr x I' J' ∧ RM x J J' (fun c => ∃ j, i ≤ j ∧ j < 16 ∧ v j = c) ∧ fDI x I I' ∧ fDJ x J J' := by
  intro q
  induction q with
  | zero =>
    intro i fu fur I J hi hf hfr h hw
    obtain ⟨fu, rfl⟩ : ∃ f, fu = f + 1 := ⟨fu - 1, by omega⟩
    obtain ⟨fur, rfl⟩ : ∃ f, fur = f + 1 := ⟨fur - 1, by omega⟩
    obtain rfl : i = 16 := by omega
    refine ⟨I, J, ?_, ?_, h, RM.no.cg (fun c _ => ⟨fun ⟨j, j1, j2, _⟩ => by omega, fun q => q.elim⟩), fDI.rf, fDJ.rf⟩
    · conv => lhs; unfold bX1_dropAll_2
      simp (disch := omega) only [z_le, Nat.le_refl, if_true]
    · conv => lhs; unfold bX11_forget_128
      simp (disch := omega) only [z_le, Nat.le_refl, if_true]
  | succ q ih =>
    intro i fu fur I J hi hf hfr h hw
    obtain ⟨fu, rfl⟩ : ∃ f, fu = f + 1 := ⟨fu - 1, by omega⟩
    obtain ⟨fur, rfl⟩ : ∃ f, fur = f + 1 := ⟨fur - 1, by omega⟩
    obtain ⟨w1, w2⟩ := hw i (by omega)
    obtain ⟨I1, J1, e1, e2, e3, e4, e5, e6⟩ := p_drop (n := n) hx (hv i (by omega)) h
    obtain ⟨I', J', r1, r2, r3, r4, r5, r6⟩ := ih (i + 1) fu fur I1 J1 (by omega) (by omega) (by omega) e3 (fun j hj => by rw [e5 x 42 (by omega), e6.1 0 67 (by omega)]; exact hw j hj)
    have hle : ¬ 16 ≤ i := by omega
    have g1 : 16 * b + i < 10240 := by omega
    have g2 : 16 * (640 * x + b) + i < 40960 := by omega
    refine ⟨I', J', ?_, ?_, r3, (e4.tr r4).cg (fun c _ => ?_), e5.tr r5, e6.tr r6⟩
    · rw [← r1]
      conv => lhs; unfold bX1_dropAll_2
      simp (disch := omega) only [z_le, hle, if_false, nI_add, z_inb, g1, decide_true, z_gdt, z_clamp, w1, e1, Option.bind_some]
    · rw [← r2]
      conv => lhs; unfold bX11_forget_128
      simp (disch := omega) only [z_le, hle, if_false, pk_mul, nI_add, z_inb, g2, decide_true, z_gdt, z_clamp, w2, e2, Option.bind_some]
    · constructor
      · rintro ⟨j, j1, j2, j3⟩
        by_cases e : j = i
        · left; rw [← j3, e]
        · exact Or.inr ⟨j, by omega, j2, j3⟩
      · rintro (e | ⟨j, j1, j2, j3⟩)
        · exact ⟨i, Nat.le_refl _, by omega, e.symm⟩
        · exact ⟨j, by omega, j2, j3⟩
/-- an inode's blocks as the cache has them -/
def fgt (x r : Nat) (J : am_I) (c : Nat) : Prop := J 0 68 (640 * x + w_ib r) = nI 1 ∧ (c = w_ib r ∨ (∃ j, j < 8 ∧ J 0 67 (16 * (640 * x + w_ib r) + (3 + j)) = nI c) ∨ J 0 67 (16 * (640 * x + w_ib r) + 11) = nI c ∨ ∃ b j, b < 640 ∧ J 0 67 (16 * (640 * x + w_ib r) + 11) = nI b ∧ ¬ b = 0 ∧ J 0 68 (640 * x + b) = nI 1 ∧ j < 16 ∧ J 0 67 (16 * (640 * x + b) + j) = nI c)
theorem p_forget {r : Nat} (hx : x < 4) (hr : r < 136) (h : CHr x I J)
    (hp : r < 128 → J 0 68 (640 * x + w_ib r) = nI 1 → (∀ j, j < 9 → w_pt (J 0 67 (16 * (640 * x + w_ib r) + (3 + j)))) ∧ ∀ b, w_D b → J 0 67 (16 * (640 * x + w_ib r) + 11) = nI b → J 0 68 (640 * x + b) = nI 1 → (∀ j, j < 16 → w_pt (J 0 67 (16 * (640 * x + b) + j))) ∧ ∀ j, j < 8 → ¬ J 0 67 (16 * (640 * x + w_ib r) + (3 + j)) = nI b) : ∃ I' J', gX1_dropResource n x (nI r) I = some I' ∧ gX11_forget n (nI x) (nI r) J = some J' ∧ CHr x I' J' ∧ RM x J J' (fun c => if r < 128 then fgt x r J c else c = w_mp (r - 128)) ∧ fDI x I I' ∧ fDJ x J J' := by
  by_cases hr2 : r < 128
  · have hib := w_ib_lt hr2
    have gI : w_ib r < 640 := hib
    have g1 : 640 * x + w_ib r < 2560 := by omega
    obtain ⟨h1, h2, h3, h4⟩ := h
    obtain ⟨a1, a2⟩ := h1 _ hib
    have hlt : nI r < nI 128 := by rw [z_lt (by omega) (by decide)]; exact hr2
    rcases a2 with a2 | a2
    · have hI : I x 43 (w_ib r) = 0 := a1.trans a2
      have hJ : J 0 68 (640 * x + w_ib r) = 0 := a2
      refine ⟨I, J, ?_, ?_, ⟨h1, h2, h3, h4⟩, RM.no.cg (fun c _ => ?_), fDI.rf, fDJ.rf⟩
      · simp (disch := omega) only [gX1_dropResource, bX1_dropResource_0, hlt, if_true, c_ib n r I hr2, Option.bind_some, z_inb, gI, decide_true, z_gdt, z_clamp, hI]
      · simp (disch := omega) only [gX11_forget, bX11_forget_0, hlt, if_true, a_ib n r J hr2, Option.bind_some, pk_mul, nI_add, z_inb, g1, decide_true, z_gdt, z_clamp, hJ]
      · rw [if_pos hr2]
        exact ⟨fun q => by have := q.1; rw [a2] at this; exact absurd this (by decide), fun q => q.elim⟩
    · obtain ⟨p1, p2⟩ := hp hr2 a2
      have hI : ¬ I x 43 (w_ib r) = 0 := by rw [a1, a2]; decide
      have hJ : ¬ J 0 68 (640 * x + w_ib r) = 0 := by rw [a2]; decide
      have hnum : ∀ y, w_pt y → ∃ k : Nat, k < 640 ∧ y = nI k := fun y hy => by
        rcases hy with e | ⟨k, e, hk⟩
        · exact ⟨0, by omega, e⟩
        · exact ⟨k, w_D_lt hk, e⟩
      obtain ⟨v, hv⟩ : ∃ v : Nat → Nat, ∀ j, j < 8 → v j < 640 ∧ J 0 67 (16 * (640 * x + w_ib r) + (3 + j)) = nI (v j) := by
        refine ⟨fun j => (J 0 67 (16 * (640 * x + w_ib r) + (3 + j))).toNatClampNeg, fun j hj => ?_⟩
        obtain ⟨k, k1, k2⟩ := hnum _ (p1 j (by omega))
        show (J 0 67 (16 * (640 * x + w_ib r) + (3 + j))).toNatClampNeg < 640 ∧ J 0 67 (16 * (640 * x + w_ib r) + (3 + j)) = nI (J 0 67 (16 * (640 * x + w_ib r) + (3 + j))).toNatClampNeg
        rw [k2, nI_clamp (by omega)]
        exact ⟨k1, rfl⟩
      have hw8 : ∀ i, i < 8 → I x 42 (16 * w_ib r + 3 + i) = nI (v i) ∧ J 0 67 (16 * (640 * x + w_ib r) + (3 + i)) = nI (v i) := fun i hi => ⟨by rw [Nat.add_assoc, h3 _ (3 + i) hib (by omega) a2]; exact (hv i hi).2, (hv i hi).2⟩
      obtain ⟨I1, J1, f1, e1, e2, e3, e4, e5, e6⟩ := fg_57 (n := n) hx hib (fun i hi => (hv i hi).1) 8 0 am_fu am_fu I J (by omega) (fu_lt (by omega)) (fu_lt (by omega)) ⟨h1, h2, h3, h4⟩ hw8
      have hda : gX1_dropAll n x (nI (w_ib r) * nI 16 + nI 3) (nI 8) I = some I1 := by
        rw [gX1_dropAll, bX1_dropAll_0, pk_mul, nI_add, Nat.mul_comm]
        exact e1
      have w11 : I1 x 42 (w_ib r * 16 + 11) = J 0 67 (16 * (640 * x + w_ib r) + 11) := by
        rw [e5 x 42 (by omega), Nat.mul_comm]
        exact h3 _ 11 hib (by omega) a2
      have j11 : J1 0 67 (16 * (640 * x + w_ib r) + 11) = J 0 67 (16 * (640 * x + w_ib r) + 11) := by rw [e6.1 0 67 (by omega)]
      have g2 : 16 * (640 * x + w_ib r) + 11 < 40960 := by omega
      have g3 : w_ib r * 16 + 11 < 10240 := by omega
      have cI : gX1_dropResource n x (nI r) I = (gX10_isData n (J 0 67 (16 * (640 * x + w_ib r) + 11)) I1).bind (fun q5 => if q5.1 = 0 then (bX1_dropResource_91 n x (nI (w_ib r)) q5.2) else (am_gd (am_inb (J 0 67 (16 * (640 * x + w_ib r) + 11)) 640) (if (q5.2 x 43 (J 0 67 (16 * (640 * x + w_ib r) + 11)).toNatClampNeg) = 0 then (bX1_dropResource_91 n x (nI (w_ib r)) q5.2) else ((gX1_dropAll n x ((J 0 67 (16 * (640 * x + w_ib r) + 11)) * (nI 16)) (nI 16) q5.2).bind (fun q7 => (gX1_drop n x (J 0 67 (16 * (640 * x + w_ib r) + 11)) q7).bind (fun q8 => bX1_dropResource_91 n x (nI (w_ib r)) q8)))))) := by
        rw [gX1_dropResource, bX1_dropResource_0, if_pos hlt, c_ib n r I hr2, Option.bind_some]
        show am_gd (am_inb (nI (w_ib r)) 640) (if I x 43 (nI (w_ib r)).toNatClampNeg = 0 then _ else _) = _
        rw [am_gd_of (by rw [z_inb (by omega)]; exact decide_eq_true hib), z_clamp (by omega), if_neg hI]
        show ((gX1_dropAll n x (nI (w_ib r) * nI 16 + nI 3) (nI 8) I).bind (fun q3 => am_gd (am_inb (nI (w_ib r) * nI 16 + nI 11) 10240) ((gX10_isData n (q3 x 42 (nI (w_ib r) * nI 16 + nI 11).toNatClampNeg) q3).bind _))) = _
        rw [hda, Option.bind_some, pk_mul, nI_add, am_gd_of (by rw [z_inb (by omega)]; exact decide_eq_true g3), z_clamp (by omega), w11]
      have cJ : gX11_forget n (nI x) (nI r) J = (gX11_in n (J 0 67 (16 * (640 * x + w_ib r) + 11)) (nI 1) (nI 639) J1).bind (fun q2 => if q2.1 = 0 then (bX11_forget_165 n (nI x) (nI (w_ib r)) (J 0 67 (16 * (640 * x + w_ib r) + 11)) q2.2) else (am_gd (am_inb (nI (640 * x) + (J 0 67 (16 * (640 * x + w_ib r) + 11))) 2560) (if (q2.2 0 68 ((nI (640 * x) + (J 0 67 (16 * (640 * x + w_ib r) + 11))).toNatClampNeg)) = 0 then (bX11_forget_165 n (nI x) (nI (w_ib r)) (J 0 67 (16 * (640 * x + w_ib r) + 11)) q2.2) else (bX11_forget_128 n am_fu (nI x) (nI (w_ib r)) (J 0 67 (16 * (640 * x + w_ib r) + 11)) (nI 0) q2.2)))) := by
        rw [gX11_forget, bX11_forget_0, if_pos hlt, a_ib n r J hr2, Option.bind_some]
        show am_gd (am_inb (nI 640 * nI x + nI (w_ib r)) 2560) (if J 0 68 (nI 640 * nI x + nI (w_ib r)).toNatClampNeg = 0 then _ else bX11_forget_57 n am_fu (nI x) (nI (w_ib r)) (nI 16 * (nI 640 * nI x + nI (w_ib r))) (nI 3) J) = _
        rw [pk_mul, nI_add, am_gd_of (by rw [z_inb (by omega)]; exact decide_eq_true g1), z_clamp (by omega), if_neg hJ, pk_mul]
        rw [show nI 3 = nI (3 + 0) from rfl, e2]
        conv => lhs; unfold bX11_forget_57
        show (if nI 11 ≤ nI 11 then am_gd (am_inb (nI (16 * (640 * x + w_ib r)) + nI 11) 40960) ((gX11_in n (J1 0 67 (nI (16 * (640 * x + w_ib r)) + nI 11).toNatClampNeg) (nI 1) (nI 639) J1).bind _) else _) = _
        rw [if_pos (by decide), nI_add, am_gd_of (by rw [z_inb (by omega)]; exact decide_eq_true g2), z_clamp (by omega), j11, pk_mul]
      rw [cI, cJ]
      -- the last: the inode itself
      have fin : ∀ {I2 J2 : am_I} {D : Nat → Prop}, CHr x I2 J2 → RM x J J2 D → fDI x I I2 → fDJ x J J2 → (∀ c, c < 640 → ¬ c = 0 → ((if r < 128 then fgt x r J c else c = w_mp (r - 128)) ↔ (D c ∨ c = w_ib r))) → ∃ I' J', bX1_dropResource_91 n x (nI (w_ib r)) I2 = some I' ∧ (gX11_leave n (nI x) (nI (w_ib r)) J2).bind (fun q2 => some q2) = some J' ∧ CHr x I' J' ∧ RM x J J' (fun c => if r < 128 then fgt x r J c else c = w_mp (r - 128)) ∧ fDI x I I' ∧ fDJ x J J' := fun {I2 J2 D} k1 k2 k3 k4 k5 => by
        obtain ⟨I3, J3, s1, s2, s3, s4, s5, s6⟩ := p_drop (n := n) hx hib k1
        refine ⟨I3, J3, ?_, ?_, s3, (k2.tr s4).cg0 h4 s3.2.2.2 k5, k3.tr s5, k4.tr s6⟩
        · rw [bX1_dropResource_91, s1, Option.bind_some]
        · rw [s2, Option.bind_some]
      rcases p1 8 (by omega) with hz | ⟨b, hb, hD⟩
      · -- no index
        have hz : J 0 67 (16 * (640 * x + w_ib r) + 11) = nI 0 := hz
        rw [hz]
        have hisd : gX10_isData n (nI 0) I1 = some (nI 0, I1) := by
          have q1 : nI 0 < nI 128 := by decide
          simp only [gX10_isData, bX10_isData_32, bX10_isData_31, bX10_isData_0, q1, if_true, z_01, z_gdt]
        have hin : gX11_in n (nI 0) (nI 1) (nI 639) J1 = some (nI 0, J1) := by
          have q1 : nI 0 < nI 1 := by decide
          simp only [gX11_in, bX11_in_0, bX11_in_14, bX11_in_15, q1, if_true, z_01, z_gdt]
        have hlv : gX11_leave n (nI x) (nI 0) J1 = some J1 := by
          rw [gX11_leave, bX11_leave_0, hin, Option.bind_some]
          rfl
        rw [hisd, hin, Option.bind_some, Option.bind_some]
        show ∃ I' J', (if nI 0 = (0 : Int32) then bX1_dropResource_91 n x (nI (w_ib r)) I1 else _) = some I' ∧ (if nI 0 = (0 : Int32) then bX11_forget_165 n (nI x) (nI (w_ib r)) (nI 0) J1 else _) = some J' ∧ _
        rw [if_pos (show nI 0 = (0 : Int32) from rfl), if_pos (show nI 0 = (0 : Int32) from rfl), bX11_forget_165, hlv, Option.bind_some]
        refine fin e3 e4 e5 e6 (fun c hc hc0 => ?_)
        rw [if_pos hr2]
        unfold fgt
        constructor
        · rintro ⟨-, q | ⟨j, j1, j2⟩ | q | ⟨b, j, b1, b2, b3, b4, j1, j2⟩⟩
          · exact Or.inr q
          · left
            rw [(hv j j1).2] at j2
            exact ⟨j, Nat.zero_le _, j1, w_nI (by have := (hv j j1).1; omega) (by omega) j2⟩
          · rw [hz] at q
            exact absurd (w_nI (by decide) (by omega) q).symm hc0
          · rw [hz] at b2
            exact absurd (w_nI (by omega) (by decide) b2.symm) b3
        · rintro (⟨j, -, j1, j2⟩ | q)
          · refine ⟨a2, Or.inr (Or.inl ⟨j, j1, ?_⟩)⟩
            rw [(hv j j1).2, j2]
          · exact ⟨a2, Or.inl q⟩
      · -- an index
        have hb : J 0 67 (16 * (640 * x + w_ib r) + 11) = nI b := hb
        have hbl := w_D_lt hD
        have hb0 : ¬ b = 0 := fun e => by unfold w_D at hD; omega
        rw [hb]
        have e2' : ¬ b < 1 := by omega
        have e3' : ¬ 639 < b := by omega
        have hin : ∀ K, gX11_in n (nI b) (nI 1) (nI 639) K = some (nI 1, K) := fun K => by
          simp (disch := omega) only [gX11_in, bX11_in_0, bX11_in_14, bX11_in_15, z_lt, e2', e3', if_false, z_011, z_gdt]
        have gb : 640 * x + b < 2560 := by omega
        rw [c_isD hD, hin, Option.bind_some, Option.bind_some]
        obtain ⟨c1, c2⟩ := e3.1 b hbl
        show ∃ I' J', (if nI 1 = (0 : Int32) then _ else am_gd (am_inb (nI b) 640) (if I1 x 43 (nI b).toNatClampNeg = 0 then bX1_dropResource_91 n x (nI (w_ib r)) I1 else ((gX1_dropAll n x (nI b * nI 16) (nI 16) I1).bind (fun q7 => (gX1_drop n x (nI b) q7).bind (fun q8 => bX1_dropResource_91 n x (nI (w_ib r)) q8))))) = some I' ∧ (if nI 1 = (0 : Int32) then _ else am_gd (am_inb (nI (640 * x) + nI b) 2560) (if J1 0 68 (nI (640 * x) + nI b).toNatClampNeg = 0 then bX11_forget_165 n (nI x) (nI (w_ib r)) (nI b) J1 else bX11_forget_128 n am_fu (nI x) (nI (w_ib r)) (nI b) (nI 0) J1)) = some J' ∧ _
        rw [if_neg (show ¬ nI 1 = (0 : Int32) by decide), if_neg (show ¬ nI 1 = (0 : Int32) by decide), am_gd_of (by rw [z_inb (by omega)]; exact decide_eq_true hbl), z_clamp (by omega), pk_mul, nI_add, am_gd_of (by rw [z_inb (by omega)]; exact decide_eq_true gb), z_clamp (by omega)]
        by_cases hh : J 0 68 (640 * x + b) = nI 1
        · -- it is cached
          obtain ⟨q1, q2⟩ := p2 b hD hb hh
          have hJ1 : J1 0 68 (640 * x + b) = nI 1 := by
            rw [(e4 b hbl).2 (fun ⟨j, _, j1, j2⟩ => q2 j j1 (by rw [(hv j j1).2, j2]))]
            exact hh
          have hI1 : ¬ I1 x 43 b = 0 := by rw [c1, hJ1]; decide
          have hJ10 : ¬ J1 0 68 (640 * x + b) = 0 := by rw [hJ1]; decide
          obtain ⟨u, hu⟩ : ∃ u : Nat → Nat, ∀ j, j < 16 → u j < 640 ∧ J 0 67 (16 * (640 * x + b) + j) = nI (u j) := by
            refine ⟨fun j => (J 0 67 (16 * (640 * x + b) + j)).toNatClampNeg, fun j hj => ?_⟩
            obtain ⟨k, k1, k2⟩ := hnum _ (q1 j hj)
            show (J 0 67 (16 * (640 * x + b) + j)).toNatClampNeg < 640 ∧ J 0 67 (16 * (640 * x + b) + j) = nI (J 0 67 (16 * (640 * x + b) + j)).toNatClampNeg
            rw [k2, nI_clamp (by omega)]
            exact ⟨k1, rfl⟩
          obtain ⟨I2, J2, s1, s2, s3, s4, s5, s6⟩ := fg_128 (n := n) (b := b) (ib := w_ib r) (v := u) hx hbl (fun i hi => (hu i hi).1) 16 0 am_fu am_fu I1 J1 (by omega) (fu_lt (by omega)) (fu_lt (by omega)) e3 (fun i hi => ⟨by rw [e5 x 42 (by omega), h3 b i hbl hi hh]; exact (hu i hi).2, by rw [e6.1 0 67 (by omega)]; exact (hu i hi).2⟩)
          obtain ⟨I3, J3, t1, t2, t3, t4, t5, t6⟩ := p_drop (n := n) hx hbl s3
          have hda2 : gX1_dropAll n x (nI (b * 16)) (nI 16) I1 = some I2 := by
            rw [gX1_dropAll, bX1_dropAll_0, Nat.mul_comm]
            exact s1
          rw [if_neg hI1, if_neg hJ10, hda2, Option.bind_some, t1, Option.bind_some, s2, bX11_forget_165, t2, Option.bind_some]
          refine fin t3 ((e4.tr s4).tr t4) ((e5.tr s5).tr t5) ((e6.tr s6).tr t6) (fun c hc hc0 => ?_)
          rw [if_pos hr2]
          unfold fgt
          constructor
          · rintro ⟨-, q | ⟨j, j1, j2⟩ | q | ⟨b', j, b1, b2, b3, b4, j1, j2⟩⟩
            · exact Or.inr q
            · left; left; left
              rw [(hv j j1).2] at j2
              exact ⟨j, Nat.zero_le _, j1, w_nI (by have := (hv j j1).1; omega) (by omega) j2⟩
            · left; right
              rw [hb] at q
              exact (w_nI (by omega) (by omega) q).symm
            · left; left; right
              rw [hb] at b2
              obtain rfl : b = b' := w_nI (by omega) (by omega) b2
              rw [(hu j j1).2] at j2
              exact ⟨j, Nat.zero_le _, j1, w_nI (by have := (hu j j1).1; omega) (by omega) j2⟩
          · rintro (((⟨j, -, j1, j2⟩ | ⟨j, -, j1, j2⟩) | q) | q)
            · exact ⟨a2, Or.inr (Or.inl ⟨j, j1, by rw [(hv j j1).2, j2]⟩)⟩
            · exact ⟨a2, Or.inr (Or.inr (Or.inr ⟨b, j, hbl, hb, hb0, hh, j1, by rw [(hu j j1).2, j2]⟩))⟩
            · exact ⟨a2, Or.inr (Or.inr (Or.inl (by rw [hb, q])))⟩
            · exact ⟨a2, Or.inl q⟩
        · -- it isn't
          have hJ1 : J1 0 68 (640 * x + b) = nI 0 := by
            rcases c2 with c2 | c2
            · exact c2
            · by_cases e : ∃ j, 0 ≤ j ∧ j < 8 ∧ v j = b
              · exact (e4 b hbl).1 e
              · rw [(e4 b hbl).2 e] at c2
                exact absurd c2 hh
          have hI1 : I1 x 43 b = 0 := c1.trans hJ1
          have hJ10 : J1 0 68 (640 * x + b) = 0 := hJ1
          obtain ⟨I3, J3, t1, t2, t3, t4, t5, t6⟩ := p_drop (n := n) hx hbl e3
          have b1 : ¬ 640 ≤ b := by omega
          have hdr : gX1_drop n x (nI b) I1 = some I1 := by
            simp (disch := omega) only [gX1_drop, bX1_drop_0, bX1_drop_37, z_ni0, z_le, b1, if_false, z_inb, hbl, decide_true, z_gdt, z_clamp, hI1, if_true]
          rw [hdr] at t1
          obtain rfl := Option.some.inj t1
          rw [if_pos hI1, if_pos hJ10, bX11_forget_165, t2, Option.bind_some]
          refine fin t3 (e4.tr t4) e5 (e6.tr t6) (fun c hc hc0 => ?_)
          rw [if_pos hr2]
          unfold fgt
          constructor
          · rintro ⟨-, q | ⟨j, j1, j2⟩ | q | ⟨b', j, b1, b2, b3, b4, j1, j2⟩⟩
            · exact Or.inr q
            · left; left
              rw [(hv j j1).2] at j2
              exact ⟨j, Nat.zero_le _, j1, w_nI (by have := (hv j j1).1; omega) (by omega) j2⟩
            · left; right
              rw [hb] at q
              exact (w_nI (by omega) (by omega) q).symm
            · rw [hb] at b2
              obtain rfl : b = b' := w_nI (by omega) (by omega) b2
              exact absurd b4 hh
          · rintro ((⟨j, -, j1, j2⟩ | q) | q)
            · exact ⟨a2, Or.inr (Or.inl ⟨j, j1, by rw [(hv j j1).2, j2]⟩)⟩
            · exact ⟨a2, Or.inr (Or.inr (Or.inl (by rw [hb, q])))⟩
            · exact ⟨a2, Or.inl q⟩
  · -- a map
    obtain ⟨g, hg, rfl⟩ : ∃ g, g < 8 ∧ r = 128 + g := ⟨r - 128, by omega, by omega⟩
    obtain ⟨I', J', s1, s2, s3, s4, s5, s6⟩ := p_drop (n := n) hx (w_mp_lt hg) h
    have hlt : ¬ nI (128 + g) < nI 128 := by rw [z_lt (by omega) (by decide)]; omega
    refine ⟨I', J', ?_, ?_, s3, s4.cg (fun c _ => by rw [if_neg hr2, show 128 + g - 128 = g from by omega]), s5, s6⟩
    · rw [gX1_dropResource, bX1_dropResource_0, if_neg hlt, pk_sub (by omega), show 128 + g - 128 = g from by omega, c_mp, Option.bind_some]
      show ((gX1_drop n x (nI (w_mp g)) I).bind _) = _
      rw [s1, Option.bind_some]
    · rw [gX11_forget, bX11_forget_0, if_neg hlt, pk_sub (by omega), show 128 + g - 128 = g from by omega, a_mp, Option.bind_some]
      show ((gX11_leave n (nI x) (nI (w_mp g)) J).bind _) = _
      rw [s2, Option.bind_some]
end DROP
