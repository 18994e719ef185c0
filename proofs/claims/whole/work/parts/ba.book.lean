
/-- the calls that ended, both sides -/
def BKr (I J : am_I) (e : Nat) : Prop := e ≤ 190 ∧ I 0 13 1 = nI e ∧ J 0 60 49 = nI e ∧ J 0 60 63 = nI e ∧ (∀ k, k < 10 * e → I 0 14 k = J 0 125 k) ∧ ∀ k, k < e → (∃ y : Nat, y < 4 ∧ J 0 125 (10 * k) = nI y) ∧ (J 0 126 k = nI 0 ∨ J 0 126 k = nI 1)
section BOOK
variable {n x : Nat} {I J : am_I} {e : Nat}
/-- the class turns the fate of a node's calls among the first so many -/
theorem tu_lp {first : Nat} {v : Int32} (hx : x < 4) (hf : first ≤ 400) : ∀ (q i fu : Nat) (I : am_I), i + q = first → q < fu → ∃ I', bX0_turn_3 n fu (nI x) (nI first) v (nI i) I = some I' ∧ (∀ k, I' 0 14 (10 * k + 9) = if i ≤ k ∧ k < first ∧ I 0 14 (10 * k) = nI x ∧ I 0 14 (10 * k + 9) = nI 1 then v else I 0 14 (10 * k + 9)) ∧ (∀ k c, c < 9 → I' 0 14 (10 * k + c) = I 0 14 (10 * k + c)) ∧ (∀ a b, ¬ (a = 0 ∧ b = 14) → I' a b = I a b) := by
  intro q
  induction q with
  | zero =>
    intro i fu I hi hfu
    obtain ⟨fu, rfl⟩ : ∃ f, fu = f + 1 := ⟨fu - 1, by omega⟩
    obtain rfl : i = first := by omega
    refine ⟨I, ?_, fun k => by rw [if_neg (by omega)], fun _ _ _ => rfl, fun _ _ _ => rfl⟩
    conv => lhs; unfold bX0_turn_3
    simp (disch := omega) only [z_le, Nat.le_refl, if_true, bX0_turn_66]
  | succ q ih =>
    intro i fu I hi hfu
    obtain ⟨fu, rfl⟩ : ∃ f, fu = f + 1 := ⟨fu - 1, by omega⟩
    have hle : ¬ first ≤ i := by omega
    have hle2 : ¬ 400 ≤ i := by omega
    have g1 : i * 10 < 4000 := by omega
    have g2 : i * 10 + 9 < 4000 := by omega
    by_cases ec : I 0 14 (10 * i) = nI x ∧ I 0 14 (10 * i + 9) = nI 1
    · have ea : I 0 14 (i * 10) = nI x := by rw [Nat.mul_comm]; exact ec.1
      have eb : I 0 14 (i * 10 + 9) = nI 1 := by rw [Nat.mul_comm]; exact ec.2
      obtain ⟨I', e1, e2, e3, e4⟩ := ih (i + 1) fu (am_up I 0 14 (10 * i + 9) v) (by omega) (by omega)
      refine ⟨I', ?_, fun k => ?_, fun k c hc => ?_, fun a b h => by rw [e4 a b h, z_upj _ _ _ _ _ _ _ h]⟩
      · rw [← e1]
        conv => lhs; unfold bX0_turn_3
        simp (disch := omega) only [z_le, hle, hle2, if_false, pk_mul, nI_add, z_inb, g1, g2, decide_true, z_gdt, z_clamp, ea, eb, if_true, am_lt, bX0_turn_60]
        rw [Nat.mul_comm i 10]
      · rw [e2 k]
        have q0 : am_up I 0 14 (10 * i + 9) v 0 14 (10 * k) = I 0 14 (10 * k) := by rw [z_upk, if_neg (by omega)]
        by_cases ek : k = i
        · subst ek
          rw [if_neg (by omega), z_upk, if_pos rfl, if_pos ⟨Nat.le_refl _, by omega, ec⟩]
        · have q9 : am_up I 0 14 (10 * i + 9) v 0 14 (10 * k + 9) = I 0 14 (10 * k + 9) := by rw [z_upk, if_neg (by omega)]
          rw [q0, q9]
          by_cases e4 : i + 1 ≤ k ∧ k < first ∧ I 0 14 (10 * k) = nI x ∧ I 0 14 (10 * k + 9) = nI 1
          · rw [if_pos e4, if_pos ⟨by omega, e4.2⟩]
          · rw [if_neg e4, if_neg (fun q => e4 ⟨by omega, q.2⟩)]
      · rw [e3 k c hc, z_upk, if_neg (by omega)]
    · obtain ⟨I', e1, e2, e3, e4⟩ := ih (i + 1) fu I (by omega) (by omega)
      refine ⟨I', ?_, fun k => ?_, e3, e4⟩
      · rw [← e1]
        conv => lhs; unfold bX0_turn_3
        by_cases ea : I 0 14 (i * 10) = nI x
        · have eb : ¬ I 0 14 (i * 10 + 9) = nI 1 := fun q => ec ⟨by rw [Nat.mul_comm]; exact ea, by rw [Nat.mul_comm]; exact q⟩
          simp (disch := omega) only [z_le, hle, hle2, if_false, pk_mul, nI_add, z_inb, g1, g2, decide_true, z_gdt, z_clamp, ea, eb, if_true, bX0_turn_60]
        · simp (disch := omega) only [z_le, hle, hle2, if_false, pk_mul, nI_add, z_inb, g1, g2, decide_true, z_gdt, z_clamp, ea, bX0_turn_60]
      · rw [e2 k]
        by_cases e4 : i + 1 ≤ k ∧ k < first ∧ I 0 14 (10 * k) = nI x ∧ I 0 14 (10 * k + 9) = nI 1
        · rw [if_pos e4, if_pos ⟨by omega, e4.2⟩]
        · rw [if_neg e4, if_neg (fun q => ?_)]
          by_cases ek : k = i
          · rw [ek] at q
            exact ec q.2.2
          · exact e4 ⟨by omega, q.2⟩
/-- the reference: those in a flush are safe -/
theorem ns_lp (hx : x < 4) (he : e ≤ 400) : ∀ (q i fu : Nat) (J : am_I), i + q = e → q < fu → J 0 60 63 = nI e → ∃ J', bX11_noteSafe_2 n fu (nI x) (nI i) J = some J' ∧ (∀ k, J' 0 125 (10 * k + 9) = if i ≤ k ∧ k < e ∧ J 0 125 (10 * k) = nI x ∧ J 0 125 (10 * k + 9) = nI 1 ∧ ¬ J 0 126 k = nI 0 then nI 2 else J 0 125 (10 * k + 9)) ∧ (∀ k c, c < 9 → J' 0 125 (10 * k + c) = J 0 125 (10 * k + c)) ∧ (∀ a b, ¬ (a = 0 ∧ b = 125) → J' a b = J a b) := by
  intro q
  induction q with
  | zero =>
    intro i fu J hi hfu h63
    obtain ⟨fu, rfl⟩ : ∃ f, fu = f + 1 := ⟨fu - 1, by omega⟩
    obtain rfl : i = e := by omega
    refine ⟨J, ?_, fun k => by rw [if_neg (by omega)], fun _ _ _ => rfl, fun _ _ _ => rfl⟩
    conv => lhs; unfold bX11_noteSafe_2
    simp (disch := omega) only [h63, z_le, Nat.le_refl, if_true]
  | succ q ih =>
    intro i fu J hi hfu h63
    obtain ⟨fu, rfl⟩ : ∃ f, fu = f + 1 := ⟨fu - 1, by omega⟩
    have hle : ¬ e ≤ i := by omega
    have g1 : 10 * i < 4000 := by omega
    have g2 : 10 * i + 9 < 4000 := by omega
    have g3 : i < 400 := by omega
    by_cases ec : J 0 125 (10 * i) = nI x ∧ J 0 125 (10 * i + 9) = nI 1 ∧ ¬ J 0 126 i = nI 0
    · obtain ⟨ea, eb, ed⟩ := ec
      have ed' : ¬ J 0 126 i = 0 := ed
      obtain ⟨J', e1, e2, e3, e4⟩ := ih (i + 1) fu (am_up J 0 125 (10 * i + 9) (nI 2)) (by omega) (by omega) (by rw [z_upj _ _ _ _ _ _ _ (by omega)]; exact h63)
      refine ⟨J', ?_, fun k => ?_, fun k c hc => ?_, fun a b h => by rw [e4 a b h, z_upj _ _ _ _ _ _ _ h]⟩
      · rw [← e1]
        conv => lhs; unfold bX11_noteSafe_2
        simp (disch := omega) only [h63, z_le, hle, if_false, pk_mul, nI_add, z_inb, g1, g2, g3, decide_true, z_gdt, z_clamp, ea, eb, ed', if_true, am_lt, bX11_noteSafe_61]
      · rw [e2 k, z_upj _ _ _ _ _ _ _ (by omega : ¬ (0 = 0 ∧ 126 = 125))]
        have q0 : am_up J 0 125 (10 * i + 9) (nI 2) 0 125 (10 * k) = J 0 125 (10 * k) := by rw [z_upk, if_neg (by omega)]
        by_cases ek : k = i
        · subst ek
          rw [if_neg (by omega), z_upk, if_pos rfl, if_pos ⟨Nat.le_refl _, by omega, ea, eb, ed⟩]
        · have q9 : am_up J 0 125 (10 * i + 9) (nI 2) 0 125 (10 * k + 9) = J 0 125 (10 * k + 9) := by rw [z_upk, if_neg (by omega)]
          rw [q0, q9]
          by_cases e4 : i + 1 ≤ k ∧ k < e ∧ J 0 125 (10 * k) = nI x ∧ J 0 125 (10 * k + 9) = nI 1 ∧ ¬ J 0 126 k = nI 0
          · rw [if_pos e4, if_pos ⟨by omega, e4.2⟩]
          · rw [if_neg e4, if_neg (fun q => e4 ⟨by omega, q.2⟩)]
      · rw [e3 k c hc, z_upk, if_neg (by omega)]
    · obtain ⟨J', e1, e2, e3, e4⟩ := ih (i + 1) fu J (by omega) (by omega) h63
      refine ⟨J', ?_, fun k => ?_, e3, e4⟩
      · rw [← e1]
        conv => lhs; unfold bX11_noteSafe_2
        by_cases ea : J 0 125 (10 * i) = nI x
        · by_cases eb : J 0 125 (10 * i + 9) = nI 1
          · have ed : J 0 126 i = 0 := Classical.byContradiction (fun q => ec ⟨ea, eb, q⟩)
            simp (disch := omega) only [h63, z_le, hle, if_false, pk_mul, nI_add, z_inb, g1, g2, g3, decide_true, z_gdt, z_clamp, ea, eb, ed, if_true, bX11_noteSafe_61]
          · simp (disch := omega) only [h63, z_le, hle, if_false, pk_mul, nI_add, z_inb, g1, g2, g3, decide_true, z_gdt, z_clamp, ea, eb, if_true, bX11_noteSafe_61]
        · simp (disch := omega) only [h63, z_le, hle, if_false, pk_mul, nI_add, z_inb, g1, g2, g3, decide_true, z_gdt, z_clamp, ea, bX11_noteSafe_61]
      · rw [e2 k]
        by_cases e4 : i + 1 ≤ k ∧ k < e ∧ J 0 125 (10 * k) = nI x ∧ J 0 125 (10 * k + 9) = nI 1 ∧ ¬ J 0 126 k = nI 0
        · rw [if_pos e4, if_pos ⟨by omega, e4.2⟩]
        · rw [if_neg e4, if_neg (fun q => ?_)]
          by_cases ek : k = i
          · rw [ek] at q
            exact ec q.2.2
          · exact e4 ⟨by omega, q.2⟩
/-- .. those not safe are gone -/
theorem ng_lp (hx : x < 4) (he : e ≤ 400) : ∀ (q i fu : Nat) (J : am_I), i + q = e → q < fu → J 0 60 63 = nI e → ∃ J', bX11_noteGone_2 n fu (nI x) (nI i) J = some J' ∧ (∀ k, J' 0 125 (10 * k + 9) = if i ≤ k ∧ k < e ∧ J 0 125 (10 * k) = nI x ∧ J 0 125 (10 * k + 9) = nI 1 then nI 3 else J 0 125 (10 * k + 9)) ∧ (∀ k c, c < 9 → J' 0 125 (10 * k + c) = J 0 125 (10 * k + c)) ∧ (∀ a b, ¬ (a = 0 ∧ b = 125) → J' a b = J a b) := by
  intro q
  induction q with
  | zero =>
    intro i fu J hi hfu h63
    obtain ⟨fu, rfl⟩ : ∃ f, fu = f + 1 := ⟨fu - 1, by omega⟩
    obtain rfl : i = e := by omega
    refine ⟨J, ?_, fun k => by rw [if_neg (by omega)], fun _ _ _ => rfl, fun _ _ _ => rfl⟩
    conv => lhs; unfold bX11_noteGone_2
    simp (disch := omega) only [h63, z_le, Nat.le_refl, if_true]
  | succ q ih =>
    intro i fu J hi hfu h63
    obtain ⟨fu, rfl⟩ : ∃ f, fu = f + 1 := ⟨fu - 1, by omega⟩
    have hle : ¬ e ≤ i := by omega
    have g1 : 10 * i < 4000 := by omega
    have g2 : 10 * i + 9 < 4000 := by omega
    by_cases ec : J 0 125 (10 * i) = nI x ∧ J 0 125 (10 * i + 9) = nI 1
    · obtain ⟨ea, eb⟩ := ec
      obtain ⟨J', e1, e2, e3, e4⟩ := ih (i + 1) fu (am_up J 0 125 (10 * i + 9) (nI 3)) (by omega) (by omega) (by rw [z_upj _ _ _ _ _ _ _ (by omega)]; exact h63)
      refine ⟨J', ?_, fun k => ?_, fun k c hc => ?_, fun a b h => by rw [e4 a b h, z_upj _ _ _ _ _ _ _ h]⟩
      · rw [← e1]
        conv => lhs; unfold bX11_noteGone_2
        simp (disch := omega) only [h63, z_le, hle, if_false, pk_mul, nI_add, z_inb, g1, g2, decide_true, z_gdt, z_clamp, ea, eb, if_true, am_lt, bX11_noteGone_52]
      · rw [e2 k]
        have q0 : am_up J 0 125 (10 * i + 9) (nI 3) 0 125 (10 * k) = J 0 125 (10 * k) := by rw [z_upk, if_neg (by omega)]
        by_cases ek : k = i
        · subst ek
          rw [if_neg (by omega), z_upk, if_pos rfl, if_pos ⟨Nat.le_refl _, by omega, ea, eb⟩]
        · have q9 : am_up J 0 125 (10 * i + 9) (nI 3) 0 125 (10 * k + 9) = J 0 125 (10 * k + 9) := by rw [z_upk, if_neg (by omega)]
          rw [q0, q9]
          by_cases e4 : i + 1 ≤ k ∧ k < e ∧ J 0 125 (10 * k) = nI x ∧ J 0 125 (10 * k + 9) = nI 1
          · rw [if_pos e4, if_pos ⟨by omega, e4.2⟩]
          · rw [if_neg e4, if_neg (fun q => e4 ⟨by omega, q.2⟩)]
      · rw [e3 k c hc, z_upk, if_neg (by omega)]
    · obtain ⟨J', e1, e2, e3, e4⟩ := ih (i + 1) fu J (by omega) (by omega) h63
      refine ⟨J', ?_, fun k => ?_, e3, e4⟩
      · rw [← e1]
        conv => lhs; unfold bX11_noteGone_2
        by_cases ea : J 0 125 (10 * i) = nI x
        · have eb : ¬ J 0 125 (10 * i + 9) = nI 1 := fun q => ec ⟨ea, q⟩
          simp (disch := omega) only [h63, z_le, hle, if_false, pk_mul, nI_add, z_inb, g1, g2, decide_true, z_gdt, z_clamp, ea, eb, if_true, bX11_noteGone_52]
        · simp (disch := omega) only [h63, z_le, hle, if_false, pk_mul, nI_add, z_inb, g1, g2, decide_true, z_gdt, z_clamp, ea, bX11_noteGone_52]
      · rw [e2 k]
        by_cases e4 : i + 1 ≤ k ∧ k < e ∧ J 0 125 (10 * k) = nI x ∧ J 0 125 (10 * k + 9) = nI 1
        · rw [if_pos e4, if_pos ⟨by omega, e4.2⟩]
        · rw [if_neg e4, if_neg (fun q => ?_)]
          by_cases ek : k = i
          · rw [ek] at q
            exact ec q.2.2
          · exact e4 ⟨by omega, q.2⟩
theorem bk_9 {k : Nat} (h : BKr I J e) (hk : k < e) : I 0 14 (10 * k) = J 0 125 (10 * k) ∧ I 0 14 (10 * k + 9) = J 0 125 (10 * k + 9) := ⟨h.2.2.2.2.1 _ (by omega), h.2.2.2.2.1 _ (by omega)⟩
theorem bk_new {I' J' : am_I} (h : BKr I J e) (hI : ∀ a b, ¬ (a = 0 ∧ b = 14) → I' a b = I a b) (hJ : ∀ a b, ¬ (a = 0 ∧ b = 125) → J' a b = J a b) (h9 : ∀ k, k < e → I' 0 14 (10 * k + 9) = J' 0 125 (10 * k + 9)) (hc : ∀ k c, c < 9 → I' 0 14 (10 * k + c) = I 0 14 (10 * k + c)) (hc2 : ∀ k c, c < 9 → J' 0 125 (10 * k + c) = J 0 125 (10 * k + c)) : BKr I' J' e := by
  obtain ⟨h1, h2, h3, h4, h5, h6⟩ := h
  refine ⟨h1, by rw [hI 0 13 (by omega)]; exact h2, by rw [hJ 0 60 (by omega)]; exact h3, by rw [hJ 0 60 (by omega)]; exact h4, fun k hk => ?_, fun k hk => ?_⟩
  · by_cases e9 : k % 10 = 9
    · have := h9 (k / 10) (by omega)
      rw [show 10 * (k / 10) + 9 = k from by omega] at this
      exact this
    · have a := hc (k / 10) (k % 10) (by omega)
      have b := hc2 (k / 10) (k % 10) (by omega)
      rw [show 10 * (k / 10) + k % 10 = k from by omega] at a b
      rw [a, b]
      exact h5 k hk
  · have b := hc2 k 0 (by omega)
    rw [Nat.add_zero] at b
    rw [b, hJ 0 126 (by omega)]
    exact h6 k hk
/-- a flush counts: the calls in it are safe -/
theorem p_safe {mk : Nat} (hx : x < 4) (hmk : mk ≤ e) (h : BKr I J e) (hin : ∀ k, k < e → J 0 125 (10 * k) = nI x → J 0 125 (10 * k + 9) = nI 1 → (¬ J 0 126 k = nI 0 ↔ k < mk)) : ∃ I' J', gX0_makeSafe n (nI x) (nI mk) I = some I' ∧ gX11_noteSafe n (nI x) J = some J' ∧ BKr I' J' e ∧ (∀ k, k < e → J' 0 125 (10 * k + 9) = if J 0 125 (10 * k) = nI x ∧ J 0 125 (10 * k + 9) = nI 1 ∧ k < mk then nI 2 else J 0 125 (10 * k + 9)) ∧ (∀ k c, c < 9 → J' 0 125 (10 * k + c) = J 0 125 (10 * k + c)) ∧ (∀ a b, ¬ (a = 0 ∧ b = 14) → I' a b = I a b) ∧ (∀ a b, ¬ (a = 0 ∧ b = 125) → J' a b = J a b) := by
  have he := h.1
  obtain ⟨I', e1, e2, e3, e4⟩ := tu_lp (n := n) (first := mk) (v := nI 2) hx (by omega) mk 0 am_fu I (by omega) (fu_lt (by omega))
  obtain ⟨J', f1, f2, f3, f4⟩ := ns_lp (n := n) (e := e) hx (by omega) e 0 am_fu J (by omega) (fu_lt (by omega)) h.2.2.2.1
  have h9 : ∀ k, k < e → J' 0 125 (10 * k + 9) = if J 0 125 (10 * k) = nI x ∧ J 0 125 (10 * k + 9) = nI 1 ∧ k < mk then nI 2 else J 0 125 (10 * k + 9) := fun k hk => by
    rw [f2 k]
    by_cases q : J 0 125 (10 * k) = nI x ∧ J 0 125 (10 * k + 9) = nI 1 ∧ k < mk
    · rw [if_pos q, if_pos ⟨Nat.zero_le _, hk, q.1, q.2.1, (hin k hk q.1 q.2.1).mpr q.2.2⟩]
    · rw [if_neg q, if_neg (fun q2 => q ⟨q2.2.2.1, q2.2.2.2.1, (hin k hk q2.2.2.1 q2.2.2.2.1).mp q2.2.2.2.2⟩)]
  refine ⟨I', J', ?_, ?_, bk_new h e4 f4 (fun k hk => ?_) e3 f3, h9, f3, e4, f4⟩
  · rw [gX0_makeSafe, bX0_makeSafe_0, gX0_turn, bX0_turn_0, e1, Option.bind_some]
  · rw [gX11_noteSafe, bX11_noteSafe_0]
    exact f1
  · obtain ⟨b1, b2⟩ := bk_9 h hk
    rw [h9 k hk, e2 k, b1, b2]
    by_cases q : J 0 125 (10 * k) = nI x ∧ J 0 125 (10 * k + 9) = nI 1 ∧ k < mk
    · rw [if_pos q, if_pos ⟨Nat.zero_le _, q.2.2, q.1, q.2.1⟩]
    · rw [if_neg q, if_neg (fun q2 => q ⟨q2.2.2.1, q2.2.2.2, q2.2.1⟩)]
theorem p_gone (hx : x < 4) (h : BKr I J e) : ∃ I' J', gX0_lose n (nI x) I = some I' ∧ gX11_noteGone n (nI x) J = some J' ∧ BKr I' J' e ∧ (∀ k, k < e → J' 0 125 (10 * k + 9) = if J 0 125 (10 * k) = nI x ∧ J 0 125 (10 * k + 9) = nI 1 then nI 3 else J 0 125 (10 * k + 9)) ∧ (∀ k c, c < 9 → J' 0 125 (10 * k + c) = J 0 125 (10 * k + c)) ∧ (∀ a b, ¬ (a = 0 ∧ b = 14) → I' a b = I a b) ∧ (∀ a b, ¬ (a = 0 ∧ b = 125) → J' a b = J a b) := by
  have he := h.1
  obtain ⟨I', e1, e2, e3, e4⟩ := tu_lp (n := n) (first := e) (v := nI 3) hx (by omega) e 0 am_fu I (by omega) (fu_lt (by omega))
  obtain ⟨J', f1, f2, f3, f4⟩ := ng_lp (n := n) (e := e) hx (by omega) e 0 am_fu J (by omega) (fu_lt (by omega)) h.2.2.2.1
  have h9 : ∀ k, k < e → J' 0 125 (10 * k + 9) = if J 0 125 (10 * k) = nI x ∧ J 0 125 (10 * k + 9) = nI 1 then nI 3 else J 0 125 (10 * k + 9) := fun k hk => by
    rw [f2 k]
    by_cases q : J 0 125 (10 * k) = nI x ∧ J 0 125 (10 * k + 9) = nI 1
    · rw [if_pos q, if_pos ⟨Nat.zero_le _, hk, q⟩]
    · rw [if_neg q, if_neg (fun q2 => q q2.2.2)]
  refine ⟨I', J', ?_, ?_, bk_new h e4 f4 (fun k hk => ?_) e3 f3, h9, f3, e4, f4⟩
  · rw [gX0_lose, bX0_lose_0, h.2.1, gX0_turn, bX0_turn_0, e1, Option.bind_some]
  · rw [gX11_noteGone, bX11_noteGone_0]
    exact f1
  · obtain ⟨b1, b2⟩ := bk_9 h hk
    rw [h9 k hk, e2 k, b1, b2]
    by_cases q : J 0 125 (10 * k) = nI x ∧ J 0 125 (10 * k + 9) = nI 1
    · rw [if_pos q, if_pos ⟨Nat.zero_le _, hk, q⟩]
    · rw [if_neg q, if_neg (fun q2 => q q2.2.2)]
end BOOK
