
section SERVE
variable {n T : Nat} {I J : am_I} {ms : List (Nat → Nat)} {rw : Nat → List (Nat × Nat)} {gv cl : Nat → Nat → Nat}
theorem r_shift {r c : Nat} {k0 : Int32 → am_I → Option am_I} (hr : r < 136) (hc : c ≤ 4) : ∀ (q i fu : Nat) (J : am_I), i + q = c → q < fu → J 0 96 r = nI c → ∃ J', bX11_serve_159 n k0 fu (nI r) (nI (16 * r + i)) J = k0 (nI r) J' ∧ (∀ k, J' 0 97 k = if 16 * r + i ≤ k ∧ k < 16 * r + c then J 0 97 (k + 1) else J 0 97 k) ∧ (∀ k, J' 0 98 k = if 16 * r + i ≤ k ∧ k < 16 * r + c then J 0 98 (k + 1) else J 0 98 k) ∧ (∀ a b, ¬ (a = 0 ∧ (b = 97 ∨ b = 98)) → J' a b = J a b) := by
  intro q
  induction q with
  | zero =>
    intro i fu J hi hf h96
    obtain ⟨fu, rfl⟩ : ∃ f, fu = f + 1 := ⟨fu - 1, by omega⟩
    obtain rfl : i = c := by omega
    refine ⟨J, ?_, fun k => by rw [if_neg (by omega)], fun k => by rw [if_neg (by omega)], fun _ _ _ => rfl⟩
    conv => lhs; unfold bX11_serve_159
    simp (disch := omega) only [z_inb, hr, decide_true, z_gdt, z_clamp, h96, pk_mul, nI_add, z_le, Nat.le_refl, if_true]
  | succ q ih =>
    intro i fu J hi hf h96
    obtain ⟨fu, rfl⟩ : ∃ f, fu = f + 1 := ⟨fu - 1, by omega⟩
    have hle : ¬ 16 * r + c ≤ 16 * r + i := by omega
    have g1 : 16 * r + i + 1 < 2176 := by omega
    have g2 : 16 * r + i < 2176 := by omega
    obtain ⟨J', e1, e2, e3, e4⟩ := ih (i + 1) fu (am_up (am_up J 0 97 (16 * r + i) (J 0 97 (16 * r + i + 1))) 0 98 (16 * r + i) (J 0 98 (16 * r + i + 1))) (by omega) (by omega) (by rw [z_upj _ _ _ _ _ _ _ (by omega), z_upj _ _ _ _ _ _ _ (by omega)]; exact h96)
    refine ⟨J', ?_, fun k => ?_, fun k => ?_, fun a b h => by rw [e4 a b h, z_upj _ _ _ _ _ _ _ (by omega), z_upj _ _ _ _ _ _ _ (by omega)]⟩
    · rw [← e1]
      conv => lhs; unfold bX11_serve_159
      simp (disch := omega) only [z_inb, hr, decide_true, z_gdt, z_clamp, h96, pk_mul, nI_add, z_le, hle, if_false, g1, g2, am_lt, z_upj]
      rfl
    · rw [e2 k]
      simp (disch := omega) only [z_upj, z_upk]
      by_cases e : 16 * r + (i + 1) ≤ k ∧ k < 16 * r + c
      · rw [if_pos e, if_neg (by omega), if_pos (by omega)]
      · rw [if_neg e]
        by_cases e3 : k = 16 * r + i
        · rw [if_pos e3, if_pos (by omega), e3]
        · rw [if_neg e3, if_neg (by omega)]
    · rw [e3 k]
      simp (disch := omega) only [z_upj, z_upk]
      by_cases e : 16 * r + (i + 1) ≤ k ∧ k < 16 * r + c
      · rw [if_pos e, if_neg (by omega), if_pos (by omega)]
      · rw [if_neg e]
        by_cases e3 : k = 16 * r + i
        · rw [if_pos e3, if_pos (by omega), e3]
        · rw [if_neg e3, if_neg (by omega)]
theorem c_shift {r c : Nat} (hr : r < 136) (hc : c ≤ 4) (hc1 : 1 ≤ c) : ∀ (q i fu : Nat) (I : am_I), i + q = c → q < fu → 1 ≤ i → I 0 8 r = nI c → ∃ I', bX6_dropFirst_6 n fu (nI r) (nI (4 * r)) (nI i) I = some I' ∧ (∀ k, I' 0 6 k = if 4 * r + i ≤ k + 1 ∧ k + 1 < 4 * r + c then I 0 6 (k + 1) else I 0 6 k) ∧ (∀ k, I' 0 7 k = if 4 * r + i ≤ k + 1 ∧ k + 1 < 4 * r + c then I 0 7 (k + 1) else I 0 7 k) ∧ (∀ k, I' 0 8 k = if k = r then nI (c - 1) else I 0 8 k) ∧ (∀ a b, ¬ (a = 0 ∧ (b = 6 ∨ b = 7 ∨ b = 8)) → I' a b = I a b) := by
  intro q
  induction q with
  | zero =>
    intro i fu I hi hf hi1 h8
    obtain ⟨fu, rfl⟩ : ∃ f, fu = f + 1 := ⟨fu - 1, by omega⟩
    obtain rfl : i = c := by omega
    have hmx : (if nI (i - 1) ≤ nI 0 then nI 0 else nI (i - 1)) = nI (i - 1) := by
      by_cases e : i - 1 ≤ 0
      · rw [if_pos (by rw [z_le (by omega) (by decide)]; exact e), show i - 1 = 0 from by omega]
      · rw [if_neg (by rw [z_le (by omega) (by decide)]; exact e)]
    refine ⟨am_up I 0 8 r (nI (i - 1)), ?_, fun k => by rw [if_neg (by omega), z_upj _ _ _ _ _ _ _ (by omega)], fun k => by rw [if_neg (by omega), z_upj _ _ _ _ _ _ _ (by omega)], fun k => z_upk _ _ _ _ _ _, fun a b h => z_upj _ _ _ _ _ _ _ (by omega)⟩
    conv => lhs; unfold bX6_dropFirst_6
    simp (disch := omega) only [z_inb, hr, decide_true, z_gdt, z_clamp, h8, Nat.le_refl, pk_sub, am_lt]
    rw [if_pos (by rw [z_le (by omega) (by omega)]; exact Nat.le_refl _), hmx]
  | succ q ih =>
    intro i fu I hi hf hi1 h8
    obtain ⟨fu, rfl⟩ : ∃ f, fu = f + 1 := ⟨fu - 1, by omega⟩
    have hle : ¬ c ≤ i := by omega
    have g1 : 4 * r + i < 544 := by omega
    have g2 : 4 * r + i - 1 < 544 := by omega
    obtain ⟨I', e1, e2, e3, e4, e5⟩ := ih (i + 1) fu (am_up (am_up I 0 6 (4 * r + i - 1) (I 0 6 (4 * r + i))) 0 7 (4 * r + i - 1) (I 0 7 (4 * r + i))) (by omega) (by omega) (by omega) (by rw [z_upj _ _ _ _ _ _ _ (by omega), z_upj _ _ _ _ _ _ _ (by omega)]; exact h8)
    refine ⟨I', ?_, fun k => ?_, fun k => ?_, fun k => ?_, fun a b h => by rw [e5 a b h, z_upj _ _ _ _ _ _ _ (by omega), z_upj _ _ _ _ _ _ _ (by omega)]⟩
    · rw [← e1]
      conv => lhs; unfold bX6_dropFirst_6
      simp (disch := omega) only [z_inb, hr, decide_true, z_gdt, z_clamp, h8, nI_add, pk_sub, z_le, hle, if_false, g1, g2, am_lt, z_upj]
    · rw [e2 k]
      simp (disch := omega) only [z_upj, z_upk]
      by_cases e : 4 * r + (i + 1) ≤ k + 1 ∧ k + 1 < 4 * r + c
      · rw [if_pos e, if_neg (by omega), if_pos (by omega)]
      · rw [if_neg e]
        by_cases e3 : k = 4 * r + i - 1
        · rw [if_pos e3, if_pos (by omega), show k + 1 = 4 * r + i from by omega]
        · rw [if_neg e3, if_neg (by omega)]
    · rw [e3 k]
      simp (disch := omega) only [z_upj, z_upk]
      by_cases e : 4 * r + (i + 1) ≤ k + 1 ∧ k + 1 < 4 * r + c
      · rw [if_pos e, if_neg (by omega), if_pos (by omega)]
      · rw [if_neg e]
        by_cases e3 : k = 4 * r + i - 1
        · rw [if_pos e3, if_pos (by omega), show k + 1 = 4 * r + i from by omega]
        · rw [if_neg e3, if_neg (by omega)]
    · rw [e4 k]
      simp (disch := omega) only [z_upj]
/-- a request is granted -/
theorem p_grant {r z m M : Nat} {rest : List (Nat × Nat)} {k0 : Int32 → am_I → Option am_I} (hn0 : 0 < n) (hn : n ≤ 4) (hr : r < 136) (hz : z < n) (hm : m = 1 ∨ m = 2) (hMn : M < n) (hl : ms.length < 128) (hrow : rw r = (z, m) :: rest) (hL : MLr n T I J ms) (hS : MSr n I J rw gv cl) (hmst : mst n (J 0 66) r n 0 = nI M) (hj : ∀ x, x < n → I x 40 6 = J 0 66 x) :
    ∃ I' J' ms', ((gX6_give n (nI r) (nI z) (nI m) I).bind (fun q5 => (gX6_dropFirst n (nI r) q5).bind (fun q6 => gX10_post n (nI M) (nI z) (nI 1) (nI r) (nI m) q6))) = some I' ∧ bX11_serve_129 n k0 (nI r) (nI z) (nI m) (nI (max (gv r z) m)) (nI (4 * r + z)) J = k0 (nI r) J' ∧ MLr n T I' J' ms' ∧ MSr n I' J' (up1 rw r rest) (up2 gv r z (max (gv r z) m)) cl ∧ fSI I I' ∧ fSJ J J' ∧ snd (J 0 65) T M z 1 r m ms ms' := by
  obtain ⟨w1, w2, w3, w4, w5⟩ := hS r hr
  obtain ⟨v1, v2, v3, -⟩ := w5 z (by omega)
  have h1 := hL.2.2.2.2.2.2.2.2.2.2
  have hlen : (rw r).length = rest.length + 1 := by rw [hrow]; rfl
  have g1 : 4 * r + z < 544 := by omega
  have v2' : I 0 4 (r * 4 + z) = nI (gv r z) := by rw [Nat.mul_comm]; exact v2
  have hmx : max (gv r z) m ≤ 2 := by omega
  -- the class gives, and drops the first
  have cgive : gX6_give n (nI r) (nI z) (nI m) I = some (am_up I 0 4 (4 * r + z) (nI (max (gv r z) m))) := by
    have e : (if nI m ≤ nI (gv r z) then nI (gv r z) else nI m) = nI (max (gv r z) m) := by
      by_cases e : m ≤ gv r z
      · rw [if_pos (by rw [z_le (by omega) (by omega)]; exact e), Nat.max_eq_left e]
      · rw [if_neg (by rw [z_le (by omega) (by omega)]; exact e), Nat.max_eq_right (by omega)]
    rw [gX6_give, bX6_give_0, pk_mul, nI_add, am_gd_of (by rw [z_inb (by omega)]; exact decide_eq_true (by omega)), am_gd_of (by rw [z_inb (by omega)]; exact decide_eq_true (by omega)), z_clamp (by omega), v2', e, am_lt, Nat.mul_comm]
  obtain ⟨I2, d1, d2, d3, d4, d5⟩ := c_shift (n := n) (r := r) (c := rest.length + 1) hr (by omega) (by omega) rest.length 1 am_fu (am_up I 0 4 (4 * r + z) (nI (max (gv r z) m))) (by omega) (fu_lt (by omega)) (Nat.le_refl _) (by rw [z_upj _ _ _ _ _ _ _ (by omega), w2, hlen])
  have cdrop : gX6_dropFirst n (nI r) (am_up I 0 4 (4 * r + z) (nI (max (gv r z) m))) = some I2 := by
    rw [gX6_dropFirst, bX6_dropFirst_0, pk_mul, Nat.mul_comm]
    exact d1
  have hL1 : MLr n T I2 (am_up J 0 94 (4 * r + z) (nI (max (gv r z) m))) ms := ml_ms hL (fun a b q => by rw [d5 a b (by omega), z_upj _ _ _ _ _ _ _ (by omega)]) (fun a b q => z_upj _ _ _ _ _ _ _ (by omega))
  obtain ⟨I3, J2, ms', s1, s2, s3, s4, s5, s6⟩ := p_send (n := n) (f := M) (t := z) (k := 1) (r := r) (md := m) hn hL1 hl hMn hz ⟨by decide, by omega, by omega⟩
  rw [z_upj _ _ _ _ _ _ _ (by omega)] at s6
  have h96 : J2 0 96 r = nI (rest.length + 1) := by rw [s5.1 0 96 (by omega), z_upj _ _ _ _ _ _ _ (by omega), w3, hlen]
  obtain ⟨J4, t1, t2, t3, t4⟩ := r_shift (n := n) (r := r) (c := rest.length) (k0 := k0) hr (by omega) rest.length 0 am_fu (am_up J2 0 96 r (nI rest.length)) (by omega) (fu_lt (by omega)) (by rw [z_upk, if_pos rfl])
  have hmst1 := p_mst (I := I) (J := am_up J 0 94 (4 * r + z) (nI (max (gv r z) m))) (r := r) hn0 hn hr (by rw [z_upj _ _ _ _ _ _ _ (by omega)]; exact h1) (fun x hx => by rw [z_upj _ _ _ _ _ _ _ (by omega)]; exact hj x hx)
  rw [z_upj _ _ _ _ _ _ _ (by omega), hmst] at hmst1
  refine ⟨I3, J4, ms', ?_, ?_, ?_, fun r' hr' => ?_, ?_, ?_, s6⟩
  · rw [cgive, Option.bind_some, cdrop, Option.bind_some, s1]
  · rw [bX11_serve_129, am_gd_of (by rw [z_inb (by omega)]; exact decide_eq_true g1), z_clamp (by omega), am_lt, hmst1.2, Option.bind_some]
    show ((gX11_send n (nI M) (nI z) (nI 1) (nI r) (nI m) (am_up J 0 94 (4 * r + z) (nI (max (gv r z) m)))).bind _) = _
    rw [s2, Option.bind_some, am_gd_of (by rw [z_inb (by omega)]; exact decide_eq_true hr), am_gd_of (by rw [z_inb (by omega)]; exact decide_eq_true hr), z_clamp (by omega), h96, pk_sub (by omega), am_lt, pk_mul, show rest.length + 1 - 1 = rest.length from rfl]
    exact t1
  · exact ml_ms s3 (fun _ _ _ => rfl) (fun a b q => by rw [t4 a b (by omega), z_upj _ _ _ _ _ _ _ (by omega)])
  · obtain ⟨a1, a2, a3, a4, a5⟩ := hS r' hr'
    have i8 : I3 0 8 r' = if r' = r then nI rest.length else I 0 8 r' := by
      rw [s4.1 0 8 (by omega), d4 r', z_upj _ _ _ _ _ _ _ (by omega)]
      rfl
    have j96 : J4 0 96 r' = if r' = r then nI rest.length else J 0 96 r' := by
      rw [t4 0 96 (by omega), z_upk, s5.1 0 96 (by omega), z_upj _ _ _ _ _ _ _ (by omega)]
    refine ⟨?_, ?_, ?_, fun i e hi => ?_, fun x hx => ?_⟩
    · by_cases e : r' = r
      · rw [e, up1_at]; omega
      · rw [up1_ne e]; exact a1
    · rw [i8]
      by_cases e : r' = r
      · rw [if_pos e, e, up1_at]
      · rw [if_neg e, up1_ne e]; exact a2
    · rw [j96]
      by_cases e : r' = r
      · rw [if_pos e, e, up1_at]
      · rw [if_neg e, up1_ne e]; exact a3
    · rw [s4.1 0 6 (by omega), s4.1 0 7 (by omega), d2, d3, t2, t3]
      simp (disch := omega) only [z_upj]
      rw [s5.1 0 97 (by omega), s5.1 0 98 (by omega)]
      simp (disch := omega) only [z_upj]
      by_cases e2 : r' = r
      · subst e2
        rw [up1_at] at hi
        have hlt : i < rest.length := by
          rcases Nat.lt_or_ge i rest.length with h | h
          · exact h
          · rw [List.getElem?_eq_none h] at hi; cases hi
        have := a4 (i + 1) e (by rw [hrow, List.getElem?_cons_succ]; exact hi)
        rw [if_pos (by omega), if_pos (by omega), if_pos (by omega), if_pos (by omega)]
        exact this
      · rw [up1_ne e2] at hi
        have hlt : i < (rw r').length := by
          rcases Nat.lt_or_ge i (rw r').length with h | h
          · exact h
          · rw [List.getElem?_eq_none h] at hi; cases hi
        rw [if_neg (by omega), if_neg (by omega), if_neg (by omega), if_neg (by omega)]
        exact a4 i e hi
    · obtain ⟨b1, b2, b3, b4, b5, b6⟩ := a5 x hx
      rw [s4.1 0 4 (by omega), s4.1 0 5 (by omega), d5 0 4 (by omega), d5 0 5 (by omega), t4 0 94 (by omega), t4 0 95 (by omega), z_upj J2 _ _ _ _ _ _ (by omega), z_upj J2 _ _ _ _ _ _ (by omega), s5.1 0 94 (by omega), s5.1 0 95 (by omega), z_upk, z_upk, z_upj _ _ _ _ _ _ _ (by omega), z_upj _ _ _ _ _ _ _ (by omega)]
      by_cases e : r' = r ∧ x = z
      · obtain ⟨rfl, rfl⟩ := e
        rw [if_pos rfl, if_pos rfl, up2_a]
        exact ⟨hmx, rfl, rfl, b4, b5, b6⟩
      · rw [if_neg (by omega), if_neg (by omega), show up2 gv r z (max (gv r z) m) r' x = gv r' x from if_neg e]
        exact ⟨b1, b2, b3, b4, b5, b6⟩
  · refine fSI.tr ⟨fun a b q => ?_, fun k _ => ?_⟩ s4.s
    · rw [d5 a b (by omega), z_upj _ _ _ _ _ _ _ (by omega)]
    · rw [d5 0 9 (by omega), z_upj _ _ _ _ _ _ _ (by omega)]
  · refine fSJ.tr (fSJ.tr ⟨fun a b q => z_upj _ _ _ _ _ _ _ (by omega), fun k _ => by rw [z_upj _ _ _ _ _ _ _ (by omega)]⟩ s5.s) ⟨fun a b q => ?_, fun k _ => ?_⟩
    · rw [t4 a b (by omega), z_upj _ _ _ _ _ _ _ (by omega)]
    · rw [t4 0 60 (by omega), z_upj _ _ _ _ _ _ _ (by omega)]
/-- a row that is served: nobody waits, or all that stand in the way are called back -/
def svd (n : Nat) (row : List (Nat × Nat)) (gv cl : Nat → Nat) : Prop := row = [] ∨ ∃ z m rest, row = (z, m) :: rest ∧ (∃ y, y < n ∧ ¬ y = z ∧ agt (gv y) m = true) ∧ ∀ y, y < n → ¬ y = z → agt (gv y) m = true → ¬ cl y = 0 ∧ cl y ≤ flr m + 1
theorem p_serve {r M : Nat} {U : Nat → Int32} {P : List (Nat → Nat) → (Nat → List (Nat × Nat)) → (Nat → Nat → Nat) → (Nat → Nat → Nat) → Prop} (hn0 : 0 < n) (hn : n ≤ 4) (hr : r < 136) (hMn : M < n) (hPl : ∀ ms rw gv cl, P ms rw gv cl → ms.length < 128) (hB : cBk n T r M U P) (hG : cGr n T r M U P) :
    ∀ (len l3 fu fur : Nat) (I J : am_I) (ms : List (Nat → Nat)) (rw : Nat → List (Nat × Nat)) (gv cl : Nat → Nat → Nat), (rw r).length = len → l3 + len ≤ 4 → len < fu → len < fur → MLr n T I J ms → MSr n I J rw gv cl → P ms rw gv cl → J 0 65 = U → mst n (J 0 66) r n 0 = nI M → (∀ x, x < n → I x 40 6 = J 0 66 x) →
    ∃ I' J' ms' rw' gv' cl', bX10_serve_8 n fu (nI r) (nI M) (nI l3) I = some I' ∧ bX11_serve_0 n fur (nI r) J = some J' ∧ MLr n T I' J' ms' ∧ MSr n I' J' rw' gv' cl' ∧ P ms' rw' gv' cl' ∧ fSI I I' ∧ fSJ J J' ∧ svd n (rw' r) (gv' r) (cl' r) ∧ (∀ r', ¬ r' = r → rw' r' = rw r' ∧ gv' r' = gv r' ∧ cl' r' = cl r') := by
  intro len
  induction len with
  | zero =>
    intro l3 fu fur I J ms rw gv cl hlen hl3 hf hfr hL hS hP hU hmst hj
    obtain ⟨fu, rfl⟩ : ∃ f, fu = f + 1 := ⟨fu - 1, by omega⟩
    obtain ⟨fur, rfl⟩ : ∃ f, fur = f + 1 := ⟨fur - 1, by omega⟩
    obtain ⟨w1, w2, w3, w4, w5⟩ := hS r hr
    rw [hlen] at w2 w3
    refine ⟨I, J, ms, rw, gv, cl, ?_, ?_, hL, hS, hP, fSI.rf, fSJ.rf, Or.inl (List.length_eq_zero_iff.mp hlen), fun _ _ => ⟨rfl, rfl, rfl⟩⟩
    · conv => lhs; unfold bX10_serve_8
      by_cases e : 4 ≤ l3
      · simp (disch := omega) only [z_le, e, if_true, bX10_serve_102]
      · simp (disch := omega) only [z_le, e, if_false, z_inb, hr, decide_true, z_gdt, z_clamp, w2, (by decide : nI 0 ≤ (0 : Int32)), if_true, bX10_serve_102]
    · conv => lhs; unfold bX11_serve_0
      simp (disch := omega) only [z_inb, hr, decide_true, z_gdt, z_clamp, w3, (by decide : nI 0 ≤ (0 : Int32)), if_true]
  | succ len ih =>
    intro l3 fu fur I J ms rw gv cl hlen hl3 hf hfr hL hS hP hU hmst hj
    obtain ⟨fu, rfl⟩ : ∃ f, fu = f + 1 := ⟨fu - 1, by omega⟩
    obtain ⟨fur, rfl⟩ : ∃ f, fur = f + 1 := ⟨fur - 1, by omega⟩
    obtain ⟨w1, w2, w3, w4, w5⟩ := hS r hr
    have h1 := hL.2.2.2.2.2.2.2.2.2.2
    obtain ⟨⟨z, m⟩, rest, hrow⟩ : ∃ e rest, rw r = e :: rest := by
      cases h : rw r with
      | nil => rw [h] at hlen; simp at hlen
      | cons a l => exact ⟨a, l, rfl⟩
    obtain ⟨e1, e2, e3, e4, e5, e6⟩ := w4 0 (z, m) (by rw [hrow]; rfl)
    have hz : z < n := e1
    have hm : m = 1 ∨ m = 2 := e2
    rw [Nat.add_zero] at e3 e4 e5 e6
    have e3' : I 0 6 (r * 4) = nI z := by rw [Nat.mul_comm]; exact e3
    have e4' : I 0 7 (r * 4) = nI m := by rw [Nat.mul_comm]; exact e4
    have e5' : J 0 97 (16 * r) = nI z := e5
    have e6' : J 0 98 (16 * r) = nI m := e6
    rw [hlen] at w2 w3
    have hpos : ¬ nI (len + 1) ≤ (0 : Int32) := by rw [z_0, z_le (by omega) (by decide)]; omega
    have hle : ¬ 4 ≤ l3 := by omega
    have g1 : r * 4 < 544 := by omega
    have g2 : 16 * r < 2176 := by omega
    have hfl : flr m ≤ 1 := by unfold flr; split <;> omega
    have ccb : gX10_callOthersBack n (nI r) (nI z) (nI m) (nI M) I = bX10_callOthersBack_18 n am_fu (nI r) (nI z) (nI M) (nI (flr m)) (nI 0) (nI 0) I := by
      rw [gX10_callOthersBack, bX10_callOthersBack_0]
      rcases hm with rfl | rfl
      · rw [if_neg (by decide), bX10_callOthersBack_10]
        rfl
      · rw [if_pos rfl, bX10_callOthersBack_10]
        rfl
    have cask : gX11_askBack n (nI r) (nI z) (nI m) J = bX11_askBack_15 n am_fu (nI r) (nI z) (nI m) (nI (flr m)) (nI 0) J := by
      rw [gX11_askBack, bX11_askBack_0]
      rcases hm with rfl | rfl
      · rw [if_neg (by decide), bX11_askBack_10]
        rfl
      · rw [if_pos rfl, bX11_askBack_10]
        rfl
    have cI : bX10_serve_8 n (fu + 1) (nI r) (nI M) (nI l3) I = (gX10_callOthersBack n (nI r) (nI z) (nI m) (nI M) I).bind (fun q4 => if q4.1 = 0 then ((gX6_give n (nI r) (nI z) (nI m) q4.2).bind (fun q5 => (gX6_dropFirst n (nI r) q5).bind (fun q6 => (gX10_post n (nI M) (nI z) (nI 1) (nI r) (nI m) q6).bind (fun q7 => bX10_serve_8 n fu (nI r) (nI M) (nI (l3 + 1)) q7)))) else (some q4.2)) := by
      conv => lhs; unfold bX10_serve_8
      simp (disch := omega) only [z_le, hle, if_false, z_inb, hr, decide_true, z_gdt, z_clamp, w2, hpos, pk_mul, g1, e3', e4', nI_add]
    have cJ : bX11_serve_0 n (fur + 1) (nI r) J = bX11_serve_35 n (bX11_serve_0 n fur) am_fu (nI r) (nI z) (nI m) (nI 1) (nI 0) J := by
      conv => lhs; unfold bX11_serve_0
      simp (disch := omega) only [z_inb, hr, decide_true, z_gdt, z_clamp, w3, hpos, if_false, pk_mul, g2, e5', e6']
    rw [cI, cJ]
    by_cases hfree : ∃ y, y < n ∧ ¬ y = z ∧ agt (gv r y) m = true
    · -- somebody is in the way
      rw [sv_not (I := I) (rw := rw) (gv := gv) (cl := cl) hn h1 hr hz hm (hS r hr) n 0 am_fu (by omega) (fu_lt (by omega)) (by obtain ⟨y, y1, y2, y3⟩ := hfree; exact ⟨y, Nat.zero_le _, y1, y2, y3⟩), ccb, cask]
      obtain ⟨I', J', ms', cl', b', r1, r2, r3, r4, r5, r6, r7, r8, r9, r10, r11⟩ := cb_lp (rest := rest) hn0 hn hr hz hm hMn hPl hB hrow n 0 0 am_fu am_fu I J ms cl (by omega) (fu_lt (by omega)) (fu_lt (by omega)) (Or.inl rfl) hL hS hP hU hmst hj
      have hb1 : b' = 1 := r9.mpr (Or.inr (by obtain ⟨y, y1, y2, y3⟩ := hfree; exact ⟨y, Nat.zero_le _, y1, y2, y3⟩))
      rw [hb1] at r1
      rw [r1, r2, Option.bind_some]
      refine ⟨I', J', ms', rw, gv, cl', if_neg (show ¬ nI 1 = (0 : Int32) by decide), rfl, r3, r4, r5, r6, r7, Or.inr ⟨z, m, rest, hrow, hfree, fun y y1 y2 y3 => r10 y (Nat.zero_le _) y1 y2 y3⟩, fun r' hr' => ⟨rfl, rfl, funext fun y => r11 r' y (fun q => hr' q.1)⟩⟩
    · -- nobody is
      have hfr2 : ∀ y, y < n → y = z ∨ agt (gv r y) m = false := fun y hy => by
        by_cases e : y = z
        · exact Or.inl e
        · right
          cases ha : agt (gv r y) m with
          | false => rfl
          | true => exact absurd ⟨y, hy, e, ha⟩ hfree
      rw [sv_free (I := I) (rw := rw) (gv := gv) (cl := cl) (M := M) hn h1 hr hz hm (hS r hr) n 0 am_fu (by omega) (fu_lt (by omega)) (fun y _ hy => hfr2 y hy), ccb, cb_free (J := J) (rw := rw) (gv := gv) (cl := cl) hn hr hz hm (hS r hr) n 0 am_fu (by omega) (fu_lt (by omega)) (fun y _ hy => hfr2 y hy), Option.bind_some]
      obtain ⟨I2, J2, ms2, s1, s2, s3, s4, s5, s6, s7⟩ := p_grant (k0 := bX11_serve_0 n fur) hn0 hn hr hz hm hMn (hPl _ _ _ _ hP) hrow hL hS hmst hj
      rw [hU] at s7
      have hP2 := hG ms rw gv cl z m rest ms2 hP hrow hfr2 s7
      have f66 : J2 0 66 = J 0 66 := s6.1 0 66 (by omega)
      obtain ⟨I', J', ms', rw', gv', cl', r1, r2, r3, r4, r5, r6, r7, r8, r9⟩ := ih (l3 + 1) fu fur I2 J2 ms2 (up1 rw r rest) (up2 gv r z (max (gv r z) m)) cl (by rw [up1_at]; rw [hrow] at hlen; simpa using hlen) (by omega) (by omega) (by omega) s3 s4 hP2 (by rw [s6.1 0 65 (by omega)]; exact hU) (by rw [f66]; exact hmst) (fun x hx => by rw [f66, s5.1 x 40 (by omega)]; exact hj x hx)
      refine ⟨I', J', ms', rw', gv', cl', ?_, ?_, r3, r4, r5, s5.tr r6, s6.tr r7, r8, fun r' hr' => ?_⟩
      · show (if nI 0 = (0 : Int32) then ((gX6_give n (nI r) (nI z) (nI m) I).bind (fun q5 => (gX6_dropFirst n (nI r) q5).bind (fun q6 => (gX10_post n (nI M) (nI z) (nI 1) (nI r) (nI m) q6).bind (fun q7 => bX10_serve_8 n fu (nI r) (nI M) (nI (l3 + 1)) q7)))) else _) = _
        rw [if_pos (show nI 0 = (0 : Int32) from rfl), ← r1]
        have : ∀ K : am_I → Option am_I, ((gX6_give n (nI r) (nI z) (nI m) I).bind (fun q5 => (gX6_dropFirst n (nI r) q5).bind (fun q6 => (gX10_post n (nI M) (nI z) (nI 1) (nI r) (nI m) q6).bind K))) = (((gX6_give n (nI r) (nI z) (nI m) I).bind (fun q5 => (gX6_dropFirst n (nI r) q5).bind (fun q6 => gX10_post n (nI M) (nI z) (nI 1) (nI r) (nI m) q6)))).bind K := fun K => by
          cases gX6_give n (nI r) (nI z) (nI m) I with
          | none => rfl
          | some a =>
            rw [Option.bind_some, Option.bind_some]
            cases gX6_dropFirst n (nI r) a with
            | none => rfl
            | some b => rfl
        rw [this, s1, Option.bind_some]
      · rw [s2]
        exact r2
      · obtain ⟨q1, q2, q3⟩ := r9 r' hr'
        exact ⟨q1.trans (up1_ne hr'), q2.trans (up2_r hr'), q3⟩
theorem p_srv {r M : Nat} {U : Nat → Int32} {P : List (Nat → Nat) → (Nat → List (Nat × Nat)) → (Nat → Nat → Nat) → (Nat → Nat → Nat) → Prop} (hn0 : 0 < n) (hn : n ≤ 4) (hr : r < 136) (hMn : M < n) (hPl : ∀ ms rw gv cl, P ms rw gv cl → ms.length < 128) (hB : cBk n T r M U P) (hG : cGr n T r M U P) (hL : MLr n T I J ms) (hS : MSr n I J rw gv cl) (hP : P ms rw gv cl) (hU : J 0 65 = U) (hmst : mst n (J 0 66) r n 0 = nI M) (hj : ∀ x, x < n → I x 40 6 = J 0 66 x) :
    ∃ I' J' ms' rw' gv' cl', gX10_serve n (nI r) I = some I' ∧ gX11_serve n (nI r) J = some J' ∧ MLr n T I' J' ms' ∧ MSr n I' J' rw' gv' cl' ∧ P ms' rw' gv' cl' ∧ fSI I I' ∧ fSJ J J' ∧ svd n (rw' r) (gv' r) (cl' r) ∧ (∀ r', ¬ r' = r → rw' r' = rw r' ∧ gv' r' = gv r' ∧ cl' r' = cl r') := by
  have h1 := hL.2.2.2.2.2.2.2.2.2.2
  have hl := (hS r hr).1
  obtain ⟨q1, q2⟩ := p_mst (I := I) (J := J) (r := r) hn0 hn hr h1 hj
  rw [hmst] at q1
  rw [gX10_serve, bX10_serve_0, q1, Option.bind_some, gX11_serve]
  exact p_serve hn0 hn hr hMn hPl hB hG (rw r).length 0 am_fu am_fu I J ms rw gv cl rfl (by omega) (fu_lt (by omega)) (fu_lt (by omega)) hL hS hP hU hmst hj
end SERVE
