
section TICK
variable {n : Nat} {k30 : Int32 → Int32 → Int32 → am_I → Option ((Option Int32 ⊕ Nat) × am_I)} {a1 a2 a3 : Int32}
theorem wr_lp {T S : Nat} {g : Nat → Nat} (hn : n ≤ 4) (hS : S ≤ 190) : ∀ (q x fu f e : Nat) (I J : am_I), x + q = n → q < fu → q < f → GS n T e g I J → e + cs n J = S → ∃ I' J' e', bX10_tick_105 n k30 fu a1 a2 a3 (nI x) I = k30 a1 a2 (a3 + nI 1) I' ∧ bX11_oneTick_99 n f (nI x) J = some J' ∧ GS n T e' g I' J' ∧ e' + cs n J' = S ∧ J' 0 60 0 = J 0 60 0 := by
  intro q
  induction q with
  | zero =>
    intro x fu f e I J hx hfu hf hG he
    obtain ⟨fu, rfl⟩ : ∃ f, fu = f + 1 := ⟨fu - 1, by omega⟩
    obtain ⟨f, rfl⟩ : ∃ f', f = f' + 1 := ⟨f - 1, by omega⟩
    refine ⟨I, J, e, ?_, ?_, hG, he, rfl⟩
    · conv => lhs; unfold bX10_tick_105
      dsimp only
      rw [if_pos (by rw [z_le (by omega) (by omega)]; omega)]
    · obtain ⟨rw, gv, cl, A, jl, ⟨ms, H, B, K, lg, fb, fq, mk, h⟩, -⟩ := hG
      have h1 : J 0 60 1 = nI n := h.2.1.2.2.2.2.2.2.2.2.2.2
      conv => lhs; unfold bX11_oneTick_99
      dsimp only
      rw [if_pos (by rw [h1, z_le (by omega) (by omega)]; omega)]
  | succ q ih =>
    intro x fu f e I J hx hfu hf hG he
    obtain ⟨fu, rfl⟩ : ∃ f, fu = f + 1 := ⟨fu - 1, by omega⟩
    obtain ⟨f, rfl⟩ : ∃ f', f = f' + 1 := ⟨f - 1, by omega⟩
    obtain ⟨I1, J1, e1, k1, k2, k3, k4, k5⟩ := gs_wr (k30 := k30) (a1 := a1) (a2 := a2) (a3 := a3) (fu := fu) (f := f) (x := x) (by omega) hG (by omega)
    obtain ⟨I2, J2, e2, r1, r2, r3, r4, r5⟩ := ih (x + 1) fu f e1 I1 J1 (by omega) (by omega) (by omega) k3 (by omega)
    exact ⟨I2, J2, e2, by rw [k1]; exact r1, by rw [k2]; exact r2, r3, r4, r5.trans k5⟩
/-- A TICK, both sides -/
theorem one_t {T e S : Nat} {g : Nat → Nat} {I J : am_I} (hS : S ≤ 190) (hG : GS n T e g I J) (h01 : g 0 = g 1) (hT : T < 90000) (he : e + cs n J = S) : ∃ I' J' e' g', am_lt (am_up I 0 0 7 (I 0 0 7 + nI 1)) (fun I1 => (gX5_gather n (I1 0 0 7) I1).bind (fun q2 => bX10_tick_61 n k30 am_fu a1 a2 a3 q2.1 (nI 0) q2.2)) = k30 a1 a2 (a3 + nI 1) I' ∧ gX11_oneTick n J = some J' ∧ GS n (T + 1) e' g' I' J' ∧ g' 0 = g' 1 ∧ e' + cs n J' = S ∧ J' 0 60 0 = J 0 60 0 := by
  have hn : n ≤ 4 := by
    obtain ⟨rw, gv, cl, A, jl, ⟨ms, H, B, K, lg, fb, fq, mk, h⟩, -⟩ := hG
    exact h.1.2
  obtain ⟨f, hf, hf1⟩ := fu_ex
  obtain ⟨I1, c, g1, r1, r2, r3, r4, r5, r6⟩ := gs_time hG h01 hT
  have r2' := r2
  obtain ⟨rw1, gv1, cl1, A1, jl1, ⟨ms1, H1, B1, K1, lg1, fb1, fq1, mk1, h1⟩, -⟩ := r2'
  have hlen := pl_len h1.2.2.2.2.2.2.1 h1.1.2
  obtain ⟨I2, J2, e2, g2, w1, w2, w3, w4, w5, w6⟩ := dl_lp (k30 := k30) (a1 := a1) (a2 := a2) (a3 := a3) hS 5000 am_fu am_fu e ms1.length g1 I1 (am_up J 0 60 2 (J 0 60 2 + nI 1)) r2 h1.2.1.2.1.1 (by omega) (by omega) (by rw [hf]; omega) (by rw [hf]; omega) (by omega) (by rw [cs_time]; exact he)
  obtain ⟨I3, J3, e3, v1, v2, v3, v4, v5⟩ := wr_lp (k30 := k30) (a1 := a1) (a2 := a2) (a3 := a3) hn hS n 0 am_fu am_fu e2 I2 J2 (by omega) (by rw [hf]; omega) (by rw [hf]; omega) w3 w5
  rw [r3, r4] at w1
  rw [r5] at w2
  refine ⟨I3, J3, e3, g2, ?_, ?_, v3, w4, v4, by rw [v5, w6, z_upk, if_neg (by omega)]⟩
  · rw [am_lt, r1, Option.bind_some]
    dsimp only
    rw [w1, v1]
  · rw [gX11_oneTick, bX11_oneTick_0, am_lt, w2, v2]
/-- so many ticks -/
theorem tick_lp {S N : Nat} {l2 : Int32} (hS : S ≤ 190) (hN : N ≤ 100) : ∀ (q i fu f T e : Nat) (g : Nat → Nat) (I J : am_I), i + q = N → q < fu → q < f → GS n T e g I J → g 0 = g 1 → T + q < 90000 → e + cs n J = S → ∃ I' J' e' g', bX10_tick_30 n fu (nI N) l2 (nI i) I = some (.inl (some (nI e' - l2)), I') ∧ bX11_tick_33 n f (nI N) l2 (nI i) J = some (nI e' - l2, J') ∧ GS n (T + q) e' g' I' J' ∧ g' 0 = g' 1 ∧ e' + cs n J' = S ∧ J' 0 60 0 = J 0 60 0 := by
  intro q
  induction q with
  | zero =>
    intro i fu f T e g I J hi hfu hf hG h01 hT he
    obtain ⟨fu, rfl⟩ : ∃ f, fu = f + 1 := ⟨fu - 1, by omega⟩
    obtain ⟨f, rfl⟩ : ∃ f', f = f' + 1 := ⟨f - 1, by omega⟩
    have hG' := hG
    obtain ⟨rw, gv, cl, A, jl, ⟨ms, H, B, K, lg, fb, fq, mk, h⟩, -⟩ := hG'
    refine ⟨I, J, e, g, ?_, ?_, hG, h01, he, rfl⟩
    · conv => lhs; unfold bX10_tick_30
      dsimp only
      rw [if_pos (by rw [z_le (by omega) (by omega)]; omega), h.2.2.2.1.2.1]
    · conv => lhs; unfold bX11_tick_33
      dsimp only
      rw [if_pos (by rw [z_le (by omega) (by omega)]; omega), h.2.2.2.1.2.2.1]
  | succ q ih =>
    intro i fu f T e g I J hi hfu hf hG h01 hT he
    obtain ⟨fu, rfl⟩ : ∃ f, fu = f + 1 := ⟨fu - 1, by omega⟩
    obtain ⟨f, rfl⟩ : ∃ f', f = f' + 1 := ⟨f - 1, by omega⟩
    obtain ⟨I1, J1, e1, g1, r1, r2, r3, r4, r5, r6⟩ := one_t (k30 := bX10_tick_30 n fu) (a1 := nI N) (a2 := l2) (a3 := nI i) hS hG h01 (by omega) he
    obtain ⟨I2, J2, e2, g2, w1, w2, w3, w4, w5, w6⟩ := ih (i + 1) fu f (T + 1) e1 g1 I1 J1 (by omega) (by omega) (by omega) r3 r4 (by omega) r5
    refine ⟨I2, J2, e2, g2, ?_, ?_, by rw [show T + (q + 1) = T + 1 + q from by omega]; exact w3, w4, w5, w6.trans r6⟩
    · conv => lhs; unfold bX10_tick_30
      dsimp only
      rw [if_neg (by rw [z_le (by omega) (by omega)]; omega), r1, nI_add]
      exact w1
    · conv => lhs; unfold bX11_tick_33
      dsimp only
      rw [if_neg (by rw [z_le (by omega) (by omega)]; omega), r2, Option.bind_some, nI_add]
      exact w2
end TICK
