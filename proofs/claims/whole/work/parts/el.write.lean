
section WRT
variable {n T e x : Nat} {I J I' J' : am_I} {lg fb : List Nat} {fq mk : Nat}
variable {k30 : Int32 → Int32 → Int32 → am_I → Option ((Option Int32 ⊕ Nat) × am_I)} {a1 a2 a3 : Int32} {fu f : Nat}
theorem t_105 (hx : x < n) (hn : n ≤ 4) (h : gX10_writeNext n x I = some (nI 0, I')) : bX10_tick_105 n k30 (fu + 1) a1 a2 a3 (nI x) I = bX10_tick_105 n k30 fu a1 a2 a3 (nI (x + 1)) I' := by
  conv => lhs; unfold bX10_tick_105
  dsimp only
  rw [if_neg (show ¬ nI n ≤ nI x by rw [z_le (by omega) (by omega)]; omega), am_gd_of (by rw [z_inb (by omega)]; exact decide_eq_true hx), z_clamp (by omega), h, Option.bind_some]
  refine (if_pos (rfl : nI 0 = 0)).trans ?_
  unfold bX10_tick_140
  rw [nI_add]
theorem t_105g {I1 : am_I} (hx : x < n) (hn : n ≤ 4) (h : gX10_writeNext n x I = some (nI 1, I1)) (h2 : gX10_goOn n x I1 = some I') : bX10_tick_105 n k30 (fu + 1) a1 a2 a3 (nI x) I = bX10_tick_105 n k30 fu a1 a2 a3 (nI (x + 1)) I' := by
  have g : am_inb (nI x) n = true := by rw [z_inb (by omega)]; exact decide_eq_true hx
  conv => lhs; unfold bX10_tick_105
  dsimp only
  rw [if_neg (show ¬ nI n ≤ nI x by rw [z_le (by omega) (by omega)]; omega), am_gd_of g, z_clamp (by omega), h, Option.bind_some]
  refine (if_neg (show ¬ nI 1 = 0 by decide)).trans ?_
  refine (am_gd_of g).trans ?_
  dsimp only
  rw [h2, Option.bind_some]
  unfold bX10_tick_140
  rw [nI_add]
theorem r_99s (hx : x < n) (hn : n ≤ 4) (h1 : J 0 60 1 = nI n) (h : J 0 65 x = nI 0 ∨ J 0 72 x = nI 0) : bX11_oneTick_99 n (f + 1) (nI x) J = bX11_oneTick_99 n f (nI (x + 1)) J := by
  have g : am_inb (nI x) 4 = true := by rw [z_inb (by omega)]; exact decide_eq_true (by omega)
  conv => lhs; unfold bX11_oneTick_99
  dsimp only
  rw [if_neg (show ¬ J 0 60 1 ≤ nI x by rw [h1, z_le (by omega) (by omega)]; omega), am_gd_of g, z_clamp (by omega), am_gd_of g]
  unfold bX11_oneTick_209
  rw [nI_add]
  by_cases c : J 0 65 x = 0
  · rw [if_pos c]
  · rw [if_neg c, if_pos (show J 0 72 x = 0 from h.resolve_left c)]
theorem r_99w {J1 J3 : am_I} {b : Nat} (hx : x < n) (hn : n ≤ 4) (h1 : J 0 60 1 = nI n) (h65 : ¬ J 0 65 x = nI 0) (h72 : ¬ J 0 72 x = nI 0) (h73 : J 0 73 x = nI fq) (hq : fq < 36) (hp : gX11_putWords n (J 0 74 (36 * x + fq)) (nI (16 * (36 * x + fq))) (nI 16) J = some J1) (hc : gX11_isCounting n (nI x) (am_up J1 0 60 48 (J1 0 60 48 + nI 1)) = some (nI b, am_up J1 0 60 48 (J1 0 60 48 + nI 1))) (hb : b ≤ 1) (hs0 : b = 0 → J3 = am_up J1 0 60 48 (J1 0 60 48 + nI 1)) (hs1 : b = 1 → gX11_noteSafe n (nI x) (am_up J1 0 60 48 (J1 0 60 48 + nI 1)) = some J3)
    (hend : (J3 0 73 x + nI 1 = J3 0 72 x ∧ gX11_flushOver n (nI x) (am_up J3 0 73 x (J3 0 73 x + nI 1)) = some J') ∨ (¬ J3 0 73 x + nI 1 = J3 0 72 x ∧ J' = am_up J3 0 73 x (J3 0 73 x + nI 1))) : bX11_oneTick_99 n (f + 1) (nI x) J = bX11_oneTick_99 n f (nI (x + 1)) J' := by
  have g : am_inb (nI x) 4 = true := by rw [z_inb (by omega)]; exact decide_eq_true (by omega)
  have g2 : am_inb (nI (36 * x + fq)) 144 = true := by rw [z_inb (by omega)]; exact decide_eq_true (by omega)
  have kx : (nI x).toNatClampNeg = x := z_clamp (by omega)
  have e179 : bX11_oneTick_179 n (bX11_oneTick_99 n f) (nI x) J3 = bX11_oneTick_99 n f (nI (x + 1)) J' := by
    unfold bX11_oneTick_179
    rw [am_gd_of g, am_gd_of g, am_lt, am_gd_of g, am_gd_of g, kx]
    have e1 : am_up J3 0 73 x (J3 0 73 x + nI 1) 0 73 x = J3 0 73 x + nI 1 := by rw [z_upk, if_pos rfl]
    have e2 : am_up J3 0 73 x (J3 0 73 x + nI 1) 0 72 x = J3 0 72 x := by rw [z_upj _ _ _ _ _ _ _ (by omega)]
    rw [e1, e2]
    unfold bX11_oneTick_209
    rw [nI_add]
    rcases hend with ⟨q1, q2⟩ | ⟨q1, q2⟩
    · rw [if_pos q1, q2, Option.bind_some]
    · rw [if_neg q1, q2]
  conv => lhs; unfold bX11_oneTick_99
  dsimp only
  rw [if_neg (show ¬ J 0 60 1 ≤ nI x by rw [h1, z_le (by omega) (by omega)]; omega), am_gd_of g, kx, if_neg (show ¬ J 0 65 x = 0 from h65), am_gd_of g, if_neg (show ¬ J 0 72 x = 0 from h72), am_gd_of g, h73, pk_mul, nI_add, am_gd_of g2, z_clamp (by omega), pk_mul, hp, Option.bind_some, am_lt, hc, Option.bind_some]
  have hb01 : b = 0 ∨ b = 1 := by omega
  rcases hb01 with rfl | rfl
  · refine (if_pos (rfl : nI 0 = 0)).trans ?_
    dsimp only
    rw [← hs0 rfl]
    exact e179
  · refine (if_neg (show ¬ nI 1 = 0 by decide)).trans ?_
    dsimp only
    rw [hs1 rfl, Option.bind_some]
    exact e179
theorem r_cnt (hx : x < 4) (h73 : J 0 73 x = nI fq) (h72 : J 0 72 x = nI (2 * fb.length + 3)) (hq : fq < 100) (hl : fb.length ≤ 16) : gX11_isCounting n (nI x) J = some (nI (if fq = fb.length + 1 then 1 else 0), J) := by
  have g : am_inb (nI x) 4 = true := by rw [z_inb (by omega)]; exact decide_eq_true hx
  rw [gX11_isCounting, bX11_isCounting_0, am_gd_of g, am_gd_of g, z_clamp (by omega), h73, h72, pk_mul, nI_add]
  by_cases c : fq = fb.length + 1
  · rw [if_pos c, if_pos (by rw [z_eq (by omega) (by omega)]; omega)]; rfl
  · rw [if_neg c, if_neg (by rw [z_eq (by omega) (by omega)]; omega)]; rfl
theorem c_hd (h5 : I x 44 5 = nI fb.length) (h6 : I x 44 6 = nI fq) (hq : fq < 100) (hl : fb.length ≤ 16) (hne : ¬ fb = []) : gX3_isAtHead n x I = some (nI (if fq = fb.length + 1 then 1 else 0), I) := by
  have hp : 0 < fb.length := Nat.pos_of_ne_zero (fun q => hne (List.eq_nil_of_length_eq_zero q))
  rw [gX3_isAtHead, bX3_isAtHead_0, h5, if_neg (show ¬ nI fb.length ≤ 0 from fun q => absurd ((z_le (a := fb.length) (b := 0) (by omega) (by omega)).mp q) (by omega)), h6, nI_add]
  by_cases c : fq = fb.length + 1
  · rw [if_pos c, if_pos (by rw [z_eq (by omega) (by omega)]; omega)]; rfl
  · rw [if_neg c, if_neg (by rw [z_eq (by omega) (by omega)]; omega)]; rfl
/-- the class writes -/
theorem c_wn {I1 I3 : am_I} {b a : Nat} (h40 : I x 40 5 = nI 1) (h5 : I x 44 5 = nI fb.length) (hl : fb.length ≤ 16) (hne : ¬ fb = []) (hp : gX3_write n x (nI 16) I = some I1) (hc : gX3_isAtHead n x (am_up I1 0 0 8 (I1 0 0 8 + nI 1)) = some (nI b, am_up I1 0 0 8 (I1 0 0 8 + nI 1))) (hb : b ≤ 1) (hs0 : b = 0 → I3 = am_up I1 0 0 8 (I1 0 0 8 + nI 1)) (hs1 : b = 1 → gX0_makeSafe n (am_up I1 0 0 8 (I1 0 0 8 + nI 1) x 40 0) (am_up I1 0 0 8 (I1 0 0 8 + nI 1) x 44 8) (am_up I1 0 0 8 (I1 0 0 8 + nI 1)) = some I3) (h35 : I3 x 44 5 = nI fb.length) (h36 : I3 x 44 6 = nI fq) (hq : fq < 2 * fb.length + 3) (ha : a ≤ 1)
    (hend : (fq + 1 = 2 * fb.length + 3 ∧ gX10_endFlush n x (am_up I3 x 44 6 (nI (fq + 1))) = some (nI a, I')) ∨ (¬ fq + 1 = 2 * fb.length + 3 ∧ a = 0 ∧ I' = am_up I3 x 44 6 (nI (fq + 1)))) : gX10_writeNext n x I = some (nI a, I') := by
  have hpos : ¬ fb.length = 0 := fun q => hne (List.eq_nil_of_length_eq_zero q)
  have k5 : am_up I3 x 44 6 (nI (fq + 1)) x 44 5 = nI fb.length := by rw [z_upk, if_neg (by omega)]; exact h35
  have k6 : am_up I3 x 44 6 (nI (fq + 1)) x 44 6 = nI (fq + 1) := by rw [z_upk, if_pos rfl]
  have hleft : gX3_left n x (am_up I3 x 44 6 (nI (fq + 1))) = some (nI (2 * fb.length + 3 - (fq + 1)), am_up I3 x 44 6 (nI (fq + 1))) := by
    rw [gX3_left, bX3_left_0, k5, k6, if_neg (show ¬ nI fb.length = 0 from fun q => hpos ((z_eq (a := fb.length) (b := 0) (by omega) (by omega)).mp q)), pk_mul, nI_add, pk_sub (by omega)]
    rfl
  have e63 : bX10_writeNext_63 n x x I3 = some (nI a, I') := by
    unfold bX10_writeNext_63
    rw [am_lt, h36, nI_add, hleft, Option.bind_some]
    rcases hend with ⟨q1, q2⟩ | ⟨q1, q2, q3⟩
    · refine (if_pos (show nI (2 * fb.length + 3 - (fq + 1)) = 0 by rw [show 2 * fb.length + 3 - (fq + 1) = 0 from by omega]; rfl)).trans ?_
      dsimp only
      rw [q2, Option.bind_some]
      have h01 : a = 0 ∨ a = 1 := by omega
      rcases h01 with rfl | rfl
      · exact (if_pos (rfl : nI 0 = 0)).trans rfl
      · exact (if_neg (show ¬ nI 1 = 0 by decide)).trans rfl
    · refine (if_neg (show ¬ nI (2 * fb.length + 3 - (fq + 1)) = 0 from fun q => absurd ((z_eq (a := 2 * fb.length + 3 - (fq + 1)) (b := 0) (by omega) (by omega)).mp q) (by omega))).trans ?_
      dsimp only
      rw [q2, q3]
      rfl
  rw [gX10_writeNext, bX10_writeNext_0, if_neg (show ¬ I x 40 5 = 0 by rw [h40]; decide), c_flg h5 hl, if_neg hpos, Option.bind_some]
  refine (if_neg (show ¬ nI 1 = 0 by decide)).trans ?_
  dsimp only
  rw [hp, Option.bind_some, am_lt, hc, Option.bind_some]
  have hb01 : b = 0 ∨ b = 1 := by omega
  rcases hb01 with rfl | rfl
  · refine (if_pos (rfl : nI 0 = 0)).trans ?_
    dsimp only
    rw [← hs0 rfl]
    exact e63
  · refine (if_neg (show ¬ nI 1 = 0 by decide)).trans ?_
    dsimp only
    rw [hs1 rfl, Option.bind_some]
    exact e63
theorem c_wn0 (h : I x 40 5 = nI 0 ∨ I x 44 5 = nI 0) : gX10_writeNext n x I = some (nI 0, I) := by
  rw [gX10_writeNext, bX10_writeNext_0]
  by_cases c : I x 40 5 = 0
  · rw [if_pos c]; rfl
  · rw [if_neg c, c_flg (k := 0) (h.resolve_left c) (by omega), Option.bind_some]
    exact (if_pos (rfl : nI 0 = 0)).trans rfl
theorem jn_w1 (h : JNr x I J lg fb fq mk) (hne : ¬ fb = []) (hq : ¬ fq + 1 = 2 * fb.length + 3) (h44 : ∀ k, ¬ k = 6 → I' x 44 k = I x 44 k) (h6 : I' x 44 6 = nI (fq + 1)) (oI : ∀ b, 45 ≤ b → b ≤ 47 → I' x b = I x b) (oJ : ∀ j, 69 ≤ j → j ≤ 75 → ¬ j = 73 → J' 0 j = J 0 j) (h73 : J' 0 73 x = nI (fq + 1)) : JNr x I' J' lg fb (fq + 1) mk := by
  obtain ⟨a, b1, b2, b3, b4, b5, b6, b7, b8, b9, c1⟩ := h
  obtain ⟨d1, d2, d3, d4, d5, d6⟩ := c1 hne
  unfold JNr LGr WR at *
  rw [h44 2 (by omega), h44 0 (by omega), h44 7 (by omega), h44 5 (by omega), h44 8 (by omega), h6, h73, oI 45 (by omega) (by omega), oI 46 (by omega) (by omega), oI 47 (by omega) (by omega), oJ 69 (by omega) (by omega) (by omega), oJ 70 (by omega) (by omega) (by omega), oJ 71 (by omega) (by omega) (by omega), oJ 72 (by omega) (by omega) (by omega), oJ 74 (by omega) (by omega) (by omega), oJ 75 (by omega) (by omega) (by omega)]
  exact ⟨a, b1, b2, b3, b4, b5, b6, b7, b8, fun q => absurd q hne, fun _ => ⟨by omega, rfl, rfl, d4, d5, d6⟩⟩
theorem jn_w2 {fq' : Nat} (h : JNr x I J lg fb fq mk) (h44 : ∀ k, ¬ k = 5 → ¬ k = 6 → I' x 44 k = I x 44 k) (h5 : I' x 44 5 = nI 0) (oI : ∀ b, 45 ≤ b → b ≤ 47 → I' x b = I x b) (oJ : ∀ j, 69 ≤ j → j ≤ 71 → J' 0 j = J 0 j) (h72 : J' 0 72 x = nI 0) (h73 : J' 0 73 x = nI 0) : JNr x I' J' lg [] fq' mk := by
  obtain ⟨a, b1, b2, b3, b4, b5, b6, b7, b8, b9, c1⟩ := h
  unfold JNr LGr at *
  rw [h44 2 (by omega) (by omega), h44 0 (by omega) (by omega), h44 7 (by omega) (by omega), h5, oI 45 (by omega) (by omega), oJ 69 (by omega) (by omega), oJ 70 (by omega) (by omega), oJ 71 (by omega) (by omega)]
  exact ⟨a, b1, b2, b3, b4, b5, rfl, Nat.zero_le _, fun b hb => absurd hb (by simp), fun _ => ⟨h72, h73⟩, fun q => absurd rfl q⟩
end WRT
