
section ROUND
variable {n T e x : Nat} {I J I' J' I1 I2 J2 Jq : am_I}
theorem c_flg {k : Nat} (h : I x 44 5 = nI k) (hk : k ≤ 16) : gX3_isFlushing n x I = some (nI (if k = 0 then 0 else 1), I) := by
  rw [gX3_isFlushing, bX3_isFlushing_0, h]
  by_cases c : k = 0
  · rw [if_pos c, if_pos (show nI k ≤ 0 by rw [c]; decide)]
    rfl
  · rw [if_neg c, if_neg (show ¬ nI k ≤ 0 from fun q => absurd ((z_le (a := k) (b := 0) (by omega) (by omega)).mp q) (by omega))]
    rfl
theorem c_mayA {k : Nat} (h5 : I x 55 5 = nI 1) (h11 : I x 55 11 = nI 1) (h : I x 44 5 = nI k) (hk : k ≤ 16) (h0 : ¬ k = 0) : gX10_mayGoOn n x I = some (nI 0, I) := by
  rw [gX10_mayGoOn, bX10_mayGoOn_0, if_pos h5, if_neg (show ¬ I x 55 11 = 0 by rw [h11]; decide), c_flg h hk, Option.bind_some, if_neg h0]
  exact (if_neg (show ¬ nI 1 = 0 by decide)).trans rfl
theorem c_may32 (h0 : ¬ I x 55 0 = nI 10) : bX10_mayGoOn_32 n x x I = some (nI 1, am_up I x 55 11 (nI 0)) := by
  rw [bX10_mayGoOn_32, am_lt]
  exact (if_neg (by rw [z_upk, if_neg (by omega)]; exact h0)).trans rfl
theorem c_mayB {k : Nat} (h5 : I x 55 5 = nI 1) (h11 : I x 55 11 = nI 0 ∨ k = 0) (h : I x 44 5 = nI k) (hk : k ≤ 16) (h0 : ¬ I x 55 0 = nI 10) : gX10_mayGoOn n x I = some (nI 1, am_up I x 55 11 (nI 0)) := by
  rw [gX10_mayGoOn, bX10_mayGoOn_0, if_pos h5]
  by_cases c : I x 55 11 = 0
  · rw [if_pos c, c_may32 h0]
  · rw [if_neg c, c_flg h hk, Option.bind_some]
    have k0 : k = 0 := h11.elim (fun q => absurd q c) id
    rw [if_pos k0]
    exact (if_pos (rfl : nI 0 = 0)).trans (c_may32 h0)
theorem c_no {f l2 : Nat} (hl : l2 ≤ 273) (hm : gX10_mayGoOn n x I = some (nI 0, I1)) : bX10_goOn_2 n (f + 1) x (nI l2) I = some I1 := by
  conv => lhs; unfold bX10_goOn_2
  dsimp only
  rw [if_neg (show ¬ nI 274 ≤ nI l2 by rw [z_le (by omega) (by omega)]; omega), hm, Option.bind_some]
  exact (if_pos (rfl : nI 0 = 0)).trans rfl
theorem c_end1 {f l2 : Nat} (hl : l2 ≤ 273) (h5 : ¬ I x 55 5 = nI 1) : bX10_goOn_2 n (f + 1) x (nI l2) I = some I := by
  refine c_no hl ?_
  rw [gX10_mayGoOn, bX10_mayGoOn_0, if_neg h5]
  rfl
theorem c_stop {f l2 : Nat} (hl : l2 ≤ 273) (hm : gX10_mayGoOn n x I = some (nI 1, I1)) (hp : gX10_pinAll n x I1 = some (nI 0, I2)) : bX10_goOn_2 n (f + 1) x (nI l2) I = some I2 := by
  conv => lhs; unfold bX10_goOn_2
  dsimp only
  rw [if_neg (show ¬ nI 274 ≤ nI l2 by rw [z_le (by omega) (by omega)]; omega), hm, Option.bind_some]
  refine (if_neg (show ¬ nI 1 = 0 by decide)).trans ?_
  dsimp only
  rw [hp, Option.bind_some]
  exact (if_pos (rfl : nI 0 = 0)).trans rfl
theorem c_try {f l2 : Nat} {I3 : am_I} (hl : l2 ≤ 273) (hm : gX10_mayGoOn n x I = some (nI 1, I1)) (hp : gX10_pinAll n x I1 = some (nI 1, I2)) (hr : gX9_run n x (am_up I2 x 55 9 (I2 x 55 9 + nI 1)) = some I3) : bX10_goOn_2 n (f + 1) x (nI l2) I = if I3 0 15 9 = nI 1 then bX10_goOn_64 n (bX10_goOn_2 n f) x (nI l2) I3 else (gX9_undo n I3).bind (fun q5 => bX10_goOn_64 n (bX10_goOn_2 n f) x (nI l2) q5) := by
  conv => lhs; unfold bX10_goOn_2
  dsimp only
  rw [if_neg (show ¬ nI 274 ≤ nI l2 by rw [z_le (by omega) (by omega)]; omega), hm, Option.bind_some]
  refine (if_neg (show ¬ nI 1 = 0 by decide)).trans ?_
  dsimp only
  rw [hp, Option.bind_some]
  refine (if_neg (show ¬ nI 1 = 0 by decide)).trans ?_
  rw [am_lt]
  dsimp only
  rw [hr, Option.bind_some]
theorem r_off {g : Nat} {l : Int32} : bX11_goOn_6 n (g + 1) l (nI 0) J = some J := by
  conv => lhs; unfold bX11_goOn_6
  dsimp only
  exact if_pos (rfl : nI 0 = 0)
theorem r_wait {g : Nat} (hx : x < 4) (hk : ¬ J 0 82 x = nI 10) (h93 : ¬ J 0 93 x = nI 0) (h72 : ¬ J 0 72 x ≤ 0) : bX11_goOn_6 n (g + 2) (nI x) (nI 1) J = some J := by
  conv => lhs; unfold bX11_goOn_6
  dsimp only
  refine (if_neg (show ¬ nI 1 = 0 by decide)).trans ?_
  refine (am_gd_of (by rw [z_inb (by omega)]; exact decide_eq_true hx)).trans ?_
  rw [z_clamp (by omega), if_neg hk]
  refine (am_gd_of (by rw [z_inb (by omega)]; exact decide_eq_true hx)).trans ?_
  refine (if_neg (show ¬ J 0 93 x = 0 from h93)).trans ?_
  refine (am_gd_of (by rw [z_inb (by omega)]; exact decide_eq_true hx)).trans ?_
  rw [if_neg h72, r_off]
theorem r_go {g : Nat} (hx : x < 4) (hk : ¬ J 0 82 x = nI 10) (h : J 0 93 x = nI 0 ∨ J 0 72 x ≤ 0) : bX11_goOn_6 n (g + 1) (nI x) (nI 1) J = bX11_goOn_54 n (bX11_goOn_6 n g) (nI x) J := by
  conv => lhs; unfold bX11_goOn_6
  dsimp only
  refine (if_neg (show ¬ nI 1 = 0 by decide)).trans ?_
  refine (am_gd_of (by rw [z_inb (by omega)]; exact decide_eq_true hx)).trans ?_
  rw [z_clamp (by omega), if_neg hk]
  refine (am_gd_of (by rw [z_inb (by omega)]; exact decide_eq_true hx)).trans ?_
  by_cases c : J 0 93 x = 0
  · exact if_pos c
  · refine (if_neg c).trans ?_
    refine (am_gd_of (by rw [z_inb (by omega)]; exact decide_eq_true hx)).trans ?_
    exact if_pos (h.elim (fun q => absurd q c) id)
theorem r_stop {g : Nat} (hx : x < 4) (hp : gX11_pinAll n (nI x) (am_up J 0 93 x (nI 0)) = some (nI 0, J2)) : bX11_goOn_54 n (bX11_goOn_6 n (g + 1)) (nI x) J = some J2 := by
  unfold bX11_goOn_54
  refine (am_gd_of (by rw [z_inb (by omega)]; exact decide_eq_true hx)).trans ?_
  rw [z_clamp (by omega), am_lt, hp, Option.bind_some]
  refine (if_pos (rfl : nI 0 = 0)).trans ?_
  unfold bX11_goOn_81 bX11_goOn_82
  exact r_off
theorem r_try {g a : Nat} {J3 : am_I} (hx : x < 4) (ha : a ≤ 1) (hp : gX11_pinAll n (nI x) (am_up J 0 93 x (nI 0)) = some (nI 1, J2)) (ht : gX11_isTriedAgain n (nI x) J2 = some (nI a, J3)) : bX11_goOn_54 n (bX11_goOn_6 n g) (nI x) J = bX11_goOn_6 n g (nI x) (nI a) J3 := by
  unfold bX11_goOn_54
  refine (am_gd_of (by rw [z_inb (by omega)]; exact decide_eq_true hx)).trans ?_
  rw [z_clamp (by omega), am_lt, hp, Option.bind_some]
  refine (if_neg (show ¬ nI 1 = 0 by decide)).trans ?_
  dsimp only
  rw [ht, Option.bind_some]
  have : a = 0 ∨ a = 1 := by omega
  rcases this with rfl | rfl
  · refine (if_pos (rfl : nI 0 = 0)).trans ?_
    unfold bX11_goOn_81 bX11_goOn_82
    rfl
  · refine (if_neg (show ¬ nI 1 = 0 by decide)).trans ?_
    unfold bX11_goOn_82
    rfl
theorem r_tri (hx : x < 4) (ha : gX11_attempt n (nI x) (am_up J 0 91 x (J 0 91 x + nI 1)) = some Jq) : gX11_isTriedAgain n (nI x) J = if Jq 0 60 52 = (-1 : Int32) then (if Jq 0 60 54 = 0 then bX11_isTriedAgain_133 n am_fu (nI x) (Jq 0 70 x) (nI 0) Jq else ((gX11_undo n Jq).bind (fun q6 => (gX11_note n (nI x) (nI 3) (q6 0 60 54) (nI 0) q6).bind (fun q7 => (gX11_end n (nI x) (nI 3) (q7 0 60 54) q7).bind (fun q8 => some (nI 0, q8)))))) else ((gX11_undo n Jq).bind (fun q9 => (gX11_at n (nI x) (q9 0 60 52) q9).bind (fun q10 => am_gd (am_inb q10.1 544) (if (q10.2 0 81 q10.1.toNatClampNeg) = 0 then (am_gd (am_inb (nI x) 4) (bX11_isTriedAgain_65 n (nI x) ((q10.2 0 92 (nI x).toNatClampNeg) + (nI 1)) (nI x) q10.2)) else (am_gd (am_inb (nI x) 4) (bX11_isTriedAgain_65 n (nI x) (q10.2 0 92 (nI x).toNatClampNeg) (nI x) q10.2)))))) := by
  rw [gX11_isTriedAgain, bX11_isTriedAgain_0]
  refine (am_gd_of (by rw [z_inb (by omega)]; exact decide_eq_true hx)).trans ?_
  refine (am_gd_of (by rw [z_inb (by omega)]; exact decide_eq_true hx)).trans ?_
  rw [am_lt]
  have e : (nI x).toNatClampNeg = x := z_clamp (by omega)
  have ha' : gX11_attempt n (nI x) (am_up J 0 91 (nI x).toNatClampNeg (J 0 91 (nI x).toNatClampNeg + nI 1)) = some Jq := by rw [e]; exact ha
  rw [ha', Option.bind_some]
  by_cases c : Jq 0 60 52 = (-1 : Int32)
  · rw [if_pos c, if_pos c]
    by_cases d : Jq 0 60 54 = 0
    · rw [if_pos d, if_pos d]
      refine (am_gd_of (by rw [z_inb (by omega)]; exact decide_eq_true hx)).trans ?_
      rw [e]
    · rw [if_neg d, if_neg d]
  · rw [if_neg c, if_neg c]
end ROUND
