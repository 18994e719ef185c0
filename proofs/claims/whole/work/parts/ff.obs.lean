
section OBS
variable {n k T e : Nat} {I J : am_I}
theorem x_inL {m : Nat} (hm : m < 2 ^ 30) {v : Int32} (hv : v = nI m) (p : Int32) : (∃ a, a < m ∧ p = nI a ∧ gX11_in n p (nI 0) (v - nI 1) J = some (nI 1, J)) ∨ ((p < nI 0 ∨ nI m ≤ p) ∧ gX11_in n p (nI 0) (v - nI 1) J = some (nI 0, J)) := by
  subst hv
  rcases p_rng p (m := m) (by omega) with ⟨a, ha, rfl⟩ | q
  · refine Or.inl ⟨a, ha, rfl, ?_⟩
    rw [pk_sub (by omega)]
    exact x_in1 (by omega) (by omega) (by omega)
  · refine Or.inr ⟨q, ?_⟩
    by_cases c : m = 0
    · subst c
      rw [gX11_in, bX11_in_0]
      by_cases d : p < nI 0
      · rw [if_pos d]
        rfl
      · have d' := d
        rw [Int32.lt_iff_toInt_lt, nI_toInt (by omega)] at d'
        rw [if_neg d, if_pos]
        · rfl
        · rw [Int32.lt_iff_toInt_lt, show (nI 0 - nI 1).toInt = -1 from by decide]
          omega
    · rw [pk_sub (by omega)]
      exact x_in0 (by rw [show m - 1 + 1 = m by omega]; exact q) (by omega)
theorem x_isw (p q : Int32) : (∃ b i, b < 640 ∧ i < 16 ∧ p = nI b ∧ q = nI i ∧ gX10_isWord n p q I = some (nI 1, I) ∧ gX11_isWord n p q J = some (nI 1, J)) ∨ (gX10_isWord n p q I = some (nI 0, I) ∧ gX11_isWord n p q J = some (nI 0, J)) := by
  rcases p_rng p (m := 640) (by omega) with ⟨b, hb, rfl⟩ | w
  · rcases p_rng q (m := 16) (by omega) with ⟨i, hi, rfl⟩ | w
    · refine Or.inl ⟨b, i, hb, hi, rfl, rfl, ?_, ?_⟩
      · rw [gX10_isWord, bX10_isWord_0, z_0, if_neg (by rw [z_lt (by omega) (by omega)]; omega), if_neg (by rw [z_le (by omega) (by omega)]; omega), if_neg (by rw [z_lt (by omega) (by omega)]; omega), if_neg (by rw [z_le (by omega) (by omega)]; omega)]
        rfl
      · rw [gX11_isWord, bX11_isWord_0, x_in1 (by omega) (by omega) (by omega), Option.bind_some]
        dsimp only
        rw [if_neg n10, x_in1 (by omega) (by omega) (by omega), Option.bind_some]
        dsimp only
        rw [if_neg n10]
        rfl
    · refine Or.inr ⟨?_, ?_⟩
      · rw [gX10_isWord, bX10_isWord_0, z_0, if_neg (by rw [z_lt (by omega) (by omega)]; omega), if_neg (by rw [z_le (by omega) (by omega)]; omega)]
        by_cases c : q < nI 0
        · rw [if_pos c]
          rfl
        · rw [if_neg c, if_pos (w.resolve_left c)]
          rfl
      · rw [gX11_isWord, bX11_isWord_0, x_in1 (by omega) (by omega) (by omega), Option.bind_some]
        dsimp only
        rw [if_neg n10, x_in0 w (by omega), Option.bind_some]
        dsimp only
        rw [if_pos n00]
        rfl
  · refine Or.inr ⟨?_, ?_⟩
    · rw [gX10_isWord, bX10_isWord_0, z_0]
      by_cases c : p < nI 0
      · rw [if_pos c]
        rfl
      · rw [if_neg c, if_pos (w.resolve_left c)]
        rfl
    · rw [gX11_isWord, bX11_isWord_0, x_in0 w (by omega), Option.bind_some]
      dsimp only
      rw [if_pos n00]
      rfl
theorem x_res (p : Int32) : (∃ r, r < 136 ∧ p = nI r ∧ gX10_isResource n p I = some (nI 1, I) ∧ gX11_in n p (nI 0) (nI 135) J = some (nI 1, J)) ∨ (gX10_isResource n p I = some (nI 0, I) ∧ gX11_in n p (nI 0) (nI 135) J = some (nI 0, J)) := by
  rcases p_rng p (m := 136) (by omega) with ⟨r, hr, rfl⟩ | w
  · exact Or.inl ⟨r, hr, rfl, c_isr hr, x_in1 (by omega) (by omega) (by omega)⟩
  · refine Or.inr ⟨?_, x_in0 w (by omega)⟩
    rw [gX10_isResource, bX10_isResource_0, z_0]
    by_cases c : p < nI 0
    · rw [if_pos c]
      rfl
    · rw [if_neg c, if_pos (w.resolve_left c)]
      rfl
/-- a number out of a range: the class's two tests -/
theorem o_le {α : Type} {p : Int32} {m : Nat} {x y : α} (hm : m + 1 < 2 ^ 31) (h : p < nI 0 ∨ nI (m + 1) ≤ p) : (if p < nI 0 then x else if p ≤ nI m then y else x) = x := by
  by_cases c : p < nI 0
  · rw [if_pos c]
  · rw [if_neg c, if_neg (p_ov hm (h.resolve_left c)).2.1]
theorem o_lt {α : Type} {p : Int32} {m : Nat} {x y : α} (hm : m + 1 < 2 ^ 31) (h : p < nI 0 ∨ nI (m + 1) ≤ p) : (if p < nI 0 then x else if p < nI (m + 1) then y else x) = x := by
  by_cases c : p < nI 0
  · rw [if_pos c]
  · rw [if_neg c, if_neg (p_ov hm (h.resolve_left c)).2.2]
theorem i_le {α : Type} {a m : Nat} {x y z : α} (hm : m < 2 ^ 31) (h : a ≤ m) : (if nI a < nI 0 then x else if nI a ≤ nI m then y else z) = y := by
  rw [if_neg (by rw [z_lt (by omega) (by omega)]; omega), if_pos (by rw [z_le (by omega) (by omega)]; exact h)]
theorem i_lt {α : Type} {a m : Nat} {x y z : α} (hm : m < 2 ^ 31) (h : a < m) : (if nI a < nI 0 then x else if nI a < nI m then y else z) = y := by
  rw [if_neg (by rw [z_lt (by omega) (by omega)]; omega), if_pos (by rw [z_lt (by omega) (by omega)]; exact h)]
/-- RESULT -/
theorem pr_result (k : Nat) (I J : am_I) (p0 p1 : Int32) (h : Inv n (k + 1) I J) : PR_result n k I J p0 p1 := by
  unfold PR_result
  obtain ⟨T, e, g, h1, h2, h3, h4⟩ := id h
  obtain ⟨⟨hn, hn4⟩, j1⟩ := gs_1 h1
  have bad : gX11_result n p0 p1 J = bX11_result_18 n p0 p1 J → gX11_result n p0 p1 J = some (nI 0, am_up J 0 60 0 (nI 1)) := fun q1 => by
    rw [q1, bX11_result_18, bX11_result_23, r_ref1, Option.bind_some]
    dsimp only
    rw [if_neg n10]
  rcases x_node (I := I) hn hn4 j1 p0 with ⟨a, ha, rfl, s1, s2⟩ | ⟨s1, s2⟩
  · rcases p_rng p1 (m := 5) (by omega) with ⟨t, ht, rfl⟩ | q
    · left
      have ga : am_inb (nI a) n = true := by rw [z_inb (by omega)]; exact decide_eq_true ha
      have ga4 : am_inb (nI a) 4 = true := by rw [z_inb (by omega)]; exact decide_eq_true (by omega)
      have ka : (nI a).toNatClampNeg = a := z_clamp (by omega)
      obtain ⟨rw, gv, cl, A, jl, ⟨ms, H, B, K, lg, fb, fq, mk, hc⟩, hg, hns, hW⟩ := h1
      obtain ⟨-, ⟨t1, t2, t3, t4, t5, t6, t7, t8⟩, -⟩ := hns a ha
      have e7 : I 0 0 7 = J 0 60 2 := by rw [hc.2.1.2.2.2.1, hc.2.1.2.2.2.2.1]
      have o : ∀ j, ¬ j = 60 → am_up J 0 60 0 (nI 0) 0 j = J 0 j := fun j q => z_upj _ _ _ _ _ _ _ (by omega)
      have o2 : am_up J 0 60 0 (nI 0) 0 60 2 = J 0 60 2 := by rw [z_upk, if_neg (by omega)]
      have c10 : gX10_result n (nI a) (nI t) I = (if nI t = nI 0 then (some (.inl (some (I a 55 5)), I)) else (if nI t = nI 1 then (some (.inl (some (I a 55 6)), I)) else (if nI t = nI 2 then (if (I a 55 5) = (nI 1) then (bX10_result_102 n ((I 0 0 7) - (I a 55 7)) I) else (bX10_result_102 n (I a 55 8) I)) else (if nI t = nI 3 then (some (.inl (some (I a 55 9)), I)) else (some (.inl (some (I a 55 10)), I)))))) := by
        rw [gX10_result, bX10_result_0, s1, Option.bind_some]
        dsimp only
        rw [if_neg n10, z_0, i_le (by omega) (by omega), am_gd_of ga, ka]
      have c11 : gX11_result n (nI a) (nI t) J = (if nI t = nI 0 then some (J 0 87 a, am_up J 0 60 0 (nI 0)) else (if nI t = nI 1 then (if J 0 87 a = nI 2 then (bX11_result_101 n (J 0 88 a) (am_up J 0 60 0 (nI 0))) else (if J 0 87 a = (nI 3) then (bX11_result_101 n (J 0 88 a) (am_up J 0 60 0 (nI 0))) else (bX11_result_101 n (nI 0) (am_up J 0 60 0 (nI 0))))) else (if nI t = nI 2 then (if J 0 87 a = (nI 1) then (bX11_result_132 n (J 0 60 2 - J 0 89 a) (am_up J 0 60 0 (nI 0))) else (bX11_result_132 n (J 0 90 a) (am_up J 0 60 0 (nI 0)))) else (if nI t = nI 3 then (some (J 0 91 a, am_up J 0 60 0 (nI 0))) else (some (J 0 92 a, am_up J 0 60 0 (nI 0))))))) := by
        rw [gX11_result, bX11_result_0, s2, Option.bind_some]
        dsimp only
        rw [if_neg n10, x_in1 (by omega) (by omega) (by omega), Option.bind_some]
        dsimp only
        rw [if_neg n10, bX11_result_23, r_ref0, Option.bind_some]
        dsimp only
        rw [if_pos n00, bX11_result_91]
        simp only [am_gd_of ga4, ka]
        rw [o 87 (by omega), o 88 (by omega), o 89 (by omega), o 90 (by omega), o 91 (by omega), o 92 (by omega), o2]
      have key : ∃ r, gX10_result n (nI a) (nI t) I = some (.inl (some r), I) ∧ gX11_result n (nI a) (nI t) J = some (r, am_up J 0 60 0 (nI 0)) := by
        rw [c10, c11]
        have : t = 0 ∨ t = 1 ∨ t = 2 ∨ t = 3 ∨ t = 4 := by omega
        rcases this with rfl | rfl | rfl | rfl | rfl
        · rw [if_pos rfl, if_pos rfl, t2]
          exact ⟨_, rfl, rfl⟩
        · rw [if_neg (show ¬ nI 1 = nI 0 by decide), if_neg (show ¬ nI 1 = nI 0 by decide), if_pos (rfl : nI 1 = nI 1), if_pos (rfl : nI 1 = nI 1), t7]
          by_cases c : J 0 87 a = nI 2
          · rw [if_pos (Or.inl c), if_pos c]
            exact ⟨_, rfl, rfl⟩
          · by_cases d : J 0 87 a = nI 3
            · rw [if_pos (Or.inr d), if_neg c, if_pos d]
              exact ⟨_, rfl, rfl⟩
            · rw [if_neg (fun w => w.elim c d), if_neg c, if_neg d]
              exact ⟨_, rfl, rfl⟩
        · rw [if_neg (show ¬ nI 2 = nI 0 by decide), if_neg (show ¬ nI 2 = nI 0 by decide), if_neg (show ¬ nI 2 = nI 1 by decide), if_neg (show ¬ nI 2 = nI 1 by decide), if_pos (rfl : nI 2 = nI 2), if_pos (rfl : nI 2 = nI 2), t2, t3, t4, e7]
          by_cases c : J 0 87 a = nI 1
          · rw [if_pos c, if_pos c]
            exact ⟨_, rfl, rfl⟩
          · rw [if_neg c, if_neg c]
            exact ⟨_, rfl, rfl⟩
        · rw [if_neg (show ¬ nI 3 = nI 0 by decide), if_neg (show ¬ nI 3 = nI 0 by decide), if_neg (show ¬ nI 3 = nI 1 by decide), if_neg (show ¬ nI 3 = nI 1 by decide), if_neg (show ¬ nI 3 = nI 2 by decide), if_neg (show ¬ nI 3 = nI 2 by decide), if_pos (rfl : nI 3 = nI 3), if_pos (rfl : nI 3 = nI 3), t5]
          exact ⟨_, rfl, rfl⟩
        · rw [if_neg (show ¬ nI 4 = nI 0 by decide), if_neg (show ¬ nI 4 = nI 0 by decide), if_neg (show ¬ nI 4 = nI 1 by decide), if_neg (show ¬ nI 4 = nI 1 by decide), if_neg (show ¬ nI 4 = nI 2 by decide), if_neg (show ¬ nI 4 = nI 2 by decide), if_neg (show ¬ nI 4 = nI 3 by decide), if_neg (show ¬ nI 4 = nI 3 by decide), t6]
          exact ⟨_, rfl, rfl⟩
      obtain ⟨r, r1, r2⟩ := key
      exact ⟨r, I, _, r1, r2, up60, inv_60 h⟩
    · right
      refine ⟨nI 0, _, ?_, bad ?_, up60, inv_60 h⟩
      · rw [gX10_result, bX10_result_0, s1, Option.bind_some]
        dsimp only
        rw [if_neg n10, z_0, o_le (by omega) q]
        rfl
      · rw [gX11_result, bX11_result_0, s2, Option.bind_some]
        dsimp only
        rw [if_neg n10, x_in0 q (by omega), Option.bind_some]
        dsimp only
        rw [if_pos n00]
  · right
    refine ⟨nI 0, _, ?_, bad ?_, up60, inv_60 h⟩
    · rw [gX10_result, bX10_result_0, s1, Option.bind_some]
      dsimp only
      rw [if_pos n00]
      rfl
    · rw [gX11_result, bX11_result_0, s2, Option.bind_some]
      dsimp only
      rw [if_pos n00]
/-- HISTORY -/
theorem pr_history (k : Nat) (I J : am_I) (p0 p1 : Int32) (h : Inv n (k + 1) I J) : PR_history n k I J p0 p1 := by
  unfold PR_history
  obtain ⟨T, e, g, h1, h2, h3, h4⟩ := id h
  have hB : BKr I J e := by
    obtain ⟨rw, gv, cl, A, jl, ⟨ms, H, B, K, lg, fb, fq, mk, hc⟩, -⟩ := h1
    exact hc.2.2.2.1
  obtain ⟨b1, b2, b3, b4, b5, b6⟩ := hB
  have ke : gX0_kept n I = some (nI e, I) := by
    rw [gX0_kept, bX0_kept_0, b2, if_pos (by rw [z_le (by omega) (by omega)]; omega)]
  rcases x_inL (n := n) (J := J) (m := e) (by omega) b4 p0 with ⟨a, ha, rfl, s2⟩ | ⟨q, s2⟩
  · have na : ¬ nI a < nI 0 := by rw [z_lt (by omega) (by omega)]; omega
    have la : nI a < nI e := by rw [z_lt (by omega) (by omega)]; omega
    rcases p_rng p1 (m := 10) (by omega) with ⟨t, ht, rfl⟩ | q
    · left
      refine ⟨J 0 125 (10 * a + t), I, _, ?_, ?_, up60, inv_60 h⟩
      rotate_left
      · rw [gX11_history, bX11_history_0, s2, Option.bind_some]
        dsimp only
        rw [if_neg n10, bX11_history_22, if_neg n10, x_in1 (by omega) (by omega) (by omega), Option.bind_some]
        dsimp only
        rw [if_neg n10, bX11_history_40, bX11_history_41, r_ref0, Option.bind_some]
        dsimp only
        rw [if_pos n00, pk_mul, nI_add, am_gd_of (by rw [z_inb (by omega)]; exact decide_eq_true (by omega)), z_clamp (by omega), z_upj _ _ _ _ _ _ _ (by omega)]
      · rw [gX10_history, bX10_history_0, z_0, if_neg na, ke, Option.bind_some]
        dsimp only
        rw [if_pos la, i_lt (by omega) ht, pk_mul, nI_add, am_gd_of (by rw [z_inb (by omega)]; exact decide_eq_true (by omega)), z_clamp (by omega), b5 _ (by omega), Nat.mul_comm]
    · right; right
      refine ⟨nI 0, _, ?_, ?_, up60, inv_60 h⟩
      rotate_left
      · rw [gX11_history, bX11_history_0, s2, Option.bind_some]
        dsimp only
        rw [if_neg n10, bX11_history_22, if_neg n10, x_in0 q (by omega), Option.bind_some]
        dsimp only
        rw [if_pos n00, bX11_history_41, r_ref2, Option.bind_some]
        dsimp only
        rw [if_neg n10]
      · rw [gX10_history, bX10_history_0, z_0, if_neg na, ke, Option.bind_some]
        dsimp only
        rw [if_pos la, o_lt (by omega) q]
        rfl
  · right; left
    refine ⟨nI 0, _, ?_, ?_, up60, inv_60 h⟩
    rotate_left
    · rw [gX11_history, bX11_history_0, s2, Option.bind_some]
      dsimp only
      rw [if_pos n00, bX11_history_22, if_pos n00, bX11_history_40, bX11_history_41, r_ref1, Option.bind_some]
      dsimp only
      rw [if_neg n10]
    · rw [gX10_history, bX10_history_0, z_0, ke]
      by_cases c : p0 < nI 0
      · rw [if_pos c]
        rfl
      · rw [if_neg c, Option.bind_some]
        dsimp only
        rw [if_neg (fun w => absurd (q.resolve_left c) (Int32.not_le.mpr w))]
        rfl
/-- WORD -/
theorem pr_word (k : Nat) (I J : am_I) (p0 p1 : Int32) (h : Inv n (k + 1) I J) : PR_word n k I J p0 p1 := by
  unfold PR_word
  obtain ⟨T, e, g, h1, h2, h3, h4⟩ := id h
  have hD : ∀ k, k < 10240 → I 0 1 k = J 0 64 k := by
    obtain ⟨rw, gv, cl, A, jl, ⟨ms, H, B, K, lg, fb, fq, mk, hc⟩, -⟩ := h1
    exact hc.2.2.2.2.2.2.2.1
  rcases x_isw (n := n) (I := I) (J := J) p0 p1 with ⟨b, i, hb, hi, rfl, rfl, s1, s2⟩ | ⟨s1, s2⟩
  · left
    refine ⟨J 0 64 (16 * b + i), I, _, ?_, ?_, up60, inv_60 h⟩
    rotate_left
    · rw [gX11_word, bX11_word_0, s2, Option.bind_some]
      dsimp only
      rw [if_neg n10, bX11_word_14, r_ref0, Option.bind_some]
      dsimp only
      rw [if_pos n00, pk_mul, nI_add, am_gd_of (by rw [z_inb (by omega)]; exact decide_eq_true (by omega)), z_clamp (by omega), z_upj _ _ _ _ _ _ _ (by omega)]
      rfl
    · rw [gX10_word, bX10_word_0, s1, Option.bind_some]
      dsimp only
      rw [if_neg n10, pk_mul, nI_add, am_gd_of (by rw [z_inb (by omega)]; exact decide_eq_true (by omega)), z_clamp (by omega), hD _ (by omega), Nat.mul_comm]
  · right
    refine ⟨nI 0, _, ?_, ?_, up60, inv_60 h⟩
    rotate_left
    · rw [gX11_word, bX11_word_0, s2, Option.bind_some]
      dsimp only
      rw [if_pos n00, bX11_word_14, r_ref1, Option.bind_some]
      dsimp only
      rw [if_neg n10]
      rfl
    · rw [gX10_word, bX10_word_0, s1, Option.bind_some]
      dsimp only
      rw [if_pos n00]
/-- CACHED -/
theorem pr_cached (k : Nat) (I J : am_I) (p0 p1 p2 : Int32) (h : Inv n (k + 1) I J) : PR_cached n k I J p0 p1 p2 := by
  unfold PR_cached
  obtain ⟨T, e, g, h1, h2, h3, h4⟩ := id h
  obtain ⟨⟨hn, hn4⟩, j1⟩ := gs_1 h1
  rcases x_node (I := I) hn hn4 j1 p0 with ⟨a, ha, rfl, s1, s2⟩ | ⟨s1, s2⟩
  · have hC : CHr a I J := by
      obtain ⟨rw, gv, cl, A, jl, ⟨ms, H, B, K, lg, fb, fq, mk, hc⟩, -⟩ := h1
      exact (hc.2.2.2.2.1 a ha).2.2.2.1
    have ga : am_inb (nI a) n = true := by rw [z_inb (by omega)]; exact decide_eq_true ha
    have ka : (nI a).toNatClampNeg = a := z_clamp (by omega)
    rcases x_isw (n := n) (I := I) (J := J) p1 p2 with ⟨b, i, hb, hi, rfl, rfl, t1, t2⟩ | ⟨t1, t2⟩
    · have gb : am_inb (nI b) 640 = true := by rw [z_inb (by omega)]; exact decide_eq_true hb
      have kb : (nI b).toNatClampNeg = b := z_clamp (by omega)
      have g6 : am_inb (nI 640 * nI a + nI b) 2560 = true := by rw [pk_mul, nI_add, z_inb (by omega)]; exact decide_eq_true (by omega)
      have k6 : (nI 640 * nI a + nI b).toNatClampNeg = 640 * a + b := by rw [pk_mul, nI_add, z_clamp (by omega)]
      obtain ⟨d1, d2⟩ := hC.1 b hb
      have c11 : gX11_cached n (nI a) (nI b) (nI i) J = if J 0 68 (640 * a + b) = 0 then (bX11_cached_84 n (nI a) (nI b) (nI i) (nI 1) (nI 0) (nI 0) J) else (bX11_cached_83 n (nI a) (nI b) (nI i) (nI 0) (nI 0) J) := by
        rw [gX11_cached, bX11_cached_0, s2, Option.bind_some]
        dsimp only
        rw [t2, Option.bind_some]
        dsimp only
        rw [if_neg n10, bX11_cached_25, if_neg n10, if_neg n10, bX11_cached_39, bX11_cached_40, if_neg n10, if_neg n10, if_neg n10, if_neg n10, bX11_cached_75, am_gd_of g6, k6]
      have c10 : gX10_cached n (nI a) (nI b) (nI i) I = if I a 43 b = 0 then (some (.inr 57, I)) else some (.inl (some (I a 42 (16 * b + i))), I) := by
        rw [gX10_cached, bX10_cached_0, s1, Option.bind_some]
        dsimp only
        rw [if_neg n10, t1, Option.bind_some]
        dsimp only
        rw [if_neg n10, am_gd_of ga, am_gd_of gb, ka, kb, pk_mul, nI_add, am_gd_of (by rw [z_inb (by omega)]; exact decide_eq_true (by omega)), z_clamp (by omega), Nat.mul_comm b 16]
      rcases d2 with d2 | d2
      · right; right; right
        refine ⟨nI 0, _, ?_, ?_, up60, inv_60 h⟩
        rotate_left
        · rw [c11, if_pos (show J 0 68 (640 * a + b) = 0 from d2), bX11_cached_84, r_ref3, Option.bind_some]
          dsimp only
          rw [if_neg n10]
        · rw [c10, if_pos (show I a 43 b = 0 by rw [d1, d2]; rfl)]
      · left
        refine ⟨J 0 67 (16 * (640 * a + b) + i), I, _, ?_, ?_, up60, inv_60 h⟩
        rotate_left
        · rw [c11, if_neg (show ¬ J 0 68 (640 * a + b) = 0 by rw [d2]; decide), bX11_cached_83, bX11_cached_84, r_ref0, Option.bind_some]
          dsimp only
          rw [if_pos n00, pk_mul, nI_add, pk_mul, nI_add, am_gd_of (by rw [z_inb (by omega)]; exact decide_eq_true (by omega)), z_clamp (by omega), z_upj _ _ _ _ _ _ _ (by omega)]
        · rw [c10, if_neg (show ¬ I a 43 b = 0 by rw [d1, d2]; decide), hC.2.2.1 b i hb hi d2]
    · right; right; left
      refine ⟨nI 0, _, ?_, ?_, up60, inv_60 h⟩
      rotate_left
      · rw [gX11_cached, bX11_cached_0, s2, Option.bind_some]
        dsimp only
        rw [t2, Option.bind_some]
        dsimp only
        rw [if_neg n10, bX11_cached_25, if_neg n10, if_pos n00, bX11_cached_40, if_neg n10, if_pos n00, bX11_cached_83, bX11_cached_84, r_ref2, Option.bind_some]
        dsimp only
        rw [if_neg n10]
      · rw [gX10_cached, bX10_cached_0, s1, Option.bind_some]
        dsimp only
        rw [if_neg n10, t1, Option.bind_some]
        dsimp only
        rw [if_pos n00]
  · right; left
    refine ⟨nI 0, am_up J 0 60 0 (nI 1), ?_, ?_, up60, inv_60 h⟩
    · rw [gX10_cached, bX10_cached_0, s1, Option.bind_some]
      dsimp only
      rw [if_pos n00]
    · rw [gX11_cached, bX11_cached_0, s2, Option.bind_some]
      dsimp only
      have : ∃ w, gX11_isWord n p1 p2 J = some (w, J) := by
        rcases x_isw (n := n) (I := I) (J := J) p1 p2 with ⟨b, i, hb, hi, -, -, -, t2⟩ | ⟨-, t2⟩
        · exact ⟨_, t2⟩
        · exact ⟨_, t2⟩
      obtain ⟨w, t2⟩ := this
      rw [t2, Option.bind_some]
      dsimp only
      rw [if_pos n00, bX11_cached_25, if_pos n00, bX11_cached_39, bX11_cached_40, if_pos n00, bX11_cached_83, bX11_cached_84, r_ref1, Option.bind_some]
      dsimp only
      rw [if_neg n10]
end OBS
