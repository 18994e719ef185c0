
section OBS3
variable {n k T e : Nat} {I J : am_I}
/-- MESSAGE -/
theorem pr_message (k : Nat) (I J : am_I) (p0 p1 : Int32) (h : Inv n (k + 1) I J) : PR_message n k I J p0 p1 := by
  unfold PR_message
  obtain ⟨T, e, g, h1, h2, h3, h4⟩ := id h
  obtain ⟨rw, gv, cl, A, jl, ⟨ms, H, B, K, lg, fb, fq, mk, hc⟩, hg, hns, hW⟩ := h1
  subst hg
  have hML := hc.2.1
  have hdu := hc.2.2.2.2.2.2.2.2.2.2.2.2
  have hlen := pl_len hc.2.2.2.2.2.2.1 hc.1.2
  have e0 : due T ms = [] := by
    have := hdu.2.1
    exact List.eq_nil_of_length_eq_zero (by omega)
  have hall : ∀ a, a ∈ ms → T < a 5 := fun a ha => by
    have := (List.filter_eq_nil_iff.mp e0) a ha
    rw [decide_eq_true_eq] at this
    omega
  have elat : lat T ms = ms := List.filter_eq_self.mpr (fun a ha => decide_eq_true (hall a ha))
  have hC := hML.1
  rw [elat] at hC
  have hR := hML.2.1
  rcases x_inL (n := n) (J := J) (m := ms.length) (by omega) hR.1 p0 with ⟨a, ha, rfl, s2⟩ | ⟨q, s2⟩
  · have na : ¬ nI a < nI 0 := by rw [z_lt (by omega) (by omega)]; omega
    have la : nI a < nI ms.length := by rw [z_lt (by omega) (by omega)]; omega
    rcases p_rng p1 (m := 6) (by omega) with ⟨t, ht, rfl⟩ | q
    · left
      obtain ⟨m, hm⟩ : ∃ m, ms[a]? = some m := ⟨_, List.getElem?_eq_getElem ha⟩
      have gA : am_inb (nI a) 4096 = true := by rw [z_inb (by omega)]; exact decide_eq_true (by omega)
      have kA : (nI a).toNatClampNeg = a := z_clamp (by omega)
      have o : ∀ j, ¬ j = 60 → am_up J 0 60 0 (nI 0) 0 j = J 0 j := fun j q => z_upj _ _ _ _ _ _ _ (by omega)
      refine ⟨nI (m t), I, am_up J 0 60 0 (nI 0), ?_, ?_, up60, inv_60 h⟩
      · rw [gX10_message, bX10_message_0, z_0, if_neg na, hC.1, if_pos la, i_lt (by omega) ht, pk_mul, nI_add, am_gd_of (by rw [z_inb (by omega)]; exact decide_eq_true (by omega)), z_clamp (by omega), Nat.mul_comm a 6, hC.2.2 a m hm t ht]
      · have c11 : gX11_message n (nI a) (nI t) J = (if nI t = nI 0 then some (J 0 101 a, am_up J 0 60 0 (nI 0)) else (if nI t = nI 1 then some (J 0 102 a, am_up J 0 60 0 (nI 0)) else (if nI t = nI 2 then some (J 0 103 a, am_up J 0 60 0 (nI 0)) else (if nI t = nI 3 then some (J 0 104 a, am_up J 0 60 0 (nI 0)) else (if nI t = nI 4 then some (J 0 105 a, am_up J 0 60 0 (nI 0)) else some (J 0 106 a, am_up J 0 60 0 (nI 0))))))) := by
          rw [gX11_message, bX11_message_0, s2, Option.bind_some]
          dsimp only
          rw [if_neg n10, bX11_message_22, if_neg n10, x_in1 (by omega) (by omega) (by omega), Option.bind_some]
          dsimp only
          rw [if_neg n10, bX11_message_39, bX11_message_40, r_ref0, Option.bind_some]
          dsimp only
          rw [if_pos n00]
          simp only [am_gd_of gA, kA, o 101 (by omega), o 102 (by omega), o 103 (by omega), o 104 (by omega), o 105 (by omega), o 106 (by omega)]
        have hv : ∀ c, c < 6 → J 0 (101 + c) a = nI (m c) := hR.2.2 a m hm
        have v0 : J 0 101 a = nI (m 0) := hv 0 (by omega)
        have v1 : J 0 102 a = nI (m 1) := hv 1 (by omega)
        have v2 : J 0 103 a = nI (m 2) := hv 2 (by omega)
        have v3 : J 0 104 a = nI (m 3) := hv 3 (by omega)
        have v4 : J 0 105 a = nI (m 4) := hv 4 (by omega)
        have v5 : J 0 106 a = nI (m 5) := hv 5 (by omega)
        rw [c11, v0, v1, v2, v3, v4, v5]
        have : t = 0 ∨ t = 1 ∨ t = 2 ∨ t = 3 ∨ t = 4 ∨ t = 5 := by omega
        rcases this with rfl | rfl | rfl | rfl | rfl | rfl
        · rw [if_pos (rfl : nI 0 = nI 0)]
        · rw [if_neg (show ¬ nI 1 = nI 0 by decide), if_pos (rfl : nI 1 = nI 1)]
        · rw [if_neg (show ¬ nI 2 = nI 0 by decide), if_neg (show ¬ nI 2 = nI 1 by decide), if_pos (rfl : nI 2 = nI 2)]
        · rw [if_neg (show ¬ nI 3 = nI 0 by decide), if_neg (show ¬ nI 3 = nI 1 by decide), if_neg (show ¬ nI 3 = nI 2 by decide), if_pos (rfl : nI 3 = nI 3)]
        · rw [if_neg (show ¬ nI 4 = nI 0 by decide), if_neg (show ¬ nI 4 = nI 1 by decide), if_neg (show ¬ nI 4 = nI 2 by decide), if_neg (show ¬ nI 4 = nI 3 by decide), if_pos (rfl : nI 4 = nI 4)]
        · rw [if_neg (show ¬ nI 5 = nI 0 by decide), if_neg (show ¬ nI 5 = nI 1 by decide), if_neg (show ¬ nI 5 = nI 2 by decide), if_neg (show ¬ nI 5 = nI 3 by decide), if_neg (show ¬ nI 5 = nI 4 by decide)]
    · right; right
      refine ⟨nI 0, am_up J 0 60 0 (nI 2), ?_, ?_, up60, inv_60 h⟩
      · rw [gX10_message, bX10_message_0, z_0, if_neg na, hC.1, if_pos la, o_lt (by omega) q]
        rfl
      · rw [gX11_message, bX11_message_0, s2, Option.bind_some]
        dsimp only
        rw [if_neg n10, bX11_message_22, if_neg n10, x_in0 q (by omega), Option.bind_some]
        dsimp only
        rw [if_pos n00, bX11_message_40, r_ref2, Option.bind_some]
        dsimp only
        rw [if_neg n10]
  · right; left
    refine ⟨nI 0, am_up J 0 60 0 (nI 1), ?_, ?_, up60, inv_60 h⟩
    · rw [gX10_message, bX10_message_0, z_0, hC.1]
      by_cases c : p0 < nI 0
      · rw [if_pos c]
        rfl
      · rw [if_neg c, if_neg (fun w => absurd (q.resolve_left c) (Int32.not_le.mpr w))]
        rfl
    · rw [gX11_message, bX11_message_0, s2, Option.bind_some]
      dsimp only
      rw [if_pos n00, bX11_message_22, if_pos n00, bX11_message_39, bX11_message_40, r_ref1, Option.bind_some]
      dsimp only
      rw [if_neg n10]
/-- the reference counts a node's cached blocks -/
theorem r_cnt5 {a : Nat} (ha : a < 4) (hv : ∀ b, b < 640 → J 0 68 (640 * a + b) = nI 0 ∨ J 0 68 (640 * a + b) = nI 1) : ∀ (q i fu : Nat), i + q = 640 → q < fu → bX11_node_137 n fu (nI a) (nI (cnt (fun b => J 0 68 (640 * a + b)) i)) (nI i) J = some (nI (cnt (fun b => J 0 68 (640 * a + b)) 640), J) := by
  intro q
  induction q with
  | zero =>
    intro i fu hi hfu
    obtain ⟨fu, rfl⟩ : ∃ f, fu = f + 1 := ⟨fu - 1, by omega⟩
    have : i = 640 := by omega
    subst this
    unfold bX11_node_137
    dsimp only
    rw [if_pos (by rw [z_le (by omega) (by omega)]; omega)]
  | succ q ih =>
    intro i fu hi hfu
    obtain ⟨fu, rfl⟩ : ∃ f, fu = f + 1 := ⟨fu - 1, by omega⟩
    have ih' := ih (i + 1) fu (by omega) (by omega)
    have gi : am_inb (nI (640 * a + i)) 2560 = true := by rw [z_inb (by omega)]; exact decide_eq_true (by omega)
    conv => lhs; unfold bX11_node_137
    dsimp only
    rw [if_neg (by rw [z_le (by omega) (by omega)]; omega), pk_mul, nI_add, am_gd_of gi, z_clamp (by omega), bX11_node_168, bX11_node_168, nI_add, nI_add]
    have es : cnt (fun b => J 0 68 (640 * a + b)) (i + 1) = cnt (fun b => J 0 68 (640 * a + b)) i + (if J 0 68 (640 * a + i) = nI 1 then 1 else 0) := rfl
    rw [es] at ih'
    rcases hv i (by omega) with w | w
    · rw [if_neg (by rw [w]; decide), Nat.add_zero] at ih'
      rw [if_pos (show J 0 68 (640 * a + i) = 0 from w)]
      exact ih'
    · rw [if_pos w] at ih'
      rw [if_neg (show ¬ J 0 68 (640 * a + i) = 0 by rw [w]; decide)]
      exact ih'
/-- NODE -/
theorem pr_node (k : Nat) (I J : am_I) (p0 p1 : Int32) (h : Inv n (k + 1) I J) : PR_node n k I J p0 p1 := by
  unfold PR_node
  obtain ⟨T, e, g, h1, h2, h3, h4⟩ := id h
  obtain ⟨⟨hn, hn4⟩, j1⟩ := gs_1 h1
  have bad : gX11_node n p0 p1 J = bX11_node_19 n p0 p1 J → gX11_node n p0 p1 J = some (nI 0, am_up J 0 60 0 (nI 1)) := fun q1 => by
    rw [q1, bX11_node_19, bX11_node_24, r_ref1, Option.bind_some]
    dsimp only
    rw [if_neg n10]
  rcases x_node (I := I) hn hn4 j1 p0 with ⟨a, ha, rfl, s1, s2⟩ | ⟨s1, s2⟩
  · rcases p_rng p1 (m := 7) (by omega) with ⟨t, ht, rfl⟩ | q
    · left
      have ga : am_inb (nI a) n = true := by rw [z_inb (by omega)]; exact decide_eq_true ha
      have ga4 : am_inb (nI a) 4 = true := by rw [z_inb (by omega)]; exact decide_eq_true (by omega)
      have ka : (nI a).toNatClampNeg = a := z_clamp (by omega)
      obtain ⟨u1, u2, u3, u4, -⟩ := gs_up ha h1
      obtain ⟨rw, gv, cl, A, jl, ⟨ms, H, B, K, lg, fb, fq, mk, hc⟩, hg, hns, hW⟩ := h1
      obtain ⟨-, -, hJN, hCH, -⟩ := hc.2.2.2.2.1 a ha
      obtain ⟨f, hf, hf1⟩ := fu_ex
      have o : ∀ j, ¬ j = 60 → am_up J 0 60 0 (nI 0) 0 j = J 0 j := fun j q => z_upj _ _ _ _ _ _ _ (by omega)
      have hl16 := hJN.2.2.2.2.2.2.2.1
      have i5 := hJN.2.2.2.2.2.2.1
      have c10 : gX10_node n (nI a) (nI t) I = (if nI t = nI 0 then (if (I a 40 5) = 0 then (bX10_node_88 n (nI 0) I) else (bX10_node_88 n (nI 1) I)) else (if nI t = nI 1 then (if (I a 40 6) = 0 then (bX10_node_101 n (nI 0) I) else (bX10_node_101 n (nI 1) I)) else (if nI t = nI 2 then (some (.inl (some (I a 44 2)), I)) else (if nI t = nI 3 then ((gX3_left n a I).bind (fun q3 => some (.inl (some q3.1), q3.2))) else (if nI t = nI 4 then (some (.inl (some (I a 44 7)), I)) else (if nI t = nI 5 then (some (.inl (some (I a 41 2)), I)) else ((gX3_target n a I).bind (fun q4 => some (.inl (some q4.1), q4.2))))))))) := by
        rw [gX10_node, bX10_node_0, s1, Option.bind_some]
        dsimp only
        rw [if_neg n10, z_0, i_le (by omega) (by omega), am_gd_of ga, ka]
      have c11 : gX11_node n (nI a) (nI t) J = (if nI t = nI 0 then (if (J 0 65 a) = 0 then (bX11_node_90 n (nI 0) (am_up J 0 60 0 (nI 0))) else (bX11_node_90 n (nI 1) (am_up J 0 60 0 (nI 0)))) else (if nI t = nI 1 then (if (J 0 66 a) = 0 then (bX11_node_105 n (nI 0) (am_up J 0 60 0 (nI 0))) else (bX11_node_105 n (nI 1) (am_up J 0 60 0 (nI 0)))) else (if nI t = nI 2 then (some (J 0 70 a, am_up J 0 60 0 (nI 0))) else (if nI t = nI 3 then (some ((J 0 72 a) - (J 0 73 a), am_up J 0 60 0 (nI 0))) else (if nI t = nI 4 then (some (J 0 71 a, am_up J 0 60 0 (nI 0))) else (if nI t = nI 5 then (bX11_node_137 n am_fu (nI a) (nI 0) (nI 0) (am_up J 0 60 0 (nI 0))) else (if (J 0 72 a) ≤ 0 then (bX11_node_206 n (-1 : Int32) (am_up J 0 60 0 (nI 0))) else (am_gd (am_inb (((nI 36) * nI a) + (J 0 73 a)) 144) (bX11_node_206 n (J 0 74 ((((nI 36) * nI a) + (J 0 73 a)).toNatClampNeg)) (am_up J 0 60 0 (nI 0))))))))))) := by
        rw [gX11_node, bX11_node_0, s2, Option.bind_some]
        dsimp only
        rw [if_neg n10, x_in1 (by omega) (by omega) (by omega), Option.bind_some]
        dsimp only
        rw [if_neg n10, bX11_node_24, r_ref0, Option.bind_some]
        dsimp only
        rw [if_pos n00]
        simp only [am_gd_of ga4, ka, o 65 (by omega), o 66 (by omega), o 70 (by omega), o 71 (by omega), o 72 (by omega), o 73 (by omega), o 74 (by omega)]
      have key : ∃ v, gX10_node n (nI a) (nI t) I = some (.inl (some v), I) ∧ gX11_node n (nI a) (nI t) J = some (v, am_up J 0 60 0 (nI 0)) := by
        rw [c10, c11]
        have : t = 0 ∨ t = 1 ∨ t = 2 ∨ t = 3 ∨ t = 4 ∨ t = 5 ∨ t = 6 := by omega
        rcases this with rfl | rfl | rfl | rfl | rfl | rfl | rfl
        · rw [if_pos (rfl : nI 0 = nI 0), if_pos (rfl : nI 0 = nI 0), u1]
          by_cases c : J 0 65 a = 0
          · rw [if_pos c, if_pos c]
            exact ⟨_, rfl, rfl⟩
          · rw [if_neg c, if_neg c]
            exact ⟨_, rfl, rfl⟩
        · rw [if_neg (show ¬ nI 1 = nI 0 by decide), if_neg (show ¬ nI 1 = nI 0 by decide), if_pos (rfl : nI 1 = nI 1), if_pos (rfl : nI 1 = nI 1), u3]
          by_cases c : J 0 66 a = 0
          · rw [if_pos c, if_pos c]
            exact ⟨_, rfl, rfl⟩
          · rw [if_neg c, if_neg c]
            exact ⟨_, rfl, rfl⟩
        · rw [if_neg (show ¬ nI 2 = nI 0 by decide), if_neg (show ¬ nI 2 = nI 0 by decide), if_neg (show ¬ nI 2 = nI 1 by decide), if_neg (show ¬ nI 2 = nI 1 by decide), if_pos (rfl : nI 2 = nI 2), if_pos (rfl : nI 2 = nI 2), hJN.2.2.1, hJN.2.1]
          exact ⟨_, rfl, rfl⟩
        · rw [if_neg (show ¬ nI 3 = nI 0 by decide), if_neg (show ¬ nI 3 = nI 0 by decide), if_neg (show ¬ nI 3 = nI 1 by decide), if_neg (show ¬ nI 3 = nI 1 by decide), if_neg (show ¬ nI 3 = nI 2 by decide), if_neg (show ¬ nI 3 = nI 2 by decide), if_pos (rfl : nI 3 = nI 3), if_pos (rfl : nI 3 = nI 3), gX3_left, bX3_left_0, i5]
          by_cases c : fb a = []
          · obtain ⟨w1, w2⟩ := hJN.2.2.2.2.2.2.2.2.2.1 c
            rw [if_pos (show nI (fb a).length = 0 by rw [c]; rfl), w1, w2, bX3_left_24, Option.bind_some]
            exact ⟨_, rfl, rfl⟩
          · obtain ⟨d1, d2, d3, d4, d5, d6⟩ := hJN.2.2.2.2.2.2.2.2.2.2 c
            have hpos : 0 < (fb a).length := Nat.pos_of_ne_zero (fun q => c (List.eq_nil_of_length_eq_zero q))
            rw [if_neg (show ¬ nI (fb a).length = 0 from fun w => absurd ((z_eq (a := (fb a).length) (b := 0) (by omega) (by omega)).mp w) (by omega)), d2, d3, d5.1, bX3_left_24, Option.bind_some, pk_mul, nI_add]
            exact ⟨_, rfl, rfl⟩
        · rw [if_neg (show ¬ nI 4 = nI 0 by decide), if_neg (show ¬ nI 4 = nI 0 by decide), if_neg (show ¬ nI 4 = nI 1 by decide), if_neg (show ¬ nI 4 = nI 1 by decide), if_neg (show ¬ nI 4 = nI 2 by decide), if_neg (show ¬ nI 4 = nI 2 by decide), if_neg (show ¬ nI 4 = nI 3 by decide), if_neg (show ¬ nI 4 = nI 3 by decide), if_pos (rfl : nI 4 = nI 4), if_pos (rfl : nI 4 = nI 4), hJN.2.2.2.2.2.1]
          exact ⟨_, rfl, rfl⟩
        · rw [if_neg (show ¬ nI 5 = nI 0 by decide), if_neg (show ¬ nI 5 = nI 0 by decide), if_neg (show ¬ nI 5 = nI 1 by decide), if_neg (show ¬ nI 5 = nI 1 by decide), if_neg (show ¬ nI 5 = nI 2 by decide), if_neg (show ¬ nI 5 = nI 2 by decide), if_neg (show ¬ nI 5 = nI 3 by decide), if_neg (show ¬ nI 5 = nI 3 by decide), if_neg (show ¬ nI 5 = nI 4 by decide), if_neg (show ¬ nI 5 = nI 4 by decide), if_pos (rfl : nI 5 = nI 5), if_pos (rfl : nI 5 = nI 5), hCH.2.1]
          have hr := r_cnt5 (n := n) (J := am_up J 0 60 0 (nI 0)) (a := a) (by omega) (fun b hb => by rw [o 68 (by omega)]; exact (hCH.1 b hb).2) 640 0 am_fu (by omega) (by rw [hf]; omega)
          have ec : cnt (I a 43) 640 = cnt (fun b => am_up J 0 60 0 (nI 0) 0 68 (640 * a + b)) 640 := cnt_cg 640 (fun b hb => by
            show I a 43 b = am_up J 0 60 0 (nI 0) 0 68 (640 * a + b)
            rw [o 68 (by omega)]
            exact (hCH.1 b hb).1)
          exact ⟨_, rfl, by rw [ec]; exact hr⟩
        · rw [if_neg (show ¬ nI 6 = nI 0 by decide), if_neg (show ¬ nI 6 = nI 0 by decide), if_neg (show ¬ nI 6 = nI 1 by decide), if_neg (show ¬ nI 6 = nI 1 by decide), if_neg (show ¬ nI 6 = nI 2 by decide), if_neg (show ¬ nI 6 = nI 2 by decide), if_neg (show ¬ nI 6 = nI 3 by decide), if_neg (show ¬ nI 6 = nI 3 by decide), if_neg (show ¬ nI 6 = nI 4 by decide), if_neg (show ¬ nI 6 = nI 4 by decide), if_neg (show ¬ nI 6 = nI 5 by decide), if_neg (show ¬ nI 6 = nI 5 by decide)]
          by_cases c : fb a = []
          · obtain ⟨w1, w2⟩ := hJN.2.2.2.2.2.2.2.2.2.1 c
            rw [gX3_target, bX3_target_0, i5, if_pos (show nI (fb a).length = 0 by rw [c]; rfl), w1, if_pos (show nI 0 ≤ (0 : Int32) by decide), Option.bind_some]
            exact ⟨_, rfl, rfl⟩
          · obtain ⟨d1, d2, d3, d4, d5, d6⟩ := hJN.2.2.2.2.2.2.2.2.2.2 c
            rw [c_target (x := a) (fb := fb a) (fq := fq a) (by omega) ⟨hJN.2.2.2.2.1, i5, hl16, c, d1, d2, d4⟩, Option.bind_some, d3, d5.1, if_neg (show ¬ nI (2 * (fb a).length + 3) ≤ (0 : Int32) from fun w => absurd ((z_le (a := 2 * (fb a).length + 3) (b := 0) (by omega) (by omega)).mp w) (by omega)), pk_mul, nI_add, am_gd_of (by rw [z_inb (by omega)]; exact decide_eq_true (by omega)), z_clamp (by omega), (d5.2 (fq a) d1).1]
            exact ⟨_, rfl, rfl⟩
      obtain ⟨v, r1, r2⟩ := key
      exact ⟨v, I, _, r1, r2, up60, inv_60 h⟩
    · right
      refine ⟨nI 0, _, ?_, bad ?_, up60, inv_60 h⟩
      · rw [gX10_node, bX10_node_0, s1, Option.bind_some]
        dsimp only
        rw [if_neg n10, z_0, o_le (by omega) q]
        rfl
      · rw [gX11_node, bX11_node_0, s2, Option.bind_some]
        dsimp only
        rw [if_neg n10, x_in0 q (by omega), Option.bind_some]
        dsimp only
        rw [if_pos n00]
  · right
    refine ⟨nI 0, _, ?_, bad ?_, up60, inv_60 h⟩
    · rw [gX10_node, bX10_node_0, s1, Option.bind_some]
      dsimp only
      rw [if_pos n00]
      rfl
    · rw [gX11_node, bX11_node_0, s2, Option.bind_some]
      dsimp only
      rw [if_pos n00]
end OBS3
