
section DLY
variable {n T e x : Nat} {I J I' J' : am_I} {g : Nat → Nat}
/-- a delay is set, both sides -/
theorem gs_dly {w d : Nat} (hw : w < 16) (hd1 : 1 ≤ d) (hd2 : d ≤ 20) (h : GS n T e g I J) : GS n T e g (am_up I 0 10 w (nI d)) (am_up J 0 107 w (nI d)) ∧ cs n (am_up J 0 107 w (nI d)) = cs n J := by
  obtain ⟨rw, gv, cl, A, jl, ⟨ms, H, B, K, lg, fb, fq, mk, h⟩, hg, hns, hW⟩ := h
  have oI : ∀ a b, ¬ (a = 0 ∧ b = 10) → am_up I 0 10 w (nI d) a b = I a b := fun a b q => z_upj _ _ _ _ _ _ _ q
  have oJ : ∀ a b, ¬ (a = 0 ∧ b = 107) → am_up J 0 107 w (nI d) a b = J a b := fun a b q => z_upj _ _ _ _ _ _ _ q
  refine ⟨⟨rw, gv, cl, A, jl, ⟨ms, H, B, K, lg, fb, fq, mk, ?_⟩, hg, fun z hz => (ns_cg (fun b q => oI z b (by omega)) (fun j r q1 q2 q3 => by rw [oJ 0 j (by omega)]) (fun j q => by rw [oJ 0 j (by omega)]) (hns z hz)).1, ?_⟩, cs_eq n (fun z _ => by unfold cal; rw [oJ 0 87 (by omega)])⟩
  · obtain ⟨a1, a2, a3, a4, a5, a6, a7, a8, a9, b1, b2, b3, b4⟩ := h
    have e65 := oJ 0 65 (by omega)
    have e66 := oJ 0 66 (by omega)
    have em : mrr n (am_up J 0 107 w (nI d)) = mrr n J := mrr_cg e66
    have e64 := oJ 0 64 (by omega)
    have edD : dD (am_up J 0 107 w (nI d)) = dD J := by unfold dD; rw [e64]
    have e47 : ∀ z, am_up I 0 10 w (nI d) z 47 = I z 47 := fun z => oI z 47 (by omega)
    have efw : fwI (am_up I 0 10 w (nI d)) = fwI I := funext fun z => funext fun k => funext fun i => by unfold fwI; rw [e47]
    obtain ⟨c0, c1, c2, c3, c4, c5, c6', c7, c8, c9, c10⟩ := a2
    refine ⟨a1, ⟨⟨by rw [oI 0 9 (by omega)]; exact c0.1, c0.2.1, fun k m hk c hc => by rw [oI 0 11 (by omega)]; exact c0.2.2 k m hk c hc⟩, ⟨by rw [oJ 0 60 (by omega)]; exact c1.1, c1.2.1, fun k m hk c hc => by rw [oJ 0 (101 + c) (by omega)]; exact c1.2.2 k m hk c hc⟩, by rw [oI 0 9 (by omega), oJ 0 60 (by omega)]; exact c2, by rw [oI 0 0 (by omega)]; exact c3, by rw [oJ 0 60 (by omega)]; exact c4, c5, fun v hv => ?_, by rw [oJ 0 108 (by omega)]; exact c7, c8, fun z hz => by rw [oI z 40 (by omega), oJ 0 65 (by omega)]; exact c9 z hz, by rw [oJ 0 60 (by omega)]; exact c10⟩, ms_cg a3 (fun j h4 h8 => oI 0 j (by omega)) (fun j h4 h8 => oJ 0 j (by omega)), ?_, fun z hz => nd_cg (a5 z hz) (fun j _ _ _ => oI z j (by omega)) (by rw [e66]) (fun b i _ _ => by rw [oJ 0 67 (by omega)]) (fun b _ => by rw [oJ 0 68 (by omega)]) (fun b _ => by rw [oJ 0 69 (by omega)]) (by rw [oJ 0 70 (by omega)]) (by rw [oJ 0 71 (by omega)]) (by rw [oJ 0 72 (by omega)]) (by rw [oJ 0 73 (by omega)]) (fun k _ => by rw [oJ 0 74 (by omega)]) (fun k i _ _ => by rw [oJ 0 75 (by omega)]) (fun r _ => ⟨by rw [oJ 0 76 (by omega)], by rw [oJ 0 77 (by omega)], by rw [oJ 0 78 (by omega)]⟩), fun z hz => ?_, by rw [e65, em]; exact a7, fun k hk => by rw [oI 0 1 (by omega), e64]; exact a8 k hk, ?_, cti_cg b1 (fun b i _ _ => by rw [e64]) e65 (fun z b i _ _ _ => by rw [oJ 0 67 (by omega)]) (fun z b _ _ => by rw [oJ 0 68 (by omega)]) (fun z k i _ _ _ => by rw [e47]) (fun z hz => (b2 z hz).2.1.2.1) a1.2, by rw [edD, efw]; exact b2, ?_, ?_⟩
    · rw [z_upk, z_upk]
      by_cases c : v = w
      · rw [if_pos c, if_pos c]
        exact ⟨d, hd1, hd2, rfl, rfl⟩
      · rw [if_neg c, if_neg c]
        exact c6' v hv
    · unfold BKr at a4 ⊢
      rw [oI 0 13 (by omega), oI 0 14 (by omega), oJ 0 60 (by omega), oJ 0 125 (by omega), oJ 0 126 (by omega)]
      exact a4
    · obtain ⟨s1, s2, s3, s4⟩ := a6 z hz
      rw [e65, e66, em]
      exact ⟨s1, s2, s3, s4.1, by rw [oJ 0 71 (by omega), oJ 0 68 (by omega)]; exact s4.2⟩
    · unfold TID at a9 ⊢
      rw [oJ 0 120 (by omega), oI 0 19 (by omega), oI 0 15 (by omega)]
      exact a9
    · unfold MKr at b3 ⊢
      rw [oJ 0 125 (by omega), oJ 0 126 (by omega)]
      exact b3
    · unfold DUr at b4 ⊢
      rw [oI 0 12 (by omega)]
      exact b4
  · unfold WL at hW ⊢
    rw [oI 0 0 (by omega), oJ 0 60 (by omega), oJ 0 64 (by omega)]
    exact hW
/-- DELAY -/
theorem pr_delay (k : Nat) (I J : am_I) (p0 p1 p2 : Int32) (h : Inv n (k + 1) I J) : PR_delay n k I J p0 p1 p2 := by
  unfold PR_delay
  obtain ⟨T, e, g, h1, h2, h3, h4⟩ := id h
  obtain ⟨⟨hn, hn4⟩, j1⟩ := gs_1 h1
  have bad : gX11_delay n p0 p1 p2 J = bX11_delay_27 n p0 p1 p2 J → gX11_delay n p0 p1 p2 J = some (am_up J 0 60 0 (nI 1)) := fun q1 => by
    rw [q1, bX11_delay_27, bX11_delay_32, r_ref1, Option.bind_some]
    dsimp only
    rw [if_neg n10]
    rfl
  rcases x_node (I := I) hn hn4 j1 p0 with ⟨a, ha, rfl, s1, s2⟩ | ⟨s1, s2⟩
  · rcases x_node (I := I) hn hn4 j1 p1 with ⟨b, hb, rfl, t1, t2⟩ | ⟨t1, t2⟩
    · have hp : (∃ d, 1 ≤ d ∧ d ≤ 20 ∧ p2 = nI d) ∨ (p2 < nI 1 ∨ nI 21 ≤ p2) := by
        rcases p_rng p2 (m := 21) (by omega) with ⟨d, hd, rfl⟩ | q
        · by_cases c : d = 0
          · subst c; exact Or.inr (Or.inl (by decide))
          · exact Or.inl ⟨d, by omega, by omega, rfl⟩
        · rcases q with q | q
          · refine Or.inr (Or.inl ?_)
            rw [Int32.lt_iff_toInt_lt, nI_toInt (by omega)] at q ⊢
            omega
          · exact Or.inr (Or.inr q)
      rcases hp with ⟨d, hd1, hd2, rfl⟩ | q
      · left
        obtain ⟨q1, q2⟩ := gs_60 (v := nI 0) h1
        obtain ⟨r1, r2⟩ := gs_dly (w := 4 * a + b) (d := d) (by omega) hd1 hd2 q1
        refine ⟨_, _, ?_, ?_, ?_, T, e, g, r1, h2, by omega, by omega⟩
        · rw [gX10_delay, bX10_delay_0, s1, Option.bind_some]
          dsimp only
          rw [if_neg n10, t1, Option.bind_some]
          dsimp only
          rw [if_neg n10, if_neg (by rw [z_lt (by omega) (by omega)]; omega), if_pos (by rw [z_le (by omega) (by omega)]; omega), pk_mul, nI_add, am_gd_of (by rw [z_inb (by omega)]; exact decide_eq_true (by omega)), z_clamp (by omega), Nat.mul_comm a 4, am_lt]
        · rw [gX11_delay, bX11_delay_0, s2, Option.bind_some]
          dsimp only
          rw [if_neg n10, t2, Option.bind_some]
          dsimp only
          rw [if_neg n10, x_in1 hd1 hd2 (by omega), Option.bind_some]
          dsimp only
          rw [if_neg n10, bX11_delay_32, r_ref0, Option.bind_some]
          dsimp only
          rw [if_pos n00, pk_mul, nI_add, am_gd_of (by rw [z_inb (by omega)]; exact decide_eq_true (by omega)), z_clamp (by omega), am_lt]
          rfl
        · rw [z_upj _ _ _ _ _ _ _ (by omega)]
          exact up60
      · right
        refine ⟨_, ?_, bad ?_, up60, inv_60 h⟩
        · rw [gX10_delay, bX10_delay_0, s1, Option.bind_some]
          dsimp only
          rw [if_neg n10, t1, Option.bind_some]
          dsimp only
          rw [if_neg n10]
          by_cases c : p2 < nI 1
          · rw [if_pos c]
            rfl
          · rw [if_neg c, if_neg (p_ov (by omega) (q.resolve_left c)).2.1]
            rfl
        · rw [gX11_delay, bX11_delay_0, s2, Option.bind_some]
          dsimp only
          rw [if_neg n10, t2, Option.bind_some]
          dsimp only
          rw [if_neg n10, x_in0 q (by omega), Option.bind_some]
          dsimp only
          rw [if_pos n00]
    · right
      refine ⟨_, ?_, bad ?_, up60, inv_60 h⟩
      · rw [gX10_delay, bX10_delay_0, s1, Option.bind_some]
        dsimp only
        rw [if_neg n10, t1, Option.bind_some]
        dsimp only
        rw [if_pos n00]
        rfl
      · rw [gX11_delay, bX11_delay_0, s2, Option.bind_some]
        dsimp only
        rw [if_neg n10, t2, Option.bind_some]
        dsimp only
        rw [if_pos n00]
  · right
    refine ⟨_, ?_, bad ?_, up60, inv_60 h⟩
    · rw [gX10_delay, bX10_delay_0, s1, Option.bind_some]
      dsimp only
      rw [if_pos n00]
      rfl
    · rw [gX11_delay, bX11_delay_0, s2, Option.bind_some]
      dsimp only
      rw [if_pos n00]
theorem x_ino (p : Int32) : (nlt 128 p ∧ gX10_isInode n p I = some (nI 1, I) ∧ gX11_isInode n p J = some (nI 1, J)) ∨ (gX10_isInode n p I = some (nI 0, I) ∧ gX11_isInode n p J = some (nI 0, J)) := by
  rcases p_rng p (m := 128) (by omega) with ⟨a, ha, rfl⟩ | q
  · refine Or.inl ⟨⟨a, ha, rfl⟩, ?_, ?_⟩
    · rw [gX10_isInode, bX10_isInode_0, z_0, if_neg (by rw [z_lt (by omega) (by omega)]; omega), if_neg (by rw [z_le (by omega) (by omega)]; omega)]
      rfl
    · rw [gX11_isInode, bX11_isInode_0, x_in1 (by omega) (by omega) (by omega), Option.bind_some, z_011]
      rfl
  · refine Or.inr ⟨?_, ?_⟩
    · rw [gX10_isInode, bX10_isInode_0, z_0]
      by_cases c : p < nI 0
      · rw [if_pos c]
        rfl
      · rw [if_neg c, if_pos (q.resolve_left c)]
        rfl
    · rw [gX11_isInode, bX11_isInode_0, x_in0 q (by omega), Option.bind_some, z_01]
      rfl
/-- a number in a range: the class's two tests, the other way about -/
theorem g_o {α : Type} {p : Int32} {m : Nat} {x y : α} (h : p < nI 0 ∨ nI m ≤ p) : (if p < nI 0 then x else if nI m ≤ p then x else y) = x := by
  by_cases c : p < nI 0
  · rw [if_pos c]
  · rw [if_neg c, if_pos (h.resolve_left c)]
theorem g_i {α : Type} {a m : Nat} {x y : α} (hm : m < 2 ^ 31) (h : a < m) : (if nI a < nI 0 then x else if nI m ≤ nI a then x else y) = y := by
  rw [if_neg (by rw [z_lt (by omega) (by omega)]; omega), if_neg (by rw [z_le (by omega) (by omega)]; omega)]
theorem h_o {α : Type} {p : Int32} {m : Nat} {x y : α} (hm : m + 1 < 2 ^ 31) (h : p < nI 0 ∨ nI (m + 1) ≤ p) : (if p < nI 0 then x else if nI m < p then x else y) = x := by
  by_cases c : p < nI 0
  · rw [if_pos c]
  · rw [if_neg c, if_pos (p_out hm (h.resolve_left c))]
theorem h_i {α : Type} {a m : Nat} {x y : α} (hm : m + 1 < 2 ^ 31) (h : a < m + 1) : (if nI a < nI 0 then x else if nI m < nI a then x else y) = y := by
  rw [if_neg (by rw [z_lt (by omega) (by omega)]; omega), if_neg (by rw [z_lt (by omega) (by omega)]; omega)]
/-- which calls are taken, both sides -/
theorem x_call (l0 l1 l2 l3 l4 : Int32) : (VA l0 l1 l2 l3 l4 ∧ gX10_isCall n l0 l1 l2 l3 l4 I = some (nI 1, I) ∧ gX11_isGiven n l0 l1 l2 l3 l4 J = some (nI 1, J)) ∨ (gX10_isCall n l0 l1 l2 l3 l4 I = some (nI 0, I) ∧ gX11_isGiven n l0 l1 l2 l3 l4 J = some (nI 0, J)) := by
  unfold VA
  rcases p_rng l0 (m := 15) (by omega) with ⟨t, ht, rfl⟩ | q
  · have : t = 0 ∨ t = 1 ∨ t = 2 ∨ t = 3 ∨ t = 4 ∨ t = 5 ∨ t = 6 ∨ t = 7 ∨ t = 8 ∨ t = 9 ∨ t = 10 ∨ t = 11 ∨ t = 12 ∨ t = 13 ∨ t = 14 := by omega
    rcases this with rfl | rfl | rfl | rfl | rfl | rfl | rfl | rfl | rfl | rfl | rfl | rfl | rfl | rfl | rfl
    · rcases x_ino (n := n) (I := I) (J := J) l1 with ⟨hi, s1, s2⟩ | ⟨s1, s2⟩
      · by_cases c2 : l2 = 0
        · refine Or.inr ⟨?_, ?_⟩
          · rw [gX10_isCall, bX10_isCall_0, if_pos (rfl : nI 0 = nI 0), s1, Option.bind_some]
            dsimp only
            rw [if_neg n10, if_pos c2]
            all_goals rfl
          · rw [gX11_isGiven, bX11_isGiven_0, if_pos (rfl : nI 0 = nI 0), s2, Option.bind_some]
            dsimp only
            rw [if_neg n10, if_pos c2]
            all_goals rfl
        · refine Or.inl ⟨Or.inl (⟨Or.inl rfl, hi, c2⟩), ?_, ?_⟩
          · rw [gX10_isCall, bX10_isCall_0, if_pos (rfl : nI 0 = nI 0), s1, Option.bind_some]
            dsimp only
            rw [if_neg n10, if_neg c2]
            all_goals rfl
          · rw [gX11_isGiven, bX11_isGiven_0, if_pos (rfl : nI 0 = nI 0), s2, Option.bind_some]
            dsimp only
            rw [if_neg n10, if_neg c2]
            all_goals rfl
      · refine Or.inr ⟨?_, ?_⟩
        · rw [gX10_isCall, bX10_isCall_0, if_pos (rfl : nI 0 = nI 0), s1, Option.bind_some]
          dsimp only
          rw [if_pos n00]
          all_goals rfl
        · rw [gX11_isGiven, bX11_isGiven_0, if_pos (rfl : nI 0 = nI 0), s2, Option.bind_some]
          dsimp only
          rw [if_pos n00]
          all_goals rfl
    · rcases x_ino (n := n) (I := I) (J := J) l1 with ⟨hi, s1, s2⟩ | ⟨s1, s2⟩
      · by_cases c2 : l2 = 0
        · refine Or.inr ⟨?_, ?_⟩
          · rw [gX10_isCall, bX10_isCall_0, if_neg (show ¬ nI 1 = nI 0 by decide), if_pos (rfl : nI 1 = nI 1), s1, Option.bind_some]
            dsimp only
            rw [if_neg n10, if_pos c2]
            all_goals rfl
          · rw [gX11_isGiven, bX11_isGiven_0, if_neg (show ¬ nI 1 = nI 0 by decide), if_pos (rfl : nI 1 = nI 1), s2, Option.bind_some]
            dsimp only
            rw [if_neg n10, if_pos c2]
            all_goals rfl
        · by_cases c3 : l3 = nI 1
          · refine Or.inl ⟨Or.inr (Or.inl (⟨rfl, hi, c2, Or.inl c3⟩)), ?_, ?_⟩
            · rw [gX10_isCall, bX10_isCall_0, if_neg (show ¬ nI 1 = nI 0 by decide), if_pos (rfl : nI 1 = nI 1), s1, Option.bind_some]
              dsimp only
              rw [if_neg n10, if_neg c2, if_pos c3]
              all_goals rfl
            · rw [gX11_isGiven, bX11_isGiven_0, if_neg (show ¬ nI 1 = nI 0 by decide), if_pos (rfl : nI 1 = nI 1), s2, Option.bind_some]
              dsimp only
              rw [if_neg n10, if_neg c2, c3, x_in1 (by omega) (by omega) (by omega), Option.bind_some]
              dsimp only
              rw [if_neg n10]
              all_goals rfl
          · by_cases c4 : l3 = nI 2
            · refine Or.inl ⟨Or.inr (Or.inl (⟨rfl, hi, c2, Or.inr c4⟩)), ?_, ?_⟩
              · rw [gX10_isCall, bX10_isCall_0, if_neg (show ¬ nI 1 = nI 0 by decide), if_pos (rfl : nI 1 = nI 1), s1, Option.bind_some]
                dsimp only
                rw [if_neg n10, if_neg c2, if_neg c3, if_pos c4]
                all_goals rfl
              · rw [gX11_isGiven, bX11_isGiven_0, if_neg (show ¬ nI 1 = nI 0 by decide), if_pos (rfl : nI 1 = nI 1), s2, Option.bind_some]
                dsimp only
                rw [if_neg n10, if_neg c2, c4, x_in1 (by omega) (by omega) (by omega), Option.bind_some]
                dsimp only
                rw [if_neg n10]
                all_goals rfl
            · have q : l3 < nI 1 ∨ nI 3 ≤ l3 := by
                rcases p_rng l3 (m := 3) (by omega) with ⟨d, hd, rfl⟩ | q
                · have : d = 0 ∨ d = 1 ∨ d = 2 := by omega
                  rcases this with rfl | rfl | rfl
                  · exact Or.inl (by decide)
                  · exact absurd rfl c3
                  · exact absurd rfl c4
                · refine q.imp (fun q => ?_) id
                  rw [Int32.lt_iff_toInt_lt, nI_toInt (by omega)] at q ⊢
                  omega
              refine Or.inr ⟨?_, ?_⟩
              · rw [gX10_isCall, bX10_isCall_0, if_neg (show ¬ nI 1 = nI 0 by decide), if_pos (rfl : nI 1 = nI 1), s1, Option.bind_some]
                dsimp only
                rw [if_neg n10, if_neg c2, if_neg c3, if_neg c4]
                all_goals rfl
              · rw [gX11_isGiven, bX11_isGiven_0, if_neg (show ¬ nI 1 = nI 0 by decide), if_pos (rfl : nI 1 = nI 1), s2, Option.bind_some]
                dsimp only
                rw [if_neg n10, if_neg c2, x_in0 q (by omega), Option.bind_some]
                dsimp only
                rw [if_pos n00]
                all_goals rfl
      · refine Or.inr ⟨?_, ?_⟩
        · rw [gX10_isCall, bX10_isCall_0, if_neg (show ¬ nI 1 = nI 0 by decide), if_pos (rfl : nI 1 = nI 1), s1, Option.bind_some]
          dsimp only
          rw [if_pos n00]
          all_goals rfl
        · rw [gX11_isGiven, bX11_isGiven_0, if_neg (show ¬ nI 1 = nI 0 by decide), if_pos (rfl : nI 1 = nI 1), s2, Option.bind_some]
          dsimp only
          rw [if_pos n00]
          all_goals rfl
    · rcases x_ino (n := n) (I := I) (J := J) l1 with ⟨hi, s1, s2⟩ | ⟨s1, s2⟩
      · by_cases c2 : l2 = 0
        · refine Or.inr ⟨?_, ?_⟩
          · rw [gX10_isCall, bX10_isCall_0, if_neg (show ¬ nI 2 = nI 0 by decide), if_neg (show ¬ nI 2 = nI 1 by decide), if_pos (rfl : nI 2 = nI 2), s1, Option.bind_some]
            dsimp only
            rw [if_neg n10, if_pos c2]
            all_goals rfl
          · rw [gX11_isGiven, bX11_isGiven_0, if_neg (show ¬ nI 2 = nI 0 by decide), if_neg (show ¬ nI 2 = nI 1 by decide), if_pos (rfl : nI 2 = nI 2), s2, Option.bind_some]
            dsimp only
            rw [if_neg n10, if_pos c2]
            all_goals rfl
        · refine Or.inl ⟨Or.inl (⟨Or.inr rfl, hi, c2⟩), ?_, ?_⟩
          · rw [gX10_isCall, bX10_isCall_0, if_neg (show ¬ nI 2 = nI 0 by decide), if_neg (show ¬ nI 2 = nI 1 by decide), if_pos (rfl : nI 2 = nI 2), s1, Option.bind_some]
            dsimp only
            rw [if_neg n10, if_neg c2]
            all_goals rfl
          · rw [gX11_isGiven, bX11_isGiven_0, if_neg (show ¬ nI 2 = nI 0 by decide), if_neg (show ¬ nI 2 = nI 1 by decide), if_pos (rfl : nI 2 = nI 2), s2, Option.bind_some]
            dsimp only
            rw [if_neg n10, if_neg c2]
            all_goals rfl
      · refine Or.inr ⟨?_, ?_⟩
        · rw [gX10_isCall, bX10_isCall_0, if_neg (show ¬ nI 2 = nI 0 by decide), if_neg (show ¬ nI 2 = nI 1 by decide), if_pos (rfl : nI 2 = nI 2), s1, Option.bind_some]
          dsimp only
          rw [if_pos n00]
          all_goals rfl
        · rw [gX11_isGiven, bX11_isGiven_0, if_neg (show ¬ nI 2 = nI 0 by decide), if_neg (show ¬ nI 2 = nI 1 by decide), if_pos (rfl : nI 2 = nI 2), s2, Option.bind_some]
          dsimp only
          rw [if_pos n00]
          all_goals rfl
    · rcases x_ino (n := n) (I := I) (J := J) l1 with ⟨hi, s1, s2⟩ | ⟨s1, s2⟩
      · by_cases c2 : l2 = 0
        · refine Or.inr ⟨?_, ?_⟩
          · rw [gX10_isCall, bX10_isCall_0, if_neg (show ¬ nI 3 = nI 0 by decide), if_neg (show ¬ nI 3 = nI 1 by decide), if_neg (show ¬ nI 3 = nI 2 by decide), if_pos (rfl : nI 3 = nI 3), s1, Option.bind_some]
            dsimp only
            rw [if_neg n10, if_pos c2]
            all_goals rfl
          · rw [gX11_isGiven, bX11_isGiven_0, if_neg (show ¬ nI 3 = nI 0 by decide), if_neg (show ¬ nI 3 = nI 1 by decide), if_neg (show ¬ nI 3 = nI 2 by decide), if_pos (rfl : nI 3 = nI 3), s2, Option.bind_some]
            dsimp only
            rw [if_neg n10, if_pos c2]
            all_goals rfl
        · rcases x_ino (n := n) (I := I) (J := J) l3 with ⟨hj, u1, u2⟩ | ⟨u1, u2⟩
          · refine Or.inl ⟨Or.inr (Or.inr (Or.inl (⟨rfl, hi, c2, hj⟩))), ?_, ?_⟩
            · rw [gX10_isCall, bX10_isCall_0, if_neg (show ¬ nI 3 = nI 0 by decide), if_neg (show ¬ nI 3 = nI 1 by decide), if_neg (show ¬ nI 3 = nI 2 by decide), if_pos (rfl : nI 3 = nI 3), s1, Option.bind_some]
              dsimp only
              rw [if_neg n10, if_neg c2, u1, Option.bind_some]
              dsimp only
              rw [if_neg n10]
              all_goals rfl
            · rw [gX11_isGiven, bX11_isGiven_0, if_neg (show ¬ nI 3 = nI 0 by decide), if_neg (show ¬ nI 3 = nI 1 by decide), if_neg (show ¬ nI 3 = nI 2 by decide), if_pos (rfl : nI 3 = nI 3), s2, Option.bind_some]
              dsimp only
              rw [if_neg n10, if_neg c2, u2, Option.bind_some]
              dsimp only
              rw [if_neg n10]
              all_goals rfl
          · refine Or.inr ⟨?_, ?_⟩
            · rw [gX10_isCall, bX10_isCall_0, if_neg (show ¬ nI 3 = nI 0 by decide), if_neg (show ¬ nI 3 = nI 1 by decide), if_neg (show ¬ nI 3 = nI 2 by decide), if_pos (rfl : nI 3 = nI 3), s1, Option.bind_some]
              dsimp only
              rw [if_neg n10, if_neg c2, u1, Option.bind_some]
              dsimp only
              rw [if_pos n00]
              all_goals rfl
            · rw [gX11_isGiven, bX11_isGiven_0, if_neg (show ¬ nI 3 = nI 0 by decide), if_neg (show ¬ nI 3 = nI 1 by decide), if_neg (show ¬ nI 3 = nI 2 by decide), if_pos (rfl : nI 3 = nI 3), s2, Option.bind_some]
              dsimp only
              rw [if_neg n10, if_neg c2, u2, Option.bind_some]
              dsimp only
              rw [if_pos n00]
              all_goals rfl
      · refine Or.inr ⟨?_, ?_⟩
        · rw [gX10_isCall, bX10_isCall_0, if_neg (show ¬ nI 3 = nI 0 by decide), if_neg (show ¬ nI 3 = nI 1 by decide), if_neg (show ¬ nI 3 = nI 2 by decide), if_pos (rfl : nI 3 = nI 3), s1, Option.bind_some]
          dsimp only
          rw [if_pos n00]
          all_goals rfl
        · rw [gX11_isGiven, bX11_isGiven_0, if_neg (show ¬ nI 3 = nI 0 by decide), if_neg (show ¬ nI 3 = nI 1 by decide), if_neg (show ¬ nI 3 = nI 2 by decide), if_pos (rfl : nI 3 = nI 3), s2, Option.bind_some]
          dsimp only
          rw [if_pos n00]
          all_goals rfl
    · rcases x_ino (n := n) (I := I) (J := J) l1 with ⟨hi, s1, s2⟩ | ⟨s1, s2⟩
      · by_cases c2 : l2 = 0
        · refine Or.inr ⟨?_, ?_⟩
          · rw [gX10_isCall, bX10_isCall_0, if_neg (show ¬ nI 4 = nI 0 by decide), if_neg (show ¬ nI 4 = nI 1 by decide), if_neg (show ¬ nI 4 = nI 2 by decide), if_neg (show ¬ nI 4 = nI 3 by decide), if_pos (rfl : nI 4 = nI 4), s1, Option.bind_some]
            dsimp only
            rw [if_neg n10, if_pos c2]
            all_goals rfl
          · rw [gX11_isGiven, bX11_isGiven_0, if_neg (show ¬ nI 4 = nI 0 by decide), if_neg (show ¬ nI 4 = nI 1 by decide), if_neg (show ¬ nI 4 = nI 2 by decide), if_neg (show ¬ nI 4 = nI 3 by decide), if_pos (rfl : nI 4 = nI 4), s2, Option.bind_some]
            dsimp only
            rw [if_neg n10, if_pos c2]
            all_goals rfl
        · rcases x_ino (n := n) (I := I) (J := J) l3 with ⟨hj, u1, u2⟩ | ⟨u1, u2⟩
          · by_cases c4 : l4 = 0
            · refine Or.inr ⟨?_, ?_⟩
              · rw [gX10_isCall, bX10_isCall_0, if_neg (show ¬ nI 4 = nI 0 by decide), if_neg (show ¬ nI 4 = nI 1 by decide), if_neg (show ¬ nI 4 = nI 2 by decide), if_neg (show ¬ nI 4 = nI 3 by decide), if_pos (rfl : nI 4 = nI 4), s1, Option.bind_some]
                dsimp only
                rw [if_neg n10, if_neg c2, u1, Option.bind_some]
                dsimp only
                rw [if_neg n10, if_pos c4]
                all_goals rfl
              · rw [gX11_isGiven, bX11_isGiven_0, if_neg (show ¬ nI 4 = nI 0 by decide), if_neg (show ¬ nI 4 = nI 1 by decide), if_neg (show ¬ nI 4 = nI 2 by decide), if_neg (show ¬ nI 4 = nI 3 by decide), if_pos (rfl : nI 4 = nI 4), s2, Option.bind_some]
                dsimp only
                rw [if_neg n10, if_neg c2, u2, Option.bind_some]
                dsimp only
                rw [if_neg n10, if_pos c4]
                all_goals rfl
            · refine Or.inl ⟨Or.inr (Or.inr (Or.inr (Or.inl (⟨rfl, hi, c2, hj, c4⟩)))), ?_, ?_⟩
              · rw [gX10_isCall, bX10_isCall_0, if_neg (show ¬ nI 4 = nI 0 by decide), if_neg (show ¬ nI 4 = nI 1 by decide), if_neg (show ¬ nI 4 = nI 2 by decide), if_neg (show ¬ nI 4 = nI 3 by decide), if_pos (rfl : nI 4 = nI 4), s1, Option.bind_some]
                dsimp only
                rw [if_neg n10, if_neg c2, u1, Option.bind_some]
                dsimp only
                rw [if_neg n10, if_neg c4]
                all_goals rfl
              · rw [gX11_isGiven, bX11_isGiven_0, if_neg (show ¬ nI 4 = nI 0 by decide), if_neg (show ¬ nI 4 = nI 1 by decide), if_neg (show ¬ nI 4 = nI 2 by decide), if_neg (show ¬ nI 4 = nI 3 by decide), if_pos (rfl : nI 4 = nI 4), s2, Option.bind_some]
                dsimp only
                rw [if_neg n10, if_neg c2, u2, Option.bind_some]
                dsimp only
                rw [if_neg n10, if_neg c4]
                all_goals rfl
          · refine Or.inr ⟨?_, ?_⟩
            · rw [gX10_isCall, bX10_isCall_0, if_neg (show ¬ nI 4 = nI 0 by decide), if_neg (show ¬ nI 4 = nI 1 by decide), if_neg (show ¬ nI 4 = nI 2 by decide), if_neg (show ¬ nI 4 = nI 3 by decide), if_pos (rfl : nI 4 = nI 4), s1, Option.bind_some]
              dsimp only
              rw [if_neg n10, if_neg c2, u1, Option.bind_some]
              dsimp only
              rw [if_pos n00]
              all_goals rfl
            · rw [gX11_isGiven, bX11_isGiven_0, if_neg (show ¬ nI 4 = nI 0 by decide), if_neg (show ¬ nI 4 = nI 1 by decide), if_neg (show ¬ nI 4 = nI 2 by decide), if_neg (show ¬ nI 4 = nI 3 by decide), if_pos (rfl : nI 4 = nI 4), s2, Option.bind_some]
              dsimp only
              rw [if_neg n10, if_neg c2, u2, Option.bind_some]
              dsimp only
              rw [if_pos n00]
              all_goals rfl
      · refine Or.inr ⟨?_, ?_⟩
        · rw [gX10_isCall, bX10_isCall_0, if_neg (show ¬ nI 4 = nI 0 by decide), if_neg (show ¬ nI 4 = nI 1 by decide), if_neg (show ¬ nI 4 = nI 2 by decide), if_neg (show ¬ nI 4 = nI 3 by decide), if_pos (rfl : nI 4 = nI 4), s1, Option.bind_some]
          dsimp only
          rw [if_pos n00]
          all_goals rfl
        · rw [gX11_isGiven, bX11_isGiven_0, if_neg (show ¬ nI 4 = nI 0 by decide), if_neg (show ¬ nI 4 = nI 1 by decide), if_neg (show ¬ nI 4 = nI 2 by decide), if_neg (show ¬ nI 4 = nI 3 by decide), if_pos (rfl : nI 4 = nI 4), s2, Option.bind_some]
          dsimp only
          rw [if_pos n00]
          all_goals rfl
    · rcases x_ino (n := n) (I := I) (J := J) l1 with ⟨hi, s1, s2⟩ | ⟨s1, s2⟩
      · rcases p_rng l2 (m := 384) (by omega) with ⟨v, hv, rfl⟩ | q
        · refine Or.inl ⟨Or.inr (Or.inr (Or.inr (Or.inr (Or.inl (⟨Or.inl rfl, hi, v, hv, rfl⟩))))), ?_, ?_⟩
          · rw [gX10_isCall, bX10_isCall_0, if_neg (show ¬ nI 5 = nI 0 by decide), if_neg (show ¬ nI 5 = nI 1 by decide), if_neg (show ¬ nI 5 = nI 2 by decide), if_neg (show ¬ nI 5 = nI 3 by decide), if_neg (show ¬ nI 5 = nI 4 by decide), if_pos (rfl : nI 5 = nI 5), s1, Option.bind_some]
            dsimp only
            rw [if_neg n10, z_0, g_i (by omega) hv]
            all_goals rfl
          · rw [gX11_isGiven, bX11_isGiven_0, if_neg (show ¬ nI 5 = nI 0 by decide), if_neg (show ¬ nI 5 = nI 1 by decide), if_neg (show ¬ nI 5 = nI 2 by decide), if_neg (show ¬ nI 5 = nI 3 by decide), if_neg (show ¬ nI 5 = nI 4 by decide), if_pos (rfl : nI 5 = nI 5), s2, Option.bind_some]
            dsimp only
            rw [if_neg n10, x_in1 (by omega) (by omega) (by omega), Option.bind_some]
            dsimp only
            rw [if_neg n10]
            all_goals rfl
        · refine Or.inr ⟨?_, ?_⟩
          · rw [gX10_isCall, bX10_isCall_0, if_neg (show ¬ nI 5 = nI 0 by decide), if_neg (show ¬ nI 5 = nI 1 by decide), if_neg (show ¬ nI 5 = nI 2 by decide), if_neg (show ¬ nI 5 = nI 3 by decide), if_neg (show ¬ nI 5 = nI 4 by decide), if_pos (rfl : nI 5 = nI 5), s1, Option.bind_some]
            dsimp only
            rw [if_neg n10, z_0, g_o q]
            all_goals rfl
          · rw [gX11_isGiven, bX11_isGiven_0, if_neg (show ¬ nI 5 = nI 0 by decide), if_neg (show ¬ nI 5 = nI 1 by decide), if_neg (show ¬ nI 5 = nI 2 by decide), if_neg (show ¬ nI 5 = nI 3 by decide), if_neg (show ¬ nI 5 = nI 4 by decide), if_pos (rfl : nI 5 = nI 5), s2, Option.bind_some]
            dsimp only
            rw [if_neg n10, x_in0 q (by omega), Option.bind_some]
            dsimp only
            rw [if_pos n00]
            all_goals rfl
      · refine Or.inr ⟨?_, ?_⟩
        · rw [gX10_isCall, bX10_isCall_0, if_neg (show ¬ nI 5 = nI 0 by decide), if_neg (show ¬ nI 5 = nI 1 by decide), if_neg (show ¬ nI 5 = nI 2 by decide), if_neg (show ¬ nI 5 = nI 3 by decide), if_neg (show ¬ nI 5 = nI 4 by decide), if_pos (rfl : nI 5 = nI 5), s1, Option.bind_some]
          dsimp only
          rw [if_pos n00]
          all_goals rfl
        · rw [gX11_isGiven, bX11_isGiven_0, if_neg (show ¬ nI 5 = nI 0 by decide), if_neg (show ¬ nI 5 = nI 1 by decide), if_neg (show ¬ nI 5 = nI 2 by decide), if_neg (show ¬ nI 5 = nI 3 by decide), if_neg (show ¬ nI 5 = nI 4 by decide), if_pos (rfl : nI 5 = nI 5), s2, Option.bind_some]
          dsimp only
          rw [if_pos n00]
          all_goals rfl
    · rcases x_ino (n := n) (I := I) (J := J) l1 with ⟨hi, s1, s2⟩ | ⟨s1, s2⟩
      · rcases p_rng l2 (m := 384) (by omega) with ⟨v, hv, rfl⟩ | q
        · refine Or.inl ⟨Or.inr (Or.inr (Or.inr (Or.inr (Or.inl (⟨Or.inr (Or.inl rfl), hi, v, hv, rfl⟩))))), ?_, ?_⟩
          · rw [gX10_isCall, bX10_isCall_0, if_neg (show ¬ nI 6 = nI 0 by decide), if_neg (show ¬ nI 6 = nI 1 by decide), if_neg (show ¬ nI 6 = nI 2 by decide), if_neg (show ¬ nI 6 = nI 3 by decide), if_neg (show ¬ nI 6 = nI 4 by decide), if_neg (show ¬ nI 6 = nI 5 by decide), if_pos (rfl : nI 6 = nI 6), s1, Option.bind_some]
            dsimp only
            rw [if_neg n10, z_0, g_i (by omega) hv]
            all_goals rfl
          · rw [gX11_isGiven, bX11_isGiven_0, if_neg (show ¬ nI 6 = nI 0 by decide), if_neg (show ¬ nI 6 = nI 1 by decide), if_neg (show ¬ nI 6 = nI 2 by decide), if_neg (show ¬ nI 6 = nI 3 by decide), if_neg (show ¬ nI 6 = nI 4 by decide), if_neg (show ¬ nI 6 = nI 5 by decide), if_pos (rfl : nI 6 = nI 6), s2, Option.bind_some]
            dsimp only
            rw [if_neg n10, x_in1 (by omega) (by omega) (by omega), Option.bind_some]
            dsimp only
            rw [if_neg n10]
            all_goals rfl
        · refine Or.inr ⟨?_, ?_⟩
          · rw [gX10_isCall, bX10_isCall_0, if_neg (show ¬ nI 6 = nI 0 by decide), if_neg (show ¬ nI 6 = nI 1 by decide), if_neg (show ¬ nI 6 = nI 2 by decide), if_neg (show ¬ nI 6 = nI 3 by decide), if_neg (show ¬ nI 6 = nI 4 by decide), if_neg (show ¬ nI 6 = nI 5 by decide), if_pos (rfl : nI 6 = nI 6), s1, Option.bind_some]
            dsimp only
            rw [if_neg n10, z_0, g_o q]
            all_goals rfl
          · rw [gX11_isGiven, bX11_isGiven_0, if_neg (show ¬ nI 6 = nI 0 by decide), if_neg (show ¬ nI 6 = nI 1 by decide), if_neg (show ¬ nI 6 = nI 2 by decide), if_neg (show ¬ nI 6 = nI 3 by decide), if_neg (show ¬ nI 6 = nI 4 by decide), if_neg (show ¬ nI 6 = nI 5 by decide), if_pos (rfl : nI 6 = nI 6), s2, Option.bind_some]
            dsimp only
            rw [if_neg n10, x_in0 q (by omega), Option.bind_some]
            dsimp only
            rw [if_pos n00]
            all_goals rfl
      · refine Or.inr ⟨?_, ?_⟩
        · rw [gX10_isCall, bX10_isCall_0, if_neg (show ¬ nI 6 = nI 0 by decide), if_neg (show ¬ nI 6 = nI 1 by decide), if_neg (show ¬ nI 6 = nI 2 by decide), if_neg (show ¬ nI 6 = nI 3 by decide), if_neg (show ¬ nI 6 = nI 4 by decide), if_neg (show ¬ nI 6 = nI 5 by decide), if_pos (rfl : nI 6 = nI 6), s1, Option.bind_some]
          dsimp only
          rw [if_pos n00]
          all_goals rfl
        · rw [gX11_isGiven, bX11_isGiven_0, if_neg (show ¬ nI 6 = nI 0 by decide), if_neg (show ¬ nI 6 = nI 1 by decide), if_neg (show ¬ nI 6 = nI 2 by decide), if_neg (show ¬ nI 6 = nI 3 by decide), if_neg (show ¬ nI 6 = nI 4 by decide), if_neg (show ¬ nI 6 = nI 5 by decide), if_pos (rfl : nI 6 = nI 6), s2, Option.bind_some]
          dsimp only
          rw [if_pos n00]
          all_goals rfl
    · rcases x_ino (n := n) (I := I) (J := J) l1 with ⟨hi, s1, s2⟩ | ⟨s1, s2⟩
      · rcases p_rng l2 (m := 385) (by omega) with ⟨v, hv, rfl⟩ | q
        · refine Or.inl ⟨Or.inr (Or.inr (Or.inr (Or.inr (Or.inr (Or.inl (⟨rfl, hi, v, hv, rfl⟩)))))), ?_, ?_⟩
          · rw [gX10_isCall, bX10_isCall_0, if_neg (show ¬ nI 7 = nI 0 by decide), if_neg (show ¬ nI 7 = nI 1 by decide), if_neg (show ¬ nI 7 = nI 2 by decide), if_neg (show ¬ nI 7 = nI 3 by decide), if_neg (show ¬ nI 7 = nI 4 by decide), if_neg (show ¬ nI 7 = nI 5 by decide), if_neg (show ¬ nI 7 = nI 6 by decide), if_pos (rfl : nI 7 = nI 7), s1, Option.bind_some]
            dsimp only
            rw [if_neg n10, z_0, h_i (by omega) hv]
            all_goals rfl
          · rw [gX11_isGiven, bX11_isGiven_0, if_neg (show ¬ nI 7 = nI 0 by decide), if_neg (show ¬ nI 7 = nI 1 by decide), if_neg (show ¬ nI 7 = nI 2 by decide), if_neg (show ¬ nI 7 = nI 3 by decide), if_neg (show ¬ nI 7 = nI 4 by decide), if_neg (show ¬ nI 7 = nI 5 by decide), if_neg (show ¬ nI 7 = nI 6 by decide), if_pos (rfl : nI 7 = nI 7), s2, Option.bind_some]
            dsimp only
            rw [if_neg n10, x_in1 (by omega) (by omega) (by omega), Option.bind_some]
            dsimp only
            rw [if_neg n10]
            all_goals rfl
        · refine Or.inr ⟨?_, ?_⟩
          · rw [gX10_isCall, bX10_isCall_0, if_neg (show ¬ nI 7 = nI 0 by decide), if_neg (show ¬ nI 7 = nI 1 by decide), if_neg (show ¬ nI 7 = nI 2 by decide), if_neg (show ¬ nI 7 = nI 3 by decide), if_neg (show ¬ nI 7 = nI 4 by decide), if_neg (show ¬ nI 7 = nI 5 by decide), if_neg (show ¬ nI 7 = nI 6 by decide), if_pos (rfl : nI 7 = nI 7), s1, Option.bind_some]
            dsimp only
            rw [if_neg n10, z_0, h_o (by omega) q]
            all_goals rfl
          · rw [gX11_isGiven, bX11_isGiven_0, if_neg (show ¬ nI 7 = nI 0 by decide), if_neg (show ¬ nI 7 = nI 1 by decide), if_neg (show ¬ nI 7 = nI 2 by decide), if_neg (show ¬ nI 7 = nI 3 by decide), if_neg (show ¬ nI 7 = nI 4 by decide), if_neg (show ¬ nI 7 = nI 5 by decide), if_neg (show ¬ nI 7 = nI 6 by decide), if_pos (rfl : nI 7 = nI 7), s2, Option.bind_some]
            dsimp only
            rw [if_neg n10, x_in0 q (by omega), Option.bind_some]
            dsimp only
            rw [if_pos n00]
            all_goals rfl
      · refine Or.inr ⟨?_, ?_⟩
        · rw [gX10_isCall, bX10_isCall_0, if_neg (show ¬ nI 7 = nI 0 by decide), if_neg (show ¬ nI 7 = nI 1 by decide), if_neg (show ¬ nI 7 = nI 2 by decide), if_neg (show ¬ nI 7 = nI 3 by decide), if_neg (show ¬ nI 7 = nI 4 by decide), if_neg (show ¬ nI 7 = nI 5 by decide), if_neg (show ¬ nI 7 = nI 6 by decide), if_pos (rfl : nI 7 = nI 7), s1, Option.bind_some]
          dsimp only
          rw [if_pos n00]
          all_goals rfl
        · rw [gX11_isGiven, bX11_isGiven_0, if_neg (show ¬ nI 7 = nI 0 by decide), if_neg (show ¬ nI 7 = nI 1 by decide), if_neg (show ¬ nI 7 = nI 2 by decide), if_neg (show ¬ nI 7 = nI 3 by decide), if_neg (show ¬ nI 7 = nI 4 by decide), if_neg (show ¬ nI 7 = nI 5 by decide), if_neg (show ¬ nI 7 = nI 6 by decide), if_pos (rfl : nI 7 = nI 7), s2, Option.bind_some]
          dsimp only
          rw [if_pos n00]
          all_goals rfl
    · rcases x_ino (n := n) (I := I) (J := J) l1 with ⟨hi, s1, s2⟩ | ⟨s1, s2⟩
      · rcases p_rng l2 (m := 192) (by omega) with ⟨v, hv, rfl⟩ | q
        · refine Or.inl ⟨Or.inr (Or.inr (Or.inr (Or.inr (Or.inr (Or.inr (Or.inl (⟨rfl, hi, v, hv, rfl⟩))))))), ?_, ?_⟩
          · rw [gX10_isCall, bX10_isCall_0, if_neg (show ¬ nI 8 = nI 0 by decide), if_neg (show ¬ nI 8 = nI 1 by decide), if_neg (show ¬ nI 8 = nI 2 by decide), if_neg (show ¬ nI 8 = nI 3 by decide), if_neg (show ¬ nI 8 = nI 4 by decide), if_neg (show ¬ nI 8 = nI 5 by decide), if_neg (show ¬ nI 8 = nI 6 by decide), if_neg (show ¬ nI 8 = nI 7 by decide), if_pos (rfl : nI 8 = nI 8), s1, Option.bind_some]
            dsimp only
            rw [if_neg n10, z_0, g_i (by omega) hv]
            all_goals rfl
          · rw [gX11_isGiven, bX11_isGiven_0, if_neg (show ¬ nI 8 = nI 0 by decide), if_neg (show ¬ nI 8 = nI 1 by decide), if_neg (show ¬ nI 8 = nI 2 by decide), if_neg (show ¬ nI 8 = nI 3 by decide), if_neg (show ¬ nI 8 = nI 4 by decide), if_neg (show ¬ nI 8 = nI 5 by decide), if_neg (show ¬ nI 8 = nI 6 by decide), if_neg (show ¬ nI 8 = nI 7 by decide), if_pos (rfl : nI 8 = nI 8), s2, Option.bind_some]
            dsimp only
            rw [if_neg n10, x_in1 (by omega) (by omega) (by omega), Option.bind_some]
            dsimp only
            rw [if_neg n10]
            all_goals rfl
        · refine Or.inr ⟨?_, ?_⟩
          · rw [gX10_isCall, bX10_isCall_0, if_neg (show ¬ nI 8 = nI 0 by decide), if_neg (show ¬ nI 8 = nI 1 by decide), if_neg (show ¬ nI 8 = nI 2 by decide), if_neg (show ¬ nI 8 = nI 3 by decide), if_neg (show ¬ nI 8 = nI 4 by decide), if_neg (show ¬ nI 8 = nI 5 by decide), if_neg (show ¬ nI 8 = nI 6 by decide), if_neg (show ¬ nI 8 = nI 7 by decide), if_pos (rfl : nI 8 = nI 8), s1, Option.bind_some]
            dsimp only
            rw [if_neg n10, z_0, g_o q]
            all_goals rfl
          · rw [gX11_isGiven, bX11_isGiven_0, if_neg (show ¬ nI 8 = nI 0 by decide), if_neg (show ¬ nI 8 = nI 1 by decide), if_neg (show ¬ nI 8 = nI 2 by decide), if_neg (show ¬ nI 8 = nI 3 by decide), if_neg (show ¬ nI 8 = nI 4 by decide), if_neg (show ¬ nI 8 = nI 5 by decide), if_neg (show ¬ nI 8 = nI 6 by decide), if_neg (show ¬ nI 8 = nI 7 by decide), if_pos (rfl : nI 8 = nI 8), s2, Option.bind_some]
            dsimp only
            rw [if_neg n10, x_in0 q (by omega), Option.bind_some]
            dsimp only
            rw [if_pos n00]
            all_goals rfl
      · refine Or.inr ⟨?_, ?_⟩
        · rw [gX10_isCall, bX10_isCall_0, if_neg (show ¬ nI 8 = nI 0 by decide), if_neg (show ¬ nI 8 = nI 1 by decide), if_neg (show ¬ nI 8 = nI 2 by decide), if_neg (show ¬ nI 8 = nI 3 by decide), if_neg (show ¬ nI 8 = nI 4 by decide), if_neg (show ¬ nI 8 = nI 5 by decide), if_neg (show ¬ nI 8 = nI 6 by decide), if_neg (show ¬ nI 8 = nI 7 by decide), if_pos (rfl : nI 8 = nI 8), s1, Option.bind_some]
          dsimp only
          rw [if_pos n00]
          all_goals rfl
        · rw [gX11_isGiven, bX11_isGiven_0, if_neg (show ¬ nI 8 = nI 0 by decide), if_neg (show ¬ nI 8 = nI 1 by decide), if_neg (show ¬ nI 8 = nI 2 by decide), if_neg (show ¬ nI 8 = nI 3 by decide), if_neg (show ¬ nI 8 = nI 4 by decide), if_neg (show ¬ nI 8 = nI 5 by decide), if_neg (show ¬ nI 8 = nI 6 by decide), if_neg (show ¬ nI 8 = nI 7 by decide), if_pos (rfl : nI 8 = nI 8), s2, Option.bind_some]
          dsimp only
          rw [if_pos n00]
          all_goals rfl
    · rcases x_ino (n := n) (I := I) (J := J) l1 with ⟨hi, s1, s2⟩ | ⟨s1, s2⟩
      · rcases p_rng l2 (m := 4) (by omega) with ⟨v, hv, rfl⟩ | q
        · refine Or.inl ⟨Or.inr (Or.inr (Or.inr (Or.inr (Or.inr (Or.inr (Or.inr (Or.inl (⟨rfl, hi, v, hv, rfl⟩)))))))), ?_, ?_⟩
          · rw [gX10_isCall, bX10_isCall_0, if_neg (show ¬ nI 9 = nI 0 by decide), if_neg (show ¬ nI 9 = nI 1 by decide), if_neg (show ¬ nI 9 = nI 2 by decide), if_neg (show ¬ nI 9 = nI 3 by decide), if_neg (show ¬ nI 9 = nI 4 by decide), if_neg (show ¬ nI 9 = nI 5 by decide), if_neg (show ¬ nI 9 = nI 6 by decide), if_neg (show ¬ nI 9 = nI 7 by decide), if_neg (show ¬ nI 9 = nI 8 by decide), if_pos (rfl : nI 9 = nI 9), s1, Option.bind_some]
            dsimp only
            rw [if_neg n10, z_0, h_i (by omega) hv]
            all_goals rfl
          · rw [gX11_isGiven, bX11_isGiven_0, if_neg (show ¬ nI 9 = nI 0 by decide), if_neg (show ¬ nI 9 = nI 1 by decide), if_neg (show ¬ nI 9 = nI 2 by decide), if_neg (show ¬ nI 9 = nI 3 by decide), if_neg (show ¬ nI 9 = nI 4 by decide), if_neg (show ¬ nI 9 = nI 5 by decide), if_neg (show ¬ nI 9 = nI 6 by decide), if_neg (show ¬ nI 9 = nI 7 by decide), if_neg (show ¬ nI 9 = nI 8 by decide), if_pos (rfl : nI 9 = nI 9), s2, Option.bind_some]
            dsimp only
            rw [if_neg n10, x_in1 (by omega) (by omega) (by omega), Option.bind_some]
            dsimp only
            rw [if_neg n10]
            all_goals rfl
        · refine Or.inr ⟨?_, ?_⟩
          · rw [gX10_isCall, bX10_isCall_0, if_neg (show ¬ nI 9 = nI 0 by decide), if_neg (show ¬ nI 9 = nI 1 by decide), if_neg (show ¬ nI 9 = nI 2 by decide), if_neg (show ¬ nI 9 = nI 3 by decide), if_neg (show ¬ nI 9 = nI 4 by decide), if_neg (show ¬ nI 9 = nI 5 by decide), if_neg (show ¬ nI 9 = nI 6 by decide), if_neg (show ¬ nI 9 = nI 7 by decide), if_neg (show ¬ nI 9 = nI 8 by decide), if_pos (rfl : nI 9 = nI 9), s1, Option.bind_some]
            dsimp only
            rw [if_neg n10, z_0, h_o (by omega) q]
            all_goals rfl
          · rw [gX11_isGiven, bX11_isGiven_0, if_neg (show ¬ nI 9 = nI 0 by decide), if_neg (show ¬ nI 9 = nI 1 by decide), if_neg (show ¬ nI 9 = nI 2 by decide), if_neg (show ¬ nI 9 = nI 3 by decide), if_neg (show ¬ nI 9 = nI 4 by decide), if_neg (show ¬ nI 9 = nI 5 by decide), if_neg (show ¬ nI 9 = nI 6 by decide), if_neg (show ¬ nI 9 = nI 7 by decide), if_neg (show ¬ nI 9 = nI 8 by decide), if_pos (rfl : nI 9 = nI 9), s2, Option.bind_some]
            dsimp only
            rw [if_neg n10, x_in0 q (by omega), Option.bind_some]
            dsimp only
            rw [if_pos n00]
            all_goals rfl
      · refine Or.inr ⟨?_, ?_⟩
        · rw [gX10_isCall, bX10_isCall_0, if_neg (show ¬ nI 9 = nI 0 by decide), if_neg (show ¬ nI 9 = nI 1 by decide), if_neg (show ¬ nI 9 = nI 2 by decide), if_neg (show ¬ nI 9 = nI 3 by decide), if_neg (show ¬ nI 9 = nI 4 by decide), if_neg (show ¬ nI 9 = nI 5 by decide), if_neg (show ¬ nI 9 = nI 6 by decide), if_neg (show ¬ nI 9 = nI 7 by decide), if_neg (show ¬ nI 9 = nI 8 by decide), if_pos (rfl : nI 9 = nI 9), s1, Option.bind_some]
          dsimp only
          rw [if_pos n00]
          all_goals rfl
        · rw [gX11_isGiven, bX11_isGiven_0, if_neg (show ¬ nI 9 = nI 0 by decide), if_neg (show ¬ nI 9 = nI 1 by decide), if_neg (show ¬ nI 9 = nI 2 by decide), if_neg (show ¬ nI 9 = nI 3 by decide), if_neg (show ¬ nI 9 = nI 4 by decide), if_neg (show ¬ nI 9 = nI 5 by decide), if_neg (show ¬ nI 9 = nI 6 by decide), if_neg (show ¬ nI 9 = nI 7 by decide), if_neg (show ¬ nI 9 = nI 8 by decide), if_pos (rfl : nI 9 = nI 9), s2, Option.bind_some]
          dsimp only
          rw [if_pos n00]
          all_goals rfl
    · refine Or.inl ⟨Or.inr (Or.inr (Or.inr (Or.inr (Or.inr (Or.inr (Or.inr (Or.inr (Or.inr (Or.inl (rfl)))))))))), ?_, ?_⟩
      · rw [gX10_isCall, bX10_isCall_0, if_neg (show ¬ nI 10 = nI 0 by decide), if_neg (show ¬ nI 10 = nI 1 by decide), if_neg (show ¬ nI 10 = nI 2 by decide), if_neg (show ¬ nI 10 = nI 3 by decide), if_neg (show ¬ nI 10 = nI 4 by decide), if_neg (show ¬ nI 10 = nI 5 by decide), if_neg (show ¬ nI 10 = nI 6 by decide), if_neg (show ¬ nI 10 = nI 7 by decide), if_neg (show ¬ nI 10 = nI 8 by decide), if_neg (show ¬ nI 10 = nI 9 by decide), if_pos (rfl : nI 10 = nI 10)]
        all_goals rfl
      · rw [gX11_isGiven, bX11_isGiven_0, if_neg (show ¬ nI 10 = nI 0 by decide), if_neg (show ¬ nI 10 = nI 1 by decide), if_neg (show ¬ nI 10 = nI 2 by decide), if_neg (show ¬ nI 10 = nI 3 by decide), if_neg (show ¬ nI 10 = nI 4 by decide), if_neg (show ¬ nI 10 = nI 5 by decide), if_neg (show ¬ nI 10 = nI 6 by decide), if_neg (show ¬ nI 10 = nI 7 by decide), if_neg (show ¬ nI 10 = nI 8 by decide), if_neg (show ¬ nI 10 = nI 9 by decide), if_pos (rfl : nI 10 = nI 10)]
        all_goals rfl
    · rcases x_ino (n := n) (I := I) (J := J) l1 with ⟨hi, s1, s2⟩ | ⟨s1, s2⟩
      · rcases p_rng l2 (m := 384) (by omega) with ⟨v, hv, rfl⟩ | q
        · refine Or.inl ⟨Or.inr (Or.inr (Or.inr (Or.inr (Or.inl (⟨Or.inr (Or.inr rfl), hi, v, hv, rfl⟩))))), ?_, ?_⟩
          · rw [gX10_isCall, bX10_isCall_0, if_neg (show ¬ nI 11 = nI 0 by decide), if_neg (show ¬ nI 11 = nI 1 by decide), if_neg (show ¬ nI 11 = nI 2 by decide), if_neg (show ¬ nI 11 = nI 3 by decide), if_neg (show ¬ nI 11 = nI 4 by decide), if_neg (show ¬ nI 11 = nI 5 by decide), if_neg (show ¬ nI 11 = nI 6 by decide), if_neg (show ¬ nI 11 = nI 7 by decide), if_neg (show ¬ nI 11 = nI 8 by decide), if_neg (show ¬ nI 11 = nI 9 by decide), if_neg (show ¬ nI 11 = nI 10 by decide), if_pos (rfl : nI 11 = nI 11), s1, Option.bind_some]
            dsimp only
            rw [if_neg n10, z_0, g_i (by omega) hv]
            all_goals rfl
          · rw [gX11_isGiven, bX11_isGiven_0, if_neg (show ¬ nI 11 = nI 0 by decide), if_neg (show ¬ nI 11 = nI 1 by decide), if_neg (show ¬ nI 11 = nI 2 by decide), if_neg (show ¬ nI 11 = nI 3 by decide), if_neg (show ¬ nI 11 = nI 4 by decide), if_neg (show ¬ nI 11 = nI 5 by decide), if_neg (show ¬ nI 11 = nI 6 by decide), if_neg (show ¬ nI 11 = nI 7 by decide), if_neg (show ¬ nI 11 = nI 8 by decide), if_neg (show ¬ nI 11 = nI 9 by decide), if_neg (show ¬ nI 11 = nI 10 by decide), if_pos (rfl : nI 11 = nI 11), s2, Option.bind_some]
            dsimp only
            rw [if_neg n10, x_in1 (by omega) (by omega) (by omega), Option.bind_some]
            dsimp only
            rw [if_neg n10]
            all_goals rfl
        · refine Or.inr ⟨?_, ?_⟩
          · rw [gX10_isCall, bX10_isCall_0, if_neg (show ¬ nI 11 = nI 0 by decide), if_neg (show ¬ nI 11 = nI 1 by decide), if_neg (show ¬ nI 11 = nI 2 by decide), if_neg (show ¬ nI 11 = nI 3 by decide), if_neg (show ¬ nI 11 = nI 4 by decide), if_neg (show ¬ nI 11 = nI 5 by decide), if_neg (show ¬ nI 11 = nI 6 by decide), if_neg (show ¬ nI 11 = nI 7 by decide), if_neg (show ¬ nI 11 = nI 8 by decide), if_neg (show ¬ nI 11 = nI 9 by decide), if_neg (show ¬ nI 11 = nI 10 by decide), if_pos (rfl : nI 11 = nI 11), s1, Option.bind_some]
            dsimp only
            rw [if_neg n10, z_0, g_o q]
            all_goals rfl
          · rw [gX11_isGiven, bX11_isGiven_0, if_neg (show ¬ nI 11 = nI 0 by decide), if_neg (show ¬ nI 11 = nI 1 by decide), if_neg (show ¬ nI 11 = nI 2 by decide), if_neg (show ¬ nI 11 = nI 3 by decide), if_neg (show ¬ nI 11 = nI 4 by decide), if_neg (show ¬ nI 11 = nI 5 by decide), if_neg (show ¬ nI 11 = nI 6 by decide), if_neg (show ¬ nI 11 = nI 7 by decide), if_neg (show ¬ nI 11 = nI 8 by decide), if_neg (show ¬ nI 11 = nI 9 by decide), if_neg (show ¬ nI 11 = nI 10 by decide), if_pos (rfl : nI 11 = nI 11), s2, Option.bind_some]
            dsimp only
            rw [if_neg n10, x_in0 q (by omega), Option.bind_some]
            dsimp only
            rw [if_pos n00]
            all_goals rfl
      · refine Or.inr ⟨?_, ?_⟩
        · rw [gX10_isCall, bX10_isCall_0, if_neg (show ¬ nI 11 = nI 0 by decide), if_neg (show ¬ nI 11 = nI 1 by decide), if_neg (show ¬ nI 11 = nI 2 by decide), if_neg (show ¬ nI 11 = nI 3 by decide), if_neg (show ¬ nI 11 = nI 4 by decide), if_neg (show ¬ nI 11 = nI 5 by decide), if_neg (show ¬ nI 11 = nI 6 by decide), if_neg (show ¬ nI 11 = nI 7 by decide), if_neg (show ¬ nI 11 = nI 8 by decide), if_neg (show ¬ nI 11 = nI 9 by decide), if_neg (show ¬ nI 11 = nI 10 by decide), if_pos (rfl : nI 11 = nI 11), s1, Option.bind_some]
          dsimp only
          rw [if_pos n00]
          all_goals rfl
        · rw [gX11_isGiven, bX11_isGiven_0, if_neg (show ¬ nI 11 = nI 0 by decide), if_neg (show ¬ nI 11 = nI 1 by decide), if_neg (show ¬ nI 11 = nI 2 by decide), if_neg (show ¬ nI 11 = nI 3 by decide), if_neg (show ¬ nI 11 = nI 4 by decide), if_neg (show ¬ nI 11 = nI 5 by decide), if_neg (show ¬ nI 11 = nI 6 by decide), if_neg (show ¬ nI 11 = nI 7 by decide), if_neg (show ¬ nI 11 = nI 8 by decide), if_neg (show ¬ nI 11 = nI 9 by decide), if_neg (show ¬ nI 11 = nI 10 by decide), if_pos (rfl : nI 11 = nI 11), s2, Option.bind_some]
          dsimp only
          rw [if_pos n00]
          all_goals rfl
    · rcases x_ino (n := n) (I := I) (J := J) l1 with ⟨hi, s1, s2⟩ | ⟨s1, s2⟩
      · refine Or.inl ⟨Or.inr (Or.inr (Or.inr (Or.inr (Or.inr (Or.inr (Or.inr (Or.inr (Or.inl (⟨Or.inl rfl, hi⟩))))))))), ?_, ?_⟩
        · rw [gX10_isCall, bX10_isCall_0, if_neg (show ¬ nI 12 = nI 0 by decide), if_neg (show ¬ nI 12 = nI 1 by decide), if_neg (show ¬ nI 12 = nI 2 by decide), if_neg (show ¬ nI 12 = nI 3 by decide), if_neg (show ¬ nI 12 = nI 4 by decide), if_neg (show ¬ nI 12 = nI 5 by decide), if_neg (show ¬ nI 12 = nI 6 by decide), if_neg (show ¬ nI 12 = nI 7 by decide), if_neg (show ¬ nI 12 = nI 8 by decide), if_neg (show ¬ nI 12 = nI 9 by decide), if_neg (show ¬ nI 12 = nI 10 by decide), if_neg (show ¬ nI 12 = nI 11 by decide), if_pos (rfl : nI 12 = nI 12), s1, Option.bind_some]
          all_goals rfl
        · rw [gX11_isGiven, bX11_isGiven_0, if_neg (show ¬ nI 12 = nI 0 by decide), if_neg (show ¬ nI 12 = nI 1 by decide), if_neg (show ¬ nI 12 = nI 2 by decide), if_neg (show ¬ nI 12 = nI 3 by decide), if_neg (show ¬ nI 12 = nI 4 by decide), if_neg (show ¬ nI 12 = nI 5 by decide), if_neg (show ¬ nI 12 = nI 6 by decide), if_neg (show ¬ nI 12 = nI 7 by decide), if_neg (show ¬ nI 12 = nI 8 by decide), if_neg (show ¬ nI 12 = nI 9 by decide), if_neg (show ¬ nI 12 = nI 10 by decide), if_neg (show ¬ nI 12 = nI 11 by decide), if_pos (rfl : nI 12 = nI 12), s2, Option.bind_some]
          all_goals rfl
      · refine Or.inr ⟨?_, ?_⟩
        · rw [gX10_isCall, bX10_isCall_0, if_neg (show ¬ nI 12 = nI 0 by decide), if_neg (show ¬ nI 12 = nI 1 by decide), if_neg (show ¬ nI 12 = nI 2 by decide), if_neg (show ¬ nI 12 = nI 3 by decide), if_neg (show ¬ nI 12 = nI 4 by decide), if_neg (show ¬ nI 12 = nI 5 by decide), if_neg (show ¬ nI 12 = nI 6 by decide), if_neg (show ¬ nI 12 = nI 7 by decide), if_neg (show ¬ nI 12 = nI 8 by decide), if_neg (show ¬ nI 12 = nI 9 by decide), if_neg (show ¬ nI 12 = nI 10 by decide), if_neg (show ¬ nI 12 = nI 11 by decide), if_pos (rfl : nI 12 = nI 12), s1, Option.bind_some]
          all_goals rfl
        · rw [gX11_isGiven, bX11_isGiven_0, if_neg (show ¬ nI 12 = nI 0 by decide), if_neg (show ¬ nI 12 = nI 1 by decide), if_neg (show ¬ nI 12 = nI 2 by decide), if_neg (show ¬ nI 12 = nI 3 by decide), if_neg (show ¬ nI 12 = nI 4 by decide), if_neg (show ¬ nI 12 = nI 5 by decide), if_neg (show ¬ nI 12 = nI 6 by decide), if_neg (show ¬ nI 12 = nI 7 by decide), if_neg (show ¬ nI 12 = nI 8 by decide), if_neg (show ¬ nI 12 = nI 9 by decide), if_neg (show ¬ nI 12 = nI 10 by decide), if_neg (show ¬ nI 12 = nI 11 by decide), if_pos (rfl : nI 12 = nI 12), s2, Option.bind_some]
          all_goals rfl
    · rcases x_ino (n := n) (I := I) (J := J) l1 with ⟨hi, s1, s2⟩ | ⟨s1, s2⟩
      · refine Or.inl ⟨Or.inr (Or.inr (Or.inr (Or.inr (Or.inr (Or.inr (Or.inr (Or.inr (Or.inl (⟨Or.inr rfl, hi⟩))))))))), ?_, ?_⟩
        · rw [gX10_isCall, bX10_isCall_0, if_neg (show ¬ nI 13 = nI 0 by decide), if_neg (show ¬ nI 13 = nI 1 by decide), if_neg (show ¬ nI 13 = nI 2 by decide), if_neg (show ¬ nI 13 = nI 3 by decide), if_neg (show ¬ nI 13 = nI 4 by decide), if_neg (show ¬ nI 13 = nI 5 by decide), if_neg (show ¬ nI 13 = nI 6 by decide), if_neg (show ¬ nI 13 = nI 7 by decide), if_neg (show ¬ nI 13 = nI 8 by decide), if_neg (show ¬ nI 13 = nI 9 by decide), if_neg (show ¬ nI 13 = nI 10 by decide), if_neg (show ¬ nI 13 = nI 11 by decide), if_neg (show ¬ nI 13 = nI 12 by decide), if_pos (rfl : nI 13 = nI 13), s1, Option.bind_some]
          all_goals rfl
        · rw [gX11_isGiven, bX11_isGiven_0, if_neg (show ¬ nI 13 = nI 0 by decide), if_neg (show ¬ nI 13 = nI 1 by decide), if_neg (show ¬ nI 13 = nI 2 by decide), if_neg (show ¬ nI 13 = nI 3 by decide), if_neg (show ¬ nI 13 = nI 4 by decide), if_neg (show ¬ nI 13 = nI 5 by decide), if_neg (show ¬ nI 13 = nI 6 by decide), if_neg (show ¬ nI 13 = nI 7 by decide), if_neg (show ¬ nI 13 = nI 8 by decide), if_neg (show ¬ nI 13 = nI 9 by decide), if_neg (show ¬ nI 13 = nI 10 by decide), if_neg (show ¬ nI 13 = nI 11 by decide), if_neg (show ¬ nI 13 = nI 12 by decide), if_pos (rfl : nI 13 = nI 13), s2, Option.bind_some]
          all_goals rfl
      · refine Or.inr ⟨?_, ?_⟩
        · rw [gX10_isCall, bX10_isCall_0, if_neg (show ¬ nI 13 = nI 0 by decide), if_neg (show ¬ nI 13 = nI 1 by decide), if_neg (show ¬ nI 13 = nI 2 by decide), if_neg (show ¬ nI 13 = nI 3 by decide), if_neg (show ¬ nI 13 = nI 4 by decide), if_neg (show ¬ nI 13 = nI 5 by decide), if_neg (show ¬ nI 13 = nI 6 by decide), if_neg (show ¬ nI 13 = nI 7 by decide), if_neg (show ¬ nI 13 = nI 8 by decide), if_neg (show ¬ nI 13 = nI 9 by decide), if_neg (show ¬ nI 13 = nI 10 by decide), if_neg (show ¬ nI 13 = nI 11 by decide), if_neg (show ¬ nI 13 = nI 12 by decide), if_pos (rfl : nI 13 = nI 13), s1, Option.bind_some]
          all_goals rfl
        · rw [gX11_isGiven, bX11_isGiven_0, if_neg (show ¬ nI 13 = nI 0 by decide), if_neg (show ¬ nI 13 = nI 1 by decide), if_neg (show ¬ nI 13 = nI 2 by decide), if_neg (show ¬ nI 13 = nI 3 by decide), if_neg (show ¬ nI 13 = nI 4 by decide), if_neg (show ¬ nI 13 = nI 5 by decide), if_neg (show ¬ nI 13 = nI 6 by decide), if_neg (show ¬ nI 13 = nI 7 by decide), if_neg (show ¬ nI 13 = nI 8 by decide), if_neg (show ¬ nI 13 = nI 9 by decide), if_neg (show ¬ nI 13 = nI 10 by decide), if_neg (show ¬ nI 13 = nI 11 by decide), if_neg (show ¬ nI 13 = nI 12 by decide), if_pos (rfl : nI 13 = nI 13), s2, Option.bind_some]
          all_goals rfl
    · refine Or.inl ⟨Or.inr (Or.inr (Or.inr (Or.inr (Or.inr (Or.inr (Or.inr (Or.inr (Or.inr (Or.inr (rfl)))))))))), ?_, ?_⟩
      · rw [gX10_isCall, bX10_isCall_0, if_neg (show ¬ nI 14 = nI 0 by decide), if_neg (show ¬ nI 14 = nI 1 by decide), if_neg (show ¬ nI 14 = nI 2 by decide), if_neg (show ¬ nI 14 = nI 3 by decide), if_neg (show ¬ nI 14 = nI 4 by decide), if_neg (show ¬ nI 14 = nI 5 by decide), if_neg (show ¬ nI 14 = nI 6 by decide), if_neg (show ¬ nI 14 = nI 7 by decide), if_neg (show ¬ nI 14 = nI 8 by decide), if_neg (show ¬ nI 14 = nI 9 by decide), if_neg (show ¬ nI 14 = nI 10 by decide), if_neg (show ¬ nI 14 = nI 11 by decide), if_neg (show ¬ nI 14 = nI 12 by decide), if_neg (show ¬ nI 14 = nI 13 by decide), if_pos (rfl : nI 14 = nI 14)]
        all_goals rfl
      · rw [gX11_isGiven, bX11_isGiven_0, if_neg (show ¬ nI 14 = nI 0 by decide), if_neg (show ¬ nI 14 = nI 1 by decide), if_neg (show ¬ nI 14 = nI 2 by decide), if_neg (show ¬ nI 14 = nI 3 by decide), if_neg (show ¬ nI 14 = nI 4 by decide), if_neg (show ¬ nI 14 = nI 5 by decide), if_neg (show ¬ nI 14 = nI 6 by decide), if_neg (show ¬ nI 14 = nI 7 by decide), if_neg (show ¬ nI 14 = nI 8 by decide), if_neg (show ¬ nI 14 = nI 9 by decide), if_neg (show ¬ nI 14 = nI 10 by decide), if_neg (show ¬ nI 14 = nI 11 by decide), if_neg (show ¬ nI 14 = nI 12 by decide), if_neg (show ¬ nI 14 = nI 13 by decide), if_pos (rfl : nI 14 = nI 14)]
        all_goals rfl
  · have ne : ∀ j, j < 15 → ¬ l0 = nI j := fun j hj w => by
      subst w
      rcases q with q | q
      · rw [z_lt (by omega) (by omega)] at q; omega
      · rw [z_le (by omega) (by omega)] at q; omega
    refine Or.inr ⟨?_, ?_⟩
    · rw [gX10_isCall, bX10_isCall_0, if_neg (ne 0 (by omega)), if_neg (ne 1 (by omega)), if_neg (ne 2 (by omega)), if_neg (ne 3 (by omega)), if_neg (ne 4 (by omega)), if_neg (ne 5 (by omega)), if_neg (ne 6 (by omega)), if_neg (ne 7 (by omega)), if_neg (ne 8 (by omega)), if_neg (ne 9 (by omega)), if_neg (ne 10 (by omega)), if_neg (ne 11 (by omega)), if_neg (ne 12 (by omega)), if_neg (ne 13 (by omega)), if_neg (ne 14 (by omega))]
    · rw [gX11_isGiven, bX11_isGiven_0, if_neg (ne 0 (by omega)), if_neg (ne 1 (by omega)), if_neg (ne 2 (by omega)), if_neg (ne 3 (by omega)), if_neg (ne 4 (by omega)), if_neg (ne 5 (by omega)), if_neg (ne 6 (by omega)), if_neg (ne 7 (by omega)), if_neg (ne 8 (by omega)), if_neg (ne 9 (by omega)), if_neg (ne 10 (by omega)), if_neg (ne 11 (by omega)), if_neg (ne 12 (by omega)), if_neg (ne 13 (by omega)), if_neg (ne 14 (by omega))]
end DLY
