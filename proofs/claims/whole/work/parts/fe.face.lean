
section FACE2
variable {n k : Nat} {I J : am_I}
theorem p_rng (p : Int32) {m : Nat} (hm : m < 2 ^ 31) : (∃ a, a < m ∧ p = nI a) ∨ (p < nI 0 ∨ nI m ≤ p) := by
  by_cases h1 : p < nI 0
  · exact Or.inr (Or.inl h1)
  · by_cases h2 : nI m ≤ p
    · exact Or.inr (Or.inr h2)
    · refine Or.inl ?_
      rw [Int32.lt_iff_toInt_lt, nI_toInt (by omega)] at h1
      rw [Int32.le_iff_toInt_le, nI_toInt hm] at h2
      refine ⟨p.toInt.toNat, by omega, ?_⟩
      apply Int32.toInt_inj.mp
      rw [nI_toInt (by omega)]
      omega
theorem p_out {p : Int32} {m : Nat} (hm : m + 1 < 2 ^ 31) (h : nI (m + 1) ≤ p) : nI m < p := by
  rw [Int32.le_iff_toInt_le, nI_toInt hm] at h
  rw [Int32.lt_iff_toInt_lt, nI_toInt (by omega)]
  omega
theorem p_ov {p : Int32} {m : Nat} (hm : m + 1 < 2 ^ 31) (h : nI (m + 1) ≤ p) : ¬ p < nI 0 ∧ ¬ p ≤ nI m ∧ ¬ p < nI (m + 1) := by
  rw [Int32.le_iff_toInt_le, nI_toInt hm] at h
  refine ⟨fun q => ?_, fun q => ?_, fun q => ?_⟩
  · rw [Int32.lt_iff_toInt_lt, nI_toInt (by omega)] at q
    omega
  · rw [Int32.le_iff_toInt_le, nI_toInt (by omega)] at q
    omega
  · rw [Int32.lt_iff_toInt_lt, nI_toInt (by omega)] at q
    omega
theorem x_in1 {a lo hi : Nat} (h1 : lo ≤ a) (h2 : a ≤ hi) (h3 : hi < 2 ^ 31) : gX11_in n (nI a) (nI lo) (nI hi) J = some (nI 1, J) := by
  rw [gX11_in, bX11_in_0, if_neg (by rw [z_lt (by omega) (by omega)]; omega), if_neg (by rw [z_lt (by omega) (by omega)]; omega)]
  rfl
theorem x_in0 {p : Int32} {lo hi : Nat} (h : p < nI lo ∨ nI (hi + 1) ≤ p) (h3 : hi + 1 < 2 ^ 31) : gX11_in n p (nI lo) (nI hi) J = some (nI 0, J) := by
  rw [gX11_in, bX11_in_0]
  by_cases c : p < nI lo
  · rw [if_pos c]
    rfl
  · rw [if_neg c, if_pos (p_out h3 (h.resolve_left c))]
    rfl
/-- a node's number, both sides -/
theorem x_node (hn : 0 < n) (hn4 : n ≤ 4) (h1 : J 0 60 1 = nI n) (p : Int32) : (∃ a, a < n ∧ p = nI a ∧ gX10_isNode n p I = some (nI 1, I) ∧ gX11_isNode n p J = some (nI 1, J)) ∨ (gX10_isNode n p I = some (nI 0, I) ∧ gX11_isNode n p J = some (nI 0, J)) := by
  have es : J 0 60 1 - nI 1 = nI (n - 1) := by rw [h1, pk_sub (by omega)]
  rcases p_rng p (m := n) (by omega) with ⟨a, ha, rfl⟩ | q
  · refine Or.inl ⟨a, ha, rfl, ?_, ?_⟩
    · rw [gX10_isNode, bX10_isNode_0, z_0, if_neg (by rw [z_lt (by omega) (by omega)]; omega), if_neg (by rw [z_le (by omega) (by omega)]; omega)]
      rfl
    · rw [gX11_isNode, bX11_isNode_0, es, x_in1 (by omega) (by omega) (by omega), Option.bind_some, z_011]
      rfl
  · refine Or.inr ⟨?_, ?_⟩
    · rw [gX10_isNode, bX10_isNode_0, z_0]
      by_cases c : p < nI 0
      · rw [if_pos c]
        rfl
      · rw [if_neg c, if_pos (q.resolve_left c)]
        rfl
    · rw [gX11_isNode, bX11_isNode_0, es, x_in0 (by rw [show n - 1 + 1 = n by omega]; exact q) (by omega), Option.bind_some, z_01]
      rfl
theorem gs_1 {T e : Nat} {g : Nat → Nat} (h : GS n T e g I J) : (0 < n ∧ n ≤ 4) ∧ J 0 60 1 = nI n := by
  obtain ⟨rw, gv, cl, A, jl, ⟨ms, H, B, K, lg, fb, fq, mk, h⟩, -⟩ := h
  exact ⟨h.1, h.2.1.2.2.2.2.2.2.2.2.2.2⟩
theorem gs_up {T e x : Nat} {g : Nat → Nat} (hx : x < n) (h : GS n T e g I J) : I x 40 5 = J 0 65 x ∧ (J 0 65 x = nI 0 ∨ J 0 65 x = nI 1) ∧ I x 40 6 = J 0 66 x ∧ (J 0 66 x = nI 0 ∨ J 0 66 x = nI 1) ∧ (J 0 65 x = nI 1 → J 0 66 x = nI 1) := by
  obtain ⟨rw, gv, cl, A, jl, ⟨ms, H, B, K, lg, fb, fq, mk, h⟩, -⟩ := h
  have q := h.2.1.2.2.2.2.2.2.2.2.2.1 x hx
  have s := h.2.2.2.2.2.1 x hx
  exact ⟨q.1, q.2, (h.2.2.2.2.1 x hx).2.1, s.1, fun c => (s.2.1 c).1⟩
theorem up60 {v : Int32} : am_up J 0 60 0 v 0 60 0 = v := by rw [z_upk, if_pos rfl]
/-- TICK -/
theorem pr_tick (k : Nat) (I J : am_I) (p0 : Int32) (h : Inv n (k + 1) I J) : PR_tick n k I J p0 := by
  unfold PR_tick
  obtain ⟨T, e, g, h1, h2, h3, h4⟩ := id h
  rcases p_rng p0 (m := 101) (by omega) with ⟨a, ha, rfl⟩ | q
  · left
    obtain ⟨f, hf, hf1⟩ := fu_ex
    obtain ⟨q1, q2⟩ := gs_60 (v := nI 0) h1
    have he : I 0 13 1 = nI e := by
      obtain ⟨rw, gv, cl, A, jl, ⟨ms, H, B, K, lg, fb, fq, mk, h⟩, -⟩ := h1
      exact h.2.2.2.1.2.1
    have he' : am_up J 0 60 0 (nI 0) 0 60 49 = nI e := by
      obtain ⟨rw, gv, cl, A, jl, ⟨ms, H, B, K, lg, fb, fq, mk, h⟩, -⟩ := q1
      exact h.2.2.2.1.2.2.1
    obtain ⟨I', J', e', g', r1, r2, r3, r4, r5, r6⟩ := tick_lp (n := n) (S := e + cs n J) (N := a) (l2 := nI e) (by omega) (by omega) a 0 am_fu am_fu T e g I (am_up J 0 60 0 (nI 0)) (by omega) (by rw [hf]; omega) (by rw [hf]; omega) q1 h2 (by omega) (by rw [q2])
    refine ⟨nI e' - nI e, I', J', ?_, ?_, ?_, T + a, e', g', r3, r4, by omega, by omega⟩
    · rw [gX10_tick, bX10_tick_0, z_0, if_neg (by rw [z_lt (by omega) (by omega)]; omega), if_pos (by rw [z_le (by omega) (by omega)]; omega), he, r1]
    · rw [gX11_tick, bX11_tick_0, x_in1 (by omega) (by omega) (by omega), Option.bind_some]
      dsimp only
      rw [if_neg n10, bX11_tick_16, r_ref0, Option.bind_some]
      dsimp only
      rw [if_pos n00, he', r2]
    · rw [r6]; exact up60
  · right
    refine ⟨nI 0, _, ?_, ?_, up60, inv_60 h⟩
    rotate_left
    · rw [gX11_tick, bX11_tick_0, x_in0 q (by omega), Option.bind_some]
      dsimp only
      rw [if_pos n00, bX11_tick_16, r_ref1, Option.bind_some]
      dsimp only
      rw [if_neg n10]
    · rw [gX10_tick, bX10_tick_0, z_0]
      by_cases c : p0 < nI 0
      · rw [if_pos c]
        rfl
      · rw [if_neg c, if_neg (p_ov (by omega) (q.resolve_left c)).2.1]
        rfl
/-- CRASH -/
theorem pr_crash (k : Nat) (I J : am_I) (p0 p1 : Int32) (h : Inv n (k + 1) I J) : PR_crash n k I J p0 p1 := by
  unfold PR_crash
  obtain ⟨T, e, g, h1, h2, h3, h4⟩ := id h
  obtain ⟨⟨hn, hn4⟩, j1⟩ := gs_1 h1
  have bad : gX11_crash n p0 p1 J = bX11_crash_22 n p0 p1 J → gX10_crash n p0 p1 I = some (.inr 18, I) → (∃ J', gX10_crash n p0 p1 I = some (.inr 18, I) ∧ gX11_crash n p0 p1 J = some J' ∧ J' 0 60 0 = nI 1 ∧ Inv n k I J') := fun q1 q2 => by
    refine ⟨_, q2, ?_, up60, inv_60 h⟩
    rw [q1, bX11_crash_22, bX11_crash_23, if_pos n00, bX11_crash_34, if_pos n00, bX11_crash_51, bX11_crash_52, r_ref1, Option.bind_some]
    dsimp only
    rw [if_neg n10]
  rcases x_node (I := I) hn hn4 j1 p0 with ⟨a, ha, rfl, s1, s2⟩ | ⟨s1, s2⟩
  · rcases p_rng p1 (m := 16) (by omega) with ⟨t, ht, rfl⟩ | q
    · obtain ⟨u1, u2, -⟩ := gs_up ha h1
      have ga : am_inb (nI a) n = true := by rw [z_inb (by omega)]; exact decide_eq_true ha
      have ga4 : am_inb (nI a) 4 = true := by rw [z_inb (by omega)]; exact decide_eq_true (by omega)
      have ka : (nI a).toNatClampNeg = a := z_clamp (by omega)
      have c10 : gX10_crash n (nI a) (nI t) I = if (I a 40 5) = 0 then (some (.inr 42, I)) else ((gX10_tear n a (nI t) I).bind (fun q3 => (gX0_lose n (nI a) q3).bind (fun q4 => if (q4 a 55 5) = (nI 1) then ((gX8_end n a (nI 4) (nI 0) (q4 0 0 7) q4).bind (fun q5 => am_lt (am_up q5 0 0 9 ((q5 0 0 9) + (nI 1))) (fun I6 => bX10_crash_100 n (nI a) a I6))) else (bX10_crash_100 n (nI a) a q4)))) := by
        rw [gX10_crash, bX10_crash_0, s1, Option.bind_some]
        dsimp only
        rw [if_neg n10, z_0, if_neg (by rw [z_lt (by omega) (by omega)]; omega), if_pos (by rw [z_lt (by omega) (by omega)]; omega), am_gd_of ga, ka]
      have c11 : gX11_crash n (nI a) (nI t) J = if J 0 65 a = 0 then bX11_crash_52 n (nI a) (nI t) (nI 1) (nI 0) J else bX11_crash_51 n (nI a) (nI t) (nI 0) J := by
        rw [gX11_crash, bX11_crash_0, s2, Option.bind_some]
        dsimp only
        rw [if_neg n10, x_in1 (by omega) (by omega) (by omega), Option.bind_some]
        dsimp only
        rw [if_neg n10, bX11_crash_23, if_neg n10, bX11_crash_34, if_neg n10, am_gd_of ga4, ka]
      by_cases hU : J 0 65 a = nI 1
      · left
        obtain ⟨q1, q2⟩ := gs_60 (v := nI 0) h1
        obtain ⟨I', J', g', r1, r2, r3, r4, r5, r6⟩ := gs_crash ha ht q1 h2 (by rw [z_upj _ _ _ _ _ _ _ (by omega)]; exact hU)
        refine ⟨I', J', ?_, ?_, by rw [r6]; exact up60, T, e, g', r3, r4, by omega, by omega⟩
        · rw [c10, if_neg (by rw [u1, hU]; decide)]
          exact r1
        · rw [c11, if_neg (by rw [hU]; decide), bX11_crash_51, bX11_crash_52, r_ref0, Option.bind_some]
          dsimp only
          rw [if_pos n00, ka]
          exact r2
      · have h0 : J 0 65 a = nI 0 := u2.resolve_right hU
        right; right
        refine ⟨_, ?_, ?_, up60, inv_60 h⟩
        rotate_left
        · rw [c11, if_pos (show J 0 65 a = 0 from h0), bX11_crash_52, r_ref2, Option.bind_some]
          dsimp only
          rw [if_neg n10]
        · rw [c10, if_pos (show I a 40 5 = 0 by rw [u1, h0]; rfl)]
    · right; left
      refine bad ?_ ?_
      · rw [gX11_crash, bX11_crash_0, s2, Option.bind_some]
        dsimp only
        rw [if_neg n10, x_in0 q (by omega), Option.bind_some]
        dsimp only
        rw [if_pos n00]
      · rw [gX10_crash, bX10_crash_0, s1, Option.bind_some]
        dsimp only
        rw [if_neg n10, z_0]
        by_cases c : p1 < nI 0
        · rw [if_pos c]
          rfl
        · rw [if_neg c, if_neg (p_ov (by omega) (q.resolve_left c)).2.2]
          rfl
  · right; left
    refine bad ?_ ?_
    · rw [gX11_crash, bX11_crash_0, s2, Option.bind_some]
      dsimp only
      rw [if_pos n00]
    · rw [gX10_crash, bX10_crash_0, s1, Option.bind_some]
      dsimp only
      rw [if_pos n00]
      rfl
theorem x_dead {x : Nat} (hx : x < 4) (hj : J 0 65 x = nI 0 ∨ J 0 65 x = nI 1) (hi : J 0 66 x = nI 0 ∨ J 0 66 x = nI 1) : gX11_isDead n (nI x) J = some (nI (if J 0 65 x = nI 0 ∧ J 0 66 x = nI 1 then 1 else 0), J) := by
  have ga4 : am_inb (nI x) 4 = true := by rw [z_inb (by omega)]; exact decide_eq_true (by omega)
  have ka : (nI x).toNatClampNeg = x := z_clamp (by omega)
  rw [gX11_isDead, bX11_isDead_0, am_gd_of ga4, ka]
  rcases hj with q | q
  · rw [if_pos (show J 0 65 x = 0 from q), am_gd_of ga4]
    rcases hi with w | w
    · rw [if_pos (show J 0 66 x = 0 from w), if_neg (by rw [w]; exact fun c => absurd c.2 (by decide))]
      rfl
    · rw [if_neg (show ¬ J 0 66 x = 0 by rw [w]; decide), if_pos ⟨q, w⟩]
      rfl
  · rw [if_neg (show ¬ J 0 65 x = 0 by rw [q]; decide), if_neg (by rw [q]; exact fun c => absurd c.1 (by decide))]
    rfl
/-- RECOVER -/
theorem pr_recover (k : Nat) (I J : am_I) (p0 : Int32) (h : Inv n (k + 1) I J) : PR_recover n k I J p0 := by
  unfold PR_recover
  obtain ⟨T, e, g, h1, h2, h3, h4⟩ := id h
  obtain ⟨⟨hn, hn4⟩, j1⟩ := gs_1 h1
  rcases x_node (I := I) hn hn4 j1 p0 with ⟨a, ha, rfl, s1, s2⟩ | ⟨s1, s2⟩
  · obtain ⟨u1, u2, u3, u4, u5⟩ := gs_up ha h1
    have ga : am_inb (nI a) n = true := by rw [z_inb (by omega)]; exact decide_eq_true ha
    have ka : (nI a).toNatClampNeg = a := z_clamp (by omega)
    have c10 : gX10_recover n (nI a) I = if (I a 40 5) = 0 then (if (I a 40 6) = 0 then (bX10_recover_42 n I) else (bX10_recover_56 n am_fu (nI 0) (nI 0) I)) else (bX10_recover_42 n I) := by
      rw [gX10_recover, bX10_recover_0, s1, Option.bind_some]
      dsimp only
      rw [if_neg n10, am_gd_of ga, ka, am_gd_of ga]
    have c11 : gX11_recover n (nI a) J = if nI (if J 0 65 a = nI 0 ∧ J 0 66 a = nI 1 then 1 else 0) = 0 then (bX11_recover_33 n (nI 1) (nI 0) J) else (bX11_recover_32 n (nI 0) J) := by
      rw [gX11_recover, bX11_recover_0, s2, Option.bind_some]
      dsimp only
      rw [if_neg n10, bX11_recover_16, if_neg n10, x_dead (by omega) u2 u4, Option.bind_some]
    by_cases hd : J 0 65 a = nI 0 ∧ J 0 66 a = nI 1
    · left
      obtain ⟨q1, q2⟩ := gs_60 (v := nI 0) h1
      obtain ⟨I', J', e', acc, g', r1, r2, r3, r4, r5, r6⟩ := gs_recover q1 (by omega)
      refine ⟨nI acc, I', J', ?_, ?_, by rw [r6]; exact up60, T, e', g', r3, r4, by omega, by omega⟩
      · rw [c10, if_pos (show I a 40 5 = 0 by rw [u1, hd.1]; rfl), if_neg (show ¬ I a 40 6 = 0 by rw [u3, hd.2]; decide), r1]
      · rw [c11, if_pos hd, if_neg n10, bX11_recover_32, bX11_recover_33, r_ref0, Option.bind_some]
        dsimp only
        rw [if_pos n00, r2]
    · right; right
      refine ⟨nI 0, _, ?_, ?_, up60, inv_60 h⟩
      rotate_left
      · rw [c11, if_neg hd, if_pos n00, bX11_recover_33, r_ref2, Option.bind_some]
        dsimp only
        rw [if_neg n10]
      · rw [c10]
        by_cases c : J 0 65 a = nI 0
        · rw [if_pos (show I a 40 5 = 0 by rw [u1, c]; rfl), if_pos (show I a 40 6 = 0 by rw [u3]; exact u4.resolve_right (fun w => hd ⟨c, w⟩))]
          rfl
        · rw [if_neg (show ¬ I a 40 5 = 0 by rw [u1]; exact c)]
          rfl
  · right; left
    refine ⟨nI 0, _, ?_, ?_, up60, inv_60 h⟩
    rotate_left
    · rw [gX11_recover, bX11_recover_0, s2, Option.bind_some]
      dsimp only
      rw [if_pos n00, bX11_recover_16, if_pos n00, bX11_recover_32, bX11_recover_33, r_ref1, Option.bind_some]
      dsimp only
      rw [if_neg n10]
    · rw [gX10_recover, bX10_recover_0, s1, Option.bind_some]
      dsimp only
      rw [if_pos n00]
/-- whether a node is down and joined, both sides -/
theorem c_sdj (hn : n ≤ 4) (hu : ∀ z, z < n → I z 40 5 = J 0 65 z ∧ (J 0 65 z = nI 0 ∨ J 0 65 z = nI 1) ∧ I z 40 6 = J 0 66 z ∧ (J 0 66 z = nI 0 ∨ J 0 66 z = nI 1)) : ∀ (q i fu w : Nat), i + q = n → q < fu → w ≤ 1 → (w = 1 ↔ ∃ z, i ≤ z ∧ z < n ∧ J 0 65 z = nI 0 ∧ J 0 66 z = nI 1) → bX10_someDownAndJoined_2 n fu (nI i) I = some (nI w, I) := by
  intro q
  induction q with
  | zero =>
    intro i fu w hi hfu hw hiff
    obtain ⟨fu, rfl⟩ : ∃ f, fu = f + 1 := ⟨fu - 1, by omega⟩
    have : ¬ w = 1 := fun c => by
      obtain ⟨z, w1, w2, _⟩ := hiff.mp c
      omega
    have : w = 0 := by omega
    unfold bX10_someDownAndJoined_2
    dsimp only
    rw [if_pos (by rw [z_le (by omega) (by omega)]; omega), this]
  | succ q ih =>
    intro i fu w hi hfu hw hiff
    obtain ⟨fu, rfl⟩ : ∃ f, fu = f + 1 := ⟨fu - 1, by omega⟩
    obtain ⟨u1, u2, u3, u4⟩ := hu i (by omega)
    have ga : am_inb (nI i) n = true := by rw [z_inb (by omega)]; exact decide_eq_true (by omega)
    have ka : (nI i).toNatClampNeg = i := z_clamp (by omega)
    unfold bX10_someDownAndJoined_2
    dsimp only
    rw [if_neg (by rw [z_le (by omega) (by omega)]; omega), am_gd_of ga, ka]
    have next : ¬ (J 0 65 i = nI 0 ∧ J 0 66 i = nI 1) → bX10_someDownAndJoined_37 n (bX10_someDownAndJoined_2 n fu) (nI i) I = some (nI w, I) := fun hne => by
      unfold bX10_someDownAndJoined_37
      rw [nI_add]
      refine ih (i + 1) fu w (by omega) (by omega) hw (hiff.trans ⟨fun ⟨z, w1, w2, w⟩ => ?_, fun ⟨z, w1, w⟩ => ⟨z, by omega, w⟩⟩)
      by_cases c : z = i
      · subst c; exact absurd w hne
      · exact ⟨z, by omega, w2, w⟩
    by_cases c : J 0 65 i = nI 0
    · rw [if_pos (show I i 40 5 = 0 by rw [u1, c]; rfl), am_gd_of ga]
      by_cases d : J 0 66 i = nI 1
      · rw [if_neg (show ¬ I i 40 6 = 0 by rw [u3, d]; decide), hiff.mpr ⟨i, Nat.le_refl _, by omega, c, d⟩]
      · rw [if_pos (show I i 40 6 = 0 by rw [u3]; exact u4.resolve_right d)]
        exact next (fun w => d w.2)
    · rw [if_neg (show ¬ I i 40 5 = 0 by rw [u1]; exact c)]
      exact next (fun w => c w.1)
theorem r_sdj {l1 : Int32} {l2 : Int32} (hn : n ≤ 4) (j1 : J 0 60 1 = nI n) (hu : ∀ z, z < n → (J 0 65 z = nI 0 ∨ J 0 65 z = nI 1) ∧ (J 0 66 z = nI 0 ∨ J 0 66 z = nI 1)) : ∀ (q i fu b w : Nat), i + q = n → q < fu → b ≤ 1 → w ≤ 1 → (w = 1 ↔ b = 1 ∨ ∃ z, i ≤ z ∧ z < n ∧ J 0 65 z = nI 0 ∧ J 0 66 z = nI 1) → bX11_start_11 n fu l1 l2 (nI b) (nI i) J = if l2 = 0 then (bX11_start_55 n l1 l2 (nI w) (nI 1) J) else (bX11_start_55 n l1 l2 (nI w) (nI 0) J) := by
  intro q
  induction q with
  | zero =>
    intro i fu b w hi hfu hb hw hiff
    obtain ⟨fu, rfl⟩ : ∃ f, fu = f + 1 := ⟨fu - 1, by omega⟩
    have : w = 1 ↔ b = 1 := ⟨fun c => (hiff.mp c).elim id (fun ⟨z, w1, w2, _⟩ => by omega), fun c => hiff.mpr (Or.inl c)⟩
    have e : w = b := by omega
    unfold bX11_start_11
    dsimp only
    rw [if_pos (by rw [j1, z_le (by omega) (by omega)]; omega), e]
  | succ q ih =>
    intro i fu b w hi hfu hb hw hiff
    obtain ⟨fu, rfl⟩ : ∃ f, fu = f + 1 := ⟨fu - 1, by omega⟩
    obtain ⟨u2, u4⟩ := hu i (by omega)
    conv => lhs; unfold bX11_start_11
    dsimp only
    rw [if_neg (by rw [j1, z_le (by omega) (by omega)]; omega)]
    have go : ∀ b' : Nat, b' ≤ 1 → (b' = 1 ↔ b = 1 ∨ (J 0 65 i = nI 0 ∧ J 0 66 i = nI 1)) → bX11_start_38 n (bX11_start_11 n fu) l1 l2 (nI i) (nI b') J = if l2 = 0 then (bX11_start_55 n l1 l2 (nI w) (nI 1) J) else (bX11_start_55 n l1 l2 (nI w) (nI 0) J) := fun b' hb' hif => by
      unfold bX11_start_38
      rw [nI_add]
      refine ih (i + 1) fu b' w (by omega) (by omega) hb' hw (hiff.trans ⟨fun v => v.elim (fun v => Or.inl (hif.mpr (Or.inl v))) (fun ⟨z, w1, w2, w⟩ => ?_), fun v => v.elim (fun v => (hif.mp v).imp id (fun v => ⟨i, Nat.le_refl _, by omega, v⟩)) (fun ⟨z, w1, w⟩ => Or.inr ⟨z, by omega, w⟩)⟩)
      by_cases c : z = i
      · subst c; exact Or.inl (hif.mpr (Or.inr w))
      · exact Or.inr ⟨z, by omega, w2, w⟩
    by_cases c : b = 0
    · subst c
      rw [if_pos n00, x_dead (by omega) u2 u4, Option.bind_some]
      dsimp only
      by_cases d : J 0 65 i = nI 0 ∧ J 0 66 i = nI 1
      · rw [if_pos d, if_neg n10, bX11_start_33]
        exact go 1 (by omega) ⟨fun _ => Or.inr d, fun _ => rfl⟩
      · rw [if_neg d, if_pos n00]
        exact go 0 (by omega) ⟨fun w => absurd w (by omega), fun w => w.elim (fun w => absurd w (by omega)) (fun w => absurd w d)⟩
    · have : b = 1 := by omega
      subst this
      rw [if_neg n10, bX11_start_33]
      exact go 1 (by omega) ⟨fun _ => Or.inl rfl, fun _ => rfl⟩
/-- START -/
theorem pr_start (k : Nat) (I J : am_I) (p0 : Int32) (h : Inv n (k + 1) I J) : PR_start n k I J p0 := by
  unfold PR_start
  obtain ⟨T, e, g, h1, h2, h3, h4⟩ := id h
  obtain ⟨⟨hn, hn4⟩, j1⟩ := gs_1 h1
  obtain ⟨f, hf, hf1⟩ := fu_ex
  have hR : ∀ l2 w, w ≤ 1 → (w = 1 ↔ ∃ z, 0 ≤ z ∧ z < n ∧ J 0 65 z = nI 0 ∧ J 0 66 z = nI 1) → bX11_start_11 n am_fu p0 l2 (nI 0) (nI 0) J = if l2 = 0 then (bX11_start_55 n p0 l2 (nI w) (nI 1) J) else (bX11_start_55 n p0 l2 (nI w) (nI 0) J) := fun l2 w hw hiff => r_sdj (l1 := p0) (l2 := l2) hn4 j1 (fun z hz => ⟨(gs_up hz h1).2.1, (gs_up hz h1).2.2.2.1⟩) n 0 am_fu 0 w (by omega) (by rw [hf]; omega) (by omega) hw (hiff.trans ⟨Or.inr, fun c => c.elim (fun c => absurd c (by omega)) id⟩)
  rcases x_node (I := I) hn hn4 j1 p0 with ⟨a, ha, rfl, s1, s2⟩ | ⟨s1, s2⟩
  · obtain ⟨u1, u2, u3, u4, u5⟩ := gs_up ha h1
    have ga : am_inb (nI a) n = true := by rw [z_inb (by omega)]; exact decide_eq_true ha
    have ga4 : am_inb (nI a) 4 = true := by rw [z_inb (by omega)]; exact decide_eq_true (by omega)
    have ka : (nI a).toNatClampNeg = a := z_clamp (by omega)
    have hC := fun w hw hiff => c_sdj (I := I) (J := J) hn4 (fun z hz => ⟨(gs_up hz h1).1, (gs_up hz h1).2.1, (gs_up hz h1).2.2.1, (gs_up hz h1).2.2.2.1⟩) n 0 am_fu w (by omega) (by rw [hf]; omega) hw hiff
    have c11 : ∀ w, w ≤ 1 → (w = 1 ↔ ∃ z, 0 ≤ z ∧ z < n ∧ J 0 65 z = nI 0 ∧ J 0 66 z = nI 1) → gX11_start n (nI a) J = bX11_start_55 n (nI a) (nI 1) (nI w) (nI 0) J := fun w hw hiff => by
      rw [gX11_start, bX11_start_0, s2, Option.bind_some]
      dsimp only
      rw [hR _ w hw hiff, if_neg n10]
    by_cases hd : ∃ z, 0 ≤ z ∧ z < n ∧ J 0 65 z = nI 0 ∧ J 0 66 z = nI 1
    · right; right
      replace c11 := c11 1 (by omega) ⟨fun _ => hd, fun _ => rfl⟩
      replace hC := hC 1 (by omega) ⟨fun _ => hd, fun _ => rfl⟩
      refine ⟨_, ?_, ?_, up60, inv_60 h⟩
      rotate_left
      · rw [c11, bX11_start_55, if_neg n10, am_gd_of ga4, ka]
        have : (if J 0 65 a = 0 then if nI 1 = 0 then bX11_start_76 n (nI a) (nI 0) J else bX11_start_72 n (nI a) (nI 0) J else bX11_start_72 n (nI a) (nI 0) J) = bX11_start_72 n (nI a) (nI 0) J := by
          by_cases c : J 0 65 a = 0
          · rw [if_pos c, if_neg n10]
          · rw [if_neg c]
        rw [this, bX11_start_72, bX11_start_77, r_ref2, Option.bind_some]
        dsimp only
        rw [if_neg n10]
      · rw [gX10_start, bX10_start_0, s1, Option.bind_some]
        dsimp only
        rw [if_neg n10, am_gd_of ga, ka]
        by_cases c : I a 40 5 = 0
        · rw [if_pos c]
          by_cases d : I a 40 6 = 0
          · rw [if_pos d, gX10_someDownAndJoined, bX10_someDownAndJoined_0, hC, Option.bind_some]
            dsimp only
            rw [if_neg n10]
            rfl
          · rw [if_neg d]
            rfl
        · rw [if_neg c]
          rfl
    · replace c11 := c11 0 (by omega) ⟨fun w => absurd w (by omega), fun w => absurd w hd⟩
      replace hC := hC 0 (by omega) ⟨fun w => absurd w (by omega), fun w => absurd w hd⟩
      rcases u2 with u2 | u2
      · left
        have h66 : J 0 66 a = nI 0 := u4.resolve_right (fun w => hd ⟨a, Nat.zero_le _, ha, u2, w⟩)
        obtain ⟨q1, q2⟩ := gs_60 (v := nI 0) h1
        have o : ∀ j, ¬ j = 60 → am_up J 0 60 0 (nI 0) 0 j = J 0 j := fun j q => z_upj _ _ _ _ _ _ _ (by omega)
        obtain ⟨I', J', e', g', r1, r2, r3, r4, r5, r6⟩ := gs_start ha q1 (by omega) (by rw [o 65 (by omega)]; exact u2) (by rw [o 66 (by omega)]; exact h66) (fun z hz => by
          rw [o 65 (by omega), o 66 (by omega)]
          obtain ⟨-, v2, -, v4, -⟩ := gs_up hz h1
          rcases v2 with v2 | v2
          · exact Or.inr (v4.resolve_right (fun w => hd ⟨z, Nat.zero_le _, hz, v2, w⟩))
          · exact Or.inl v2)
        refine ⟨I', J', ?_, ?_, by rw [r6]; exact up60, T, e', g', r3, r4, by omega, by omega⟩
        · rw [gX10_start, bX10_start_0, s1, Option.bind_some]
          dsimp only
          rw [if_neg n10, am_gd_of ga, ka, if_pos (show I a 40 5 = 0 by rw [u1, u2]; rfl), if_pos (show I a 40 6 = 0 by rw [u3, h66]; rfl), gX10_someDownAndJoined, bX10_someDownAndJoined_0, hC, Option.bind_some]
          dsimp only
          rw [if_pos n00, am_lt, am_lt]
          exact r1
        · rw [c11, bX11_start_55, if_neg n10, am_gd_of ga4, ka, if_pos (show J 0 65 a = 0 from u2), if_pos n00, bX11_start_76, bX11_start_77, r_ref0, Option.bind_some]
          dsimp only
          rw [if_pos n00, am_gd_of ga4, ka, am_lt, am_gd_of ga4, am_lt, am_gd_of ga4, am_lt]
          exact r2
      · right; right
        refine ⟨_, ?_, ?_, up60, inv_60 h⟩
        rotate_left
        · rw [c11, bX11_start_55, if_neg n10, am_gd_of ga4, ka, if_neg (show ¬ J 0 65 a = 0 by rw [u2]; decide), bX11_start_72, bX11_start_77, r_ref2, Option.bind_some]
          dsimp only
          rw [if_neg n10]
        · rw [gX10_start, bX10_start_0, s1, Option.bind_some]
          dsimp only
          rw [if_neg n10, am_gd_of ga, ka, if_neg (show ¬ I a 40 5 = 0 by rw [u1, u2]; decide)]
          rfl
  · right; left
    refine ⟨_, ?_, ?_, up60, inv_60 h⟩
    rotate_left
    · rw [gX11_start, bX11_start_0, s2, Option.bind_some]
      dsimp only
      have hw : ∃ w, w ≤ 1 ∧ (w = 1 ↔ ∃ z, 0 ≤ z ∧ z < n ∧ J 0 65 z = nI 0 ∧ J 0 66 z = nI 1) := by
        by_cases hd : ∃ z, 0 ≤ z ∧ z < n ∧ J 0 65 z = nI 0 ∧ J 0 66 z = nI 1
        · exact ⟨1, by omega, fun _ => hd, fun _ => rfl⟩
        · exact ⟨0, by omega, fun w => absurd w (by omega), fun w => absurd w hd⟩
      obtain ⟨w, hw1, hw2⟩ := hw
      rw [hR _ w hw1 hw2, if_pos n00, bX11_start_55, if_pos n00, bX11_start_76, bX11_start_77, r_ref1, Option.bind_some]
      dsimp only
      rw [if_neg n10]
    · rw [gX10_start, bX10_start_0, s1, Option.bind_some]
      dsimp only
      rw [if_pos n00]
end FACE2
