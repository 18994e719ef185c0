
section STA
variable {n T e x : Nat} {I J I' J' : am_I} {g : Nat → Nat}
theorem rec_lp {H A B : Nat → Nat → Nat} {lg fb : Nat → List Nat} {fq mk : Nat → Nat} : ∀ (q i fu fur acc : Nat) (I J : am_I) (K : Nat → Nat → Int) (jl : Nat → List Nat), i + q = n → q < fu → q < fur → RPr n T e i I J H A B K lg fb jl fq mk → (∀ z, z < n → NS0 z I J) → WL I J → ∃ I' J' acc' K' jl', bX10_recover_56 n fu (nI acc) (nI i) I = (gX10_layLocksAnew n I').bind (fun q1 => bX10_recover_116 n am_fu (nI acc') (nI 0) q1) ∧ bX11_recover_47 n fur (nI acc) (nI i) J = (gX11_layAnew n J').bind (fun q1 => some (nI acc', q1)) ∧ RPr n T e n I' J' H A B K' lg fb jl' fq mk ∧ (∀ z, z < n → NS0 z I' J') ∧ WL I' J' ∧ J' 0 87 = J 0 87 ∧ J' 0 60 = J 0 60 := by
  intro q
  induction q with
  | zero =>
    intro i fu fur acc I J K jl hi hf hfr h hns hW
    obtain ⟨fu, rfl⟩ : ∃ f, fu = f + 1 := ⟨fu - 1, by omega⟩
    obtain ⟨fur, rfl⟩ : ∃ f, fur = f + 1 := ⟨fur - 1, by omega⟩
    obtain rfl : i = n := by omega
    have hn := h.1.2
    refine ⟨I, J, acc, K, jl, ?_, ?_, h, hns, hW, rfl, rfl⟩
    · conv => lhs; unfold bX10_recover_56
      dsimp only
      rw [if_pos (by rw [z_le (by omega) (by omega)]; omega)]
    · conv => lhs; unfold bX11_recover_47
      dsimp only
      rw [if_pos (by rw [h.2.1.2.2.2.2.2.2, z_le (by omega) (by omega)]; omega)]
  | succ q ih =>
    intro i fu fur acc I J K jl hi hf hfr h hns hW
    obtain ⟨fu, rfl⟩ : ∃ f, fu = f + 1 := ⟨fu - 1, by omega⟩
    obtain ⟨fur, rfl⟩ : ∃ f, fur = f + 1 := ⟨fur - 1, by omega⟩
    obtain ⟨I1, J1, acc1, K1, jl1, k1, k2, k3, k4, k5, k6, k7⟩ := rp_st (fu := fu) (fur := fur) (acc := acc) (by omega) h hns hW
    obtain ⟨I2, J2, acc2, K2, jl2, w1, w2, w3, w4, w5, w6, w7⟩ := ih (i + 1) fu fur acc1 I1 J1 K1 jl1 (by omega) (by omega) (by omega) k3 k4 k5
    exact ⟨I2, J2, acc2, K2, jl2, by rw [k1]; exact w1, by rw [k2]; exact w2, w3, w4, w5, w6.trans k6, w7.trans k7⟩
/-- DEAD NODES ARE RECOVERED, all of both sides -/
theorem gs_recover (hG : GS n T e g I J) (he : e + cs n J ≤ 190) : ∃ I' J' e' acc g', bX10_recover_56 n am_fu (nI 0) (nI 0) I = some (.inl (some (nI acc)), I') ∧ bX11_recover_47 n am_fu (nI 0) (nI 0) J = some (nI acc, J') ∧ GS n T e' g' I' J' ∧ g' 0 = g' 1 ∧ e' + cs n J' = e + cs n J ∧ J' 0 60 0 = J 0 60 0 := by
  obtain ⟨rw, gv, cl, A, jl, ⟨ms, H, B, K, lg, fb, fq, mk, h⟩, -, hns, hW⟩ := hG
  have hn := h.1.2
  obtain ⟨f, hf, hf1⟩ := fu_ex
  obtain ⟨I1, J1, acc, K1, jl1, k1, k2, k3, k4, k5, k6, k7⟩ := rec_lp n 0 am_fu am_fu 0 I J K jl (by omega) (by rw [hf]; omega) (by rw [hf]; omega) (rp_of h) (fun z hz => (hns z hz).n0) hW
  obtain ⟨I2, J2, g2, w1, w2, w3, w4, w5, w6⟩ := gs_lay (rp_lp k3) k4 k5
  have hcs1 : cs n J1 = cs n J := cs_eq n (fun z _ => by unfold cal; rw [k6])
  obtain ⟨I3, J3, e3, v1, v2, v3, v4, v5⟩ := gol_r (l2 := nI acc) (S := e + cs n J) hn he n 0 am_fu am_fu e I2 J2 (by omega) (by rw [hf]; omega) (by rw [hf]; omega) w3 (by rw [w5, hcs1])
  refine ⟨I3, J3, e3, acc, g2, ?_, ?_, v3, w4, v4, by rw [v5, w6, k7]⟩
  · rw [k1, w1, Option.bind_some]; exact v1
  · rw [k2, w2, v2, Option.bind_some]
/-- A NODE STARTS, all of both sides -/
theorem gs_start (hx : x < n) (hG : GS n T e g I J) (he : e + cs n J ≤ 190) (h65 : J 0 65 x = nI 0) (h66 : J 0 66 x = nI 0) (hnd : ∀ z, z < n → J 0 65 z = nI 1 ∨ J 0 66 z = nI 0) : ∃ I' J' e' g', (gX10_layLocksAnew n (am_up (am_up I x 40 5 (nI 1)) x 40 6 (nI 1))).bind (fun q6 => bX10_start_72 n am_fu (nI 0) q6) = some (.inl none, I') ∧ (gX11_noneOf n (nI x) (am_up (am_up (am_up J 0 65 x (nI 1)) 0 66 x (nI 1)) 0 71 x (nI 0))).bind (fun q8 => (gX11_layAnew n q8).bind (fun q9 => some q9)) = some J' ∧ GS n T e' g' I' J' ∧ g' 0 = g' 1 ∧ e' + cs n J' = e + cs n J ∧ J' 0 60 0 = J 0 60 0 := by
  obtain ⟨rw, gv, cl, A, jl, ⟨ms, H, B, K, lg, fb, fq, mk, h⟩, -, hns, hW⟩ := hG
  have hn := h.1.2
  have hx4 : x < 4 := by omega
  obtain ⟨f, hf, hf1⟩ := fu_ex
  have hR := rp_of h
  obtain ⟨⟨hn0, -⟩, ⟨l1, l2, l3, l4, l5, l6, l7⟩, hBK, hND, hST, h1, hTID, hC, hF, hMK, hA2, hAu⟩ := hR
  have nu : ¬ J 0 65 x = nI 1 := by rw [h65]; decide
  obtain ⟨t1, t2, t3⟩ := (h.2.2.2.2.2.1 x hx).2.2.1 nu
  obtain ⟨t4, t5⟩ := (h.2.2.2.2.2.1 x hx).2.2.2
  obtain ⟨tj, tK⟩ := t4 (by rw [h66]; decide)
  obtain ⟨t6, t7⟩ := t5 nu
  obtain ⟨c1, c2, c3, c4, c5, c6⟩ := hND x hx
  obtain ⟨hPx, hSx, hstx⟩ := hns x hx
  have hNC : ¬ J 0 87 x = nI 1 ∧ NCx x I J := by
    rcases hstx with ⟨-, ls, w, -⟩ | w
    · exact absurd w.1 nu
    · exact w
  -- the class
  have oI : ∀ a b, ¬ (a = x ∧ b = 40) → am_up (am_up I x 40 5 (nI 1)) x 40 6 (nI 1) a b = I a b := fun a b q => by rw [z_upj _ _ _ _ _ _ _ q, z_upj _ _ _ _ _ _ _ q]
  have k40 : ∀ k, am_up (am_up I x 40 5 (nI 1)) x 40 6 (nI 1) x 40 k = if k = 6 then nI 1 else if k = 5 then nI 1 else I x 40 k := fun k => by rw [z_upk, z_upk]
  -- the reference
  obtain ⟨J2, r1, r2, r3, r4, r5, r6, r7⟩ := r_none (n := n) (x := x) (J := am_up (am_up (am_up J 0 65 x (nI 1)) 0 66 x (nI 1)) 0 71 x (nI 0)) hx4
  have o1 : ∀ a b, ¬ (a = 0 ∧ (b = 65 ∨ b = 66 ∨ b = 71)) → am_up (am_up (am_up J 0 65 x (nI 1)) 0 66 x (nI 1)) 0 71 x (nI 0) a b = J a b := fun a b q => by rw [z_upj _ _ _ _ _ _ _ (by omega), z_upj _ _ _ _ _ _ _ (by omega), z_upj _ _ _ _ _ _ _ (by omega)]
  have oJ : ∀ a b, ¬ (a = 0 ∧ (b = 65 ∨ b = 66 ∨ (68 ≤ b ∧ b ≤ 73) ∨ (76 ≤ b ∧ b ≤ 80) ∨ b = 93)) → J2 a b = J a b := fun a b q => by rw [r7 a b (by omega), o1 a b (by omega)]
  have k65 : ∀ k, J2 0 65 k = if k = x then nI 1 else J 0 65 k := fun k => by rw [r7 0 65 (by omega), z_upj _ _ _ _ _ _ _ (by omega), z_upj _ _ _ _ _ _ _ (by omega), z_upk]
  have k66 : ∀ k, J2 0 66 k = if k = x then nI 1 else J 0 66 k := fun k => by rw [r7 0 66 (by omega), z_upj _ _ _ _ _ _ _ (by omega), z_upk, z_upj _ _ _ _ _ _ _ (by omega)]
  have k71 : ∀ k, J2 0 71 k = J 0 71 k := fun k => by
    rw [r7 0 71 (by omega), z_upk, z_upj _ _ _ _ _ _ _ (by omega), z_upj _ _ _ _ _ _ _ (by omega)]
    by_cases c : k = x
    · rw [if_pos c, c, t6]
    · rw [if_neg c]
  have k68 : ∀ k, J2 0 68 k = J 0 68 k := fun k => by
    rw [r2 k, o1 0 68 (by omega)]
    by_cases c : 640 * x ≤ k ∧ k < 640 * x + 640
    · rw [if_pos c]
      have := t7 (k - 640 * x) (by omega)
      rw [show 640 * x + (k - 640 * x) = k from by omega] at this
      rw [this]
    · rw [if_neg c]
  have k69 : ∀ k, J2 0 69 k = J 0 69 k := fun k => by
    rw [r3 k, o1 0 69 (by omega)]
    by_cases c : 640 * x ≤ k ∧ k < 640 * x + 640
    · rw [if_pos c]
      have := c3.1.2.2.2 (k - 640 * x) (by omega)
      rw [show 640 * x + (k - 640 * x) = k from by omega, t1, if_neg (by simp)] at this
      rw [this]
    · rw [if_neg c]
  have z70 : J 0 70 x = nI 0 := (jn_70 c3).mpr t1
  have z72 := c3.2.2.2.2.2.2.2.2.2.1 t2
  have k70 : ∀ j k, j = 70 ∨ j = 72 ∨ j = 73 → J2 0 j k = J 0 j k := fun j k hj => by
    rw [r4 j k (by omega), o1 0 j (by omega)]
    by_cases c : k = x
    · rw [if_pos c, c]
      rcases hj with rfl | rfl | rfl
      · exact z70.symm
      · exact z72.1.symm
      · exact z72.2.symm
    · rw [if_neg c]
  have z78 : ∀ r, r < 136 → J 0 78 (136 * x + r) = (-1 : Int32) := fun r hr => by rw [(c6 r hr).2.2.1.2, (t3 r hr).2.2.1]; rfl
  have z80 : ∀ r, r < 136 → J 0 80 (136 * x + r) = nI 0 := fun r hr => by
    rcases (hPx r hr).2 with w | ⟨w1, w | w⟩
    · exact w.2
    · exact w.2
    · exact absurd (z78 r hr) w.1
  have k76 : ∀ j k, 76 ≤ j → j ≤ 80 → J2 0 j k = J 0 j k := fun j k q1 q2 => by
    by_cases c : 136 * x ≤ k ∧ k < 136 * x + 136
    · have ek : 136 * x + (k - 136 * x) = k := by omega
      have hr : k - 136 * x < 136 := by omega
      have hj : j = 76 ∨ j = 77 ∨ j = 78 ∨ j = 79 ∨ j = 80 := by omega
      rcases hj with rfl | rfl | rfl | rfl | rfl
      · rw [r5 76 k (by omega), if_pos c, ← ek, (c6 _ hr).1.2, (t3 _ hr).1]
      · rw [r5 77 k (by omega), if_pos c, ← ek, (c6 _ hr).2.1, (t3 _ hr).2.1]
      · rw [r6 k, if_pos c, ← ek, z78 _ hr]
      · rw [r5 79 k (by omega), if_pos c, ← ek, (hNC.2.2.2.2 _ hr).1]
      · rw [r5 80 k (by omega), if_pos c, ← ek, z80 _ hr]
    · by_cases c8 : j = 78
      · rw [c8, r6 k, if_neg c, o1 0 78 (by omega)]
      · rw [r5 j k (by omega), if_neg c, o1 0 j (by omega)]
  have e64 : J2 0 64 = J 0 64 := oJ 0 64 (by omega)
  have edD : dD J2 = dD J := by unfold dD; rw [e64]
  have e47 : ∀ z, am_up (am_up I x 40 5 (nI 1)) x 40 6 (nI 1) z 47 = I z 47 := fun z => oI z 47 (by omega)
  have efw : fwI (am_up (am_up I x 40 5 (nI 1)) x 40 6 (nI 1)) = fwI I := funext fun z => funext fun k => funext fun i => by unfold fwI; rw [e47]
  have hLP : LPr n T e (am_up (am_up I x 40 5 (nI 1)) x 40 6 (nI 1)) J2 H A B K lg fb jl fq mk := by
    refine ⟨⟨hn0, hn⟩, ⟨by rw [oI 0 9 (by omega), oJ 0 60 (by omega)]; exact l1, by rw [oI 0 0 (by omega)]; exact l2, by rw [oJ 0 60 (by omega)]; exact l3, l4, by rw [oI 0 10 (by omega), oJ 0 107 (by omega)]; exact l5, fun z hz => ?_, by rw [oJ 0 60 (by omega)]; exact l7⟩, ?_, fun z hz => ?_, fun z hz => ?_, fun k hk => by rw [oI 0 1 (by omega), e64]; exact h1 k hk, ?_, ?_, by rw [edD, efw]; exact hF, ?_, hA2, fun z r r' hz hr hr' u q1 q2 => ?_⟩
    · rw [k65]
      by_cases c : z = x
      · rw [c, k40, if_neg (by omega), if_pos rfl, if_pos rfl]; exact ⟨rfl, Or.inr rfl⟩
      · rw [if_neg c, oI z 40 (by omega)]; exact l6 z hz
    · unfold BKr at hBK ⊢
      rw [oI 0 13 (by omega), oI 0 14 (by omega), oJ 0 60 (by omega), oJ 0 125 (by omega), oJ 0 126 (by omega)]
      exact hBK
    · obtain ⟨q1, q2, q3, q4, q5, q6⟩ := hND z hz
      refine ⟨?_, ?_, jn_cgz q3 (oI z 44 (by omega)) (oI z 45 (by omega)) (oI z 46 (by omega)) (e47 z) (fun b _ => k69 _) (k70 70 z (by omega)) (k71 z) (k70 72 z (by omega)) (k70 73 z (by omega)) (fun k _ => by rw [oJ 0 74 (by omega)]) (fun k i _ _ => by rw [oJ 0 75 (by omega)]), ch_cg q4 (oI z 41 (by omega)) (oI z 42 (by omega)) (oI z 43 (by omega)) (fun b i _ _ => by rw [oJ 0 67 (by omega)]) (fun b hb => k68 _), fun r hr => ?_, fun r hr => ?_⟩
      · by_cases c : z = x
        · rw [c, k40, if_neg (by omega), if_neg (by omega), ← c]; exact q1
        · rw [oI z 40 (by omega)]; exact q1
      · rw [k66]
        by_cases c : z = x
        · rw [c, k40, if_pos rfl, if_pos rfl]
        · rw [oI z 40 (by omega), if_neg c]; exact q2
      · rw [oI z 49 (by omega), oI z 50 (by omega), oI z 51 (by omega), k76 76 _ (by omega) (by omega), k76 77 _ (by omega) (by omega), k76 78 _ (by omega) (by omega)]
        exact q5 r hr
      · rw [k76 76 _ (by omega) (by omega), k76 77 _ (by omega) (by omega), k76 78 _ (by omega) (by omega)]
        exact q6 r hr
    · rw [k65, k66, k71]
      by_cases c : z = x
      · subst c
        rw [if_pos rfl, if_pos rfl]
        exact Or.inl ⟨rfl, rfl, fun r hr => by rw [tK r, (t3 r hr).1]; rfl, fun _ => tj⟩
      · rw [if_neg c, if_neg c]
        rcases hST z hz with w | ⟨w1, w2, w3, w4, w5, w6⟩
        · exact Or.inl w
        · have hz6 : J 0 66 z = nI 0 := (hnd z hz).elim (fun q => by rw [w1] at q; exact absurd q (by decide)) id
          rcases w6 with ⟨p1, p2, p3⟩ | ⟨-, p⟩
          · exact Or.inr ⟨w1, p1, w2, w3, p2, p3, w4, w5.1, fun b hb => by rw [k68]; exact w5.2 b hb⟩
          · rw [hz6] at p; exact absurd p (by decide)
    · unfold TID at hTID ⊢
      rw [oJ 0 120 (by omega), oI 0 19 (by omega), oI 0 15 (by omega)]
      exact hTID
    · -- the content: a node joins with nothing
      have e68 : J2 0 68 = J 0 68 := funext k68
      have e67 : J2 0 67 = J 0 67 := oJ 0 67 (by omega)
      have ecC : cC J2 = cC J := by unfold cC; rw [e67]
      have etv : ∀ z, t_v z J2 = t_v z J := fun z => by unfold t_v; rw [e68, e67, e64]
      have etH : ∀ z, tH z J2 = tH z J := fun z => by unfold tH; rw [e68]
      unfold CTI
      rw [ecC, efw, edD]
      refine ct_join (y := x) hC (fun z q => ?_) (fun z q => ?_) (fun r => by rw [tK r]; exact Int.le_refl _) (fun z _ => etH z) (fun b q => ?_) (fun b q => ?_) (fun z _ => etv z)
      · have q' : J2 0 65 z = nI 1 := q
        rw [k65] at q'
        by_cases c : z = x
        · exact Or.inr c
        · rw [if_neg c] at q'; exact Or.inl q'
      · show J2 0 65 z = nI 1
        rw [k65]
        by_cases c : z = x
        · rw [if_pos c]
        · rw [if_neg c]; exact q
      · have q1 := q.1
        have q2 := q.2
        rw [k68, t7 b q1] at q2
        exact absurd q2 (by decide)
      · have := y2.mp q
        rw [t1] at this
        simp at this
    · unfold MKr at hMK ⊢
      rw [oJ 0 125 (by omega), oJ 0 126 (by omega)]
      exact hMK
    · rw [k65] at u
      by_cases c : z = x
      · rw [c] at q1; exact absurd (t3 r hr).2.1 q1
      · rw [if_neg c] at u; exact hAu z r r' hz hr hr' u q1 q2
  have hns2 : ∀ z, z < n → NS0 z (am_up (am_up I x 40 5 (nI 1)) x 40 6 (nI 1)) J2 := fun z hz => by
    have hw : ∀ r, r < 136 → WP z J2 r := fun r hr => by
      have := ((hns z hz).1 r hr).2
      unfold WP WT at this ⊢
      rw [k76 79 _ (by omega) (by omega), k76 80 _ (by omega) (by omega), k76 78 _ (by omega) (by omega), k76 76 _ (by omega) (by omega), k70 72 z (by omega)]
      exact this
    by_cases c : z = x
    · subst c
      refine ⟨fun r hr => ⟨by rw [oI z 52 (by omega), k76 79 _ (by omega) (by omega)]; exact (hPx r hr).1, hw r hr⟩, ?_, Or.inr ⟨by rw [oJ 0 87 (by omega)]; exact hNC.1, ?_⟩⟩
      · unfold TS at hSx ⊢
        rw [oI z 55 (by omega), oJ 0 87 (by omega), oJ 0 88 (by omega), oJ 0 89 (by omega), oJ 0 90 (by omega), oJ 0 91 (by omega), oJ 0 92 (by omega)]
        exact ⟨fun c hc => by rw [oJ 0 (82 + c) (by omega)]; exact hSx.1 c hc, hSx.2⟩
      · obtain ⟨p1, p2, p3, p4⟩ := hNC.2
        exact ⟨by rw [oI z 55 (by omega)]; exact p1, by rw [oI z 48 (by omega)]; exact p2, by rw [oI z 54 (by omega)]; exact p3, fun r hr => by rw [k76 79 _ (by omega) (by omega), k76 77 _ (by omega) (by omega)]; exact p4 r hr⟩
    · refine ns0_cg (fun b q => oI z b (by omega)) (fun j r q1 q2 _ _ _ => ?_) (fun j q => ?_) hw (hns z hz).n0
      · by_cases c81 : j = 81
        · rw [c81, oJ 0 81 (by omega)]
        · exact k76 j _ q1 (by omega)
      · by_cases c65 : j = 65
        · rw [c65, k65, if_neg c]
        · by_cases c93 : j = 93
          · rw [c93, r4 93 z (by omega), if_neg c, o1 0 93 (by omega)]
          · rw [oJ 0 j (by omega)]
  have hW2 : WL (am_up (am_up I x 40 5 (nI 1)) x 40 6 (nI 1)) J2 := by
    unfold WL at hW ⊢
    rw [oI 0 0 (by omega), oJ 0 60 (by omega), e64]
    exact hW
  have hcs2 : cs n J2 = cs n J := cs_eq n (fun z _ => by unfold cal; rw [oJ 0 87 (by omega)])
  obtain ⟨I3, J3, g3, w1, w2, w3, w4, w5, w6⟩ := gs_lay hLP hns2 hW2
  obtain ⟨I4, J4, e4, v1, v2, v3, v4, v5⟩ := gol_s (l2 := nI 0) (S := e + cs n J) hn he n 0 am_fu am_fu e I3 J3 (by omega) (by rw [hf]; omega) (by rw [hf]; omega) w3 (by rw [w5, hcs2])
  refine ⟨I4, J4, e4, g3, ?_, ?_, v3, w4, v4, by rw [v5, w6, oJ 0 60 (by omega)]⟩
  · rw [w1, Option.bind_some]; exact v1
  · rw [r1, Option.bind_some, w2, v2, Option.bind_some]
end STA
