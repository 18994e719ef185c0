
section FLS
variable {n T e x : Nat} {I J I' J' : am_I} {g : Nat → Nat}
variable {k30 : Int32 → Int32 → Int32 → am_I → Option ((Option Int32 ⊕ Nat) × am_I)} {a1 a2 a3 : Int32} {fu f : Nat}
/-- a HEAD's word 2 is 0 or 1 -/
theorem hd_wr {y many q : Nat} {fb : List Nat} {be : Int32} {fw : wS} {J J' : am_I} (hy : y < 4) (hfb : ∀ b, b ∈ fb → 128 ≤ b) (hl : fb.length ≤ 16) (h64 : ∀ k, J' 0 64 k = if 16 * wb y fb q ≤ k ∧ k < 16 * wb y fb q + many then ww fb be fw q (k - 16 * wb y fb q) else J 0 64 k) (h : ∀ z, z < 4 → (J 0 64 (16 * (1 + 24 * z) + 2) = nI 0 ∨ J 0 64 (16 * (1 + 24 * z) + 2) = nI 1)) (hm : many ≤ 16 := by omega) : ∀ z, z < 4 → (J' 0 64 (16 * (1 + 24 * z) + 2) = nI 0 ∨ J' 0 64 (16 * (1 + 24 * z) + 2) = nI 1) := fun z hz => by
  rw [h64]
  by_cases c : 16 * wb y fb q ≤ 16 * (1 + 24 * z) + 2 ∧ 16 * (1 + 24 * z) + 2 < 16 * wb y fb q + many
  · rw [if_pos c]
    have ew : wb y fb q = 1 + 24 * z := by omega
    rw [ew, show 16 * (1 + 24 * z) + 2 - 16 * (1 + 24 * z) = 2 from by omega]
    unfold wb at ew
    unfold ww
    by_cases c1 : q < fb.length
    · rw [if_pos c1] at ew; omega
    · rw [if_neg c1] at ew ⊢
      by_cases c2 : q = fb.length
      · rw [if_pos c2] at ew; omega
      · rw [if_neg c2] at ew ⊢
        by_cases c3 : q = fb.length + 1
        · rw [if_neg (by omega), if_neg (by omega), if_neg (by omega), if_pos rfl, if_pos c3]; exact Or.inr rfl
        · rw [if_neg c3] at ew
          by_cases c4 : q < 2 * fb.length + 2
          · rw [if_pos c4] at ew
            obtain ⟨b, hb⟩ : ∃ b, fb[q - fb.length - 2]? = some b := ⟨_, List.getElem?_eq_getElem (by omega)⟩
            rw [getD_some hb] at ew
            have := hfb b (List.mem_of_getElem? hb)
            omega
          · rw [if_neg (by omega), if_neg (by omega), if_neg (by omega), if_pos rfl, if_neg c3]; exact Or.inl rfl
  · rw [if_neg c]; exact h z hz
/-- who waits for the log at a flush's end -/
theorem ns_b0 (h : NS x I J) : ∃ b0 : Nat, b0 ≤ 1 ∧ I x 55 11 = nI b0 ∧ (b0 = 1 ↔ J 0 87 x = nI 1 ∧ (J 0 82 x = nI 10 ∨ ¬ J 0 93 x = nI 0)) := by
  obtain ⟨hP, hS, hst⟩ := h
  rcases hst with ⟨q1, ls, q2, q3⟩ | ⟨q1, q2⟩
  · obtain ⟨g1, g2, g3, g4, g5, g6, g7, g8, g9⟩ := q2
    by_cases hk : J 0 82 x = nI 10
    · have : I x 55 11 = nI 1 := by
        rcases q3 with w | w
        · exact w.1
        · exact absurd hk w.2.1
      exact ⟨1, by omega, this, ⟨fun _ => ⟨q1, Or.inl hk⟩, fun _ => rfl⟩⟩
    · have h93 := g8 hk
      rcases g7 with w | w
      · exact ⟨0, by omega, w, ⟨fun q => absurd q (by omega), fun q => absurd (h93.symm.trans w) (q.2.resolve_left hk)⟩⟩
      · exact ⟨1, by omega, w, ⟨fun _ => ⟨q1, Or.inr (by rw [← h93, w]; decide)⟩, fun _ => rfl⟩⟩
  · exact ⟨0, by omega, q2.1, ⟨fun q => absurd q (by omega), fun q => absurd q.1 q1⟩⟩
theorem r_fo {b0 : Nat} (hx : x < 4) (hb : b0 ≤ 1) (h : b0 = 1 ↔ J 0 87 x = nI 1 ∧ (J 0 82 x = nI 10 ∨ ¬ J 0 93 x = nI 0)) : gX11_flushOver n (nI x) J = bX11_flushOver_50 n am_fu (nI x) (nI b0) (nI 0) (am_up (am_up J 0 72 x (nI 0)) 0 73 x (nI 0)) := by
  have g : am_inb (nI x) 4 = true := by rw [z_inb (by omega)]; exact decide_eq_true hx
  have kx : (nI x).toNatClampNeg = x := z_clamp (by omega)
  have o : ∀ j, ¬ (j = 72 ∨ j = 73) → am_up (am_up J 0 72 x (nI 0)) 0 73 x (nI 0) 0 j = J 0 j := fun j q => by rw [z_upj _ _ _ _ _ _ _ (by omega), z_upj _ _ _ _ _ _ _ (by omega)]
  have e87 : gX11_isCalling n (nI x) (am_up (am_up J 0 72 x (nI 0)) 0 73 x (nI 0)) = some (nI (if J 0 87 x = nI 1 then 1 else 0), am_up (am_up J 0 72 x (nI 0)) 0 73 x (nI 0)) := by
    rw [gX11_isCalling, bX11_isCalling_0, am_gd_of g, kx, o 87 (by omega)]
    by_cases c : J 0 87 x = nI 1
    · rw [if_pos c, if_pos c]; rfl
    · rw [if_neg c, if_neg c]; rfl
  rw [gX11_flushOver, bX11_flushOver_0, am_gd_of g, am_lt, am_gd_of g, am_lt, kx, e87, Option.bind_some, am_gd_of g, am_gd_of g]
  dsimp only
  have e82 : am_up (am_up J 0 72 x (nI 0)) 0 73 x (nI 0) 0 82 x = J 0 82 x := by rw [o 82 (by omega)]
  have e93 : am_up (am_up J 0 72 x (nI 0)) 0 73 x (nI 0) 0 93 x = J 0 93 x := by rw [o 93 (by omega)]
  unfold bX11_flushOver_46 bX11_flushOver_42 bX11_flushOver_47
  by_cases c : J 0 87 x = nI 1
  · rw [if_pos c]
    refine (if_neg (show ¬ nI 1 = 0 by decide)).trans ?_
    by_cases d : J 0 82 x = nI 10
    · refine (if_pos (e82.trans d)).trans ?_
      rw [h.mpr ⟨c, Or.inl d⟩]
    · refine (if_neg (fun q => d (e82.symm.trans q))).trans ?_
      by_cases d2 : J 0 93 x = nI 0
      · have : b0 = 0 := by
          have : ¬ b0 = 1 := fun q => by
            rcases (h.mp q).2 with w | w
            · exact d w
            · exact w d2
          omega
        refine (if_pos (show am_up (am_up J 0 72 x (nI 0)) 0 73 x (nI 0) 0 93 x = 0 from e93.trans d2)).trans ?_
        rw [this]
      · refine (if_neg (show ¬ am_up (am_up J 0 72 x (nI 0)) 0 73 x (nI 0) 0 93 x = 0 from fun q => d2 (e93.symm.trans q))).trans ?_
        rw [h.mpr ⟨c, Or.inr d2⟩]
  · rw [if_neg c]
    refine (if_pos (rfl : nI 0 = 0)).trans ?_
    have : b0 = 0 := by
      have : ¬ b0 = 1 := fun q => c (h.mp q).1
      omega
    rw [this]
/-- a flush is over, all of both sides: what follows -/
theorem gs_over {rw : Nat → List (Nat × Nat)} {gv cl H A B : Nat → Nat → Nat} {K : Nat → Nat → Int} {lg fb jl : Nat → List Nat} {fq mk : Nat → Nat} {ms : List (Nat → Nat)} {I0 J0 : am_I} (hx : x < n) (h : CO n T e I J ms rw gv cl H A B K lg fb jl fq mk) (hfb : fb x = []) (hU : J 0 65 x = nI 1) (hns : ∀ z, z < n → NS z I0 J0) (hW : WL I J) (oI : ∀ z b, b = 48 ∨ (52 ≤ b ∧ b ≤ 55) → I z b = I0 z b) (oJ : ∀ j, j = 65 ∨ (76 ≤ j ∧ j ≤ 93) → J 0 j = J0 0 j) (o72 : ∀ k, ¬ k = x → J 0 72 k = J0 0 72 k) (he : e + cs n J ≤ 190) {b0 : Nat} (hb : b0 ≤ 1) (h11 : I x 55 11 = nI b0) :
    ∃ a I1 I' J' e', a ≤ 1 ∧ bX10_endFlush_17 n am_fu x (nI b0) (nI 0) I = some (nI a, I1) ∧ (a = 0 → I' = I1) ∧ (a = 1 → gX10_goOn n x I1 = some I') ∧ bX11_flushOver_50 n am_fu (nI x) (nI b0) (nI 0) J = some J' ∧ GS n T e' (gv 136) I' J' ∧ e' + cs n J' = e + cs n J ∧ J' 0 60 0 = J 0 60 0 := by
  have hn := h.1.2
  have hx4 : x < 4 := by omega
  obtain ⟨f, hf, hf1⟩ := fu_ex
  obtain ⟨c1, c2, c3, c4, c5, c6⟩ := h.2.2.2.2.1 x hx
  have hPx := (hns x hx).1
  have hWQ : ∀ c, c < 136 → WQ x J c := fun c hc => by
    have := wq_of (hPx c hc).2
    unfold WQ at this ⊢
    rw [oJ 79 (by omega), oJ 80 (by omega), oJ 78 (by omega)]
    exact this
  have h52 : ∀ c, c < 136 → I x 52 c = J 0 79 (136 * x + c) := fun c hc => by rw [oI x 52 (by omega), oJ 79 (by omega)]; exact (hPx c hc).1
  obtain ⟨w, hw, k1, k2⟩ := wl_lp (n := n) hx4 (fun c hc => ⟨(c5 c hc).2.2, h52 c hc, hWQ c hc⟩) 136 0 am_fu am_fu b0 (by omega) (by rw [hf]; omega) (by rw [hf]; omega) hb
  have hlg : J 0 70 x = nI (lg x).length := c3.2.1
  have hlgI : I x 44 2 = nI (lg x).length := c3.2.2.1
  have hl16 := c3.1.2.2.1
  by_cases hwt : w = 1 ∧ ¬ lg x = []
  · -- another flush begins
    have hpos : 0 < (lg x).length := Nat.pos_of_ne_zero (fun q => hwt.2 (List.eq_nil_of_length_eq_zero q))
    have nle : ¬ nI (lg x).length ≤ 0 := fun q => absurd ((z_le (a := (lg x).length) (b := 0) (by omega) (by omega)).mp q) (by omega)
    obtain ⟨I', J', lg', fb', fq', mk', w1, w2, w3, w4, w5, w6, w7, w8, w9, w10, w11⟩ := co_cbf h hx hU
    rw [if_pos ⟨hfb, hwt.2⟩] at w2
    have n72 := w11 (fun q => hwt.2 ((jn_70 c3).mp q.1))
    refine ⟨0, I', I', J', e, by omega, ?_, fun _ => rfl, fun q => absurd q (by omega), ?_, ⟨rw, gv, cl, A, jl, ⟨ms, H, B, K, lg', fb', fq', mk', w3⟩, rfl, fun z hz => ?_, ?_⟩, ?_, w5.o.2.1 0 (by omega)⟩
    · rw [k1, hwt.1]
      unfold bX10_endFlush_43
      refine (if_neg (show ¬ nI 1 = 0 by decide)).trans ?_
      rw [if_neg (by rw [hlgI]; exact nle), w1, Option.bind_some]
    · rw [k2, if_neg (by rw [hlg]; exact nle), hwt.1]
      refine (if_neg (show ¬ nI 1 = 0 by decide)).trans ?_
      rw [w2, Option.bind_some]
    · by_cases ez : z = x
      · subst ez
        refine ns_72 (fun b hb => ?_) (fun j r q1 q2 q3 => ?_) (fun j hj => by rw [w5.1 0 j (by omega), oJ j (by omega)]) n72 (hns z hz)
        · by_cases e52 : b = 52
          · rw [e52, w10, oI z 52 (by omega)]
          · rw [w4 z b (by omega) (by omega), oI z b hb]
        · have : j = 76 ∨ j = 77 ∨ j = 78 ∨ j = 79 ∨ j = 80 ∨ j = 81 := by omega
          rcases this with rfl | rfl | rfl | rfl | rfl | rfl
          · rw [w6, oJ 76 (by omega)]
          · rw [w5.1 0 77 (by omega), oJ 77 (by omega)]
          · rw [w7, oJ 78 (by omega)]
          · rw [w8, oJ 79 (by omega)]
          · rw [w9, oJ 80 (by omega)]
          · rw [w5.1 0 81 (by omega), oJ 81 (by omega)]
      · refine (ns_cg (fun b hb => ?_) (fun j r q1 q2 q3 => ?_) (fun j hj => ?_) (hns z hz)).1
        · rw [w4 z b (by omega) (by omega), oI z b hb]
        · rw [w5.o.2.2.1 j _ q1 q2 (by omega), oJ j (by omega)]
        · by_cases e72 : j = 72
          · rw [e72, w5.2.2.2.1 z ez, o72 z ez]
          · rw [w5.1 0 j (by omega), oJ j (by omega)]
    · exact wl_fo hW w4.o w5.o
    · rw [cs_eq (J := J) n (fun z _ => by unfold cal; rw [w5.1 0 87 (by omega)])]
  · -- what waited goes down
    obtain ⟨I6, J6, p1, p2, p3, p4, p5, p6, p7, p8, p9, p10⟩ := fo_lp2 (n := n) (T := T) (x := x) (t := e) (ed := e) (Q := fun I1 J1 => COg n T e rw gv cl A jl I1 J1 ∧ FGI x I I1 ∧ FGJ x J J1 ∧ J1 0 65 x = nI 1 ∧ J1 0 79 = J 0 79 ∧ ∀ c, c < 136 → J 0 79 (136 * x + c) = nI 1 → J1 0 76 (136 * x + c) = J 0 76 (136 * x + c)) hn hx (fun I1 J1 q => by
      obtain ⟨⟨ms, H, B, K, lg, fb, fq, mk, h1⟩, -, -, q4, -⟩ := q
      exact ⟨lg x, fb x, fq x, mk x, ms, co_gbr h1 hx q4⟩) (fun I1 J1 I2 J2 r q hr h79 hg => by
      obtain ⟨⟨ms, H, B, K, lg, fb, fq, mk, h1⟩, q2, q3, q4, q5, q6⟩ := q
      obtain ⟨ms', H', B', K', lg', fb', fq', mk', g1, g2, g3, g4, g5⟩ := co_gds h1 hx hr q4 hg
      refine ⟨⟨ms', H', B', K', lg', fb', fq', mk', g1⟩, q2.tr g2, q3.tr g3, by rw [g3.1 0 65 (by omega)]; exact q4, g4.trans q5, fun c hc hp => ?_⟩
      have hne : ¬ c = r := fun q => by
        rw [q5, ← q, hp] at h79
        exact absurd h79 (by decide)
      rw [(g5 c hc hne).1]
      exact q6 c hc hp) 136 0 am_fu am_fu I J (by omega) (by rw [hf]; omega) (by rw [hf]; omega) (fun c hc => absurd hc (by omega)) (fun c _ hc => hWQ c hc) h52 ⟨⟨ms, H, B, K, lg, fb, fq, mk, h⟩, FGI.rf, co_fgr h hx, hU, rfl, fun _ _ _ => rfl⟩
    obtain ⟨q1, q2, q3, q4, q5, q6⟩ := p3
    have hNS0 : NS0 x I6 J6 := ns_fo (I := I0) (J := J0) (fun b hb => by
      by_cases e52 : b = 52
      · rw [e52, p5, oI x 52 (by omega)]
      · rw [q2 x b (by omega) (by omega), oI x b hb]) (fun c hc => ⟨by rw [q3.1 0 77 (by omega), oJ 77 (by omega)], by rw [q5, oJ 79 (by omega)], by rw [q3.1 0 81 (by omega), oJ 81 (by omega)]⟩) (fun c hc => by
      have := q3.2.2.2.2.1 c hc
      rw [oJ 76 (by omega)] at this
      exact this) (fun c hc hp => by
      have := q6 c hc (by rw [oJ 79 (by omega)]; exact hp)
      rw [this, oJ 76 (by omega)]) (fun j hj => by rw [q3.1 0 j (by omega), oJ j (by omega)]) p4 (hns x hx)
    have hoth : ∀ z, z < n → ¬ z = x → NS z I6 J6 := fun z hz ez => by
      refine (ns_cg (fun b hb => ?_) (fun j r q1 q2' q3' => ?_) (fun j hj => ?_) (hns z hz)).1
      · rw [q2 z b (by omega) (by omega), oI z b hb]
      · rw [q3.o.2.2.1 j _ q1 q2' (by omega), oJ j (by omega)]
      · by_cases e72 : j = 72
        · rw [e72, q3.2.2.2.1 z ez, o72 z ez]
        · rw [q3.1 0 j (by omega), oJ j (by omega)]
    have hcs : cs n J6 = cs n J := cs_eq n (fun z _ => by unfold cal; rw [q3.1 0 87 (by omega)])
    obtain ⟨I', J', e', r1, r2, r3, r4, r5⟩ := gs_go hx q1 hNS0 hoth (wl_fo hW q2.o q3.o) (by rw [hcs]; exact he)
    refine ⟨1, I6, I', J', e', by omega, ?_, fun q => absurd q (by omega), fun _ => r1, ?_, r3, by rw [r4, hcs], r5.trans (q3.o.2.1 0 (by omega))⟩
    · rw [k1]
      unfold bX10_endFlush_43 bX10_endFlush_64
      by_cases c : nI w = 0
      · rw [if_pos c]; exact p1
      · rw [if_neg c, if_pos ?_]
        · exact p1
        · have w1 : w = 1 := by
            have : ¬ w = 0 := fun q => c (by rw [q]; rfl)
            omega
          have : lg x = [] := Classical.not_not.mp (fun q => hwt ⟨w1, q⟩)
          rw [hlgI, this]; decide
    · rw [k2]
      have e105 : bX11_flushOver_105 n (nI x) J = some J' := by
        unfold bX11_flushOver_105
        rw [p2, r2, Option.bind_some]
      by_cases c : J 0 70 x ≤ 0
      · rw [if_pos c]; exact e105
      · rw [if_neg c]
        by_cases d : nI w = 0
        · rw [if_pos d]; exact e105
        · exfalso
          have w1 : w = 1 := by
            have : ¬ w = 0 := fun q => d (by rw [q]; rfl)
            omega
          have : lg x = [] := Classical.not_not.mp (fun q => hwt ⟨w1, q⟩)
          exact c (by rw [hlg, this]; decide)
/-- A NODE'S TURN AT A TICK'S END: its flush writes -/
theorem gs_wr (hx : x < n) (h : GS n T e g I J) (he : e + cs n J ≤ 190) : ∃ I' J' e', bX10_tick_105 n k30 (fu + 1) a1 a2 a3 (nI x) I = bX10_tick_105 n k30 fu a1 a2 a3 (nI (x + 1)) I' ∧ bX11_oneTick_99 n (f + 1) (nI x) J = bX11_oneTick_99 n f (nI (x + 1)) J' ∧ GS n T e' g I' J' ∧ e' + cs n J' = e + cs n J ∧ J' 0 60 0 = J 0 60 0 := by
  have h0 := h
  obtain ⟨rw, gv, cl, A, jl, ⟨ms, H, B, K, lg, fb, fq, mk, h⟩, rfl, hns, hW⟩ := h
  have hn := h.1.2
  have hx4 : x < 4 := by omega
  have hML := h.2.1
  have h1 : J 0 60 1 = nI n := hML.2.2.2.2.2.2.2.2.2.2
  obtain ⟨u1, u2⟩ := hML.2.2.2.2.2.2.2.2.2.1 x hx
  obtain ⟨c1, c2, c3, c4, c5, c6⟩ := h.2.2.2.2.1 x hx
  by_cases hU : J 0 65 x = nI 1
  · by_cases hfb : fb x = []
    · exact ⟨I, J, e, t_105 hx hn (c_wn0 (Or.inr (by rw [c3.2.2.2.2.2.2.1, hfb]; rfl))), r_99s hx hn h1 (Or.inr ((jn_72z c3).mpr hfb)), h0, rfl, rfl⟩
    · obtain ⟨d1, d2, d3, d4, d5, d6⟩ := c3.2.2.2.2.2.2.2.2.2.2 hfb
      have hl16 := c3.2.2.2.2.2.2.2.1
      have h5 := c3.2.2.2.2.2.2.1
      have hpos : 0 < (fb x).length := Nat.pos_of_ne_zero (fun q => hfb (List.eq_nil_of_length_eq_zero q))
      obtain ⟨I1, J1, p1, p2, p3, p4, p5, p6⟩ := p_put (n := n) (many := 16) hx4 (by omega) c3 hfb
      have h72 : J 0 72 x = nI (2 * (fb x).length + 3) := by rw [jn_72 c3, if_neg hfb]
      obtain ⟨m1, m2, m3⟩ := h.2.2.2.2.2.2.2.2.2.2.2.1 x hx
      have hmke := m1 hfb
      have oI2 : ∀ a b, ¬ (a = 0 ∧ (b = 0 ∨ b = 1)) → am_up I1 0 0 8 (I1 0 0 8 + nI 1) a b = I a b := fun a b q => by rw [z_upj _ _ _ _ _ _ _ (by omega), p5 a b (by omega)]
      have oJ2 : ∀ a b, ¬ (a = 0 ∧ (b = 60 ∨ b = 64)) → am_up J1 0 60 48 (J1 0 60 48 + nI 1) a b = J a b := fun a b q => by rw [z_upj _ _ _ _ _ _ _ (by omega), p6 a b (by omega)]
      have oJ26 : ∀ k, ¬ k = 48 → am_up J1 0 60 48 (J1 0 60 48 + nI 1) 0 60 k = J 0 60 k := fun k q => by rw [z_upk, if_neg q, p6 0 60 (by omega)]
      have hBK2 : BKr (am_up I1 0 0 8 (I1 0 0 8 + nI 1)) (am_up J1 0 60 48 (J1 0 60 48 + nI 1)) e := by
        have := h.2.2.2.1
        unfold BKr at this ⊢
        rw [oI2 0 13 (by omega), oI2 0 14 (by omega), oJ26 49 (by omega), oJ26 63 (by omega), oJ2 0 125 (by omega), oJ2 0 126 (by omega)]
        exact this
      have safe : ∃ I3 J3, ((if fq x = (fb x).length + 1 then 1 else 0) = 0 → I3 = am_up I1 0 0 8 (I1 0 0 8 + nI 1) ∧ J3 = am_up J1 0 60 48 (J1 0 60 48 + nI 1)) ∧ ((if fq x = (fb x).length + 1 then 1 else 0) = 1 → gX0_makeSafe n (nI x) (nI (mk x)) (am_up I1 0 0 8 (I1 0 0 8 + nI 1)) = some I3 ∧ gX11_noteSafe n (nI x) (am_up J1 0 60 48 (J1 0 60 48 + nI 1)) = some J3) ∧ BKr I3 J3 e ∧ (∀ a b, ¬ (a = 0 ∧ b = 14) → I3 a b = am_up I1 0 0 8 (I1 0 0 8 + nI 1) a b) ∧ (∀ a b, ¬ (a = 0 ∧ b = 125) → J3 a b = am_up J1 0 60 48 (J1 0 60 48 + nI 1) a b) ∧ (∀ k c, c < 9 → J3 0 125 (10 * k + c) = J 0 125 (10 * k + c)) ∧ (∀ k, k < e → J3 0 125 (10 * k + 9) = nI 1 → J 0 125 (10 * k + 9) = nI 1) ∧ (fq x = (fb x).length + 1 → ∀ k, k < e → k < mk x → J3 0 125 (10 * k) = nI x → ¬ J3 0 125 (10 * k + 9) = nI 1) := by
        have e125 : am_up J1 0 60 48 (J1 0 60 48 + nI 1) 0 125 = J 0 125 := oJ2 0 125 (by omega)
        by_cases c : fq x = (fb x).length + 1
        · obtain ⟨I3, J3, s1, s2, s3, s4, s5, s6, s7⟩ := p_safe (n := n) (mk := mk x) hx4 hmke hBK2 (fun k hk q1 q2 => by
            rw [e125] at q1 q2
            rw [oJ2 0 126 (by omega)]
            have := m2 k hk q1 q2
            exact ⟨fun q => (this.mp q).2, fun q => this.mpr ⟨hfb, q⟩⟩)
          refine ⟨I3, J3, fun q => ?_, fun _ => ⟨s1, s2⟩, s3, s6, s7, fun k c hc => by rw [s5 k c hc, e125], fun k hk q => ?_, fun _ k hk hm q1 q2 => ?_⟩
          · rw [if_pos c] at q; omega
          · rw [s4 k hk, e125] at q
            by_cases d : J 0 125 (10 * k) = nI x ∧ J 0 125 (10 * k + 9) = nI 1 ∧ k < mk x
            · exact d.2.1
            · rw [if_neg d] at q; exact q
          · have q1' : J 0 125 (10 * k) = nI x := by
              have := s5 k 0 (by omega)
              rw [Nat.add_zero, e125] at this
              rw [← this]; exact q1
            rw [s4 k hk, e125] at q2
            by_cases d : J 0 125 (10 * k + 9) = nI 1
            · rw [if_pos ⟨q1', d, hm⟩] at q2; exact absurd q2 (by decide)
            · rw [if_neg (fun w => d w.2.1)] at q2; exact d q2
        · refine ⟨_, _, fun _ => ⟨rfl, rfl⟩, fun q => ?_, hBK2, fun _ _ _ => rfl, fun _ _ _ => rfl, fun k c _ => by rw [e125], fun k _ q => by rw [e125] at q; exact q, fun q => absurd q c⟩
          rw [if_neg c] at q; omega
      obtain ⟨I3, J3, s0, s1, sBK, oI3, oJ3, s9, sst, shd⟩ := safe
      have OI : ∀ a b, ¬ (a = 0 ∧ (b = 0 ∨ b = 1 ∨ b = 14)) → I3 a b = I a b := fun a b q => (oI3 a b (by omega)).trans (oI2 a b (by omega))
      have OJ : ∀ a b, ¬ (a = 0 ∧ (b = 60 ∨ b = 64 ∨ b = 125)) → J3 a b = J a b := fun a b q => (oJ3 a b (by omega)).trans (oJ2 a b (by omega))
      have OJ6 : ∀ k, ¬ k = 48 → J3 0 60 k = J 0 60 k := fun k q => by rw [oJ3 0 60 (by omega)]; exact oJ26 k q
      have OI0 : ∀ k, ¬ k = 8 → I3 0 0 k = I 0 0 k := fun k q => by rw [oI3 0 0 (by omega), z_upk, if_neg q, p5 0 0 (by omega)]
      have OI8 : I3 0 0 8 = I 0 0 8 + nI 1 := by rw [oI3 0 0 (by omega), z_upk, if_pos rfl, p5 0 0 (by omega)]
      have OJ48 : J3 0 60 48 = J 0 60 48 + nI 1 := by rw [oJ3 0 60 (by omega), z_upk, if_pos rfl, p6 0 60 (by omega)]
      have O64 : ∀ k, J3 0 64 k = if 16 * wb x (fb x) (fq x) ≤ k ∧ k < 16 * wb x (fb x) (fq x) + 16 then ww (fb x) (J 0 71 x) (fun k i => I x 47 (16 * k + i)) (fq x) (k - 16 * wb x (fb x) (fq x)) else J 0 64 k := fun k => by rw [oJ3 0 64 (by omega), z_upj _ _ _ _ _ _ _ (by omega)]; exact p4 k
      have O1 : ∀ k, k < 10240 → I3 0 1 k = J3 0 64 k := fun k hk => by
        rw [O64, oI3 0 1 (by omega), z_upj _ _ _ _ _ _ _ (by omega), p3 k]
        by_cases c : 16 * wb x (fb x) (fq x) ≤ k ∧ k < 16 * wb x (fb x) (fq x) + 16
        · rw [if_pos c, if_pos c]
        · rw [if_neg c, if_neg c]; exact h.2.2.2.2.2.2.2.1 k hk
      have h36 : I3 x 44 6 = nI (fq x) := by rw [OI x 44 (by omega)]; exact d2
      have h35 : I3 x 44 5 = nI (fb x).length := by rw [OI x 44 (by omega)]; exact h5
      have h373 : J3 0 73 x = nI (fq x) := by rw [OJ 0 73 (by omega)]; exact d3
      have h372 : J3 0 72 x = nI (2 * (fb x).length + 3) := by rw [OJ 0 72 (by omega)]; exact h72
      have hsum : J3 0 73 x + nI 1 = nI (fq x + 1) := by rw [h373, nI_add]
      have hW3 : WL I3 J3 := by
        unfold WL at hW ⊢
        rw [OI8, OJ48, OI0 9 (by omega), OJ6 50 (by omega), hW.1, hW.2.1]
        exact ⟨rfl, rfl, hd_wr hx4 (fun b hb => ((h.2.2.2.2.2.2.2.2.2.2.1 x hx).1.2.2 b hb).1) hl16 O64 hW.2.2⟩
      have hcr : gX11_isCounting n (nI x) (am_up J1 0 60 48 (J1 0 60 48 + nI 1)) = some (nI (if fq x = (fb x).length + 1 then 1 else 0), am_up J1 0 60 48 (J1 0 60 48 + nI 1)) := r_cnt hx4 (by rw [oJ2 0 73 (by omega)]; exact d3) (by rw [oJ2 0 72 (by omega)]; exact h72) (by omega) hl16
      have hch : gX3_isAtHead n x (am_up I1 0 0 8 (I1 0 0 8 + nI 1)) = some (nI (if fq x = (fb x).length + 1 then 1 else 0), am_up I1 0 0 8 (I1 0 0 8 + nI 1)) := c_hd (by rw [oI2 x 44 (by omega)]; exact h5) (by rw [oI2 x 44 (by omega)]; exact d2) (by omega) hl16 hfb
      have hb1 : (if fq x = (fb x).length + 1 then 1 else 0) ≤ 1 := by split <;> omega
      have hms : (if fq x = (fb x).length + 1 then 1 else 0) = 1 → gX0_makeSafe n (am_up I1 0 0 8 (I1 0 0 8 + nI 1) x 40 0) (am_up I1 0 0 8 (I1 0 0 8 + nI 1) x 44 8) (am_up I1 0 0 8 (I1 0 0 8 + nI 1)) = some I3 := fun q => by
        rw [oI2 x 40 (by omega), oI2 x 44 (by omega), c1, d6]; exact (s1 q).1
      have st0 : ∀ k, J3 0 125 (10 * k) = J 0 125 (10 * k) := fun k => s9 k 0 (by omega)
      -- the book of the flushes
      have hMK : ∀ (fbn : List Nat) (J' : am_I), fbn = (if fq x + 1 = 2 * (fb x).length + 3 then [] else fb x) → J' 0 125 = J3 0 125 → J' 0 126 = J3 0 126 → ∀ z, z < n → (¬ setN fb x fbn z = [] → mk z ≤ e) ∧ (∀ k, k < e → J' 0 125 (10 * k) = nI z → J' 0 125 (10 * k + 9) = nI 1 → (¬ J' 0 126 k = nI 0 ↔ ¬ setN fb x fbn z = [] ∧ k < mk z)) ∧ (¬ setN fb x fbn z = [] → (setN fb x fbn z).length + 1 < setN fq x (fq x + 1) z → ∀ k, k < e → k < mk z → J' 0 125 (10 * k) = nI z → ¬ J' 0 125 (10 * k + 9) = nI 1) := by
        intro fbn J' hfbn e125 e126 z hz
        rw [e125, e126, oJ3 0 126 (by omega), oJ2 0 126 (by omega)]
        obtain ⟨n1, n2, n3⟩ := h.2.2.2.2.2.2.2.2.2.2.2.1 z hz
        by_cases ez : z = x
        · subst ez
          rw [setN_s, setN_s]
          by_cases hl : fq z + 1 = 2 * (fb z).length + 3
          · rw [if_pos hl] at hfbn
            rw [hfbn]
            refine ⟨fun q => absurd rfl q, fun k hk q1 q2 => ⟨fun q => ?_, fun q => absurd rfl q.1⟩, fun q => absurd rfl q⟩
            rw [st0] at q1
            have q2' := sst k hk q2
            exact absurd q2' (n3 hfb (by omega) k hk ((n2 k hk q1 q2').mp q).2 q1)
          · rw [if_neg hl] at hfbn
            rw [hfbn]
            refine ⟨n1, fun k hk q1 q2 => ?_, fun w1 w2 k hk hm q1 q2 => ?_⟩
            · rw [st0] at q1
              exact n2 k hk q1 (sst k hk q2)
            · by_cases hq : fq z = (fb z).length + 1
              · exact shd hq k hk hm q1 q2
              · rw [st0] at q1
                exact n3 hfb (by omega) k hk hm q1 (sst k hk q2)
        · rw [setN_o ez, setN_o ez]
          refine ⟨n1, fun k hk q1 q2 => ?_, fun w1 w2 k hk hm q1 q2 => ?_⟩
          · rw [st0] at q1
            exact n2 k hk q1 (sst k hk q2)
          · rw [st0] at q1
            exact n3 w1 w2 k hk hm q1 (sst k hk q2)
      by_cases hlast : fq x + 1 = 2 * (fb x).length + 3
      · -- the last write
        let I5 : am_I := am_up (am_up I3 x 44 6 (nI (fq x + 1))) x 44 5 (nI 0)
        let J5 : am_I := am_up (am_up (am_up J3 0 73 x (nI (fq x + 1))) 0 72 x (nI 0)) 0 73 x (nI 0)
        have o5 : ∀ a b, ¬ (a = x ∧ b = 44) → I5 a b = I3 a b := fun a b q => (z_upj _ _ _ _ _ _ _ q).trans (z_upj _ _ _ _ _ _ _ q)
        have k5 : ∀ k, I5 x 44 k = if k = 5 then nI 0 else if k = 6 then nI (fq x + 1) else I x 44 k := fun k => by
          show am_up (am_up I3 x 44 6 (nI (fq x + 1))) x 44 5 (nI 0) x 44 k = _
          rw [z_upk, z_upk, OI x 44 (by omega)]
        have oj5 : ∀ a b, ¬ (a = 0 ∧ (b = 72 ∨ b = 73)) → J5 a b = J3 a b := fun a b q => (z_upj _ _ _ _ _ _ _ (by omega)).trans ((z_upj _ _ _ _ _ _ _ (by omega)).trans (z_upj _ _ _ _ _ _ _ (by omega)))
        have kj2 : ∀ k, J5 0 72 k = if k = x then nI 0 else J 0 72 k := fun k => by
          show am_up (am_up (am_up J3 0 73 x (nI (fq x + 1))) 0 72 x (nI 0)) 0 73 x (nI 0) 0 72 k = _
          rw [z_upj _ _ _ _ _ _ _ (by omega), z_upk, z_upj _ _ _ _ _ _ _ (by omega), OJ 0 72 (by omega)]
        have kj3 : ∀ k, J5 0 73 k = if k = x then nI 0 else J 0 73 k := fun k => by
          show am_up (am_up (am_up J3 0 73 x (nI (fq x + 1))) 0 72 x (nI 0)) 0 73 x (nI 0) 0 73 k = _
          rw [z_upk]
          by_cases c : k = x
          · rw [if_pos c, if_pos c]
          · rw [if_neg c, if_neg c, z_upj _ _ _ _ _ _ _ (by omega), z_upk, if_neg c, OJ 0 73 (by omega)]
        obtain ⟨jl', co5⟩ := co_wr (I' := I5) (J' := J5) (fbn := []) h hx hU hfb (by rw [if_pos hlast]) (fun k => by rw [oj5 0 64 (by omega)]; exact O64 k) (fun k hk => by rw [o5 0 1 (by omega), oj5 0 64 (by omega)]; exact O1 k hk) (by
          have := sBK
          unfold BKr at this ⊢
          rw [o5 0 13 (by omega), o5 0 14 (by omega), oj5 0 60 (by omega), oj5 0 125 (by omega), oj5 0 126 (by omega)]
          exact this) (fun a b q1 q2 => (o5 a b q2).trans (OI a b q1)) (fun k q => by rw [o5 0 0 (by omega)]; exact OI0 k q) (fun a b q => (oj5 a b (by omega)).trans (OJ a b (by omega))) (fun k q => by rw [oj5 0 60 (by omega)]; exact OJ6 k q) (fun k q => ⟨by rw [kj2, if_neg q], by rw [kj3, if_neg q]⟩) (fun k q1 q2 => by rw [k5, if_neg q1, if_neg q2]) (jn_w2 c3 (fun k q1 q2 => by rw [k5, if_neg q1, if_neg q2]) (by rw [k5, if_pos rfl]) (fun b q1 q2 => by rw [o5 x b (by omega), OI x b (by omega)]) (fun j q1 q2 => by rw [oj5 0 j (by omega), OJ 0 j (by omega)]) (by rw [kj2, if_pos rfl]) (by rw [kj3, if_pos rfl])) (hMK [] J5 (by rw [if_pos hlast]) (oj5 0 125 (by omega)) (oj5 0 126 (by omega)))
        obtain ⟨b0, hb0, h11, hb0c⟩ := ns_b0 (hns x hx)
        have hW5 : WL I5 J5 := by
          unfold WL at hW3 ⊢
          rw [o5 0 0 (by omega), oj5 0 60 (by omega), oj5 0 64 (by omega)]
          exact hW3
        have hcs5 : cs n J5 = cs n J := cs_eq n (fun z _ => by unfold cal; rw [oj5 0 87 (by omega), OJ 0 87 (by omega)])
        obtain ⟨a, I6, I', J', e', q1, q2, q3, q4, q5, q6, q7, q8⟩ := gs_over (I0 := I) (J0 := J) hx co5 setN_s (by rw [oj5 0 65 (by omega), OJ 0 65 (by omega)]; exact hU) hns hW5 (fun z b hb => by rw [o5 z b (by omega), OI z b (by omega)]) (fun j hj => by rw [oj5 0 j (by omega), OJ 0 j (by omega)]) (fun k q => by rw [kj2, if_neg q]) (by rw [hcs5]; exact he) hb0 (by rw [o5 x 55 (by omega), OI x 55 (by omega)]; exact h11)
        have hov : gX11_flushOver n (nI x) (am_up J3 0 73 x (J3 0 73 x + nI 1)) = some J' := by
          rw [hsum, r_fo (b0 := b0) hx4 hb0 (by rw [z_upj _ _ _ _ _ _ _ (by omega), z_upj _ _ _ _ _ _ _ (by omega), z_upj _ _ _ _ _ _ _ (by omega), OJ 0 87 (by omega), OJ 0 82 (by omega), OJ 0 93 (by omega)]; exact hb0c)]
          exact q5
        have hwn : gX10_writeNext n x I = some (nI a, I6) := by
          refine c_wn (fb := fb x) (fq := fq x) (by rw [u1]; exact hU) h5 hl16 hfb p1 hch hb1 (fun q => (s0 q).1) hms h35 h36 d1 q1 (Or.inl ⟨hlast, ?_⟩)
          rw [gX10_endFlush, bX10_endFlush_0, gX3_close, bX3_close_0, am_lt, Option.bind_some]
          show bX10_endFlush_17 n am_fu x (I5 x 55 11) (nI 0) I5 = _
          rw [o5 x 55 (by omega), OI x 55 (by omega), h11]
          exact q2
        refine ⟨I', J', e', ?_, r_99w hx hn h1 (by rw [hU]; decide) (by rw [h72]; exact fun q => absurd ((z_eq (a := 2 * (fb x).length + 3) (b := 0) (by omega) (by omega)).mp q) (by omega)) d3 (by omega) p2 hcr hb1 (fun q => (s0 q).2) (fun q => (s1 q).2) (Or.inl ⟨by rw [hsum, h372, hlast], hov⟩), q6, by rw [q7, hcs5], by rw [q8, oj5 0 60 (by omega)]; exact OJ6 0 (by omega)⟩
        have h01 : a = 0 ∨ a = 1 := by omega
        rcases h01 with rfl | rfl
        · rw [q3 rfl]; exact t_105 hx hn hwn
        · exact t_105g hx hn hwn (q4 rfl)
      · -- not the last
        let I4 : am_I := am_up I3 x 44 6 (nI (fq x + 1))
        let J4 : am_I := am_up J3 0 73 x (nI (fq x + 1))
        have o4 : ∀ a b, ¬ (a = x ∧ b = 44) → I4 a b = I3 a b := fun a b q => z_upj _ _ _ _ _ _ _ q
        have k4 : ∀ k, I4 x 44 k = if k = 6 then nI (fq x + 1) else I x 44 k := fun k => by
          show am_up I3 x 44 6 (nI (fq x + 1)) x 44 k = _
          rw [z_upk, OI x 44 (by omega)]
        have oj4 : ∀ a b, ¬ (a = 0 ∧ b = 73) → J4 a b = J3 a b := fun a b q => z_upj _ _ _ _ _ _ _ q
        have kj4 : ∀ k, J4 0 73 k = if k = x then nI (fq x + 1) else J 0 73 k := fun k => by
          show am_up J3 0 73 x (nI (fq x + 1)) 0 73 k = _
          rw [z_upk, OJ 0 73 (by omega)]
        obtain ⟨jl', co4⟩ := co_wr (I' := I4) (J' := J4) (fbn := fb x) h hx hU hfb (by rw [if_neg hlast]) (fun k => by rw [oj4 0 64 (by omega)]; exact O64 k) (fun k hk => by rw [o4 0 1 (by omega), oj4 0 64 (by omega)]; exact O1 k hk) (by
          have := sBK
          unfold BKr at this ⊢
          rw [o4 0 13 (by omega), o4 0 14 (by omega), oj4 0 60 (by omega), oj4 0 125 (by omega), oj4 0 126 (by omega)]
          exact this) (fun a b q1 q2 => (o4 a b q2).trans (OI a b q1)) (fun k q => by rw [o4 0 0 (by omega)]; exact OI0 k q) (fun a b q => (oj4 a b (by omega)).trans (OJ a b (by omega))) (fun k q => by rw [oj4 0 60 (by omega)]; exact OJ6 k q) (fun k q => ⟨by rw [oj4 0 72 (by omega), OJ 0 72 (by omega)], by rw [kj4, if_neg q]⟩) (fun k q1 q2 => by rw [k4, if_neg q2]) (jn_w1 c3 hfb hlast (fun k q => by rw [k4, if_neg q]) (by rw [k4, if_pos rfl]) (fun b q1 q2 => by rw [o4 x b (by omega), OI x b (by omega)]) (fun j q1 q2 q3 => by rw [oj4 0 j (by omega), OJ 0 j (by omega)]) (by rw [kj4, if_pos rfl])) (hMK (fb x) J4 (by rw [if_neg hlast]) (oj4 0 125 (by omega)) (oj4 0 126 (by omega)))
        have hwn : gX10_writeNext n x I = some (nI 0, I4) := c_wn (fb := fb x) (fq := fq x) (by rw [u1]; exact hU) h5 hl16 hfb p1 hch hb1 (fun q => (s0 q).1) hms h35 h36 d1 (by omega) (Or.inr ⟨hlast, rfl, rfl⟩)
        refine ⟨I4, J4, e, t_105 hx hn hwn, r_99w hx hn h1 (by rw [hU]; decide) (by rw [h72]; exact fun q => absurd ((z_eq (a := 2 * (fb x).length + 3) (b := 0) (by omega) (by omega)).mp q) (by omega)) d3 (by omega) p2 hcr hb1 (fun q => (s0 q).2) (fun q => (s1 q).2) (Or.inr ⟨by rw [hsum, h372, z_eq (by omega) (by omega)]; exact hlast, by rw [hsum]⟩), ⟨rw, gv, cl, A, jl', ⟨_, _, _, _, _, _, _, _, co4⟩, rfl, fun z hz => ?_, ?_⟩, ?_, by rw [oj4 0 60 (by omega)]; exact OJ6 0 (by omega)⟩
        · exact (ns_cg (fun b hb => by rw [o4 z b (by omega), OI z b (by omega)]) (fun j r q1 q2 _ => by rw [oj4 0 j (by omega), OJ 0 j (by omega)]) (fun j hj => by rw [oj4 0 j (by omega), OJ 0 j (by omega)]) (hns z hz)).1
        · unfold WL at hW3 ⊢
          rw [o4 0 0 (by omega), oj4 0 60 (by omega), oj4 0 64 (by omega)]
          exact hW3
        · rw [cs_eq (J := J) n (fun z _ => by unfold cal; rw [oj4 0 87 (by omega), OJ 0 87 (by omega)])]
  · have h65 : J 0 65 x = nI 0 := u2.resolve_right hU
    exact ⟨I, J, e, t_105 hx hn (c_wn0 (Or.inl (by rw [u1]; exact h65))), r_99s hx hn h1 (Or.inl h65), h0, rfl, rfl⟩
end FLS
