
section DONE
variable {n T e x : Nat} {I J I' J' I0 J0 : am_I} {ms : List (Nat → Nat)} {rw : Nat → List (Nat × Nat)} {gv cl H A B : Nat → Nat → Nat} {K : Nat → Nat → Int} {lg fb jl : Nat → List Nat} {fq mk : Nat → Nat} {ls : List Nat}
/-- both sides begin a flush, if none is under way -/
theorem co_cbf (h : CO n T e I J ms rw gv cl H A B K lg fb jl fq mk) (hx : x < n) (hU : J 0 65 x = nI 1) : ∃ I' J' lg' fb' fq' mk', gX10_beginFlush n x I = some I' ∧ (if fb x = [] ∧ ¬ lg x = [] then gX11_beginFlush n (nI x) J else some J) = some J' ∧ CO n T e I' J' ms rw gv cl H A B K lg' fb' jl fq' mk' ∧ FGI x I I' ∧ FGJ x J J' ∧ J' 0 76 = J 0 76 ∧ J' 0 78 = J 0 78 ∧ J' 0 79 = J 0 79 ∧ J' 0 80 = J 0 80 ∧ I' x 52 = I x 52 ∧ (¬ (J 0 70 x = nI 0 ∧ J 0 72 x = nI 0) → ¬ J' 0 72 x = nI 0) := by
  have hg := co_gbr h hx hU
  have hn := h.1.2
  obtain ⟨I', J', lg1, fb1, fq1, mk1, p1, p2, p3⟩ := c_bfl (n := n) (t := e) (ed := e) (by omega) hg.2.2.2.2.1.2.2.1 hg.2.2.2.2.1.2.2.2.1 hg.2.2.2.2.1.2.2.2.2 hg.2.2.1 (fun b i hb hi => hg.2.1.2.2.1 b i (hg.2.2.1.1.2.1 b hb) hi (hg.2.2.2.2.2.2.1 b hb))
  obtain ⟨lg', fb', fq', mk', q1, q2, q3, q4, q5, q6, q7, q8, q9⟩ := co_bfl h hx hU p3
  exact ⟨I', J', lg', fb', fq', mk', p1, p2, q1, q2, q3, q4, q5, q6, q7, p3.2.2.1 x 52 (by omega), q9⟩
/-- a try that is done: the call ends, or waits for the log -/
theorem go_dn (h : CO n T e I0 J0 ms rw gv cl H A B K lg fb jl fq mk) (hx : x < n) (hU : J0 0 65 x = nI 1) (hP : PW x I0 J0) (hls : LSr x I0 J0 ls) (hpl : ∀ r, r < 136 → J0 0 79 (136 * x + r) = nI 1 → r ∈ ls) (he : e < 190) (hS : TS x I0 J0) (hA : ∀ r, r < 136 → J0 0 77 (136 * x + r) = nI 0) (hC : TC n x (K x) I0 J0) (hD : DN x (K x) (sST n lg fb jl I0 J0) I0 J0 (nI 1) I J) {k2 : Nat → Int32 → am_I → Option am_I} {l2 : Nat} :
    ∃ I' J', bX10_goOn_64 n k2 x (nI l2) I = k2 x (nI l2 + nI 1) I' ∧ bX11_isTriedAgain_133 n am_fu (nI x) (J 0 70 x) (nI 0) J = some (nI 0, J') ∧ J 0 60 52 = (-1 : Int32) ∧ J 0 60 54 = nI 0 ∧ FOI x I0 I' ∧ FOJ x J0 J'
      ∧ ((COg n T (e + 1) rw gv cl A jl I' J' ∧ J' 0 87 x = nI 2 ∧ PW x I' J' ∧ TS x I' J' ∧ NCx x I' J')
        ∨ (COg n T e rw gv cl A jl I' J' ∧ (∀ r, r < 136 → I' x 52 r = nI 0 ∧ J' 0 79 (136 * x + r) = nI 0 ∧ WT x J' r) ∧ LSr x I' J' ls ∧ I' x 55 11 = nI 1 ∧ (∀ k, ¬ k = 11 → I' x 55 k = I0 x 55 k) ∧ J' 0 93 x = nI 1 ∧ (∀ j, (87 ≤ j ∧ j ≤ 92) ∨ j = 77 → J' 0 j = J0 0 j) ∧ ¬ J' 0 72 x = nI 0)) := by
  have hn := h.1.2
  have hx4 : x < 4 := by omega
  have hD' := hD
  obtain ⟨⟨X, E, F', gn', gp, hT, -⟩, d9, d52, d54, d10⟩ := hD
  have hJN0 := (h.2.2.2.2.1 x hx).2.2.1
  obtain ⟨m, sv, gn, F, c, p1, p2, p3, p4, ⟨f', p5⟩, p6, p7, p8, p9, p10, p11⟩ := p_keep hC hD' hJN0
  have hTR := hT
  obtain ⟨Bw, sv0, cv0, -, t2, -, -, -, -, -, -, -, -, t11, fi, fj, -, -⟩ := hT
  have l00 : J 0 60 61 ≤ J 0 60 61 := by rw [t11.1, z_le (by have := t11.2.2.2.2; omega) (by have := t11.2.2.2.2; omega)]; exact Nat.le_refl _
  have hTI : I 0 0 7 = nI T := by rw [fi 0 0 (by omega) (by omega)]; exact h.2.1.2.2.2.1
  obtain ⟨s1, s2, s3, s4, s5, s6, s7, s8⟩ := hS
  have oI : ∀ b, 48 ≤ b → b ≤ 55 → I x b = I0 x b := fun b q1 q2 => fi x b (by omega) (by omega)
  have oJ : ∀ b, (69 ≤ b ∧ b ≤ 93) → J 0 b = J0 0 b := fun b q => fj.1 0 b (by omega)
  rcases Nat.lt_or_ge 16 m with hm | hm
  · -- too much
    rw [if_pos hm] at p4
    obtain ⟨Bw', I3, J3, u1, u2, u3, u4, u5⟩ := tr_undo hC hTR
    have hco := co_undo h hx hU u3
    have fi3 := u3.2.2.2.2.2.2.2.1
    have fj3 := u3.2.2.2.2.2.2.2.2.1
    have oI3 : ∀ b, 44 ≤ b → b ≤ 55 → I3 x b = I0 x b := fun b q1 q2 => fi3 x b (by omega) (by omega)
    have oJ3 : ∀ b, (69 ≤ b ∧ b ≤ 93) → J3 0 b = J0 0 b := fun b q => fj3.1 0 b (by omega)
    have hU3 : J3 0 65 x = nI 1 := by rw [fj3.1 0 65 (by omega)]; exact hU
    obtain ⟨I4, J4, g1, g2, g3, g4, g5, g6⟩ := co_unp (ls := ls) ⟨ms, H, B, K, lg, fb, fq, mk, hco⟩ hx hU3 (fun r hr => by
      unfold WP WT
      rw [oI3 52 (by omega) (by omega), oJ3 79 (by omega), oJ3 80 (by omega), oJ3 78 (by omega), oJ3 76 (by omega), oJ3 72 (by omega)]
      exact hP r hr) (by
      have := hls.1
      unfold LSc at this ⊢
      rw [oI3 48 (by omega) (by omega), oI3 53 (by omega) (by omega)]
      exact this) (by rw [oJ3 79 (by omega)]; exact hpl)
    have hidle : ¬ (J4 0 70 x = nI 0 ∧ J4 0 72 x = nI 0) := g5.2.2.2.2.2.2 (fun q => p10 hm ((jn_70 (hco.2.2.2.2.1 x hx).2.2.1).mp q.1))
    obtain ⟨ms4, H4, B4, K4, lg4, fb4, fq4, mk4, co4⟩ := g3
    have co5 : CO n T e (am_up I4 x 55 11 (nI 1)) (am_up J4 0 93 x (nI 1)) ms4 rw gv cl H4 A B4 K4 lg4 fb4 jl fq4 mk4 := co_irr co4 (irI_up (by omega)) (irJ_up (by omega))
    have oj5 : ∀ j, ¬ j = 93 → am_up J4 0 93 x (nI 1) 0 j = J4 0 j := fun j q => z_upj _ _ _ _ _ _ _ (by omega)
    obtain ⟨I6, J6, lg6, fb6, fq6, mk6, w1, w2, w3, w4, w5, w6, w7, w8, w9, w10, w11⟩ := co_cbf co5 hx (by rw [oj5 65 (by omega), g5.1 0 65 (by omega)]; exact hU3)
    have hidle5 : ¬ (am_up J4 0 93 x (nI 1) 0 70 x = nI 0 ∧ am_up J4 0 93 x (nI 1) 0 72 x = nI 0) := by rw [oj5 70 (by omega), oj5 72 (by omega)]; exact hidle
    have n72 := w11 hidle5
    have hJN5 := (co5.2.2.2.2.1 x hx).2.2.1
    have k55 : ∀ k, I6 x 55 k = if k = 11 then nI 1 else I0 x 55 k := fun k => by
      rw [w4 x 55 (by omega) (by omega), z_upk, g4 x 55 (by omega) (by omega), oI3 55 (by omega) (by omega)]
    refine ⟨I6, J6, ?_, ?_, d52, d54, (fI.o fi3).tr (g4.o.tr (FOI.tr (fun a b q1 q2 => z_upj _ _ _ _ _ _ _ (by omega)) w4.o)), (fJ.o hx4 fj3).tr (g5.o.tr (FOJ.tr ⟨fun a b q => z_upj _ _ _ _ _ _ _ (by omega), fun k _ => by rw [oj5 60 (by omega)], fun j k q1 q2 _ => by rw [oj5 j (by omega)], fun j k q1 q2 => ?_⟩ w5.o)), Or.inr ⟨⟨ms4, H4, B4, K4, lg6, fb6, fq6, mk6, w3⟩, fun r hr => ?_, ?_, by rw [k55, if_pos rfl], fun k q => by rw [k55, if_neg q], ?_, fun j q => ?_, n72⟩⟩
    · unfold bX10_goOn_64 bX10_goOn_153
      rw [if_neg (by rw [d9]; decide), p4, Option.bind_some]
      refine (if_neg (show ¬ nI 1 = 0 by decide)).trans ?_
      dsimp only
      rw [u1, Option.bind_some, g1, Option.bind_some]
      have wl : gX10_waitForLog n x I4 = some I6 := by
        rw [gX10_waitForLog, bX10_waitForLog_0, am_lt, w1, Option.bind_some]
      rw [wl, Option.bind_some]
    · rw [p5]
      conv => lhs; unfold bX11_isTriedAgain_177
      dsimp only
      rw [if_pos l00, if_neg (by rw [z_le (by omega) (by omega)]; omega), u2, Option.bind_some, g2, Option.bind_some]
      refine (am_gd_of (by rw [z_inb (by omega)]; exact decide_eq_true hx4)).trans ?_
      rw [z_clamp (by omega), am_lt]
      refine (am_gd_of (by rw [z_inb (by omega)]; exact decide_eq_true hx4)).trans ?_
      have e278 : bX11_isTriedAgain_278 n (nI x) J6 = some (nI 0, J6) := by
        rw [bX11_isTriedAgain_278]
        refine (am_gd_of (by rw [z_inb (by omega)]; exact decide_eq_true hx4)).trans ?_
        rw [z_clamp (by omega)]
        exact (if_neg (fun q => n72 q)).trans rfl
      by_cases c72 : am_up J4 0 93 x (nI 1) 0 72 x = nI 0
      · have efb := (jn_72z hJN5).mp c72
        have elg : ¬ lg4 x = [] := fun q => hidle5 ⟨(jn_70 hJN5).mpr q, c72⟩
        rw [if_pos ⟨efb, elg⟩] at w2
        refine (if_pos (show am_up J4 0 93 x (nI 1) 0 72 x = 0 from c72)).trans ?_
        refine (am_gd_of (by rw [z_inb (by omega)]; exact decide_eq_true hx4)).trans ?_
        have hl : 0 < (lg4 x).length := Nat.pos_of_ne_zero (fun q => elg (List.eq_nil_of_length_eq_zero q))
        have hl16 := hJN5.1.2.2.1
        refine (if_neg (by rw [hJN5.2.1]; exact fun q => absurd ((z_le (a := (lg4 x).length) (b := 0) (by omega) (by omega)).mp q) (by omega))).trans ?_
        rw [w2, Option.bind_some]
        exact e278
      · have efb : ¬ (fb4 x = [] ∧ ¬ lg4 x = []) := fun q => c72 ((jn_72z hJN5).mpr q.1)
        rw [if_neg efb] at w2
        refine (if_neg (show ¬ am_up J4 0 93 x (nI 1) 0 72 x = 0 from c72)).trans ?_
        rw [Option.some.inj w2]
        exact e278
    · rcases q1 with rfl | q1
      · rw [oj5 72 (by omega)]
      · by_cases c : j = 93
        · rw [c, z_upk, if_neg q2]
        · rw [oj5 j (by omega)]
    · have := g6 r hr
      unfold WT at this ⊢
      rw [w10, w6, w7, w8, w9, z_upj _ _ _ _ _ _ _ (by omega), oj5 76 (by omega), oj5 78 (by omega), oj5 79 (by omega), oj5 80 (by omega)]
      exact ⟨this.1, this.2.1, this.2.2.elim Or.inl (fun q => Or.inr ⟨q.1, q.2.1, q.2.2.1, n72⟩)⟩
    · unfold LSr LSc at hls ⊢
      rw [w4 x 48 (by omega) (by omega), w4 x 53 (by omega) (by omega), w4 x 54 (by omega) (by omega), z_upj _ _ _ _ _ _ _ (by omega), z_upj _ _ _ _ _ _ _ (by omega), z_upj _ _ _ _ _ _ _ (by omega), g4 x 48 (by omega) (by omega), g4 x 53 (by omega) (by omega), g4 x 54 (by omega) (by omega), oI3 48 (by omega) (by omega), oI3 53 (by omega) (by omega), oI3 54 (by omega) (by omega), w5.1 0 81 (by omega), oj5 81 (by omega), g5.1 0 81 (by omega), oJ3 81 (by omega)]
      exact hls
    · rw [w5.1 0 93 (by omega), z_upk, if_pos rfl]
    · rw [w5.1 0 j (by omega), oj5 j (by omega), g5.1 0 j (by omega), oJ3 j (by omega)]
  · -- kept
    rw [if_neg (by omega)] at p4
    obtain ⟨I3, J3, lg', q1, q2, q3, q4, q5, q6, q7, q8, q9, q10, q11, q12, q13, q14⟩ := p11 hm
    have hco := co_keep h hx hU p1 fi fj q3 q4 q5 q6 q7 q8 q11 q12 q13 q14
    have oI3 : ∀ b, 48 ≤ b → b ≤ 55 → I3 x b = I0 x b := fun b q1 q2 => (q13.1 x b (by omega) (by omega)).trans (oI b q1 q2)
    have oJ3 : ∀ b, (71 ≤ b ∧ b ≤ 93) → J3 0 b = J0 0 b := fun b q => (q14.1 0 b (by omega)).trans (oJ b (by omega))
    have i9 : I3 0 15 9 = nI 1 := by rw [q13.2.1 9 (by omega)]; exact d9
    have i10 : I3 0 15 10 = J3 0 60 55 := by rw [q13.2.1 10 (by omega), q14.2.1 55 (by omega)]; exact d10
    have hTI3 : I3 0 0 7 = nI T := hco.2.1.2.2.2.1
    obtain ⟨I', J', g1, ⟨J2, g2, g3, g4⟩, g5, g6, g7, g8, g9, g10, g11⟩ := co_end2 (z0 := e + 1) (ls := ls) (st := nI 2) (vl := J3 0 60 55) (ft := if c = 0 then nI 0 else nI 1) ⟨ms, H, B, K, setN lg x lg', fb, fq, mk, hco⟩ (by omega) hx (by rw [q14.1 0 65 (by omega), fj.1 0 65 (by omega)]; exact hU) (fun r hr => by
      unfold WP WT
      rw [oI3 52 (by omega) (by omega), oJ3 79 (by omega), oJ3 80 (by omega), oJ3 78 (by omega), oJ3 76 (by omega), oJ3 72 (by omega)]
      exact hP r hr) (by
      have := hls.1
      unfold LSc at this ⊢
      rw [oI3 48 (by omega) (by omega), oI3 53 (by omega) (by omega)]
      exact this) (by rw [oJ3 79 (by omega)]; exact hpl) he (fun c hc => by rw [oI3 55 (by omega) (by omega), oJ3 (82 + c) (by omega)]; exact s1 c hc) (by rw [oI3 55 (by omega) (by omega), oJ3 89 (by omega)]; exact s3) (by rw [oI3 55 (by omega) (by omega), oJ3 91 (by omega)]; exact s5) (by rw [oI3 55 (by omega) (by omega), oJ3 92 (by omega)]; exact s6) (Or.inl rfl) (by rw [oJ3 77 (by omega)]; exact hA)
    have foI : FOI x I I3 := fun a b c1 c2 => q13.1 a b (by omega) (by omega)
    have foJ : FOJ x J J3 := ⟨fun a b q => q14.1 a b (by omega), fun k q => q14.2.1 k (by omega), fun j k c1 c2 _ => by rw [q14.1 0 j (by omega)], fun j k c1 _ => by rw [q14.1 0 j (by omega)]⟩
    refine ⟨I', J', ?_, ?_, d52, d54, (fI.o fi).tr (foI.tr g6), (fJ.o hx4 fj).tr (foJ.tr g7), Or.inl ⟨g5, g8, g9, g10, g11⟩⟩
    · unfold bX10_goOn_64 bX10_goOn_153
      rw [if_neg (by rw [d9]; decide), p4, Option.bind_some]
      refine (if_pos (rfl : nI 0 = 0)).trans ?_
      have en : gX10_endCall n x I = some I' := by
        have key : ∀ l : Int32, (if c = 0 then nI 0 else nI 1) = (if l = 0 then nI 0 else nI 1) → bX10_endCall_15 n x l I = some I' := fun l hl => by
          rw [c_ends (T := T) (st := nI 2) (ft := if c = 0 then nI 0 else nI 1) (I := I3) (Or.inl i9) (by rw [if_neg (by rw [i9]; decide)]) hl hTI3 q1, i10]
          exact g1
        rw [gX10_endCall, bX10_endCall_0, p6]
        by_cases c0 : c = 0
        · rw [if_pos (by rw [c0]; decide)]
          exact key _ (by rw [if_pos c0]; decide)
        · rw [if_neg (show ¬ nI c ≤ 0 from fun q => absurd ((z_le (a := c) (b := 0) (by omega) (by omega)).mp q) (by omega))]
          exact key _ (by rw [if_neg c0]; decide)
      rw [en, Option.bind_some]
    · rw [p5]
      conv => lhs; unfold bX11_isTriedAgain_177
      dsimp only
      rw [if_pos l00, if_pos (by rw [z_le (by omega) (by omega)]; omega), p7]
      have e327 : bX11_isTriedAgain_327 n (nI x) (if c = 0 then nI 0 else nI 1) (J3 0 60 55) (nI 2) (nI x) J3 = some (nI 0, J') := by
        unfold bX11_isTriedAgain_327
        rw [g2, Option.bind_some, g3 55 (by omega), g4, Option.bind_some]
      by_cases c0 : c = 0
      · have sl := p9.mp c0
        rw [if_pos c0] at e327
        rw [if_pos (by rw [sl]; decide)]
        unfold bX11_isTriedAgain_305
        rw [q2, Option.bind_some]
        exact (if_pos (rfl : nI 0 = 0)).trans e327
      · have sl : ¬ sv.length = 0 := fun q => c0 (p9.mpr q)
        rw [if_neg c0] at e327
        rw [if_neg (show ¬ nI sv.length ≤ 0 from fun q => absurd ((z_le (a := sv.length) (b := 0) (by omega) (by omega)).mp q) (by omega))]
        unfold bX11_isTriedAgain_305
        rw [q2, Option.bind_some]
        exact (if_neg (show ¬ nI 1 = 0 by decide)).trans e327
end DONE
