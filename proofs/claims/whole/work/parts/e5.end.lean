
section END
variable {n T e x : Nat} {I J I' J' I2 J2 : am_I} {ms : List (Nat → Nat)} {rw : Nat → List (Nat × Nat)} {gv cl H A B : Nat → Nat → Nat} {K : Nat → Nat → Int} {lg fb jl : Nat → List Nat} {fq mk : Nat → Nat}
/-- a call is entered -/
theorem co_note {z0 : Nat} {ft : Int32} (hz : z0 ≤ e + 1) (h : COz z0 n T e I J ms rw gv cl H A B K lg fb jl fq mk) (hx : x < n) (hB : BKr I2 (am_up J2 0 60 49 (nI (e + 1))) (e + 1)) (hk : ∀ k, k < e → J2 0 125 (10 * k) = J 0 125 (10 * k) ∧ J2 0 125 (10 * k + 9) = J 0 125 (10 * k + 9) ∧ J2 0 126 k = J 0 126 k) (hn1 : J2 0 125 (10 * e) = nI x) (hn3 : J2 0 126 e = nI 0) (oI : ∀ a b, ¬ (a = 0 ∧ (b = 13 ∨ b = 14)) → I2 a b = I a b) (oJ0 : ∀ a b, ¬ (a = 0 ∧ (b = 125 ∨ b = 126 ∨ b = 60)) → J2 a b = J a b) (o60 : ∀ k, ¬ k = 63 → J2 0 60 k = J 0 60 k) : CO n T (e + 1) I2 (am_up J2 0 60 49 (nI (e + 1))) ms rw gv cl H A B K lg fb jl fq mk := by
  obtain ⟨a1, a2, a3, a4, a5, a6, a7, a8, a9, b1, b2, b3, b4⟩ := h
  have oJ : ∀ a b, ¬ (a = 0 ∧ (b = 125 ∨ b = 126 ∨ b = 60)) → am_up J2 0 60 49 (nI (e + 1)) a b = J a b := fun a b q => (z_upj _ _ _ _ _ _ _ (by omega)).trans (oJ0 a b q)
  have oJ6 : ∀ k, ¬ (k = 63 ∨ k = 49) → am_up J2 0 60 49 (nI (e + 1)) 0 60 k = J 0 60 k := fun k q => by rw [z_upk, if_neg (by omega)]; exact o60 k (by omega)
  have o5 : ∀ j, ¬ j = 60 → am_up J2 0 60 49 (nI (e + 1)) 0 j = J2 0 j := fun j q => z_upj _ _ _ _ _ _ _ (by omega)
  have e65 := oJ 0 65 (by omega)
  have e66 := oJ 0 66 (by omega)
  have em : mrr n (am_up J2 0 60 49 (nI (e + 1))) = mrr n J := mrr_cg e66
  have e64 := oJ 0 64 (by omega)
  have edD : dD (am_up J2 0 60 49 (nI (e + 1))) = dD J := by unfold dD; rw [e64]
  have e47 : ∀ z, I2 z 47 = I z 47 := fun z => oI z 47 (by omega)
  have efw : fwI I2 = fwI I := funext fun z => funext fun k => funext fun i => by unfold fwI; rw [e47]
  refine ⟨a1, ml_cg a2 (oI 0 9 (by omega)) (oI 0 11 (by omega)) (by rw [oI 0 0 (by omega)]) (oI 0 10 (by omega)) (fun z _ => by rw [oI z 40 (by omega)]) (oJ6 1 (by omega)) (oJ6 2 (by omega)) (oJ6 38 (by omega)) (oJ6 39 (by omega)) (fun b hb => oJ 0 b (by omega)), ms_cg a3 (fun j h4 h8 => oI 0 j (by omega)) (fun j h4 h8 => oJ 0 j (by omega)), hB, fun z hz => nd_cg (a5 z hz) (fun j _ _ _ => oI z j (by omega)) (by rw [e66]) (fun b i _ _ => by rw [oJ 0 67 (by omega)]) (fun b _ => by rw [oJ 0 68 (by omega)]) (fun b _ => by rw [oJ 0 69 (by omega)]) (by rw [oJ 0 70 (by omega)]) (by rw [oJ 0 71 (by omega)]) (by rw [oJ 0 72 (by omega)]) (by rw [oJ 0 73 (by omega)]) (fun k _ => by rw [oJ 0 74 (by omega)]) (fun k i _ _ => by rw [oJ 0 75 (by omega)]) (fun r _ => ⟨by rw [oJ 0 76 (by omega)], by rw [oJ 0 77 (by omega)], by rw [oJ 0 78 (by omega)]⟩), ?_, by rw [e65, em]; exact a7, fun k hk => by rw [oI 0 1 (by omega), e64]; exact a8 k hk, ?_, cti_up (cti_cg b1 (fun b i _ _ => by rw [e64]) e65 (fun z b i _ _ _ => by rw [oJ 0 67 (by omega)]) (fun z b _ _ => by rw [oJ 0 68 (by omega)]) (fun z k i _ _ _ => by rw [e47]) (fun z hz => (b2 z hz).2.1.2.1) a1.2) hz, by rw [edD, efw]; exact b2, fun z hz => ?_, du_cg b4 (oI 0 12 (by omega))⟩
  · unfold STr at a6 ⊢
    rw [e65, e66, em, oJ 0 71 (by omega), oJ 0 68 (by omega)]
    exact a6
  · unfold TID at a9 ⊢
    rw [oJ 0 120 (by omega), oI 0 19 (by omega), oI 0 15 (by omega)]
    exact a9
  · obtain ⟨m1, m2, m3⟩ := b3 z hz
    rw [o5 125 (by omega), o5 126 (by omega)]
    refine ⟨fun q => Nat.le_succ_of_le (m1 q), fun k hk' q1 q2 => ?_, fun w1 w2 k hk' w3 q => by
      have := m1 w1
      obtain ⟨g1, g2, g3⟩ := hk k (by omega)
      rw [g1] at q
      rw [g2]
      exact m3 w1 w2 k (by omega) w3 q⟩
    by_cases ek : k = e
    · subst ek
      rw [hn3]
      exact ⟨fun q => absurd rfl q, fun q => absurd (m1 q.1) (by omega)⟩
    · obtain ⟨g1, g2, g3⟩ := hk k (by omega)
      rw [g1] at q1
      rw [g2] at q2
      rw [g3]
      exact m2 k (by omega) q1 q2
/-- a call ends: class and reference -/
theorem co_end {z0 : Nat} {ls : List Nat} {st vl ft : Int32} (h : ∃ ms H B K lg fb fq mk, COz z0 n T e I J ms rw gv cl H A B K lg fb jl fq mk) (hz : z0 ≤ e + 1) (hx : x < n) (hU : J 0 65 x = nI 1) (hP : PW x I J) (hls : LSc x I ls) (hpl : ∀ r, r < 136 → J 0 79 (136 * x + r) = nI 1 → r ∈ ls) (he : e < 190) (hc : ∀ c, c < 5 → I x 55 c = J 0 (82 + c) x) (hb : I x 55 7 = J 0 89 x) : ∃ I' J', (gX8_end n x st vl (nI T) I).bind (fun q1 => bX10_endCall_75 n x ft (q1 0 0 7) x q1) = some I' ∧ (∃ J2, gX11_note n (nI x) st vl ft J = some J2 ∧ (∀ k, ¬ k = 63 → J2 0 60 k = J 0 60 k) ∧ gX11_end n (nI x) st vl J2 = some J') ∧ COg n T (e + 1) rw gv cl A jl I' J' ∧ FOI x I I' ∧ FOJ x J J' ∧ J' 0 87 x = st ∧ J' 0 88 x = vl ∧ J' 0 89 x = J 0 89 x ∧ J' 0 91 x = J 0 91 x ∧ J' 0 92 x = J 0 92 x ∧ J' 0 93 x = J 0 93 x ∧ I' x 55 5 = st ∧ I' x 55 6 = vl ∧ I' x 55 8 = J' 0 90 x ∧ I' x 55 11 = nI 0 ∧ (∀ k, ¬ (k = 5 ∨ k = 6 ∨ k = 8 ∨ k = 11) → I' x 55 k = I x 55 k) ∧ I' x 48 6 = nI 0 ∧ (∀ c, c < 136 → I' x 54 c = nI 0) ∧ (∀ r, r < 136 → I' x 52 r = nI 0 ∧ J' 0 79 (136 * x + r) = nI 0 ∧ WT x J' r) ∧ J' 0 77 = J 0 77 := by
  obtain ⟨ms, H, B, K, lg, fb, fq, mk, h0⟩ := h
  have hn := h0.1.2
  have hT : I 0 0 7 = nI T := h0.2.1.2.2.2.1
  have hTJ : J 0 60 2 = nI T := h0.2.1.2.2.2.2.1
  -- the class's task
  let I1 : am_I := am_up (am_up (am_up (am_up I x 55 5 st) x 55 6 vl) x 55 8 (nI T - I x 55 7)) x 55 11 (nI 0)
  have o1 : ∀ a b, ¬ (a = x ∧ b = 55) → I1 a b = I a b := fun a b q => by
    show am_up (am_up (am_up (am_up I x 55 5 st) x 55 6 vl) x 55 8 (nI T - I x 55 7)) x 55 11 (nI 0) a b = I a b
    rw [z_upj _ _ _ _ _ _ _ q, z_upj _ _ _ _ _ _ _ q, z_upj _ _ _ _ _ _ _ q, z_upj _ _ _ _ _ _ _ q]
  have k1 : ∀ k, I1 x 55 k = if k = 11 then nI 0 else if k = 8 then nI T - I x 55 7 else if k = 6 then vl else if k = 5 then st else I x 55 k := fun k => by
    show am_up (am_up (am_up (am_up I x 55 5 st) x 55 6 vl) x 55 8 (nI T - I x 55 7)) x 55 11 (nI 0) x 55 k = _
    rw [z_upk, z_upk, z_upk, z_upk]
  have g8 : gX8_end n x st vl (nI T) I = some I1 := by
    simp only [gX8_end, bX8_end_0, am_lt, z_upk, (by decide : ¬ (7 : Nat) = 6), (by decide : ¬ (7 : Nat) = 5), if_false]
    rfl
  have h1 : COz z0 n T e I1 J ms rw gv cl H A B K lg fb jl fq mk := co_irz h0 ⟨fun a b q _ => o1 a b (by omega), by rw [o1 0 0 (by omega)], by rw [o1 0 15 (by omega)], by rw [o1 0 15 (by omega)]⟩ irJ.rf
  obtain ⟨I2, J2, p1, p2, p3, p4, p5, p6, p7, p8, p9, p10⟩ := p_note (n := n) (x := x) (tm := nI T) (st := st) (vl := vl) (ft := ft) (by omega) he h1.2.2.2.1 (h1.2.2.2.2.1 x hx).1 hTJ (fun c hc' => by rw [k1, if_neg (by omega), if_neg (by omega), if_neg (by omega), if_neg (by omega)]; exact hc c hc') (by rw [k1, if_neg (by omega), if_neg (by omega), if_neg (by omega), if_pos rfl]) (by rw [k1, if_neg (by omega), if_neg (by omega), if_pos rfl])
  have h2 := co_note (ft := ft) hz h1 hx p3 p4 p5 p7 p8 p9 p10
  have e49 : J2 0 60 49 = nI e := by rw [p10 49 (by omega)]; exact h0.2.2.2.1.2.2.1
  have e89 : J2 0 89 x = J 0 89 x := by rw [p9 0 89 (by omega)]
  have e2 : J2 0 60 2 = nI T := by rw [p10 2 (by omega)]; exact hTJ
  let J3 : am_I := am_up (am_up (am_up (am_up J2 0 87 x st) 0 88 x vl) 0 90 x (nI T - J 0 89 x)) 0 60 49 (nI (e + 1))
  have o3 : ∀ a b, ¬ (a = 0 ∧ (b = 87 ∨ b = 88 ∨ b = 90 ∨ b = 60)) → J3 a b = J2 a b := fun a b q => by
    show am_up (am_up (am_up (am_up J2 0 87 x st) 0 88 x vl) 0 90 x (nI T - J 0 89 x)) 0 60 49 (nI (e + 1)) a b = J2 a b
    rw [z_upj _ _ _ _ _ _ _ (by omega), z_upj _ _ _ _ _ _ _ (by omega), z_upj _ _ _ _ _ _ _ (by omega), z_upj _ _ _ _ _ _ _ (by omega)]
  have k60 : ∀ k, J3 0 60 k = if k = 49 then nI (e + 1) else J2 0 60 k := fun k => by
    show am_up (am_up (am_up (am_up J2 0 87 x st) 0 88 x vl) 0 90 x (nI T - J 0 89 x)) 0 60 49 (nI (e + 1)) 0 60 k = _
    rw [z_upk, z_upj _ _ _ _ _ _ _ (by omega), z_upj _ _ _ _ _ _ _ (by omega), z_upj _ _ _ _ _ _ _ (by omega)]
  have k87 : ∀ k, J3 0 87 k = if k = x then st else J2 0 87 k := fun k => by
    show am_up (am_up (am_up (am_up J2 0 87 x st) 0 88 x vl) 0 90 x (nI T - J 0 89 x)) 0 60 49 (nI (e + 1)) 0 87 k = _
    rw [z_upj _ _ _ _ _ _ _ (by omega), z_upj _ _ _ _ _ _ _ (by omega), z_upj _ _ _ _ _ _ _ (by omega), z_upk]
  have k88 : ∀ k, J3 0 88 k = if k = x then vl else J2 0 88 k := fun k => by
    show am_up (am_up (am_up (am_up J2 0 87 x st) 0 88 x vl) 0 90 x (nI T - J 0 89 x)) 0 60 49 (nI (e + 1)) 0 88 k = _
    rw [z_upj _ _ _ _ _ _ _ (by omega), z_upj _ _ _ _ _ _ _ (by omega), z_upk, z_upj _ _ _ _ _ _ _ (by omega)]
  have k90 : ∀ k, J3 0 90 k = if k = x then nI T - J 0 89 x else J2 0 90 k := fun k => by
    show am_up (am_up (am_up (am_up J2 0 87 x st) 0 88 x vl) 0 90 x (nI T - J 0 89 x)) 0 60 49 (nI (e + 1)) 0 90 k = _
    rw [z_upj _ _ _ _ _ _ _ (by omega), z_upk, z_upj _ _ _ _ _ _ _ (by omega), z_upj _ _ _ _ _ _ _ (by omega)]
  have hx4 : x < 4 := by omega
  have g11 : gX11_end n (nI x) st vl J2 = (gX11_unpin n (nI x) J3).bind (fun q9 => some q9) := by
    have ea : nI e + nI 1 = nI (e + 1) := nI_add _ _
    simp (disch := omega) only [gX11_end, bX11_end_0, am_lt, z_inb, hx4, decide_true, z_gdt, z_clamp, z_upj, e49, e89, e2, ea]
    rfl
  have h3 : CO n T (e + 1) I2 J3 ms rw gv cl H A B K lg fb jl fq mk := co_irr h2 irI.rf ⟨fun a b q => by rw [o3 a b (by omega), z_upj _ _ _ _ _ _ _ (by omega)], fun k _ => by rw [k60, z_upk]⟩
  have oI2 : ∀ a b, ¬ (a = x ∧ b = 55) → ¬ (a = 0 ∧ (b = 13 ∨ b = 14)) → I2 a b = I a b := fun a b q1 q2 => (p8 a b q2).trans (o1 a b q1)
  have oJ3 : ∀ a b, ¬ (a = 0 ∧ (b = 87 ∨ b = 88 ∨ b = 90 ∨ b = 60 ∨ b = 125 ∨ b = 126)) → J3 a b = J a b := fun a b q => (o3 a b (by omega)).trans (p9 a b (by omega))
  obtain ⟨I4, J4, u1, u2, u3, u4, u5, u6⟩ := co_unp (ls := ls) ⟨ms, H, B, K, lg, fb, fq, mk, h3⟩ hx (by rw [oJ3 0 65 (by omega)]; exact hU) (fun r hr => by
    unfold WP WT
    rw [oI2 x 52 (by omega) (by omega), oJ3 0 79 (by omega), oJ3 0 80 (by omega), oJ3 0 78 (by omega), oJ3 0 76 (by omega), oJ3 0 72 (by omega)]
    exact hP r hr) (by
    unfold LSc at hls ⊢
    rw [oI2 x 48 (by omega) (by omega), oI2 x 53 (by omega) (by omega)]
    exact hls) (by rw [oJ3 0 79 (by omega)]; exact hpl)
  let I5 : am_I := am_up (am_upf I4 x 54 (am_fil (I4 x 54) 136 (nI 0))) x 48 6 (nI 0)
  have o5 : ∀ a b, ¬ (a = x ∧ (b = 48 ∨ b = 54)) → I5 a b = I4 a b := fun a b q => by
    show am_up (am_upf I4 x 54 (am_fil (I4 x 54) 136 (nI 0))) x 48 6 (nI 0) a b = I4 a b
    rw [z_upj _ _ _ _ _ _ _ (by omega), z_upfj _ _ _ _ _ _ (by omega)]
  have g5 : gX4_clearList n x I4 = some I5 := rfl
  have i7 : I1 0 0 7 = nI T := by rw [o1 0 0 (by omega)]; exact hT
  have k4 : ∀ k, I5 x 55 k = I1 x 55 k := fun k => by rw [o5 x 55 (by omega), u4 x 55 (by omega) (by omega), p8 x 55 (by omega)]
  have oJ4 : ∀ j, (81 ≤ j ∧ j ≤ 93) ∨ j = 77 → J4 0 j = J3 0 j := fun j q => u5.1 0 j (by omega)
  refine ⟨I5, J4, ?_, ?_, cog_irr u3 ⟨fun a b q _ => o5 a b (by omega), by rw [o5 0 0 (by omega)], by rw [o5 0 15 (by omega)], by rw [o5 0 15 (by omega)]⟩ irJ.rf, fun a b q1 q2 => ?_, FOJ.tr ⟨fun a b q => oJ3 a b (by omega), fun k q => ?_, fun j k _ _ _ => by rw [oJ3 0 j (by omega)], fun j k q1 q2 => ?_⟩ u5.o, ?_, ?_, ?_, ?_, ?_, ?_, ?_, ?_, ?_, ?_, fun k q => ?_, ?_, fun c hc' => ?_, fun r hr => ?_, ?_⟩
  · rw [g8, Option.bind_some]
    show (gX0_enter n x (I1 0 0 7) ft I1).bind _ = _
    rw [i7, p1, Option.bind_some, u1, Option.bind_some, g5, Option.bind_some]
  · exact ⟨J2, p2, p10, by rw [g11, u2, Option.bind_some]⟩
  · rw [o5 a b (by omega), u4 a b (by omega) (by omega)]
    exact oI2 a b (by omega) (by omega)
  · rw [k60, if_neg (by omega)]
    exact p10 k (by omega)
  · rcases q1 with rfl | q1
    · rw [oJ3 0 72 (by omega)]
    · have : j = 87 ∨ j = 88 ∨ j = 90 ∨ ¬ (j = 87 ∨ j = 88 ∨ j = 90) := by omega
      rcases this with rfl | rfl | rfl | q3
      · rw [k87, if_neg q2, p9 0 87 (by omega)]
      · rw [k88, if_neg q2, p9 0 88 (by omega)]
      · rw [k90, if_neg q2, p9 0 90 (by omega)]
      · rw [oJ3 0 j (by omega)]
  · rw [oJ4 87 (by omega), k87, if_pos rfl]
  · rw [oJ4 88 (by omega), k88, if_pos rfl]
  · rw [oJ4 89 (by omega), oJ3 0 89 (by omega)]
  · rw [oJ4 91 (by omega), oJ3 0 91 (by omega)]
  · rw [oJ4 92 (by omega), oJ3 0 92 (by omega)]
  · rw [oJ4 93 (by omega), oJ3 0 93 (by omega)]
  · rw [k4, k1, if_neg (by omega), if_neg (by omega), if_neg (by omega), if_pos rfl]
  · rw [k4, k1, if_neg (by omega), if_neg (by omega), if_pos rfl]
  · rw [k4, k1, if_neg (by omega), if_pos rfl, oJ4 90 (by omega), k90, if_pos rfl, hb]
  · rw [k4, k1, if_pos rfl]
  · rw [k4, k1, if_neg (by omega), if_neg (by omega), if_neg (by omega), if_neg (by omega)]
  · show am_up (am_upf I4 x 54 (am_fil (I4 x 54) 136 (nI 0))) x 48 6 (nI 0) x 48 6 = nI 0
    rw [z_upk, if_pos rfl]
  · show am_up (am_upf I4 x 54 (am_fil (I4 x 54) 136 (nI 0))) x 48 6 (nI 0) x 54 c = nI 0
    rw [z_upj _ _ _ _ _ _ _ (by omega), z_upfs]
    exact if_pos hc'
  · rw [o5 x 52 (by omega)]
    exact u6 r hr
  · rw [oJ4 77 (by omega), oJ3 0 77 (by omega)]
end END
