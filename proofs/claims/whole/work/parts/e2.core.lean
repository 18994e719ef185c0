
section CORE2
variable {n T e x : Nat} {I J I' J' : am_I} {ms ms0 : List (Nat → Nat)} {rw : Nat → List (Nat × Nat)} {gv cl H A B : Nat → Nat → Nat} {K : Nat → Nat → Int} {lg fb jl : Nat → List Nat} {fq mk : Nat → Nat}
theorem jn_70 {lg fb : List Nat} {fq mk : Nat} (h : JNr x I J lg fb fq mk) : J 0 70 x = nI 0 ↔ lg = [] := by
  rw [h.2.1]
  have := h.1.2.2.1
  constructor
  · intro q
    rw [z_eq (by omega) (by omega)] at q
    exact List.eq_nil_of_length_eq_zero q
  · intro q
    rw [q]; rfl
theorem co_hl (h : CO n T e I J ms rw gv cl H A B K lg fb jl fq mk) (hx : x < n) : ∀ r, r < 136 → ∃ h h' : Nat, h ≤ 2 ∧ h' ≤ h ∧ J 0 76 (136 * x + r) = nI h ∧ J 0 76 (136 * x + r) = nI h' := fun r hr => by
  obtain ⟨c1, c2, c3, c4, c5, c6⟩ := h.2.2.2.2.1 x hx
  exact ⟨H x r, H x r, (c6 r hr).1.1, Nat.le_refl _, (c6 r hr).1.2, (c6 r hr).1.2⟩
theorem co_fgr (h : CO n T e I J ms rw gv cl H A B K lg fb jl fq mk) (hx : x < n) : FGJ x J J := ⟨fun _ _ _ => rfl, fun _ _ => rfl, fun _ _ => ⟨rfl, rfl, rfl, rfl⟩, fun _ _ => rfl, co_hl h hx, id, id⟩
/-- a flush begins, if none is under way -/
theorem co_bfl {fq0 mk0 fq1 mk1 : Nat} {lg1 fb1 : List Nat} (h : CO n T e I J ms rw gv cl H A B K lg fb jl fq mk) (hx : x < n) (hU : J 0 65 x = nI 1) (hB : BFl x e e I J (lg x) (fb x) fq0 mk0 I' J' lg1 fb1 fq1 mk1) : ∃ lg' fb' fq' mk', CO n T e I' J' ms rw gv cl H A B K lg' fb' jl fq' mk' ∧ FGI x I I' ∧ FGJ x J J' ∧ J' 0 76 = J 0 76 ∧ J' 0 78 = J 0 78 ∧ J' 0 79 = J 0 79 ∧ J' 0 80 = J 0 80 ∧ (¬ (lg x = [] ∧ fb x = []) → ¬ fb' x = []) ∧ (¬ (J 0 70 x = nI 0 ∧ J 0 72 x = nI 0) → ¬ J' 0 72 x = nI 0) := by
  have h' := h
  obtain ⟨a1, a2, a3, a4, a5, a6, a7, a8, a9, b1, b2, b3, b4⟩ := h
  obtain ⟨f1, f2, f3, f4⟩ := hB
  have hJN := (a5 x hx).2.2.1
  rcases f4 with ⟨e1, e2, e3, e4, e5, e6, e7, e8⟩ | ⟨e1, e3, e4, e5, e6, e7, e8⟩
  · have e6' := e6.symm
    subst e3 e4 e5 e6'
    obtain ⟨g1, g2, g3, g4, g5⟩ := f2
    have e65 : J' 0 65 = J 0 65 := g1 0 65 (by omega)
    have e66 : J' 0 66 = J 0 66 := g1 0 66 (by omega)
    have em : mrr n J' = mrr n J := mrr_cg e66
    have hl : (lg x).length ≤ 16 := hJN.1.2.2.1
    obtain ⟨d1, d2⟩ := cti_open (fq := fq) (mk0 := 0) (t := e) (ed := e) (fq0 := fq x) (fq1 := 0) (mk1 := e) (lg1 := []) (fb1 := lg x) (I' := I') (J' := J') b1 hx a1.2 ((a6 x hx).2.1 hU).2.2 (hJN.1.1.imp (fun h => Nat.ne_of_lt h)) hl b2 rfl ⟨f1, ⟨g1, g2, g3, g4, g5⟩, f3, Or.inl ⟨e1, e2, rfl, rfl, rfl, rfl, e7, e8⟩⟩
    have n72 : ¬ J' 0 72 x = nI 0 := fun q => e2 ((jn_72z f1).mp q)
    refine ⟨setN lg x [], setN fb x (lg x), setN fq x 0, setN mk x e, ⟨a1, ml_cg a2 (f3 0 9 (by omega)) (f3 0 11 (by omega)) (by rw [f3 0 0 (by omega)]) (f3 0 10 (by omega)) (fun z _ => by rw [f3 z 40 (by omega)]) (by rw [g1 0 60 (by omega)]) (by rw [g1 0 60 (by omega)]) (by rw [g1 0 60 (by omega)]) (by rw [g1 0 60 (by omega)]) (fun b hb => g1 0 b (by omega)), ms_cg a3 (fun j h4 h8 => f3 0 j (by omega)) (fun j h4 h8 => g1 0 j (by omega)), ?_, fun z hz => ?_, fun z hz => ?_, by rw [e65, em]; exact a7, fun k hk => by rw [f3 0 1 (by omega), g1 0 64 (by omega)]; exact a8 k hk, ?_, d1, d2, fun z hz => ?_, du_cg b4 (f3 0 12 (by omega))⟩, fun a b q1 q2 => f3 a b (by omega), ⟨fun a b q => g1 a b (by omega), fun k _ => by rw [g1 0 60 (by omega)], fun k _ => ⟨by rw [g1 0 76 (by omega)], by rw [g1 0 78 (by omega)], by rw [g1 0 79 (by omega)], by rw [g1 0 80 (by omega)]⟩, fun k q => (g2 k q).2.2.1, by rw [g1 0 76 (by omega)]; exact co_hl h' hx, fun _ => n72, fun _ q => n72 q.2⟩, g1 0 76 (by omega), g1 0 78 (by omega), g1 0 79 (by omega), g1 0 80 (by omega), fun _ => by rw [setN_s]; exact e2, fun _ => n72⟩
    · obtain ⟨k1, k2, k3, k4, k5, k6⟩ := a4
      unfold BKr
      rw [f3 0 13 (by omega), f3 0 14 (by omega), g1 0 60 (by omega), g1 0 125 (by omega)]
      refine ⟨k1, k2, k3, k4, k5, fun k hk => ⟨(k6 k hk).1, ?_⟩⟩
      rw [e7 k]
      split
      · exact Or.inr rfl
      · exact (k6 k hk).2
    · by_cases ez : z = x
      · subst ez
        obtain ⟨c1, c2, c3, c4, c5, c6⟩ := a5 z hz
        rw [setN_s, setN_s, setN_s, setN_s]
        refine ⟨by rw [f3 z 40 (by omega)]; exact c1, by rw [f3 z 40 (by omega), e66]; exact c2, f1, ch_cg c4 (f3 z 41 (by omega)) (f3 z 42 (by omega)) (f3 z 43 (by omega)) (fun b i _ _ => by rw [g1 0 67 (by omega)]) (fun b _ => by rw [g1 0 68 (by omega)]), fun r hr => ?_, fun r hr => ?_⟩
        · rw [f3 z 49 (by omega), f3 z 50 (by omega), f3 z 51 (by omega), g1 0 76 (by omega), g1 0 77 (by omega), g1 0 78 (by omega)]
          exact c5 r hr
        · rw [g1 0 76 (by omega), g1 0 77 (by omega), g1 0 78 (by omega)]
          exact c6 r hr
      · rw [setN_o ez, setN_o ez, setN_o ez, setN_o ez]
        exact nd_cg (a5 z hz) (fun j _ _ _ => f3 z j (by omega)) (by rw [e66]) (fun b i _ _ => by rw [g1 0 67 (by omega)]) (fun b _ => by rw [g1 0 68 (by omega)]) (fun b hb => g3 _ (by omega)) (g2 z ez).1 (g2 z ez).2.1 (g2 z ez).2.2.1 (g2 z ez).2.2.2 (fun k hk => g4 _ (by omega)) (fun k i hk hi => g5 _ (by omega)) (fun r _ => ⟨by rw [g1 0 76 (by omega)], by rw [g1 0 77 (by omega)], by rw [g1 0 78 (by omega)]⟩)
    · obtain ⟨s1, s2, s3, s4⟩ := a6 z hz
      rw [e65, e66, em]
      by_cases ez : z = x
      · subst ez
        rw [setN_s, setN_s]
        exact ⟨s1, fun q => ⟨(s2 q).1, (s2 q).2.1, fun c => absurd c e2⟩, fun q => absurd hU q, s4.1, fun q => absurd hU q⟩
      · rw [setN_o ez, setN_o ez]
        exact ⟨s1, s2, s3, s4.1, by rw [(g2 z ez).2.1, g1 0 68 (by omega)]; exact s4.2⟩
    · unfold TID at a9 ⊢
      rw [g1 0 120 (by omega), f3 0 19 (by omega), f3 0 15 (by omega)]
      exact a9
    · obtain ⟨m1, m2, m3⟩ := b3 z hz
      rw [g1 0 125 (by omega)]
      by_cases ez : z = x
      · subst ez
        rw [setN_s, setN_s, setN_s]
        refine ⟨fun _ => Nat.le_refl _, fun k hk q1 q2 => ?_, fun _ q => absurd q (by omega)⟩
        rw [e7 k, if_pos ⟨hk, q1, q2⟩]
        exact ⟨fun _ => ⟨e2, hk⟩, fun _ => by decide⟩
      · rw [setN_o ez, setN_o ez, setN_o ez]
        refine ⟨m1, fun k hk q1 q2 => ?_, m3⟩
        rw [e7 k, if_neg (fun q => ez (by
          have := q1.symm.trans q.2.1
          rw [z_eq (by omega) (by omega)] at this
          exact this))]
        exact m2 k hk q1 q2
  · subst e7 e8
    refine ⟨lg, fb, fq, mk, h', FGI.rf, co_fgr h' hx, rfl, rfl, rfl, rfl, fun q => ?_, fun q => ?_⟩
    · rcases e1 with c | c
      · exact c
      · exact fun d => q ⟨c, d⟩
    · rcases e1 with c | c
      · exact fun d => c ((jn_72z hJN).mp d)
      · exact fun d => q ⟨(jn_70 hJN).mpr c, d⟩
/-- a step down -/
theorem co_gds {r : Nat} (h : CO n T e I J ms rw gv cl H A B K lg fb jl fq mk) (hx : x < n) (hr : r < 136) (hU : J 0 65 x = nI 1) (hG : GDs n T x r e e I J I' J') : ∃ ms' H' B' K' lg' fb' fq' mk', CO n T e I' J' ms' rw gv cl H' A B' K' lg' fb' jl fq' mk' ∧ FGI x I I' ∧ FGJ x J J' ∧ J' 0 79 = J 0 79 ∧ (∀ s, s < 136 → ¬ s = r → J' 0 76 (136 * x + s) = J 0 76 (136 * x + s) ∧ J' 0 78 (136 * x + s) = J 0 78 (136 * x + s)) := by
  have h' := h
  have hgb := co_gbr h hx hU
  obtain ⟨a1, a2, a3, a4, a5, a6, a7, a8, a9, b1, b2, b3, b4⟩ := h
  obtain ⟨lg0, fb0, fq0, mk0, ms0, m, M, hh, p1, p2, p3, p4, p5, p6, p7, p8⟩ := hG
  obtain ⟨u1, u2⟩ := jn_uq (a5 x hx).2.2.1 p1.2.2.1
  subst u1 u2
  obtain ⟨c1, c2, c3, c4, c5, c6⟩ := a5 x hx
  obtain ⟨⟨hH2, hH⟩, hA, ⟨hB2, hB⟩, hBH⟩ := c6 r hr
  have eh : hh = H x r := by
    have := p5.symm.trans hH
    rw [z_eq (by omega) (by omega)] at this
    exact this
  have eB : B x r = m + 1 := by
    have := hB.symm.trans p3
    by_cases q : B x r = 0
    · rw [q] at this
      exact absurd this.symm (z_m1n (by omega))
    · rw [nO_i q, z_eq (by omega) (by omega)] at this
      omega
  have hjx := ((a6 x hx).2.1 hU)
  rcases p8 with ⟨-, -, lg1, fb1, fq1, mk1, hb⟩ | ⟨hid, hd⟩
  · have hco : CO n T e I (am_up J 0 80 (136 * x + r) (nI 1)) ms rw gv cl H A B K lg fb jl fq mk := co_irr h' ⟨fun _ _ _ _ => rfl, rfl, rfl, rfl⟩ ⟨fun a b q => z_upj _ _ _ _ _ _ _ (fun c => q (by omega)), fun k _ => by rw [z_upj _ _ _ _ _ _ _ (by omega)]⟩
    obtain ⟨lg', fb', fq', mk', k1, k2, k3, k4, k5, k6, k7, k8, k9⟩ := co_bfl hco hx (by rw [z_upj _ _ _ _ _ _ _ (by omega)]; exact hU) hb
    have o : ∀ j, ¬ j = 80 → am_up J 0 80 (136 * x + r) (nI 1) 0 j = J 0 j := fun j q => z_upj _ _ _ _ _ _ _ (by omega)
    refine ⟨ms, H, B, K, lg', fb', fq', mk', k1, k2, ⟨fun a b q => (k3.1 a b q).trans (z_upj _ _ _ _ _ _ _ (by omega)), fun k q => by rw [k3.2.1 k q, o 60 (by omega)], fun k q => ?_, fun k q => by rw [k3.2.2.2.1 k q, o 72 (by omega)], ?_, ?_, ?_⟩, by rw [k6, o 79 (by omega)], fun s _ _ => by rw [k4, k5, o 76 (by omega), o 78 (by omega)]; exact ⟨rfl, rfl⟩⟩
    · obtain ⟨g1, g2, g3, g4⟩ := k3.2.2.1 k q
      rw [g1, g2, g3, g4, o 76 (by omega), o 78 (by omega), o 79 (by omega)]
      refine ⟨rfl, rfl, rfl, ?_⟩
      rw [z_upk, if_neg (by omega)]
    · have := k3.2.2.2.2.1
      rw [o 76 (by omega)] at this
      exact this
    · have := k3.2.2.2.2.2.1
      rw [o 72 (by omega)] at this
      exact this
    · have := k3.2.2.2.2.2.2
      rw [o 72 (by omega), o 70 (by omega)] at this
      exact this
  · obtain ⟨d1, d2, ⟨ms1, d3, d4⟩, d5, d6, d7, d8, d9, ⟨i1, i2, i3⟩, ⟨j1, j2, j3, j4⟩⟩ := hd
    have hM : M = mrr n J r := by
      have := p7.symm.trans (mst_ok (r := r) a1.1 a1.2 hx (by rw [hjx.1]; decide)).2
      have q := (mst_ok (J := J) (r := r) a1.1 a1.2 hx (by rw [hjx.1]; decide)).1
      rw [z_eq (by omega) (by omega)] at this
      exact this
    have l1 := pl_len a7 a1.2
    have hms : ms0.map nz = ms := ml_uq a2 p1.2.2.2.1 (by omega) p1.2.2.2.2.2.1 (fun q hq => (a7.1 q hq).1)
    have d4' := snd_nz d4
    rw [hms, hM] at d4'
    have hPL := pl_down a7 hx hr hU eB (by rw [← hM]; exact p6) d4'
    have e65 : J' 0 65 = J 0 65 := j1 0 65 (by omega)
    have e66 : J' 0 66 = J 0 66 := j1 0 66 (by omega)
    have em : mrr n J' = mrr n J := mrr_cg e66
    have e64 : J' 0 64 = J 0 64 := j1 0 64 (by omega)
    have edD : dD J' = dD J := by unfold dD; rw [e64]
    have e47 : ∀ z, I' z 47 = I z 47 := fun z => i1 z 47 (by omega) (by omega)
    have efw : fwI I' = fwI I := funext fun z => funext fun k => funext fun i => by unfold fwI; rw [e47]
    have hK2 := hjx.2.1 r hr
    have hB1 := hBH (by omega)
    refine ⟨ms1.map nz, up2 H x r m, up2 B x r 0, fun z s => if z = x ∧ s = r then (m : Int) else K z s, lg, fb, fq, mk, ⟨a1, ml_nz d3, ms_cg a3 (fun j h4 h8 => i1 0 j (by omega) (by omega)) (fun j h4 h8 => j1 0 j (by omega)), ?_, fun z hz => ?_, fun z hz => ?_, by rw [e65, em]; exact hPL, fun k hk => by rw [i1 0 1 (by omega) (by omega), e64]; exact a8 k hk, ?_, ?_, by rw [edD, efw]; exact b2, ?_, du_snd b4 d4' (i1 0 12 (by omega) (by omega))⟩, fun a b q1 q2 => i1 a b (by omega) (by omega), ⟨fun a b q => j1 a b (by omega), fun k q => j3 k q, fun k q => ?_, fun k _ => by rw [j1 0 72 (by omega)], fun s hs => ?_, by rw [j1 0 72 (by omega)]; exact id, by rw [j1 0 72 (by omega), j1 0 70 (by omega)]; exact id⟩, j1 0 79 (by omega), fun s hs hne => ⟨(j2 _ (by omega)).1, (j2 _ (by omega)).2.1⟩⟩
    · unfold BKr at a4 ⊢
      rw [i1 0 13 (by omega) (by omega), i1 0 14 (by omega) (by omega), j3 49 (by omega), j3 63 (by omega), j1 0 125 (by omega), j1 0 126 (by omega)]
      exact a4
    · by_cases ez : z = x
      · subst ez
        refine ⟨by rw [i1 z 40 (by omega) (by omega)]; exact c1, by rw [i1 z 40 (by omega) (by omega), e66]; exact c2, jn_cgz c3 (i1 z 44 (by omega) (by omega)) (i1 z 45 (by omega) (by omega)) (i1 z 46 (by omega) (by omega)) (e47 z) (fun b _ => by rw [j1 0 69 (by omega)]) (by rw [j1 0 70 (by omega)]) (by rw [j1 0 71 (by omega)]) (by rw [j1 0 72 (by omega)]) (by rw [j1 0 73 (by omega)]) (fun k _ => by rw [j1 0 74 (by omega)]) (fun k i _ _ => by rw [j1 0 75 (by omega)]), d1, d2, fun s hs => ?_⟩
        rw [j1 0 77 (by omega)]
        by_cases es : s = r
        · subst es
          rw [up2_a, up2_a, d5, d6]
          exact ⟨⟨by omega, rfl⟩, hA, ⟨by omega, rfl⟩, fun q => absurd rfl q⟩
        · rw [up2_x es, up2_x es, (j2 _ (by omega)).1, (j2 _ (by omega)).2.1]
          exact c6 s hs
      · have oH : up2 H x r m z = H z := up2_r ez
        have oB : up2 B x r 0 z = B z := up2_r ez
        rw [oH, oB]
        refine nd_cg (a5 z hz) (fun j _ _ _ => i1 z j (by omega) (by omega)) (by rw [e66]) (fun b i _ _ => by rw [j1 0 67 (by omega)]) (fun b hb => j4 _ (by omega)) (fun b hb => by rw [j1 0 69 (by omega)]) (by rw [j1 0 70 (by omega)]) (by rw [j1 0 71 (by omega)]) (by rw [j1 0 72 (by omega)]) (by rw [j1 0 73 (by omega)]) (fun k _ => by rw [j1 0 74 (by omega)]) (fun k i _ _ => by rw [j1 0 75 (by omega)]) (fun s hs => ?_)
        rw [j1 0 77 (by omega), (j2 _ (by omega)).1, (j2 _ (by omega)).2.1]
        exact ⟨rfl, rfl, rfl⟩
    · obtain ⟨s1, s2, s3, s4⟩ := a6 z hz
      rw [e65, e66, em]
      by_cases ez : z = x
      · subst ez
        refine ⟨s1, fun q => ⟨(s2 q).1, fun s hs => ?_, (s2 q).2.2⟩, fun q => absurd hU q, fun q => absurd hjx.1 q, fun q => absurd hU q⟩
        by_cases es : s = r
        · subst es
          rw [up2_a]
          exact if_pos ⟨rfl, rfl⟩
        · rw [up2_x es]
          exact (if_neg (fun q => es q.2)).trans ((s2 q).2.1 s hs)
      · have oH : up2 H x r m z = H z := up2_r ez
        have oB : up2 B x r 0 z = B z := up2_r ez
        have oK : ∀ s, (if z = x ∧ s = r then (m : Int) else K z s) = K z s := fun s => if_neg (fun q => ez q.1)
        simp only [oH, oB, oK]
        exact ⟨s1, s2, s3, s4.1, fun q => ⟨by rw [j1 0 71 (by omega)]; exact (s4.2 q).1, fun b hb => by rw [j4 _ (by omega)]; exact (s4.2 q).2 b hb⟩⟩
    · unfold TID at a9 ⊢
      rw [j1 0 120 (by omega), i1 0 19 (by omega) (by omega), i1 0 15 (by omega) (by omega)]
      exact a9
    · refine cti_down (m := m) b1 a1.2 hx hr hU p2 (by omega) (fun q => ?_) (fun z hz => (b2 z hz).2.1.2.1) ⟨d1, d2, ⟨ms1, d3, d4⟩, d5, d6, d7, d8, d9, ⟨i1, i2, i3⟩, ⟨j1, j2, j3, j4⟩⟩ (fun z s q => if_neg q) (if_pos ⟨rfl, rfl⟩)
      have : H x r = 2 := by omega
      have hid2 : lg x = [] ∧ fb x = [] := Classical.byContradiction fun c => hid ⟨by omega, c⟩
      exact ⟨hid2.1, hid2.2, hjx.2.2 hid2.2⟩
    · unfold MKr at b3 ⊢
      rw [j1 0 125 (by omega), j1 0 126 (by omega)]
      exact b3
    · refine ⟨(j2 _ (by omega)).1, (j2 _ (by omega)).2.1, by rw [j1 0 79 (by omega)], (j2 _ (by omega)).2.2⟩
    · by_cases es : s = r
      · subst es
        exact ⟨H x s, m, hH2, by omega, hH, d5⟩
      · obtain ⟨g1, -⟩ := c6 s hs
        exact ⟨H x s, H x s, g1.1, Nat.le_refl _, g1.2, by rw [(j2 _ (by omega)).1]; exact g1.2⟩
end CORE2
