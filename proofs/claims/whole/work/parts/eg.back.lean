
section BK
variable {n T e x r : Nat} {I J I' J' J1 : am_I} {ms ms' l1 l2 : List (Nat → Nat)} {m : Nat → Nat} {rw rw' : Nat → List (Nat × Nat)} {gv cl gv' cl' H A B H' A' B' : Nat → Nat → Nat} {K K' : Nat → Nat → Int} {lg fb jl : Nat → List Nat} {fq mk : Nat → Nat}
theorem gbr_cg {t ed : Nat} {lg fb : List Nat} {fq mk : Nat} (h : GBr n T x t ed I J lg fb fq mk ms) (o : ∀ a b, ¬ (a = 0 ∧ (b = 60 ∨ (101 ≤ b ∧ b ≤ 106))) → J' a b = J a b) (o6 : J' 0 60 63 = J 0 60 63) (hML : MLr n T I J' ms') (hl : ms'.length < 128) : GBr n T x t ed I J' lg fb fq mk ms' := by
  obtain ⟨a1, a2, a3, a4, ⟨a5, a6, a7, a8, a9⟩, b1, b2, b3⟩ := h
  refine ⟨?_, ch_cg a2 rfl rfl rfl (fun b i _ _ => by rw [o 0 67 (by omega)]) (fun b _ => by rw [o 0 68 (by omega)]), jn_cgz a3 rfl rfl rfl rfl (fun b _ => by rw [o 0 69 (by omega)]) (by rw [o 0 70 (by omega)]) (by rw [o 0 71 (by omega)]) (by rw [o 0 72 (by omega)]) (by rw [o 0 73 (by omega)]) (fun k _ => by rw [o 0 74 (by omega)]) (fun k i _ _ => by rw [o 0 75 (by omega)]), hML, ⟨a5, by rw [o 0 66 (by omega)]; exact a6, a7, by rw [o6]; exact a8, a9⟩, hl, by rw [o 0 68 (by omega)]; exact b2, ?_⟩
  · unfold LKr at a1 ⊢
    rw [o 0 76 (by omega), o 0 77 (by omega), o 0 78 (by omega)]
    exact a1
  · unfold PTR at b3 ⊢
    rw [o 0 66 (by omega), o 0 76 (by omega), o 0 78 (by omega), o 0 68 (by omega), o 0 67 (by omega)]
    exact b3
/-- a resource is called back: how the node stands -/
theorem ns_bk (hr : r < 136) (h78 : J 0 78 (136 * x + r) = (-1 : Int32)) (oI : ∀ b, b = 48 ∨ (52 ≤ b ∧ b ≤ 55) → I' x b = I x b) (e7 : ∀ c, c < 136 → J' 0 77 (136 * x + c) = J 0 77 (136 * x + c) ∧ J' 0 79 (136 * x + c) = J 0 79 (136 * x + c) ∧ J' 0 81 (136 * x + c) = J 0 81 (136 * x + c)) (ec : ∀ c, c < 136 → ¬ c = r → J' 0 76 (136 * x + c) = J 0 76 (136 * x + c) ∧ J' 0 78 (136 * x + c) = J 0 78 (136 * x + c) ∧ J' 0 80 (136 * x + c) = J 0 80 (136 * x + c)) (j8 : ∀ j, j = 65 ∨ (82 ≤ j ∧ j ≤ 93) → J' 0 j x = J 0 j x) (j72 : ¬ J 0 72 x = nI 0 → ¬ J' 0 72 x = nI 0) (h76 : ∃ h h' : Nat, h ≤ 2 ∧ h' ≤ h ∧ J 0 76 (136 * x + r) = nI h ∧ J' 0 76 (136 * x + r) = nI h') (hw : WP x J' r) (hp : J 0 79 (136 * x + r) = nI 1 → J' 0 76 (136 * x + r) = J 0 76 (136 * x + r)) (h : NS x I J) : NS x I' J' := by
  obtain ⟨hP, hS, hst⟩ := h
  refine ⟨fun c hc => ⟨by rw [oI 52 (by omega), (e7 c hc).2.1]; exact (hP c hc).1, ?_⟩, ?_, ?_⟩
  · by_cases e : c = r
    · rw [e]; exact hw
    · obtain ⟨q1, q2, q3⟩ := ec c hc e
      have := (hP c hc).2
      unfold WP WT at this ⊢
      rw [q1, q2, q3, (e7 c hc).2.1]
      exact this.imp id (fun w => ⟨w.1, w.2.imp id (fun u => ⟨u.1, u.2.1, u.2.2.1, j72 u.2.2.2⟩)⟩)
  · unfold TS at hS ⊢
    rw [oI 55 (by omega), j8 87 (by omega), j8 88 (by omega), j8 89 (by omega), j8 90 (by omega), j8 91 (by omega), j8 92 (by omega)]
    exact ⟨fun c hc => by rw [j8 (82 + c) (by omega)]; exact hS.1 c hc, hS.2⟩
  · rw [j8 87 (by omega)]
    rcases hst with ⟨q1, ls, q2, q3⟩ | ⟨q1, q2⟩
    · obtain ⟨g1, g2, g3, g4, g5, g6, g7, g8, g9⟩ := q2
      have lower : ∀ c, c < 136 → J 0 76 (136 * x + c) < J 0 81 (136 * x + c) → J' 0 76 (136 * x + c) < J' 0 81 (136 * x + c) := fun c hc q => by
        rw [(e7 c hc).2.2]
        by_cases e : c = r
        · subst e
          obtain ⟨k, k', k1, k2, k3, k4⟩ := h76
          obtain ⟨-, -, v, v1, v2⟩ := g3.2 c hc
          rw [k3, v2, z_lt (by omega) (by omega)] at q
          rw [k4, v2, z_lt (by omega) (by omega)]
          omega
        · rw [(ec c hc e).1]; exact q
      refine Or.inl ⟨q1, ls, ⟨by rw [j8 65 (by omega)]; exact g1, by rw [j8 82 (by omega), j8 83 (by omega), j8 84 (by omega), j8 85 (by omega), j8 86 (by omega)]; exact g2, ⟨?_, fun c hc => ?_⟩, by rw [oI 55 (by omega)]; exact g4, fun c hc q => ?_, fun c hc q => ?_, by rw [oI 55 (by omega)]; exact g7, by rw [j8 82 (by omega), oI 55 (by omega), j8 93 (by omega)]; exact g8, by rw [j8 82 (by omega), j8 93 (by omega)]; exact g9⟩, ?_⟩
      · have := g3.1
        unfold LSc at this ⊢
        rw [oI 48 (by omega), oI 53 (by omega)]
        exact this
      · rw [oI 54 (by omega), (e7 c hc).2.2]
        exact g3.2 c hc
      · rw [(e7 c hc).2.1] at q
        rw [(e7 c hc).2.2]
        by_cases e : c = r
        · subst e
          rw [hp q]; exact g5 c hc q
        · rw [(ec c hc e).1]; exact g5 c hc q
      · rw [(e7 c hc).1] at q
        obtain ⟨w1, w2, w3, w4, w5⟩ := g6 c hc q
        exact ⟨w1, by rw [(e7 c hc).2.1]; exact w2, lower c hc w3, fun c' h1 h2 => by rw [(e7 c' (by omega)).2.1]; exact w4 c' h1 h2, by rw [oI 55 (by omega)]; exact w5⟩
      · rcases q3 with ⟨w1, w2⟩ | ⟨w1, w2, s, w3, w4, w5, w6, w7, w8⟩
        · exact Or.inl ⟨by rw [oI 55 (by omega)]; exact w1, j72 w2⟩
        · refine Or.inr ⟨by rw [oI 55 (by omega)]; exact w1, by rw [j8 82 (by omega)]; exact w2, s, w3, w4, by rw [(e7 s w4).2.1]; exact w5, fun c h1 h2 => by rw [(e7 c (by omega)).2.1]; exact w6 c h1 h2, ?_, ?_⟩
          · by_cases e : s = r
            · rw [e] at w7
              exact Or.inl (lower s w4 (by rw [e]; exact w7.elim id (fun q => absurd h78 q)))
            · rw [(ec s w4 e).2.1]
              exact w7.imp (lower s w4) id
          · rw [(e7 s w4).1]
            by_cases e : s = r
            · rw [e] at w8 ⊢
              exact Or.inr (w8.elim (fun q => absurd h78 q) id)
            · rw [(ec s w4 e).2.1]; exact w8
    · obtain ⟨w1, w2, w3, w4⟩ := q2
      refine Or.inr ⟨q1, by rw [oI 55 (by omega)]; exact w1, by rw [oI 48 (by omega)]; exact w2, by rw [oI 54 (by omega)]; exact w3, fun c hc => ?_⟩
      rw [(e7 c hc).2.1, (e7 c hc).1]
      exact w4 c hc
/-- a calling back comes -/
theorem d_bk (h : CO n T e I J (l1 ++ m :: l2) rw gv cl H A B K lg fb jl fq mk) (hl : gv 136 2 = l1.length) (hm : m 5 ≤ T) (hk : m 2 = 2) (hN : NS (m 1) I J) : ∃ I' J' J1 a, a ≤ 1 ∧ gX11_removeMessage n (nI l1.length) J = some J1 ∧ gX10_callBack n (m 1) (nI (m 3)) (nI (m 4)) (nI (m 0)) I = some (nI a, I') ∧ gX11_callBack n (nI (m 0)) (nI (m 1)) (nI (m 3)) (nI (m 4)) J1 = some J' ∧ COg n T e rw (gvn gv) cl A jl I' J' ∧ NS (m 1) I' J' ∧ FOI (m 1) I I' ∧ FOJ (m 1) J J' ∧ J' 0 87 = J 0 87 := by
  have hn := h.1.2
  have a7 := h.2.2.2.2.2.2.1
  have hdu := h.2.2.2.2.2.2.2.2.2.2.2.2
  obtain ⟨w1, w2, w3, w4, w5, w6, wk⟩ := a7.1 m (List.mem_append_right _ List.mem_cons_self)
  have hlt : ∀ a, a ∈ l1 → T < a 5 := fun a ha => by
    obtain ⟨k, hk⟩ := List.mem_iff_getElem?.mp ha
    have hk1 := (List.getElem?_eq_some_iff.mp hk).1
    exact hdu.2.2.2 k a (by rw [List.getElem?_append_left hk1]; exact hk) (by omega)
  obtain ⟨p1, p2, p3, p4, p5, p6⟩ := pl_bk a7 hk (pl_first a7 hm hlt)
  have hlen := pl_len a7 hn
  obtain ⟨J1, r1, r2, r3, r4⟩ := r_rem (n := n) h.2.1.2.1 (by omega)
  have hML := ml_rem h.2.1 hm r2 r3 r4
  obtain ⟨c1, c2, c3, c4, c5, c6⟩ := h.2.2.2.2.1 (m 1) w3
  obtain ⟨⟨d1, d2⟩, d3, ⟨d4, d5⟩, d6⟩ := c6 (m 3) w6
  have hb1 : J 0 78 (136 * m 1 + m 3) = (-1 : Int32) := by rw [d5, p2]; rfl
  have hgb := gbr_cg (co_gbr h w3 w5) r3 (r4 63 (by omega)) hML (by simp only [List.length_append, List.length_cons] at hlen ⊢; omega)
  have hptr : ¬ J1 0 76 (136 * m 1 + m 3) = nI 0 → PTR (m 1) (m 3) J1 := fun _ => by
    have := ptr_of (r := m 3) h.2.2.2.2.2.2.2.2.2.1 w3 w5
    unfold PTR at this ⊢
    rw [r3 0 68 (by omega), r3 0 67 (by omega)]
    exact this
  obtain ⟨hP, hS, hst⟩ := hN
  have hN : NS (m 1) I J := ⟨hP, hS, hst⟩
  obtain ⟨I', J', a, q1, q2, h0, q3, q4, q5⟩ := p_cb (n := n) (T := T) (x := m 1) (r := m 3) (md := m 4) (f := m 0) hn w3 w6 w2 (by omega) hgb hptr (by rw [r3 0 79 (by omega)]; exact (hP (m 3) w6).1) (by rw [r3 0 79 (by omega)]; exact (hP (m 3) w6).2.elim (fun q => Or.inr q.1) (fun q => Or.inl q.1))
  have e0 : h0 = H (m 1) (m 3) := by
    rw [r3 0 76 (by omega), d2, z_eq (by omega) (by omega)] at q4
    exact q4.symm
  rcases q5 with ⟨u1, -⟩ | ⟨u1, b, I1, J2, u2, u3, u4, u5, u6⟩
  · omega
  · have eb : b = m 4 := u3 (by rw [r3 0 78 (by omega)]; exact hb1)
    subst eb
    have o1 : ∀ a b, ¬ (a = m 1 ∧ 49 ≤ b ∧ b ≤ 51) → I1 a b = I a b := fun a b q => by rw [u4]; exact z_upj _ _ _ _ _ _ _ (by omega)
    have o2 : ∀ a b, ¬ (a = 0 ∧ b = 78) → J2 a b = J1 a b := fun a b q => by rw [u5]; exact z_upj _ _ _ _ _ _ _ (by omega)
    have k78 : ∀ k, J2 0 78 k = if k = 136 * m 1 + m 3 then nI (m 4) else J 0 78 k := fun k => by rw [u5, z_upk, r3 0 78 (by omega)]
    have i51 : ∀ k, I1 (m 1) 51 k = if k = m 3 then nI (m 4) else I (m 1) 51 k := fun k => by rw [u4, z_upk]
    have j76 : J2 0 76 = J 0 76 := by rw [o2 0 76 (by omega), r3 0 76 (by omega)]
    have j77 : J2 0 77 = J 0 77 := by rw [o2 0 77 (by omega), r3 0 77 (by omega)]
    have co2 : CO n T e I1 J2 (l1 ++ l2) rw (gvn gv) cl H A (up2 B (m 1) (m 3) (m 4 + 1)) K lg fb jl fq mk := by
      refine co_lk h w3 w5 (fun a b q1 _ => o1 a b q1) (fun a b q => (o2 a b (by omega)).trans (r3 a b (by omega))) (fun k q => by rw [o2 0 60 (by omega)]; exact r4 k (by omega)) (fun j k q1 q2 q3 => ?_) (ml_cg hML (o1 0 9 (by omega)) (o1 0 11 (by omega)) (by rw [o1 0 0 (by omega)]) (o1 0 10 (by omega)) (fun z _ => by rw [o1 z 40 (by omega)]) (by rw [o2 0 60 (by omega)]) (by rw [o2 0 60 (by omega)]) (by rw [o2 0 60 (by omega)]) (by rw [o2 0 60 (by omega)]) (fun b hb => o2 0 b (by omega))) (fun s hs => ?_) (fun s hs => ?_) (fun z hz => ⟨rfl, rfl, up2_r hz⟩) ((h.2.2.2.2.2.1 (m 1) w3).2.1 w5).2.1 (fun z hz => rfl) (pl_gve p1 (fun r hr => gvn_r (by omega))) (fun r hr => gvn_r (by omega)) h.2.2.2.2.2.2.2.2.2.1 (du_cg (du_next hdu hl hm) (o1 0 12 (by omega)))
      · have : j = 76 ∨ j = 77 ∨ j = 78 := by omega
        rcases this with rfl | rfl | rfl
        · rw [j76]
        · rw [j77]
        · rw [k78, if_neg (by omega)]
      · obtain ⟨f1, f2, f3⟩ := c5 s hs
        rw [i51, k78, j76, j77, show I1 (m 1) 49 = I (m 1) 49 by rw [u4, z_upj _ _ _ _ _ _ _ (by omega)], show I1 (m 1) 50 = I (m 1) 50 by rw [u4, z_upj _ _ _ _ _ _ _ (by omega)]]
        refine ⟨f1, f2, ?_⟩
        by_cases es : s = m 3
        · rw [if_pos es, if_pos (by omega)]
        · rw [if_neg es, if_neg (by omega)]; exact f3
      · rw [k78, j76, j77]
        by_cases es : s = m 3
        · subst es
          rw [if_pos rfl, up2_a]
          exact ⟨(c6 (m 3) hs).1, (c6 (m 3) hs).2.1, ⟨by omega, rfl⟩, fun _ => by omega⟩
        · rw [if_neg (by omega), up2_x es]
          exact c6 s hs
    have e79 : J2 0 79 = J 0 79 := by rw [o2 0 79 (by omega), r3 0 79 (by omega)]
    have fo1 : FOI (m 1) I I1 := fun a b q1 q2 => o1 a b (by omega)
    have fo2 : FOJ (m 1) J J2 := ⟨fun a b q => (o2 a b (by omega)).trans (r3 a b (by omega)), fun k q => by rw [o2 0 60 (by omega)]; exact r4 k (by omega), fun j k q1 q2 q3 => by
      by_cases c : j = 78
      · rw [c, k78, if_neg (by omega)]
      · rw [o2 0 j (by omega), r3 0 j (by omega)], fun j k q1 _ => by rw [o2 0 j (by omega), r3 0 j (by omega)]⟩
    rcases u6 with ⟨v1, v2, v3, v4⟩ | ⟨v1, v2, v3⟩
    · subst v3 v4
      rw [r3 0 79 (by omega)] at v1
      refine ⟨I', J', J1, a, by omega, r1, q1, q2, ⟨_, _, _, _, _, _, _, _, co2⟩, ?_, fo1, fo2, by rw [o2 0 87 (by omega), r3 0 87 (by omega)]⟩
      refine ns_bk w6 hb1 (fun b hb => o1 (m 1) b (by omega)) (fun c hc => ⟨by rw [j77], by rw [e79], by rw [o2 0 81 (by omega), r3 0 81 (by omega)]⟩) (fun c hc hne => ⟨by rw [j76], by rw [k78, if_neg (by omega)], by rw [o2 0 80 (by omega), r3 0 80 (by omega)]⟩) (fun j hj => by rw [o2 0 j (by omega), r3 0 j (by omega)]) (by rw [o2 0 72 (by omega), r3 0 72 (by omega)]; exact id) ⟨_, _, d1, Nat.le_refl _, d2, by rw [j76]; exact d2⟩ ?_ (fun _ => by rw [j76]) hN
      refine Or.inl ⟨by rw [e79]; exact v1, ?_⟩
      rw [o2 0 80 (by omega), r3 0 80 (by omega)]
      rcases (hP (m 3) w6).2 with w | w
      · exact w.2
      · rw [w.1] at v1; exact absurd v1 (by decide)
    · rw [r3 0 79 (by omega)] at v1
      have hU2 : J2 0 65 (m 1) = nI 1 := by rw [o2 0 65 (by omega), r3 0 65 (by omega)]; exact w5
      have e63 : e = e := rfl
      obtain ⟨ms', H', B', K', lg', fb', fq', mk', g1, g2, g3, g4, g5⟩ := co_gds co2 w3 w6 hU2 v3
      obtain ⟨f1, f2, f3, f4, f5, f6, f7, f8, f9, f10⟩ := gds_fr (by omega) w6 v3
      refine ⟨I', J', J1, a, by omega, r1, q1, q2, ⟨_, _, _, _, _, _, _, _, g1⟩, ?_, fo1.tr g2.o, fo2.tr g3.o, by rw [g3.1 0 87 (by omega), o2 0 87 (by omega), r3 0 87 (by omega)]⟩
      refine ns_bk w6 hb1 (fun b hb => ?_) (fun c hc => ⟨by rw [f9, j77], by rw [f2, e79], by rw [f8, o2 0 81 (by omega), r3 0 81 (by omega)]⟩) (fun c hc hne => ?_) (fun j hj => by rw [g3.1 0 j (by omega), o2 0 j (by omega), r3 0 j (by omega)]) (fun q => f6 (by rw [o2 0 72 (by omega), r3 0 72 (by omega)]; exact q)) ?_ (Or.inr ⟨by rw [f2, e79]; exact v1, f7⟩) (fun q => by rw [v1] at q; exact absurd q (by decide)) hN
      · by_cases c52 : b = 52
        · rw [c52, f3, o1 (m 1) 52 (by omega)]
        · rw [g2 (m 1) b (by omega) (by omega), o1 (m 1) b (by omega)]
      · obtain ⟨k1, k2, k3⟩ := f1 (136 * m 1 + c) (by omega)
        rw [k1, k2, k3, j76, k78, if_neg (by omega), o2 0 80 (by omega), r3 0 80 (by omega)]
        exact ⟨rfl, rfl, rfl⟩
      · obtain ⟨k, k', k1, k2, k3, k4⟩ := g3.2.2.2.2.1 (m 3) w6
        rw [j76] at k3
        exact ⟨k, k', k1, k2, k3, k4⟩
/-- the class's turn of a call that waits does nothing -/
theorem c_nop (hx : x < n) (h : CO n T e I J ms rw gv cl H A B K lg fb jl fq mk) (hN : NS x I J) : ∃ I', gX10_goOn n x I = some I' ∧ (∀ a b, ¬ (a = x ∧ b = 52) → I' a b = I a b) ∧ ∀ r, r < 136 → I' x 52 r = I x 52 r := by
  have hn := h.1.2
  obtain ⟨hP, hS, hst⟩ := hN
  obtain ⟨f, hf, hf1⟩ := fu_ex
  rcases hst with ⟨h87, ls, hG, hW⟩ | ⟨h87, hC⟩
  · have hJN := (h.2.2.2.2.1 x hx).2.2.1
    have h5 : I x 55 5 = nI 1 := by rw [hS.2.1]; exact h87
    rcases hW with ⟨w1, w2⟩ | ⟨w1, w2, s, w3, w4, w5, w6, w7, w8⟩
    · have hk : ¬ (fb x).length = 0 := fun q => w2 ((jn_72z hJN).mpr (List.eq_nil_of_length_eq_zero q))
      refine ⟨I, ?_, fun _ _ _ => rfl, fun _ _ => rfl⟩
      rw [gX10_goOn, bX10_goOn_0, hf]
      exact c_no (by omega) (c_mayA h5 w1 hJN.2.2.2.2.2.2.1 hJN.2.2.2.2.2.2.2.1 hk)
    · have h0 : ¬ I x 55 0 = nI 10 := by rw [hS.1 0 (by omega)]; exact w2
      have hmay := c_mayB (n := n) h5 (Or.inl w1) hJN.2.2.2.2.2.2.1 hJN.2.2.2.2.2.2.2.1 h0
      have eI : am_up I x 55 11 (nI 0) = I := by
        funext a b k
        by_cases q : a = x ∧ b = 55
        · obtain ⟨rfl, rfl⟩ := q
          rw [z_upk]
          by_cases c : k = 11
          · rw [if_pos c, c, w1]
          · rw [if_neg c]
        · rw [z_upj _ _ _ _ _ _ _ q]
      rw [eI] at hmay
      obtain ⟨I2, J2, a, p1, p2, p3⟩ := p_pin (n := n) (T := T) (ms := ms) hn hx hG.2.2.1 (h.2.2.2.2.1 x hx).2.2.2.2.1 (fun c hc => ⟨(hP c hc).1, (hP c hc).2.elim (fun q => Or.inr q.1) (fun q => Or.inl q.1)⟩) (co_snr h hx hG.1)
      rcases p3 with ⟨rfl, hPN⟩ | ⟨rfl, s', I1, J1, v, s1, s2, hPN, s3, s4, s5, s6, s7⟩
      · exfalso
        have := hPN.2.2.2.2.2 s w3 w4 w5
        rcases w7 with q | q
        · exact this.2 q
        · exact q this.1
      · have es : s' = s := by
          rcases Nat.lt_trichotomy s' s with d | d | d
          · rw [w6 s' s1 d] at s3; exact absurd s3 (by decide)
          · exact d
          · have := hPN.2.2.2.2.2 s w3 d w5
            rcases w7 with q | q
            · exact absurd q this.2
            · exact absurd this.1 q
        subst es
        rcases s7 with ⟨-, e1, -⟩ | ⟨d1, d2, -⟩
        · subst e1
          refine ⟨I2, ?_, hPN.1, fun r hr => ?_⟩
          · rw [gX10_goOn, bX10_goOn_0, hf]
            exact c_stop (by omega) hmay p1
          · rw [hPN.2.2.1 r hr, hPN.2.2.2.1 r hr, (hP r hr).1]
            by_cases c : r ∈ ls ∧ r < s'
            · rw [if_pos c, w6 r c.1 c.2]
            · rw [if_neg c]
        · rcases w8 with q | q
          · exact absurd d1 q
          · exact absurd d2 q
  · refine ⟨I, ?_, fun _ _ _ => rfl, fun _ _ => rfl⟩
    rw [gX10_goOn, bX10_goOn_0, hf]
    exact c_end1 (by omega) (by rw [hS.2.1]; exact h87)
theorem ns_52 (o : ∀ a b, ¬ (a = x ∧ b = 52) → I' a b = I a b) (o2 : ∀ r, r < 136 → I' x 52 r = I x 52 r) (h : NS x I J) : NS x I' J := by
  obtain ⟨hP, hS, hst⟩ := h
  refine ⟨fun r hr => ⟨by rw [o2 r hr]; exact (hP r hr).1, (hP r hr).2⟩, ?_, ?_⟩
  · unfold TS at hS ⊢
    rw [o x 55 (by omega)]
    exact hS
  · unfold CGx WWx NCx LSr LSc at hst ⊢
    rw [o x 55 (by omega), o x 48 (by omega), o x 53 (by omega), o x 54 (by omega)]
    exact hst
/-- a grant comes: how the node stands -/
theorem ns_gt {v h0 : Nat} (hr : r < 136) (hv : v ≤ 2) (h0v : h0 ≤ v) (h76 : J 0 76 (136 * x + r) = nI h0) (h78 : J 0 78 (136 * x + r) = (-1 : Int32)) (o : ∀ a b, ¬ (a = 0 ∧ (b = 60 ∨ (101 ≤ b ∧ b ≤ 106))) → J1 a b = J a b) (h : NS x I J) : NS0 x (am_up (am_up I x 49 r (nI v)) x 50 r (nI 0)) (am_up (am_up J1 0 76 (136 * x + r) (nI v)) 0 77 (136 * x + r) (nI 0)) := by
  obtain ⟨hP, hS, hst⟩ := h
  have oI : ∀ b, b = 48 ∨ (52 ≤ b ∧ b ≤ 55) → am_up (am_up I x 49 r (nI v)) x 50 r (nI 0) x b = I x b := fun b q => by rw [z_upj _ _ _ _ _ _ _ (by omega), z_upj _ _ _ _ _ _ _ (by omega)]
  have oJ : ∀ j, ¬ (j = 60 ∨ j = 76 ∨ j = 77 ∨ (101 ≤ j ∧ j ≤ 106)) → am_up (am_up J1 0 76 (136 * x + r) (nI v)) 0 77 (136 * x + r) (nI 0) 0 j = J 0 j := fun j q => by rw [z_upj _ _ _ _ _ _ _ (by omega), z_upj _ _ _ _ _ _ _ (by omega), o 0 j (by omega)]
  have k76 : ∀ k, am_up (am_up J1 0 76 (136 * x + r) (nI v)) 0 77 (136 * x + r) (nI 0) 0 76 k = if k = 136 * x + r then nI v else J 0 76 k := fun k => by rw [z_upj _ _ _ _ _ _ _ (by omega), z_upk, o 0 76 (by omega)]
  have k77 : ∀ k, am_up (am_up J1 0 76 (136 * x + r) (nI v)) 0 77 (136 * x + r) (nI 0) 0 77 k = if k = 136 * x + r then nI 0 else J 0 77 k := fun k => by rw [z_upk, z_upj _ _ _ _ _ _ _ (by omega), o 0 77 (by omega)]
  refine ⟨fun c hc => ⟨by rw [oI 52 (by omega), oJ 79 (by omega)]; exact (hP c hc).1, ?_⟩, ?_, ?_⟩
  · have := (hP c hc).2
    unfold WP WT at this ⊢
    rw [oJ 79 (by omega), oJ 80 (by omega), oJ 78 (by omega), oJ 72 (by omega), k76]
    by_cases e : c = r
    · subst e
      rcases this with w | ⟨w1, w | w⟩
      · exact Or.inl w
      · exact Or.inr ⟨w1, Or.inl w⟩
      · exact absurd h78 w.1
    · rw [if_neg (by omega)]; exact this
  · unfold TS at hS ⊢
    rw [oI 55 (by omega), oJ 87 (by omega), oJ 88 (by omega), oJ 89 (by omega), oJ 90 (by omega), oJ 91 (by omega), oJ 92 (by omega)]
    exact ⟨fun c hc => by rw [oJ (82 + c) (by omega)]; exact hS.1 c hc, hS.2⟩
  · rw [oJ 87 (by omega)]
    rcases hst with ⟨q1, ls, q2, -⟩ | ⟨q1, q2⟩
    · obtain ⟨g1, g2, g3, g4, g5, g6, g7, g8, g9⟩ := q2
      refine Or.inl ⟨q1, ls, by rw [oJ 65 (by omega)]; exact g1, by rw [oJ 82 (by omega), oJ 83 (by omega), oJ 84 (by omega), oJ 85 (by omega), oJ 86 (by omega)]; exact g2, ⟨?_, fun c hc => ?_⟩, by rw [oI 55 (by omega)]; exact g4, fun c hc q => ?_, fun c hc q => ?_, by rw [oI 55 (by omega)]; exact g7, by rw [oJ 82 (by omega), oI 55 (by omega), oJ 93 (by omega)]; exact g8, by rw [oJ 82 (by omega), oJ 93 (by omega)]; exact g9⟩
      · have := g3.1
        unfold LSc at this ⊢
        rw [oI 48 (by omega), oI 53 (by omega)]
        exact this
      · rw [oI 54 (by omega), oJ 81 (by omega)]
        exact g3.2 c hc
      · rw [oJ 79 (by omega)] at q
        rw [oJ 81 (by omega), k76]
        obtain ⟨w1, w2⟩ := g5 c hc q
        refine ⟨w1, ?_⟩
        by_cases e : c = r
        · subst e
          rw [if_pos rfl]
          obtain ⟨-, -, u, u1, u2⟩ := g3.2 c hc
          rw [h76, u2, z_lt (by omega) (by omega)] at w2
          rw [u2, z_lt (by omega) (by omega)]
          omega
        · rw [if_neg (by omega)]; exact w2
      · rw [k77] at q
        have e : ¬ c = r := fun e => q (if_pos (by omega))
        rw [if_neg (by omega)] at q
        rw [oJ 79 (by omega), k76, if_neg (by omega), oJ 81 (by omega), oI 55 (by omega)]
        exact g6 c hc q
    · obtain ⟨w1, w2, w3, w4⟩ := q2
      refine Or.inr ⟨q1, by rw [oI 55 (by omega)]; exact w1, by rw [oI 48 (by omega)]; exact w2, by rw [oI 54 (by omega)]; exact w3, fun c hc => ?_⟩
      rw [oJ 79 (by omega), k77]
      refine ⟨(w4 c hc).1, ?_⟩
      by_cases e : c = r
      · rw [if_pos (by omega)]
      · rw [if_neg (by omega)]; exact (w4 c hc).2
end BK
