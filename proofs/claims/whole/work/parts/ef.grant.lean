
section LK
variable {n T e x r : Nat} {I J I' J' J1 : am_I} {ms ms' l1 l2 : List (Nat → Nat)} {m : Nat → Nat} {rw rw' : Nat → List (Nat × Nat)} {gv cl gv' cl' H A B H' A' B' : Nat → Nat → Nat} {K K' : Nat → Nat → Int} {lg fb jl : Nat → List Nat} {fq mk : Nat → Nat}
/-- a node's locks and the mail change -/
theorem co_lk (h : CO n T e I J ms rw gv cl H A B K lg fb jl fq mk) (hx : x < n) (hU : J 0 65 x = nI 1) (oI : ∀ a b, ¬ (a = x ∧ 49 ≤ b ∧ b ≤ 51) → ¬ (a = 0 ∧ (b = 9 ∨ b = 11)) → I' a b = I a b) (oJ : ∀ a b, ¬ (a = 0 ∧ (b = 60 ∨ (76 ≤ b ∧ b ≤ 78) ∨ (101 ≤ b ∧ b ≤ 106) ∨ b = 108)) → J' a b = J a b) (oJ6 : ∀ k, ¬ (k = 38 ∨ k = 39) → J' 0 60 k = J 0 60 k) (o7 : ∀ j k, 76 ≤ j → j ≤ 78 → ¬ (136 * x ≤ k ∧ k < 136 * x + 136) → J' 0 j k = J 0 j k) (hML : MLr n T I' J' ms') (hLK : LKr x I' J')
    (hN : ∀ r, r < 136 → (H' x r ≤ 2 ∧ J' 0 76 (136 * x + r) = nI (H' x r)) ∧ J' 0 77 (136 * x + r) = nI (A' x r) ∧ (B' x r ≤ 2 ∧ J' 0 78 (136 * x + r) = nO (B' x r)) ∧ (¬ B' x r = 0 → B' x r ≤ H' x r)) (oH : ∀ z, ¬ z = x → H' z = H z ∧ A' z = A z ∧ B' z = B z) (hK : ∀ r, r < 136 → K' x r = H' x r) (oK : ∀ z, ¬ z = x → K' z = K z) (hP : PL n (J 0 65) (mrr n J) ms' rw gv' cl H' A' B') (hg : ∀ r, r < 136 → gv' r = gv r) (hC : CTI n e lg fb jl K' I J) (hd : DUr gv' I' T ms') : CO n T e I' J' ms' rw gv' cl H' A' B' K' lg fb jl fq mk := by
  obtain ⟨a1, a2, a3, a4, a5, a6, a7, a8, a9, b1, b2, b3, b4⟩ := h
  have e65 : J' 0 65 = J 0 65 := oJ 0 65 (by omega)
  have e66 : J' 0 66 = J 0 66 := oJ 0 66 (by omega)
  have em : mrr n J' = mrr n J := mrr_cg e66
  have e64 : J' 0 64 = J 0 64 := oJ 0 64 (by omega)
  have edD : dD J' = dD J := by unfold dD; rw [e64]
  have e47 : ∀ z, I' z 47 = I z 47 := fun z => oI z 47 (by omega) (by omega)
  have efw : fwI I' = fwI I := funext fun z => funext fun k => funext fun i => by unfold fwI; rw [e47]
  refine ⟨a1, hML, ms_gve (ms_cg a3 (fun j h4 h8 => oI 0 j (by omega) (by omega)) (fun j h4 h8 => oJ 0 j (by omega))) hg, ?_, fun z hz => ?_, fun z hz => ?_, by rw [e65, em]; exact hP, fun k hk => by rw [oI 0 1 (by omega) (by omega), e64]; exact a8 k hk, ?_, cti_cg hC (fun b i _ _ => by rw [e64]) e65 (fun z b i _ _ _ => by rw [oJ 0 67 (by omega)]) (fun z b _ _ => by rw [oJ 0 68 (by omega)]) (fun z k i _ _ _ => by rw [e47]) (fun z hz => (b2 z hz).2.1.2.1) a1.2, by rw [edD, efw]; exact b2, ?_, hd⟩
  · unfold BKr at a4 ⊢
    rw [oI 0 13 (by omega) (by omega), oI 0 14 (by omega) (by omega), oJ6 49 (by omega), oJ6 63 (by omega), oJ 0 125 (by omega), oJ 0 126 (by omega)]
    exact a4
  · by_cases ez : z = x
    · subst ez
      obtain ⟨c1, c2, c3, c4, c5, c6⟩ := a5 z hz
      exact ⟨by rw [oI z 40 (by omega) (by omega)]; exact c1, by rw [oI z 40 (by omega) (by omega), e66]; exact c2, jn_cgz c3 (oI z 44 (by omega) (by omega)) (oI z 45 (by omega) (by omega)) (oI z 46 (by omega) (by omega)) (e47 z) (fun b _ => by rw [oJ 0 69 (by omega)]) (by rw [oJ 0 70 (by omega)]) (by rw [oJ 0 71 (by omega)]) (by rw [oJ 0 72 (by omega)]) (by rw [oJ 0 73 (by omega)]) (fun k _ => by rw [oJ 0 74 (by omega)]) (fun k i _ _ => by rw [oJ 0 75 (by omega)]), ch_cg c4 (oI z 41 (by omega) (by omega)) (oI z 42 (by omega) (by omega)) (oI z 43 (by omega) (by omega)) (fun b i _ _ => by rw [oJ 0 67 (by omega)]) (fun b _ => by rw [oJ 0 68 (by omega)]), hLK, hN⟩
    · obtain ⟨h1, h2, h3⟩ := oH z ez
      rw [h1, h2, h3]
      exact nd_cg (a5 z hz) (fun j _ _ _ => oI z j (by omega) (by omega)) (by rw [e66]) (fun b i _ _ => by rw [oJ 0 67 (by omega)]) (fun b _ => by rw [oJ 0 68 (by omega)]) (fun b _ => by rw [oJ 0 69 (by omega)]) (by rw [oJ 0 70 (by omega)]) (by rw [oJ 0 71 (by omega)]) (by rw [oJ 0 72 (by omega)]) (by rw [oJ 0 73 (by omega)]) (fun k _ => by rw [oJ 0 74 (by omega)]) (fun k i _ _ => by rw [oJ 0 75 (by omega)]) (fun r _ => ⟨o7 76 _ (by omega) (by omega) (by omega), o7 77 _ (by omega) (by omega) (by omega), o7 78 _ (by omega) (by omega) (by omega)⟩)
  · obtain ⟨s1, s2, s3, s4⟩ := a6 z hz
    rw [e65, e66, em]
    by_cases ez : z = x
    · subst ez
      exact ⟨s1, fun q => ⟨(s2 q).1, hK, (s2 q).2.2⟩, fun q => absurd hU q, fun q => absurd (s2 hU).1 q, fun q => absurd hU q⟩
    · obtain ⟨h1, h2, h3⟩ := oH z ez
      rw [h1, h2, h3, oK z ez]
      exact ⟨s1, s2, fun q => ⟨(s3 q).1, (s3 q).2.1, fun r hr => ⟨((s3 q).2.2 r hr).1, ((s3 q).2.2 r hr).2.1, ((s3 q).2.2 r hr).2.2.1, fun w => by rw [hg r hr]; exact ((s3 q).2.2 r hr).2.2.2 w⟩⟩, s4.1, by rw [oJ 0 71 (by omega), oJ 0 68 (by omega)]; exact s4.2⟩
  · unfold TID at a9 ⊢
    rw [oJ 0 120 (by omega), oI 0 19 (by omega) (by omega), oI 0 15 (by omega) (by omega)]
    exact a9
  · unfold MKr at b3 ⊢
    rw [oJ 0 125 (by omega), oJ 0 126 (by omega)]
    exact b3
/-- a grant comes -/
theorem d_gt (h : CO n T e I J (l1 ++ m :: l2) rw gv cl H A B K lg fb jl fq mk) (hl : gv 136 2 = l1.length) (hm : m 5 ≤ T) (hk : m 2 = 1) : ∃ v J1 H' A' K', v ≤ 2 ∧ gX11_removeMessage n (nI l1.length) J = some J1 ∧ (∀ a b, ¬ (a = 0 ∧ (b = 60 ∨ (101 ≤ b ∧ b ≤ 106))) → J1 a b = J a b) ∧ (∀ k, ¬ k = 38 → J1 0 60 k = J 0 60 k)
    ∧ gX4_grant n (m 1) (nI (m 3)) (nI (m 4)) I = some (am_up (am_up I (m 1) 49 (m 3) (nI v)) (m 1) 50 (m 3) (nI 0))
    ∧ (if nI (m 4) ≤ J1 0 76 (136 * m 1 + m 3) then J1 0 76 (136 * m 1 + m 3) else nI (m 4)) = nI v ∧ (∃ h0 : Nat, h0 ≤ v ∧ J 0 76 (136 * m 1 + m 3) = nI h0) ∧ J 0 78 (136 * m 1 + m 3) = (-1 : Int32)
    ∧ CO n T e (am_up (am_up I (m 1) 49 (m 3) (nI v)) (m 1) 50 (m 3) (nI 0)) (am_up (am_up J1 0 76 (136 * m 1 + m 3) (nI v)) 0 77 (136 * m 1 + m 3) (nI 0)) (l1 ++ l2) rw (gvn gv) cl H' A' B K' lg fb jl fq mk := by
  have hn := h.1.2
  have a7 := h.2.2.2.2.2.2.1
  obtain ⟨w1, w2, w3, w4, w5, w6, wk⟩ := a7.1 m (List.mem_append_right _ List.mem_cons_self)
  obtain ⟨p1, p2, p3, p4, p5⟩ := pl_gt a7 hk
  obtain ⟨J1, r1, r2, r3, r4⟩ := r_rem (n := n) h.2.1.2.1 (by have := pl_len a7 hn; omega)
  have hML := ml_rem h.2.1 hm r2 r3 r4
  obtain ⟨c1, c2, c3, c4, c5, c6⟩ := h.2.2.2.2.1 (m 1) w3
  obtain ⟨⟨d1, d2⟩, d3, ⟨d4, d5⟩, d6⟩ := c6 (m 3) w6
  have hm0 : m 0 = mrr n J (m 3) := by
    rcases wk with q | q | q | q
    · omega
    · exact q.2.1
    · omega
    · omega
  have hUM : J 0 65 (mrr n J (m 3)) = nI 1 := by rw [← hm0]; exact w4
  have hA2 := a7.2.2.2.2.1.2.2.2.2 (m 1) (m 3) w3 w6
  have hv2 : max (H (m 1) (m 3)) (m 4) ≤ 2 := by omega
  have j76 : J1 0 76 = J 0 76 := r3 0 76 (by omega)
  have hST := h.2.2.2.2.2.1
  have hKx := ((hST (m 1) w3).2.1 w5).2.1
  have hif : ∀ u : Int32, u = nI (H (m 1) (m 3)) → (if nI (m 4) ≤ u then u else nI (m 4)) = nI (max (H (m 1) (m 3)) (m 4)) := fun u hu => by
    rw [hu]
    by_cases c : m 4 ≤ H (m 1) (m 3)
    · rw [if_pos (by rw [z_le (by omega) (by omega)]; exact c), Nat.max_eq_left c]
    · rw [if_neg (by rw [z_le (by omega) (by omega)]; exact c), Nat.max_eq_right (by omega)]
  have hb1 : J 0 78 (136 * m 1 + m 3) = (-1 : Int32) := by rw [d5, p5]; rfl
  refine ⟨max (H (m 1) (m 3)) (m 4), J1, up2 H (m 1) (m 3) (max (H (m 1) (m 3)) (m 4)), up2 A (m 1) (m 3) 0, fun z s => if z = m 1 ∧ s = m 3 then ((max (H (m 1) (m 3)) (m 4) : Nat) : Int) else K z s, hv2, r1, r3, r4, ?_, ?_, ⟨H (m 1) (m 3), by omega, d2⟩, hb1, ?_⟩
  · have g49 : (if nI (m 4) ≤ I (m 1) 49 (m 3) then I (m 1) 49 (m 3) else nI (m 4)) = nI (max (H (m 1) (m 3)) (m 4)) := hif _ (by rw [(c5 (m 3) w6).1]; exact d2)
    simp (disch := omega) only [gX4_grant, bX4_grant_0, z_inb, w6, decide_true, z_gdt, z_clamp, am_lt, g49]
  · exact hif _ (by rw [j76]; exact d2)
  · have o1 : ∀ a b, ¬ (a = m 1 ∧ 49 ≤ b ∧ b ≤ 51) → am_up (am_up I (m 1) 49 (m 3) (nI (max (H (m 1) (m 3)) (m 4)))) (m 1) 50 (m 3) (nI 0) a b = I a b := fun a b q => by rw [z_upj _ _ _ _ _ _ _ (by omega), z_upj _ _ _ _ _ _ _ (by omega)]
    have o2 : ∀ a b, ¬ (a = 0 ∧ (b = 76 ∨ b = 77)) → am_up (am_up J1 0 76 (136 * m 1 + m 3) (nI (max (H (m 1) (m 3)) (m 4)))) 0 77 (136 * m 1 + m 3) (nI 0) a b = J1 a b := fun a b q => by rw [z_upj _ _ _ _ _ _ _ (by omega), z_upj _ _ _ _ _ _ _ (by omega)]
    have k76 : ∀ k, am_up (am_up J1 0 76 (136 * m 1 + m 3) (nI (max (H (m 1) (m 3)) (m 4)))) 0 77 (136 * m 1 + m 3) (nI 0) 0 76 k = if k = 136 * m 1 + m 3 then nI (max (H (m 1) (m 3)) (m 4)) else J 0 76 k := fun k => by rw [z_upj _ _ _ _ _ _ _ (by omega), z_upk, j76]
    have k77 : ∀ k, am_up (am_up J1 0 76 (136 * m 1 + m 3) (nI (max (H (m 1) (m 3)) (m 4)))) 0 77 (136 * m 1 + m 3) (nI 0) 0 77 k = if k = 136 * m 1 + m 3 then nI 0 else J 0 77 k := fun k => by rw [z_upk, z_upj _ _ _ _ _ _ _ (by omega), r3 0 77 (by omega)]
    have i49 : ∀ k, am_up (am_up I (m 1) 49 (m 3) (nI (max (H (m 1) (m 3)) (m 4)))) (m 1) 50 (m 3) (nI 0) (m 1) 49 k = if k = m 3 then nI (max (H (m 1) (m 3)) (m 4)) else I (m 1) 49 k := fun k => by rw [z_upj _ _ _ _ _ _ _ (by omega), z_upk]
    have i50 : ∀ k, am_up (am_up I (m 1) 49 (m 3) (nI (max (H (m 1) (m 3)) (m 4)))) (m 1) 50 (m 3) (nI 0) (m 1) 50 k = if k = m 3 then nI 0 else I (m 1) 50 k := fun k => by rw [z_upk, z_upj _ _ _ _ _ _ _ (by omega)]
    have j78 : am_up (am_up J1 0 76 (136 * m 1 + m 3) (nI (max (H (m 1) (m 3)) (m 4)))) 0 77 (136 * m 1 + m 3) (nI 0) 0 78 = J 0 78 := by rw [o2 0 78 (by omega), r3 0 78 (by omega)]
    refine co_lk h w3 w5 (fun a b q1 _ => o1 a b q1) (fun a b q => (o2 a b (by omega)).trans (r3 a b (by omega))) (fun k q => by rw [o2 0 60 (by omega)]; exact r4 k (by omega)) (fun j k q1 q2 q3 => ?_) (ml_cg hML (o1 0 9 (by omega)) (o1 0 11 (by omega)) (by rw [o1 0 0 (by omega)]) (o1 0 10 (by omega)) (fun z _ => by rw [o1 z 40 (by omega)]) (by rw [o2 0 60 (by omega)]) (by rw [o2 0 60 (by omega)]) (by rw [o2 0 60 (by omega)]) (by rw [o2 0 60 (by omega)]) (fun b hb => o2 0 b (by omega))) (fun s hs => ?_) (fun s hs => ?_) (fun z hz => ⟨up2_r hz, up2_r hz, rfl⟩) (fun s hs => ?_) (fun z hz => funext fun s => if_neg (fun q => hz q.1)) (pl_gve p1 (fun r hr => gvn_r (by omega))) (fun r hr => gvn_r (by omega)) ?_ (du_cg (du_next h.2.2.2.2.2.2.2.2.2.2.2.2 hl hm) (o1 0 12 (by omega)))
    · have : j = 76 ∨ j = 77 ∨ j = 78 := by omega
      rcases this with rfl | rfl | rfl
      · rw [k76, if_neg (by omega)]
      · rw [k77, if_neg (by omega)]
      · rw [j78]
    · rw [i49, i50, k76, k77, j78, z_upj _ _ _ _ _ _ _ (show ¬ (m 1 = m 1 ∧ 51 = 50) by omega), z_upj _ _ _ _ _ _ _ (show ¬ (m 1 = m 1 ∧ 51 = 49) by omega)]
      obtain ⟨f1, f2, f3⟩ := c5 s hs
      by_cases es : s = m 3
      · rw [if_pos es, if_pos es, if_pos (by omega), if_pos (by omega)]; exact ⟨rfl, rfl, f3⟩
      · rw [if_neg es, if_neg es, if_neg (by omega), if_neg (by omega)]; exact ⟨f1, f2, f3⟩
    · rw [k76, k77, j78]
      by_cases es : s = m 3
      · subst es
        rw [if_pos rfl, if_pos rfl, up2_a, up2_a]
        exact ⟨⟨hv2, rfl⟩, rfl, ⟨d4, d5⟩, fun q => absurd p5 q⟩
      · rw [if_neg (by omega), if_neg (by omega), up2_x es, up2_x es]
        exact c6 s hs
    · by_cases es : s = m 3
      · subst es
        rw [up2_a]
        exact if_pos ⟨rfl, rfl⟩
      · rw [up2_x es]
        exact (if_neg (fun q => es q.2)).trans (hKx s hs)
    · refine cti_grant (v := ((max (H (m 1) (m 3)) (m 4) : Nat) : Int)) h.2.2.2.2.2.2.2.2.2.1 w3 (by rw [hKx (m 3) w6]; omega) (by omega) (fun z hz hne => ?_) (fun z s q => if_neg q) (if_pos ⟨rfl, rfl⟩)
      have hKz : K z (m 3) ≤ gv (m 3) z := by
        by_cases uz : J 0 65 z = nI 1
        · rw [((hST z hz).2.1 uz).2.1 (m 3) w6]
          have := (a7.2.2.2.1 z (m 3) hz w6 uz hUM).1
          omega
        · exact (((hST z hz).2.2.1 uz).2.2 (m 3) w6).2.2.2 hUM
      have g1 : ¬ gv (m 3) z = 2 := fun q => by
        have := a7.2.2.2.2.2.1 (m 3) z (m 1) w6 hz w3 hne q
        omega
      have g2 : gv (m 3) (m 1) = 2 → gv (m 3) z = 0 := fun q => a7.2.2.2.2.2.1 (m 3) (m 1) z w6 w3 hz (fun c => hne c.symm) q
      have g3 := (h.2.2.1 (m 3) w6).2.2.2.2 z (by omega)
      refine ⟨by omega, fun q => ?_⟩
      have := g2 (by omega)
      omega
end LK
