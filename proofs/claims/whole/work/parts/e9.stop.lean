
section STOP
variable {n T e x : Nat} {I J I' J' : am_I} {ms : List (Nat → Nat)} {rw : Nat → List (Nat × Nat)} {gv cl H A B : Nat → Nat → Nat} {K : Nat → Nat → Int} {lg fb jl : Nat → List Nat} {fq mk : Nat → Nat} {ls : List Nat}
theorem co_snr (h : CO n T e I J ms rw gv cl H A B K lg fb jl fq mk) (hx : x < n) (hU : J 0 65 x = nI 1) : SNr n T x I J ms := by
  have hg := co_gbr h hx hU
  exact ⟨hg.2.2.2.1, hg.2.2.2.2.1.1, hg.2.2.2.2.1.2.1, hg.2.2.2.2.2.1, fun r hr => (hg.2.2.2.2.2.2.2 r hr).1⟩
theorem pn_irI {s : Nat} (h : PN x ls s I J I' J') : irI I I' := ⟨fun a b q _ => h.1 a b (by omega), by rw [h.1 0 0 (by omega)], by rw [h.1 0 15 (by omega)], by rw [h.1 0 15 (by omega)]⟩
theorem pn_irJ {s : Nat} (h : PN x ls s I J I' J') : irJ J J' := ⟨fun a b q => h.2.1 a b (by omega), fun k _ => by rw [h.2.1 0 60 (by omega)]⟩
theorem pn_pw {s : Nat} (hP : PW x I J) (h : PN x ls s I J I' J') : PW x I' J' := fun r hr => by
  refine ⟨h.2.2.1 r hr, ?_⟩
  have hw := (hP r hr).2
  have e9 := h.2.2.2.1 r hr
  unfold WP WT at hw ⊢
  rw [h.2.1 0 80 (by omega), h.2.1 0 78 (by omega), h.2.1 0 76 (by omega), h.2.1 0 72 (by omega), e9]
  by_cases c : r ∈ ls ∧ r < s
  · rw [if_pos c]
    refine Or.inl ⟨rfl, ?_⟩
    rcases hw with q | ⟨q1, q2⟩
    · exact q.2
    · have g := (h.2.2.2.2.2 r c.1 c.2 q1).1
      rcases q2 with q2 | q2
      · exact q2.2
      · exact absurd g q2.1
  · rw [if_neg c]; exact hw
/-- pinning stops: the call waits -/
theorem go_stop (h : CO n T e I J ms rw gv cl H A B K lg fb jl fq mk) (hx : x < n) (hU : J 0 65 x = nI 1) (hP : PW x I J) (hS : TS x I J) (hG : CGx x I J ls) (h11 : I x 55 11 = nI 0) (h10 : ¬ J 0 82 x = nI 10) (hs : PS n T x ls I J I' J' ms) : (∃ A', COg n T e rw gv cl A' jl I' J') ∧ FOI x I I' ∧ FOJ x J J' ∧ PW x I' J' ∧ TS x I' J' ∧ J' 0 87 x = J 0 87 x ∧ CGx x I' J' ls ∧ WWx x I' J' ls := by
  obtain ⟨s, I1, J1, v, s1, s2, hPN, s3, s4, s5, s6, s7⟩ := hs
  have hco1 := co_irr h (pn_irI hPN) (pn_irJ hPN)
  have hP1 := pn_pw hP hPN
  obtain ⟨g1, g2, g3, g4, g5, g6, g7, g8, g9⟩ := hG
  have hv0 : ¬ v = 0 := fun q => by
    have := ((g3.2 s s2).1.mp s1)
    rw [s6, q] at this
    exact this rfl
  -- what was asked is asked at s
  have hask : ∀ c, c < 136 → ¬ J 0 77 (136 * x + c) = nI 0 → c = s := fun c hc q => by
    obtain ⟨c1, c2, c3, c4, -⟩ := g6 c hc q
    rcases Nat.lt_trichotomy c s with d | d | d
    · exact absurd c3 (hPN.2.2.2.2.2 c c1 d c2).2
    · exact d
    · rw [c4 s s1 d] at s3; exact absurd s3 (by decide)
  have p79 : ∀ c, c < 136 → J1 0 79 (136 * x + c) = if c ∈ ls ∧ c < s then nI 1 else J 0 79 (136 * x + c) := hPN.2.2.2.1
  have ps : J1 0 79 (136 * x + s) = nI 0 := by rw [p79 s s2, if_neg (by omega)]; exact s3
  have pb : ∀ c, c ∈ ls → c < s → J1 0 79 (136 * x + c) = nI 1 := fun c h1 h2 => by rw [p79 c (by omega), if_pos ⟨h1, h2⟩]
  have pin : ∀ c, c < 136 → J1 0 79 (136 * x + c) = nI 1 → c ∈ ls ∧ ¬ J 0 76 (136 * x + c) < J 0 81 (136 * x + c) := fun c hc q => by
    rw [p79 c hc] at q
    by_cases d : c ∈ ls ∧ c < s
    · rw [if_pos d] at q
      refine ⟨d.1, ?_⟩
      rcases (hP c hc).2 with w | w
      · exact (g5 c hc w.1).2
      · exact (hPN.2.2.2.2.2 c d.1 d.2 w.1).2
    · rw [if_neg d] at q; exact g5 c hc q
  -- both ways the same roles
  have key : ∀ I' J', (∀ a b, ¬ (a = x ∧ (b = 50 ∨ b = 52)) → ¬ (a = 0 ∧ (b = 9 ∨ b = 11)) → I' a b = I a b) → (∀ a b, ¬ (a = 0 ∧ (b = 60 ∨ b = 77 ∨ b = 79 ∨ (101 ≤ b ∧ b ≤ 106) ∨ b = 108)) → J' a b = J a b) → (∀ k, ¬ (k = 38 ∨ k = 39) → J' 0 60 k = J 0 60 k) → I' x 52 = I1 x 52 → J' 0 79 = J1 0 79 → (∀ k, J' 0 77 k = J 0 77 k ∨ (k = 136 * x + s ∧ J' 0 77 k = nI v ∧ J 0 78 (136 * x + s) = (-1 : Int32))) → (¬ J 0 78 (136 * x + s) = (-1 : Int32) ∨ ¬ J' 0 77 (136 * x + s) = nI 0) → FOI x I I' ∧ FOJ x J J' ∧ PW x I' J' ∧ TS x I' J' ∧ J' 0 87 x = J 0 87 x ∧ CGx x I' J' ls ∧ WWx x I' J' ls := by
    intro I' J' oI oJ oJ6 e52 e79 e77 hW
    have i55 : I' x 55 = I x 55 := oI x 55 (by omega) (by omega)
    refine ⟨fun a b q1 q2 => oI a b (by omega) (by omega), ⟨fun a b q => oJ a b (by omega), fun k q => oJ6 k (by omega), fun j k q1 q2 q3 => ?_, fun j k q1 _ => by rw [oJ 0 j (by omega)]⟩, fun r hr => ?_, ?_, by rw [oJ 0 87 (by omega)], ⟨by rw [oJ 0 65 (by omega)]; exact g1, by rw [oJ 0 82 (by omega), oJ 0 83 (by omega), oJ 0 84 (by omega), oJ 0 85 (by omega), oJ 0 86 (by omega)]; exact g2, ?_, by rw [i55]; exact g4, fun c hc q => ?_, fun c hc q => ?_, by rw [i55]; exact g7, by rw [oJ 0 82 (by omega), oJ 0 93 (by omega), i55]; exact g8, by rw [oJ 0 82 (by omega), oJ 0 93 (by omega)]; exact g9⟩, Or.inr ⟨by rw [i55]; exact h11, by rw [oJ 0 82 (by omega)]; exact h10, s, s1, s2, by rw [e79]; exact ps, by rw [e79]; exact pb, by rw [oJ 0 76 (by omega), oJ 0 81 (by omega), oJ 0 78 (by omega)]; exact s4, by rw [oJ 0 78 (by omega)]; exact hW⟩⟩
    · by_cases c7 : j = 77
      · rw [c7]
        rcases e77 k with q | q
        · exact q
        · omega
      · by_cases c9 : j = 79
        · rw [c9, e79]; exact hPN.2.2.2.2.1 k q3
        · rw [oJ 0 j (by omega)]
    · have := hP1 r hr
      unfold WP WT at this ⊢
      rw [e52, e79, oJ 0 80 (by omega), oJ 0 78 (by omega), oJ 0 76 (by omega), oJ 0 72 (by omega)]
      rw [hPN.2.1 0 80 (by omega), hPN.2.1 0 78 (by omega), hPN.2.1 0 76 (by omega), hPN.2.1 0 72 (by omega)] at this
      exact this
    · obtain ⟨t1, t2, t3, t4, t5, t6, t7, t8⟩ := hS
      unfold TS
      rw [i55, oJ 0 87 (by omega), oJ 0 88 (by omega), oJ 0 89 (by omega), oJ 0 90 (by omega), oJ 0 91 (by omega), oJ 0 92 (by omega)]
      exact ⟨fun c hc => by rw [oJ 0 (82 + c) (by omega)]; exact t1 c hc, t2, t3, t4, t5, t6, t7, t8⟩
    · unfold LSr LSc at g3 ⊢
      rw [oI x 48 (by omega) (by omega), oI x 53 (by omega) (by omega), oI x 54 (by omega) (by omega), oJ 0 81 (by omega)]
      exact g3
    · rw [e79] at q
      rw [oJ 0 76 (by omega), oJ 0 81 (by omega)]
      exact pin c hc q
    · have ec : c = s ∧ J 0 76 (136 * x + c) < J 0 81 (136 * x + c) := by
        rcases e77 (136 * x + c) with d | d
        · rw [d] at q
          exact ⟨hask c hc q, (g6 c hc q).2.2.1⟩
        · have : c = s := by omega
          rw [this]
          exact ⟨rfl, s4.elim id (fun w => absurd d.2.2 w)⟩
      rw [e79, oJ 0 76 (by omega), oJ 0 81 (by omega), i55]
      refine ⟨by rw [ec.1]; exact s1, by rw [ec.1]; exact ps, ec.2, fun c' h1 h2 => pb c' h1 (by omega), h11⟩
  rcases s7 with ⟨d1, rfl, rfl⟩ | ⟨d1, d2, M, ms', d3, d4, d5, d6, d7, d8⟩
  · refine ⟨⟨A, ms, H, B, K, lg, fb, fq, mk, hco1⟩, key I' J' (fun a b q1 _ => hPN.1 a b (by omega)) (fun a b q => hPN.2.1 a b (by omega)) (fun k _ => by rw [hPN.2.1 0 60 (by omega)]) rfl rfl (fun k => Or.inl (by rw [hPN.2.1 0 77 (by omega)])) ?_⟩
    rw [hPN.2.1 0 77 (by omega)]
    by_cases c : J 0 78 (136 * x + s) = (-1 : Int32)
    · exact Or.inr (fun q => d1 ⟨c, q⟩)
    · exact Or.inl c
  · have hA0 : ∀ r, r < 136 → A x r = 0 := fun r hr => by
      have e0 : J 0 77 (136 * x + r) = nI 0 := Classical.byContradiction fun q => by
        have := hask r hr q
        rw [this] at q
        exact q d2
      have e1 := ((h.2.2.2.2.1 x hx).2.2.2.2.2 r hr).2.1
      have e2 := h.2.2.2.2.2.2.1.2.2.2.2.1.2.2.2.2 x r hx hr
      rw [e1, z_eq (by omega) (by omega)] at e0
      exact e0
    have oJ1 : ∀ a b, ¬ (a = 0 ∧ b = 79) → J1 a b = J a b := hPN.2.1
    have hco2 := co_ask (M := M) (v := v) hco1 hx s2 (by rw [oJ1 0 65 (by omega)]; exact hU) hA0 (by omega) d3 (by rw [oJ1 0 66 (by omega)]; exact d4) d5 (by rw [oJ1 0 65 (by omega)]; exact d6) d7 d8
    refine ⟨⟨_, ms', H, B, K, lg, fb, fq, mk, hco2⟩, key I' J' (fun a b q1 q2 => ?_) (fun a b q => ?_) (fun k q => ?_) ?_ ?_ (fun k => ?_) (Or.inr ?_)⟩
    · rw [d7.1 a b q2, z_upj _ _ _ _ _ _ _ (by omega)]
      exact hPN.1 a b (by omega)
    · rw [d8.1 a b (by omega), z_upj _ _ _ _ _ _ _ (by omega)]
      exact oJ1 a b (by omega)
    · rw [d8.2 k q, z_upj _ _ _ _ _ _ _ (by omega), oJ1 0 60 (by omega)]
    · rw [d7.1 x 52 (by omega), z_upj _ _ _ _ _ _ _ (by omega)]
    · rw [d8.1 0 79 (by omega), z_upj _ _ _ _ _ _ _ (by omega)]
    · rw [d8.1 0 77 (by omega), z_upk]
      by_cases c : k = 136 * x + s
      · rw [if_pos c]; exact Or.inr ⟨c, rfl, d1⟩
      · rw [if_neg c, oJ1 0 77 (by omega)]; exact Or.inl rfl
    · rw [d8.1 0 77 (by omega), z_upk, if_pos rfl, z_eq (by omega) (by omega)]
      exact hv0
end STOP
