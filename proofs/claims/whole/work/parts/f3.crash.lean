
section CR3
variable {n T e x : Nat} {I J I' J' : am_I} {g : Nat → Nat}
theorem n00 : nI 0 = (0 : Int32) := rfl
theorem n10 : ¬ nI 1 = (0 : Int32) := by decide
theorem r_ref0 : gX11_refuse n (nI 0) (nI 0) (nI 0) J = some (nI 0, am_up J 0 60 0 (nI 0)) := by
  rw [gX11_refuse, bX11_refuse_0, if_pos n00, if_pos n00, if_pos n00, bX11_refuse_26, am_lt, z_upk, if_pos rfl, if_pos (by decide)]
  rfl
theorem r_ref1 {b c : Int32} : gX11_refuse n (nI 1) b c J = some (nI 1, am_up J 0 60 0 (nI 1)) := by
  rw [gX11_refuse, bX11_refuse_0, if_neg n10, bX11_refuse_26, am_lt, z_upk, if_pos rfl, if_neg (by decide)]
  rfl
theorem r_ref2 {c : Int32} : gX11_refuse n (nI 0) (nI 1) c J = some (nI 1, am_up J 0 60 0 (nI 2)) := by
  rw [gX11_refuse, bX11_refuse_0, if_pos n00, if_neg n10, bX11_refuse_26, am_lt, z_upk, if_pos rfl, if_neg (by decide)]
  rfl
theorem r_ref3 : gX11_refuse n (nI 0) (nI 0) (nI 1) J = some (nI 1, am_up J 0 60 0 (nI 3)) := by
  rw [gX11_refuse, bX11_refuse_0, if_pos n00, if_pos n00, if_neg n10, bX11_refuse_26, am_lt, z_upk, if_pos rfl, if_neg (by decide)]
  rfl
/-- what the reference told of a call -/
theorem gs_60 {v : Int32} (h : GS n T e g I J) : GS n T e g I (am_up J 0 60 0 v) ∧ cs n (am_up J 0 60 0 v) = cs n J := by
  obtain ⟨rw, gv, cl, A, jl, ⟨ms, H, B, K, lg, fb, fq, mk, h⟩, hg, hns, hW⟩ := h
  have o : ∀ j, ¬ j = 60 → am_up J 0 60 0 v 0 j = J 0 j := fun j q => z_upj _ _ _ _ _ _ _ (by omega)
  refine ⟨⟨rw, gv, cl, A, jl, ⟨ms, H, B, K, lg, fb, fq, mk, co_irr h irI.rf ⟨fun a b q => z_upj _ _ _ _ _ _ _ (by omega), fun k q => by rw [z_upk, if_neg (by omega)]⟩⟩, hg, fun z hz => (ns_cg (fun _ _ => rfl) (fun j r q1 q2 _ => by rw [o j (by omega)]) (fun j q => by rw [o j (by omega)]) (hns z hz)).1, ?_⟩, cs_eq n (fun z _ => by unfold cal; rw [o 87 (by omega)])⟩
  unfold WL at hW ⊢
  rw [z_upj _ _ _ _ _ _ _ (show ¬ (0 = 0 ∧ 64 = 60) by omega), z_upk, if_neg (by omega), z_upk, if_neg (by omega)]
  exact hW
/-- a crash tears the next write, and the calls that it loses are gone -/
theorem p_tear {t : Nat} {rw : Nat → List (Nat × Nat)} {gv cl H A B : Nat → Nat → Nat} {K : Nat → Nat → Int} {lg fb jl : Nat → List Nat} {fq mk : Nat → Nat} {ms : List (Nat → Nat)} (hx : x < n) (ht : t < 16) (h : CO n T e I J ms rw gv cl H A B K lg fb jl fq mk) : ∃ I2 J1 J2, (gX10_tear n x (nI t) I).bind (fun q3 => gX0_lose n (nI x) q3) = some I2 ∧ am_gd (am_inb (nI x) 4) (if (J 0 72 x) ≤ 0 then (bX11_crash_117 n (nI x) J) else (am_gd (am_inb (nI x) 4) (am_gd (am_inb (((nI 36) * (nI x)) + (J 0 73 x)) 144) ((gX11_putWords n (J 0 74 ((((nI 36) * (nI x)) + (J 0 73 x)).toNatClampNeg)) ((nI 16) * (((nI 36) * (nI x)) + (J 0 73 x))) (nI t) J).bind (fun q5 => (gX11_isCounting n (nI x) q5).bind (fun q6 => if q6.1 = 0 then (bX11_crash_117 n (nI x) q6.2) else (if (nI t) ≤ (nI 2) then (bX11_crash_117 n (nI x) q6.2) else ((gX11_noteSafe n (nI x) q6.2).bind (fun q7 => bX11_crash_117 n (nI x) q7))))))))) = bX11_crash_117 n (nI x) J1 ∧ gX11_noteGone n (nI x) J1 = some J2
    ∧ BKr I2 J2 e ∧ (∀ k, k < e → J2 0 125 (10 * k) = J 0 125 (10 * k) ∧ (J2 0 125 (10 * k + 9) = nI 1 → J 0 125 (10 * k + 9) = nI 1 ∧ ¬ J 0 125 (10 * k) = nI x)) ∧ (∀ a b, ¬ (a = 0 ∧ (b = 1 ∨ b = 14)) → I2 a b = I a b) ∧ (∀ a b, ¬ (a = 0 ∧ (b = 64 ∨ b = 125)) → J2 a b = J a b)
    ∧ (∀ k, k < 10240 → I2 0 1 k = J2 0 64 k) ∧ ((fb x = [] ∧ J2 0 64 = J 0 64) ∨ (¬ fb x = [] ∧ ∀ k, J2 0 64 k = if 16 * wb x (fb x) (fq x) ≤ k ∧ k < 16 * wb x (fb x) (fq x) + t then ww (fb x) (J 0 71 x) (fun k i => I x 47 (16 * k + i)) (fq x) (k - 16 * wb x (fb x) (fq x)) else J 0 64 k)) := by
  have hn := h.1.2
  have hx4 : x < 4 := by omega
  have gx : am_inb (nI x) 4 = true := by rw [z_inb (by omega)]; exact decide_eq_true hx4
  obtain ⟨c1, c2, c3, c4, c5, c6⟩ := h.2.2.2.2.1 x hx
  have h5 := c3.2.2.2.2.2.2.1
  have hl16 := c3.2.2.2.2.2.2.2.1
  have key : ∀ (I1 J1 : am_I), BKr I1 J1 e → (∀ k c, c < 9 → J1 0 125 (10 * k + c) = J 0 125 (10 * k + c)) → (∀ k, k < e → J1 0 125 (10 * k + 9) = nI 1 → J 0 125 (10 * k + 9) = nI 1) → ∃ I2 J2, gX0_lose n (nI x) I1 = some I2 ∧ gX11_noteGone n (nI x) J1 = some J2 ∧ BKr I2 J2 e ∧ (∀ k, k < e → J2 0 125 (10 * k) = J 0 125 (10 * k) ∧ (J2 0 125 (10 * k + 9) = nI 1 → J 0 125 (10 * k + 9) = nI 1 ∧ ¬ J 0 125 (10 * k) = nI x)) ∧ (∀ a b, ¬ (a = 0 ∧ b = 14) → I2 a b = I1 a b) ∧ (∀ a b, ¬ (a = 0 ∧ b = 125) → J2 a b = J1 a b) := by
    intro I1 J1 hB h9 hst
    obtain ⟨I2, J2, s1, s2, s3, s4, s5, s6, s7⟩ := p_gone (n := n) hx4 hB
    have e0 : ∀ k, J2 0 125 (10 * k) = J 0 125 (10 * k) := fun k => (s5 k 0 (by omega)).trans (h9 k 0 (by omega))
    have e1 : ∀ k, J1 0 125 (10 * k) = J 0 125 (10 * k) := fun k => h9 k 0 (by omega)
    refine ⟨I2, J2, s1, s2, s3, fun k hk => ⟨e0 k, fun q => ?_⟩, s6, s7⟩
    rw [s4 k hk] at q
    by_cases d : J1 0 125 (10 * k) = nI x ∧ J1 0 125 (10 * k + 9) = nI 1
    · rw [if_pos d] at q; exact absurd q (by decide)
    · rw [if_neg d] at q
      exact ⟨hst k hk q, fun w => d ⟨by rw [e1]; exact w, q⟩⟩
  by_cases hfb : fb x = []
  · obtain ⟨I2, J2, k1, k2, k3, k4, k5, k6⟩ := key I J h.2.2.2.1 (fun _ _ _ => rfl) (fun _ _ q => q)
    have h72 : J 0 72 x = nI 0 := (jn_72z c3).mpr hfb
    refine ⟨I2, J, J2, ?_, ?_, k2, k3, k4, fun a b q => k5 a b (by omega), fun a b q => k6 a b (by omega), fun k hk => by rw [k5 0 1 (by omega), k6 0 64 (by omega)]; exact h.2.2.2.2.2.2.2.1 k hk, Or.inl ⟨hfb, k6 0 64 (by omega)⟩⟩
    · rw [gX10_tear, bX10_tear_0, c_flg h5 hl16, if_pos (by rw [hfb]; rfl), Option.bind_some]
      dsimp only
      rw [if_pos n00, Option.bind_some, k1]
    · rw [am_gd_of gx, if_pos (by rw [h72]; decide)]
  · obtain ⟨d1, d2, d3, d4, d5, d6⟩ := c3.2.2.2.2.2.2.2.2.2.2 hfb
    have h72 : J 0 72 x = nI (2 * (fb x).length + 3) := by rw [jn_72 c3, if_neg hfb]
    obtain ⟨I1, J1, p1, p2, p3, p4, p5, p6⟩ := p_put (n := n) (many := t) hx4 (by omega) c3 hfb
    have hpos : ¬ (fb x).length = 0 := fun q => hfb (List.eq_nil_of_length_eq_zero q)
    have hBK1 : BKr I1 J1 e := by
      have := h.2.2.2.1
      unfold BKr at this ⊢
      rw [p5 0 13 (by omega), p5 0 14 (by omega), p6 0 60 (by omega), p6 0 125 (by omega), p6 0 126 (by omega)]
      exact this
    obtain ⟨m1, m2, m3⟩ := h.2.2.2.2.2.2.2.2.2.2.2.1 x hx
    have hcr : gX11_isCounting n (nI x) J1 = some (nI (if fq x = (fb x).length + 1 then 1 else 0), J1) := r_cnt hx4 (by rw [p6 0 73 (by omega)]; exact d3) (by rw [p6 0 72 (by omega)]; exact h72) (by omega) hl16
    have hch : gX3_isAtHead n x I1 = some (nI (if fq x = (fb x).length + 1 then 1 else 0), I1) := c_hd (by rw [p5 x 44 (by omega)]; exact h5) (by rw [p5 x 44 (by omega)]; exact d2) (by omega) hl16 hfb
    have eI1 : ∀ k, k < 10240 → I1 0 1 k = J1 0 64 k := fun k hk => by
      rw [p3 k, p4 k]
      by_cases c : 16 * wb x (fb x) (fq x) ≤ k ∧ k < 16 * wb x (fb x) (fq x) + t
      · rw [if_pos c, if_pos c]
      · rw [if_neg c, if_neg c]; exact h.2.2.2.2.2.2.2.1 k hk
    have cpre : ∀ k : am_I → Option am_I, (gX10_tear n x (nI t) I).bind k = (if fq x = (fb x).length + 1 ∧ 2 < t then (gX0_makeSafe n (nI x) (nI (mk x)) I1).bind k else k I1) := fun k => by
      rw [gX10_tear, bX10_tear_0, c_flg h5 hl16, if_neg hpos, Option.bind_some]
      dsimp only
      rw [if_neg n10]
      rw [p1, Option.bind_some, hch, Option.bind_some]
      unfold bX10_tear_49
      dsimp only
      by_cases c : fq x = (fb x).length + 1
      · rw [if_pos c, if_neg n10]
        by_cases c2 : nI t ≤ nI 2
        · have c3' := c2
          rw [z_le (by omega) (by omega)] at c3'
          rw [if_pos c2, if_neg (by omega), Option.bind_some]
        · have c3' := c2
          rw [z_le (by omega) (by omega)] at c3'
          rw [if_neg c2, if_pos ⟨c, by omega⟩, p5 x 40 (by omega), p5 x 44 (by omega), c1, d6]
          cases gX0_makeSafe n (nI x) (nI (mk x)) I1 <;> rfl
      · rw [if_neg c, if_pos n00, if_neg (fun q => c q.1), Option.bind_some]
    have rpre : am_gd (am_inb (nI x) 4) (if (J 0 72 x) ≤ 0 then (bX11_crash_117 n (nI x) J) else (am_gd (am_inb (nI x) 4) (am_gd (am_inb (((nI 36) * (nI x)) + (J 0 73 x)) 144) ((gX11_putWords n (J 0 74 ((((nI 36) * (nI x)) + (J 0 73 x)).toNatClampNeg)) ((nI 16) * (((nI 36) * (nI x)) + (J 0 73 x))) (nI t) J).bind (fun q5 => (gX11_isCounting n (nI x) q5).bind (fun q6 => if q6.1 = 0 then (bX11_crash_117 n (nI x) q6.2) else (if (nI t) ≤ (nI 2) then (bX11_crash_117 n (nI x) q6.2) else ((gX11_noteSafe n (nI x) q6.2).bind (fun q7 => bX11_crash_117 n (nI x) q7))))))))) = (if fq x = (fb x).length + 1 ∧ 2 < t then (gX11_noteSafe n (nI x) J1).bind (fun q7 => bX11_crash_117 n (nI x) q7) else bX11_crash_117 n (nI x) J1) := by
      rw [am_gd_of gx, if_neg (by rw [h72]; exact fun q => absurd ((z_le (a := 2 * (fb x).length + 3) (b := 0) (by omega) (by omega)).mp q) (by omega)), am_gd_of gx, d3, pk_mul, nI_add, am_gd_of (by rw [z_inb (by omega)]; exact decide_eq_true (by omega)), z_clamp (by omega), pk_mul, p2, Option.bind_some, hcr, Option.bind_some]
      dsimp only
      by_cases c : fq x = (fb x).length + 1
      · rw [if_pos c, if_neg n10]
        by_cases c2 : nI t ≤ nI 2
        · have c3' := c2
          rw [z_le (by omega) (by omega)] at c3'
          rw [if_pos c2, if_neg (by omega)]
        · have c3' := c2
          rw [z_le (by omega) (by omega)] at c3'
          rw [if_neg c2, if_pos ⟨c, by omega⟩]
      · rw [if_neg c, if_pos n00, if_neg (fun q => c q.1)]
    by_cases c : fq x = (fb x).length + 1 ∧ 2 < t
    · obtain ⟨I3, J3, s1, s2, s3, s4, s5, s6, s7⟩ := p_safe (n := n) (mk := mk x) hx4 (m1 hfb) hBK1 (fun k hk q1 q2 => by
        rw [p6 0 125 (by omega)] at q1 q2
        rw [p6 0 126 (by omega)]
        have := m2 k hk q1 q2
        exact ⟨fun q => (this.mp q).2, fun q => this.mpr ⟨hfb, q⟩⟩)
      obtain ⟨I2, J2, k1, k2, k3, k4, k5, k6⟩ := key I3 J3 s3 (fun k c hc => by rw [s5 k c hc, p6 0 125 (by omega)]) (fun k hk q => by
        rw [s4 k hk, p6 0 125 (by omega)] at q
        by_cases d : J 0 125 (10 * k) = nI x ∧ J 0 125 (10 * k + 9) = nI 1 ∧ k < mk x
        · exact d.2.1
        · rw [if_neg d] at q; exact q)
      refine ⟨I2, J3, J2, by rw [cpre, if_pos c, s1, Option.bind_some, k1], by rw [rpre, if_pos c, s2, Option.bind_some], k2, k3, k4, fun a b q => by rw [k5 a b (by omega), s6 a b (by omega), p5 a b (by omega)], fun a b q => by rw [k6 a b (by omega), s7 a b (by omega), p6 a b (by omega)], fun k hk => by rw [k5 0 1 (by omega), s6 0 1 (by omega), k6 0 64 (by omega), s7 0 64 (by omega)]; exact eI1 k hk, Or.inr ⟨hfb, fun k => by rw [k6 0 64 (by omega), s7 0 64 (by omega)]; exact p4 k⟩⟩
    · obtain ⟨I2, J2, k1, k2, k3, k4, k5, k6⟩ := key I1 J1 hBK1 (fun k c hc => by rw [p6 0 125 (by omega)]) (fun k hk q => by rw [p6 0 125 (by omega)] at q; exact q)
      refine ⟨I2, J1, J2, by rw [cpre, if_neg c, k1], by rw [rpre, if_neg c], k2, k3, k4, fun a b q => by rw [k5 a b (by omega), p5 a b (by omega)], fun a b q => by rw [k6 a b (by omega), p6 a b (by omega)], fun k hk => by rw [k5 0 1 (by omega), k6 0 64 (by omega)]; exact eI1 k hk, Or.inr ⟨hfb, fun k => by rw [k6 0 64 (by omega)]; exact p4 k⟩⟩
end CR3
