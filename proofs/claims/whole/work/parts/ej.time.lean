
section TIME
variable {n T e x : Nat} {I J I' J' : am_I} {ms : List (Nat → Nat)} {rw : Nat → List (Nat × Nat)} {gv cl gv' H A B : Nat → Nat → Nat} {K : Nat → Nat → Int} {lg fb jl : Nat → List Nat} {fq mk : Nat → Nat} {g : Nat → Nat}
/-- the time is one more, what is due is gathered -/
theorem co_time (h : CO n T e I J ms rw gv cl H A B K lg fb jl fq mk) (hT : T < 90000) (hC : mC I' (lat (T + 1) ms)) (oI : ∀ a b, ¬ (a = 0 ∧ (b = 0 ∨ b = 9 ∨ b = 11 ∨ b = 12)) → I' a b = I a b) (o9 : ∀ k, ¬ k = 3 → I' 0 9 k = I 0 9 k) (h7 : I' 0 0 7 = nI (T + 1)) (hg : ∀ r, r < 136 → gv' r = gv r) (hd : DUr gv' I' (T + 1) ms) : CO n (T + 1) e I' (am_up J 0 60 2 (nI (T + 1))) ms rw gv' cl H A B K lg fb jl fq mk := by
  obtain ⟨a1, a2, a3, a4, a5, a6, a7, a8, a9, b1, b2, b3, b4⟩ := h
  have oJ : ∀ a b, ¬ (a = 0 ∧ b = 60) → am_up J 0 60 2 (nI (T + 1)) a b = J a b := fun a b q => z_upj _ _ _ _ _ _ _ q
  have oJ6 : ∀ k, ¬ k = 2 → am_up J 0 60 2 (nI (T + 1)) 0 60 k = J 0 60 k := fun k q => by rw [z_upk, if_neg q]
  have e65 := oJ 0 65 (by omega)
  have e66 := oJ 0 66 (by omega)
  have em : mrr n (am_up J 0 60 2 (nI (T + 1))) = mrr n J := mrr_cg e66
  have e64 := oJ 0 64 (by omega)
  have edD : dD (am_up J 0 60 2 (nI (T + 1))) = dD J := by unfold dD; rw [e64]
  have e47 : ∀ z, I' z 47 = I z 47 := fun z => oI z 47 (by omega)
  have efw : fwI I' = fwI I := funext fun z => funext fun k => funext fun i => by unfold fwI; rw [e47]
  obtain ⟨c0, c1, c2, c3, c4, c5, c6', c7, c8, c9, c10⟩ := a2
  refine ⟨a1, ⟨hC, ⟨by rw [oJ6 38 (by omega)]; exact c1.1, c1.2.1, fun k m hk c hc => by rw [oJ 0 (101 + c) (by omega)]; exact c1.2.2 k m hk c hc⟩, by rw [o9 4 (by omega), oJ6 39 (by omega)]; exact c2, h7, by rw [z_upk, if_pos rfl], by omega, by rw [oI 0 10 (by omega), oJ 0 107 (by omega)]; exact c6', fun f t hf ht => ?_, fun m hm => by have := c8 m hm; omega, fun z hz => by rw [oI z 40 (by omega), oJ 0 65 (by omega)]; exact c9 z hz, by rw [oJ6 1 (by omega)]; exact c10⟩, ms_gve (ms_cg a3 (fun j h4 h8 => oI 0 j (by omega)) (fun j h4 h8 => oJ 0 j (by omega))) hg, ?_, fun z hz => nd_cg (a5 z hz) (fun j _ _ _ => oI z j (by omega)) (by rw [e66]) (fun b i _ _ => by rw [oJ 0 67 (by omega)]) (fun b _ => by rw [oJ 0 68 (by omega)]) (fun b _ => by rw [oJ 0 69 (by omega)]) (by rw [oJ 0 70 (by omega)]) (by rw [oJ 0 71 (by omega)]) (by rw [oJ 0 72 (by omega)]) (by rw [oJ 0 73 (by omega)]) (fun k _ => by rw [oJ 0 74 (by omega)]) (fun k i _ _ => by rw [oJ 0 75 (by omega)]) (fun r _ => ⟨by rw [oJ 0 76 (by omega)], by rw [oJ 0 77 (by omega)], by rw [oJ 0 78 (by omega)]⟩), fun z hz => ?_, by rw [e65, em]; exact pl_gve a7 hg, fun k hk => by rw [oI 0 1 (by omega), e64]; exact a8 k hk, ?_, cti_cg b1 (fun b i _ _ => by rw [e64]) e65 (fun z b i _ _ _ => by rw [oJ 0 67 (by omega)]) (fun z b _ _ => by rw [oJ 0 68 (by omega)]) (fun z k i _ _ _ => by rw [e47]) (fun z hz => (b2 z hz).2.1.2.1) a1.2, by rw [edD, efw]; exact b2, ?_, hd⟩
  · rw [oJ 0 108 (by omega)]
    obtain ⟨ld, d1, d2, d3⟩ := c7 f t hf ht
    exact ⟨ld, d1, d2, by omega⟩
  · unfold BKr at a4 ⊢
    rw [oI 0 13 (by omega), oI 0 14 (by omega), oJ6 49 (by omega), oJ6 63 (by omega), oJ 0 125 (by omega), oJ 0 126 (by omega)]
    exact a4
  · obtain ⟨s1, s2, s3, s4⟩ := a6 z hz
    rw [e65, e66, em]
    exact ⟨s1, s2, fun q => ⟨(s3 q).1, (s3 q).2.1, fun r hr => ⟨((s3 q).2.2 r hr).1, ((s3 q).2.2 r hr).2.1, ((s3 q).2.2 r hr).2.2.1, fun w => by rw [hg r hr]; exact ((s3 q).2.2 r hr).2.2.2 w⟩⟩, s4.1, by rw [oJ 0 71 (by omega), oJ 0 68 (by omega)]; exact s4.2⟩
  · unfold TID at a9 ⊢
    rw [oJ 0 120 (by omega), oI 0 19 (by omega), oI 0 15 (by omega)]
    exact a9
  · unfold MKr at b3 ⊢
    rw [oJ 0 125 (by omega), oJ 0 126 (by omega)]
    exact b3
/-- the messages that come: none or all are told -/
def gvt (gv : Nat → Nat → Nat) (d : Nat) : Nat → Nat → Nat := fun r k => if r = 136 then (if k = 1 then d else 0) else gv r k
theorem gvt_r {d r : Nat} (h : ¬ r = 136) : gvt gv d r = gv r := funext fun _ => if_neg h
theorem gvt_1 {d : Nat} : gvt gv d 136 1 = d := rfl
theorem gs_time (h : GS n T e g I J) (h01 : g 0 = g 1) (hT : T < 90000) : ∃ I' c g', gX5_gather n (am_up I 0 0 7 (I 0 0 7 + nI 1) 0 0 7) (am_up I 0 0 7 (I 0 0 7 + nI 1)) = some (nI c, I') ∧ GS n (T + 1) e g' I' (am_up J 0 60 2 (J 0 60 2 + nI 1)) ∧ g' 0 = 0 ∧ g' 1 = c ∧ g' 2 = 0 ∧ c < 100 := by
  obtain ⟨rw, gv, cl, A, jl, ⟨ms, H, B, K, lg, fb, fq, mk, h⟩, rfl, hns, hW⟩ := h
  have hML := h.2.1
  have hdu := h.2.2.2.2.2.2.2.2.2.2.2.2
  have hlen := pl_len h.2.2.2.2.2.2.1 h.1.2
  have e0 : due T ms = [] := by
    have := hdu.2.1
    exact List.eq_nil_of_length_eq_zero (by omega)
  have hall : ∀ a, a ∈ ms → T < a 5 := fun a ha => by
    have := (List.filter_eq_nil_iff.mp e0) a ha
    rw [decide_eq_true_eq] at this
    omega
  have elat : lat T ms = ms := List.filter_eq_self.mpr (fun a ha => decide_eq_true (hall a ha))
  have hC := hML.1
  rw [elat] at hC
  have i7 : am_up I 0 0 7 (I 0 0 7 + nI 1) 0 0 7 = nI (T + 1) := by rw [z_upk, if_pos rfl, hML.2.2.2.1, nI_add]
  have o1 : ∀ a b, ¬ (a = 0 ∧ b = 0) → am_up I 0 0 7 (I 0 0 7 + nI 1) a b = I a b := fun a b q => z_upj _ _ _ _ _ _ _ q
  obtain ⟨f, hf, hf1⟩ := fu_ex
  obtain ⟨I', r1, r2, r3, r4, r5, r6⟩ := ga_lp (n := n) (T := T + 1) (by omega) ms [] [] am_fu (am_up I 0 0 7 (I 0 0 7 + nI 1)) (by rw [hf]; omega) (by simp only [List.length_nil]; omega) (by rw [o1 0 9 (by omega), hC.1]; simp only [List.length_nil, Nat.zero_add]) (fun k m hk => by simp at hk) (fun k m hk => by simp at hk) (fun k m hk c hc => by
    rw [o1 0 11 (by omega)]
    simp only [List.length_nil, Nat.zero_add]
    exact hC.2.2 k m hk c hc) hC.2.1
  rw [List.nil_append] at r1 r2 r3 r4
  have oI : ∀ a b, ¬ (a = 0 ∧ (b = 0 ∨ b = 9 ∨ b = 11 ∨ b = 12)) → I' a b = I a b := fun a b q => (r5 a b (by omega)).trans (o1 a b (by omega))
  have hdl : (due (T + 1) ms).length ≤ ms.length := List.length_filter_le _ _
  have ej : J 0 60 2 + nI 1 = nI (T + 1) := by rw [hML.2.2.2.2.1, nI_add]
  have hco := co_time (I' := I') (gv' := gvt gv (due (T + 1) ms).length) h hT ⟨r4, fun m hm => hC.2.1 m (List.mem_filter.mp hm).1, r3⟩ oI (fun k q => by rw [r6 k q, o1 0 9 (by omega)]) (by rw [r5 0 0 (by omega)]; exact i7) (fun r hr => gvt_r (by omega)) ⟨fun k m hk c hc => by
    show I' 0 12 (6 * (0 + k) + c) = _
    rw [Nat.zero_add]; exact r2 k m hk c hc, by show 0 + _ = _; rw [Nat.zero_add]; rfl, Nat.zero_le _, fun k m _ hk => absurd hk (by show ¬ k < 0; omega)⟩
  refine ⟨I', (due (T + 1) ms).length, gvt gv (due (T + 1) ms).length 136, ?_, ⟨rw, _, cl, A, jl, ⟨ms, H, B, K, lg, fb, fq, mk, by rw [ej]; exact hco⟩, rfl, fun z hz => ?_, ?_⟩, rfl, rfl, rfl, by omega⟩
  · rw [i7, gX5_gather, bX5_gather_0]
    exact r1
  · exact (ns_cg (fun b q => oI z b (by omega)) (fun j r q1 q2 q3 => by rw [z_upj _ _ _ _ _ _ _ (by omega)]) (fun j q => by rw [z_upj _ _ _ _ _ _ _ (by omega)]) (hns z hz)).1
  · unfold WL at hW ⊢
    rw [z_upj _ _ _ _ _ _ _ (show ¬ (0 = 0 ∧ 64 = 60) by omega), r5 0 0 (by omega), z_upk, if_neg (by omega), z_upk, if_neg (by omega), z_upk, if_neg (by omega), z_upk, if_neg (by omega)]
    exact hW
theorem cs_time : cs n (am_up J 0 60 2 (J 0 60 2 + nI 1)) = cs n J := cs_eq n (fun z _ => by unfold cal; rw [z_upj _ _ _ _ _ _ _ (by omega)])
/-- A FLUSH'S WRITE, both sides -/
theorem co_wr {fbn : List Nat} (h : CO n T e I J ms rw gv cl H A B K lg fb jl fq mk) (hx : x < n) (hU : J 0 65 x = nI 1) (hne : ¬ fb x = []) (hfbn : fbn = if fq x + 1 = 2 * (fb x).length + 3 then [] else fb x)
    (h64 : ∀ k, J' 0 64 k = if 16 * wb x (fb x) (fq x) ≤ k ∧ k < 16 * wb x (fb x) (fq x) + 16 then ww (fb x) (J 0 71 x) (fun k i => I x 47 (16 * k + i)) (fq x) (k - 16 * wb x (fb x) (fq x)) else J 0 64 k) (h1 : ∀ k, k < 10240 → I' 0 1 k = J' 0 64 k) (hBK : BKr I' J' e) (oI : ∀ a b, ¬ (a = 0 ∧ (b = 0 ∨ b = 1 ∨ b = 14)) → ¬ (a = x ∧ b = 44) → I' a b = I a b) (o0 : ∀ k, ¬ k = 8 → I' 0 0 k = I 0 0 k) (oJ : ∀ a b, ¬ (a = 0 ∧ (b = 60 ∨ b = 64 ∨ b = 72 ∨ b = 73 ∨ b = 125)) → J' a b = J a b) (oJ6 : ∀ k, ¬ k = 48 → J' 0 60 k = J 0 60 k) (o7 : ∀ k, ¬ k = x → J' 0 72 k = J 0 72 k ∧ J' 0 73 k = J 0 73 k) (hI44 : ∀ k, ¬ k = 5 → ¬ k = 6 → I' x 44 k = I x 44 k) (hJN : JNr x I' J' (lg x) fbn (fq x + 1) (mk x))
    (hMK : ∀ z, z < n → (¬ setN fb x fbn z = [] → mk z ≤ e) ∧ (∀ k, k < e → J' 0 125 (10 * k) = nI z → J' 0 125 (10 * k + 9) = nI 1 → (¬ J' 0 126 k = nI 0 ↔ ¬ setN fb x fbn z = [] ∧ k < mk z)) ∧ (¬ setN fb x fbn z = [] → (setN fb x fbn z).length + 1 < setN fq x (fq x + 1) z → ∀ k, k < e → k < mk z → J' 0 125 (10 * k) = nI z → ¬ J' 0 125 (10 * k + 9) = nI 1)) : ∃ jl', CO n T e I' J' ms rw gv cl H A B K lg (setN fb x fbn) jl' (setN fq x (fq x + 1)) mk := by
  obtain ⟨a1, a2, a3, a4, a5, a6, a7, a8, a9, b1, b2, b3, b4⟩ := h
  have hJ0 := (a5 x hx).2.2.1
  have hq := (hJ0.2.2.2.2.2.2.2.2.2.2 hne).1
  have e65 : J' 0 65 = J 0 65 := oJ 0 65 (by omega)
  have e66 : J' 0 66 = J 0 66 := oJ 0 66 (by omega)
  have em : mrr n J' = mrr n J := mrr_cg e66
  have e47 : ∀ z, I' z 47 = I z 47 := fun z => oI z 47 (by omega) (by omega)
  obtain ⟨fb1, jl1, d1, d2, d3⟩ := cti_write b1 a1.2 hx b2 hne hq h64 e47 ⟨e65, oJ 0 67 (by omega), oJ 0 68 (by omega)⟩
  rw [← hfbn] at d3
  subst d3
  have hjl : fb1 = [] → jl1 = [] := fun q => by
    have hlast : fq x + 1 = 2 * (fb x).length + 3 := Classical.byContradiction fun c => by
      rw [if_neg c] at hfbn
      exact hne (hfbn.symm.trans q)
    have := (d2 x hx).2.2.1
    rw [setN_s] at this
    refine Classical.byContradiction fun c => ?_
    have h2 := this.mpr c
    unfold dD at h2
    rw [h64] at h2
    have ewb : wb x (fb x) (fq x) = 1 + 24 * x := by
      unfold wb
      rw [if_neg (by omega), if_neg (by omega), if_neg (by omega), if_neg (by omega)]
    rw [ewb, if_pos (by omega), show 16 * (1 + 24 * x) + 2 - 16 * (1 + 24 * x) = 2 from by omega] at h2
    unfold ww at h2
    rw [if_neg (by omega), if_neg (by omega), if_neg (by omega), if_neg (by omega), if_neg (by omega), if_pos rfl, if_neg (by omega)] at h2
    exact absurd h2 (by decide)
  refine ⟨setN jl x jl1, a1, ml_cg a2 (oI 0 9 (by omega) (by omega)) (oI 0 11 (by omega) (by omega)) (o0 7 (by omega)) (oI 0 10 (by omega) (by omega)) (fun z _ => by rw [oI z 40 (by omega) (by omega)]) (oJ6 1 (by omega)) (oJ6 2 (by omega)) (oJ6 38 (by omega)) (oJ6 39 (by omega)) (fun b hb => oJ 0 b (by omega)), ms_cg a3 (fun j h4 h8 => oI 0 j (by omega) (by omega)) (fun j h4 h8 => oJ 0 j (by omega)), hBK, fun z hz => ?_, fun z hz => ?_, by rw [e65, em]; exact a7, h1, ?_, d1, d2, hMK, du_cg b4 (oI 0 12 (by omega) (by omega))⟩
  · by_cases ez : z = x
    · subst ez
      obtain ⟨c1, c2, c3, c4, c5, c6⟩ := a5 z hz
      rw [setN_s, setN_s]
      refine ⟨by rw [oI z 40 (by omega) (by omega)]; exact c1, by rw [oI z 40 (by omega) (by omega), e66]; exact c2, hJN, ch_cg c4 (oI z 41 (by omega) (by omega)) (oI z 42 (by omega) (by omega)) (oI z 43 (by omega) (by omega)) (fun b i _ _ => by rw [oJ 0 67 (by omega)]) (fun b _ => by rw [oJ 0 68 (by omega)]), fun r hr => ?_, fun r hr => ?_⟩
      · rw [oI z 49 (by omega) (by omega), oI z 50 (by omega) (by omega), oI z 51 (by omega) (by omega), oJ 0 76 (by omega), oJ 0 77 (by omega), oJ 0 78 (by omega)]
        exact c5 r hr
      · rw [oJ 0 76 (by omega), oJ 0 77 (by omega), oJ 0 78 (by omega)]
        exact c6 r hr
    · rw [setN_o ez, setN_o ez]
      exact nd_cg (a5 z hz) (fun j _ _ _ => oI z j (by omega) (by omega)) (by rw [e66]) (fun b i _ _ => by rw [oJ 0 67 (by omega)]) (fun b _ => by rw [oJ 0 68 (by omega)]) (fun b _ => by rw [oJ 0 69 (by omega)]) (by rw [oJ 0 70 (by omega)]) (by rw [oJ 0 71 (by omega)]) (o7 z ez).1 (o7 z ez).2 (fun k _ => by rw [oJ 0 74 (by omega)]) (fun k i _ _ => by rw [oJ 0 75 (by omega)]) (fun r _ => ⟨by rw [oJ 0 76 (by omega)], by rw [oJ 0 77 (by omega)], by rw [oJ 0 78 (by omega)]⟩)
  · obtain ⟨s1, s2, s3, s4⟩ := a6 z hz
    rw [e65, e66, em]
    by_cases ez : z = x
    · subst ez
      rw [setN_s, setN_s]
      exact ⟨s1, fun q => ⟨(s2 q).1, (s2 q).2.1, hjl⟩, fun q => absurd hU q, fun q => absurd (s2 hU).1 q, fun q => absurd hU q⟩
    · rw [setN_o ez, setN_o ez]
      exact ⟨s1, s2, s3, s4.1, by rw [oJ 0 71 (by omega), oJ 0 68 (by omega)]; exact s4.2⟩
  · unfold TID at a9 ⊢
    rw [oJ 0 120 (by omega), oI 0 19 (by omega) (by omega), oI 0 15 (by omega) (by omega)]
    exact a9
end TIME
