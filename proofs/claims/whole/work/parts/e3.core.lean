
section CORE3
variable {n T e x : Nat} {I J I' J' I0 J0 : am_I} {ms ms' : List (Nat → Nat)} {rw : Nat → List (Nat × Nat)} {gv cl H A B : Nat → Nat → Nat} {K : Nat → Nat → Int} {lg fb jl : Nat → List Nat} {fq mk : Nat → Nat}
/-- a node asks its master -/
theorem co_ask {s v M : Nat} (h : CO n T e I J ms rw gv cl H A B K lg fb jl fq mk) (hx : x < n) (hs : s < 136) (hU : J 0 65 x = nI 1) (hA0 : ∀ r, r < 136 → A x r = 0) (hv : v = 1 ∨ v = 2) (hM : M < n) (hmst : mst n (J 0 66) s n 0 = nI M) (hML : MLr n T I' J' ms') (hsn : snd (J 0 65) T x M 0 s v ms ms') (hI : fMI (am_up I x 50 s (nI v)) I') (hJ : fMJ (am_up J 0 77 (136 * x + s) (nI v)) J') : CO n T e I' J' ms' rw gv cl H (up2 A x s v) B K lg fb jl fq mk := by
  obtain ⟨a1, a2, a3, a4, a5, a6, a7, a8, a9, b1, b2, b3, b4⟩ := h
  have oI : ∀ a b, ¬ (a = x ∧ b = 50) → ¬ (a = 0 ∧ (b = 9 ∨ b = 11)) → I' a b = I a b := fun a b q1 q2 => (hI.1 a b q2).trans (z_upj _ _ _ _ _ _ _ q1)
  have oJ : ∀ a b, ¬ (a = 0 ∧ (b = 60 ∨ b = 77 ∨ (101 ≤ b ∧ b ≤ 106) ∨ b = 108)) → J' a b = J a b := fun a b q => (hJ.1 a b (by omega)).trans (z_upj _ _ _ _ _ _ _ (by omega))
  have oJ6 : ∀ k, ¬ (k = 38 ∨ k = 39) → J' 0 60 k = J 0 60 k := fun k q => by rw [hJ.2 k q, z_upj _ _ _ _ _ _ _ (by omega)]
  have o77 : ∀ k, J' 0 77 k = if k = 136 * x + s then nI v else J 0 77 k := fun k => by rw [hJ.1 0 77 (by omega), z_upk]
  have o50 : ∀ k, I' x 50 k = if k = s then nI v else I x 50 k := fun k => by rw [hI.1 x 50 (by omega), z_upk]
  have e65 : J' 0 65 = J 0 65 := oJ 0 65 (by omega)
  have e66 : J' 0 66 = J 0 66 := oJ 0 66 (by omega)
  have em : mrr n J' = mrr n J := mrr_cg e66
  have e64 : J' 0 64 = J 0 64 := oJ 0 64 (by omega)
  have edD : dD J' = dD J := by unfold dD; rw [e64]
  have e47 : ∀ z, I' z 47 = I z 47 := fun z => oI z 47 (by omega) (by omega)
  have efw : fwI I' = fwI I := funext fun z => funext fun k => funext fun i => by unfold fwI; rw [e47]
  have hj := ((a6 x hx).2.1 hU).1
  have hMm : M = mrr n J s := by
    have q1 := (mst_ok (J := J) (r := s) a1.1 a1.2 hx (by rw [hj]; decide))
    have := hmst.symm.trans q1.2
    rw [z_eq (by omega) (by omega)] at this
    exact this
  rw [hMm] at hsn
  have hPL := pl_ask a7 hx hs hU hA0 (by omega) (by omega) (by rw [← hMm]; exact hM) hsn
  refine ⟨a1, hML, ms_cg a3 (fun j h4 h8 => oI 0 j (by omega) (by omega)) (fun j h4 h8 => oJ 0 j (by omega)), ?_, fun z hz => ?_, fun z hz => ?_, by rw [e65, em]; exact hPL, fun k hk => by rw [oI 0 1 (by omega) (by omega), e64]; exact a8 k hk, ?_, ?_, by rw [edD, efw]; exact b2, ?_, du_snd b4 hsn (oI 0 12 (by omega) (by omega))⟩
  · unfold BKr at a4 ⊢
    rw [oI 0 13 (by omega) (by omega), oI 0 14 (by omega) (by omega), oJ6 49 (by omega), oJ6 63 (by omega), oJ 0 125 (by omega), oJ 0 126 (by omega)]
    exact a4
  · by_cases ez : z = x
    · subst ez
      obtain ⟨c1, c2, c3, c4, c5, c6⟩ := a5 z hz
      refine ⟨by rw [oI z 40 (by omega) (by omega)]; exact c1, by rw [oI z 40 (by omega) (by omega), e66]; exact c2, jn_cgz c3 (oI z 44 (by omega) (by omega)) (oI z 45 (by omega) (by omega)) (oI z 46 (by omega) (by omega)) (e47 z) (fun b _ => by rw [oJ 0 69 (by omega)]) (by rw [oJ 0 70 (by omega)]) (by rw [oJ 0 71 (by omega)]) (by rw [oJ 0 72 (by omega)]) (by rw [oJ 0 73 (by omega)]) (fun k _ => by rw [oJ 0 74 (by omega)]) (fun k i _ _ => by rw [oJ 0 75 (by omega)]), ch_cg c4 (oI z 41 (by omega) (by omega)) (oI z 42 (by omega) (by omega)) (oI z 43 (by omega) (by omega)) (fun b i _ _ => by rw [oJ 0 67 (by omega)]) (fun b _ => by rw [oJ 0 68 (by omega)]), fun r hr => ?_, fun r hr => ?_⟩
      · rw [oI z 49 (by omega) (by omega), oI z 51 (by omega) (by omega), oJ 0 76 (by omega), oJ 0 78 (by omega), o50, o77]
        refine ⟨(c5 r hr).1, ?_, (c5 r hr).2.2⟩
        by_cases es : r = s
        · rw [if_pos es, if_pos (by omega)]
        · rw [if_neg es, if_neg (by omega)]; exact (c5 r hr).2.1
      · rw [oJ 0 76 (by omega), oJ 0 78 (by omega), o77]
        refine ⟨(c6 r hr).1, ?_, (c6 r hr).2.2⟩
        by_cases es : r = s
        · rw [if_pos (by omega), es, up2_a]
        · rw [if_neg (by omega), up2_x es]; exact (c6 r hr).2.1
    · have oA : up2 A x s v z = A z := up2_r ez
      rw [oA]
      exact nd_cg (a5 z hz) (fun j _ _ _ => oI z j (by omega) (by omega)) (by rw [e66]) (fun b i _ _ => by rw [oJ 0 67 (by omega)]) (fun b _ => by rw [oJ 0 68 (by omega)]) (fun b _ => by rw [oJ 0 69 (by omega)]) (by rw [oJ 0 70 (by omega)]) (by rw [oJ 0 71 (by omega)]) (by rw [oJ 0 72 (by omega)]) (by rw [oJ 0 73 (by omega)]) (fun k _ => by rw [oJ 0 74 (by omega)]) (fun k i _ _ => by rw [oJ 0 75 (by omega)]) (fun r _ => ⟨by rw [oJ 0 76 (by omega)], by rw [o77, if_neg (by omega)], by rw [oJ 0 78 (by omega)]⟩)
  · obtain ⟨s1, s2, s3, s4⟩ := a6 z hz
    rw [e65, e66, em]
    refine ⟨s1, s2, fun q => ?_, s4.1, by rw [oJ 0 71 (by omega), oJ 0 68 (by omega)]; exact s4.2⟩
    have ez : ¬ z = x := fun c => q (by rw [c]; exact hU)
    have oA : up2 A x s v z = A z := up2_r ez
    rw [oA]
    exact s3 q
  · unfold TID at a9 ⊢
    rw [oJ 0 120 (by omega), oI 0 19 (by omega) (by omega), oI 0 15 (by omega) (by omega)]
    exact a9
  · exact cti_cg b1 (fun b i _ _ => by rw [e64]) e65 (fun z b i _ _ _ => by rw [oJ 0 67 (by omega)]) (fun z b _ _ => by rw [oJ 0 68 (by omega)]) (fun z k i _ _ _ => by rw [e47]) (fun z hz => (b2 z hz).2.1.2.1) a1.2
  · unfold MKr at b3 ⊢
    rw [oJ 0 125 (by omega), oJ 0 126 (by omega)]
    exact b3
/-- a try is undone -/
theorem co_undo {Bw : wS} (h : CO n T e I0 J0 ms rw gv cl H A B K lg fb jl fq mk) (hx : x < n) (hU : J0 0 65 x = nI 1) (hR : RS x (K x) (sST n lg fb jl I0 J0) I0 J0 Bw I J) : CO n T e I J ms rw gv cl H A B K lg fb jl fq mk := by
  obtain ⟨a1, a2, a3, a4, a5, a6, a7, a8, a9, b1, b2, b3, b4⟩ := h
  have hC := cti_undo b1 hx hR
  obtain ⟨r1, r2, r3, r4, r5, r6, r7, r8, r9, r10⟩ := hR
  have oI : ∀ a b, ¬ (a = x ∧ 41 ≤ b ∧ b ≤ 43) → ¬ (a = 0 ∧ 15 ≤ b ∧ b ≤ 20) → I a b = I0 a b := r8
  have oJ : ∀ a b, ¬ (a = 0 ∧ (b = 60 ∨ b = 67 ∨ b = 68 ∨ (118 ≤ b ∧ b ≤ 123))) → J a b = J0 a b := r9.1
  have oJ6 : ∀ k, ¬ ((51 ≤ k ∧ k ≤ 56) ∨ k = 61) → J 0 60 k = J0 0 60 k := r9.2.1
  have e65 : J 0 65 = J0 0 65 := oJ 0 65 (by omega)
  have e66 : J 0 66 = J0 0 66 := oJ 0 66 (by omega)
  have em : mrr n J = mrr n J0 := mrr_cg e66
  have e64 : J 0 64 = J0 0 64 := oJ 0 64 (by omega)
  have edD : dD J = dD J0 := by unfold dD; rw [e64]
  have e47 : ∀ z, I z 47 = I0 z 47 := fun z => oI z 47 (by omega) (by omega)
  have efw : fwI I = fwI I0 := funext fun z => funext fun k => funext fun i => by unfold fwI; rw [e47]
  refine ⟨a1, ml_cg a2 (oI 0 9 (by omega) (by omega)) (oI 0 11 (by omega) (by omega)) (by rw [oI 0 0 (by omega) (by omega)]) (oI 0 10 (by omega) (by omega)) (fun z _ => by rw [oI z 40 (by omega) (by omega)]) (oJ6 1 (by omega)) (oJ6 2 (by omega)) (oJ6 38 (by omega)) (oJ6 39 (by omega)) (fun b hb => oJ 0 b (by omega)), ms_cg a3 (fun j h4 h8 => oI 0 j (by omega) (by omega)) (fun j h4 h8 => oJ 0 j (by omega)), ?_, fun z hz => ?_, ?_, by rw [e65, em]; exact a7, fun k hk => by rw [oI 0 1 (by omega) (by omega), e64]; exact a8 k hk, ⟨r5, r6, r7.2.2.1, r7.2.2.2⟩, hC, by rw [edD, efw]; exact b2, ?_, du_cg b4 (oI 0 12 (by omega) (by omega))⟩
  · unfold BKr at a4 ⊢
    rw [oI 0 13 (by omega) (by omega), oI 0 14 (by omega) (by omega), oJ6 49 (by omega), oJ6 63 (by omega), oJ 0 125 (by omega), oJ 0 126 (by omega)]
    exact a4
  · by_cases ez : z = x
    · subst ez
      obtain ⟨c1, c2, c3, c4, c5, c6⟩ := a5 z hz
      refine ⟨by rw [oI z 40 (by omega) (by omega)]; exact c1, by rw [oI z 40 (by omega) (by omega), e66]; exact c2, jn_cgz c3 (oI z 44 (by omega) (by omega)) (oI z 45 (by omega) (by omega)) (oI z 46 (by omega) (by omega)) (e47 z) (fun b _ => by rw [oJ 0 69 (by omega)]) (by rw [oJ 0 70 (by omega)]) (by rw [oJ 0 71 (by omega)]) (by rw [oJ 0 72 (by omega)]) (by rw [oJ 0 73 (by omega)]) (fun k _ => by rw [oJ 0 74 (by omega)]) (fun k i _ _ => by rw [oJ 0 75 (by omega)]), ⟨fun b hb => ⟨by rw [(r2 b hb).1, (r1 b hb).1], by rw [(r1 b hb).1]; exact (r4 b hb).2.2⟩, r3, fun b i hb hi q => ?_, ?_⟩, fun r hr => ?_, fun r hr => ?_⟩
      · rw [(r1 b hb).1] at q
        rw [(r1 b hb).2 q i hi, Nat.mul_comm 16 b]
        exact (r2 b hb).2 q i hi
      · have h0 := (r1 0 (by omega)).1
        rw [Nat.add_zero] at h0
        rw [h0]
        rcases (r4 0 (by omega)).2.2 with q | q
        · exact q
        · obtain ⟨r, w1, -⟩ := r10 (fun _ => 2) rfl 0 ⟨by omega, q⟩
          have := of_pos w1
          omega
      · rw [oI z 49 (by omega) (by omega), oI z 50 (by omega) (by omega), oI z 51 (by omega) (by omega), oJ 0 76 (by omega), oJ 0 77 (by omega), oJ 0 78 (by omega)]
        exact c5 r hr
      · rw [oJ 0 76 (by omega), oJ 0 77 (by omega), oJ 0 78 (by omega)]
        exact c6 r hr
    · exact nd_cg (a5 z hz) (fun j _ _ _ => oI z j (by omega) (by omega)) (by rw [e66]) (fun b i _ _ => r9.2.2.2 _ (by omega)) (fun b _ => r9.2.2.1 _ (by omega)) (fun b _ => by rw [oJ 0 69 (by omega)]) (by rw [oJ 0 70 (by omega)]) (by rw [oJ 0 71 (by omega)]) (by rw [oJ 0 72 (by omega)]) (by rw [oJ 0 73 (by omega)]) (fun k _ => by rw [oJ 0 74 (by omega)]) (fun k i _ _ => by rw [oJ 0 75 (by omega)]) (fun r _ => ⟨by rw [oJ 0 76 (by omega)], by rw [oJ 0 77 (by omega)], by rw [oJ 0 78 (by omega)]⟩)
  · intro z hz
    obtain ⟨s1, s2, s3, s4⟩ := a6 z hz
    rw [e65, e66, em, oJ 0 71 (by omega)]
    refine ⟨s1, s2, s3, s4.1, fun q => ⟨(s4.2 q).1, fun b hb => ?_⟩⟩
    have ez : ¬ z = x := fun c => q (by rw [c]; exact hU)
    rw [r9.2.2.1 _ (by omega)]
    exact (s4.2 q).2 b hb
  · unfold MKr at b3 ⊢
    rw [oJ 0 125 (by omega), oJ 0 126 (by omega)]
    exact b3
/-- a try is kept -/
theorem co_keep {sv gn lg' : List Nat} {F : (Nat → Nat) → wS} (h : CO n T e I0 J0 ms rw gv cl H A B K lg fb jl fq mk) (hx : x < n) (hU : J0 0 65 x = nI 1) (hM : CM x (K x) (sST n lg fb jl I0 J0) J0 sv gn F J) (hfI : fI x I0 I) (hf : fJ x J0 J) (hJN : JNr x I' J' lg' (fb x) (fq x) (mk x)) (hm : ∀ b, b ∈ lg' ↔ (b ∈ lg x ∨ b ∈ sv) ∧ ¬ b ∈ gn) (hCH : CHr x I' J') (h68 : ∀ b, b < 640 → J' 0 68 (640 * x + b) = if b ∈ gn then nI 0 else J 0 68 (640 * x + b)) (t1 : ∀ b, b < 640 → J' 0 120 b = nI 0) (t2 : ∀ b, b < 640 → I' 0 19 b = nI 0) (t3 : I' 0 15 5 = nI 0) (t4 : I' 0 15 7 = nI 0) (hkI : fKI x I I') (hk : fKp x J J') : COz (e + 1) n T e I' J' ms rw gv cl H A B K (setN lg x lg') fb jl fq mk := by
  obtain ⟨a1, a2, a3, a4, a5, a6, a7, a8, a9, b1, b2, b3, b4⟩ := h
  have oI : ∀ a b, ¬ (a = x ∧ (b = 41 ∨ b = 42 ∨ b = 43 ∨ b = 44 ∨ b = 45)) → ¬ (a = 0 ∧ 15 ≤ b ∧ b ≤ 20) → I' a b = I0 a b := fun a b q1 q2 => (hkI.1 a b (by omega) (by omega)).trans (hfI a b (by omega) (by omega))
  have oJ : ∀ a b, ¬ (a = 0 ∧ (b = 60 ∨ (67 ≤ b ∧ b ≤ 70) ∨ (118 ≤ b ∧ b ≤ 123))) → J' a b = J0 a b := fun a b q => (hk.1 a b (by omega)).trans (hf.1 a b (by omega))
  have oJ6 : ∀ k, ¬ ((51 ≤ k ∧ k ≤ 56) ∨ k = 61) → J' 0 60 k = J0 0 60 k := fun k q => (hk.2.1 k (by omega)).trans (hf.2.1 k (by omega))
  have e65 : J' 0 65 = J0 0 65 := oJ 0 65 (by omega)
  have e66 : J' 0 66 = J0 0 66 := oJ 0 66 (by omega)
  have em : mrr n J' = mrr n J0 := mrr_cg e66
  have e64 : J' 0 64 = J0 0 64 := oJ 0 64 (by omega)
  have edD : dD J' = dD J0 := by unfold dD; rw [e64]
  have e47 : ∀ z, I' z 47 = I0 z 47 := fun z => oI z 47 (by omega) (by omega)
  have efw : fwI I' = fwI I0 := funext fun z => funext fun k => funext fun i => by unfold fwI; rw [e47]
  have hC := cti_keep b1 hx hU hM hf hm h68 hk e47
  refine ⟨a1, ml_cg a2 (oI 0 9 (by omega) (by omega)) (oI 0 11 (by omega) (by omega)) (by rw [oI 0 0 (by omega) (by omega)]) (oI 0 10 (by omega) (by omega)) (fun z _ => by rw [oI z 40 (by omega) (by omega)]) (oJ6 1 (by omega)) (oJ6 2 (by omega)) (oJ6 38 (by omega)) (oJ6 39 (by omega)) (fun b hb => oJ 0 b (by omega)), ms_cg a3 (fun j h4 h8 => oI 0 j (by omega) (by omega)) (fun j h4 h8 => oJ 0 j (by omega)), ?_, fun z hz => ?_, fun z hz => ?_, by rw [e65, em]; exact a7, fun k hk => by rw [oI 0 1 (by omega) (by omega), e64]; exact a8 k hk, ⟨t1, t2, t3, t4⟩, hC, by rw [edD, efw]; exact b2, ?_, du_cg b4 (oI 0 12 (by omega) (by omega))⟩
  · unfold BKr at a4 ⊢
    rw [oI 0 13 (by omega) (by omega), oI 0 14 (by omega) (by omega), oJ6 49 (by omega), oJ6 63 (by omega), oJ 0 125 (by omega), oJ 0 126 (by omega)]
    exact a4
  · by_cases ez : z = x
    · subst ez
      rw [setN_s]
      obtain ⟨c1, c2, c3, c4, c5, c6⟩ := a5 z hz
      refine ⟨by rw [oI z 40 (by omega) (by omega)]; exact c1, by rw [oI z 40 (by omega) (by omega), e66]; exact c2, hJN, hCH, fun r hr => ?_, fun r hr => ?_⟩
      · rw [oI z 49 (by omega) (by omega), oI z 50 (by omega) (by omega), oI z 51 (by omega) (by omega), oJ 0 76 (by omega), oJ 0 77 (by omega), oJ 0 78 (by omega)]
        exact c5 r hr
      · rw [oJ 0 76 (by omega), oJ 0 77 (by omega), oJ 0 78 (by omega)]
        exact c6 r hr
    · rw [setN_o ez]
      exact nd_cg (a5 z hz) (fun j _ _ _ => oI z j (by omega) (by omega)) (by rw [e66]) (fun b i _ _ => by rw [hk.1 0 67 (by omega)]; exact hf.2.2.2 _ (by omega)) (fun b _ => by rw [(hk.2.2.1 _ (by omega)).1]; exact hf.2.2.1 _ (by omega)) (fun b _ => by rw [(hk.2.2.1 _ (by omega)).2, hf.1 0 69 (by omega)]) (by rw [hk.2.2.2 _ ez, hf.1 0 70 (by omega)]) (by rw [oJ 0 71 (by omega)]) (by rw [oJ 0 72 (by omega)]) (by rw [oJ 0 73 (by omega)]) (fun k _ => by rw [oJ 0 74 (by omega)]) (fun k i _ _ => by rw [oJ 0 75 (by omega)]) (fun r _ => ⟨by rw [oJ 0 76 (by omega)], by rw [oJ 0 77 (by omega)], by rw [oJ 0 78 (by omega)]⟩)
  · obtain ⟨s1, s2, s3, s4⟩ := a6 z hz
    rw [e65, e66, em]
    by_cases ez : z = x
    · subst ez
      rw [setN_s]
      exact ⟨s1, s2, fun q => absurd hU q, s4.1, fun q => absurd hU q⟩
    · rw [setN_o ez]
      exact ⟨s1, s2, s3, s4.1, fun q => ⟨by rw [oJ 0 71 (by omega)]; exact (s4.2 q).1, fun b hb => by rw [(hk.2.2.1 _ (by omega)).1, hf.2.2.1 _ (by omega)]; exact (s4.2 q).2 b hb⟩⟩
  · unfold MKr at b3 ⊢
    rw [oJ 0 125 (by omega), oJ 0 126 (by omega)]
    exact b3
end CORE3
