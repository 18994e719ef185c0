
/-- what nobody at rest looks at -/
def irI (I I' : am_I) : Prop := (∀ a b, ¬ (b = 48 ∨ (52 ≤ b ∧ b ≤ 55)) → ¬ (a = 0 ∧ (b = 0 ∨ (15 ≤ b ∧ b ≤ 18) ∨ b = 20)) → I' a b = I a b) ∧ I' 0 0 7 = I 0 0 7 ∧ I' 0 15 5 = I 0 15 5 ∧ I' 0 15 7 = I 0 15 7
def irJ (J J' : am_I) : Prop := (∀ a b, ¬ (a = 0 ∧ (b = 60 ∨ (79 ≤ b ∧ b ≤ 93) ∨ b = 118 ∨ b = 119 ∨ (121 ≤ b ∧ b ≤ 123))) → J' a b = J a b) ∧ ∀ k, (k = 1 ∨ k = 2 ∨ k = 38 ∨ k = 39 ∨ k = 49 ∨ k = 63) → J' 0 60 k = J 0 60 k
/-- what a node's going down changes -/
def FGI (x : Nat) (I I' : am_I) : Prop := ∀ a b, ¬ (a = x ∧ (41 ≤ b ∧ b ≤ 52 ∧ ¬ b = 48 ∧ ¬ b = 50)) → ¬ (a = 0 ∧ (b = 9 ∨ b = 11)) → I' a b = I a b
def FGJ (x : Nat) (J J' : am_I) : Prop := (∀ a b, ¬ (a = 0 ∧ (b = 60 ∨ (68 ≤ b ∧ b ≤ 80 ∧ ¬ b = 77) ∨ (101 ≤ b ∧ b ≤ 106) ∨ b = 108 ∨ b = 126)) → J' a b = J a b) ∧ (∀ k, ¬ (k = 38 ∨ k = 39) → J' 0 60 k = J 0 60 k) ∧ (∀ k, ¬ (136 * x ≤ k ∧ k < 136 * x + 136) → J' 0 76 k = J 0 76 k ∧ J' 0 78 k = J 0 78 k ∧ J' 0 79 k = J 0 79 k ∧ J' 0 80 k = J 0 80 k) ∧ (∀ k, ¬ k = x → J' 0 72 k = J 0 72 k)
  ∧ (∀ r, r < 136 → ∃ h h' : Nat, h ≤ 2 ∧ h' ≤ h ∧ J 0 76 (136 * x + r) = nI h ∧ J' 0 76 (136 * x + r) = nI h') ∧ (¬ J 0 72 x = nI 0 → ¬ J' 0 72 x = nI 0) ∧ (¬ (J 0 70 x = nI 0 ∧ J 0 72 x = nI 0) → ¬ (J' 0 70 x = nI 0 ∧ J' 0 72 x = nI 0))
theorem FGI.rf {x : Nat} {I : am_I} : FGI x I I := fun _ _ _ _ => rfl
theorem FGI.tr {x : Nat} {I I' I'' : am_I} (h : FGI x I I') (h' : FGI x I' I'') : FGI x I I'' := fun a b p q => (h' a b p q).trans (h a b p q)
theorem FGJ.tr {x : Nat} {J J' J'' : am_I} (h : FGJ x J J') (h' : FGJ x J' J'') : FGJ x J J'' := by
  obtain ⟨a1, a2, a3, a4, a5, a6, a7⟩ := h
  obtain ⟨b1, b2, b3, b4, b5, b6, b7⟩ := h'
  refine ⟨fun a b q => (b1 a b q).trans (a1 a b q), fun k q => (b2 k q).trans (a2 k q), fun k q => ⟨(b3 k q).1.trans (a3 k q).1, (b3 k q).2.1.trans (a3 k q).2.1, (b3 k q).2.2.1.trans (a3 k q).2.2.1, (b3 k q).2.2.2.trans (a3 k q).2.2.2⟩, fun k q => (b4 k q).trans (a4 k q), fun r hr => ?_, fun q => b6 (a6 q), fun q => b7 (a7 q)⟩
  obtain ⟨h, h', p1, p2, p3, p4⟩ := a5 r hr
  obtain ⟨g, g', q1, q2, q3, q4⟩ := b5 r hr
  have e := p4.symm.trans q3
  rw [z_eq (by omega) (by omega)] at e
  exact ⟨h, g', p1, by omega, p3, q4⟩
section CORE1
variable {n T e x : Nat} {I J I' J' : am_I} {ms ms0 : List (Nat → Nat)} {rw : Nat → List (Nat × Nat)} {gv cl H A B : Nat → Nat → Nat} {K : Nat → Nat → Int} {lg fb jl : Nat → List Nat} {fq mk : Nat → Nat}
theorem ch_cg (h : CHr x I J) (h1 : I' x 41 = I x 41) (h2 : I' x 42 = I x 42) (h3 : I' x 43 = I x 43) (k7 : ∀ b i, b < 640 → i < 16 → J' 0 67 (16 * (640 * x + b) + i) = J 0 67 (16 * (640 * x + b) + i)) (k8 : ∀ b, b < 640 → J' 0 68 (640 * x + b) = J 0 68 (640 * x + b)) : CHr x I' J' := by
  obtain ⟨a1, a2, a3, a4⟩ := h
  unfold CHr
  rw [h1, h2, h3]
  exact ⟨fun b hb => by rw [k8 b hb]; exact a1 b hb, a2, fun b i hb hi q => by rw [k8 b hb] at q; rw [k7 b i hb hi]; exact a3 b i hb hi q, by have := k8 0 (by omega); rw [Nat.add_zero] at this; rw [this]; exact a4⟩
theorem ms_cg (h : MSr n I J rw gv cl) (hI : ∀ j, 4 ≤ j → j ≤ 8 → I' 0 j = I 0 j) (hJ : ∀ j, 94 ≤ j → j ≤ 98 → J' 0 j = J 0 j) : MSr n I' J' rw gv cl := fun r hr => by
  have := h r hr
  unfold MS1 at this ⊢
  rw [hI 4 (by omega) (by omega), hI 5 (by omega) (by omega), hI 6 (by omega) (by omega), hI 7 (by omega) (by omega), hI 8 (by omega) (by omega), hJ 94 (by omega) (by omega), hJ 95 (by omega) (by omega), hJ 96 (by omega) (by omega), hJ 97 (by omega) (by omega), hJ 98 (by omega) (by omega)]
  exact this
theorem nd_cg {lg fb : List Nat} {fq mk : Nat} {H A B : Nat → Nat} (h : NDr x I J lg fb fq mk H A B) (hI : ∀ j, 40 ≤ j → j ≤ 51 → ¬ j = 48 → I' x j = I x j) (h66 : J' 0 66 x = J 0 66 x) (k7 : ∀ b i, b < 640 → i < 16 → J' 0 67 (16 * (640 * x + b) + i) = J 0 67 (16 * (640 * x + b) + i)) (k8 : ∀ b, b < 640 → J' 0 68 (640 * x + b) = J 0 68 (640 * x + b)) (k9 : ∀ b, b < 640 → J' 0 69 (640 * x + b) = J 0 69 (640 * x + b)) (k0 : J' 0 70 x = J 0 70 x) (k1 : J' 0 71 x = J 0 71 x) (k2 : J' 0 72 x = J 0 72 x) (k3 : J' 0 73 x = J 0 73 x) (k4 : ∀ k, k < 36 → J' 0 74 (36 * x + k) = J 0 74 (36 * x + k)) (k5 : ∀ k i, k < 36 → i < 16 → J' 0 75 (16 * (36 * x + k) + i) = J 0 75 (16 * (36 * x + k) + i)) (k6 : ∀ r, r < 136 → J' 0 76 (136 * x + r) = J 0 76 (136 * x + r) ∧ J' 0 77 (136 * x + r) = J 0 77 (136 * x + r) ∧ J' 0 78 (136 * x + r) = J 0 78 (136 * x + r)) : NDr x I' J' lg fb fq mk H A B := by
  obtain ⟨a1, a2, a3, a4, a5, a6⟩ := h
  refine ⟨by rw [hI 40 (by omega) (by omega) (by omega)]; exact a1, by rw [hI 40 (by omega) (by omega) (by omega), h66]; exact a2, jn_cgz a3 (hI 44 (by omega) (by omega) (by omega)) (hI 45 (by omega) (by omega) (by omega)) (hI 46 (by omega) (by omega) (by omega)) (hI 47 (by omega) (by omega) (by omega)) k9 k0 k1 k2 k3 k4 k5, ch_cg a4 (hI 41 (by omega) (by omega) (by omega)) (hI 42 (by omega) (by omega) (by omega)) (hI 43 (by omega) (by omega) (by omega)) k7 k8, fun r hr => ?_, fun r hr => ?_⟩
  · rw [hI 49 (by omega) (by omega) (by omega), hI 50 (by omega) (by omega) (by omega), hI 51 (by omega) (by omega) (by omega), (k6 r hr).1, (k6 r hr).2.1, (k6 r hr).2.2]
    exact a5 r hr
  · rw [(k6 r hr).1, (k6 r hr).2.1, (k6 r hr).2.2]
    exact a6 r hr
theorem mrr_cg (h : J' 0 66 = J 0 66) : mrr n J' = mrr n J := by unfold mrr; rw [h]
theorem co_irz {z0 : Nat} (h : COz z0 n T e I J ms rw gv cl H A B K lg fb jl fq mk) (hI : irI I I') (hJ : irJ J J') : COz z0 n T e I' J' ms rw gv cl H A B K lg fb jl fq mk := by
  obtain ⟨a1, a2, a3, a4, a5, a6, a7, a8, a9, b1, b2, b3, b4⟩ := h
  obtain ⟨i1, i2, i3, i4⟩ := hI
  obtain ⟨j1, j2⟩ := hJ
  have e65 : J' 0 65 = J 0 65 := j1 0 65 (by omega)
  have e66 : J' 0 66 = J 0 66 := j1 0 66 (by omega)
  have e64 : J' 0 64 = J 0 64 := j1 0 64 (by omega)
  have em : mrr n J' = mrr n J := mrr_cg e66
  have edD : dD J' = dD J := by unfold dD; rw [e64]
  have e47 : ∀ z, I' z 47 = I z 47 := fun z => i1 z 47 (by omega) (by omega)
  have efw : fwI I' = fwI I := funext fun z => funext fun k => funext fun i => by unfold fwI; rw [e47]
  have hF : ∀ z, z < n → FJ z (dD J') (fb z) (jl z) (fq z) (fwI I' z) := by rw [edD, efw]; exact b2
  refine ⟨a1, ml_cg a2 (i1 0 9 (by omega) (by omega)) (i1 0 11 (by omega) (by omega)) i2 (i1 0 10 (by omega) (by omega)) (fun z _ => by rw [i1 z 40 (by omega) (by omega)]) (j2 1 (by omega)) (j2 2 (by omega)) (j2 38 (by omega)) (j2 39 (by omega)) (fun b hb => j1 0 b (by omega)), ms_cg a3 (fun j h4 h8 => i1 0 j (by omega) (by omega)) (fun j h4 h8 => j1 0 j (by omega)), ?_, fun x hx => nd_cg (a5 x hx) (fun j h1 h2 h3 => i1 x j (by omega) (by omega)) (by rw [e66]) (fun b i _ _ => by rw [j1 0 67 (by omega)]) (fun b _ => by rw [j1 0 68 (by omega)]) (fun b _ => by rw [j1 0 69 (by omega)]) (by rw [j1 0 70 (by omega)]) (by rw [j1 0 71 (by omega)]) (by rw [j1 0 72 (by omega)]) (by rw [j1 0 73 (by omega)]) (fun k _ => by rw [j1 0 74 (by omega)]) (fun k i _ _ => by rw [j1 0 75 (by omega)]) (fun r _ => ⟨by rw [j1 0 76 (by omega)], by rw [j1 0 77 (by omega)], by rw [j1 0 78 (by omega)]⟩), ?_, by rw [e65, em]; exact a7, fun k hk => by rw [i1 0 1 (by omega) (by omega), e64]; exact a8 k hk, ?_, ?_, hF, ?_, du_cg b4 (i1 0 12 (by omega) (by omega))⟩
  · unfold BKr at a4 ⊢
    rw [i1 0 13 (by omega) (by omega), i1 0 14 (by omega) (by omega), j2 49 (by omega), j2 63 (by omega), j1 0 125 (by omega), j1 0 126 (by omega)]
    exact a4
  · unfold STr at a6 ⊢
    rw [e65, e66, em, j1 0 71 (by omega), j1 0 68 (by omega)]
    exact a6
  · unfold TID at a9 ⊢
    rw [j1 0 120 (by omega), i1 0 19 (by omega) (by omega), i3, i4]
    exact a9
  · exact cti_cg b1 (fun b i _ _ => by rw [e64]) e65 (fun z b i _ _ _ => by rw [j1 0 67 (by omega)]) (fun z b _ _ => by rw [j1 0 68 (by omega)]) (fun z k i _ _ _ => by rw [e47]) (fun z hz => (b2 z hz).2.1.2.1) a1.2
  · unfold MKr at b3 ⊢
    rw [j1 0 125 (by omega), j1 0 126 (by omega)]
    exact b3
theorem co_irr (h : CO n T e I J ms rw gv cl H A B K lg fb jl fq mk) (hI : irI I I') (hJ : irJ J J') : CO n T e I' J' ms rw gv cl H A B K lg fb jl fq mk := co_irz h hI hJ
theorem nO_i {k : Nat} (hk : ¬ k = 0) : nO k = nI (k - 1) := if_neg hk
/-- what a step down looks at -/
theorem co_gbr (h : CO n T e I J ms rw gv cl H A B K lg fb jl fq mk) (hx : x < n) (hU : J 0 65 x = nI 1) : GBr n T x e e I J (lg x) (fb x) (fq x) (mk x) ms := by
  obtain ⟨a1, a2, a3, a4, a5, a6, a7, a8, a9, b1, b2, b3, b4⟩ := h
  obtain ⟨c1, c2, c3, c4, c5, c6⟩ := a5 x hx
  have hj := ((a6 x hx).2.1 hU).1
  have := pl_len a7 a1.2
  refine ⟨c5, c4, c3, a2, ⟨c1, fun z hz => (a5 z hz).2.1, by have := a4.1; omega, a4.2.2.2.1, a4.2.1⟩, by omega, fun b hb => ((b1.2.2.2.2 x b hx (y2.mpr hb)).2).2, fun r hr => ⟨⟨mrr n J r, (mst_ok a1.1 a1.2 hx (by rw [hj]; decide)).1, (mst_ok a1.1 a1.2 hx (by rw [hj]; decide)).2⟩, ⟨H x r, (c6 r hr).1.1, (c6 r hr).1.2⟩, ?_⟩⟩
  by_cases q : B x r = 0
  · left
    rw [(c6 r hr).2.2.1.2, q]; rfl
  · right
    exact ⟨B x r - 1, by have := (c6 r hr).2.2.1.1; omega, by rw [(c6 r hr).2.2.1.2, nO_i q], fun _ => ptr_of b1 hx hU⟩
end CORE1
