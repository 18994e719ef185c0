
section LAY8
variable {n T e x : Nat} {I J I' J' : am_I} {H A B : Nat → Nat → Nat} {K : Nat → Nat → Int} {lg fb jl : Nat → List Nat} {fq mk : Nat → Nat} {g : Nat → Nat}
/-- the locks as they are laid anew -/
theorem pl_lay {U : Nat → Int32} {mr : Nat → Nat} {gv : Nat → Nat → Nat} (hgv : ∀ r, r < 136 → gv r = hv H n r) (hA2 : ∀ z r, z < n → r < 136 → A z r ≤ 2) (hu : ∀ z r r', z < n → r < 136 → r' < 136 → U z = nI 1 → ¬ A z r = 0 → ¬ A z r' = 0 → r = r') (hd : ∀ z r, z < n → r < 136 → ¬ U z = nI 1 → H z r = 0 ∧ A z r = 0) (hal : ∀ r z z', r < 136 → z < n → z' < n → ¬ z = z' → H z r = 2 → H z' r = 0) (hm : ∀ r, r < 136 → ¬ U (mr r) = nI 1 → ∀ z, z < n → ¬ U z = nI 1) : PL n U mr [] (arow A n) gv (fun _ _ => 0) H A (fun _ _ => 0) := by
  have hv1 : ∀ r y, r < 136 → y < n → gv r y = H y r := fun r y hr hy => by rw [hgv r hr]; exact if_pos hy
  refine ⟨fun m hm => by simp at hm, fun z r hz hr u1 u2 => ⟨?_, fun m q => ((arow_mem n).mp q).2.1⟩, fun z r hz hr u1 u2 => ⟨rfl, fun q => absurd rfl q, fun ⟨m, q, _⟩ => by simp at q, fun q => absurd rfl q⟩, fun z r hz hr u1 u2 => ⟨by rw [hv1 r z hr hz]; exact Nat.le_refl _, fun _ ⟨m, q, _⟩ => by simp at q, fun _ _ => hv1 r z hr hz⟩, ⟨fun z r r' m m' hr hr' q1 q2 => ?_, fun z r hr => ?_, hu, fun r e hr q => ?_, fun z r hz hr => hA2 z r hz hr⟩, fun r y z hr hy hz hne q => ?_, fun r hr u => ?_, List.Pairwise.nil⟩
  · rw [List.countP_nil, arow_cnt, if_pos hz, Nat.zero_add]
  · obtain ⟨p1, p2, p3⟩ := (arow_mem n).mp q1
    obtain ⟨s1, s2, s3⟩ := (arow_mem n).mp q2
    have uz : U z = nI 1 := Classical.byContradiction fun c => p3 (p2.trans (hd z r p1 hr c).2)
    exact hu z r r' p1 hr hr' uz (fun c => p3 (p2.trans c)) (fun c => s3 (s2.trans c))
  · rw [arow_cnt]
    by_cases c : z < n
    · rw [if_pos c]; exact nz1_le
    · rw [if_neg c]; omega
  · obtain ⟨z, m⟩ := e
    obtain ⟨p1, p2, p3⟩ := (arow_mem n).mp q
    have := hA2 z r p1 hr
    exact ⟨p1, by show m = 1 ∨ m = 2; omega⟩
  · rw [hv1 r y hr hy] at q
    rw [hv1 r z hr hz]
    exact hal r y z hr hy hz hne q
  · have h0 := hm r hr u
    refine ⟨?_, fun y hy => ⟨by rw [hv1 r y hr hy]; exact (hd y r hy hr (h0 y hy)).1, rfl⟩⟩
    refine List.eq_nil_iff_forall_not_mem.mpr fun e q => ?_
    obtain ⟨z, m⟩ := e
    obtain ⟨p1, p2, p3⟩ := (arow_mem n).mp q
    exact p3 (p2.trans (hd z r p1 hr (h0 z p1)).2)
/-- how all stands ahead of the laying anew -/
def LPr (n T e : Nat) (I J : am_I) (H A B : Nat → Nat → Nat) (K : Nat → Nat → Int) (lg fb jl : Nat → List Nat) (fq mk : Nat → Nat) : Prop :=
  (0 < n ∧ n ≤ 4) ∧ (I 0 9 4 = J 0 60 39 ∧ I 0 0 7 = nI T ∧ J 0 60 2 = nI T ∧ T ≤ 100000 ∧ (∀ w, w < 16 → ∃ d : Nat, 1 ≤ d ∧ d ≤ 20 ∧ I 0 10 w = nI d ∧ J 0 107 w = nI d) ∧ (∀ z, z < n → I z 40 5 = J 0 65 z ∧ (J 0 65 z = nI 0 ∨ J 0 65 z = nI 1)) ∧ J 0 60 1 = nI n) ∧ BKr I J e ∧ (∀ z, z < n → NDr z I J (lg z) (fb z) (fq z) (mk z) (H z) (A z) (B z))
  ∧ (∀ z, z < n → (J 0 65 z = nI 1 ∧ J 0 66 z = nI 1 ∧ (∀ r, r < 136 → K z r = H z r) ∧ (fb z = [] → jl z = [])) ∨ (J 0 65 z = nI 0 ∧ J 0 66 z = nI 0 ∧ lg z = [] ∧ fb z = [] ∧ jl z = [] ∧ (∀ r, K z r = 0) ∧ (∀ r, r < 136 → H z r = 0 ∧ A z r = 0) ∧ J 0 71 z = nI 0 ∧ ∀ b, b < 640 → J 0 68 (640 * z + b) = nI 0))
  ∧ (∀ k, k < 10240 → I 0 1 k = J 0 64 k) ∧ TID I J ∧ CTI n e lg fb jl K I J ∧ (∀ z, z < n → FJ z (dD J) (fb z) (jl z) (fq z) (fwI I z)) ∧ MKr n e J fb fq mk
  ∧ (∀ z r, z < n → r < 136 → A z r ≤ 2) ∧ (∀ z r r', z < n → r < 136 → r' < 136 → J 0 65 z = nI 1 → ¬ A z r = 0 → ¬ A z r' = 0 → r = r')
/-- a node in the middle of a laying anew -/
def GM (n T e i : Nat) (g : Nat → Nat) (I J : am_I) : Prop := ∃ rw gv cl A jl, COg n T e rw gv cl A jl I J ∧ gv 136 = g ∧ (∀ z, z < i → NS z I J) ∧ (∀ z, i ≤ z → z < n → NS0 z I J) ∧ WL I J
theorem ns0_cg {z : Nat} (oI : ∀ b, b = 48 ∨ (52 ≤ b ∧ b ≤ 55) → I' z b = I z b) (j7 : ∀ j r, 76 ≤ j → j ≤ 81 → ¬ j = 78 → ¬ j = 80 → r < 136 → J' 0 j (136 * z + r) = J 0 j (136 * z + r)) (j8 : ∀ j, j = 65 ∨ (82 ≤ j ∧ j ≤ 93) → J' 0 j z = J 0 j z) (hw : ∀ r, r < 136 → WP z J' r) (h : NS0 z I J) : NS0 z I' J' := by
  obtain ⟨hP, hS, hst⟩ := h
  refine ⟨fun r hr => ⟨by rw [oI 52 (by omega), j7 79 r (by omega) (by omega) (by omega) (by omega) hr]; exact (hP r hr).1, hw r hr⟩, ?_, ?_⟩
  · unfold TS at hS ⊢
    rw [oI 55 (by omega), j8 87 (by omega), j8 88 (by omega), j8 89 (by omega), j8 90 (by omega), j8 91 (by omega), j8 92 (by omega)]
    exact ⟨fun c hc => by rw [j8 (82 + c) (by omega)]; exact hS.1 c hc, hS.2⟩
  · rw [j8 87 (by omega)]
    rcases hst with ⟨q1, ls, q2⟩ | ⟨q1, q2⟩
    · obtain ⟨g1, g2, g3, g4, g5, g6, g7, g8, g9⟩ := q2
      refine Or.inl ⟨q1, ls, by rw [j8 65 (by omega)]; exact g1, by rw [j8 82 (by omega), j8 83 (by omega), j8 84 (by omega), j8 85 (by omega), j8 86 (by omega)]; exact g2, ⟨?_, fun c hc => ?_⟩, by rw [oI 55 (by omega)]; exact g4, fun c hc q => ?_, fun c hc q => ?_, by rw [oI 55 (by omega)]; exact g7, by rw [j8 82 (by omega), oI 55 (by omega), j8 93 (by omega)]; exact g8, by rw [j8 82 (by omega), j8 93 (by omega)]; exact g9⟩
      · have := g3.1
        unfold LSc at this ⊢
        rw [oI 48 (by omega), oI 53 (by omega)]
        exact this
      · rw [oI 54 (by omega), j7 81 c (by omega) (by omega) (by omega) (by omega) hc]
        exact g3.2 c hc
      · rw [j7 79 c (by omega) (by omega) (by omega) (by omega) hc] at q
        rw [j7 76 c (by omega) (by omega) (by omega) (by omega) hc, j7 81 c (by omega) (by omega) (by omega) (by omega) hc]
        exact g5 c hc q
      · rw [j7 77 c (by omega) (by omega) (by omega) (by omega) hc] at q
        rw [j7 76 c (by omega) (by omega) (by omega) (by omega) hc, j7 81 c (by omega) (by omega) (by omega) (by omega) hc, j7 79 c (by omega) (by omega) (by omega) (by omega) hc, oI 55 (by omega)]
        obtain ⟨w1, w2, w3, w4, w5⟩ := g6 c hc q
        exact ⟨w1, w2, w3, fun c' h1 h2 => by rw [j7 79 c' (by omega) (by omega) (by omega) (by omega) (by omega)]; exact w4 c' h1 h2, w5⟩
    · obtain ⟨w1, w2, w3, w4⟩ := q2
      refine Or.inr ⟨q1, by rw [oI 55 (by omega)]; exact w1, by rw [oI 48 (by omega)]; exact w2, by rw [oI 54 (by omega)]; exact w3, fun r hr => ?_⟩
      rw [j7 79 r (by omega) (by omega) (by omega) (by omega) hr, j7 77 r (by omega) (by omega) (by omega) (by omega) hr]
      exact w4 r hr
theorem ns0_fr {z : Nat} (hz : z < 4) (hne : ¬ z = x) (hx : x < 4) (hI : FOI x I I') (hJ : FOJ x J J') (h : NS0 z I J) : NS0 z I' J' ∧ cal J' z = cal J z := by
  have j7 : ∀ j r, 76 ≤ j → j ≤ 81 → r < 136 → J' 0 j (136 * z + r) = J 0 j (136 * z + r) := fun j r q1 q2 q3 => hJ.2.2.1 j _ q1 q2 (by omega)
  have j8 : ∀ j, j = 65 ∨ (82 ≤ j ∧ j ≤ 93) → J' 0 j z = J 0 j z := fun j q => by
    by_cases c : j = 65 ∨ (82 ≤ j ∧ j ≤ 86)
    · rw [hJ.1 0 j (by omega)]
    · exact hJ.2.2.2 j z (by omega) hne
  refine ⟨ns0_cg (fun b q => hI z b (by omega) (by omega)) (fun j r q1 q2 _ _ q3 => j7 j r q1 q2 q3) j8 (fun r hr => ?_) h, by unfold cal; rw [j8 87 (by omega)]⟩
  have := (h.1 r hr).2
  unfold WP WT at this ⊢
  rw [j7 79 r (by omega) (by omega) hr, j7 80 r (by omega) (by omega) hr, j7 78 r (by omega) (by omega) hr, j7 76 r (by omega) (by omega) hr, hJ.2.2.2 72 z (by omega) hne]
  exact this
theorem cal_le {k : Nat} : ∀ m, k < m → cal J k ≤ cs m J
  | 0, h => absurd h (by omega)
  | m + 1, h => by
    show cal J k ≤ cs m J + cal J m
    by_cases c : k = m
    · subst c; omega
    · have := cal_le (k := k) m (by omega); omega
/-- the next node goes on -/
theorem gm_st {i fur : Nat} (hi : i < n) (hG : GM n T e i g I J) (he : e + cs n J ≤ 190) : ∃ I' J' e', gX10_goOn n i I = some I' ∧ bX11_layAnew_189 n (fur + 1) (nI i) J = bX11_layAnew_189 n fur (nI (i + 1)) J' ∧ GM n T e' (i + 1) g I' J' ∧ e' + cs n J' = e + cs n J ∧ J' 0 60 0 = J 0 60 0 := by
  obtain ⟨rw, gv, cl, A, jl, hco, hg, hns, hns0, hW⟩ := hG
  have hco' := hco
  obtain ⟨ms, H, B, K, lg, fb, fq, mk, h⟩ := hco'
  have hn := h.1.2
  have h1 : J 0 60 1 = nI n := h.2.1.2.2.2.2.2.2.2.2.2.2
  have gi : am_inb (nI i) 4 = true := by rw [z_inb (by omega)]; exact decide_eq_true (by omega)
  obtain ⟨u1, u2⟩ := h.2.1.2.2.2.2.2.2.2.2.2.1 i hi
  have h0 := hns0 i (Nat.le_refl _) hi
  by_cases hU : J 0 65 i = nI 1
  · have := cal_le (J := J) n hi
    obtain ⟨I', J', e', k1, k2, k3, k4, ⟨A', k5⟩, k6, k7⟩ := p_go hi hco h0 (by omega)
    refine ⟨I', J', e', k1, ?_, ⟨rw, gv, cl, A', jl, k5, hg, fun z hz => ?_, fun z q1 q2 => (ns0_fr (by omega) (by omega) (by omega) k3 k4 (hns0 z (by omega) q2)).1, wl_fo hW k3 k4⟩, cs_up k7 n hi (fun z hz hne => by unfold cal; rw [k4.2.2.2 87 z (by omega) hne]), k4.2.1 0 (by omega)⟩
    · conv => lhs; unfold bX11_layAnew_189
      dsimp only
      rw [if_neg (by rw [h1, z_le (by omega) (by omega)]; omega), am_gd_of gi, z_clamp (by omega), if_neg (show ¬ J 0 65 i = 0 by rw [hU]; decide), k2, Option.bind_some]
      unfold bX11_layAnew_211
      rw [nI_add]
    · by_cases c : z = i
      · rw [c]; exact k6
      · exact (ns_fr (by omega) c (by omega) k3 k4 (hns z (by omega))).1
  · have h65 : J 0 65 i = nI 0 := u2.resolve_right hU
    have hnc : ¬ J 0 87 i = nI 1 := fun q => by
      rcases h0.2.2 with ⟨-, ls, w⟩ | w
      · exact hU w.1
      · exact w.1 q
    have hNS : NS i I J := ⟨h0.1, h0.2.1, h0.2.2.elim (fun w => absurd w.1 hnc) Or.inr⟩
    obtain ⟨f, hf, -⟩ := fu_ex
    refine ⟨I, J, e, ?_, ?_, ⟨rw, gv, cl, A, jl, hco, hg, fun z hz => ?_, fun z q1 q2 => hns0 z (by omega) q2, hW⟩, rfl, rfl⟩
    · rw [gX10_goOn, bX10_goOn_0, hf]
      exact c_end1 (by omega) (by rw [h0.2.1.2.1]; exact hnc)
    · conv => lhs; unfold bX11_layAnew_189
      dsimp only
      rw [if_neg (by rw [h1, z_le (by omega) (by omega)]; omega), am_gd_of gi, z_clamp (by omega), if_pos (show J 0 65 i = 0 from h65)]
      unfold bX11_layAnew_211
      rw [nI_add]
    · by_cases c : z = i
      · rw [c]; exact hNS
      · exact hns z (by omega)

theorem gol_r {T S : Nat} {g : Nat → Nat} {l2 : Int32} (hn : n ≤ 4) (hS : S ≤ 190) : ∀ (q i fu fur e : Nat) (I J : am_I), i + q = n → q < fu → q < fur → GM n T e i g I J → e + cs n J = S → ∃ I' J' e', bX10_recover_116 n fu l2 (nI i) I = some (.inl (some l2), I') ∧ bX11_layAnew_189 n fur (nI i) J = some J' ∧ GS n T e' g I' J' ∧ e' + cs n J' = S ∧ J' 0 60 0 = J 0 60 0 := by
  intro q
  induction q with
  | zero =>
    intro i fu fur e I J hi hf hfr hG he
    obtain ⟨fu, rfl⟩ : ∃ f, fu = f + 1 := ⟨fu - 1, by omega⟩
    obtain ⟨fur, rfl⟩ : ∃ f, fur = f + 1 := ⟨fur - 1, by omega⟩
    obtain rfl : i = n := by omega
    obtain ⟨rw, gv, cl, A, jl, ⟨ms, H, B, K, lg, fb, fq, mk, h⟩, hg, hns, -, hW⟩ := hG
    have h1 : J 0 60 1 = nI i := h.2.1.2.2.2.2.2.2.2.2.2.2
    refine ⟨I, J, e, ?_, ?_, ⟨rw, gv, cl, A, jl, ⟨ms, H, B, K, lg, fb, fq, mk, h⟩, hg, hns, hW⟩, he, rfl⟩
    · conv => lhs; unfold bX10_recover_116
      dsimp only
      rw [if_pos (by rw [z_le (by omega) (by omega)]; omega)]
    · conv => lhs; unfold bX11_layAnew_189
      dsimp only
      rw [if_pos (by rw [h1, z_le (by omega) (by omega)]; omega)]
  | succ q ih =>
    intro i fu fur e I J hi hf hfr hG he
    obtain ⟨fu, rfl⟩ : ∃ f, fu = f + 1 := ⟨fu - 1, by omega⟩
    obtain ⟨fur, rfl⟩ : ∃ f, fur = f + 1 := ⟨fur - 1, by omega⟩
    obtain ⟨I1, J1, e1, k1, k2, k3, k4, k5⟩ := gm_st (fur := fur) (by omega) hG (by omega)
    obtain ⟨I2, J2, e2, w1, w2, w3, w4, w5⟩ := ih (i + 1) fu fur e1 I1 J1 (by omega) (by omega) (by omega) k3 (by omega)
    refine ⟨I2, J2, e2, ?_, by rw [k2]; exact w2, w3, w4, w5.trans k5⟩
    conv => lhs; unfold bX10_recover_116
    dsimp only
    rw [if_neg (by rw [z_le (by omega) (by omega)]; omega), am_gd_of (by rw [z_inb (by omega)]; exact decide_eq_true (by omega)), z_clamp (by omega), k1, Option.bind_some, nI_add]
    exact w1

theorem gol_s {T S : Nat} {g : Nat → Nat} {l2 : Int32} (hn : n ≤ 4) (hS : S ≤ 190) : ∀ (q i fu fur e : Nat) (I J : am_I), i + q = n → q < fu → q < fur → GM n T e i g I J → e + cs n J = S → ∃ I' J' e', bX10_start_72 n fu (nI i) I = some (.inl none, I') ∧ bX11_layAnew_189 n fur (nI i) J = some J' ∧ GS n T e' g I' J' ∧ e' + cs n J' = S ∧ J' 0 60 0 = J 0 60 0 := by
  intro q
  induction q with
  | zero =>
    intro i fu fur e I J hi hf hfr hG he
    obtain ⟨fu, rfl⟩ : ∃ f, fu = f + 1 := ⟨fu - 1, by omega⟩
    obtain ⟨fur, rfl⟩ : ∃ f, fur = f + 1 := ⟨fur - 1, by omega⟩
    obtain rfl : i = n := by omega
    obtain ⟨rw, gv, cl, A, jl, ⟨ms, H, B, K, lg, fb, fq, mk, h⟩, hg, hns, -, hW⟩ := hG
    have h1 : J 0 60 1 = nI i := h.2.1.2.2.2.2.2.2.2.2.2.2
    refine ⟨I, J, e, ?_, ?_, ⟨rw, gv, cl, A, jl, ⟨ms, H, B, K, lg, fb, fq, mk, h⟩, hg, hns, hW⟩, he, rfl⟩
    · conv => lhs; unfold bX10_start_72
      dsimp only
      rw [if_pos (by rw [z_le (by omega) (by omega)]; omega)]
    · conv => lhs; unfold bX11_layAnew_189
      dsimp only
      rw [if_pos (by rw [h1, z_le (by omega) (by omega)]; omega)]
  | succ q ih =>
    intro i fu fur e I J hi hf hfr hG he
    obtain ⟨fu, rfl⟩ : ∃ f, fu = f + 1 := ⟨fu - 1, by omega⟩
    obtain ⟨fur, rfl⟩ : ∃ f, fur = f + 1 := ⟨fur - 1, by omega⟩
    obtain ⟨I1, J1, e1, k1, k2, k3, k4, k5⟩ := gm_st (fur := fur) (by omega) hG (by omega)
    obtain ⟨I2, J2, e2, w1, w2, w3, w4, w5⟩ := ih (i + 1) fu fur e1 I1 J1 (by omega) (by omega) (by omega) k3 (by omega)
    refine ⟨I2, J2, e2, ?_, by rw [k2]; exact w2, w3, w4, w5.trans k5⟩
    conv => lhs; unfold bX10_start_72
    dsimp only
    rw [if_neg (by rw [z_le (by omega) (by omega)]; omega), am_gd_of (by rw [z_inb (by omega)]; exact decide_eq_true (by omega)), z_clamp (by omega), k1, Option.bind_some, nI_add]
    exact w1

end LAY8
