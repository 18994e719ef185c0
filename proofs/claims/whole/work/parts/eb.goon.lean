
/-- how a node stands behind its going on -/
def GO (n T x e : Nat) (rw : Nat → List (Nat × Nat)) (gv cl : Nat → Nat → Nat) (jl : Nat → List Nat) (I J I' J' : am_I) : Prop :=
  FOI x I I' ∧ FOJ x J J' ∧ PW x I' J' ∧ TS x I' J' ∧ (((∃ A', COg n T e rw gv cl A' jl I' J') ∧ J' 0 87 x = nI 1 ∧ ∃ ls', CGx x I' J' ls' ∧ WWx x I' J' ls') ∨ ((∃ A', COg n T (e + 1) rw gv cl A' jl I' J') ∧ ¬ J' 0 87 x = nI 1 ∧ NCx x I' J'))
section GOON
variable {n T e x : Nat} {rw : Nat → List (Nat × Nat)} {gv cl : Nat → Nat → Nat} {jl : Nat → List Nat}
theorem GO.l {I J I1 J1 I' J' : am_I} (hI : FOI x I I1) (hJ : FOJ x J J1) (h : GO n T x e rw gv cl jl I1 J1 I' J') : GO n T x e rw gv cl jl I J I' J' := ⟨hI.tr h.1, hJ.tr h.2.1, h.2.2⟩
theorem smd_272 {I J : am_I} {ls : List Nat} (h : LSr x I J ls) : smd (J 0 81) x 136 ≤ 272 := by
  have := smd_le (f := J 0 81) (x := x) 136 (fun c hc => by
    obtain ⟨-, -, v, v1, v2⟩ := h.2 c hc
    rw [v2, z_clamp (by omega)]; exact v1)
  omega
/-- the log's flag is taken away -/
theorem ts_93 {I J : am_I} (h : TS x I J) : TS x (am_up I x 55 11 (nI 0)) (am_up J 0 93 x (nI 0)) := by
  obtain ⟨s1, s2, s3, s4, s5, s6, s7, s8⟩ := h
  have o : ∀ j, ¬ j = 93 → am_up J 0 93 x (nI 0) 0 j = J 0 j := fun j q => z_upj _ _ _ _ _ _ _ (by omega)
  have k : ∀ c, ¬ c = 11 → am_up I x 55 11 (nI 0) x 55 c = I x 55 c := fun c q => by rw [z_upk, if_neg q]
  unfold TS
  rw [o 87 (by omega), o 88 (by omega), o 89 (by omega), o 90 (by omega), o 91 (by omega), o 92 (by omega), k 5 (by omega), k 6 (by omega), k 7 (by omega), k 8 (by omega), k 9 (by omega), k 10 (by omega)]
  exact ⟨fun c hc => by rw [k c (by omega), o (82 + c) (by omega)]; exact s1 c hc, s2, s3, s4, s5, s6, s7, s8⟩
theorem cg_93 {I J : am_I} {ls : List Nat} (h : CGx x I J ls) : CGx x (am_up I x 55 11 (nI 0)) (am_up J 0 93 x (nI 0)) ls := by
  obtain ⟨g1, g2, g3, g4, g5, g6, g7, g8, g9⟩ := h
  have o : ∀ j, ¬ j = 93 → am_up J 0 93 x (nI 0) 0 j = J 0 j := fun j q => z_upj _ _ _ _ _ _ _ (by omega)
  have k : ∀ c, ¬ c = 11 → am_up I x 55 11 (nI 0) x 55 c = I x 55 c := fun c q => by rw [z_upk, if_neg q]
  have k1 : am_up I x 55 11 (nI 0) x 55 11 = nI 0 := by rw [z_upk, if_pos rfl]
  have j3 : am_up J 0 93 x (nI 0) 0 93 x = nI 0 := by rw [z_upk, if_pos rfl]
  have i : ∀ j, ¬ j = 55 → am_up I x 55 11 (nI 0) x j = I x j := fun j q => z_upj _ _ _ _ _ _ _ (by omega)
  unfold CGx LSr LSc
  rw [o 65 (by omega), o 82 (by omega), o 83 (by omega), o 84 (by omega), o 85 (by omega), o 86 (by omega), o 79 (by omega), o 76 (by omega), o 81 (by omega), o 77 (by omega), k 10 (by omega), k1, j3, i 48 (by omega), i 53 (by omega), i 54 (by omega)]
  exact ⟨g1, g2, g3, g4, g5, fun c hc q => ⟨(g6 c hc q).1, (g6 c hc q).2.1, (g6 c hc q).2.2.1, (g6 c hc q).2.2.2.1, rfl⟩, Or.inl rfl, fun _ => rfl, fun q => ⟨rfl, (g9 q).2⟩⟩
theorem pw_93 {I J : am_I} (h : PW x I J) : PW x (am_up I x 55 11 (nI 0)) (am_up J 0 93 x (nI 0)) := fun r hr => by
  have := h r hr
  have o : ∀ j, ¬ j = 93 → am_up J 0 93 x (nI 0) 0 j = J 0 j := fun j q => z_upj _ _ _ _ _ _ _ (by omega)
  unfold WP WT at this ⊢
  rw [o 79 (by omega), o 80 (by omega), o 78 (by omega), o 76 (by omega), o 72 (by omega), z_upj _ _ _ _ _ _ _ (by omega)]
  exact this
theorem fo_93 {I J : am_I} : FOI x I (am_up I x 55 11 (nI 0)) ∧ FOJ x J (am_up J 0 93 x (nI 0)) := by
  refine ⟨fun a b q1 q2 => z_upj _ _ _ _ _ _ _ (by omega), fun a b q => z_upj _ _ _ _ _ _ _ (by omega), fun k _ => by rw [z_upj _ _ _ _ _ _ _ (by omega)], fun j k q1 q2 _ => by rw [z_upj _ _ _ _ _ _ _ (by omega)], fun j k q1 q2 => ?_⟩
  by_cases c : j = 93
  · rw [c, z_upk, if_neg q2]
  · rw [z_upj _ _ _ _ _ _ _ (by omega)]
/-- all is pinned, a try begins: what it needs -/
theorem go_pre {A : Nat → Nat → Nat} {I J I2 J2 : am_I} {ls : List Nat} (hx : x < n) (hU : J 0 65 x = nI 1) (hco : COg n T e rw gv cl A jl I J) (hP : PW x I J) (hS : TS x I J) (hG : CGx x I J ls) (h11 : I x 55 11 = nI 0) (hN : ¬ J 0 82 x = nI 10) (hPN : PN x ls 136 I J I2 J2) :
    ∃ I3 J3 ms H B K lg fb fq mk, I3 = am_up I2 x 55 9 (I2 x 55 9 + nI 1) ∧ J3 = am_up J2 0 91 x (J2 0 91 x + nI 1) ∧ CO n T e I3 J3 ms rw gv cl H A B K lg fb jl fq mk ∧ J3 0 65 x = nI 1 ∧ PW x I3 J3 ∧ TS x I3 J3 ∧ LSr x I3 J3 ls ∧ I3 x 55 10 = nI ls.length ∧ J3 0 92 x = nI ls.length ∧ (∀ c, c < 136 → (J3 0 79 (136 * x + c) = nI 1 ↔ c ∈ ls)) ∧ (∀ c, c ∈ ls → ¬ J3 0 76 (136 * x + c) < J3 0 81 (136 * x + c)) ∧ (∀ r, r < 136 → J3 0 77 (136 * x + r) = nI 0) ∧ TC n x (K x) I3 J3 ∧ I3 x 55 11 = nI 0 ∧ J3 0 93 x = nI 0 ∧ J3 0 81 = J 0 81 ∧ J3 0 87 = J 0 87 ∧ J3 0 82 = J 0 82 ∧ J3 0 72 = J 0 72 ∧ FOI x I I3 ∧ FOJ x J J3
      ∧ ∃ I' J', gX9_run n x I3 = some I' ∧ gX11_attempt n (nI x) J3 = some J' ∧ (EN x (K x) (sST n lg fb jl I3 J3) I3 J3 I' J' ∨ DN x (K x) (sST n lg fb jl I3 J3) I3 J3 (nI 1) I' J') := by
  obtain ⟨ms, H, B, K, lg, fb, fq, mk, h⟩ := hco
  have hn := h.1.2
  obtain ⟨g1, g2, g3, g4, g5, g6, g7, g8, g9⟩ := hG
  have hPW2 := pn_pw hP hPN
  have oI2 : ∀ a b, ¬ (a = x ∧ (b = 52 ∨ b = 55)) → am_up I2 x 55 9 (I2 x 55 9 + nI 1) a b = I a b := fun a b q => (z_upj _ _ _ _ _ _ _ (by omega)).trans (hPN.1 a b (by omega))
  have oJ2 : ∀ a b, ¬ (a = 0 ∧ (b = 79 ∨ b = 91)) → am_up J2 0 91 x (J2 0 91 x + nI 1) a b = J a b := fun a b q => (z_upj _ _ _ _ _ _ _ (by omega)).trans (hPN.2.1 a b (by omega))
  have k55 : ∀ k, am_up I2 x 55 9 (I2 x 55 9 + nI 1) x 55 k = if k = 9 then I x 55 9 + nI 1 else I x 55 k := fun k => by rw [z_upk, hPN.1 x 55 (by omega)]
  have k91 : ∀ k, am_up J2 0 91 x (J2 0 91 x + nI 1) 0 91 k = if k = x then J 0 91 x + nI 1 else J 0 91 k := fun k => by rw [z_upk, hPN.2.1 0 91 (by omega)]
  have e79 : am_up J2 0 91 x (J2 0 91 x + nI 1) 0 79 = J2 0 79 := z_upj _ _ _ _ _ _ _ (by omega)
  have e52 : am_up I2 x 55 9 (I2 x 55 9 + nI 1) x 52 = I2 x 52 := z_upj _ _ _ _ _ _ _ (by omega)
  have hco := co_irr (co_irr h (pn_irI hPN) (pn_irJ hPN)) (irI_up (x := x) (j := 55) (k := 9) (v := I2 x 55 9 + nI 1) (by omega)) (irJ_up (j := 91) (k := x) (v := J2 0 91 x + nI 1) (by omega))
  have hpin : ∀ c, c < 136 → (J2 0 79 (136 * x + c) = nI 1 ↔ c ∈ ls) := fun c hc => by
    rw [hPN.2.2.2.1 c hc]
    by_cases q : c ∈ ls
    · rw [if_pos ⟨q, hc⟩]; exact ⟨fun _ => q, fun _ => rfl⟩
    · rw [if_neg (fun w => q w.1)]; exact ⟨fun w => absurd (g5 c hc w).1 q, fun w => absurd w q⟩
  have hge : ∀ c, c ∈ ls → ¬ J 0 76 (136 * x + c) < J 0 81 (136 * x + c) := fun c hc => by
    have hc6 := g3.1.2.1 c hc
    rcases (hP c hc6).2 with w | w
    · exact (g5 c hc6 w.1).2
    · exact (hPN.2.2.2.2.2 c hc hc6 w.1).2
  have h77 : ∀ r, r < 136 → J 0 77 (136 * x + r) = nI 0 := fun r hr => Classical.byContradiction fun q => by
    obtain ⟨w1, w2, w3, w4, w5⟩ := g6 r hr q
    exact hge r w1 w3
  have hS3 : TS x (am_up I2 x 55 9 (I2 x 55 9 + nI 1)) (am_up J2 0 91 x (J2 0 91 x + nI 1)) := by
    obtain ⟨s1, s2, s3, s4, s5, s6, s7, s8⟩ := hS
    unfold TS
    rw [k91, if_pos rfl, k55, k55, k55, k55, k55, k55, if_neg (by omega), if_neg (by omega), if_neg (by omega), if_pos rfl, if_neg (by omega), if_neg (by omega), oJ2 0 87 (by omega), oJ2 0 88 (by omega), oJ2 0 89 (by omega), oJ2 0 90 (by omega), oJ2 0 92 (by omega)]
    exact ⟨fun c hc => by rw [k55, if_neg (by omega), oJ2 0 (82 + c) (by omega)]; exact s1 c hc, s2, s3, s4, by rw [s5], s6, s7, s8⟩
  have hTC : TC n x (K x) (am_up I2 x 55 9 (I2 x 55 9 + nI 1)) (am_up J2 0 91 x (J2 0 91 x + nI 1)) := by
    refine ⟨hx, hn, fun r hr => ?_⟩
    rw [e79, e52]
    obtain ⟨c1, c2, c3, c4, c5, c6⟩ := h.2.2.2.2.1 x hx
    refine ⟨?_, hPN.2.2.1 r hr, ?_, ?_⟩
    · rw [oI2 x 49 (by omega), oJ2 0 76 (by omega)]; exact (c5 r hr).1
    · rw [oJ2 0 76 (by omega), (c6 r hr).1.2, ((h.2.2.2.2.2.1 x hx).2.1 hU).2.1 r hr]
      have := (c6 r hr).1.1
      rw [nI_toInt (by omega)]
    · rcases (hPW2 r hr).2 with w | w
      · exact Or.inr w.1
      · exact Or.inl w.1
  have hND := hco.2.2.2.2.1 x hx
  have hRT := rt_of hco.2.2.2.2.2.2.2.2.2.1 hx (by rw [oJ2 0 65 (by omega)]; exact hU) hND.2.2.2.1 hco.2.2.2.2.2.2.2.1 hco.2.2.2.2.2.2.2.2.1.1 hco.2.2.2.2.2.2.2.2.1.2.1 hco.2.2.2.2.2.2.2.2.1.2.2.1 hco.2.2.2.2.2.2.2.2.1.2.2.2
  have hVA : VA (am_up J2 0 91 x (J2 0 91 x + nI 1) 0 82 x) (am_up J2 0 91 x (J2 0 91 x + nI 1) 0 83 x) (am_up J2 0 91 x (J2 0 91 x + nI 1) 0 84 x) (am_up J2 0 91 x (J2 0 91 x + nI 1) 0 85 x) (am_up J2 0 91 x (J2 0 91 x + nI 1) 0 86 x) := by
    rw [oJ2 0 82 (by omega), oJ2 0 83 (by omega), oJ2 0 84 (by omega), oJ2 0 85 (by omega), oJ2 0 86 (by omega)]; exact g2
  obtain ⟨I', J', r1, r2, r3⟩ := run_att (n := n) hTC (fun r hr => by
    rw [((h.2.2.2.2.2.1 x hx).2.1 hU).2.1 r hr]
    have := (h.2.2.2.2.1 x hx).2.2.2.2.2 r hr
    have := this.1.1
    omega) hRT (hco.2.2.2.2.2.2.2.2.2.1.1 L2).2.1 ((hco.2.2.2.2.2.2.2.2.2.1.1 L2).2.2.up (by have := hco.2.2.2.1.1; omega)) (hS3.1 0 (by omega)) (hS3.1 1 (by omega)) (hS3.1 2 (by omega)) (hS3.1 3 (by omega)) (hS3.1 4 (by omega)) hVA (by rw [oJ2 0 82 (by omega)]; exact hN)
  refine ⟨_, _, ms, H, B, K, lg, fb, fq, mk, rfl, rfl, hco, by rw [oJ2 0 65 (by omega)]; exact hU, fun r hr => ?_, hS3, ?_, by rw [k55, if_neg (by omega)]; exact g4, ?_, fun c hc => by rw [e79]; exact hpin c hc, fun c hc => by rw [oJ2 0 76 (by omega), oJ2 0 81 (by omega)]; exact hge c hc, fun r hr => by rw [oJ2 0 77 (by omega)]; exact h77 r hr, hTC, by rw [k55, if_neg (by omega)]; exact h11, ?_, oJ2 0 81 (by omega), oJ2 0 87 (by omega), oJ2 0 82 (by omega), oJ2 0 72 (by omega), fun a b q1 q2 => oI2 a b (by omega), ⟨fun a b q => oJ2 a b (by omega), fun k q => by rw [oJ2 0 60 (by omega)], fun j k q1 q2 q3 => ?_, fun j k q1 q2 => ?_⟩, I', J', r1, r2, r3⟩
  · have := hPW2 r hr
    unfold WP WT at this ⊢
    rw [e52, e79, z_upj _ _ _ _ _ _ _ (by omega), z_upj _ _ _ _ _ _ _ (by omega), z_upj _ _ _ _ _ _ _ (by omega), z_upj _ _ _ _ _ _ _ (by omega)]
    exact this
  · unfold LSr LSc at g3 ⊢
    rw [oI2 x 48 (by omega), oI2 x 53 (by omega), oI2 x 54 (by omega), oJ2 0 81 (by omega)]
    exact g3
  · rw [oJ2 0 92 (by omega), ← hS.2.2.2.2.2.1]; exact g4
  · rw [oJ2 0 93 (by omega), ← g8 hN]; exact h11
  · by_cases c : j = 79
    · rw [c, e79]; exact hPN.2.2.2.2.1 k q3
    · rw [oJ2 0 j (by omega)]
  · by_cases c : j = 91
    · rw [c, k91, if_neg q2]
    · rw [oJ2 0 j (by omega)]
/-- A CALL GOES ON, both sides (kinds other than SYNC) -/
theorem go_lp (hx : x < n) (he : e < 190) : ∀ (m f g l2 : Nat) (I J : am_I) (ls : List Nat) (A : Nat → Nat → Nat), 273 ≤ m + smd (J 0 81) x 136 → m < f → m + 1 < g → l2 ≤ smd (J 0 81) x 136 → COg n T e rw gv cl A jl I J → PW x I J → TS x I J → CGx x I J ls → J 0 87 x = nI 1 → ¬ J 0 82 x = nI 10 → ∃ I' J', bX10_goOn_2 n f x (nI l2) I = some I' ∧ bX11_goOn_6 n g (nI x) (nI 1) J = some J' ∧ GO n T x e rw gv cl jl I J I' J' := by
  intro m
  induction m with
  | zero =>
    intro f g l2 I J ls A hm _ _ _ _ _ _ hG
    have := smd_272 hG.2.2.1
    omega
  | succ m ih =>
    intro f g l2 I J ls A hm hf hg hl hco hP hS hG h87 hN
    obtain ⟨f, rfl⟩ : ∃ f', f = f' + 1 := ⟨f - 1, by omega⟩
    obtain ⟨g, rfl⟩ : ∃ g', g = g' + 2 := ⟨g - 2, by omega⟩
    have hs272 := smd_272 hG.2.2.1
    obtain ⟨ms, H, B, K, lg, fb, fq, mk, h⟩ := hco
    have hn := h.1.2
    have hx4 : x < 4 := by omega
    have hU := hG.1
    have hJN := (h.2.2.2.2.1 x hx).2.2.1
    have h44 := hJN.2.2.2.2.2.2.1
    have hfl := hJN.2.2.2.2.2.2.2.1
    have h5 : I x 55 5 = nI 1 := by rw [hS.2.1]; exact h87
    have h0 : ¬ I x 55 0 = nI 10 := by rw [hS.1 0 (by omega)]; exact hN
    have h93 := hG.2.2.2.2.2.2.2.1 hN
    have e72 := jn_72 hJN
    by_cases hw : I x 55 11 = nI 1 ∧ ¬ fb x = []
    · -- it waits for the log
      have hk : ¬ (fb x).length = 0 := fun q => hw.2 (List.eq_nil_of_length_eq_zero q)
      refine ⟨I, J, c_no (by omega) (c_mayA h5 hw.1 h44 hfl hk), r_wait hx4 hN (by rw [← h93, hw.1]; decide) ?_, FOI.rf, FOJ.rf, hP, hS, Or.inl ⟨⟨A, ms, H, B, K, lg, fb, fq, mk, h⟩, h87, ls, hG, Or.inl ⟨hw.1, fun q => hw.2 ((jn_72z hJN).mp q)⟩⟩⟩
      rw [e72, if_neg hw.2]
      exact fun q => absurd ((z_le (a := 2 * (fb x).length + 3) (b := 0) (by omega) (by omega)).mp q) (by omega)
    · have hB11 : I x 55 11 = nI 0 ∨ (fb x).length = 0 := by
        rcases hG.2.2.2.2.2.2.1 with q | q
        · exact Or.inl q
        · exact Or.inr (by rw [Classical.not_not.mp (fun c => hw ⟨q, c⟩)]; rfl)
      have hmay := c_mayB (n := n) h5 hB11 h44 hfl h0
      have hrg : J 0 93 x = nI 0 ∨ J 0 72 x ≤ 0 := by
        rcases hB11 with q | q
        · exact Or.inl (by rw [← h93]; exact q)
        · refine Or.inr ?_
          rw [e72, if_pos (List.eq_nil_of_length_eq_zero q)]; decide
      have h1 : CO n T e (am_up I x 55 11 (nI 0)) (am_up J 0 93 x (nI 0)) ms rw gv cl H A B K lg fb jl fq mk := co_irr h (irI_up (by omega)) (irJ_up (by omega))
      have hP1 := pw_93 hP
      have hS1 := ts_93 hS
      have hG1 := cg_93 hG
      have oj : ∀ j, ¬ j = 93 → am_up J 0 93 x (nI 0) 0 j = J 0 j := fun j q => z_upj _ _ _ _ _ _ _ (by omega)
      have hU1 : am_up J 0 93 x (nI 0) 0 65 x = nI 1 := by rw [oj 65 (by omega)]; exact hU
      have hN1 : ¬ am_up J 0 93 x (nI 0) 0 82 x = nI 10 := by rw [oj 82 (by omega)]; exact hN
      have h111 : am_up I x 55 11 (nI 0) x 55 11 = nI 0 := by rw [z_upk, if_pos rfl]
      obtain ⟨fo1, fo2⟩ := fo_93 (x := x) (I := I) (J := J)
      obtain ⟨I2, J2, a, p1, p2, p3⟩ := p_pin (n := n) (T := T) (ms := ms) hn hx hG1.2.2.1 (h1.2.2.2.2.1 x hx).2.2.2.2.1 (fun c hc => ⟨(hP1 c hc).1, (hP1 c hc).2.elim (fun q => Or.inr q.1) (fun q => Or.inl q.1)⟩) (co_snr h1 hx hU1)
      rcases p3 with ⟨rfl, hPN⟩ | ⟨rfl, hPS⟩
      · obtain ⟨I3, J3, ms3, H3, B3, K3, lg3, fb3, fq3, mk3, eI3, eJ3, hco3, hU3, hP3, hS3, hls3, h10, h92, hpin, hge, h77, hTC, h113, h933, e81, e87, e82, e723, fo3, fo4, I4, J4, r1, r2, r3⟩ := go_pre hx hU1 ⟨ms, H, B, K, lg, fb, fq, mk, h1⟩ hP1 hS1 hG1 h111 hN1 hPN
        have hct := c_try (f := f) (l2 := l2) (n := n) (by omega) hmay p1 (by rw [← eI3]; exact r1)
        have hrt := r_tri (n := n) (x := x) (J := J2) (Jq := J4) hx4 (by rw [← eJ3]; exact r2)
        have foI : FOI x I I3 := fo1.tr fo3
        have foJ : FOJ x J J3 := fo2.tr fo4
        have hl1 : nI l2 + nI 1 = nI (l2 + 1) := nI_add _ _
        have e81' : J3 0 81 = J 0 81 := e81.trans (oj 81 (by omega))
        have e87' : J3 0 87 x = nI 1 := by rw [e87, oj 87 (by omega)]; exact h87
        have e82' : J3 0 82 x = J 0 82 x := by rw [e82, oj 82 (by omega)]
        have hVA3 : VA (J3 0 82 x) (J3 0 83 x) (J3 0 84 x) (J3 0 85 x) (J3 0 86 x) := by
          rw [foJ.1 0 82 (by omega), foJ.1 0 83 (by omega), foJ.1 0 84 (by omega), foJ.1 0 85 (by omega), foJ.1 0 86 (by omega)]; exact hG.2.1
        have hpl : ∀ r, r < 136 → J3 0 79 (136 * x + r) = nI 1 → r ∈ ls := fun r hr q => (hpin r hr).mp q
        rcases r3 with hE | hD
        · have hE' := hE
          rcases hE.2 with ⟨w, -⟩ | ⟨w, -⟩
          · -- it lacks a resource
            obtain ⟨I5, J5, ls5, d1, d2, d3, d4, d5, d6, d7, d8, d9, d10, d11, d12, d13⟩ := go_miss (k2 := bX10_goOn_2 n f) (l2 := l2) hco3 hx hU3 hP3 hls3 h10 h92 hpin hge hTC hE' w
            rw [if_neg d3] at d2
            rw [if_neg d3, d2] at hrt
            rw [if_neg (by rw [w]; decide), d1, hl1] at hct
            have hs81 : smd (J 0 81) x 136 < smd (J5 0 81) x 136 := by rw [← e81']; exact d13
            have hGx : CGx x I5 J5 ls5 := by
              refine ⟨by rw [d6.1 0 65 (by omega)]; exact hU3, by rw [d6.1 0 82 (by omega), d6.1 0 83 (by omega), d6.1 0 84 (by omega), d6.1 0 85 (by omega), d6.1 0 86 (by omega)]; exact hVA3, d8, d9, fun c hc q => ?_, fun c hc q => ?_, Or.inl ?_, fun _ => ?_, fun q => ?_⟩
              · rw [(d7 c hc).2.1] at q; exact absurd q (by decide)
              · rw [d12 77 (by omega)] at q; exact absurd (h77 c hc) q
              · rw [d11 11 (by omega)]; exact h113
              · rw [d11 11 (by omega), d12 93 (by omega), h113, h933]
              · rw [d6.1 0 82 (by omega), e82'] at q; exact absurd q hN
            have hs5 : smd (J5 0 81) x 136 ≤ 272 := smd_272 d8
            have hS5 : TS x I5 J5 := by
              obtain ⟨s1, s2, s3, s4, s5, s6, s7, s8⟩ := hS3
              unfold TS
              rw [d11 5 (by omega), d11 6 (by omega), d11 7 (by omega), d11 8 (by omega), d11 9 (by omega), d12 87 (by omega), d12 88 (by omega), d12 89 (by omega), d12 90 (by omega), d12 91 (by omega)]
              exact ⟨fun c hc => by rw [d11 c (by omega), d6.1 0 (82 + c) (by omega)]; exact s1 c hc, s2, s3, s4, s5, by rw [d9, d10], s7, s8⟩
            obtain ⟨I6, J6, k1, k2, k3⟩ := ih f (g + 1) (l2 + 1) I5 J5 ls5 A (by omega) (by omega) (by omega) (by omega) d4 (fun r hr => ⟨(d7 r hr).1.trans (d7 r hr).2.1.symm, Or.inr ⟨(d7 r hr).2.1, (d7 r hr).2.2⟩⟩) hS5 hGx (by rw [d12 87 (by omega)]; exact e87') (by rw [d6.1 0 82 (by omega), e82']; exact hN)
            refine ⟨I6, J6, by rw [hct]; exact k1, ?_, GO.l (foI.tr d5) (foJ.tr d6) k3⟩
            rw [r_go hx4 hN hrg, r_try hx4 (by omega) p2 hrt]
            exact k2
          · -- a fault
            obtain ⟨I5, J5, d1, d2, d3, d4, d5, d6, d7, d8, d9, d10, d11⟩ := go_fault (ls := ls) (k2 := bX10_goOn_2 n f) (l2 := l2) hco3 hx hU3 hP3 hls3.1 hpl he hS3 h77 hTC hE' (by obtain ⟨⟨X, E, F, gn, gp, pd, Bq, sq, cq, -, hq, -⟩, -⟩ := hE'; exact hq.1) w
            · rw [if_pos d2, if_neg (show ¬ J4 0 60 54 = 0 from d3), d4] at hrt
              rw [if_neg (by rw [w]; decide), d1, hl1] at hct
              have n87 : ¬ J5 0 87 x = nI 1 := by rw [d8]; decide
              obtain ⟨f, rfl⟩ : ∃ f', f = f' + 1 := ⟨f - 1, by omega⟩
              refine ⟨I5, J5, by rw [hct]; exact c_end1 (by omega) (by rw [d10.2.1]; exact n87), ?_, foI.tr d6, foJ.tr d7, d9, d10, Or.inr ⟨⟨A, d5⟩, n87, d11⟩⟩
              rw [r_go hx4 hN hrg, r_try hx4 (by omega) p2 hrt, r_off]
        · -- done
          have hD' := hD
          obtain ⟨-, w9, w52, w54, -⟩ := hD
          obtain ⟨I5, J5, d1, d2, d3, d4, d5, d6, d7⟩ := go_dn (ls := ls) (k2 := bX10_goOn_2 n f) (l2 := l2) hco3 hx hU3 hP3 hls3 hpl he hS3 h77 hTC hD'
          rw [if_pos d3, if_pos (show J4 0 60 54 = 0 from d4), d2] at hrt
          rw [if_pos w9, d1, hl1] at hct
          obtain ⟨f, rfl⟩ : ∃ f', f = f' + 1 := ⟨f - 1, by omega⟩
          have hr6 : bX11_goOn_6 n (g + 2) (nI x) (nI 1) J = some J5 := by rw [r_go hx4 hN hrg, r_try hx4 (by omega) p2 hrt, r_off]
          rcases d7 with ⟨k1, k2, k3, k4, k5⟩ | ⟨k1, k2, k3, k4, k5, k6, k7, k8⟩
          · have n87 : ¬ J5 0 87 x = nI 1 := by rw [k2]; decide
            exact ⟨I5, J5, by rw [hct]; exact c_end1 (by omega) (by rw [k4.2.1]; exact n87), hr6, foI.tr d5, foJ.tr d6, k3, k4, Or.inr ⟨⟨A, k1⟩, n87, k5⟩⟩
          · obtain ⟨ms5, H5, B5, K5, lg5, fb5, fq5, mk5, h5c⟩ := k1
            have hJN5 := (h5c.2.2.2.2.1 x hx).2.2.1
            have hS5 : TS x I5 J5 := by
              obtain ⟨s1, s2, s3, s4, s5, s6, s7, s8⟩ := hS3
              unfold TS
              rw [k5 5 (by omega), k5 6 (by omega), k5 7 (by omega), k5 8 (by omega), k5 9 (by omega), k5 10 (by omega), k7 87 (by omega), k7 88 (by omega), k7 89 (by omega), k7 90 (by omega), k7 91 (by omega), k7 92 (by omega)]
              exact ⟨fun c hc => by rw [k5 c (by omega), d6.1 0 (82 + c) (by omega)]; exact s1 c hc, s2, s3, s4, s5, s6, s7, s8⟩
            have e875 : J5 0 87 x = nI 1 := by rw [k7 87 (by omega)]; exact e87'
            have hfb5 : ¬ (fb5 x).length = 0 := fun q => k8 ((jn_72z hJN5).mpr (List.eq_nil_of_length_eq_zero q))
            refine ⟨I5, J5, by rw [hct]; exact c_no (by omega) (c_mayA (by rw [hS5.2.1]; exact e875) k4 hJN5.2.2.2.2.2.2.1 hJN5.2.2.2.2.2.2.2.1 hfb5), hr6, foI.tr d5, foJ.tr d6, fun r hr => ⟨(k2 r hr).1.trans (k2 r hr).2.1.symm, Or.inr ⟨(k2 r hr).2.1, (k2 r hr).2.2⟩⟩, hS5, Or.inl ⟨⟨A, ms5, H5, B5, K5, lg5, fb5, fq5, mk5, h5c⟩, e875, ls, ⟨?_, ?_, k3, ?_, ?_, ?_, Or.inr k4, fun _ => by rw [k4, k6], fun q => ?_⟩, Or.inl ⟨k4, k8⟩⟩⟩
            · rw [d6.1 0 65 (by omega)]; exact hU3
            · rw [d6.1 0 82 (by omega), d6.1 0 83 (by omega), d6.1 0 84 (by omega), d6.1 0 85 (by omega), d6.1 0 86 (by omega)]; exact hVA3
            · rw [k5 10 (by omega)]; exact h10
            · intro c hc q
              rw [(k2 c hc).2.1] at q; exact absurd q (by decide)
            · intro c hc q
              rw [k7 77 (by omega)] at q; exact absurd (h77 c hc) q
            · rw [d6.1 0 82 (by omega), e82'] at q; exact absurd q hN
      · -- pinning stops
        obtain ⟨q1, q2, q3, q4, q5, q6, q7, q8⟩ := go_stop h1 hx hU1 hP1 hS1 hG1 h111 hN1 hPS
        refine ⟨I2, J2, c_stop (by omega) hmay p1, ?_, fo1.tr q2, fo2.tr q3, q4, q5, Or.inl ⟨q1, ?_, ls, q7, q8⟩⟩
        · rw [r_go hx4 hN hrg, r_stop hx4 p2]
        · rw [q6, oj 87 (by omega)]; exact h87
end GOON
