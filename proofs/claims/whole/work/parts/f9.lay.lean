
section LAY9
variable {n T e : Nat} {I J I' J' : am_I} {H A B : Nat → Nat → Nat} {K : Nat → Nat → Int} {lg fb jl : Nat → List Nat} {fq mk : Nat → Nat}
theorem c_srv0 {r : Nat} (hr : r < 136) (h8 : I 0 8 r = nI 0) (hm : ∃ v, gX10_masterOf n (nI r) I = some (v, I)) : gX10_serve n (nI r) I = some I := by
  obtain ⟨v, hv⟩ := hm
  obtain ⟨f, hf, -⟩ := fu_ex
  rw [gX10_serve, bX10_serve_0, hv, Option.bind_some, hf]
  dsimp only
  conv => lhs; unfold bX10_serve_8
  dsimp only
  rw [if_neg (show ¬ nI 4 ≤ nI 0 by decide), am_gd_of (by rw [z_inb (by omega)]; exact decide_eq_true hr), z_clamp (by omega), if_pos (by rw [h8]; decide)]
  rfl
theorem r_srv0 {r : Nat} (hr : r < 136) (h96 : J 0 96 r = nI 0) : gX11_serve n (nI r) J = some J := by
  obtain ⟨f, hf, -⟩ := fu_ex
  rw [gX11_serve, hf]
  conv => lhs; unfold bX11_serve_0
  dsimp only
  rw [am_gd_of (by rw [z_inb (by omega)]; exact decide_eq_true hr), z_clamp (by omega), if_pos (by rw [h96]; decide)]
/-- all resources are served -/
theorem sv_lp {jn : Nat → Int32} {U : Nat → Int32} (hM : (∀ r, r < 136 → (mst n jn r n 0).toNatClampNeg < n ∧ mst n jn r n 0 = nI ((mst n jn r n 0).toNatClampNeg) ∧ U ((mst n jn r n 0).toNatClampNeg) = nI 1)) : ∀ (q r fu fur : Nat) (I J : am_I) (ms : List (Nat → Nat)) (rw : Nat → List (Nat × Nat)) (gv cl : Nat → Nat → Nat), r + q = 136 → q < fu → q < fur → J 0 66 = jn → J 0 65 = U → CO n T e I J ms rw gv cl H A B K lg fb jl fq mk → ∃ I' J' ms' rw' gv' cl', bX10_layLocksAnew_122 n fu (nI r) I = some I' ∧ bX11_layAnew_169 n fur (nI r) J = bX11_layAnew_189 n am_fu (nI 0) J' ∧ CO n T e I' J' ms' rw' gv' cl' H A B K lg fb jl fq mk ∧ fSI I I' ∧ fSJ J J' ∧ gv' 136 = gv 136 := by
  intro q
  induction q with
  | zero =>
    intro r fu fur I J ms rw gv cl hr hf hfr h66 h65 h
    obtain ⟨fu, rfl⟩ : ∃ f, fu = f + 1 := ⟨fu - 1, by omega⟩
    obtain ⟨fur, rfl⟩ : ∃ f, fur = f + 1 := ⟨fur - 1, by omega⟩
    refine ⟨I, J, ms, rw, gv, cl, ?_, ?_, h, fSI.rf, fSJ.rf, rfl⟩
    · conv => lhs; unfold bX10_layLocksAnew_122
      dsimp only
      rw [if_pos (by rw [z_le (by omega) (by omega)]; omega)]
    · conv => lhs; unfold bX11_layAnew_169
      dsimp only
      rw [if_pos (by rw [z_le (by omega) (by omega)]; omega)]
  | succ q ih =>
    intro r fu fur I J ms rw gv cl hr hf hfr h66 h65 h
    obtain ⟨fu, rfl⟩ : ∃ f, fu = f + 1 := ⟨fu - 1, by omega⟩
    obtain ⟨fur, rfl⟩ : ∃ f, fur = f + 1 := ⟨fur - 1, by omega⟩
    obtain ⟨m1, m2, m3⟩ := hM r (by omega)
    have em : mrr n J r = (mst n jn r n 0).toNatClampNeg := by unfold mrr; rw [h66]
    obtain ⟨I1, J1, ms1, rw1, gv1, cl1, k1, k2, k3, k4, k5, k6⟩ := co_srv (r := r) h (by omega) (by rw [em]; exact m1) (by rw [em, h66]; exact m2) (by rw [em, h65]; exact m3)
    obtain ⟨I2, J2, ms2, rw2, gv2, cl2, w1, w2, w3, w4, w5, w6⟩ := ih (r + 1) fu fur I1 J1 ms1 rw1 gv1 cl1 (by omega) (by omega) (by omega) (by rw [k5.1 0 66 (by omega)]; exact h66) (by rw [k5.1 0 65 (by omega)]; exact h65) k3
    refine ⟨I2, J2, ms2, rw2, gv2, cl2, ?_, ?_, w3, k4.tr w4, k5.tr w5, w6.trans k6⟩
    · conv => lhs; unfold bX10_layLocksAnew_122
      dsimp only
      rw [if_neg (by rw [z_le (by omega) (by omega)]; omega), k1, Option.bind_some, nI_add]
      exact w1
    · conv => lhs; unfold bX11_layAnew_169
      dsimp only
      rw [if_neg (by rw [z_le (by omega) (by omega)]; omega), k2, Option.bind_some, nI_add]
      exact w2
theorem sv_l0 (hn0 : 0 < n) (hn : n ≤ 4) (h1 : J 0 60 1 = nI n) (hj : ∀ z, z < n → I z 40 6 = J 0 66 z) (h0 : ∀ r, r < 136 → I 0 8 r = nI 0 ∧ J 0 96 r = nI 0) : ∀ (q r fu fur : Nat), r + q = 136 → q < fu → q < fur → bX10_layLocksAnew_122 n fu (nI r) I = some I ∧ bX11_layAnew_169 n fur (nI r) J = bX11_layAnew_189 n am_fu (nI 0) J := by
  intro q
  induction q with
  | zero =>
    intro r fu fur hr hf hfr
    obtain ⟨fu, rfl⟩ : ∃ f, fu = f + 1 := ⟨fu - 1, by omega⟩
    obtain ⟨fur, rfl⟩ : ∃ f, fur = f + 1 := ⟨fur - 1, by omega⟩
    constructor
    · conv => lhs; unfold bX10_layLocksAnew_122
      dsimp only
      rw [if_pos (by rw [z_le (by omega) (by omega)]; omega)]
    · conv => lhs; unfold bX11_layAnew_169
      dsimp only
      rw [if_pos (by rw [z_le (by omega) (by omega)]; omega)]
  | succ q ih =>
    intro r fu fur hr hf hfr
    obtain ⟨fu, rfl⟩ : ∃ f, fu = f + 1 := ⟨fu - 1, by omega⟩
    obtain ⟨fur, rfl⟩ : ∃ f, fur = f + 1 := ⟨fur - 1, by omega⟩
    obtain ⟨w1, w2⟩ := ih (r + 1) fu fur (by omega) (by omega) (by omega)
    have hm := p_mst (n := n) (r := r) hn0 hn (by omega) h1 hj
    constructor
    · conv => lhs; unfold bX10_layLocksAnew_122
      dsimp only
      rw [if_neg (by rw [z_le (by omega) (by omega)]; omega), c_srv0 (by omega) (h0 r (by omega)).1 ⟨_, hm.1⟩, Option.bind_some, nI_add]
      exact w1
    · conv => lhs; unfold bX11_layAnew_169
      dsimp only
      rw [if_neg (by rw [z_le (by omega) (by omega)]; omega), r_srv0 (by omega) (h0 r (by omega)).2, Option.bind_some, nI_add]
      exact w2
/-- THE LOCKS ARE LAID ANEW, both sides -/
theorem gs_lay (h : LPr n T e I J H A B K lg fb jl fq mk) (hns : ∀ z, z < n → NS0 z I J) (hW : WL I J) : ∃ I1 J1 g', gX10_layLocksAnew n I = some I1 ∧ gX11_layAnew n J = bX11_layAnew_189 n am_fu (nI 0) J1 ∧ GM n T e 0 g' I1 J1 ∧ g' 0 = g' 1 ∧ cs n J1 = cs n J ∧ J1 0 60 0 = J 0 60 0 := by
  obtain ⟨⟨hn0, hn⟩, ⟨l1, l2, l3, l4, l5, l6, l7⟩, hBK, hND, hST, h1, hTID, hC, hF, hMK, hA2, hAu⟩ := h
  obtain ⟨f, hf, hf1⟩ := fu_ex
  -- masters
  have hup : ∀ z, z < n → ¬ J 0 66 z = nI 0 → J 0 65 z = nI 1 := fun z hz q => (hST z hz).elim (fun w => w.1) (fun w => absurd w.2.1 q)
  have hmr : ∀ z, z < n → J 0 65 z = nI 1 → ∀ r, mrr n J r < n ∧ mst n (J 0 66) r n 0 = nI (mrr n J r) ∧ J 0 65 (mrr n J r) = nI 1 := fun z hz hu r => by
    have hj : J 0 66 z = nI 1 := (hST z hz).elim (fun w => w.2.1) (fun w => by rw [hu] at w; exact absurd w.1 (by decide))
    have q := mst_ok (J := J) (r := r) hn0 hn hz (by rw [hj]; decide)
    refine ⟨q.1, q.2, ?_⟩
    rcases mst_c (n := n) (jn := J 0 66) (r := r) hn0 n 0 with ⟨w, -⟩ | ⟨M, w1, w2, w3⟩
    · rw [q.2] at w; exact absurd w (z_m1n (by omega))
    · rw [q.2, z_eq (by omega) (by omega)] at w2
      rw [w2]; exact hup M w1 w3
  have hdn : ∀ z, z < n → ¬ J 0 65 z = nI 1 → ∀ r, r < 136 → H z r = 0 ∧ A z r = 0 := fun z hz q => (hST z hz).elim (fun w => absurd w.1 q) (fun w => w.2.2.2.2.2.2.1)
  obtain ⟨I2, a1, a2, a3, a4, a5, a6⟩ := c_lay (n := n) (H := H) (A := A) (I := I) hn (fun z hz s hs => by
    obtain ⟨c1, c2, c3, c4, c5, c6⟩ := hND z hz
    obtain ⟨q1, q2, q3, q4⟩ := c6 s hs
    exact ⟨⟨q1.1, by rw [(c5 s hs).1]; exact q1.2⟩, hA2 z s hz hs, by rw [(c5 s hs).2.1]; exact q2⟩)
  obtain ⟨J2, b1, b2, b3, b4, b5, b6, b7⟩ := r_lay (n := n) (H := H) (A := A) (J := J) hn0 hn (fun s hs => by
    refine ⟨l7, ?_, fun z hz => ?_⟩
    · by_cases c : ∃ z, z < n ∧ J 0 65 z = nI 1
      · obtain ⟨z, hz, hu⟩ := c
        obtain ⟨q1, q2, q3⟩ := hmr z hz hu s
        exact Or.inl ⟨mrr n J s, by omega, q2, q3⟩
      · rcases mst_c (n := n) (jn := J 0 66) (r := s) hn0 n 0 with ⟨w, -⟩ | ⟨M, w1, w2, w3⟩
        · exact Or.inr ⟨w, fun z hz => hdn z hz (fun q => c ⟨z, hz, q⟩) s hs⟩
        · exact absurd ⟨M, w1, hup M w1 w3⟩ c
    · obtain ⟨c1, c2, c3, c4, c5, c6⟩ := hND z hz
      obtain ⟨q1, q2, q3, q4⟩ := c6 s hs
      refine ⟨?_, q1, hA2 z s hz hs, q2⟩
      rcases (l6 z hz).2 with u | u
      · exact Or.inr ⟨u, hdn z hz (by rw [u]; decide) s hs⟩
      · exact Or.inl u)
  have e65 : J2 0 65 = J 0 65 := b7 0 65 (by omega)
  have e66 : J2 0 66 = J 0 66 := b7 0 66 (by omega)
  have em : mrr n J2 = mrr n J := mrr_cg e66
  have e64 : J2 0 64 = J 0 64 := b7 0 64 (by omega)
  have edD : dD J2 = dD J := by unfold dD; rw [e64]
  have e47 : ∀ z, I2 z 47 = I z 47 := fun z => a6 z 47 (by omega) (by omega)
  have efw : fwI I2 = fwI I := funext fun z => funext fun k => funext fun i => by unfold fwI; rw [e47]
  have hco : CO n T e I2 J2 [] (arow A n) (gvt (fun r y => hv H n r y) 0) (fun _ _ => 0) H A (fun _ _ => 0) K lg fb jl fq mk := by
    refine ⟨⟨hn0, hn⟩, ⟨⟨by rw [a4]; rfl, fun m hm => by simp [lat] at hm, fun k m hk => by simp [lat] at hk⟩, ⟨by rw [b4]; rfl, fun m hm => by simp at hm, fun k m hk => by simp at hk⟩, by rw [a5 4 (by omega), b5 39 (by omega)]; exact l1, by rw [a6 0 0 (by omega) (by omega)]; exact l2, by rw [b5 2 (by omega)]; exact l3, l4, by rw [a6 0 10 (by omega) (by omega), b7 0 107 (by omega)]; exact l5, fun f t hf ht => ⟨0, by rw [b6 _ (by omega)], Nat.le_refl _, Nat.zero_le _⟩, fun m hm => by simp at hm, fun z hz => by rw [a6 z 40 (by omega) (by omega), e65]; exact l6 z hz, by rw [b5 1 (by omega)]; exact l7⟩, ms_gve (fun s hs => ?_) (fun r hr => gvt_r (by omega)), ?_, fun z hz => ?_, fun z hz => ?_, ?_, fun k hk => by rw [a6 0 1 (by omega) (by omega), e64]; exact h1 k hk, ?_, cti_cg hC (fun b i _ _ => by rw [e64]) e65 (fun z b i _ _ _ => by rw [b7 0 67 (by omega)]) (fun z b _ _ => by rw [b7 0 68 (by omega)]) (fun z k i _ _ _ => by rw [e47]) (fun z hz => (hF z hz).2.1.2.1) hn, by rw [edD, efw]; exact hF, ?_, ⟨fun k m hk => by simp [due] at hk, rfl, Nat.zero_le _, fun k m hk => by simp at hk⟩⟩
    · obtain ⟨p1, p2, p3⟩ := a2 s hs
      obtain ⟨q1, q2, q3⟩ := b2 s hs
      refine ⟨Nat.le_trans (arow_len n) hn, p1, q1, fun i e he => ?_, fun y hy => ?_⟩
      · obtain ⟨z, m⟩ := e
        obtain ⟨r1, r2, r3⟩ := (arow_mem n).mp (List.mem_of_getElem? he)
        have := hA2 z s r1 hs
        exact ⟨r1, by show m = 1 ∨ m = 2; omega, (p2 i _ he).1, (p2 i _ he).2, (q2 i _ he).1, (q2 i _ he).2⟩
      · have hle : hv H n s y ≤ 2 := by
          unfold hv
          by_cases c : y < n
          · rw [if_pos c]; exact ((hND y c).2.2.2.2.2 s hs).1.1
          · rw [if_neg c]; omega
        exact ⟨hle, (p3 y hy).1, (q3 y hy).1, Nat.zero_le _, (p3 y hy).2, (q3 y hy).2⟩
    · unfold BKr at hBK ⊢
      rw [a6 0 13 (by omega) (by omega), a6 0 14 (by omega) (by omega), b5 49 (by omega), b5 63 (by omega), b7 0 125 (by omega), b7 0 126 (by omega)]
      exact hBK
    · obtain ⟨c1, c2, c3, c4, c5, c6⟩ := hND z hz
      refine ⟨by rw [a6 z 40 (by omega) (by omega)]; exact c1, by rw [a6 z 40 (by omega) (by omega), e66]; exact c2, jn_cgz c3 (a6 z 44 (by omega) (by omega)) (a6 z 45 (by omega) (by omega)) (a6 z 46 (by omega) (by omega)) (e47 z) (fun b _ => by rw [b7 0 69 (by omega)]) (by rw [b7 0 70 (by omega)]) (by rw [b7 0 71 (by omega)]) (by rw [b7 0 72 (by omega)]) (by rw [b7 0 73 (by omega)]) (fun k _ => by rw [b7 0 74 (by omega)]) (fun k i _ _ => by rw [b7 0 75 (by omega)]), ch_cg c4 (a6 z 41 (by omega) (by omega)) (a6 z 42 (by omega) (by omega)) (a6 z 43 (by omega) (by omega)) (fun b i _ _ => by rw [b7 0 67 (by omega)]) (fun b _ => by rw [b7 0 68 (by omega)]), fun r hr => ?_, fun r hr => ?_⟩
      · rw [a6 z 49 (by omega) (by omega), a6 z 50 (by omega) (by omega), b7 0 76 (by omega), b7 0 77 (by omega), a3 z hz r hr, (b3 r hr z hz).1]
        exact ⟨(c5 r hr).1, (c5 r hr).2.1, rfl⟩
      · rw [b7 0 76 (by omega), b7 0 77 (by omega), (b3 r hr z hz).1]
        exact ⟨(c6 r hr).1, (c6 r hr).2.1, ⟨Nat.zero_le _, rfl⟩, fun q => absurd rfl q⟩
    · rw [e65, e66, em, b7 0 71 (by omega), b7 0 68 (by omega)]
      rcases hST z hz with ⟨w1, w2, w3, w4⟩ | ⟨w1, w2, w3, w4, w5, w6, w7, w8⟩
      · exact ⟨Or.inr w2, fun _ => ⟨w2, w3, w4⟩, fun q => absurd w1 q, fun q => absurd w2 q, fun q => absurd w1 q⟩
      · exact ⟨Or.inl w2, fun q => by rw [w1] at q; exact absurd q (by decide), fun _ => ⟨w3, w4, fun r hr => ⟨(w7 r hr).1, (w7 r hr).2, rfl, fun _ => by rw [w6 r]; omega⟩⟩, fun _ => ⟨w5, w6⟩, fun _ => w8⟩
    · rw [e65, em]
      refine pl_lay (fun r hr => gvt_r (by omega)) hA2 hAu (fun z r hz hr q => hdn z hz q r hr) (fun r z z' hr hz hz' hne q => ?_) (fun r hr q z hz u => q (hmr z hz u r).2.2)
      have uz : J 0 65 z = nI 1 := Classical.byContradiction fun c => by have := (hdn z hz c r hr).1; omega
      by_cases uz' : J 0 65 z' = nI 1
      · have k1 : K z r = H z r := (hST z hz).elim (fun w => w.2.2.1 r hr) (fun w => by rw [uz] at w; exact absurd w.1 (by decide))
        have k2 : K z' r = H z' r := (hST z' hz').elim (fun w => w.2.2.1 r hr) (fun w => by rw [uz'] at w; exact absurd w.1 (by decide))
        have := hC.2.2.1 r z z' hz hz' hne (by rw [k1, q]; rfl)
        omega
      · exact (hdn z' hz' uz' r hr).1
    · unfold TID at hTID ⊢
      rw [b7 0 120 (by omega), a6 0 19 (by omega) (by omega), a6 0 15 (by omega) (by omega)]
      exact hTID
    · unfold MKr at hMK ⊢
      rw [b7 0 125 (by omega), b7 0 126 (by omega)]
      exact hMK
  have hns2 : ∀ z, z < n → NS0 z I2 J2 := fun z hz => by
    refine ns0_cg (fun b q => a6 z b (by omega) (by omega)) (fun j r q1 q2 q3 q4 _ => by rw [b7 0 j (by omega)]) (fun j q => by rw [b7 0 j (by omega)]) (fun r hr => ?_) (hns z hz)
    obtain ⟨q1, q2⟩ := b3 r hr z hz
    unfold WP WT
    rw [b7 0 79 (by omega)]
    rcases ((hns z hz).1 r hr).2 with w | w
    · exact Or.inl ⟨w.1, q2⟩
    · exact Or.inr ⟨w.1, Or.inl ⟨q1, q2⟩⟩
  have hW2 : WL I2 J2 := by
    unfold WL at hW ⊢
    rw [a6 0 0 (by omega) (by omega), b5 48 (by omega), b5 50 (by omega), e64]
    exact hW
  have hcs2 : cs n J2 = cs n J := cs_eq n (fun z _ => by unfold cal; rw [b7 0 87 (by omega)])
  by_cases c : ∃ z, z < n ∧ J 0 65 z = nI 1
  · obtain ⟨z0, hz0, hu0⟩ := c
    obtain ⟨I3, J3, ms3, rw3, gv3, cl3, w1, w2, w3, w4, w5, w6⟩ := sv_lp (n := n) (jn := J 0 66) (U := J 0 65) (fun r hr => hmr z0 hz0 hu0 r) 136 0 am_fu am_fu I2 J2 [] (arow A n) _ _ (by omega) (by rw [hf]; omega) (by rw [hf]; omega) e66 e65 hco
    refine ⟨I3, J3, gv3 136, by rw [a1]; exact w1, by rw [b1]; exact w2, ⟨rw3, gv3, cl3, A, jl, ⟨_, _, _, _, _, _, _, _, w3⟩, rfl, fun z hz => absurd hz (by omega), fun z _ hz => ?_, wl_fs hW2 w4 w5⟩, by rw [w6]; rfl, ?_, by rw [w5.2 0 (by omega), b5 0 (by omega)]⟩
    · refine ns0_cg (fun b q => w4.1 z b (by omega)) (fun j r q1 q2 q3 q4 _ => by rw [w5.1 0 j (by omega)]) (fun j q => by rw [w5.1 0 j (by omega)]) (fun r hr => ?_) (hns2 z hz)
      have := ((hns2 z hz).1 r hr).2
      unfold WP WT at this ⊢
      rw [w5.1 0 79 (by omega), w5.1 0 80 (by omega), w5.1 0 78 (by omega), w5.1 0 76 (by omega), w5.1 0 72 (by omega)]
      exact this
    · rw [cs_eq (J := J2) n (fun z _ => by unfold cal; rw [w5.1 0 87 (by omega)]), hcs2]
  · have h0 : ∀ r, r < 136 → arow A n r = [] := fun r hr => List.eq_nil_iff_forall_not_mem.mpr fun e q => by
      obtain ⟨z, m⟩ := e
      obtain ⟨p1, p2, p3⟩ := (arow_mem n).mp q
      exact p3 (p2.trans (hdn z p1 (fun u => c ⟨z, p1, u⟩) r hr).2)
    obtain ⟨w1, w2⟩ := sv_l0 (n := n) (I := I2) (J := J2) hn0 hn (by rw [b5 1 (by omega)]; exact l7) (fun z hz => by rw [a6 z 40 (by omega) (by omega), e66]; exact (hND z hz).2.1) (fun r hr => by
      have q1 := (a2 r hr).1
      have q2 := (b2 r hr).1
      rw [h0 r hr] at q1 q2
      exact ⟨q1, q2⟩) 136 0 am_fu am_fu (by omega) (by rw [hf]; omega) (by rw [hf]; omega)
    exact ⟨I2, J2, gvt (fun r y => hv H n r y) 0 136, by rw [a1]; exact w1, by rw [b1]; exact w2, ⟨_, _, _, A, jl, ⟨_, _, _, _, _, _, _, _, hco⟩, rfl, fun z hz => absurd hz (by omega), fun z _ hz => hns2 z hz, hW2⟩, rfl, hcs2, b5 0 (by omega)⟩
end LAY9
