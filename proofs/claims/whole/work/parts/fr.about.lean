
/-- what looking and counting change -/
def FL (I J I' J' : am_I) : Prop := (∀ a b, ¬ (a = 0 ∧ 21 ≤ b ∧ b ≤ 26) → I' a b = I a b) ∧ ∀ a b, ¬ (a = 0 ∧ 127 ≤ b ∧ b ≤ 131) → J' a b = J a b
section LOOK
variable {n T e x : Nat} {I J I' J' : am_I} {g : Nat → Nat} {S : wS}
theorem m_215 (hh : HV S J 128 0) : ∀ (m k fu : Nat), k + m = 640 → m < fu → bX11_whole_215 n fu (nI 0) (nI k) J = (gX11_areMapsWrong n J).bind (fun q1 => if q1.1 = 0 then some (nI 0, q1.2) else some (nI 6, q1.2)) := by
  intro m
  induction m with
  | zero =>
    intro k fu hk hfu
    obtain ⟨fu, rfl⟩ : ∃ f, fu = f + 1 := ⟨fu - 1, by omega⟩
    unfold bX11_whole_215
    dsimp only
    rw [if_pos (by rw [z_le (by omega) (by omega)]; omega), if_pos n00]
    rfl
  | succ m ih =>
    intro k fu hk hfu
    obtain ⟨fu, rfl⟩ : ∃ f, fu = f + 1 := ⟨fu - 1, by omega⟩
    have h1 : J 0 131 k ≤ nI 1 := by
      rw [hh k (by omega)]
      by_cases c : MB S 128 0 k
      · rw [cif_pos c]; decide
      · rw [cif_neg c]; decide
    conv => lhs; unfold bX11_whole_215
    dsimp only
    rw [if_neg (by rw [z_le (by omega) (by omega)]; omega), if_pos n00, am_gd_of (by rw [z_inb (by omega)]; exact decide_eq_true (by omega)), z_clamp (by omega), if_pos h1, bX11_whole_244, nI_add]
    exact ih (k + 1) fu (by omega) (by omega)
/-- LOOKING AT THE WHOLE, both sides -/
theorem k_look (h : GS n T e g I J) : ∃ r I' J', gX2_look n I = some (r, I') ∧ gX11_whole n J = some (r, J') ∧ FL I J I' J' := by
  obtain ⟨rw, gv, cl, A, jl, ⟨ms, H, B, K, lg, fb, fq, mk, hc⟩, hg, hns, hW⟩ := h
  obtain ⟨a1, a2, a3, a4, a5, a6, a7, a8, a9, b1, b2, b3, b4⟩ := hc
  obtain ⟨I1, J1, s1, s2, hs, f1, f2⟩ := k_reco (n := n) (lg := lg) a1.2 a2.2.2.2.2.2.2.2.2.2.2 a8 b2 (fun z hz => ⟨(a5 z hz).2.1, (a6 z hz).1, fun q => ((a6 z hz).2.2.2.1 q).1⟩)
  have hx : x_wf (sR lg fb jl I J n) (fun _ => False) := (b1.1 (fun _ => 0)).1
  obtain ⟨I2, J2, Q, b, w1, w2, hK, fw⟩ := wk_all (n := n) hx hs
  have hs2 := sv_fw hs fw
  have fl2 : FL I J I2 J2 := ⟨fun a b q => (fw.1 a b (by omega)).trans (f1 a b (by omega)), fun a b q => (fw.2 a b (by omega)).trans (f2 a b (by omega))⟩
  have e21 : I2 0 21 7 = nI b := hK.2.1
  rcases Nat.le_one_iff_eq_zero_or_eq_one.mp hK.1 with e | e
  · subst e
    obtain ⟨f, hf, hf1⟩ := fu_ex
    have c10 : gX2_look n I = (gX2_isNamedTwice n I2).bind (fun q3 => if q3.1 = 0 then ((gX2_isLeftAlone n q3.2).bind (fun q4 => if q4.1 = 0 then ((gX2_hasWrongLinks n q4.2).bind (fun q5 => if q5.1 = 0 then ((gX2_ownBlocks n q5.2).bind (fun q6 => if q6.1 = 0 then (some (nI 5, q6.2)) else ((gX2_hasWrongMap n q6.2).bind (fun q7 => if q7.1 = 0 then (bX2_look_67 n (nI 0) q7.2) else (bX2_look_67 n (nI 6) q7.2))))) else (some (nI 4, q5.2)))) else (some (nI 3, q4.2)))) else (some (nI 2, q3.2))) := by
      rw [gX2_look, bX2_look_0, s1, Option.bind_some, w1, Option.bind_some, e21]
      exact if_pos n00
    obtain ⟨c0, hc0, hc0i, e27⟩ : ∃ c0, c0 ≤ 1 ∧ (c0 = 1 ↔ ¬ sR lg fb jl I J n (w_ib 0) 1 = nI 1) ∧ ∀ s0, bX11_whole_27 n s0 J2 = bX11_whole_49 n am_fu s0 (nI 0) (nI c0) (nI 1) J2 := by
      by_cases c : sR lg fb jl I J n (w_ib 0) 1 = nI 1
      · refine ⟨0, by omega, ⟨fun q => absurd q (by omega), fun q => absurd c q⟩, fun s0 => ?_⟩
        rw [bX11_whole_27, sv_ai hs2 (by omega) (by omega), Option.bind_some]
        dsimp only
        rw [if_pos c, bX11_whole_45]
      · refine ⟨1, by omega, ⟨fun _ => c, fun _ => rfl⟩, fun s0 => ?_⟩
        rw [bX11_whole_27, sv_ai hs2 (by omega) (by omega), Option.bind_some]
        dsimp only
        rw [if_neg c, bX11_whole_45]
    obtain ⟨a0, ha0, ha0i, c11⟩ : ∃ a0, a0 ≤ 1 ∧ (a0 = 1 ↔ ¬ J2 0 129 0 ≤ nI 0) ∧ gX11_whole n J = bX11_whole_49 n am_fu (nI a0) (nI 0) (nI c0) (nI 1) J2 := by
      have c : gX11_whole n J = if J2 0 129 0 ≤ nI 0 then bX11_whole_27 n (nI 0) J2 else bX11_whole_27 n (nI 1) J2 := by
        rw [gX11_whole, bX11_whole_0, s2, Option.bind_some, w2, Option.bind_some]
        exact (if_pos n00).trans (am_gd_of (by decide))
      by_cases d : J2 0 129 0 ≤ nI 0
      · exact ⟨0, by omega, ⟨fun q => absurd q (by omega), fun q => absurd d q⟩, by rw [c, if_pos d, e27]⟩
      · exact ⟨1, by omega, ⟨fun _ => d, fun _ => rfl⟩, by rw [c, if_neg d, e27]⟩
    obtain ⟨a', b', c', p1, p2, p3, p4, p5, p6, p7⟩ := m_lp (n := n) hs2 127 1 am_fu a0 0 c0 (by omega) (by rw [hf]; omega) ha0 (by omega) hc0
    obtain ⟨r1, t1, t2, t3⟩ := k_tw (n := n) hs2 hK 127 1 am_fu (by omega) (by rw [hf]; omega)
    obtain ⟨r2, u1, u2, u3⟩ := k_la (n := n) hs2 hK 127 1 am_fu (by omega) (by rw [hf]; omega)
    obtain ⟨r3, v1, v2, v3⟩ := k_wl0 (n := n) hx.2.1 hs2 hK
    have q1 : r1 = a' := by
      have : r1 = 1 ↔ a' = 1 := by rw [t3, p4, ha0i]
      omega
    have q2 : r2 = b' := by
      have : r2 = 1 ↔ b' = 1 := by
        rw [u3, p5]
        exact ⟨Or.inr, fun q => q.resolve_left (by omega)⟩
      omega
    have q3 : r3 = c' := by
      have : r3 = 1 ↔ c' = 1 := by rw [v3, p6, hc0i]
      omega
    subst q1
    subst q2
    subst q3
    rw [c10, c11, p7, gX2_isNamedTwice, bX2_isNamedTwice_0, t2, Option.bind_some]
    dsimp only
    rcases Nat.le_one_iff_eq_zero_or_eq_one.mp t1 with e | e
    · subst e
      rw [if_pos n00, gX2_isLeftAlone, bX2_isLeftAlone_0, u2, Option.bind_some]
      dsimp only
      rcases Nat.le_one_iff_eq_zero_or_eq_one.mp u1 with e | e
      · subst e
        rw [if_pos n00, v2, Option.bind_some]
        dsimp only
        rcases Nat.le_one_iff_eq_zero_or_eq_one.mp v1 with e | e
        · subst e
          obtain ⟨I3, y1, y2, y3⟩ := k_own (n := n) hx hs2
          obtain ⟨J3, z1, z2, z3⟩ := r_hold (n := n) hx hs2
          have hs3 : SV (sR lg fb jl I J n) I3 J3 := sv_131 (sv_26 hs2 y3) z3
          obtain ⟨r, m1, m2, m3⟩ := k_maps (n := n) hx.2.2.2 hs3 hs3 y2 z2
          have h0 : J3 0 131 0 = nI 0 := by rw [z2 0 (by omega), cif_neg (fun q => absurd (mb_D q).1 (by omega))]
          have fl3 : FL I J I3 J3 := ⟨fun a b q => (y3 a b (by omega)).trans (fl2.1 a b q), fun a b q => (z3 a b (by omega)).trans (fl2.2 a b q)⟩
          have cE : wEnd n (nI 0) (nI 0) (nI 0) J2 = (gX11_areMapsWrong n J3).bind (fun q1 => if q1.1 = 0 then some (nI 0, q1.2) else some (nI 6, q1.2)) := by
            rw [wEnd, if_pos n00, if_pos n00, if_pos n00, z1, Option.bind_some]
            refine (am_gd_of (by decide)).trans ?_
            rw [show (nI 0).toNatClampNeg = 0 from rfl, h0]
            refine (if_pos (show nI 0 ≤ (0 : Int32) by decide)).trans ?_
            rw [bX11_whole_210]
            exact m_215 z2 639 1 am_fu (by omega) (by rw [hf]; omega)
          rw [if_pos n00, y1, Option.bind_some, cE, m3, Option.bind_some]
          dsimp only
          rw [if_neg n10, m2, Option.bind_some]
          dsimp only
          by_cases c : nI r = 0
          · rw [if_pos c, if_pos c]
            exact ⟨_, _, _, rfl, rfl, fl3⟩
          · rw [if_neg c, if_neg c]
            exact ⟨_, _, _, rfl, rfl, fl3⟩
        · subst e
          refine ⟨nI 4, I2, J2, if_neg n10, ?_, fl2⟩
          rw [wEnd, if_pos n00, if_pos n00, if_neg n10, bX11_whole_174, if_pos n00, if_pos n00]
          rfl
      · subst e
        refine ⟨nI 3, I2, J2, if_neg n10, ?_, fl2⟩
        rw [wEnd, if_pos n00, if_neg n10, bX11_whole_174, if_pos n00, if_neg n10]
        rfl
    · subst e
      refine ⟨nI 2, I2, J2, if_neg n10, ?_, fl2⟩
      rw [wEnd, if_neg n10, bX11_whole_174, if_neg n10]
      rfl
  · subst e
    refine ⟨nI 1, I2, J2, ?_, ?_, fl2⟩
    · rw [gX2_look, bX2_look_0, s1, Option.bind_some, w1, Option.bind_some, e21]
      exact if_neg n10
    · rw [gX11_whole, bX11_whole_0, s2, Option.bind_some, w2, Option.bind_some]
      exact if_neg n10
/-- all stays -/
theorem gs_fl (h : GS n T e g I J) (f : FL I J I' J') : GS n T e g I' J' ∧ cs n J' = cs n J := by
  obtain ⟨rw, gv, cl, A, jl, ⟨ms, H, B, K, lg, fb, fq, mk, h⟩, hg, hns, hW⟩ := h
  have oI : ∀ a b, ¬ (a = 0 ∧ 21 ≤ b ∧ b ≤ 26) → I' a b = I a b := f.1
  have oJ : ∀ a b, ¬ (a = 0 ∧ 127 ≤ b ∧ b ≤ 131) → J' a b = J a b := f.2
  refine ⟨⟨rw, gv, cl, A, jl, ⟨ms, H, B, K, lg, fb, fq, mk, ?_⟩, hg, fun z hz => (ns_cg (fun b q => oI z b (by omega)) (fun j r q1 q2 q3 => by rw [oJ 0 j (by omega)]) (fun j q => by rw [oJ 0 j (by omega)]) (hns z hz)).1, ?_⟩, cs_eq n (fun z _ => by unfold cal; rw [oJ 0 87 (by omega)])⟩
  · obtain ⟨a1, a2, a3, a4, a5, a6, a7, a8, a9, b1, b2, b3, b4⟩ := h
    have e65 := oJ 0 65 (by omega)
    have e66 := oJ 0 66 (by omega)
    have em : mrr n J' = mrr n J := mrr_cg e66
    have e64 := oJ 0 64 (by omega)
    have edD : dD J' = dD J := by unfold dD; rw [e64]
    have e47 : ∀ z, I' z 47 = I z 47 := fun z => oI z 47 (by omega)
    have efw : fwI I' = fwI I := funext fun z => funext fun k => funext fun i => by unfold fwI; rw [e47]
    obtain ⟨c0, c1, c2, c3, c4, c5, c6', c7, c8, c9, c10⟩ := a2
    refine ⟨a1, ⟨⟨by rw [oI 0 9 (by omega)]; exact c0.1, c0.2.1, fun k m hk c hc => by rw [oI 0 11 (by omega)]; exact c0.2.2 k m hk c hc⟩, ⟨by rw [oJ 0 60 (by omega)]; exact c1.1, c1.2.1, fun k m hk c hc => by rw [oJ 0 (101 + c) (by omega)]; exact c1.2.2 k m hk c hc⟩, by rw [oI 0 9 (by omega), oJ 0 60 (by omega)]; exact c2, by rw [oI 0 0 (by omega)]; exact c3, by rw [oJ 0 60 (by omega)]; exact c4, c5, fun v hv => by rw [oI 0 10 (by omega), oJ 0 107 (by omega)]; exact c6' v hv, by rw [oJ 0 108 (by omega)]; exact c7, c8, fun z hz => by rw [oI z 40 (by omega), oJ 0 65 (by omega)]; exact c9 z hz, by rw [oJ 0 60 (by omega)]; exact c10⟩, ms_cg a3 (fun j h4 h8 => oI 0 j (by omega)) (fun j h4 h8 => oJ 0 j (by omega)), ?_, fun z hz => nd_cg (a5 z hz) (fun j _ _ _ => oI z j (by omega)) (by rw [e66]) (fun b i _ _ => by rw [oJ 0 67 (by omega)]) (fun b _ => by rw [oJ 0 68 (by omega)]) (fun b _ => by rw [oJ 0 69 (by omega)]) (by rw [oJ 0 70 (by omega)]) (by rw [oJ 0 71 (by omega)]) (by rw [oJ 0 72 (by omega)]) (by rw [oJ 0 73 (by omega)]) (fun k _ => by rw [oJ 0 74 (by omega)]) (fun k i _ _ => by rw [oJ 0 75 (by omega)]) (fun r _ => ⟨by rw [oJ 0 76 (by omega)], by rw [oJ 0 77 (by omega)], by rw [oJ 0 78 (by omega)]⟩), fun z hz => ?_, by rw [e65, em]; exact a7, fun k hk => by rw [oI 0 1 (by omega), e64]; exact a8 k hk, ?_, cti_cg b1 (fun b i _ _ => by rw [e64]) e65 (fun z b i _ _ _ => by rw [oJ 0 67 (by omega)]) (fun z b _ _ => by rw [oJ 0 68 (by omega)]) (fun z k i _ _ _ => by rw [e47]) (fun z hz => (b2 z hz).2.1.2.1) a1.2, by rw [edD, efw]; exact b2, ?_, ?_⟩
    · unfold BKr at a4 ⊢
      rw [oI 0 13 (by omega), oI 0 14 (by omega), oJ 0 60 (by omega), oJ 0 125 (by omega), oJ 0 126 (by omega)]
      exact a4
    · obtain ⟨s1, s2, s3, s4⟩ := a6 z hz
      rw [e65, e66, em]
      exact ⟨s1, s2, s3, s4.1, by rw [oJ 0 71 (by omega), oJ 0 68 (by omega)]; exact s4.2⟩
    · unfold TID at a9 ⊢
      rw [oJ 0 120 (by omega), oI 0 19 (by omega), oI 0 15 (by omega)]
      exact a9
    · unfold MKr at b3 ⊢
      rw [oJ 0 125 (by omega), oJ 0 126 (by omega)]
      exact b3
    · unfold DUr at b4 ⊢
      rw [oI 0 12 (by omega)]
      exact b4
  · unfold WL at hW ⊢
    rw [oI 0 0 (by omega), oJ 0 60 (by omega), oJ 0 64 (by omega)]
    exact hW
/-- used blocks and inodes, by the maps on the disk -/
theorem ones_16 (x : Int32) : v_ones (x &&& nI 65535) 32 = v_ones x 16 := by
  unfold v_ones
  show v_sum (fun i => if bt (x &&& nI 65535) i = true then 1 else 0) (16 + 16) = _
  rw [v_sum_add]
  have h1 : v_sum (fun i => if bt (x &&& nI 65535) (16 + i) = true then 1 else 0) 16 = 0 := by
    rw [v_sum_cg (g := fun _ => 0) 16 (fun i _ => by
      show (if bt (x &&& nI 65535) (16 + i) = true then 1 else 0) = 0
      rw [b_and, b_ffff, decide_eq_false (by omega : ¬ 16 + i < 16), Bool.and_false]
      rfl)]
    rfl
  rw [h1, Nat.add_zero]
  exact v_sum_cg 16 (fun i hi => by
    show (if bt (x &&& nI 65535) i = true then 1 else 0) = (if bt x i = true then 1 else 0)
    rw [b_and, b_ffff, decide_eq_true hi, Bool.and_true])
/-- a bit of a map on the disk -/
def uB (J : am_I) (fl g i : Nat) : Nat := if bt (J 0 64 (16 * w_mp g + (if fl = 1 then 0 else 1 + i / 32))) (i % 32) = true then 1 else 0
def uM (fl : Nat) : Nat := if fl = 1 then 16 else 47
theorem u_13 {k4 : Int32 → Int32 → Int32 → am_I → Option (Int32 × am_I)} {fl gp c : Nat} (hfl : fl ≤ 1) (hg : gp < 8) : ∀ (m i fu : Nat), i + m = uM fl → m < fu → bX11_used_13 n k4 fu (nI fl) (nI (c + v_sum (uB J fl gp) i)) (nI gp) (nI i) J = k4 (nI fl) (nI (c + v_sum (uB J fl gp) (uM fl))) (nI (gp + 1)) J := by
  have hm := w_mp_lt hg
  have hM : uM fl ≤ 47 := by unfold uM; split <;> omega
  have e13 : ∀ (fu i : Nat) (l2 : Int32), bX11_used_13 n k4 (fu + 1) (nI fl) l2 (nI gp) (nI i) J = bX11_used_26 n k4 (bX11_used_13 n k4 fu) (nI fl) l2 (nI gp) (nI i) (nI (uM fl)) (nI i) J := fun fu i l2 => by
    conv => lhs; unfold bX11_used_13
    dsimp only
    rcases Nat.le_one_iff_eq_zero_or_eq_one.mp hfl with rfl | rfl
    · rw [if_pos n00]
      rfl
    · rw [if_neg n10]
      rfl
  intro m
  induction m with
  | zero =>
    intro i fu hi hfu
    obtain ⟨fu, rfl⟩ : ∃ f, fu = f + 1 := ⟨fu - 1, by omega⟩
    rw [e13, bX11_used_26, if_pos (by rw [z_le (by omega) (by omega)]; omega), nI_add, show i = uM fl by omega]
  | succ m ih =>
    intro i fu hi hfu
    obtain ⟨fu, rfl⟩ : ∃ f, fu = f + 1 := ⟨fu - 1, by omega⟩
    have key : ∀ w : Nat, w ≤ 2 → w = (if fl = 1 then 0 else 1 + i / 32) → bX11_used_55 n k4 (bX11_used_13 n k4 fu) (nI fl) (nI (c + v_sum (uB J fl gp) i)) (nI gp) (nI i) (nI w) (nI (16 * w_mp gp)) J = bX11_used_13 n k4 fu (nI fl) (nI (c + v_sum (uB J fl gp) (i + 1))) (nI gp) (nI (i + 1)) J := fun w hw2 hw => by
      have em : nI i - nI i / nI 32 * nI 32 = nI (i % 32) := z_mod (by omega) (by omega) (by omega)
      have ev : v_sum (uB J fl gp) (i + 1) = v_sum (uB J fl gp) i + uB J fl gp i := rfl
      rw [bX11_used_55, nI_add, am_gd_of (by rw [z_inb (by omega)]; exact decide_eq_true (by omega)), z_clamp (by omega), em, bX11_used_80, bX11_used_80, nI_add, nI_add, ev]
      unfold uB at *
      rw [← hw]
      by_cases q : bt (J 0 64 (16 * w_mp gp + w)) (i % 32) = true
      · rw [if_pos ((z_bit1 _ (by omega)).mpr q), if_pos q, Nat.add_assoc]
      · rw [if_neg (fun v => q ((z_bit1 _ (by omega)).mp v)), if_neg q]
        rfl
    rw [← ih (i + 1) fu (by omega) (by omega), e13, bX11_used_26, if_neg (by rw [z_le (by omega) (by omega)]; omega), a_mp, Option.bind_some]
    dsimp only
    rcases Nat.le_one_iff_eq_zero_or_eq_one.mp hfl with rfl | rfl
    · rw [if_pos n00, pk_div (by omega) (by omega) (by omega), nI_add, pk_mul]
      exact key (1 + i / 32) (by omega) rfl
    · rw [if_neg n10, pk_mul]
      exact key 0 (by omega) rfl
def uS (J : am_I) (fl : Nat) (k : Nat) : Nat := v_sum (fun gp => v_sum (uB J fl gp) (uM fl)) k
theorem u_4 {fl : Nat} (hfl : fl ≤ 1) : ∀ (m gp fu : Nat), gp + m = 8 → m < fu → bX11_used_4 n fu (nI fl) (nI (uS J fl gp)) (nI gp) J = some (nI (uS J fl 8), J) := by
  obtain ⟨f, hf, hf1⟩ := fu_ex
  intro m
  induction m with
  | zero =>
    intro gp fu hg hfu
    obtain ⟨fu, rfl⟩ : ∃ f, fu = f + 1 := ⟨fu - 1, by omega⟩
    unfold bX11_used_4
    dsimp only
    rw [if_pos (by rw [z_le (by omega) (by omega)]; omega), show gp = 8 by omega]
  | succ m ih =>
    intro gp fu hg hfu
    obtain ⟨fu, rfl⟩ : ∃ f, fu = f + 1 := ⟨fu - 1, by omega⟩
    have h13 := u_13 (n := n) (J := J) (k4 := bX11_used_4 n fu) (gp := gp) (c := uS J fl gp) hfl (by omega) (uM fl) 0 am_fu (by omega) (by unfold uM; rw [hf]; split <;> omega)
    conv => lhs; unfold bX11_used_4
    dsimp only
    rw [if_neg (by rw [z_le (by omega) (by omega)]; omega)]
    rw [show v_sum (uB J fl gp) 0 = 0 from rfl, Nat.add_zero] at h13
    rw [h13]
    exact ih (gp + 1) fu (by omega) (by omega)
theorem r_used {fl : Nat} (hfl : fl ≤ 1) : gX11_used n (nI fl) J = some (nI (uS J fl 8), J) := by
  obtain ⟨f, hf, hf1⟩ := fu_ex
  rw [gX11_used, bX11_used_0]
  exact u_4 hfl 8 0 am_fu (by omega) (by rw [hf]; omega)
theorem c_u4 {fl : Nat} (hfl : fl ≤ 1) (hd : ∀ k, k < 10240 → I 0 1 k = J 0 64 k) : ∀ (m gp fu : Nat), gp + m = 8 → m < fu → bX10_usedByMaps_4 n fu (nI (1 - fl)) (nI (uS J fl gp)) (nI gp) I = some (nI (uS J fl 8), I) := by
  intro m
  induction m with
  | zero =>
    intro gp fu hg hfu
    obtain ⟨fu, rfl⟩ : ∃ f, fu = f + 1 := ⟨fu - 1, by omega⟩
    unfold bX10_usedByMaps_4
    dsimp only
    rw [if_pos (by rw [z_le (by omega) (by omega)]; omega), show gp = 8 by omega]
  | succ m ih =>
    intro gp fu hg hfu
    obtain ⟨fu, rfl⟩ : ∃ f, fu = f + 1 := ⟨fu - 1, by omega⟩
    have hm := w_mp_lt (show gp < 8 by omega)
    have ev : uS J fl (gp + 1) = uS J fl gp + v_sum (uB J fl gp) (uM fl) := rfl
    have hw : ∀ i, i < 16 → I 0 1 (16 * w_mp gp + i) = J 0 64 (16 * w_mp gp + i) := fun i hi => hd _ (by omega)
    have hi := ih (gp + 1) fu (by omega) (by omega)
    have e16 : nI (w_mp gp) * nI 16 = nI (16 * w_mp gp + 0) := by rw [pk_mul]; exact congrArg nI (by omega)
    conv => lhs; unfold bX10_usedByMaps_4
    dsimp only
    rw [if_neg (by rw [z_le (by omega) (by omega)]; omega), c_mp, Option.bind_some]
    dsimp only
    rcases Nat.le_one_iff_eq_zero_or_eq_one.mp hfl with rfl | rfl
    · have es : v_sum (uB J 0 gp) (uM 0) = v_ones (J 0 64 (16 * w_mp gp + 1)) 32 + v_ones (J 0 64 (16 * w_mp gp + 2)) 15 := by
        show v_sum (uB J 0 gp) (32 + 15) = _
        rw [v_sum_add]
        unfold v_ones
        refine congr (congrArg HAdd.hAdd (v_sum_cg 32 (fun i hi => ?_))) (v_sum_cg 15 (fun i hi => ?_))
        · show (if bt (J 0 64 (16 * w_mp gp + (1 + i / 32))) (i % 32) = true then 1 else 0) = _
          rw [show 1 + i / 32 = 1 by omega, show i % 32 = i by omega]
        · show (if bt (J 0 64 (16 * w_mp gp + (1 + (32 + i) / 32))) ((32 + i) % 32) = true then 1 else 0) = _
          rw [show 1 + (32 + i) / 32 = 2 by omega, show (32 + i) % 32 = i by omega]
      rw [if_neg (show ¬ nI (1 - 0) = 0 by decide), e16, nI_add, nI_add, am_gd_of (by rw [z_inb (by omega)]; exact decide_eq_true (by omega)), z_clamp (by omega), Nat.add_zero, hw 1 (by omega), z_bc, Option.bind_some, am_gd_of (by rw [z_inb (by omega)]; exact decide_eq_true (by omega))]
      dsimp only
      rw [z_clamp (by omega), hw 2 (by omega), z_bc, Option.bind_some, ones_15, bX10_usedByMaps_70]
      dsimp only
      rw [nI_add, nI_add, nI_add, ← es, ← ev]
      exact hi
    · have es : v_sum (uB J 1 gp) (uM 1) = v_ones (J 0 64 (16 * w_mp gp + 0)) 16 := by
        show v_sum (uB J 1 gp) 16 = _
        unfold v_ones
        refine v_sum_cg 16 (fun i hi => ?_)
        show (if bt (J 0 64 (16 * w_mp gp + 0)) (i % 32) = true then 1 else 0) = _
        rw [show i % 32 = i by omega]
      rw [if_pos (show nI (1 - 1) = 0 from rfl), e16, am_gd_of (by rw [z_inb (by omega)]; exact decide_eq_true (by omega)), z_clamp (by omega), hw 0 (by omega), z_bc, Option.bind_some, ones_16, bX10_usedByMaps_70]
      dsimp only
      rw [nI_add, nI_add, ← es, ← ev]
      exact hi
theorem c_used {fl : Nat} (hfl : fl ≤ 1) (hd : ∀ k, k < 10240 → I 0 1 k = J 0 64 k) : gX10_usedByMaps n (nI (1 - fl)) I = some (nI (uS J fl 8), I) := by
  obtain ⟨f, hf, hf1⟩ := fu_ex
  rw [gX10_usedByMaps, bX10_usedByMaps_0]
  exact c_u4 hfl hd 8 0 am_fu (by omega) (by rw [hf]; omega)
/-- ABOUT -/
theorem pr_about (k : Nat) (I J : am_I) (p0 : Int32) (h : Inv n (k + 1) I J) : PR_about n k I J p0 := by
  unfold PR_about
  obtain ⟨T, e, g, h1, h2, h3, h4⟩ := id h
  rcases p_rng p0 (m := 10) (by omega) with ⟨t, ht, rfl⟩ | q
  · left
    obtain ⟨y1, y2⟩ := gs_60 (v := nI 0) h1
    have c11 : gX11_about n (nI t) J = (if nI t = nI 0 then (some (am_up J 0 60 0 (nI 0) 0 60 2, am_up J 0 60 0 (nI 0))) else (if nI t = nI 1 then (some (am_up J 0 60 0 (nI 0) 0 60 38, am_up J 0 60 0 (nI 0))) else (if nI t = nI 2 then (some (am_up J 0 60 0 (nI 0) 0 60 39, am_up J 0 60 0 (nI 0))) else (if nI t = nI 3 then (some (am_up J 0 60 0 (nI 0) 0 60 48, am_up J 0 60 0 (nI 0))) else (if nI t = nI 4 then (some (am_up J 0 60 0 (nI 0) 0 60 49, am_up J 0 60 0 (nI 0))) else (if nI t = nI 5 then (some (am_up J 0 60 0 (nI 0) 0 60 50, am_up J 0 60 0 (nI 0))) else (if nI t = nI 6 then (some (am_up J 0 60 0 (nI 0) 0 60 1, am_up J 0 60 0 (nI 0))) else (if nI t = nI 7 then ((gX11_used n (nI 0) (am_up J 0 60 0 (nI 0))).bind (fun q2 => some (q2.1, q2.2))) else (if nI t = nI 8 then ((gX11_used n (nI 1) (am_up J 0 60 0 (nI 0))).bind (fun q3 => some (q3.1, q3.2))) else ((gX11_whole n (am_up J 0 60 0 (nI 0))).bind (fun q4 => some (q4.1, q4.2)))))))))))) := by
      rw [gX11_about, bX11_about_0, x_in1 (by omega) (by omega) (by omega), Option.bind_some]
      dsimp only
      rw [if_neg n10, bX11_about_16, r_ref0, Option.bind_some]
      dsimp only
      rw [if_pos n00]
    have key : ∃ v I' J', gX10_about n (nI t) I = some (.inl (some v), I') ∧ gX11_about n (nI t) J = some (v, J') ∧ FL I (am_up J 0 60 0 (nI 0)) I' J' := by
      have rf : FL I (am_up J 0 60 0 (nI 0)) I (am_up J 0 60 0 (nI 0)) := ⟨fun _ _ _ => rfl, fun _ _ _ => rfl⟩
      rw [c11, gX10_about, bX10_about_0]
      obtain ⟨v0, I9, J9, l1, l2, l3⟩ := k_look y1
      obtain ⟨rw, gv, cl, A, jl, ⟨ms, H, B, K, lg, fb, fq, mk, hc⟩, hg, hns, hW⟩ := y1
      subst hg
      have hML := hc.2.1
      have hdu := hc.2.2.2.2.2.2.2.2.2.2.2.2
      have e0 : due T ms = [] := by
        have := hdu.2.1
        exact List.eq_nil_of_length_eq_zero (by omega)
      have hall : ∀ a, a ∈ ms → T < a 5 := fun a ha => by
        have := (List.filter_eq_nil_iff.mp e0) a ha
        rw [decide_eq_true_eq] at this
        omega
      have elat : lat T ms = ms := List.filter_eq_self.mpr (fun a ha => decide_eq_true (hall a ha))
      have hC := hML.1
      rw [elat] at hC
      have hd := hc.2.2.2.2.2.2.2.1
      have : t = 0 ∨ t = 1 ∨ t = 2 ∨ t = 3 ∨ t = 4 ∨ t = 5 ∨ t = 6 ∨ t = 7 ∨ t = 8 ∨ t = 9 := by omega
      rcases this with rfl | rfl | rfl | rfl | rfl | rfl | rfl | rfl | rfl | rfl
      · rw [if_pos (rfl : nI 0 = nI 0), if_pos (rfl : nI 0 = nI 0)]
        exact ⟨_, _, _, rfl, by rw [hML.2.2.2.1, hML.2.2.2.2.1], rf⟩
      · rw [if_neg (show ¬ nI 1 = nI 0 by decide), if_neg (show ¬ nI 1 = nI 0 by decide), if_pos (rfl : nI 1 = nI 1), if_pos (rfl : nI 1 = nI 1)]
        exact ⟨_, _, _, rfl, by rw [hC.1, hML.2.1.1], rf⟩
      · rw [if_neg (show ¬ nI 2 = nI 0 by decide), if_neg (show ¬ nI 2 = nI 0 by decide), if_neg (show ¬ nI 2 = nI 1 by decide), if_neg (show ¬ nI 2 = nI 1 by decide), if_pos (rfl : nI 2 = nI 2), if_pos (rfl : nI 2 = nI 2)]
        exact ⟨_, _, _, rfl, by rw [hML.2.2.1], rf⟩
      · rw [if_neg (show ¬ nI 3 = nI 0 by decide), if_neg (show ¬ nI 3 = nI 0 by decide), if_neg (show ¬ nI 3 = nI 1 by decide), if_neg (show ¬ nI 3 = nI 1 by decide), if_neg (show ¬ nI 3 = nI 2 by decide), if_neg (show ¬ nI 3 = nI 2 by decide), if_pos (rfl : nI 3 = nI 3), if_pos (rfl : nI 3 = nI 3)]
        exact ⟨_, _, _, rfl, by rw [hW.1], rf⟩
      · rw [if_neg (show ¬ nI 4 = nI 0 by decide), if_neg (show ¬ nI 4 = nI 0 by decide), if_neg (show ¬ nI 4 = nI 1 by decide), if_neg (show ¬ nI 4 = nI 1 by decide), if_neg (show ¬ nI 4 = nI 2 by decide), if_neg (show ¬ nI 4 = nI 2 by decide), if_neg (show ¬ nI 4 = nI 3 by decide), if_neg (show ¬ nI 4 = nI 3 by decide), if_pos (rfl : nI 4 = nI 4), if_pos (rfl : nI 4 = nI 4)]
        exact ⟨_, _, _, rfl, by rw [hc.2.2.2.1.2.1, hc.2.2.2.1.2.2.1], rf⟩
      · rw [if_neg (show ¬ nI 5 = nI 0 by decide), if_neg (show ¬ nI 5 = nI 0 by decide), if_neg (show ¬ nI 5 = nI 1 by decide), if_neg (show ¬ nI 5 = nI 1 by decide), if_neg (show ¬ nI 5 = nI 2 by decide), if_neg (show ¬ nI 5 = nI 2 by decide), if_neg (show ¬ nI 5 = nI 3 by decide), if_neg (show ¬ nI 5 = nI 3 by decide), if_neg (show ¬ nI 5 = nI 4 by decide), if_neg (show ¬ nI 5 = nI 4 by decide), if_pos (rfl : nI 5 = nI 5), if_pos (rfl : nI 5 = nI 5)]
        exact ⟨_, _, _, rfl, by rw [hW.2.1], rf⟩
      · rw [if_neg (show ¬ nI 6 = nI 0 by decide), if_neg (show ¬ nI 6 = nI 0 by decide), if_neg (show ¬ nI 6 = nI 1 by decide), if_neg (show ¬ nI 6 = nI 1 by decide), if_neg (show ¬ nI 6 = nI 2 by decide), if_neg (show ¬ nI 6 = nI 2 by decide), if_neg (show ¬ nI 6 = nI 3 by decide), if_neg (show ¬ nI 6 = nI 3 by decide), if_neg (show ¬ nI 6 = nI 4 by decide), if_neg (show ¬ nI 6 = nI 4 by decide), if_neg (show ¬ nI 6 = nI 5 by decide), if_neg (show ¬ nI 6 = nI 5 by decide), if_pos (rfl : nI 6 = nI 6), if_pos (rfl : nI 6 = nI 6)]
        exact ⟨_, _, _, rfl, by rw [hML.2.2.2.2.2.2.2.2.2.2], rf⟩
      · rw [if_neg (show ¬ nI 7 = nI 0 by decide), if_neg (show ¬ nI 7 = nI 0 by decide), if_neg (show ¬ nI 7 = nI 1 by decide), if_neg (show ¬ nI 7 = nI 1 by decide), if_neg (show ¬ nI 7 = nI 2 by decide), if_neg (show ¬ nI 7 = nI 2 by decide), if_neg (show ¬ nI 7 = nI 3 by decide), if_neg (show ¬ nI 7 = nI 3 by decide), if_neg (show ¬ nI 7 = nI 4 by decide), if_neg (show ¬ nI 7 = nI 4 by decide), if_neg (show ¬ nI 7 = nI 5 by decide), if_neg (show ¬ nI 7 = nI 5 by decide), if_neg (show ¬ nI 7 = nI 6 by decide), if_neg (show ¬ nI 7 = nI 6 by decide), if_pos (rfl : nI 7 = nI 7), if_pos (rfl : nI 7 = nI 7), c_used (n := n) (fl := 0) (by omega) hd, r_used (n := n) (fl := 0) (by omega)]
        exact ⟨_, _, _, rfl, rfl, rf⟩
      · rw [if_neg (show ¬ nI 8 = nI 0 by decide), if_neg (show ¬ nI 8 = nI 0 by decide), if_neg (show ¬ nI 8 = nI 1 by decide), if_neg (show ¬ nI 8 = nI 1 by decide), if_neg (show ¬ nI 8 = nI 2 by decide), if_neg (show ¬ nI 8 = nI 2 by decide), if_neg (show ¬ nI 8 = nI 3 by decide), if_neg (show ¬ nI 8 = nI 3 by decide), if_neg (show ¬ nI 8 = nI 4 by decide), if_neg (show ¬ nI 8 = nI 4 by decide), if_neg (show ¬ nI 8 = nI 5 by decide), if_neg (show ¬ nI 8 = nI 5 by decide), if_neg (show ¬ nI 8 = nI 6 by decide), if_neg (show ¬ nI 8 = nI 6 by decide), if_neg (show ¬ nI 8 = nI 7 by decide), if_neg (show ¬ nI 8 = nI 7 by decide), if_pos (rfl : nI 8 = nI 8), if_pos (rfl : nI 8 = nI 8), c_used (n := n) (fl := 1) (by omega) hd, r_used (n := n) (fl := 1) (by omega)]
        exact ⟨_, _, _, rfl, rfl, rf⟩
      · rw [if_neg (show ¬ nI 9 = nI 0 by decide), if_neg (show ¬ nI 9 = nI 0 by decide), if_neg (show ¬ nI 9 = nI 1 by decide), if_neg (show ¬ nI 9 = nI 1 by decide), if_neg (show ¬ nI 9 = nI 2 by decide), if_neg (show ¬ nI 9 = nI 2 by decide), if_neg (show ¬ nI 9 = nI 3 by decide), if_neg (show ¬ nI 9 = nI 3 by decide), if_neg (show ¬ nI 9 = nI 4 by decide), if_neg (show ¬ nI 9 = nI 4 by decide), if_neg (show ¬ nI 9 = nI 5 by decide), if_neg (show ¬ nI 9 = nI 5 by decide), if_neg (show ¬ nI 9 = nI 6 by decide), if_neg (show ¬ nI 9 = nI 6 by decide), if_neg (show ¬ nI 9 = nI 7 by decide), if_neg (show ¬ nI 9 = nI 7 by decide), if_neg (show ¬ nI 9 = nI 8 by decide), if_neg (show ¬ nI 9 = nI 8 by decide), if_pos (rfl : nI 9 = nI 9), l1, l2]
        exact ⟨_, _, _, rfl, rfl, l3⟩
    obtain ⟨v, I', J', r1, r2, r3⟩ := key
    obtain ⟨z1, z2⟩ := gs_fl y1 r3
    exact ⟨v, I', J', r1, r2, by rw [r3.2 0 60 (by omega)]; exact up60, T, e, g, z1, h2, by omega, by omega⟩
  · right
    refine ⟨nI 0, _, ?_, ?_, up60, inv_60 h⟩
    · have ne : ∀ j, j < 10 → ¬ p0 = nI j := fun j hj w => by
        subst w
        rcases q with q | q
        · rw [z_lt (by omega) (by omega)] at q; omega
        · rw [z_le (by omega) (by omega)] at q; omega
      rw [gX10_about, bX10_about_0, if_neg (ne 0 (by omega)), if_neg (ne 1 (by omega)), if_neg (ne 2 (by omega)), if_neg (ne 3 (by omega)), if_neg (ne 4 (by omega)), if_neg (ne 5 (by omega)), if_neg (ne 6 (by omega)), if_neg (ne 7 (by omega)), if_neg (ne 8 (by omega)), if_neg (ne 9 (by omega))]
    · rw [gX11_about, bX11_about_0, x_in0 q (by omega), Option.bind_some]
      dsimp only
      rw [if_pos n00, bX11_about_16, r_ref1, Option.bind_some]
      dsimp only
      rw [if_neg n10]
end LOOK
