def ncn (f : Nat → Int32) : Nat → Nat → Nat
  | _, 0 => 0
  | i, m + 1 => (if f i = nI 0 then 0 else 1) + ncn f (i + 1) m
theorem ncn_le (f : Nat → Int32) : ∀ m i, ncn f i m ≤ m
  | 0, _ => Nat.le_refl _
  | m + 1, i => by
    have := ncn_le f m (i + 1)
    unfold ncn
    split <;> omega
theorem ncn_last (f : Nat → Int32) : ∀ m i, ncn f i (m + 1) = ncn f i m + (if f (i + m) = nI 0 then 0 else 1)
  | 0, i => by simp only [ncn, Nat.add_zero, Nat.zero_add]
  | m + 1, i => by
    have := ncn_last f m (i + 1)
    rw [ncn, this, show i + 1 + m = i + (m + 1) from by omega]
    conv => rhs; rw [ncn]
    omega
theorem fu_ex : ∃ f, am_fu = f + 1 ∧ 10000 < f := ⟨19999, rfl, by omega⟩
section STAT
variable {n y : Nat} {Hd : Nat → Int} {F0 F F' : (Nat → Nat) → wS} {I0 J0 I J : am_I} {X : List Nat} {E : Nat → Prop} {gn : List Nat} {gp gp' pd pd' : Nat → Prop}
/-- a cached block is read again by the class: nothing changes -/
theorem c_readc {b i : Nat} (hC : TC n y Hd I0 J0) (h : TN y Hd F0 I0 J0 X E F gn gp pd I J) (hb : tH y J b) (hE : ¬ E b) (hi : i < 16) : gX9_read n (nI b) (nI i) I = some (vw y J b i, I) := by
  obtain ⟨B, sv, cv, p1, p2, p3, p4, p5, p6, p7, p8, p9, p10, p11, p12, p13, p14, p15⟩ := h.1
  have h43 : I y 43 b = nI 1 := by rw [p6 b hb.1]; exact hb.2
  have g : b * 16 + i < 10240 := by have := hb.1; omega
  rw [vw_at hb.1 hi, ← p7 b i hb.1 hi hE]
  unfold c_v
  rw [if_pos h43]
  have hn := hC.1
  have hn4 := hC.2.1
  have hbl := hb.1
  simp (disch := omega) only [gX9_read, bX9_read_0, bX9_read_30, c_isw hbl hi, Option.bind_some, z_10, if_false, p2.1, z_clamp, hn, decide_true, z_gdt, z_inb, hbl, h43, pk_mul, nI_add, g]
theorem cp_lp {b e : Nat} (hC : TC n y Hd I0 J0) (h : TN y Hd F0 I0 J0 X E F gn gp pd I J) (hb : tH y J b) (hE : ¬ E b) (he : e ≤ 16) : ∀ (m i c fu : Nat), i + m = e → m < fu → c + m < 1000 → bX9_countPlaces_6 n fu (nI b) (nI e) (nI c) (nI i) I = some (nI (c + ncn (vw y J b) i m), I) := by
  intro m
  induction m with
  | zero =>
    intro i c fu hi hf hc
    obtain ⟨fu, rfl⟩ : ∃ f, fu = f + 1 := ⟨fu - 1, by omega⟩
    have hle : e ≤ i := by omega
    simp (disch := omega) only [bX9_countPlaces_6, z_le, hle, if_true, ncn, Nat.add_zero]
  | succ m ih =>
    intro i c fu hi hf hc
    obtain ⟨fu, rfl⟩ : ∃ f, fu = f + 1 := ⟨fu - 1, by omega⟩
    have hle : ¬ e ≤ i := by omega
    have hr := c_readc (n := n) (i := i) hC h hb hE (by omega)
    conv => lhs; unfold bX9_countPlaces_6
    by_cases hx : vw y J b i = nI 0
    · have hx0 : vw y J b i = 0 := hx
      simp (disch := omega) only [z_le, hle, if_false, hr, Option.bind_some, hx0, if_true, bX9_countPlaces_29, nI_add]
      rw [ih (i + 1) (c + 0) fu (by omega) (by omega) (by omega), ncn, if_pos hx]
      rw [show c + 0 + ncn (vw y J b) (i + 1) m = c + (0 + ncn (vw y J b) (i + 1) m) from by omega]
    · have hx0 : ¬ vw y J b i = 0 := hx
      have hcl := ncn_le (vw y J b) m (i + 1)
      simp (disch := omega) only [z_le, hle, if_false, hr, Option.bind_some, hx0, bX9_countPlaces_29, nI_add]
      rw [ih (i + 1) (c + 1) fu (by omega) (by omega) (by omega), ncn, if_neg hx]
      rw [show c + 1 + ncn (vw y J b) (i + 1) m = c + (1 + ncn (vw y J b) (i + 1) m) from by omega]
theorem rs_lp {k : Nat} (hy : y < 4) (h51 : J 0 60 51 = nI y) (hk : k < 128) (hb : tH y J (w_ib k)) : ∀ (m i c fu : Nat), i + m = 12 → m < fu → c + m < 1000 → bX11_tryStat_47 n fu (nI k) (nI c) (nI i) J = (gX11_ofInode n (nI k) (nI 11) J).bind (fun q1 => bX11_tryStat_90 n am_fu (nI (c + ncn (vw y J (w_ib k)) i m)) q1.1 (nI 0) q1.2) := by
  intro m
  induction m with
  | zero =>
    intro i c fu hi hf hc
    obtain ⟨fu, rfl⟩ : ∃ f, fu = f + 1 := ⟨fu - 1, by omega⟩
    have hle : 11 < i := by omega
    conv => lhs; unfold bX11_tryStat_47
    simp (disch := omega) only [z_lt, hle, if_true, ncn, Nat.add_zero]
  | succ m ih =>
    intro i c fu hi hf hc
    obtain ⟨fu, rfl⟩ : ∃ f, fu = f + 1 := ⟨fu - 1, by omega⟩
    have hle : ¬ 11 < i := by omega
    have hr := r_getc (n := n) (i := i) hy hb (by omega) h51
    conv => lhs; unfold bX11_tryStat_47
    by_cases hx : vw y J (w_ib k) i = nI 0
    · have hx0 : vw y J (w_ib k) i = 0 := hx
      simp (disch := omega) only [z_lt, hle, if_false, a_of hk, hr, Option.bind_some, hx0, if_true, bX11_tryStat_71, nI_add]
      rw [ih (i + 1) c fu (by omega) (by omega) (by omega), ncn, if_pos hx, Nat.zero_add, a_of hk]
    · have hx0 : ¬ vw y J (w_ib k) i = 0 := hx
      simp (disch := omega) only [z_lt, hle, if_false, a_of hk, hr, Option.bind_some, hx0, bX11_tryStat_71, nI_add]
      rw [ih (i + 1) (c + 1) fu (by omega) (by omega) (by omega), ncn, if_neg hx, a_of hk, show c + 1 + ncn (vw y J (w_ib k)) (i + 1) m = c + (1 + ncn (vw y J (w_ib k)) (i + 1) m) from by omega]
theorem rs_lp2 {x : Nat} (hy : y < 4) (h51 : J 0 60 51 = nI y) (hx0 : w_D x) (hb : tH y J x) : ∀ (m i c fu : Nat), i + m = 16 → m < fu → c + m < 1000 → bX11_tryStat_90 n fu (nI c) (nI x) (nI i) J = some (am_up J 0 60 55 (nI (c + ncn (vw y J x) i m))) := by
  have hxz : ¬ nI x = (0 : Int32) := w_D0 hx0
  intro m
  induction m with
  | zero =>
    intro i c fu hi hf hc
    obtain ⟨fu, rfl⟩ : ∃ f, fu = f + 1 := ⟨fu - 1, by omega⟩
    have hle : 16 ≤ i := by omega
    conv => lhs; unfold bX11_tryStat_90
    simp (disch := omega) only [z_le, hle, if_true, ncn, Nat.add_zero, bX11_tryStat_127, am_lt]
  | succ m ih =>
    intro i c fu hi hf hc
    obtain ⟨fu, rfl⟩ : ∃ f, fu = f + 1 := ⟨fu - 1, by omega⟩
    have hle : ¬ 16 ≤ i := by omega
    have hr := r_getc (n := n) (i := i) hy hb (by omega) h51
    conv => lhs; unfold bX11_tryStat_90
    by_cases hx : vw y J x i = nI 0
    · have hx0 : vw y J x i = 0 := hx
      simp (disch := omega) only [z_le, hle, if_false, hxz, hr, Option.bind_some, hx0, if_true, bX11_tryStat_120, nI_add]
      rw [ih (i + 1) c fu (by omega) (by omega) (by omega), ncn, if_pos hx, Nat.zero_add]
    · have hx0 : ¬ vw y J x i = 0 := hx
      simp (disch := omega) only [z_le, hle, if_false, hxz, hr, Option.bind_some, hx0, bX11_tryStat_120, nI_add]
      rw [ih (i + 1) (c + 1) fu (by omega) (by omega) (by omega), ncn, if_neg hx, show c + 1 + ncn (vw y J x) (i + 1) m = c + (1 + ncn (vw y J x) (i + 1) m) from by omega]
theorem cp_first {x : Nat} {I1 I4 : am_I} {v : Int32} (fu : Nat) (g1 : gX9_read n (nI x) (nI 0) I1 = some (v, I4)) (q : gX9_read n (nI x) (nI 0) I4 = some (v, I4)) : bX9_countPlaces_6 n (fu + 1) (nI x) (nI 16) (nI 0) (nI 0) I1 = bX9_countPlaces_6 n (fu + 1) (nI x) (nI 16) (nI 0) (nI 0) I4 := by
  conv => lhs; unfold bX9_countPlaces_6
  conv => rhs; unfold bX9_countPlaces_6
  simp (disch := omega) only [z_le, (by decide : ¬ 16 ≤ 0), if_false, g1, q]
theorem rs_first {x c : Nat} {J1 J4 : am_I} {v : Int32} (fu : Nat) (hx0 : ¬ nI x = (0 : Int32)) (g1 : gX11_get n (nI x) (nI 0) J1 = some (v, J4)) (q : gX11_get n (nI x) (nI 0) J4 = some (v, J4)) : bX11_tryStat_90 n (fu + 1) (nI c) (nI x) (nI 0) J1 = bX11_tryStat_90 n (fu + 1) (nI c) (nI x) (nI 0) J4 := by
  conv => lhs; unfold bX11_tryStat_90
  conv => rhs; unfold bX11_tryStat_90
  simp (disch := omega) only [z_le, (by decide : ¬ 16 ≤ 0), if_false, hx0, g1, q]
theorem rs_none {c : Nat} (fu : Nat) : bX11_tryStat_90 n (fu + 1) (nI c) (nI 0) (nI 0) J = some (am_up J 0 60 55 (nI c)) := by
  conv => lhs; unfold bX11_tryStat_90
  simp (disch := omega) only [z_le, (by decide : ¬ 16 ≤ 0), if_false, z_00, if_true, bX11_tryStat_127, am_lt]
theorem rs_start {k : Nat} {v : Int32} {J1 : am_I} (hk : k < 128) (e2 : gX11_meets n (nI k) (nI 1) J = some (nI 1, J)) (f2 : gX11_get n (nI (w_ib k)) (nI 0) J = some (v, J1)) (hz : ¬ v = (0 : Int32)) : gX11_tryStat n (nI k) (nI 3) J = bX11_tryStat_47 n am_fu (nI k) (nI 0) (nI 3) J1 := by
  rw [gX11_tryStat, bX11_tryStat_0, e2, Option.bind_some]
  show (if nI 1 = (0 : Int32) then _ else _) = _
  rw [if_neg (by decide), a_of hk, f2, Option.bind_some]
  show (if v = (0 : Int32) then _ else _) = _
  rw [if_neg hz, if_pos (by decide)]
theorem k_stat {k w : Nat} (hC : TC n y Hd I0 J0) (h : TN0 y Hd F0 I0 J0 I J) (hk : k < 128) (hw : w ≤ 3) (ha : I0 y 55 1 = nI k) (hb : I0 y 55 2 = nI w) : ∃ I' J', gX9_stat n y I = some I' ∧ gX11_tryStat n (nI k) (nI w) J = some J' ∧ (EN y Hd F0 I0 J0 I' J' ∨ DN y Hd F0 I0 J0 (nI 1) I' J') := by
  have hn4 := hC.2.1
  have hyn := hC.1
  obtain ⟨f, hf, hfb⟩ := fu_ex
  rcases tn_meet (r := k) (m := 1) hC h (by omega) (Or.inl rfl) with ⟨hH, e1, e2⟩ | ⟨I1, J1, e1, e2, e3⟩
  · have hH0 : 0 < Hd k := by omega
    obtain ⟨I1, J1, f1, f2, f3, f4, f5⟩ := tn_rdv (i := 0) hC h (w_ib_lt hk) (by decide) (fun q => q) (Or.inr (Or.inl ⟨k, hk, rfl, hH0⟩))
    by_cases hz : vw y J (w_ib k) 0 = nI 0
    · have hz0 : vw y J (w_ib k) 0 = 0 := hz
      obtain ⟨I3, J3, g1, g2, g3⟩ := tn_fail (n := n) (f := (-5 : Int32)) f3 (by decide)
      refine ⟨I3, J3, ?_, ?_, Or.inl g3⟩
      · simp (disch := omega) only [gX9_stat, bX9_stat_0, tn_a h, ha, e1, Option.bind_some, z_10, if_false, c_ib n k I hk, f1, hz0, if_true, g1]
      · simp (disch := omega) only [gX11_tryStat, bX11_tryStat_0, e2, Option.bind_some, z_10, if_false, a_of hk, f2, hz0, if_true, g2]
    · have hz0 : ¬ vw y J (w_ib k) 0 = 0 := hz
      have h51 := (tn_c f3).2
      by_cases hw2 : 2 < w
      · obtain rfl : w = 3 := by omega
        have c1 := cp_lp (e := 11) hC f3 f5 (fun q => q) (by omega) 8 3 0 am_fu (by omega) (fu_lt (by omega)) (by omega)
        have c2 := c_readc (n := n) (i := 11) hC f3 f5 (fun q => q) (by omega)
        have c3 := r_getc (n := n) (i := 11) (by omega) f5 (by omega) h51
        have d1 := rs_lp (n := n) (by omega) h51 hk f5 9 3 0 am_fu (by omega) (fu_lt (by omega)) (by omega)
        simp only [a_of hk, c3, Option.bind_some, Nat.zero_add] at d1
        rw [Nat.zero_add] at c1
        have hR : gX11_tryStat n (nI k) (nI 3) J = bX11_tryStat_90 n am_fu (nI (ncn (vw y J1 (w_ib k)) 3 9)) (vw y J1 (w_ib k) 11) (nI 0) J1 := by
          exact (rs_start hk e2 f2 hz0).trans d1
        rcases tr_ix (p := 0) (b := 0) f3.1 hk hH0 with h0 | ⟨x, x1, x2, x3⟩
        · have h00 : vw y J1 (w_ib k) 11 = 0 := h0
          rw [h00] at c2
          refine ⟨_, _, ?_, ?_, Or.inr (tn_done0 (v := nI (ncn (vw y J1 (w_ib k)) 3 8)) f3)⟩
          · simp (disch := omega) only [gX9_stat, bX9_stat_0, bX9_stat_101, tn_a h, ha, e1, Option.bind_some, z_10, if_false, c_ib n k I hk, f1, hz0, tn_a f3, hb, z_lt, (by decide : 2 < 3), if_true, gX9_countPlaces, bX9_countPlaces_0, c1, c2, c_fin]
          · have hsum : ncn (vw y J1 (w_ib k)) 3 9 = ncn (vw y J1 (w_ib k)) 3 8 := by
              rw [ncn_last (vw y J1 (w_ib k)) 8 3, if_pos h0, Nat.add_zero]
            rw [hR, hsum, h0, hf]
            exact rs_none f
        · have hx0 : ¬ nI x = (0 : Int32) := w_D0 x2
          rw [x1] at c2
          obtain ⟨I4, J4, g1, g2, g3, g4, g5⟩ := tn_rdv (i := 0) hC f3 (w_D_lt x2) (by omega) (fun q => q) (tr_rdo (k := k) (p := 24) f3.1 hH0 x3 f5 (fun _ q => absurd q (by decide)))
          have h51' := (tn_c g3).2
          have c4 := cp_lp (e := 16) hC g3 g5 (fun q => q) (by omega) 16 0 0 am_fu (by omega) (fu_lt (by omega)) (by omega)
          have r4 := rs_lp2 (n := n) (by omega) h51' x2 g5 16 0 (ncn (vw y J1 (w_ib k)) 3 9) am_fu (by omega) (fu_lt (by omega)) (by have := ncn_le (vw y J1 (w_ib k)) 9 3; omega)
          -- the loops' first reads: as if the block had been there
          have q1 := c_readc (n := n) (i := 0) hC g3 g5 (fun q => q) (by omega)
          rw [g4.1] at q1
          have q2 := r_getc (n := n) (i := 0) (by omega) g5 (by omega) h51'
          rw [g4.1] at q2
          have cI := cp_first f g1 q1
          have cJ := rs_first (c := ncn (vw y J1 (w_ib k)) 3 9) f hx0 g2 q2
          rw [← hf] at cI cJ
          have hsum : ncn (vw y J1 (w_ib k)) 3 9 = ncn (vw y J1 (w_ib k)) 3 8 + 1 := by
            rw [ncn_last (vw y J1 (w_ib k)) 8 3, if_neg (by rw [show 3 + 8 = 11 from rfl, x1]; exact w_D0 x2)]
          rw [Nat.zero_add] at c4
          refine ⟨_, _, ?_, ?_, Or.inr (tn_done0 (v := nI (ncn (vw y J1 (w_ib k)) 3 9 + ncn (vw y J4 x) 0 16)) g3)⟩
          · rw [hsum, ← nI_add, ← nI_add]
            simp (disch := omega) only [gX9_stat, bX9_stat_0, bX9_stat_101, tn_a h, ha, e1, Option.bind_some, z_10, if_false, c_ib n k I hk, f1, hz0, tn_a f3, hb, z_lt, (by decide : 2 < 3), if_true, gX9_countPlaces, bX9_countPlaces_0, c1, c2, hx0, cI, c4, c_fin]
          · rw [hR, x1, cJ, r4]
      · obtain ⟨I4, J4, g1, g2, g3, g4, g5⟩ := tn_rdv (i := w) hC f3 (w_ib_lt hk) (by omega) (fun q => q) (Or.inl f5)
        have hw3 : ¬ 3 ≤ w := by omega
        refine ⟨_, _, ?_, ?_, Or.inr (tn_done0 (v := vw y J1 (w_ib k) w) g3)⟩
        · simp (disch := omega) only [gX9_stat, bX9_stat_0, bX9_stat_101, tn_a h, ha, e1, Option.bind_some, z_10, if_false, c_ib n k I hk, f1, hz0, tn_a f3, hb, z_lt, hw2, g1, c_fin]
        · simp (disch := omega) only [gX11_tryStat, bX11_tryStat_0, e2, Option.bind_some, z_10, if_false, a_of hk, f2, hz0, z_le, hw3, g2, am_lt]
  · refine ⟨I1, J1, ?_, ?_, Or.inl e3⟩
    · simp only [gX9_stat, bX9_stat_0, tn_a h, ha, e1, Option.bind_some, z_00, if_true]
    · simp only [gX11_tryStat, bX11_tryStat_0, e2, Option.bind_some, z_00, if_true]
end STAT
