
section CUT
variable {n y : Nat} {Hd : Nat → Int} {F0 F F' : (Nat → Nat) → wS} {I0 J0 I J : am_I} {X : List Nat} {E : Nat → Prop} {gn : List Nat} {gp gp' pd pd' : Nat → Prop}
theorem tr_wf0 {L : Nat → Nat} (h : TR y Hd F0 I0 J0 X E F gn gp pd I J) (hL : L y = 2) : x_wf (F0 L) (fun _ => False) := by
  obtain ⟨sv, Bh, hT⟩ := tr_ti h
  exact (hT L hL).2.2.2.2.2.2.2.2.2.2.2.2
/-- the block of a word, the class having set the size -/
theorem cut_bof {t a : Nat} (hC : TC n y Hd I0 J0) (ht : t < 128) (hH : Hd t = 2) (ha : a < 384) (h : TN y Hd F0 I0 J0 X E F gn gp pd I J) (hE2 : 128 ≤ a → ∀ c, ¬ c = w_ib t → ¬ E c) (hib : tH y J (w_ib t)) (hcv : ∀ j, j < 16 → ¬ j = 2 → c_v y I (w_ib t) j = vw y J (w_ib t) j) :
    ∃ I' J', gX9_blockOf n (nI t) (nI a) I = some (w_pl (vw y J) t (a / 16), I') ∧ gX11_blockOf n (nI t) (nI a) J = some (w_pl (vw y J) t (a / 16), J') ∧ TN y Hd F0 I0 J0 X E F gn gp pd I' J' ∧ RO y I J I' J' ∧ I' 0 19 = I 0 19 ∧ (∀ j, j < 16 → c_v y I' (w_ib t) j = c_v y I (w_ib t) j) ∧ (8 ≤ a / 16 → ¬ vw y J (w_ib t) 11 = nI 0 → tH y J' (vw y J (w_ib t) 11).toNatClampNeg) := by
  have hn4 := hC.2.1
  have hyn := hC.1
  by_cases h8 : 8 ≤ a / 16
  · have h128 : 128 ≤ a := by omega
    have q1 := c_readv (n := n) (i := 11) hC h hib (by omega)
    rw [hcv 11 (by omega) (by omega)] at q1
    have q2 := r_getc (n := n) (i := 11) (by omega) hib (by omega) (tn_c h).2
    rcases tr_ix (p := 0) (b := 0) h.1 ht (by omega) with h0 | ⟨x, x1, x2, x3⟩
    · have hp : w_pl (vw y J) t (a / 16) = nI 0 := by
        unfold w_pl
        rw [if_neg (by omega), if_neg (by omega), if_pos h0]
      rw [h0] at q1 q2
      refine ⟨I, J, ?_, ?_, h, RO.rf, rfl, fun _ _ => rfl, fun _ q => absurd h0 q⟩
      · rw [hp]
        simp (disch := omega) only [gX9_blockOf, bX9_blockOf_0, bX9_blockOf_54, pk_div, z_le, h8, if_true, c_ib n t I ht, Option.bind_some, q1, z_00]
      · rw [hp]
        simp (disch := omega) only [gX11_blockOf, bX11_blockOf_0, bX11_blockOf_47, z_le, h128, if_true, a_of ht, q2, Option.bind_some, z_00]
    · have hp : w_pl (vw y J) t (a / 16) = vw y J x (a / 16 - 8) := by
        unfold w_pl
        rw [if_neg (by omega), if_neg (by omega), x1, if_neg (w_D0 x2), nI_clamp (w_Dlt x2)]
      rw [x1] at q1 q2
      obtain ⟨I2, J2, f1, f2, f3, f4, f5⟩ := tn_rdv (i := a / 16 - 8) hC h (w_D_lt x2) (by omega) (hE2 h128 x (D_ib' x2 ht)) (tr_rdo h.1 (by omega) x3 hib (fun _ q => absurd q (by decide)))
      have hx0 : ¬ nI x = (0 : Int32) := w_D0 x2
      have fc := cv_rd hC h.1 (w_D_lt x2) (by omega) f1
      refine ⟨I2, J2, ?_, ?_, f3, f4, n19_rd hC h.1 (w_D_lt x2) (by omega) f1, fun j hj => fc _ j (w_ib_lt ht) hj, fun _ _ => by rw [x1, nI_clamp (w_Dlt x2)]; exact f5⟩
      · rw [hp]
        simp (disch := omega) only [gX9_blockOf, bX9_blockOf_0, bX9_blockOf_54, pk_div, pk_sub, z_le, h8, if_true, c_ib n t I ht, Option.bind_some, q1, hx0, if_false, f1]
      · rw [hp]
        simp (disch := omega) only [gX11_blockOf, bX11_blockOf_0, bX11_blockOf_47, z_le, h128, if_true, a_of ht, q2, Option.bind_some, hx0, if_false, pk_div, pk_sub, f2]
  · have hp : w_pl (vw y J) t (a / 16) = vw y J (w_ib t) (3 + a / 16) := by
      unfold w_pl
      rw [if_pos (by omega)]
    have q1 := c_readv (n := n) (i := 3 + a / 16) hC h hib (by omega)
    rw [hcv (3 + a / 16) (by omega) (by omega)] at q1
    have q2 := r_bofc (n := n) (a := a) (by omega) h.1 ht (by omega) ha hib (fun q => absurd q h8)
    refine ⟨I, J, ?_, q2, h, RO.rf, rfl, fun _ _ => rfl, fun q => absurd q h8⟩
    rw [hp]
    simp (disch := omega) only [gX9_blockOf, bX9_blockOf_0, z_le, h8, if_false, c_ib n t I ht, pk_div, nI_add, q1, Option.bind_some]
/-- CUT behind its blocks -/
theorem cut_tail {t a : Nat} {had : Int32} (hC : TC n y Hd I0 J0) (ht : t < 128) (hH : Hd t = 2) (ha : a ≤ 384) (h : TN y Hd F0 I0 J0 X E F gn (fun c => c ∈ gn) (fun _ => False) I J) (hX : X.length ≤ 7) (htX : w_ib t ∈ X) (hE : ∀ c, E c → c ∈ gn) (hEt : ¬ E (w_ib t)) (hE2 : 128 < a → ∀ c, ¬ E c) (hci : ∀ L, L y = 2 → CI0 t (F0 L) (F L) ∧ NG0 gn (F L)) (hib : tH y J (w_ib t)) (hk : vw y J (w_ib t) 0 = nI 1) (hk0 : ∀ L, L y = 2 → F0 L (w_ib t) 0 = nI 1 ∧ F0 L (w_ib t) 1 = vw y J (w_ib t) 1) (ha1 : I0 y 55 1 = nI t) :
    ∃ I' J', bX9_cut_120 n y (nI (w_ib t)) (nI a) had I = some I' ∧ bX11_tryCut_194 n (nI t) (nI a) had J = some J' ∧ DN y Hd F0 I0 J0 (nI 1) I' J' := by
  have hn4 := hC.2.1
  have hyn := hC.1
  obtain ⟨f, hf, hfb⟩ := fu_ex
  have hm16 : a - a / 16 * 16 = a % 16 := by omega
  obtain ⟨I1, s1, s2, s3, s4⟩ := tn_cset (n := n) (i := 2) (v := nI a) hC (tn_E (E' := fun c => E c ∨ c = w_ib t) h (fun c q => Or.inl q)) hib (by omega) (Or.inr rfl) htX (by omega)
  have n1 := n19_set (c := w_ib t) hC h.1 (by omega) (w_ib_lt ht) (by omega) (w_ib_lt ht) s1 (Or.inr rfl)
  have hcv1 : ∀ j, j < 16 → c_v y I1 (w_ib t) j = w_up (vw y J) (w_ib t) 2 (nI a) (w_ib t) j := fun j hj => by
    rw [s3 _ j (w_ib_lt ht) hj]
    unfold w_up
    rw [tn_cv h (w_ib_lt ht) hj hEt]
  have c147 : ∀ l K, bX9_cut_155 n am_fu had (nI 0) l K = bX9_cut_182 n had K := fun l K => by
    rw [hf]
    conv => lhs; unfold bX9_cut_155
    simp only [z_00, if_true]
  have c219 : ∀ l K, bX11_tryCut_219 n am_fu (nI t) (nI a) had (nI 0) l K = bX11_tryCut_246 n (nI t) (nI a) had K := fun l K => by
    rw [hf]
    conv => lhs; unfold bX11_tryCut_219
    simp only [z_00, if_true, ite_self]
  have mid : ∃ X' F' I2 J2, bX9_cut_120 n y (nI (w_ib t)) (nI a) had I = bX9_cut_182 n had I2 ∧ bX11_tryCut_194 n (nI t) (nI a) had J = bX11_tryCut_246 n (nI t) (nI a) had J2 ∧ X'.length ≤ 8 ∧ TN y Hd F0 I0 J0 X' (fun c => E c ∨ c = w_ib t) F' gn (fun c => c ∈ gn) (fun _ => False) I2 J2 ∧ (∀ L, L y = 2 → CI0 t (F0 L) (F' L) ∧ NG0 gn (F' L)) ∧ (∀ i, vw y J2 (w_ib t) i = vw y J (w_ib t) i) ∧ tH y J2 (w_ib t) ∧ I2 0 19 (w_ib t) = nI 1 ∧ (∀ j, j < 16 → c_v y I2 (w_ib t) j = c_v y I1 (w_ib t) j) := by
    by_cases h0 : a % 16 = 0
    · refine ⟨X, F, I1, J, ?_, ?_, by omega, s2, hci, fun _ => rfl, hib, n1, fun _ _ => rfl⟩
      · rw [bX9_cut_120, s1, Option.bind_some, pk_div (by omega) (by decide) (by decide), pk_mul, pk_sub (by omega), hm16, h0, if_pos (show nI 0 = (0 : Int32) from rfl), bX9_cut_147, c147]
      · rw [bX11_tryCut_194, pk_div (by omega) (by decide) (by decide), pk_mul, pk_sub (by omega), hm16, h0, if_pos (show nI 0 = (0 : Int32) from rfl), bX11_tryCut_211, c219]
    · have hne : ¬ nI (a % 16) = (0 : Int32) := fun e => h0 (w_nI (by omega) (by decide) e)
      obtain ⟨I2, J2, e1, e2, e3, e4, e5, e6, e7⟩ := cut_bof (n := n) (a := a) hC ht hH (by omega) s2 (fun q c hc hq => hq.elim (hE2 (by omega) c) hc) hib (fun j hj hj2 => by rw [hcv1 j hj, w_up_i _ _ _ hj2])
      have cI : bX9_cut_120 n y (nI (w_ib t)) (nI a) had I = bX9_cut_155 n am_fu had (w_pl (vw y J) t (a / 16)) (nI (a % 16)) I2 := by
        rw [bX9_cut_120, s1, Option.bind_some, pk_div (by omega) (by decide) (by decide), pk_mul, pk_sub (by omega), hm16, if_neg hne, tn_a s2, ha1, e1, Option.bind_some]
        show bX9_cut_147 n (nI a) had (w_pl (vw y J) t (a / 16)) I2 = _
        rw [bX9_cut_147, pk_div (by omega) (by decide) (by decide), pk_mul, pk_sub (by omega), hm16]
      have cJ : bX11_tryCut_194 n (nI t) (nI a) had J = bX11_tryCut_219 n am_fu (nI t) (nI a) had (w_pl (vw y J) t (a / 16)) (nI (a % 16)) J2 := by
        rw [bX11_tryCut_194, pk_div (by omega) (by decide) (by decide), pk_mul, pk_sub (by omega), hm16, if_neg hne, e2, Option.bind_some]
        show bX11_tryCut_211 n (nI t) (nI a) had (w_pl (vw y J) t (a / 16)) J2 = _
        rw [bX11_tryCut_211, pk_div (by omega) (by decide) (by decide), pk_mul, pk_sub (by omega), hm16]
      rw [cI, cJ]
      rcases tr_P (p := a / 16) h.1 ht (by omega) (by omega) with hp | ⟨b, b1, b2⟩
      · refine ⟨X, F, I2, J2, ?_, ?_, by omega, e3, hci, fun i => by rw [e4.1], e4.2.1 _ hib, by rw [e5]; exact n1, e6⟩
        · rw [hp, c147]
        · rw [hp, c219]
      · rw [b1]
        have ho : w_own (vw y J) t (a / 16) b := ⟨ht, by omega, b2, b1⟩
        have hEb : ¬ (E b ∨ b = w_ib t) := fun q => q.elim (fun q => (hci L2 rfl).2 b (hE b q) t (a / 16) ((tr_own h.1 rfl (by omega)).mpr ho)) (D_ib' b2 ht)
        obtain ⟨F', I3, J3, r1, r2, r3, r4, r5, r6, r7, r8⟩ := cw_lp (n := n) (a := a) (had := had) (X := b :: X) (E := fun c => E c ∨ c = w_ib t) (gn := gn) (gp := fun c => c ∈ gn) hC ht hH (by simp only [List.length_cons]; omega) List.mem_cons_self b2 hEb (by omega : a / 16 < 24) (16 - a % 16) (a % 16) am_fu am_fu F I2 J2 (by omega) (fu_lt (by omega)) (fu_lt (by omega)) (tn_X b e3) hci (by rw [e4.1]; exact ho) (e4.2.1 _ hib) (fun q => by
          rw [e4.1]
          refine e7 q (fun e => ?_)
          have h3 := ho.2.2.2
          unfold w_pl at h3
          rw [if_neg (by omega), if_neg (by omega), if_pos e] at h3
          exact w_D0 b2 h3.symm) (by rw [e4.1]; exact hk) (by rw [e5]; exact n1)
        refine ⟨b :: X, F', I3, J3, r1, r2, by simp only [List.length_cons]; omega, r3, r4, fun i => by rw [r5, e4.1], r6, r7, fun j hj => by rw [r8 j hj, e6 j hj]⟩
  obtain ⟨X', F', I2, J2, m1, m2, m3, m4, m5, m6, m7, m8, m9⟩ := mid
  obtain ⟨J3, u1, u2, u3, u4⟩ := tn_rset (n := n) (b := w_ib t) (i := 2) (v := nI a) (F' := fun L => w_up (F' L) (w_ib t) 2 (nI a)) hC m4 m7 (by omega) (by omega) m8 (fun j hj => by
    rw [m9 j hj, hcv1 j hj]
    unfold w_up
    rw [m6]) (fun L sv hs Bh hL hT hh => ti_ibw hT ht hH (by omega) (x_size hT.1 ht (by rw [← tr_vw m4.1 hL (of_ib ht) (by omega) (by omega), m6, hk]; decide) ha (fun q => by rw [← tr_vw m4.1 hL (of_ib ht) (by omega) (by omega), m6, hk] at q; exact absurd q (by decide))) hh)
  have hpl : ∀ L, L y = 2 → ∀ k p, k < 128 → p < 25 → w_pl (w_up (F' L) (w_ib t) 2 (nI a)) k p = nI 0 ∨ w_pl (w_up (F' L) (w_ib t) 2 (nI a)) k p = w_pl (F' L) k p := fun L hL k p hk' _ => by
    by_cases e : k = t
    · subst e
      exact Or.inr (p_ibo (tr_wf m4.1 hL).1.1 hk' (by omega))
    · exact Or.inr (p_up (tr_wf m4.1 hL).1.1 hk' (fun e2 => e (w_ib_inj hk' ht e2)) (fun ho => w_ib_D ht ho.2.2.1))
  refine ⟨_, _, ?_, ?_, tn_done (v := had) u2 m3 (fun c q => hE c (q.1.resolve_right q.2)) (fun _ => Iff.rfl) (fun L hL => ng_sub (m5 L hL).2 (hpl L hL)) (fun L hL => ?_)⟩
  · rw [m1, bX9_cut_182, c_fin, Option.bind_some]
  · rw [m2, bX11_tryCut_246, a_si ht, u1, Option.bind_some]
    rfl
  · have hw0 := (tr_wf0 h.1 hL).1
    have hci3 := ci_del (m5 L hL).1 (hpl L hL) (fun c i hc _ => w_up_b _ _ _ _ hc)
    refine (es_file hw0.1 hw0.2.1 ht (by rw [(hk0 L hL).1]; decide) (by rw [w_up_i _ _ _ (by omega : ¬ 0 = 2), ← tr_vw m4.1 hL (of_ib ht) (by omega) (by omega), m6, hk]; decide) (by rw [w_up_i _ _ _ (by omega : ¬ 1 = 2), ← tr_vw m4.1 hL (of_ib ht) (by omega) (by omega), m6]; exact (hk0 L hL).2.symm) (fun c i h1 h2 h3 => hci3.2 c i h1 h2 h3)).lr
theorem z_st : ∀ c, c < 9 → (if nI 0 ≤ nI c - nI 8 then nI c - nI 8 else nI 0) = nI 0 := by decide
theorem t38_first {t a x q : Nat} {had v : Int32} {J1 : am_I} (fur : Nat) (hx : ¬ nI x = (0 : Int32)) (hq : q < 16) (h : rn I J) (h1 : rn I J1) (g1 : gX11_get n (nI x) (nI q) J = some (v, J1)) (g2 : gX11_get n (nI x) (nI q) J1 = some (v, J1)) : bX11_tryCut_38 n (fur + 1) (nI t) (nI a) had (nI x) (nI (8 + q)) J = bX11_tryCut_38 n (fur + 1) (nI t) (nI a) had (nI x) (nI (8 + q)) J1 := by
  have hle2 : ¬ 24 ≤ 8 + q := by omega
  have hle3 : 8 ≤ 8 + q := by omega
  have h8q : 8 + q - 8 = q := by omega
  conv => lhs; unfold bX11_tryCut_38
  conv => rhs; unfold bX11_tryCut_38
  simp (disch := omega) only [z_le, hle2, if_false, ov_rn h, ov_rn h1, Option.bind_some, z_00, if_true, hle3, hx, pk_sub, h8q, g1, g2]
end CUT
