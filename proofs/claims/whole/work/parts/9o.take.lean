section TAKE
variable {n y : Nat} {Hd : Nat → Int} {F0 F F' : (Nat → Nat) → wS} {I0 J0 I J : am_I} {X : List Nat} {E : Nat → Prop} {gn : List Nat} {gp gp' pd pd' : Nat → Prop}
/-- a data block's bit, as a node sees it -/
def vb (V : wS) (g d : Nat) : Bool := bt (V (w_mp g) (1 + d / 32)) (d % 32)
def rTAKE (n : Nat) (V : wS) (g t : Nat) (J : am_I) : Option (Int32 × am_I) := (gX11_set n (nI (w_mp g)) (nI (1 + t / 32)) (V (w_mp g) (1 + t / 32) ||| (nI 1 <<< (nI (t % 32) &&& 31))) J).bind (fun q4 => (gX11_clear n (nI (145 + 64 * g + t)) q4).bind (fun q6 => some (nI (145 + 64 * g + t), q6)))
def cTAKE (n : Nat) (V : wS) (g t : Nat) (I : am_I) : Option (Int32 × am_I) := (gX9_set n (nI (w_mp g)) (nI (1 + t / 32)) (V (w_mp g) (1 + t / 32) ||| (nI 1 <<< (nI (t % 32) &&& 31))) I).bind (fun q4 => (gX9_clear n (nI (145 + 64 * g + t)) q4).bind (fun q6 => some (nI (145 + 64 * g + t), q6)))
theorem rt_scan {k2 : Int32 → Int32 → am_I → Option (Int32 × am_I)} {k j g : Nat} (hy : y < 4) (h51 : J 0 60 51 = nI y) (hg : g < 8) (hm : tH y J (w_mp g)) (hk : k < 128) (hj : j < 8) :
    ∀ (m d fu : Nat), d + m = 47 → m < fu →
    (∀ t, t < 47 → d ≤ t → vb (vw y J) g t = false → (∀ i, d ≤ i → i < t → vb (vw y J) g i = true) → bX11_takeBlock_43 n k2 fu (nI k) (nI j) (nI g) (nI d) J = rTAKE n (vw y J) g t J)
    ∧ ((∀ i, d ≤ i → i < 47 → vb (vw y J) g i = true) → bX11_takeBlock_43 n k2 fu (nI k) (nI j) (nI g) (nI d) J = k2 (nI k) (nI (j + 1)) J) := by
  intro m
  induction m with
  | zero =>
    intro d fu hd hf
    obtain ⟨fu, rfl⟩ : ∃ f, fu = f + 1 := ⟨fu - 1, by omega⟩
    have hle : 47 ≤ d := by omega
    refine ⟨fun t h1 h2 => by omega, fun _ => ?_⟩
    conv => lhs; unfold bX11_takeBlock_43
    simp (disch := omega) only [z_le, hle, if_true, nI_add]
  | succ m ih =>
    intro d fu hd hf
    obtain ⟨fu, rfl⟩ : ∃ f, fu = f + 1 := ⟨fu - 1, by omega⟩
    have hle : ¬ 47 ≤ d := by omega
    have hr := r_getc (n := n) (i := 1 + d / 32) hy hm (by omega) h51
    have hstep : bX11_takeBlock_43 n k2 (fu + 1) (nI k) (nI j) (nI g) (nI d) J = if vb (vw y J) g d = false then rTAKE n (vw y J) g d J else bX11_takeBlock_43 n k2 fu (nI k) (nI j) (nI g) (nI (d + 1)) J := by
      have hb0 := z_bit0 (m := d % 32) (vw y J (w_mp g) (1 + d / 32)) (by omega)
      conv => lhs; unfold bX11_takeBlock_43
      simp (disch := omega) only [z_le, hle, if_false, a_mp, Option.bind_some, pk_div, pk_mul, pk_sub, nI_add, hr, show d - d / 32 * 32 = d % 32 from by omega]
      by_cases e : vb (vw y J) g d = false
      · rw [if_pos e, if_pos (hb0.mpr e)]
        simp (disch := omega) only [rTAKE, gX11_dataBlock, bX11_dataBlock_0, pk_mul, nI_add, Option.bind_some]
      · rw [if_neg e, if_neg (fun h => e (hb0.mp h))]
    obtain ⟨i1, i2⟩ := ih (d + 1) fu (by omega) (by omega)
    refine ⟨fun t h1 h2 h3 h4 => ?_, fun h4 => ?_⟩
    · rw [hstep]
      by_cases e : d = t
      · subst e
        rw [if_pos h3]
      · rw [if_neg (by rw [h4 d (by omega) (by omega)]; decide)]
        exact i1 t h1 (by omega) h3 (fun i a b => h4 i (by omega) b)
    · rw [hstep, if_neg (by rw [h4 d (by omega) (by omega)]; decide)]
      exact i2 (fun i a b => h4 i (by omega) b)
theorem ct_scan {k2 : Int32 → Int32 → am_I → Option (Int32 × am_I)} {a j g fu : Nat} (hC : TC n y Hd I0 J0) (h : TN y Hd F0 I0 J0 X E F gn gp pd I J) (hE : ∀ b, ¬ E b) (hg : g < 8) (hm : tH y J (w_mp g)) (hj : j < 8) :
    (∀ t, t < 47 → vb (vw y J) g t = false → (∀ i, i < t → vb (vw y J) g i = true) → bX9_takeBlock_38 n k2 (fu + 3) (nI a) (nI j) (nI (w_mp g)) (nI 1) I = cTAKE n (vw y J) g t I)
    ∧ ((∀ i, i < 47 → vb (vw y J) g i = true) → bX9_takeBlock_38 n k2 (fu + 3) (nI a) (nI j) (nI (w_mp g)) (nI 1) I = k2 (nI a) (nI (j + 1)) I) := by
  have r1 := c_readc (n := n) (i := 1) hC h hm (hE _) (by omega)
  have r2 := c_readc (n := n) (i := 2) hC h hm (hE _) (by omega)
  have s1 : ∀ fu, bX9_takeBlock_38 n k2 (fu + 1) (nI a) (nI j) (nI (w_mp g)) (nI 1) I = bX9_takeBlock_75 n k2 (bX9_takeBlock_38 n k2 fu) (nI a) (nI j) (nI (w_mp g)) (nI 1) (vw y J (w_mp g) 1) (vw y J (w_mp g) 1 ^^^ (-1 : Int32)) I := fun fu => by
    conv => lhs; unfold bX9_takeBlock_38
    simp (disch := omega) only [z_lt, (by decide : ¬ 2 < 1), if_false, r1, Option.bind_some, if_true]
  have s2 : ∀ fu, bX9_takeBlock_38 n k2 (fu + 1) (nI a) (nI j) (nI (w_mp g)) (nI 2) I = bX9_takeBlock_75 n k2 (bX9_takeBlock_38 n k2 fu) (nI a) (nI j) (nI (w_mp g)) (nI 2) (vw y J (w_mp g) 2) ((vw y J (w_mp g) 2 ^^^ (-1 : Int32)) &&& nI 32767) I := fun fu => by
    conv => lhs; unfold bX9_takeBlock_38
    simp (disch := omega) only [z_lt, (by decide : ¬ 2 < 2), if_false, r2, Option.bind_some, z_eq, (by decide : ¬ 2 = 1)]
  have s3 : ∀ fu, bX9_takeBlock_38 n k2 (fu + 1) (nI a) (nI j) (nI (w_mp g)) (nI 3) I = k2 (nI a) (nI (j + 1)) I := fun fu => by
    conv => lhs; unfold bX9_takeBlock_38
    simp (disch := omega) only [z_lt, (by decide : 2 < 3), if_true, nI_add]
  have v1 : ∀ i, i < 32 → vb (vw y J) g i = bt (vw y J (w_mp g) 1) i := fun i hi => by
    unfold vb
    rw [show 1 + i / 32 = 1 from by omega, show i % 32 = i from by omega]
  have v2 : ∀ i, i < 15 → vb (vw y J) g (32 + i) = bt (vw y J (w_mp g) 2) i := fun i hi => by
    unfold vb
    rw [show 1 + (32 + i) / 32 = 2 from by omega, show (32 + i) % 32 = i from by omega]
  have z1 : (∀ i, i < 32 → vb (vw y J) g i = true) → (vw y J (w_mp g) 1 ^^^ (-1 : Int32)) = 0 := fun hh => z_zero.mpr (fun i hi => by rw [z_bnot hi, ← v1 i hi, hh i hi]; rfl)
  have t2 : (∀ i, i < 32 → vb (vw y J) g i = true) → bX9_takeBlock_38 n k2 (fu + 3) (nI a) (nI j) (nI (w_mp g)) (nI 1) I = bX9_takeBlock_75 n k2 (bX9_takeBlock_38 n k2 (fu + 1)) (nI a) (nI j) (nI (w_mp g)) (nI 2) (vw y J (w_mp g) 2) ((vw y J (w_mp g) 2 ^^^ (-1 : Int32)) &&& nI 32767) I := fun hh => by
    rw [s1, bX9_takeBlock_75, if_pos (z1 hh), nI_add]
    exact s2 (fu + 1)
  have m2 : ∀ i, i < 32 → bt ((vw y J (w_mp g) 2 ^^^ (-1 : Int32)) &&& nI 32767) i = (!bt (vw y J (w_mp g) 2) i && decide (i < 15)) := fun i hi => by rw [b_and, z_bnot hi, b_7fff]
  refine ⟨fun t h1 h2 h3 => ?_, fun h3 => ?_⟩
  · by_cases e : t < 32
    · have hx : bt (vw y J (w_mp g) 1 ^^^ (-1 : Int32)) t = true := by rw [z_bnot e, ← v1 t e, h2]; rfl
      have hne : ¬ (vw y J (w_mp g) 1 ^^^ (-1 : Int32)) = 0 := fun e2 => by
        have := z_zero.mp e2 t e
        rw [hx] at this
        cases this
      have hz := z_ntz (n := n) (I := I) e hx (fun i hi => by rw [z_bnot (by omega), ← v1 i (by omega), h3 i hi]; rfl)
      rw [s1, bX9_takeBlock_75, if_neg hne, hz, Option.bind_some]
      simp (disch := omega) only [cTAKE, nI_add, pk_mul, pk_sub, show 1 + t / 32 = 1 from by omega, show t % 32 = t from by omega, show w_mp g + 17 + 32 * (1 - 1) + t = 145 + 64 * g + t from by unfold w_mp; omega]
    · have hh : ∀ i, i < 32 → vb (vw y J) g i = true := fun i hi => h3 i (by omega)
      obtain ⟨q, rfl⟩ : ∃ q, t = 32 + q := ⟨t - 32, by omega⟩
      have hx : bt ((vw y J (w_mp g) 2 ^^^ (-1 : Int32)) &&& nI 32767) q = true := by rw [m2 q (by omega), ← v2 q (by omega), h2, decide_eq_true (by omega)]; rfl
      have hne : ¬ ((vw y J (w_mp g) 2 ^^^ (-1 : Int32)) &&& nI 32767) = 0 := fun e2 => by
        have := z_zero.mp e2 q (by omega)
        rw [hx] at this
        cases this
      have hz := z_ntz (n := n) (I := I) (by omega : q < 32) hx (fun i hi => by rw [m2 i (by omega), ← v2 i (by omega), h3 (32 + i) (by omega)]; rfl)
      rw [t2 hh, bX9_takeBlock_75, if_neg hne, hz, Option.bind_some]
      simp (disch := omega) only [cTAKE, nI_add, pk_mul, pk_sub, show 1 + (32 + q) / 32 = 2 from by omega, show (32 + q) % 32 = q from by omega, show w_mp g + 17 + 32 * (2 - 1) + q = 145 + 64 * g + (32 + q) from by unfold w_mp; omega]
  · have hh : ∀ i, i < 32 → vb (vw y J) g i = true := fun i hi => h3 i (by omega)
    have hz : ((vw y J (w_mp g) 2 ^^^ (-1 : Int32)) &&& nI 32767) = 0 := z_zero.mpr (fun i hi => by
      rw [m2 i hi]
      by_cases e : i < 15
      · rw [← v2 i e, h3 (32 + i) (by omega)]; rfl
      · rw [decide_eq_false e, Bool.and_false])
    rw [t2 hh, bX9_takeBlock_75, if_pos hz, nI_add]
    exact s3 fu
/-- the block is taken: both sides -/
theorem tn_takeg {g t : Nat} (hC : TC n y Hd I0 J0) (h : TN y Hd F0 I0 J0 X E F gn gp pd I J) (hE : ∀ b, ¬ E b) (hgp : ∀ c, ¬ gp c) (hX : X.length ≤ 18) (hg : g < 8) (hH : 2 ≤ Hd (128 + g)) (hH2 : Hd (128 + g) ≤ 2) (hm : tH y J (w_mp g)) (ht : t < 47) (hf : vb (vw y J) g t = false) : ∃ I' J', cTAKE n (vw y J) g t I = some (nI (145 + 64 * g + t), I') ∧ rTAKE n (vw y J) g t J = some (nI (145 + 64 * g + t), J') ∧ TN y Hd F0 I0 J0 ((145 + 64 * g + t) :: X) E (fun L => w_cl (w_up (F L) (w_mp g) (1 + t / 32) (vw y J (w_mp g) (1 + t / 32) ||| (nI 1 <<< (nI (t % 32) &&& 31)))) (145 + 64 * g + t)) gn gp (fun c => pd c ∨ c = 145 + 64 * g + t) I' J' ∧ (∀ c i, ¬ c = 145 + 64 * g + t → (∀ g, ¬ c = w_mp g) → vw y J' c i = vw y J c i) ∧ (∀ c, tH y J c → tH y J' c) ∧ tH y J' (145 + 64 * g + t) ∧ (∀ k, ¬ k = 5 → I' 0 15 k = I 0 15 k) ∧ (∀ k, ¬ k = 56 → J' 0 60 k = J 0 60 k) := by
  have hD : w_D (145 + 64 * g + t) := by unfold w_D; omega
  have hH3 : Hd (128 + g) = 2 := by omega
  have hmw : ∀ L, L y = 2 → vw y J (w_mp g) (1 + t / 32) = F L (w_mp g) (1 + t / 32) := fun L hL => tr_vw h.1 hL (of_mp hg) (by omega) (by omega)
  have hbit : ∀ L, L y = 2 → w_bit (F L) (145 + 64 * g + t) = false := fun L hL => by
    unfold w_bit
    rw [show (145 + 64 * g + t - 128) / 64 = g from by omega, show (145 + 64 * g + t - 128) % 64 - 17 = t from by omega, ← hmw L hL]
    exact hf
  have hb := fun L (hL : L y = 2) (hw : x_wf (F L) gp) => x_bset (s := F L) (gone := gp) (g := g) (w := 1 + t / 32) (m := t % 32) (v := vw y J (w_mp g) (1 + t / 32) ||| (nI 1 <<< (nI (t % 32) &&& 31))) hw (by omega) (by omega) (fun i hi => by rw [z_bset _ (by omega) hi, hmw L hL]) hg
  have hX1 : TN y Hd F0 I0 J0 ((145 + 64 * g + t) :: X) E F gn gp pd I J := by
    obtain ⟨⟨B, sv, cv, p1, p2, p3, p4, p5, p6, p7, p8, p9, p10, p11⟩, hr⟩ := h
    exact ⟨⟨B, sv, cv, p1, p2, p3, p4, p5, p6, p7, p8, p9, fun b q => (p10 b q).imp (List.mem_cons_of_mem _) id, p11⟩, hr⟩
  obtain ⟨I1, J1, e1, e2, e3, e4, e5, e6, e7⟩ := tn_setv (F' := fun L => w_up (F L) (w_mp g) (1 + t / 32) (vw y J (w_mp g) (1 + t / 32) ||| (nI 1 <<< (nI (t % 32) &&& 31)))) (gp' := gp) (pd' := pd) (i := 1 + t / 32) (v := vw y J (w_mp g) (1 + t / 32) ||| (nI 1 <<< (nI (t % 32) &&& 31))) hC hX1 (w_mp_lt hg) (by omega) (hE _) (Or.inl hm) (Or.inr ⟨g, hg, rfl⟩) (by rw [List.length_cons]; omega) (fun L sv hs Bh hL hT hh _ => ti_map hT hg hH3 (hb L hL hT.1).1 hh (fun _ q => q) (fun _ q => Or.inl q) (fun c hc => by
    obtain ⟨c1, c2, c3, c4⟩ := ti_pd hT c hc
    rw [(hb L hL hT.1).2 c c1, c3, Bool.true_or]))
  obtain ⟨I2, J2, f1, f2, f3, f4, f5, f6, f7⟩ := tn_clrv (F' := fun L => w_cl (w_up (F L) (w_mp g) (1 + t / 32) (vw y J (w_mp g) (1 + t / 32) ||| (nI 1 <<< (nI (t % 32) &&& 31)))) (145 + 64 * g + t)) (gp' := gp) (pd' := fun c => pd c ∨ c = 145 + 64 * g + t) (b := 145 + 64 * g + t) hC e3 (by omega) (Or.inl List.mem_cons_self) (by rw [List.length_cons]; omega) (fun L sv hs Bh hL hT _ => by
    obtain ⟨sv0, Bh0, hT0⟩ := tr_ti h.1
    obtain ⟨n1, n2, -⟩ := ti_free (hT0 L hL) hD (hbit L hL) (hgp _)
    have hmpl := own_of_pl (s := F L) (s' := w_up (F L) (w_mp g) (1 + t / 32) (vw y J (w_mp g) (1 + t / 32) ||| (nI 1 <<< (nI (t % 32) &&& 31)))) (fun k p hk => p_up (hT0 L hL).1.1.1 hk (w_ib_mp hk) (fun ho => w_mp_D g ho.2.2.1))
    refine ti_clr hT hD ?_ (fun k p ho => n1 k p ((hmpl k p _).mp ho)) n2
    rw [(hb L hL (hT0 L hL).1).2 _ hD, decide_eq_true (by omega), Bool.or_true])
  refine ⟨I2, J2, ?_, ?_, f3, fun c i h1 h2 => ?_, fun c q => (f5 c).mpr (Or.inl ((e5 c).mpr (Or.inl q))), (f5 _).mpr (Or.inr rfl), fun k q => (f6 k q).trans (e6 k q), fun k q => (f7 k q).trans (e7 k q)⟩
  · unfold cTAKE
    rw [e1, Option.bind_some, f1, Option.bind_some]
  · unfold rTAKE
    rw [e2, Option.bind_some, f2, Option.bind_some]
  · rw [f4, e4]
    unfold w_cl
    rw [if_neg h1, w_up_b _ _ _ _ (h2 g)]
end TAKE
