section MAKE
variable {n y : Nat} {Hd : Nat → Int} {F0 F F' : (Nat → Nat) → wS} {I0 J0 I J : am_I} {X : List Nat} {E : Nat → Prop} {gn : List Nat} {gp gp' pd pd' : Nat → Prop}
theorem ri_scan {k2 : Int32 → Int32 → am_I → Option (Int32 × am_I)} {k j g : Nat} {x : Int32} (hj : j < 8) :
    ∀ (m d fu : Nat), d + m = 16 → m < fu →
    (∀ t, t < 16 → d ≤ t → bt x t = false → (∀ i, d ≤ i → i < t → bt x i = true) → bX11_takeInode_47 n k2 fu (nI k) (nI j) (nI g) x (nI d) J = (gX11_set n (nI (w_mp g)) (nI 0) (x ||| (nI 1 <<< (nI t &&& 31))) J).bind (fun q2 => some (nI (16 * g + t), q2)))
    ∧ ((∀ i, d ≤ i → i < 16 → bt x i = true) → bX11_takeInode_47 n k2 fu (nI k) (nI j) (nI g) x (nI d) J = k2 (nI k) (nI (j + 1)) J) := by
  intro m
  induction m with
  | zero =>
    intro d fu hd hf
    obtain ⟨fu, rfl⟩ : ∃ f, fu = f + 1 := ⟨fu - 1, by omega⟩
    have hle : 16 ≤ d := by omega
    refine ⟨fun t h1 h2 => by omega, fun _ => ?_⟩
    conv => lhs; unfold bX11_takeInode_47
    simp (disch := omega) only [z_le, hle, if_true, nI_add]
  | succ m ih =>
    intro d fu hd hf
    obtain ⟨fu, rfl⟩ : ∃ f, fu = f + 1 := ⟨fu - 1, by omega⟩
    have hle : ¬ 16 ≤ d := by omega
    have hstep : bX11_takeInode_47 n k2 (fu + 1) (nI k) (nI j) (nI g) x (nI d) J = if bt x d = false then (gX11_set n (nI (w_mp g)) (nI 0) (x ||| (nI 1 <<< (nI d &&& 31))) J).bind (fun q2 => some (nI (16 * g + d), q2)) else bX11_takeInode_47 n k2 fu (nI k) (nI j) (nI g) x (nI (d + 1)) J := by
      have hb0 := z_bit0 (m := d) x (by omega)
      conv => lhs; unfold bX11_takeInode_47
      simp (disch := omega) only [z_le, hle, if_false]
      by_cases e : bt x d = false
      · rw [if_pos e, if_pos (hb0.mpr e)]
        simp (disch := omega) only [a_mp, Option.bind_some, pk_mul, nI_add]
      · rw [if_neg e, if_neg (fun h => e (hb0.mp h)), nI_add]
    obtain ⟨i1, i2⟩ := ih (d + 1) fu (by omega) (by omega)
    refine ⟨fun t h1 h2 h3 h4 => ?_, fun h4 => ?_⟩
    · rw [hstep]
      by_cases e : d = t
      · subst e
        rw [if_pos h3]
      · rw [if_neg (by rw [h4 d (by omega) (by omega)]; decide)]
        exact i1 t h1 (by omega) h3 (fun i a b => h4 i (by omega) b)
    · rw [hstep, if_neg (by rw [h4 d (by omega) (by omega)]; decide)]
      exact i2 (fun i a b => h4 i (by omega) b)
def TKI (y : Nat) (Hd : Nat → Int) (F0 : (Nat → Nat) → wS) (I0 J0 : am_I) (I J : am_I) (c r : Option (Int32 × am_I)) : Prop :=
  (∃ t F' I' J', t < 128 ∧ c = some (nI t, I') ∧ r = some (nI t, J') ∧ TN y Hd F0 I0 J0 [] (fun _ => False) F' [] (fun _ => False) (fun _ => False) I' J' ∧ (∀ L, L y = 2 → w_ibit (F' L) t = true ∧ ∀ i, i < 16 → F' L (w_ib t) i = nI 0) ∧ (∀ k i, k < 128 → vw y J' (w_ib k) i = vw y J (w_ib k) i) ∧ (∀ c, tH y J c → tH y J' c) ∧ (∀ k, ¬ k = 5 → I' 0 15 k = I 0 15 k) ∧ (∀ k, ¬ k = 56 → J' 0 60 k = J 0 60 k) ∧ ∀ L c i, (∀ g, ¬ c = w_mp g) → F' L c i = F0 L c i)
  ∨ (∃ I' J', c = some ((-1 : Int32), I') ∧ r = some (nI 0, J') ∧ EN y Hd F0 I0 J0 I' J')
theorem ti_lp {k : Nat} (hC : TC n y Hd I0 J0) (hM : ∀ r, r < 136 → Hd r ≤ 2) (hk : k < 128) : ∀ (m j fu fur : Nat) (I J : am_I), j + m = 8 → m < fu → m < fur → TN0 y Hd F0 I0 J0 I J → TKI y Hd F0 I0 J0 I J (bX9_takeInode_2 n fu (nI (k / 16)) (nI j) I) (bX11_takeInode_2 n fur (nI k) (nI j) J) := by
  have hn4 := hC.2.1
  have hyn := hC.1
  intro m
  induction m with
  | zero =>
    intro j fu fur I J hj hfu hfur h
    obtain ⟨fu, rfl⟩ : ∃ f, fu = f + 1 := ⟨fu - 1, by omega⟩
    obtain ⟨fur, rfl⟩ : ∃ f, fur = f + 1 := ⟨fur - 1, by omega⟩
    have hle : 8 ≤ j := by omega
    obtain ⟨I3, J3, g1, g2, g3⟩ := tn_fail (n := n) (f := (-7 : Int32)) h (by decide)
    refine Or.inr ⟨I3, J3, ?_, ?_, g3⟩
    · rw [bX9_takeInode_2]
      simp (disch := omega) only [z_le, hle, if_true, g1, Option.bind_some]
    · rw [bX11_takeInode_2]
      simp (disch := omega) only [z_le, hle, if_true, g2, Option.bind_some]
  | succ m ih =>
    intro j fu fur I J hj hfu hfur h
    obtain ⟨fu, rfl⟩ : ∃ f, fu = f + 1 := ⟨fu - 1, by omega⟩
    obtain ⟨fur, rfl⟩ : ∃ f, fur = f + 1 := ⟨fur - 1, by omega⟩
    have hle : ¬ 8 ≤ j := by omega
    have hg : (k / 16 + j) % 8 < 8 := by omega
    have hgm : k / 16 + j - (k / 16 + j) / 8 * 8 = (k / 16 + j) % 8 := by omega
    generalize (k / 16 + j) % 8 = g at hg hgm
    have cI : bX9_takeInode_2 n (fu + 1) (nI (k / 16)) (nI j) I = (gX9_meet n (nI (128 + g)) (nI 2) I).bind (fun q3 => if q3.1 = 0 then some ((-1 : Int32), q3.2) else (gX9_read n (nI (w_mp g)) (nI 0) q3.2).bind (fun q5 => if ((q5.1 ^^^ (-1 : Int32)) &&& (nI 65535)) = 0 then (bX9_takeInode_2 n fu (nI (k / 16)) (nI (j + 1)) q5.2) else ((gJ6_numberOfTrailingZeros_0f7a4 n ((q5.1 ^^^ (-1 : Int32)) &&& (nI 65535)) q5.2).bind (fun q6 => (gX9_set n (nI (w_mp g)) (nI 0) (q5.1 ||| ((nI 1) <<< (q6.1 &&& 31))) q6.2).bind (fun q8 => some ((nI (16 * g)) + q6.1, q8)))))) := by
      rw [bX9_takeInode_2]
      simp (disch := omega) only [z_le, hle, if_false, gX10_mapResource, bX10_mapResource_0, nI_add, pk_div, pk_mul, pk_sub, hgm, Option.bind_some, c_mp]
    have cJ : bX11_takeInode_2 n (fur + 1) (nI k) (nI j) J = (gX11_meets n (nI (128 + g)) (nI 2) J).bind (fun q2 => if q2.1 = 0 then some (nI 0, q2.2) else (gX11_get n (nI (w_mp g)) (nI 0) q2.2).bind (fun q4 => bX11_takeInode_47 n (bX11_takeInode_2 n fur) am_fu (nI k) (nI j) (nI g) q4.1 (nI 0) q4.2)) := by
      rw [bX11_takeInode_2]
      simp (disch := omega) only [z_le, hle, if_false, Option.bind_some, nI_add, pk_div, pk_mul, pk_sub, hgm, a_mp]
    rw [cI, cJ]
    rcases tn_meet (r := 128 + g) (m := 2) hC h (by omega) (Or.inr rfl) with ⟨hH, e1, e2⟩ | ⟨I1, J1, e1, e2, e3⟩
    · obtain ⟨I1, J1, f1, f2, f3, f4, f5⟩ := tn_rdv (i := 0) hC h (w_mp_lt hg) (by decide) (fun q => q) (Or.inr (Or.inr (Or.inl ⟨g, hg, rfl, by omega⟩)))
      have hH3 : Hd (128 + g) = 2 := by have := hM (128 + g) (by omega); omega
      rw [e1, e2, Option.bind_some, Option.bind_some]
      show TKI y Hd F0 I0 J0 I J (if nI 1 = (0 : Int32) then _ else _) (if nI 1 = (0 : Int32) then _ else _)
      rw [if_neg (by decide), if_neg (by decide), f1, f2, Option.bind_some, Option.bind_some]
      have rs := ri_scan (n := n) (J := J1) (k2 := bX11_takeInode_2 n fur) (k := k) (j := j) (g := g) (x := vw y J (w_mp g) 0) (by omega) 16 0 am_fu (by omega) (fu_lt (by omega))
      have m2 : ∀ i, i < 32 → bt ((vw y J (w_mp g) 0 ^^^ (-1 : Int32)) &&& nI 65535) i = (!bt (vw y J (w_mp g) 0) i && decide (i < 16)) := fun i hi => by rw [b_and, z_bnot hi, b_ffff]
      rcases least (fun i => !bt (vw y J (w_mp g) 0) i) 16 with ⟨t, t1, t2, t3⟩ | t0
      · have t2' : bt (vw y J (w_mp g) 0) t = false := by simpa using t2
        have t3' : ∀ i, i < t → bt (vw y J (w_mp g) 0) i = true := fun i hi => by simpa using t3 i hi
        have hx : bt ((vw y J (w_mp g) 0 ^^^ (-1 : Int32)) &&& nI 65535) t = true := by rw [m2 t (by omega), t2', decide_eq_true t1]; rfl
        have hne : ¬ ((vw y J (w_mp g) 0 ^^^ (-1 : Int32)) &&& nI 65535) = 0 := fun e2 => by
          have := z_zero.mp e2 t (by omega)
          rw [hx] at this
          cases this
        have hz := z_ntz (n := n) (I := I1) (by omega : t < 32) hx (fun i hi => by rw [m2 i (by omega), t3' i hi]; rfl)
        have hmw : ∀ L, L y = 2 → vw y J1 (w_mp g) 0 = F0 L (w_mp g) 0 := fun L hL => tr_vw f3.1 hL (of_mp hg) (by omega) (by omega)
        have hb := fun L (hL : L y = 2) (hw : x_wf (F0 L) (fun _ => False)) => x_iset (s := F0 L) (gone := fun _ => False) (g := g) (m := t) (v := vw y J (w_mp g) 0 ||| (nI 1 <<< (nI t &&& 31))) hw t1 (fun i hi => by rw [z_bset _ (by omega) hi, ← hmw L hL, f4.1]) hg
        obtain ⟨I2, J2, s1, s2, s3, s4, s5, s6, s7⟩ := tn_setv (F' := fun L => w_up (F0 L) (w_mp g) 0 (vw y J (w_mp g) 0 ||| (nI 1 <<< (nI t &&& 31)))) (gp' := fun _ => False) (pd' := fun _ => False) (i := 0) (v := vw y J (w_mp g) 0 ||| (nI 1 <<< (nI t &&& 31))) hC f3 (w_mp_lt hg) (by omega) (fun q => q) (Or.inl f5) (Or.inr ⟨g, hg, rfl⟩) (Nat.zero_le _) (fun L sv hs Bh hL hT hh _ => ti_map hT hg hH3 (hb L hL hT.1).1 hh (fun _ q => q) (fun _ q => Or.inl q) (fun c hc => hc.elim))
        refine Or.inl ⟨16 * g + t, _, I2, J2, by omega, ?_, ?_, s3, fun L hL => ?_, fun k i hk => ?_, fun c q => (s5 c).mpr (Or.inl (f4.2.1 c q)), fun k q => by rw [s6 k q, f4.2.2.1], fun k q => by rw [s7 k q, f4.2.2.2], fun L c i hc => w_up_b _ _ _ _ (hc g)⟩
        · show (if ((vw y J (w_mp g) 0 ^^^ (-1 : Int32)) &&& nI 65535) = 0 then _ else _) = _
          rw [if_neg hne, hz, Option.bind_some]
          show ((gX9_set n (nI (w_mp g)) (nI 0) (vw y J (w_mp g) 0 ||| (nI 1 <<< (nI t &&& 31))) I1).bind fun q8 => some (nI (16 * g) + nI t, q8)) = _
          rw [s1, Option.bind_some, nI_add]
        · rw [rs.1 t t1 (Nat.zero_le _) t2' (fun i _ hi => t3' i hi), s2, Option.bind_some]
        · have hw := tr_wf f3.1 hL
          refine ⟨(hb L hL hw).2, fun i hi => ?_⟩
          have hkt : 16 * g + t < 128 := by omega
          show w_up (F0 L) (w_mp g) 0 _ (w_ib (16 * g + t)) i = nI 0
          rw [w_up_b _ _ _ _ (w_ib_mp hkt)]
          refine hw.2.1 _ hkt (Classical.byContradiction (fun hz0 => ?_)) i hi
          have hbit := hw.2.2.1 _ hkt hz0
          unfold w_ibit at hbit
          rw [show (16 * g + t) / 16 = g from by omega, show (16 * g + t) % 16 = t from by omega, ← hmw L hL, f4.1, t2'] at hbit
          cases hbit
        · rw [s4, w_up_b _ _ _ _ (w_ib_mp hk), f4.1]
      · have t0' : ∀ i, i < 16 → bt (vw y J (w_mp g) 0) i = true := fun i hi => by simpa using t0 i hi
        have hz : ((vw y J (w_mp g) 0 ^^^ (-1 : Int32)) &&& nI 65535) = 0 := z_zero.mpr (fun i hi => by
          rw [m2 i hi]
          by_cases e : i < 16
          · rw [t0' i e]; rfl
          · rw [decide_eq_false e, Bool.and_false])
        rw [if_pos hz, rs.2 (fun i _ hi => t0' i hi)]
        rcases ih (j + 1) fu fur I1 J1 (by omega) (by omega) (by omega) f3 with ⟨t, F', I', J', r0, r1, r2, r3, r4, r5, r6, r7, r8, r9⟩ | r
        · exact Or.inl ⟨t, F', I', J', r0, r1, r2, r3, r4, fun k i a => by rw [r5 k i a, f4.1], fun c q => r6 c (f4.2.1 c q), fun k q => by rw [r7 k q, f4.2.2.1], fun k q => by rw [r8 k q, f4.2.2.2], r9⟩
        · exact Or.inr r
    · rw [e1, e2.1, Option.bind_some, Option.bind_some]
      exact Or.inr ⟨I1, J1, if_pos rfl, if_pos rfl, e3⟩
theorem k_make {d c : Nat} {name : Int32} (hC : TC n y Hd I0 J0) (hM : ∀ r, r < 136 → Hd r ≤ 2) (h : TN0 y Hd F0 I0 J0 I J) (hd : d < 128) (hc12 : c = 1 ∨ c = 2) (ha : I0 y 55 1 = nI d) (hb : I0 y 55 2 = name) (hc : I0 y 55 3 = nI c) (h16 : I 0 15 16 = (-1 : Int32)) (hn : ¬ name = nI 0) : KD n y Hd F0 I0 J0 (gX9_make n y I) (gX11_tryMake n (nI d) name (nI c) J) := by
  have hn4 := hC.2.1
  have hyn := hC.1
  rcases tn_dir (m := 2) hC h (fun _ q => q) hd (Or.inr rfl) with ⟨I1, J1, e1, e2, e3, e4, e5, e6, e7⟩ | ⟨I1, J1, e1, e2, e3⟩
  · have hHd : Hd d = 2 := by have := hM d (by omega); omega
    obtain ⟨r, I2, J2, z, f1, f2, f3, f4, f5, f6, f7, f8, f9⟩ := tn_find name hC e3 (fun _ q => q) hd (by omega)
    rcases f9 with rfl | ⟨w, rfl, w1, w2, w3⟩
    · have cI : gX9_make n y I = (gX9_takeInode n (nI (d / 16)) I2).bind (fun q3 => (gX10_isInode n q3.1 q3.2).bind (fun q4 => if q4.1 = 0 then (bX9_make_65 n q4.2) else ((gX9_meet n q3.1 (nI 2) q4.2).bind (fun q5 => if q5.1 = 0 then (bX9_make_65 n q5.2) else ((gX10_inodeBlock n q3.1 q5.2).bind (fun q6 => (gX9_clear n q6.1 q6.2).bind (fun q7 => (gX10_inodeBlock n q3.1 q7).bind (fun q8 => (gX9_set n q8.1 (nI 0) (q8.2 y 55 3) q8.2).bind (fun q9 => (gX10_inodeBlock n q3.1 q9).bind (fun q10 => (gX9_set n q10.1 (nI 1) (nI 1) q10.2).bind (fun q11 => (gX9_putNext n (q11 y 55 1) (q11 y 55 2) q3.1 q3.1 q11).bind (fun q12 => some q12)))))))))))) := by
        simp (disch := omega) only [gX9_make, bX9_make_0, tn_a h, ha, e1, Option.bind_some, z_10, if_false, tn_a e3, hb, f1, if_true, tn_a f3, pk_div]
      have cJ : gX11_tryMake n (nI d) name (nI c) J = (gX11_takeInode n (nI d) J2).bind (fun q3 => (gX11_isOver n q3.2).bind (fun q4 => if q4.1 = 0 then ((gX11_meets n q3.1 (nI 2) q4.2).bind (fun q5 => if q5.1 = 0 then (bX11_tryMake_54 n q5.2) else ((gX11_inodeBlock n q3.1 q5.2).bind (fun q6 => (gX11_clear n q6.1 q6.2).bind (fun q7 => (gX11_setInode n q3.1 (nI 0) (nI c) q7).bind (fun q8 => (gX11_setInode n q3.1 (nI 1) (nI 1) q8).bind (fun q9 => (gX11_putEntry n (nI d) name q3.1 q9).bind (fun q10 => am_lt (am_up q10 0 60 55 q3.1) (fun I11 => some I11))))))))) else (bX11_tryMake_54 n q4.2))) := by
        simp only [gX11_tryMake, bX11_tryMake_0, e2, Option.bind_some, z_10, if_false, f2, if_true]
      have tk := ti_lp (n := n) (k := d) hC hM hd 8 0 am_fu am_fu I2 J2 (by omega) (fu_lt (by omega)) (fu_lt (by omega)) f3
      rw [← bX9_takeInode_0, ← gX9_takeInode, ← bX11_takeInode_0, ← gX11_takeInode] at tk
      rcases tk with ⟨t, F', I3, J3, t0, t1, t2, t3, t4, t5, t6, t7, t8, t9⟩ | ⟨I3, J3, t1, t2, t3⟩
      · rcases tn_meet (r := t) (m := 2) hC t3 (by omega) (Or.inr rfl) with ⟨hHt, g1, g2⟩ | ⟨I4, J4, g1, g2, g3⟩
        · have hHt2 : Hd t = 2 := by have := hM t (by omega); omega
          have htd : ¬ d = t := fun e => by
            have := (t4 L2 rfl).2 0 (by omega)
            rw [← e, ← tr_vw t3.1 rfl (of_ib hd) (by omega) (by omega), t5 d 0 hd, f4.1, e4.1, e6] at this
            exact absurd this (by decide)
          obtain ⟨I4, J4, s1, s2, s3, s4, s5, s6, s7⟩ := tn_clrv (F' := F') (gp' := fun _ => False) (pd' := fun _ => False) (b := w_ib t) hC (tn_X (w_ib t) t3) (w_ib_lt t0) (Or.inl List.mem_cons_self) (Nat.le_of_ble_eq_true rfl) (fun L sv hs Bh hL hT _ => ti_new hT t0 hHt2 (t4 L hL).2)
          have ht4 : tH y J4 (w_ib t) := (s5 _).mpr (Or.inr rfl)
          obtain ⟨I5, J5, u1, u2, u3, u4, u5, u6, u7⟩ := tn_setv (F' := fun L => w_up (F' L) (w_ib t) 0 (nI c)) (gp' := fun _ => False) (pd' := fun _ => False) (i := 0) (v := nI c) hC s3 (w_ib_lt t0) (by omega) (fun q => q) (Or.inl ht4) (Or.inl List.mem_cons_self) (Nat.le_of_ble_eq_true rfl) (fun L sv hs Bh hL hT hh _ => ti_ibw hT t0 hHt2 (by omega) (x_kind hT.1 t0 (t4 L hL).2 (t4 L hL).1 (by rcases hc12 with rfl | rfl; exact Or.inl rfl; exact Or.inr rfl)) hh)
          have hk0 : vw y J5 (w_ib t) 0 = nI c := by rw [u4, w_up_at]
          obtain ⟨I6, J6, p1, p2, p3, p4, p5, p6, p7⟩ := tn_lset (v := nI 1) hC u3 (fun _ q => q) t0 hHt2 ((u5 _).mpr (Or.inl ht4)) (by rw [hk0]; rcases hc12 with rfl | rfl <;> decide) List.mem_cons_self (Nat.le_of_ble_eq_true rfl)
          have hdib : ¬ w_ib d = w_ib t := fun e => htd (w_ib_inj hd t0 e)
          have hv6 : vw y J6 (w_ib d) 0 = nI 2 := by
            rw [p4, w_up_b _ _ _ _ hdib, u4, w_up_b _ _ _ _ hdib, s4]
            unfold w_cl
            rw [if_neg hdib, t5 d 0 hd, f4.1, e4.1]
            exact e6
          have hput := tn_put (n := n) (d := d) (t := t) (name := name) hC hM (tn_pn (a := nI d) (b := name) (c := nI t) (d := nI t) p3) (Nat.le_of_ble_eq_true rfl) hd hHd hv6 t0 (by simp only [z_upk]; rfl) (by simp only [z_upk]; rfl) (by simp only [z_upk]; rfl) hn
          have hI : gX9_make n y I = some (am_up (am_up (am_up (am_up I6 0 15 13 (nI d)) 0 15 14 name) 0 15 15 (nI t)) 0 15 10 (nI t)) := by
            rw [cI]
            simp only [t1, Option.bind_some, c_isin t0, z_10, if_false, g1, c_ib n t _ t0, s1, tn_a s3, hc, u1, p1, tn_a p3, ha, hb, c_pn]
          have hJ : gX11_tryMake n (nI d) name (nI c) J = (gX11_putEntry n (nI d) name (nI t) J6).bind (fun q10 => some (am_up q10 0 60 55 (nI t))) := by
            rw [cJ]
            simp only [t2, Option.bind_some, ov_rn t3.2, z_00, if_true, g2, z_10, if_false, a_ib n t _ t0, s2, a_si t0, u2, p2, am_lt]
          rw [hI]
          refine run_put (d := d) (v := nI t) hd (by simp only [z_upk]; exact p3.2.1) (by simp only [z_upk]; rfl) ?_ (by simp only [z_upk]; rfl) (Nat.le_of_ble_eq_true rfl) hput (fun L hL s' hpe => lr_make (tr_wf f3.1 hL).1.1 (tr_wf t3.1 hL).1.1 hd t0 (t9 L) (t4 L hL).2 hpe) (fun J' hJ' hh => ⟨nI t, by rw [hJ, hJ', Option.bind_some], Or.inr rfl⟩)
          rw [z_upk, if_neg (by decide), z_upk, if_neg (by decide), z_upk, if_neg (by decide), z_upk, if_neg (by decide), p6 16 (by decide), u6 16 (by decide), s6 16 (by decide), t7 16 (by decide), f4.2.2.1, e4.2.2.1]
          exact h16
        · refine kd_en (I' := I4) (J' := J4) ?_ ?_ g3
          · rw [cI]
            simp only [bX9_make_65, t1, Option.bind_some, c_isin t0, z_10, if_false, g1, z_00, if_true]
          · rw [cJ]
            simp only [bX11_tryMake_54, t2, Option.bind_some, ov_rn t3.2, z_00, if_true, g2]
      · refine kd_en (I' := I3) (J' := J3) ?_ ?_ t3
        · rw [cI]
          simp only [bX9_make_65, t1, Option.bind_some, c_isinm, z_00, if_true]
        · rw [cJ]
          simp only [bX11_tryMake_54, t2, Option.bind_some, ov_en t3.2, z_10, if_false]
    · have hm := z_m1n (a := w) (by omega)
      obtain ⟨I3, J3, g1, g2, g3⟩ := tn_fail (n := n) (f := (-6 : Int32)) f3 (by decide)
      refine kd_en (I' := I3) (J' := J3) ?_ ?_ g3
      · simp only [gX9_make, bX9_make_0, tn_a h, ha, e1, Option.bind_some, z_10, if_false, tn_a e3, hb, f1, hm, g1]
      · simp only [gX11_tryMake, bX11_tryMake_0, e2, Option.bind_some, z_10, if_false, f2, hm, g2]
  · refine kd_en (I' := I1) (J' := J1) ?_ ?_ e3
    · simp only [gX9_make, bX9_make_0, tn_a h, ha, e1, Option.bind_some, z_00, if_true]
    · simp only [gX11_tryMake, bX11_tryMake_0, e2, Option.bind_some, z_00, if_true]
end MAKE
