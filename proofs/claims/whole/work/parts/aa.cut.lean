
section CUT
variable {n y : Nat} {Hd : Nat → Int} {F0 F F' : (Nat → Nat) → wS} {I0 J0 I J : am_I} {X : List Nat} {E : Nat → Prop} {gn : List Nat} {gp gp' pd pd' : Nat → Prop}
theorem c_gpb {b i e : Int32} {K : am_I} : gX9_givePlacesBack n b i e K = bX9_givePlacesBack_3 n am_fu b e i K := by rw [gX9_givePlacesBack, bX9_givePlacesBack_0]
/-- the class behind the direct places -/
def cC2 (n y : Nat) (w c : Int32) (a had : Int32) (I : am_I) : Option am_I := (gX9_read n w (nI 11) I).bind (fun q5 => if q5.1 = 0 then (bX9_cut_120 n y w a had q5.2) else ((gX9_givePlacesBack n q5.1 (if (nI 0) ≤ (c - (nI 8)) then (c - (nI 8)) else (nI 0)) (nI 16) q5.2).bind (fun q6 => if q6.1 = 0 then (some q6.2) else (if (nI 128) < a then (bX9_cut_120 n y w a had q6.2) else ((gX9_giveBack n q5.1 q6.2).bind (fun q7 => if q7.1 = 0 then (some q7.2) else ((gX9_set n w (nI 11) (nI 0) q7.2).bind (fun q8 => bX9_cut_120 n y w a had q8))))))))
/-- the index goes -/
theorem cut_X {t a x : Nat} {had : Int32} (hC : TC n y Hd I0 J0) (hM : ∀ r, r < 136 → Hd r ≤ 2) (ht : t < 128) (hH : Hd t = 2) (ha : a ≤ 128) (ha1 : I0 y 55 1 = nI t) (hxD : w_D x) (h : TN y Hd F0 I0 J0 [x, w_ib t] (fun c => c = x) F gn (fun c => c ∈ gn) (fun _ => False) I J) (hx : w_own (vw y J) t 24 x) (hG : GX y t 16 gn F J) (hci : ∀ L, L y = 2 → CI0 t (F0 L) (F L)) (hib : tH y J (w_ib t)) (hk : vw y J (w_ib t) 0 = nI 1) (hk0 : ∀ L, L y = 2 → F0 L (w_ib t) 0 = nI 1 ∧ F0 L (w_ib t) 1 = vw y J (w_ib t) 1) :
    ∃ I' J', (gX9_giveBack n (nI x) I).bind (fun q7 => if q7.1 = 0 then (some q7.2) else ((gX9_set n (nI (w_ib t)) (nI 11) (nI 0) q7.2).bind (fun q8 => bX9_cut_120 n y (nI (w_ib t)) (nI a) had q8))) = some I' ∧ bX11_tryCut_160 n (nI t) (nI a) had (nI x) J = some J' ∧ (EN y Hd F0 I0 J0 I' J' ∨ DN y Hd F0 I0 J0 (nI 1) I' J') := by
  have hn4 := hC.2.1
  have hyn := hC.1
  have hxm : ∀ g, ¬ x = w_mp g := D_mp hxD
  have hEm : ∀ g, ¬ w_mp g = x := fun g e => hxm g e.symm
  have hxt : ¬ w_ib t = x := D_ib hxD ht
  have hx0 : ¬ nI x = (0 : Int32) := w_D0 hxD
  have hlt : ¬ 128 < a := by omega
  have cJ : bX11_tryCut_160 n (nI t) (nI a) had (nI x) J = (gX11_giveBack n (nI x) J).bind (fun q1 => (gX11_isOver n q1).bind (fun q2 => if q2.1 = 0 then ((gX11_set n (nI (w_ib t)) (nI 11) (nI 0) q2.2).bind (fun q3 => bX11_tryCut_194 n (nI t) (nI a) had q3)) else (some q2.2))) := by
    simp (disch := omega) only [bX11_tryCut_160, z_lt, hlt, if_false, hx0, a_si ht]
  rw [cJ]
  rcases gx_step (n := n) (x := x) hC hM h hEm ht hH (Nat.le_of_ble_eq_true rfl) (Nat.le_refl _) hG hci hx with ⟨I1, J1, F1, g1, g2, g3, g4, g4', g5, g6, g7, g8, g9⟩ | ⟨I1, J1, g1, g2, g3⟩
  · have hib1 := g6 _ hib
    have hv1 : ∀ i, vw y J1 (w_ib t) i = vw y J (w_ib t) i := fun i => g5 _ _ (ib_nmp ht)
    have hgb : ∀ L, L y = 2 → ∀ p b, 8 ≤ p → w_own (F1 L) t p b → b ∈ gn ++ [x] := fun L hL p b hp ho => g4.2.2 p b hp (by have := ho.2.1; omega) ((tr_own g3.1 hL (by omega)).mp ho)
    obtain ⟨I2, J2, s1, s2, s3, s4, s5, s6, s7⟩ := tn_setv (F' := fun L => w_up (F1 L) (w_ib t) 11 (nI 0)) (gp' := fun c => c ∈ gn ++ [x]) (pd' := fun _ => False) (i := 11) (v := nI 0) hC g3 (w_ib_lt ht) (by omega) hxt (Or.inl hib1) (Or.inl (List.mem_cons_of_mem _ List.mem_cons_self)) (Nat.le_of_ble_eq_true rfl) (fun L sv hs Bh hL hT hh _ => ti_delX hT ht hH (by rw [← tr_vw g3.1 hL (of_ib ht) (by omega) (by omega), hv1, hk]; decide) (hgb L hL) hh)
    rw [g1, g2, Option.bind_some, Option.bind_some]
    show ∃ I' J', (if nI 1 = (0 : Int32) then _ else _) = some I' ∧ _
    simp only [z_10, if_false, ov_rn g3.2, Option.bind_some, z_00, if_true, s1, s2]
    have hv2 : ∀ i, ¬ i = 11 → vw y J2 (w_ib t) i = vw y J (w_ib t) i := fun i hi => by rw [s4, w_up_i _ _ _ hi, hv1]
    have hci2 : ∀ L, L y = 2 → CI0 t (F0 L) (w_up (F1 L) (w_ib t) 11 (nI 0)) ∧ NG0 (gn ++ [x]) (w_up (F1 L) (w_ib t) 11 (nI 0)) := fun L hL => by
      have hw1 := (tr_wf g3.1 hL).1
      have p := pl_X hw1.1 ht
      refine ⟨ci_del (g4' L hL) p.1 (fun c i hc _ => w_up_b _ _ _ _ hc), fun c hc k pp hop => ?_⟩
      have hos := own_del p.1 k pp c hop
      rcases g4.2.1 c hc with q | ⟨p', hp1, hp2, hop'⟩
      · exact q L hL k pp hos
      · obtain ⟨rfl, rfl⟩ := hw1.2.1 k pp t p' c hos ((tr_own g3.1 hL (by omega)).mpr hop')
        exact w_D0 hop.2.2.1 (hop.2.2.2.symm.trans (p.2 _ hp1))
    obtain ⟨I', J', t1, t2, t3⟩ := cut_tail (n := n) (a := a) (had := had) hC ht hH (by omega) s3 (Nat.le_of_ble_eq_true rfl) (List.mem_cons_of_mem _ List.mem_cons_self) (fun c q => by rw [q]; exact List.mem_append.mpr (Or.inr (List.mem_singleton.mpr rfl))) hxt (fun q => absurd q hlt) hci2 ((s5 _).mpr (Or.inl hib1)) (by rw [hv2 0 (by omega)]; exact hk) (fun L hL => ⟨(hk0 L hL).1, by rw [hv2 1 (by omega)]; exact (hk0 L hL).2⟩) ha1
    exact ⟨I', J', t1, t2, Or.inr t3⟩
  · rw [g1, g2.1, Option.bind_some, Option.bind_some]
    refine ⟨I1, J1, if_pos rfl, ?_, Or.inl g3⟩
    simp only [ov_en g3.2, Option.bind_some, z_10, if_false]
/-- behind the direct places, size 128 or less -/
theorem cut_A {t a : Nat} {had : Int32} {fur : Nat} (hC : TC n y Hd I0 J0) (hM : ∀ r, r < 136 → Hd r ≤ 2) (ht : t < 128) (hH : Hd t = 2) (ha : a ≤ 128) (ha1 : I0 y 55 1 = nI t) (hfur : 16 < fur) (h : TN y Hd F0 I0 J0 [w_ib t] (fun _ => False) F gn (fun c => c ∈ gn) (fun _ => False) I J) (hl : gn.length ≤ 8) (hci : ∀ L, L y = 2 → CI0 t (F0 L) (F L) ∧ NG0 gn (F L)) (hib : tH y J (w_ib t)) (hk : vw y J (w_ib t) 0 = nI 1) (hk0 : ∀ L, L y = 2 → F0 L (w_ib t) 0 = nI 1 ∧ F0 L (w_ib t) 1 = vw y J (w_ib t) 1) :
    ∃ I' J', cC2 n y (nI (w_ib t)) (nI ((a + 15) / 16)) (nI a) had I = some I' ∧ bX11_tryCut_38 n fur (nI t) (nI a) had (vw y J (w_ib t) 11) (nI 8) J = some J' ∧ (EN y Hd F0 I0 J0 I' J' ∨ DN y Hd F0 I0 J0 (nI 1) I' J') := by
  have hn4 := hC.2.1
  have hyn := hC.1
  obtain ⟨f, hf, hfb⟩ := fu_ex
  have hlt : ¬ 128 < a := by omega
  have q1 := c_readc (n := n) (i := 11) hC h hib (fun q => q) (by omega)
  unfold cC2
  rw [q1, Option.bind_some]
  rcases tr_ix (p := 0) (b := 0) h.1 ht (by omega) with h0 | ⟨x, x1, x2, x3⟩
  · rw [h0]
    show ∃ I' J', (if nI 0 = (0 : Int32) then bX9_cut_120 n y (nI (w_ib t)) (nI a) had I else _) = some I' ∧ _
    rw [if_pos (show nI 0 = (0 : Int32) from rfl), cu_none h.2 16 8 fur (by omega) (by omega) (by omega)]
    obtain ⟨I', J', t1, t2, t3⟩ := cut_tail (n := n) (a := a) (had := had) hC ht hH (by omega) h (Nat.le_of_ble_eq_true rfl) List.mem_cons_self (fun c q => q.elim) (fun q => q) (fun _ _ q => q) hci hib hk hk0 ha1
    refine ⟨I', J', t1, ?_, Or.inr t3⟩
    rw [← t2]
    simp (disch := omega) only [bX11_tryCut_160, z_lt, hlt, if_false, z_00, if_true]
  · rw [x1]
    have hx0 : ¬ nI x = (0 : Int32) := w_D0 x2
    have hxt : ¬ x = w_ib t := D_ib' x2 ht
    show ∃ I' J', (if nI x = (0 : Int32) then _ else ((gX9_givePlacesBack n (nI x) (if nI 0 ≤ nI ((a + 15) / 16) - nI 8 then nI ((a + 15) / 16) - nI 8 else nI 0) (nI 16) I).bind (fun q6 => if q6.1 = 0 then (some q6.2) else (if (nI 128) < nI a then (bX9_cut_120 n y (nI (w_ib t)) (nI a) had q6.2) else ((gX9_giveBack n (nI x) q6.2).bind (fun q7 => if q7.1 = 0 then (some q7.2) else ((gX9_set n (nI (w_ib t)) (nI 11) (nI 0) q7.2).bind (fun q8 => bX9_cut_120 n y (nI (w_ib t)) (nI a) had q8)))))))) = some I' ∧ _
    rw [if_neg hx0, z_st _ (by omega), c_gpb]
    obtain ⟨I2, J2, f1, f2, f3, f4, f5⟩ := tn_rdv (i := 0) hC h (w_D_lt x2) (by omega) (fun q => q) (tr_rdo (k := t) (p := 24) h.1 (by omega) x3 hib (fun _ q => absurd q (by decide)))
    have g1 := c_readc (n := n) (i := 0) hC f3 f5 (fun q => q) (by omega)
    have g2 := r_getc (n := n) (i := 0) (by omega) f5 (by omega) (tn_c f3).2
    rw [f4.1] at g1 g2
    obtain ⟨fur, rfl⟩ : ∃ f, fur = f + 1 := ⟨fur - 1, by omega⟩
    have dI := gp_first (n := n) (b := x) (i := 0) (e := 16) f (by omega) (by omega) (by omega) f1 g1
    have dJ := t38_first (n := n) (I := I2) (t := t) (a := a) (q := 0) (had := had) fur hx0 (by omega) (by unfold rn; rw [f4.2.2.1]; exact h.2) f3.2 f2 g2
    rw [← hf] at dI
    rw [dI, dJ]
    have hx2 : w_own (vw y J2) t 24 x := by rw [f4.1]; exact x3
    rcases cu_ixA (n := n) (a := a) (had := had) (X := [x, w_ib t]) (E := fun c => c = x) hC hM ht hH (Nat.le_of_ble_eq_true rfl) List.mem_cons_self x2 (fun _ => Iff.rfl) ha 16 0 am_fu (fur + 1) gn F I2 J2 (by omega) (fu_lt (by omega)) (by omega) (tn_E (tn_X x f3) (fun _ q => q.elim)) hx2 ⟨hl, fun c hc => Or.inl (fun L hL => (hci L hL).2 c hc), fun p c a b => by omega⟩ (fun L hL => (hci L hL).1) f5 (fun j hj _ => tn_cv f3 (w_D_lt x2) hj (fun q => q)) with ⟨gn3, F3, I3, J3, s1, s2, s3, s4, s5, s6, s7, s8, s9⟩ | ⟨I3, J3, s1, s2, s3⟩
    · rw [s1, s2, Option.bind_some]
      show ∃ I' J', (if nI 1 = (0 : Int32) then _ else (if (nI 128) < nI a then _ else ((gX9_giveBack n (nI x) I3).bind _))) = some I' ∧ _
      rw [if_neg (by decide), if_neg (by rw [z_lt (by decide) (by omega)]; exact hlt)]
      have hv3 : ∀ i, vw y J3 (w_ib t) i = vw y J (w_ib t) i := fun i => by rw [s6 _ _ (ib_nmp ht), f4.1]
      have hx3 : w_own (vw y J3) t 24 x := ⟨ht, by omega, x2, by
        show vw y J3 (w_ib t) 11 = nI x
        rw [hv3]
        exact x1⟩
      exact cut_X (n := n) (a := a) (had := had) hC hM ht hH ha ha1 x2 s3 hx3 s4 s5 (s7 _ (f4.2.1 _ hib)) (by rw [hv3]; exact hk) (fun L hL => ⟨(hk0 L hL).1, by rw [hv3]; exact (hk0 L hL).2⟩)
    · rw [s1, s2, Option.bind_some]
      exact ⟨I3, J3, if_pos rfl, rfl, Or.inl s3⟩
/-- size over 128 -/
theorem cut_B {t a : Nat} {had : Int32} {fur : Nat} (hC : TC n y Hd I0 J0) (hM : ∀ r, r < 136 → Hd r ≤ 2) (ht : t < 128) (hH : Hd t = 2) (ha : ¬ a ≤ 128) (ha3 : a ≤ 384) (ha1 : I0 y 55 1 = nI t) (hfur : 16 < fur) (h : TN y Hd F0 I0 J0 [w_ib t] (fun _ => False) F gn (fun c => c ∈ gn) (fun _ => False) I J) (hl : gn.length = 0) (hci : ∀ L, L y = 2 → CI0 t (F0 L) (F L) ∧ NG0 gn (F L)) (hib : tH y J (w_ib t)) (hk : vw y J (w_ib t) 0 = nI 1) (hk0 : ∀ L, L y = 2 → F0 L (w_ib t) 0 = nI 1 ∧ F0 L (w_ib t) 1 = vw y J (w_ib t) 1) :
    ∃ I' J', cC2 n y (nI (w_ib t)) (nI ((a + 15) / 16)) (nI a) had I = some I' ∧ bX11_tryCut_38 n fur (nI t) (nI a) had (vw y J (w_ib t) 11) (nI ((a + 15) / 16)) J = some J' ∧ (EN y Hd F0 I0 J0 I' J' ∨ DN y Hd F0 I0 J0 (nI 1) I' J') := by
  have hn4 := hC.2.1
  have hyn := hC.1
  obtain ⟨f, hf, hfb⟩ := fu_ex
  have hlt : 128 < a := by omega
  have q1 := c_readc (n := n) (i := 11) hC h hib (fun q => q) (by omega)
  unfold cC2
  rw [q1, Option.bind_some]
  rcases tr_ix (p := 0) (b := 0) h.1 ht (by omega) with h0 | ⟨x, x1, x2, x3⟩
  · rw [h0]
    show ∃ I' J', (if nI 0 = (0 : Int32) then bX9_cut_120 n y (nI (w_ib t)) (nI a) had I else _) = some I' ∧ _
    rw [if_pos (show nI 0 = (0 : Int32) from rfl), cu_none h.2 (24 - (a + 15) / 16) ((a + 15) / 16) fur (by omega) (by omega) (by omega)]
    obtain ⟨I', J', t1, t2, t3⟩ := cut_tail (n := n) (a := a) (had := had) hC ht hH (by omega) h (Nat.le_of_ble_eq_true rfl) List.mem_cons_self (fun c q => q.elim) (fun q => q) (fun _ _ q => q) hci hib hk hk0 ha1
    refine ⟨I', J', t1, ?_, Or.inr t3⟩
    rw [← t2]
    simp (disch := omega) only [bX11_tryCut_160, z_lt, hlt, if_true]
  · rw [x1]
    have hx0 : ¬ nI x = (0 : Int32) := w_D0 x2
    show ∃ I' J', (if nI x = (0 : Int32) then _ else ((gX9_givePlacesBack n (nI x) (if nI 0 ≤ nI ((a + 15) / 16) - nI 8 then nI ((a + 15) / 16) - nI 8 else nI 0) (nI 16) I).bind (fun q6 => if q6.1 = 0 then (some q6.2) else (if (nI 128) < nI a then (bX9_cut_120 n y (nI (w_ib t)) (nI a) had q6.2) else _)))) = some I' ∧ _
    rw [if_neg hx0, pk_sub (by omega), if_pos (by rw [z_le (by decide) (by omega)]; omega), c_gpb]
    have fin : ∀ {X' : List Nat} {gn' F' I' J'}, TN y Hd F0 I0 J0 X' (fun _ => False) F' gn' (fun c => c ∈ gn') (fun _ => False) I' J' → X'.length ≤ 7 → w_ib t ∈ X' → (∀ L, L y = 2 → CI0 t (F0 L) (F' L) ∧ NG0 gn' (F' L)) → tH y J' (w_ib t) → (∀ i, vw y J' (w_ib t) i = vw y J (w_ib t) i) → ∃ I2 J2, bX9_cut_120 n y (nI (w_ib t)) (nI a) had I' = some I2 ∧ bX11_tryCut_160 n (nI t) (nI a) had (nI x) J' = some J2 ∧ DN y Hd F0 I0 J0 (nI 1) I2 J2 := fun {X' gn' F' I' J'} k1 k2 k3 k4 k5 k6 => by
      obtain ⟨I2, J2, t1, t2, t3⟩ := cut_tail (n := n) (a := a) (had := had) hC ht hH (by omega) k1 k2 k3 (fun c q => q.elim) (fun q => q) (fun _ _ q => q) k4 k5 (by rw [k6]; exact hk) (fun L hL => ⟨(hk0 L hL).1, by rw [k6]; exact (hk0 L hL).2⟩) ha1
      refine ⟨I2, J2, t1, ?_, t3⟩
      rw [← t2]
      simp (disch := omega) only [bX11_tryCut_160, z_lt, hlt, if_true]
    obtain ⟨fur, rfl⟩ : ∃ f, fur = f + 1 := ⟨fur - 1, by omega⟩
    by_cases h24 : (a + 15) / 16 = 24
    · obtain ⟨I2, J2, t1, t2, t3⟩ := fin h (Nat.le_of_ble_eq_true rfl) List.mem_cons_self hci hib (fun _ => rfl)
      refine ⟨I2, J2, ?_, ?_, Or.inr t3⟩
      · have : bX9_givePlacesBack_3 n am_fu (nI x) (nI 16) (nI ((a + 15) / 16 - 8)) I = some (nI 1, I) := by
          rw [hf, h24]
          conv => lhs; unfold bX9_givePlacesBack_3
          simp (disch := omega) only [z_le, (by decide : 16 ≤ 24 - 8), if_true]
        rw [this, Option.bind_some]
        show (if nI 1 = (0 : Int32) then _ else (if (nI 128) < nI a then _ else _)) = _
        rw [if_neg (by decide), if_pos (by rw [z_lt (by decide) (by omega)]; exact hlt)]
        exact t1
      · rw [h24]
        conv => lhs; unfold bX11_tryCut_38
        simp (disch := omega) only [z_le, Nat.le_refl, if_true]
        exact t2
    · obtain ⟨I2, J2, f1, f2, f3, f4, f5⟩ := tn_rdv (i := (a + 15) / 16 - 8) hC h (w_D_lt x2) (by omega) (fun q => q) (tr_rdo (k := t) (p := 24) h.1 (by omega) x3 hib (fun _ q => absurd q (by decide)))
      have g1 := c_readc (n := n) (i := (a + 15) / 16 - 8) hC f3 f5 (fun q => q) (by omega)
      have g2 := r_getc (n := n) (i := (a + 15) / 16 - 8) (by omega) f5 (by omega) (tn_c f3).2
      rw [f4.1] at g1 g2
      have dI := gp_first (n := n) (b := x) (i := (a + 15) / 16 - 8) (e := 16) f (by omega) (by omega) (by omega) f1 g1
      have dJ := t38_first (n := n) (I := I2) (t := t) (a := a) (q := (a + 15) / 16 - 8) (had := had) fur hx0 (by omega) (by unfold rn; rw [f4.2.2.1]; exact h.2) f3.2 f2 g2
      rw [show 8 + ((a + 15) / 16 - 8) = (a + 15) / 16 from by omega] at dJ
      rw [← hf] at dI
      rw [dI, dJ]
      have hB := cu_ixB (n := n) (a := a) (had := had) (X := [x, w_ib t]) hC hM ht hH (Nat.le_of_ble_eq_true rfl) List.mem_cons_self x2 ha ha3 (24 - (a + 15) / 16) ((a + 15) / 16 - 8) am_fu (fur + 1) gn F I2 J2 (by omega) (fu_lt (by omega)) (by omega) (tn_X x f3) (by omega) hci (by rw [f4.1]; exact x3) (f4.2.1 _ hib) f5
      rw [show 8 + ((a + 15) / 16 - 8) = (a + 15) / 16 from by omega] at hB
      rcases hB with ⟨gn3, F3, I3, J3, s1, s2, s3, s4, s5, s6, s7, s8, s9⟩ | ⟨I3, J3, s1, s2, s3⟩
      · rw [s1, s2, Option.bind_some]
        show ∃ I' J', (if nI 1 = (0 : Int32) then _ else (if (nI 128) < nI a then _ else _)) = some I' ∧ _
        rw [if_neg (by decide), if_pos (by rw [z_lt (by decide) (by omega)]; exact hlt)]
        obtain ⟨I4, J4, t1, t2, t3⟩ := fin s3 (Nat.le_of_ble_eq_true rfl) (List.mem_cons_of_mem _ List.mem_cons_self) s5 (s7 _ (f4.2.1 _ hib)) (fun i => by rw [s6 _ _ (ib_nmp ht) (D_ib x2 ht), f4.1])
        exact ⟨I4, J4, t1, t2, Or.inr t3⟩
      · rw [s1, s2, Option.bind_some]
        exact ⟨I3, J3, if_pos rfl, rfl, Or.inl s3⟩
/-- CUT -/
theorem k_cut {t a : Nat} (hC : TC n y Hd I0 J0) (hM : ∀ r, r < 136 → Hd r ≤ 2) (h : TN0 y Hd F0 I0 J0 I J) (ht : t < 128) (ha : a ≤ 384) (ha1 : I0 y 55 1 = nI t) (ha2 : I0 y 55 2 = nI a) : ∃ I' J', gX9_cut n y I = some I' ∧ gX11_tryCut n (nI t) (nI a) J = some J' ∧ (EN y Hd F0 I0 J0 I' J' ∨ DN y Hd F0 I0 J0 (nI 1) I' J') := by
  have hn4 := hC.2.1
  have hyn := hC.1
  obtain ⟨f, hf, hfb⟩ := fu_ex
  rcases tn_file (m := 2) hC h (fun _ q => q) ht (Or.inr rfl) with ⟨I1, J1, e1, e2, e3, e4, e5, e6, e7⟩ | ⟨I1, J1, e1, e2, e3⟩
  · have hH : Hd t = 2 := by have := hM t (by omega); omega
    have q2 := c_readc (n := n) (i := 2) hC e3 e7 (fun q => q) (by omega)
    have r2 := r_getc (n := n) (i := 2) (by omega) e7 (by omega) (tn_c e3).2
    have r11 := r_getc (n := n) (i := 11) (by omega) e7 (by omega) (tn_c e3).2
    have hk1 : vw y J1 (w_ib t) 0 = nI 1 := by rw [e4.1]; exact e6
    have hk0 : ∀ L, L y = 2 → F0 L (w_ib t) 0 = nI 1 ∧ F0 L (w_ib t) 1 = vw y J1 (w_ib t) 1 := fun L hL => ⟨by rw [← tr_vw e3.1 hL (of_ib ht) (by omega) (by omega)]; exact hk1, (tr_vw e3.1 hL (of_ib ht) (by omega) (by omega)).symm⟩
    have hX1 : TN y Hd F0 I0 J0 [w_ib t] (fun _ => False) F0 [] (fun c => c ∈ ([] : List Nat)) (fun _ => False) I1 J1 := tn_gp (tn_X (w_ib t) e3) (fun c => ⟨fun q => absurd q List.not_mem_nil, fun q => q.elim⟩)
    have hci1 : ∀ L, L y = 2 → CI0 t (F0 L) (F0 L) ∧ NG0 [] (F0 L) := fun L _ => ⟨ci_rf, fun c hc => absurd hc List.not_mem_nil⟩
    have h15 : (nI a + nI 16 - nI 1) / nI 16 = nI ((a + 15) / 16) := by
      rw [nI_add, pk_sub (by omega), pk_div (by omega) (by decide) (by decide), show a + 16 - 1 = a + 15 from by omega]
    have h15' : (nI (a + 16) - nI 1) / nI 16 = nI ((a + 15) / 16) := by
      rw [← h15, nI_add]
    have cI : gX9_cut n y I = (gX9_givePlacesBack n (nI (w_ib t)) (nI (3 + (a + 15) / 16)) (nI 11) I1).bind (fun q4 => if q4.1 = 0 then (some q4.2) else cC2 n y (nI (w_ib t)) (nI ((a + 15) / 16)) (nI a) (vw y J1 (w_ib t) 2) q4.2) := by
      simp only [gX9_cut, bX9_cut_0, tn_a h, ha1, e1, Option.bind_some, z_10, if_false, tn_a e3, ha2, c_ib n t I1 ht, q2, h15, h15', nI_add, cC2]
    have cJ : gX11_tryCut n (nI t) (nI a) J = bX11_tryCut_38 n am_fu (nI t) (nI a) (vw y J1 (w_ib t) 2) (vw y J1 (w_ib t) 11) (nI ((a + 15) / 16)) J1 := by
      rw [gX11_tryCut, bX11_tryCut_0, e2, Option.bind_some]
      show (if nI 1 = (0 : Int32) then _ else ((gX11_ofInode n (nI t) (nI 2) J1).bind _)) = _
      rw [if_neg (by decide), a_of ht, r2, Option.bind_some]
      show ((gX11_ofInode n (nI t) (nI 11) J1).bind _) = _
      rw [a_of ht, r11, Option.bind_some]
      show bX11_tryCut_38 n am_fu (nI t) (nI a) (vw y J1 (w_ib t) 2) (vw y J1 (w_ib t) 11) ((nI a + nI 15) / nI 16) J1 = _
      rw [nI_add, pk_div (by omega) (by decide) (by decide)]
    rw [cI, cJ, c_gpb]
    by_cases hc : a ≤ 128
    · rcases cu_dir (n := n) (a := a) (had := vw y J1 (w_ib t) 2) (idx := vw y J1 (w_ib t) 11) (X := [w_ib t]) hC hM ht hH (Nat.le_of_ble_eq_true rfl) List.mem_cons_self (8 - (a + 15) / 16) ((a + 15) / 16) am_fu am_fu [] F0 I1 J1 (by omega) (fu_lt (by omega)) (fu_lt (by omega)) hX1 (Nat.zero_le _) hci1 e7 (by rw [hk1]; decide) with ⟨gn2, F2, I2, J2, fur2, d0, d1, d2, d3, d4, d5, d6, d7, d8, d9⟩ | ⟨I2, J2, d1, d2, d3⟩
      · have hv : ∀ i, ¬ (3 ≤ i ∧ i < 11) → vw y J2 (w_ib t) i = vw y J1 (w_ib t) i := fun i hi => d6 _ _ (ib_nmp ht) (fun q => hi q.2)
        rw [d1, d2, Option.bind_some, ← hv 11 (by omega)]
        show ∃ I' J', (if nI 1 = (0 : Int32) then _ else _) = some I' ∧ _
        rw [if_neg (by decide)]
        exact cut_A hC hM ht hH hc ha1 d0 d3 d4 d5 (d7 _ e7) (by rw [hv 0 (by omega)]; exact hk1) (fun L hL => ⟨(hk0 L hL).1, by rw [hv 1 (by omega)]; exact (hk0 L hL).2⟩)
      · rw [d1, d2, Option.bind_some]
        exact ⟨I2, J2, if_pos rfl, rfl, Or.inl d3⟩
    · have : bX9_givePlacesBack_3 n am_fu (nI (w_ib t)) (nI 11) (nI (3 + (a + 15) / 16)) I1 = some (nI 1, I1) := by
        have hle : 11 ≤ 3 + (a + 15) / 16 := by omega
        rw [hf]
        conv => lhs; unfold bX9_givePlacesBack_3
        simp (disch := omega) only [z_le, hle, if_true]
      rw [this, Option.bind_some]
      show ∃ I' J', (if nI 1 = (0 : Int32) then _ else _) = some I' ∧ _
      rw [if_neg (by decide)]
      exact cut_B hC hM ht hH hc ha ha1 (fu_lt (by omega)) hX1 rfl hci1 e7 hk1 hk0
  · refine ⟨I1, J1, ?_, ?_, Or.inl e3⟩
    · simp only [gX9_cut, bX9_cut_0, tn_a h, ha1, e1, Option.bind_some, z_00, if_true]
    · simp only [gX11_tryCut, bX11_tryCut_0, e2, Option.bind_some, z_00, if_true]
end CUT
