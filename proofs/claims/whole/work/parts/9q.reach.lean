section REACH
variable {n y : Nat} {Hd : Nat → Int} {F0 F F' : (Nat → Nat) → wS} {I0 J0 I J : am_I} {X : List Nat} {E : Nat → Prop} {gn : List Nat} {gp gp' pd pd' : Nat → Prop}
theorem tn_X (c : Nat) (h : TN y Hd F0 I0 J0 X E F gn gp pd I J) : TN y Hd F0 I0 J0 (c :: X) E F gn gp pd I J := by
  obtain ⟨⟨B, sv, cv, p1, p2, p3, p4, p5, p6, p7, p8, p9, p10, p11⟩, hr⟩ := h
  exact ⟨⟨B, sv, cv, p1, p2, p3, p4, p5, p6, p7, p8, p9, fun b q => (p10 b q).imp (List.mem_cons_of_mem _) id, p11⟩, hr⟩
theorem tn_Xs {X' : List Nat} (h : TN y Hd F0 I0 J0 X E F gn gp pd I J) (hs : ∀ x, x ∈ X → x ∈ X') : TN y Hd F0 I0 J0 X' E F gn gp pd I J := by
  obtain ⟨⟨B, sv, cv, p1, p2, p3, p4, p5, p6, p7, p8, p9, p10, p11⟩, hr⟩ := h
  exact ⟨⟨B, sv, cv, p1, p2, p3, p4, p5, p6, p7, p8, p9, fun b q => (p10 b q).imp (hs b) id, p11⟩, hr⟩
theorem tn_pd (h : TN y Hd F0 I0 J0 X E F gn gp pd I J) (hp : ∀ c, pd' c ↔ pd c) : TN y Hd F0 I0 J0 X E F gn gp pd' I J := by
  obtain rfl : pd' = pd := funext fun c => propext (hp c)
  exact h
def RCH (y : Nat) (Hd : Nat → Int) (F0 : (Nat → Nat) → wS) (I0 J0 : am_I) (X : List Nat) (E : Nat → Prop) (gn : List Nat) (gp : Nat → Prop) (k p q : Nat) (F : (Nat → Nat) → wS) (I J : am_I) (c r : Option (Int32 × am_I)) : Prop :=
  (∃ b F' I' J', w_D b ∧ c = some (nI b, I') ∧ r = some (nI b, J') ∧ TN y Hd F0 I0 J0 (w_ib k :: q :: b :: X) E F' gn gp (fun _ => False) I' J' ∧ w_own (vw y J') k p b ∧ tH y J' (w_ib k) ∧ (8 ≤ p → p < 24 → tH y J' (vw y J' (w_ib k) 11).toNatClampNeg) ∧ (∀ k' i, k' < 128 → (¬ k' = k ∨ i < 3) → vw y J' (w_ib k') i = vw y J (w_ib k') i) ∧ (∀ c, tH y J c → tH y J' c) ∧ (∀ k, ¬ k = 5 → I' 0 15 k = I 0 15 k) ∧ (∀ k, ¬ k = 56 → J' 0 60 k = J 0 60 k) ∧ ∀ L, L y = 2 → ES (F L) (F' L))
  ∨ (∃ I' J', c = some (nI 0, I') ∧ (r = some (nI 0, J') ∧ ∀ c, tH y J c → tH y J' c) ∧ EN y Hd F0 I0 J0 I' J')
theorem z_pos {b : Nat} (h : w_D b) : ¬ nI b ≤ (0 : Int32) := by
  have hb := w_Dlt h
  unfold w_D at h
  rw [z_0, z_le hb (by decide)]
  omega
theorem ib_nmp {k : Nat} (h : k < 128) (g : Nat) : ¬ w_ib k = w_mp g := w_ib_mp h
theorem D_ib {b k : Nat} (hb : w_D b) (hk : k < 128) : ¬ w_ib k = b := fun e => w_ib_D hk (e ▸ hb)
/-- a direct place -/
theorem tn_rD {k a xx : Nat} (hC : TC n y Hd I0 J0) (hM : ∀ r, r < 136 → Hd r ≤ 2) (h : TN y Hd F0 I0 J0 X E F gn gp (fun _ => False) I J) (hE : ∀ b, ¬ E b) (hgp : ∀ c, ¬ gp c) (hX : X.length ≤ 16) (hk : k < 128) (hH : Hd k = 2) (hz : ¬ vw y J (w_ib k) 0 = nI 0) (hib : tH y J (w_ib k)) (ha : a < 128) : RCH y Hd F0 I0 J0 X E gn gp k (a / 16) xx F I J (bX9_reach_72 n (nI k) (nI (w_ib k)) (nI (3 + a / 16)) I) (bX11_blockFor_40 n (nI k) (nI a) J) := by
  have hn4 := hC.2.1
  have hyn := hC.1
  have q1 := c_readc (n := n) (i := 3 + a / 16) hC h hib (hE _) (by omega)
  have q2 := r_bofc (n := n) (a := a) (by omega) h.1 hk (by omega) (by omega) hib (fun q => by omega)
  have hpl : w_pl (vw y J) k (a / 16) = vw y J (w_ib k) (3 + a / 16) := by
    unfold w_pl
    rw [if_pos (by omega)]
  have h128 : ¬ 128 ≤ a := by omega
  rcases tr_P (p := a / 16) h.1 hk (by omega) (by omega) with h0 | ⟨b, b1, b2⟩
  · rw [h0] at q2
    rw [← hpl, h0] at q1
    rcases tn_take (k := k) hC hM h hE hgp (by omega) hk with ⟨b, F1, I1, J1, e0, e1, e2, e3, e4, e5, e6, e7, e8, e9⟩ | ⟨I1, J1, e1, e2, e3⟩
    · have hb0 : ¬ nI b = (0 : Int32) := w_D0 e0
      have hv0 : vw y J1 (w_ib k) 0 = vw y J (w_ib k) 0 := e4 _ _ (D_ib e0 hk) (ib_nmp hk)
      have hvp : vw y J1 (w_ib k) (3 + a / 16) = nI 0 := by rw [e4 _ _ (D_ib e0 hk) (ib_nmp hk), ← hpl]; exact h0
      obtain ⟨I2, J2, f1, f2, f3, f4, f5, f6, f7⟩ := tn_setv (F' := fun L => w_up (F1 L) (w_ib k) (3 + a / 16) (nI b)) (gp' := gp) (pd' := fun d => (False ∨ d = b) ∧ ¬ d = b) (i := 3 + a / 16) (v := nI b) hC (tn_X (w_ib k) e3) (w_ib_lt hk) (by omega) (hE _) (Or.inl (e5 _ hib)) (Or.inl List.mem_cons_self) (by simp only [List.length_cons]; omega) (fun L sv hs Bh hL hT hh hc => ti_setD hT hgp hk (by omega) hH (by rw [← tr_vw e3.1 hL (of_ib hk) (by omega) (by omega), hv0]; exact hz) (Or.inr rfl) (by rw [← tr_vw e3.1 hL (of_ib hk) (by omega) (by omega)]; exact hvp) hh)
      refine Or.inl ⟨b, _, I2, J2, e0, ?_, ?_, tn_Xs (tn_pd f3 (fun c => ⟨fun q => q.elim, fun q => q.2 (q.1.resolve_left id)⟩)) (fun x hx => by simp only [List.mem_cons] at hx ⊢; rcases hx with h | h | h <;> simp [h]), ?_, (f5 _).mpr (Or.inr rfl), fun q => by omega, fun k' i hk' hki => ?_, fun c q => (f5 c).mpr (Or.inl (e5 c q)), fun k q => (f6 k q).trans (e7 k q), fun k q => (f7 k q).trans (e8 k q), fun L hL => ?_⟩
      · simp (disch := omega) only [bX9_reach_72, bX9_reach_110, q1, Option.bind_some, z_00, if_true, pk_div, e1, hb0, if_false, f1]
      · simp (disch := omega) only [bX11_blockFor_40, bX11_blockFor_109, q2, Option.bind_some, (by decide : nI 0 ≤ (0 : Int32)), if_true, e2, ov_rn e3.2, z_00, z_le, h128, if_false, pk_div, nI_add, a_si hk, f2]
      · refine ⟨hk, by omega, e0, ?_⟩
        unfold w_pl
        rw [if_pos (by omega), f4, w_up_at]
      · rw [f4]
        have : w_up (vw y J1) (w_ib k) (3 + a / 16) (nI b) (w_ib k') i = vw y J1 (w_ib k') i := if_neg (fun e => by
          rcases hki with q | q
          · exact q (w_ib_inj hk' hk e.1)
          · have := e.2; omega)
        rw [this]
        exact e4 _ _ (D_ib e0 hk') (ib_nmp hk')
      · obtain ⟨sv, Bh, hT⟩ := tr_ti e3.1
        have hpd := ti_pd (hT L hL) b (Or.inr rfl)
        exact (es_tk (tr_wf h.1 hL).1.1 e0 (e9 L) hpd.2.1).tr (es_setD (tr_wf e3.1 hL).1.1 hk (by omega) e0 (by rw [← tr_vw e3.1 hL (of_ib hk) (by omega) (by omega)]; exact hvp) (fun i hi => (hpd.2.2.2.2 i hi).1))
    · refine Or.inr ⟨I1, J1, ?_, ⟨?_, e2.2⟩, e3⟩
      · simp (disch := omega) only [bX9_reach_72, bX9_reach_110, q1, Option.bind_some, z_00, if_true, pk_div, e1]
      · simp (disch := omega) only [bX11_blockFor_40, q2, Option.bind_some, (by decide : nI 0 ≤ (0 : Int32)), if_true, e2, ov_en e3.2, z_10, if_false]
  · rw [b1] at q2
    rw [← hpl, b1] at q1
    have hb0 : ¬ nI b = (0 : Int32) := w_D0 b2
    have hbp := z_pos b2
    refine Or.inl ⟨b, F, I, J, b2, ?_, ?_, tn_X _ (tn_X _ (tn_X _ h)), ⟨hk, by omega, b2, b1⟩, hib, fun q => by omega, fun _ _ _ _ => rfl, fun c q => q, fun _ _ => rfl, fun _ _ => rfl, fun _ _ => ES.rf⟩
    · simp (disch := omega) only [bX9_reach_72, bX9_reach_110, q1, Option.bind_some, hb0, if_false]
    · simp (disch := omega) only [bX11_blockFor_40, q2, Option.bind_some, hbp, if_false]
/-- a place of the index -/
theorem tn_rI {k a x : Nat} (hC : TC n y Hd I0 J0) (hM : ∀ r, r < 136 → Hd r ≤ 2) (h : TN y Hd F0 I0 J0 X E F gn gp (fun _ => False) I J) (hE : ∀ b, ¬ E b) (hgp : ∀ c, ¬ gp c) (hX : X.length ≤ 16) (hk : k < 128) (hH : Hd k = 2) (hib : tH y J (w_ib k)) (hx : w_own (vw y J) k 24 x) (ha : 128 ≤ a) (ha2 : a < 384) : RCH y Hd F0 I0 J0 X E gn gp k (a / 16) x F I J (bX9_reach_72 n (nI k) (nI x) (nI (a / 16 - 8)) I) (bX11_blockFor_40 n (nI k) (nI a) J) := by
  have hn4 := hC.2.1
  have hyn := hC.1
  have hxD := hx.2.2.1
  have h11 : vw y J (w_ib k) 11 = nI x := hx.2.2.2
  have hx0 : ¬ nI x = (0 : Int32) := w_D0 hxD
  obtain ⟨Ia, Ja, r1, r2, r3, r4, r5⟩ := tn_rdv (i := a / 16 - 8) hC h (w_D_lt hxD) (by omega) (hE _) (tr_rdo (k := k) (p := 24) h.1 (by omega) hx hib (fun _ q => absurd q (by decide)))
  have hb2 : gX11_blockOf n (nI k) (nI a) J = some (vw y J x (a / 16 - 8), Ja) := by
    have e11 := r_getc (n := n) (i := 11) (by omega) hib (by omega) (tn_c h).2
    rw [h11] at e11
    simp (disch := omega) only [gX11_blockOf, bX11_blockOf_0, bX11_blockOf_47, z_le, ha, if_true, a_of hk, e11, Option.bind_some, hx0, if_false, pk_div, pk_sub, r2]
  have hpl : w_pl (vw y J) k (a / 16) = vw y J x (a / 16 - 8) := by
    unfold w_pl
    rw [if_neg (by omega), if_neg (by omega), h11, if_neg (w_D0 hxD), nI_clamp (w_Dlt hxD)]
  have hiba := r4.2.1 _ hib
  rcases tr_P (p := a / 16) h.1 hk (by omega) (by omega) with h0 | ⟨b, b1, b2⟩
  · rw [← hpl, h0] at r1 hb2
    rcases tn_take (k := k) hC hM r3 hE hgp (by omega) hk with ⟨b, F1, I1, J1, e0, e1, e2, e3, e4, e5, e6, e7, e8, e9⟩ | ⟨I1, J1, e1, e2, e3⟩
    · have hb0 : ¬ nI b = (0 : Int32) := w_D0 e0
      have hbx : ¬ x = b := by
        -- the index is owned, the new block was not
        intro e
        obtain ⟨sv, Bh, hT⟩ := tr_ti e3.1
        have hpd := ti_pd (hT L2 rfl) b (Or.inr rfl)
        have hv : vw y J1 (w_ib k) 11 = nI x := by rw [e4 _ _ (D_ib e0 hk) (ib_nmp hk), r4.1]; exact h11
        have : w_own (vw y J1) k 24 x := ⟨hk, by omega, hxD, hv⟩
        exact hpd.2.1 k 24 (e ▸ (tr_own (L := L2) e3.1 rfl (by omega)).mpr this)
      have hxm : ∀ g, ¬ x = w_mp g := fun g e => w_mp_D g (e ▸ hxD)
      have hx1 : w_own (vw y J1) k 24 x := ⟨hk, by omega, hxD, by
        show vw y J1 (w_ib k) 11 = nI x
        rw [e4 _ _ (D_ib e0 hk) (ib_nmp hk), r4.1]; exact h11⟩
      have hvx : vw y J1 x (a / 16 - 8) = nI 0 := by rw [e4 _ _ hbx hxm, r4.1, ← hpl]; exact h0
      have g11 := r_getc (n := n) (i := 11) (by omega) (e5 _ hiba) (by omega) (tn_c e3).2
      rw [show vw y J1 (w_ib k) 11 = nI x from hx1.2.2.2] at g11
      obtain ⟨I2, J2, f1, f2, f3, f4, f5, f6, f7⟩ := tn_setv (F' := fun L => w_up (F1 L) x (a / 16 - 8) (nI b)) (gp' := gp) (pd' := fun d => (False ∨ d = b) ∧ ¬ d = b) (i := a / 16 - 8) (v := nI b) hC (tn_X x e3) (w_D_lt hxD) (by omega) (hE _) (Or.inl (e5 _ r5)) (Or.inl List.mem_cons_self) (by simp only [List.length_cons]; omega) (fun L sv hs Bh hL hT hh hc => ti_setI hT hgp hk hH ((tr_own e3.1 hL (by omega)).mpr hx1) (by omega) (Or.inr rfl) (by rw [← tr_vw e3.1 hL (of_own ((tr_own e3.1 hL (by omega)).mpr hx1)) (by omega) (by omega)]; exact hvx) (hc _ (e5 _ hiba)) hh)
      have hne : ¬ w_ib k = x := D_ib hxD hk
      refine Or.inl ⟨b, _, I2, J2, e0, ?_, ?_, tn_X _ (tn_pd f3 (fun c => ⟨fun q => q.elim, fun q => q.2 (q.1.resolve_left id)⟩)), ?_, (f5 _).mpr (Or.inl (e5 _ hiba)), fun _ _ => ?_, fun k' i hk' hki => ?_, fun c q => (f5 c).mpr (Or.inl (e5 c (r4.2.1 c q))), fun k q => by rw [f6 k q, e7 k q, r4.2.2.1], fun k q => by rw [f7 k q, e8 k q, r4.2.2.2], fun L hL => ?_⟩
      · simp (disch := omega) only [bX9_reach_72, bX9_reach_110, r1, Option.bind_some, z_00, if_true, pk_div, e1, hb0, if_false, f1]
      · simp (disch := omega) only [bX11_blockFor_40, bX11_blockFor_109, hb2, Option.bind_some, (by decide : nI 0 ≤ (0 : Int32)), if_true, e2, ov_rn e3.2, z_00, z_le, ha, a_of hk, g11, pk_div, pk_sub, f2]
      · refine ⟨hk, by omega, e0, ?_⟩
        have h11' : w_up (vw y J1) x (a / 16 - 8) (nI b) (w_ib k) 11 = nI x := by rw [w_up_b _ _ _ _ hne]; exact hx1.2.2.2
        unfold w_pl
        rw [if_neg (by omega), if_neg (by omega), f4, h11', if_neg (w_D0 hxD), nI_clamp (w_Dlt hxD), w_up_at]
      · rw [f4, w_up_b _ _ _ _ hne, show vw y J1 (w_ib k) 11 = nI x from hx1.2.2.2, nI_clamp (w_Dlt hxD)]
        exact (f5 _).mpr (Or.inr rfl)
      · rw [f4, w_up_b _ _ _ _ (D_ib hxD hk'), e4 _ _ (D_ib e0 hk') (ib_nmp hk'), r4.1]
      · obtain ⟨sv, Bh, hT⟩ := tr_ti e3.1
        have hpd := ti_pd (hT L hL) b (Or.inr rfl)
        have hxL := (tr_own e3.1 hL (by omega : 0 < Hd k)).mpr hx1
        exact (es_tk (tr_wf h.1 hL).1.1 e0 (e9 L) hpd.2.1).tr (es_setI (tr_wf e3.1 hL).1.1 (tr_wf e3.1 hL).1.2.1 hxL (by omega) e0 hpd.2.1 (by rw [← tr_vw e3.1 hL (of_own hxL) (by omega) (by omega)]; exact hvx) (fun i hi => (hpd.2.2.2.2 i hi).1))
    · refine Or.inr ⟨I1, J1, ?_, ⟨?_, fun c q => e2.2 c (r4.2.1 c q)⟩, e3⟩
      · simp (disch := omega) only [bX9_reach_72, bX9_reach_110, r1, Option.bind_some, z_00, if_true, pk_div, e1]
      · simp (disch := omega) only [bX11_blockFor_40, hb2, Option.bind_some, (by decide : nI 0 ≤ (0 : Int32)), if_true, e2, ov_en e3.2, z_10, if_false]
  · rw [← hpl, b1] at r1 hb2
    have hb0 : ¬ nI b = (0 : Int32) := w_D0 b2
    have hbp := z_pos b2
    refine Or.inl ⟨b, F, Ia, Ja, b2, ?_, ?_, tn_X _ (tn_X _ (tn_X _ r3)), ⟨hk, by omega, b2, by rw [r4.1]; exact b1⟩, hiba, fun _ _ => by rw [r4.1, h11, nI_clamp (w_Dlt hxD)]; exact r5, fun k' i _ _ => by rw [r4.1], fun c q => r4.2.1 c q, fun k _ => by rw [r4.2.2.1], fun k _ => by rw [r4.2.2.2], fun _ _ => ES.rf⟩
    · simp (disch := omega) only [bX9_reach_72, bX9_reach_110, r1, Option.bind_some, hb0, if_false]
    · simp (disch := omega) only [bX11_blockFor_40, hb2, Option.bind_some, hbp, if_false]
/-- the block of a word, taken if there is none -/
theorem tn_reach {k a : Nat} (hC : TC n y Hd I0 J0) (hM : ∀ r, r < 136 → Hd r ≤ 2) (h : TN y Hd F0 I0 J0 X E F gn gp (fun _ => False) I J) (hE : ∀ b, ¬ E b) (hgp : ∀ c, ¬ gp c) (hX : X.length ≤ 12) (hk : k < 128) (hH : Hd k = 2) (hz : ¬ vw y J (w_ib k) 0 = nI 0) (hib : tH y J (w_ib k)) (ha : a < 384) : ∃ xx, RCH y Hd F0 I0 J0 X E gn gp k (a / 16) xx F I J (gX9_reach n (nI k) (nI a) I) (gX11_blockFor n (nI k) (nI a) J) := by
  have hn4 := hC.2.1
  have hyn := hC.1
  by_cases h128 : a < 128
  · have r := tn_rD (n := n) (xx := 0) hC hM h hE hgp (by omega) hk hH hz hib h128
    have c : gX9_reach n (nI k) (nI a) I = bX9_reach_72 n (nI k) (nI (w_ib k)) (nI (3 + a / 16)) I := by
      simp (disch := omega) only [gX9_reach, bX9_reach_0, c_ib n k I hk, Option.bind_some, z_lt, h128, if_true, pk_div, nI_add]
    have c' : gX11_blockFor n (nI k) (nI a) J = bX11_blockFor_40 n (nI k) (nI a) J := by
      simp (disch := omega) only [gX11_blockFor, bX11_blockFor_0, z_lt, h128, if_true]
    rw [c, c']
    exact ⟨0, r⟩
  · have q1 := c_readc (n := n) (i := 11) hC h hib (hE _) (by omega)
    have q2 := r_getc (n := n) (i := 11) (by omega) hib (by omega) (tn_c h).2
    rcases tr_ix (p := 0) (b := 0) h.1 hk (by omega) with h0 | ⟨x, x1, x2, x3⟩
    · rw [h0] at q1 q2
      rcases tn_take (k := k) hC hM h hE hgp (by omega) hk with ⟨b, F1, I1, J1, e0, e1, e2, e3, e4, e5, e6, e7, e8, e9⟩ | ⟨I1, J1, e1, e2, e3⟩
      · have hb0 : ¬ nI b = (0 : Int32) := w_D0 e0
        have hv0 : vw y J1 (w_ib k) 0 = vw y J (w_ib k) 0 := e4 _ _ (D_ib e0 hk) (ib_nmp hk)
        have hv11 : vw y J1 (w_ib k) 11 = nI 0 := by rw [e4 _ _ (D_ib e0 hk) (ib_nmp hk)]; exact h0
        obtain ⟨I2, J2, f1, f2, f3, f4, f5, f6, f7⟩ := tn_setv (F' := fun L => w_up (F1 L) (w_ib k) 11 (nI b)) (gp' := gp) (pd' := fun d => (False ∨ d = b) ∧ ¬ d = b) (i := 11) (v := nI b) hC (tn_X (w_ib k) e3) (w_ib_lt hk) (by omega) (hE _) (Or.inl (e5 _ hib)) (Or.inl List.mem_cons_self) (by simp only [List.length_cons]; omega) (fun L sv hs Bh hL hT hh hc => ti_setX hT hgp hk hH (by rw [← tr_vw e3.1 hL (of_ib hk) (by omega) (by omega), hv0]; exact hz) (Or.inr rfl) (by rw [← tr_vw e3.1 hL (of_ib hk) (by omega) (by omega)]; exact hv11) hh)
        have f3' := tn_pd f3 (pd' := fun _ => False) (fun c => ⟨fun q => q.elim, fun q => q.2 (q.1.resolve_left id)⟩)
        have hx : w_own (vw y J2) k 24 b := ⟨hk, by omega, e0, by rw [f4]; unfold w_pl; rw [if_neg (by omega), if_pos rfl, w_up_at]⟩
        have r := tn_rI (n := n) (a := a) hC hM f3' hE hgp (by simp only [List.length_cons]; omega) hk hH ((f5 _).mpr (Or.inr rfl)) hx (by omega) ha
        have c : gX9_reach n (nI k) (nI a) I = bX9_reach_72 n (nI k) (nI b) (nI (a / 16 - 8)) I2 := by
          simp (disch := omega) only [gX9_reach, bX9_reach_0, bX9_reach_60, c_ib n k I hk, Option.bind_some, z_lt, h128, if_false, q1, z_00, if_true, pk_div, pk_sub, e1, hb0, f1]
        have c' : gX11_blockFor n (nI k) (nI a) J = bX11_blockFor_40 n (nI k) (nI a) J2 := by
          simp (disch := omega) only [gX11_blockFor, bX11_blockFor_0, z_lt, h128, if_false, a_of hk, q2, Option.bind_some, z_00, if_true, e2, ov_rn e3.2, a_si hk, f2]
        rw [c, c']
        refine ⟨b, ?_⟩
        rcases r with ⟨b', F', I', J', s0, s1, s2, s3, s6, s7, s8, s9, s10, s11, s12, s13⟩ | r
        · refine Or.inl ⟨b', F', I', J', s0, s1, s2, tn_Xs s3 (fun x hx => by simp only [List.mem_cons] at hx ⊢; rcases hx with h | h | h | h | h | h <;> simp [h]), s6, s7, s8, fun k' i hk' hki => ?_, fun c q => s10 c ((f5 c).mpr (Or.inl (e5 c q))), fun k q => by rw [s11 k q, f6 k q, e7 k q], fun k q => by rw [s12 k q, f7 k q, e8 k q], fun L hL => ?_⟩
          · rw [s9 k' i hk' hki, f4]
            have : w_up (vw y J1) (w_ib k) 11 (nI b) (w_ib k') i = vw y J1 (w_ib k') i := if_neg (fun e => by
              rcases hki with q | q
              · exact q (w_ib_inj hk' hk e.1)
              · have := e.2; omega)
            rw [this]
            exact e4 _ _ (D_ib e0 hk') (ib_nmp hk')
          · obtain ⟨sv, Bh, hT⟩ := tr_ti e3.1
            have hpd := ti_pd (hT L hL) b (Or.inr rfl)
            exact ((es_tk (tr_wf h.1 hL).1.1 e0 (e9 L) hpd.2.1).tr (es_setX (tr_wf e3.1 hL).1.1 hk e0 (by rw [← tr_vw e3.1 hL (of_ib hk) (by omega) (by omega)]; exact hv11) (fun i hi => (hpd.2.2.2.2 i hi).1))).tr (s13 L hL)
        · obtain ⟨I', J', r1, r2, r3⟩ := r
          exact Or.inr ⟨I', J', r1, ⟨r2.1, fun c q => r2.2 c ((f5 c).mpr (Or.inl (e5 c q)))⟩, r3⟩
      · refine ⟨0, Or.inr ⟨I1, J1, ?_, ⟨?_, e2.2⟩, e3⟩⟩
        · simp (disch := omega) only [gX9_reach, bX9_reach_0, c_ib n k I hk, Option.bind_some, z_lt, h128, if_false, q1, z_00, if_true, pk_div, e1]
        · simp (disch := omega) only [gX11_blockFor, bX11_blockFor_0, z_lt, h128, if_false, a_of hk, q2, Option.bind_some, z_00, if_true, e2, ov_en e3.2, z_10]
    · rw [x1] at q1 q2
      have hx0 : ¬ nI x = (0 : Int32) := w_D0 x2
      have r := tn_rI (n := n) (a := a) hC hM h hE hgp (by omega) hk hH hib x3 (by omega) ha
      have c : gX9_reach n (nI k) (nI a) I = bX9_reach_72 n (nI k) (nI x) (nI (a / 16 - 8)) I := by
        simp (disch := omega) only [gX9_reach, bX9_reach_0, bX9_reach_60, c_ib n k I hk, Option.bind_some, z_lt, h128, if_false, q1, hx0, pk_div, pk_sub]
      have c' : gX11_blockFor n (nI k) (nI a) J = bX11_blockFor_40 n (nI k) (nI a) J := by
        simp (disch := omega) only [gX11_blockFor, bX11_blockFor_0, z_lt, h128, if_false, a_of hk, q2, Option.bind_some, hx0]
      rw [c, c']
      exact ⟨x, r⟩
end REACH
