
/-- of the store only what t owns has changed, and nothing is owned anew -/
def CI0 (t : Nat) (s0 s : wS) : Prop := (∀ k p c, w_own s k p c → w_own s0 k p c) ∧ ∀ c i, ¬ c = w_ib t → (∀ p, ¬ w_own s0 t p c) → (∀ g, ¬ c = w_mp g) → s c i = s0 c i
/-- what was given back is nobody's -/
def NG0 (gn : List Nat) (s : wS) : Prop := ∀ c, c ∈ gn → ∀ k p, ¬ w_own s k p c
theorem ci_rf {t : Nat} {s : wS} : CI0 t s s := ⟨fun _ _ _ h => h, fun _ _ _ _ _ => rfl⟩
theorem ci_give {t : Nat} {s0 s s1 : wS} (h : CI0 t s0 s) (hA : w_A s) (h1 : ∀ c i, (∀ g, ¬ c = w_mp g) → s1 c i = s c i) : CI0 t s0 s1 :=
  ⟨fun k p c ho => h.1 k p c (((es_map hA h1).2 k p c).mp ho), fun c i a b d => (h1 c i d).trans (h.2 c i a b d)⟩
theorem ng_give {gn : List Nat} {s s1 : wS} (h : NG0 gn s) (hA : w_A s) (h1 : ∀ c i, (∀ g, ¬ c = w_mp g) → s1 c i = s c i) : NG0 gn s1 := fun c hc k p ho => h c hc k p (((es_map hA h1).2 k p c).mp ho)
theorem ci_del {t : Nat} {s0 s s' : wS} (h : CI0 t s0 s) (hpl : ∀ k p, k < 128 → p < 25 → w_pl s' k p = nI 0 ∨ w_pl s' k p = w_pl s k p) (h1 : ∀ c i, ¬ c = w_ib t → (∀ p, ¬ w_own s t p c) → s' c i = s c i) : CI0 t s0 s' :=
  ⟨fun k p c ho => h.1 k p c (own_del hpl k p c ho), fun c i a b d => (h1 c i a (fun p q => b p (h.1 t p c q))).trans (h.2 c i a b d)⟩
theorem ng_sub {gn : List Nat} {s s' : wS} (h : NG0 gn s) (hpl : ∀ k p, k < 128 → p < 25 → w_pl s' k p = nI 0 ∨ w_pl s' k p = w_pl s k p) : NG0 gn s' := fun c hc k p ho => h c hc k p (own_del hpl k p c ho)
theorem ng_del {gn : List Nat} {s s' : wS} {t q b : Nat} (h : NG0 gn s) (hB : w_B s) (ho : w_own s t q b) (hpl : ∀ k p, k < 128 → p < 25 → w_pl s' k p = nI 0 ∨ w_pl s' k p = w_pl s k p) (h0 : w_pl s' t q = nI 0) : NG0 (gn ++ [b]) s' := fun c hc k p hop => by
  have hos := own_del hpl k p c hop
  rcases List.mem_append.mp hc with hc | hc
  · exact h c hc k p hos
  · obtain rfl := List.mem_singleton.mp hc
    obtain ⟨rfl, rfl⟩ := hB k p t q c hos ho
    exact w_D0 hop.2.2.1 (hop.2.2.2.symm.trans h0)
theorem pl_D {s : wS} {t q : Nat} (hA : w_A s) (ht : t < 128) (hq : q < 8) : (∀ k p, k < 128 → p < 25 → w_pl (w_up s (w_ib t) (3 + q) (nI 0)) k p = nI 0 ∨ w_pl (w_up s (w_ib t) (3 + q) (nI 0)) k p = w_pl s k p) ∧ w_pl (w_up s (w_ib t) (3 + q) (nI 0)) t q = nI 0 := by
  refine ⟨fun k p hk hp => ?_, ?_⟩
  · by_cases e : k = t
    · subst e
      rw [p_ibd hA hk hq]
      split
      · exact Or.inl rfl
      · exact Or.inr rfl
    · exact Or.inr (p_up hA hk (fun e2 => e (w_ib_inj hk ht e2)) (fun ho => w_ib_D ht ho.2.2.1))
  · rw [p_ibd hA ht hq, if_pos rfl]
theorem pl_I {s : wS} {t x j : Nat} (hA : w_A s) (hB : w_B s) (hx : w_own s t 24 x) (hj : j < 16) : (∀ k p, k < 128 → p < 25 → w_pl (w_up s x j (nI 0)) k p = nI 0 ∨ w_pl (w_up s x j (nI 0)) k p = w_pl s k p) ∧ w_pl (w_up s x j (nI 0)) t (8 + j) = nI 0 := by
  refine ⟨fun k p hk hp => ?_, ?_⟩
  · by_cases e : k = t
    · subst e
      rw [p_ixw hk hx.2.2.2 hx.2.2.1 hj hp]
      split
      · exact Or.inl rfl
      · exact Or.inr rfl
    · exact Or.inr (p_up hA hk (fun e2 => w_ib_D hk (e2 ▸ hx.2.2.1)) (fun ho => e (hB k 24 t 24 x ho hx).1))
  · rw [p_ixw hx.1 hx.2.2.2 hx.2.2.1 hj (by omega), if_pos rfl]
theorem pl_X {s : wS} {t : Nat} (hA : w_A s) (ht : t < 128) : (∀ k p, k < 128 → p < 25 → w_pl (w_up s (w_ib t) 11 (nI 0)) k p = nI 0 ∨ w_pl (w_up s (w_ib t) 11 (nI 0)) k p = w_pl s k p) ∧ ∀ p, 8 ≤ p → w_pl (w_up s (w_ib t) 11 (nI 0)) t p = nI 0 := by
  refine ⟨fun k p hk hp => ?_, fun p hp => ?_⟩
  · by_cases e : k = t
    · subst e
      rw [p_ibx0]
      split
      · exact Or.inr rfl
      · exact Or.inl rfl
    · exact Or.inr (p_up hA hk (fun e2 => e (w_ib_inj hk ht e2)) (fun ho => w_ib_D ht ho.2.2.1))
  · rw [p_ibx0, if_neg (by omega)]
section CUT
variable {n y : Nat} {Hd : Nat → Int} {F0 F F' : (Nat → Nat) → wS} {I0 J0 I J : am_I} {X : List Nat} {E : Nat → Prop} {gn : List Nat} {gp gp' pd pd' : Nat → Prop}
theorem gp_app {b : Nat} : (fun c => c ∈ gn ∨ c = b) = (fun c => c ∈ gn ++ [b]) := by
  funext c
  rw [List.mem_append, List.mem_singleton]
/-- the direct places -/
theorem cu_dir {t a : Nat} {had idx : Int32} (hC : TC n y Hd I0 J0) (hM : ∀ r, r < 136 → Hd r ≤ 2) (ht : t < 128) (hH : Hd t = 2) (hX : X.length ≤ 18) (htX : w_ib t ∈ X) :
    ∀ (m q fu fur : Nat) (gn : List Nat) (F : (Nat → Nat) → wS) (I J : am_I), q + m = 8 → m < fu → m + 17 < fur → TN y Hd F0 I0 J0 X (fun _ => False) F gn (fun c => c ∈ gn) (fun _ => False) I J → gn.length ≤ q → (∀ L, L y = 2 → CI0 t (F0 L) (F L) ∧ NG0 gn (F L)) → tH y J (w_ib t) → ¬ vw y J (w_ib t) 0 = nI 0 →
    (∃ gn' F' I' J' fur', 16 < fur' ∧ bX9_givePlacesBack_3 n fu (nI (w_ib t)) (nI 11) (nI (3 + q)) I = some (nI 1, I') ∧ bX11_tryCut_38 n fur (nI t) (nI a) had idx (nI q) J = bX11_tryCut_38 n fur' (nI t) (nI a) had idx (nI 8) J' ∧ TN y Hd F0 I0 J0 X (fun _ => False) F' gn' (fun c => c ∈ gn') (fun _ => False) I' J' ∧ gn'.length ≤ 8 ∧ (∀ L, L y = 2 → CI0 t (F0 L) (F' L) ∧ NG0 gn' (F' L)) ∧ (∀ c i, (∀ g, ¬ c = w_mp g) → ¬ (c = w_ib t ∧ 3 ≤ i ∧ i < 11) → vw y J' c i = vw y J c i) ∧ (∀ c, tH y J c → tH y J' c) ∧ (∀ k, ¬ (k = 5 ∨ k = 7) → I' 0 15 k = I 0 15 k) ∧ (∀ k, ¬ (k = 56 ∨ k = 61) → J' 0 60 k = J 0 60 k))
    ∨ (∃ I' J', bX9_givePlacesBack_3 n fu (nI (w_ib t)) (nI 11) (nI (3 + q)) I = some (nI 0, I') ∧ bX11_tryCut_38 n fur (nI t) (nI a) had idx (nI q) J = some J' ∧ EN y Hd F0 I0 J0 I' J') := by
  have hn4 := hC.2.1
  have hyn := hC.1
  intro m
  induction m with
  | zero =>
    intro q fu fur gn F I J hq hf hfr h hl hci hib hz
    obtain ⟨fu, rfl⟩ : ∃ f, fu = f + 1 := ⟨fu - 1, by omega⟩
    obtain rfl : q = 8 := by omega
    refine Or.inl ⟨gn, F, I, J, fur, by omega, ?_, rfl, h, hl, hci, fun _ _ _ _ => rfl, fun _ q => q, fun _ _ => rfl, fun _ _ => rfl⟩
    conv => lhs; unfold bX9_givePlacesBack_3
    simp (disch := omega) only [z_le, (by decide : 11 ≤ 3 + 8), if_true]
  | succ m ih =>
    intro q fu fur gn F I J hq hf hfr h hl hci hib hz
    obtain ⟨fu, rfl⟩ : ∃ f, fu = f + 1 := ⟨fu - 1, by omega⟩
    obtain ⟨fur, rfl⟩ : ∃ f, fur = f + 1 := ⟨fur - 1, by omega⟩
    have hle : ¬ 11 ≤ 3 + q := by omega
    have hle2 : ¬ 24 ≤ q := by omega
    have hle3 : ¬ 8 ≤ q := by omega
    have q1 := c_readc (n := n) (i := 3 + q) hC h hib (fun q => q) (by omega)
    have q2 := r_getc (n := n) (i := 3 + q) (by omega) hib (by omega) (tn_c h).2
    have hpl : w_pl (vw y J) t q = vw y J (w_ib t) (3 + q) := by
      unfold w_pl
      rw [if_pos (by omega)]
    rcases tr_P (p := q) h.1 ht (by omega) (by omega) with h0 | ⟨b, b1, b2⟩
    · rw [← hpl, h0] at q1 q2
      have cI : bX9_givePlacesBack_3 n (fu + 1) (nI (w_ib t)) (nI 11) (nI (3 + q)) I = bX9_givePlacesBack_3 n fu (nI (w_ib t)) (nI 11) (nI (3 + (q + 1))) I := by
        conv => lhs; unfold bX9_givePlacesBack_3
        simp (disch := omega) only [z_le, hle, if_false, q1, Option.bind_some, z_00, if_true, bX9_givePlacesBack_42, nI_add]
        rfl
      have cJ : bX11_tryCut_38 n (fur + 1) (nI t) (nI a) had idx (nI q) J = bX11_tryCut_38 n fur (nI t) (nI a) had idx (nI (q + 1)) J := by
        conv => lhs; unfold bX11_tryCut_38
        simp (disch := omega) only [z_le, hle2, if_false, ov_rn h.2, Option.bind_some, z_00, if_true, hle3, a_of ht, nI_add, q2, bX11_tryCut_91, bX11_tryCut_154]
      rw [cI, cJ]
      exact ih (q + 1) fu fur gn F I J (by omega) (by omega) (by omega) h (by omega) hci hib hz
    · rw [← hpl, b1] at q1 q2
      have hb0 : ¬ nI b = (0 : Int32) := w_D0 b2
      have cI : bX9_givePlacesBack_3 n (fu + 1) (nI (w_ib t)) (nI 11) (nI (3 + q)) I = (gX9_giveBack n (nI b) I).bind (fun q2 => if q2.1 = 0 then (some (nI 0, q2.2)) else ((gX9_set n (nI (w_ib t)) (nI (3 + q)) (nI 0) q2.2).bind (fun q3 => bX9_givePlacesBack_3 n fu (nI (w_ib t)) (nI 11) (nI (3 + (q + 1))) q3))) := by
        conv => lhs; unfold bX9_givePlacesBack_3
        simp (disch := omega) only [z_le, hle, if_false, q1, Option.bind_some, hb0, bX9_givePlacesBack_42, nI_add]
        rfl
      have cJ : bX11_tryCut_38 n (fur + 1) (nI t) (nI a) had idx (nI q) J = (gX11_giveBack n (nI b) J).bind (fun q1 => (gX11_isOver n q1).bind (fun q2 => if q2.1 = 0 then ((gX11_set n (nI (w_ib t)) (nI (3 + q)) (nI 0) q2.2).bind (fun q4 => bX11_tryCut_38 n fur (nI t) (nI a) had idx (nI (q + 1)) q4)) else some q2.2)) := by
        conv => lhs; unfold bX11_tryCut_38
        simp (disch := omega) only [z_le, hle2, if_false, ov_rn h.2, Option.bind_some, z_00, if_true, hle3, a_of ht, a_si ht, nI_add, q2, hb0, bX11_tryCut_91, bX11_tryCut_154]
      rw [cI, cJ]
      have ho : w_own (vw y J) t q b := ⟨ht, by omega, b2, b1⟩
      have hoL : ∀ L, L y = 2 → w_own (F L) t q b := fun L hL => (tr_own h.1 hL (by omega)).mpr ho
      rcases tn_give (n := n) hC hM h (fun _ q => q) hH ho (fun hb => (hci L2 rfl).2 b hb t q (hoL L2 rfl)) (by omega) (by omega) with ⟨I1, J1, F1, g1, g2, g3, g4, g5, g6, g7, g8, g9⟩ | ⟨I1, J1, g1, g2, g3⟩
      · rw [gp_app] at g3
        have hib1 := g5 _ hib
        have hv1 : ∀ i, vw y J1 (w_ib t) i = vw y J (w_ib t) i := fun i => g4 _ _ (ib_nmp ht)
        obtain ⟨I2, J2, s1, s2, s3, s4, s5, s6, s7⟩ := tn_setv (F' := fun L => w_up (F1 L) (w_ib t) (3 + q) (nI 0)) (gp' := fun c => c ∈ gn ++ [b]) (pd' := fun _ => False) (i := 3 + q) (v := nI 0) hC g3 (w_ib_lt ht) (by omega) (fun q => q) (Or.inl hib1) (Or.inl htX) (by omega) (fun L sv hs Bh hL hT hh _ => ti_delD (b := b) hT ht (by omega) hH (by rw [← tr_vw g3.1 hL (of_ib ht) (by omega) (by omega), hv1]; exact hz) (by rw [← tr_vw g3.1 hL (of_ib ht) (by omega) (by omega), hv1, ← hpl]; exact b1) (List.mem_append.mpr (Or.inr (List.mem_singleton.mpr rfl))) hh)
        rw [g1, g2, Option.bind_some, Option.bind_some]
        show _ ∨ _
        simp only [z_10, if_false, ov_rn g3.2, Option.bind_some, z_00, if_true, s1, s2]
        have hci2 : ∀ L, L y = 2 → CI0 t (F0 L) (w_up (F1 L) (w_ib t) (3 + q) (nI 0)) ∧ NG0 (gn ++ [b]) (w_up (F1 L) (w_ib t) (3 + q) (nI 0)) := fun L hL => by
          have hA := (tr_wf h.1 hL).1.1
          have hA1 := (tr_wf g3.1 hL).1.1
          have c1 := ci_give (hci L hL).1 hA (g9 L)
          have c2 := ng_give (hci L hL).2 hA (g9 L)
          have p := pl_D (q := q) hA1 ht (by omega)
          exact ⟨ci_del c1 p.1 (fun c i hc _ => w_up_b _ _ _ _ hc), ng_del c2 (tr_wf g3.1 hL).1.2.1 (((es_map hA (g9 L)).2 t q b).mpr (hoL L hL)) p.1 p.2⟩
        rcases ih (q + 1) fu fur (gn ++ [b]) _ I2 J2 (by omega) (by omega) (by omega) s3 (by rw [List.length_append, List.length_singleton]; omega) hci2 ((s5 _).mpr (Or.inl hib1)) (by rw [s4, w_up_i _ _ _ (by omega), hv1]; exact hz) with ⟨gn', F', I', J', fur', r0, r1, r2, r3, r4, r5, r6, r7, r8, r9⟩ | r
        · refine Or.inl ⟨gn', F', I', J', fur', r0, r1, r2, r3, r4, r5, fun c i hc hi => ?_, fun c q => r7 c ((s5 c).mpr (Or.inl (g5 c q))), fun k hk => by rw [r8 k hk, s6 k (by omega), g7 k hk], fun k hk => by rw [r9 k hk, s7 k (by omega), g8 k hk]⟩
          rw [r6 c i hc hi, s4, show w_up (vw y J1) (w_ib t) (3 + q) (nI 0) c i = vw y J1 c i from if_neg (fun e => hi ⟨e.1, by have := e.2; omega, by have := e.2; omega⟩), g4 c i hc]
        · exact Or.inr r
      · rw [g1, g2.1, Option.bind_some, Option.bind_some]
        refine Or.inr ⟨I1, J1, if_pos rfl, ?_, g3⟩
        simp only [ov_en g3.2, Option.bind_some, z_10, if_false]
/-- no index: the reference passes its places -/
theorem cu_none {t a : Nat} {had : Int32} (h : rn I J) : ∀ (m q fur : Nat), q + m = 24 → 8 ≤ q → m < fur → bX11_tryCut_38 n fur (nI t) (nI a) had (nI 0) (nI q) J = bX11_tryCut_160 n (nI t) (nI a) had (nI 0) J := by
  intro m
  induction m with
  | zero =>
    intro q fur hq h8 hf
    obtain ⟨fur, rfl⟩ : ∃ f, fur = f + 1 := ⟨fur - 1, by omega⟩
    have hle : 24 ≤ q := by omega
    conv => lhs; unfold bX11_tryCut_38
    simp (disch := omega) only [z_le, hle, if_true]
  | succ m ih =>
    intro q fur hq h8 hf
    obtain ⟨fur, rfl⟩ : ∃ f, fur = f + 1 := ⟨fur - 1, by omega⟩
    have hle : ¬ 24 ≤ q := by omega
    conv => lhs; unfold bX11_tryCut_38
    simp (disch := omega) only [z_le, hle, if_false, ov_rn h, Option.bind_some, z_00, if_true, h8, bX11_tryCut_91, bX11_tryCut_154, nI_add]
    exact ih (q + 1) fur (by omega) (by omega) (by omega)
/-- the index's places, where it stays -/
theorem cu_ixB {t a x : Nat} {had : Int32} (hC : TC n y Hd I0 J0) (hM : ∀ r, r < 136 → Hd r ≤ 2) (ht : t < 128) (hH : Hd t = 2) (hX : X.length ≤ 18) (hxX : x ∈ X) (hxD : w_D x) (ha : ¬ a ≤ 128) (ha2 : a ≤ 384) :
    ∀ (m q fu fur : Nat) (gn : List Nat) (F : (Nat → Nat) → wS) (I J : am_I), q + m = 16 → m < fu → m < fur → TN y Hd F0 I0 J0 X (fun _ => False) F gn (fun c => c ∈ gn) (fun _ => False) I J → gn.length ≤ q → (∀ L, L y = 2 → CI0 t (F0 L) (F L) ∧ NG0 gn (F L)) → w_own (vw y J) t 24 x → tH y J (w_ib t) → tH y J x →
    (∃ gn' F' I' J', bX9_givePlacesBack_3 n fu (nI x) (nI 16) (nI q) I = some (nI 1, I') ∧ bX11_tryCut_38 n fur (nI t) (nI a) had (nI x) (nI (8 + q)) J = bX11_tryCut_160 n (nI t) (nI a) had (nI x) J' ∧ TN y Hd F0 I0 J0 X (fun _ => False) F' gn' (fun c => c ∈ gn') (fun _ => False) I' J' ∧ gn'.length ≤ 16 ∧ (∀ L, L y = 2 → CI0 t (F0 L) (F' L) ∧ NG0 gn' (F' L)) ∧ (∀ c i, (∀ g, ¬ c = w_mp g) → ¬ c = x → vw y J' c i = vw y J c i) ∧ (∀ c, tH y J c → tH y J' c) ∧ (∀ k, ¬ (k = 5 ∨ k = 7) → I' 0 15 k = I 0 15 k) ∧ (∀ k, ¬ (k = 56 ∨ k = 61) → J' 0 60 k = J 0 60 k))
    ∨ (∃ I' J', bX9_givePlacesBack_3 n fu (nI x) (nI 16) (nI q) I = some (nI 0, I') ∧ bX11_tryCut_38 n fur (nI t) (nI a) had (nI x) (nI (8 + q)) J = some J' ∧ EN y Hd F0 I0 J0 I' J') := by
  have hn4 := hC.2.1
  have hyn := hC.1
  have hx0 : ¬ nI x = (0 : Int32) := w_D0 hxD
  have hxm : ∀ g, ¬ x = w_mp g := D_mp hxD
  intro m
  induction m with
  | zero =>
    intro q fu fur gn F I J hq hf hfr h hl hci hx hib hix
    obtain ⟨fu, rfl⟩ : ∃ f, fu = f + 1 := ⟨fu - 1, by omega⟩
    obtain ⟨fur, rfl⟩ : ∃ f, fur = f + 1 := ⟨fur - 1, by omega⟩
    obtain rfl : q = 16 := by omega
    refine Or.inl ⟨gn, F, I, J, ?_, ?_, h, hl, hci, fun _ _ _ _ => rfl, fun _ q => q, fun _ _ => rfl, fun _ _ => rfl⟩
    · conv => lhs; unfold bX9_givePlacesBack_3
      simp (disch := omega) only [z_le, Nat.le_refl, if_true]
    · conv => lhs; unfold bX11_tryCut_38
      simp (disch := omega) only [z_le, (by decide : 24 ≤ 8 + 16), if_true]
  | succ m ih =>
    intro q fu fur gn F I J hq hf hfr h hl hci hx hib hix
    obtain ⟨fu, rfl⟩ : ∃ f, fu = f + 1 := ⟨fu - 1, by omega⟩
    obtain ⟨fur, rfl⟩ : ∃ f, fur = f + 1 := ⟨fur - 1, by omega⟩
    have hle : ¬ 16 ≤ q := by omega
    have hle2 : ¬ 24 ≤ 8 + q := by omega
    have hle3 : 8 ≤ 8 + q := by omega
    have h8q : 8 + q - 8 = q := by omega
    have q1 := c_readc (n := n) (i := q) hC h hix (fun q => q) (by omega)
    have q2 := r_getc (n := n) (i := q) (by omega) hix (by omega) (tn_c h).2
    have hpl : w_pl (vw y J) t (8 + q) = vw y J x q := by
      have h11 : vw y J (w_ib t) 11 = nI x := hx.2.2.2
      unfold w_pl
      rw [if_neg (by omega), if_neg (by omega), h11, if_neg (w_D0 hxD), nI_clamp (w_Dlt hxD), h8q]
    rcases tr_P (p := 8 + q) h.1 ht (by omega) (by omega) with h0 | ⟨b, b1, b2⟩
    · rw [← hpl, h0] at q1 q2
      have cI : bX9_givePlacesBack_3 n (fu + 1) (nI x) (nI 16) (nI q) I = bX9_givePlacesBack_3 n fu (nI x) (nI 16) (nI (q + 1)) I := by
        conv => lhs; unfold bX9_givePlacesBack_3
        simp (disch := omega) only [z_le, hle, if_false, q1, Option.bind_some, z_00, if_true, bX9_givePlacesBack_42, nI_add]
      have cJ : bX11_tryCut_38 n (fur + 1) (nI t) (nI a) had (nI x) (nI (8 + q)) J = bX11_tryCut_38 n fur (nI t) (nI a) had (nI x) (nI (8 + (q + 1))) J := by
        conv => lhs; unfold bX11_tryCut_38
        simp (disch := omega) only [z_le, hle2, if_false, ov_rn h.2, Option.bind_some, z_00, if_true, hle3, hx0, pk_sub, h8q, q2, bX11_tryCut_91, bX11_tryCut_154, nI_add]
        rfl
      rw [cI, cJ]
      exact ih (q + 1) fu fur gn F I J (by omega) (by omega) (by omega) h (by omega) hci hx hib hix
    · rw [← hpl, b1] at q1 q2
      have hb0 : ¬ nI b = (0 : Int32) := w_D0 b2
      have cI : bX9_givePlacesBack_3 n (fu + 1) (nI x) (nI 16) (nI q) I = (gX9_giveBack n (nI b) I).bind (fun q2 => if q2.1 = 0 then (some (nI 0, q2.2)) else ((gX9_set n (nI x) (nI q) (nI 0) q2.2).bind (fun q3 => bX9_givePlacesBack_3 n fu (nI x) (nI 16) (nI (q + 1)) q3))) := by
        conv => lhs; unfold bX9_givePlacesBack_3
        simp (disch := omega) only [z_le, hle, if_false, q1, Option.bind_some, hb0, bX9_givePlacesBack_42, nI_add]
      have cJ : bX11_tryCut_38 n (fur + 1) (nI t) (nI a) had (nI x) (nI (8 + q)) J = (gX11_giveBack n (nI b) J).bind (fun q1 => (gX11_isOver n q1).bind (fun q2 => if q2.1 = 0 then ((gX11_set n (nI x) (nI q) (nI 0) q2.2).bind (fun q4 => bX11_tryCut_38 n fur (nI t) (nI a) had (nI x) (nI (8 + (q + 1))) q4)) else some q2.2)) := by
        conv => lhs; unfold bX11_tryCut_38
        simp (disch := omega) only [z_le, hle2, if_false, ov_rn h.2, Option.bind_some, z_00, if_true, hle3, hx0, pk_sub, h8q, q2, hb0, ha, bX11_tryCut_91, bX11_tryCut_154, nI_add]
        rfl
      rw [cI, cJ]
      have ho : w_own (vw y J) t (8 + q) b := ⟨ht, by omega, b2, b1⟩
      have hoL : ∀ L, L y = 2 → w_own (F L) t (8 + q) b := fun L hL => (tr_own h.1 hL (by omega)).mpr ho
      rcases tn_give (n := n) hC hM h (fun _ q => q) hH ho (fun hb => (hci L2 rfl).2 b hb t _ (hoL L2 rfl)) (by omega) (by omega) with ⟨I1, J1, F1, g1, g2, g3, g4, g5, g6, g7, g8, g9⟩ | ⟨I1, J1, g1, g2, g3⟩
      · rw [gp_app] at g3
        have hib1 := g5 _ hib
        have hix1 := g5 _ hix
        have hx1 : w_own (vw y J1) t 24 x := ⟨ht, by omega, hxD, by
          show vw y J1 (w_ib t) 11 = nI x
          rw [g4 _ _ (ib_nmp ht)]
          exact hx.2.2.2⟩
        have hxL : ∀ L, L y = 2 → w_own (F1 L) t 24 x := fun L hL => (tr_own g3.1 hL (by omega)).mpr hx1
        obtain ⟨I2, J2, s1, s2, s3, s4, s5, s6, s7⟩ := tn_setv (F' := fun L => w_up (F1 L) x q (nI 0)) (gp' := fun c => c ∈ gn ++ [b]) (pd' := fun _ => False) (i := q) (v := nI 0) hC g3 (w_D_lt hxD) (by omega) (fun q => q) (Or.inl hix1) (Or.inl hxX) (by omega) (fun L sv hs Bh hL hT hh hc => ti_delI (b := b) hT ht hH (hxL L hL) (by omega) (by rw [← tr_vw g3.1 hL (of_own (hxL L hL)) (by omega) (by omega), g4 _ _ hxm, ← hpl]; exact b1) (List.mem_append.mpr (Or.inr (List.mem_singleton.mpr rfl))) (hc _ hib1) hh)
        rw [g1, g2, Option.bind_some, Option.bind_some]
        show _ ∨ _
        simp only [z_10, if_false, ov_rn g3.2, Option.bind_some, z_00, if_true, s1, s2]
        have hci2 : ∀ L, L y = 2 → CI0 t (F0 L) (w_up (F1 L) x q (nI 0)) ∧ NG0 (gn ++ [b]) (w_up (F1 L) x q (nI 0)) := fun L hL => by
          have hA := (tr_wf h.1 hL).1.1
          have hA1 := (tr_wf g3.1 hL).1.1
          have c1 := ci_give (hci L hL).1 hA (g9 L)
          have c2 := ng_give (hci L hL).2 hA (g9 L)
          have p := pl_I (j := q) hA1 (tr_wf g3.1 hL).1.2.1 (hxL L hL) (by omega)
          exact ⟨ci_del c1 p.1 (fun c i _ hc => w_up_b _ _ _ _ (fun e => hc 24 (e ▸ hxL L hL))), ng_del c2 (tr_wf g3.1 hL).1.2.1 (((es_map hA (g9 L)).2 t (8 + q) b).mpr (hoL L hL)) p.1 p.2⟩
        have hx2 : w_own (vw y J2) t 24 x := ⟨ht, by omega, hxD, by
          show vw y J2 (w_ib t) 11 = nI x
          rw [s4, w_up_b _ _ _ _ (D_ib hxD ht)]
          exact hx1.2.2.2⟩
        rcases ih (q + 1) fu fur (gn ++ [b]) _ I2 J2 (by omega) (by omega) (by omega) s3 (by rw [List.length_append, List.length_singleton]; omega) hci2 hx2 ((s5 _).mpr (Or.inl hib1)) ((s5 _).mpr (Or.inl hix1)) with ⟨gn', F', I', J', r1, r2, r3, r4, r5, r6, r7, r8, r9⟩ | r
        · refine Or.inl ⟨gn', F', I', J', r1, r2, r3, r4, r5, fun c i hc hi => ?_, fun c q => r7 c ((s5 c).mpr (Or.inl (g5 c q))), fun k hk => by rw [r8 k hk, s6 k (by omega), g7 k hk], fun k hk => by rw [r9 k hk, s7 k (by omega), g8 k hk]⟩
          rw [r6 c i hc hi, s4, w_up_b _ _ _ _ hi, g4 c i hc]
        · exact Or.inr r
      · rw [g1, g2.1, Option.bind_some, Option.bind_some]
        refine Or.inr ⟨I1, J1, if_pos rfl, ?_, g3⟩
        simp only [ov_en g3.2, Option.bind_some, z_10, if_false]
end CUT
