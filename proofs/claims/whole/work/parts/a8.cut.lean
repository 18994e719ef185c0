
/-- given back of the index's places below m: they are t's still -/
def GX (y t m : Nat) (gn : List Nat) (F : (Nat → Nat) → wS) (J : am_I) : Prop := gn.length ≤ 8 + m ∧ (∀ c, c ∈ gn → (∀ L, L y = 2 → ∀ k p, ¬ w_own (F L) k p c) ∨ ∃ p, 8 ≤ p ∧ p < 8 + m ∧ w_own (vw y J) t p c) ∧ ∀ p c, 8 ≤ p → p < 8 + m → w_own (vw y J) t p c → c ∈ gn
section CUT
variable {n y : Nat} {Hd : Nat → Int} {F0 F F' : (Nat → Nat) → wS} {I0 J0 I J : am_I} {X : List Nat} {E : Nat → Prop} {gn : List Nat} {gp gp' pd pd' : Nat → Prop}
/-- giving a place of the index back, where the index goes too -/
theorem gx_step {t m b x : Nat} (hC : TC n y Hd I0 J0) (hM : ∀ r, r < 136 → Hd r ≤ 2) (h : TN y Hd F0 I0 J0 X E F gn (fun c => c ∈ gn) (fun _ => False) I J) (hEm : ∀ g, ¬ E (w_mp g)) (ht : t < 128) (hH : Hd t = 2) (hX : X.length ≤ 20) (hm : m ≤ 16) (hG : GX y t m gn F J) (hci : ∀ L, L y = 2 → CI0 t (F0 L) (F L)) (ho : w_own (vw y J) t (8 + m) b) :
    (∃ I' J' F', gX9_giveBack n (nI b) I = some (nI 1, I') ∧ gX11_giveBack n (nI b) J = some J' ∧ TN y Hd F0 I0 J0 X E F' (gn ++ [b]) (fun c => c ∈ gn ++ [b]) (fun _ => False) I' J' ∧ GX y t (m + 1) (gn ++ [b]) F' J' ∧ (∀ L, L y = 2 → CI0 t (F0 L) (F' L)) ∧ (∀ c i, (∀ g, ¬ c = w_mp g) → vw y J' c i = vw y J c i) ∧ (∀ c, tH y J c → tH y J' c) ∧ (∀ c j, c < 640 → j < 16 → (∀ g, ¬ c = w_mp g) → c_v y I' c j = c_v y I c j) ∧ (∀ k, ¬ (k = 5 ∨ k = 7) → I' 0 15 k = I 0 15 k) ∧ (∀ k, ¬ (k = 56 ∨ k = 61) → J' 0 60 k = J 0 60 k))
    ∨ (∃ I' J', gX9_giveBack n (nI b) I = some (nI 0, I') ∧ (gX11_giveBack n (nI b) J = some J' ∧ ∀ c, tH y J c → tH y J' c) ∧ EN y Hd F0 I0 J0 I' J') := by
  have hb : b ∉ gn := fun hb => by
    rcases hG.2.1 b hb with q | ⟨p, hp1, hp2, hop⟩
    · exact q L2 rfl t (8 + m) ((tr_own h.1 rfl (by omega)).mpr ho)
    · have := (tr_B h.1 (by omega : 0 < Hd t) (by omega : 0 < Hd t) hop ho).2
      omega
  rcases tn_give (n := n) hC hM h hEm hH ho hb (by have := hG.1; omega) hX with ⟨I', J', F', g1, g2, g3, g4, g5, g6, g7, g8, g9⟩ | r
  · rw [gp_app] at g3
    have hpl : ∀ p, w_pl (vw y J') t p = w_pl (vw y J) t p := fun p => vw_pl (fun i => g4 _ _ (ib_nmp ht)) (fun x i hx => g4 _ _ (D_mp hx.2.2.1)) (tr_ix (p := 0) (b := 0) h.1 ht (by omega))
    have how : ∀ p c, w_own (vw y J') t p c ↔ w_own (vw y J) t p c := fun p c => by
      unfold w_own
      rw [hpl p]
    refine Or.inl ⟨I', J', F', g1, g2, g3, ⟨by rw [List.length_append, List.length_singleton]; have := hG.1; omega, fun c hc => ?_, fun p c hp0 hp hop => ?_⟩, fun L hL => ci_give (hci L hL) (tr_wf h.1 hL).1.1 (g9 L), g4, g5, g6, g7, g8⟩
    · rcases List.mem_append.mp hc with hc | hc
      · rcases hG.2.1 c hc with q | ⟨p, hp1, hp2, hop⟩
        · exact Or.inl (fun L hL k p ho => q L hL k p (((es_map (tr_wf h.1 hL).1.1 (g9 L)).2 k p c).mp ho))
        · exact Or.inr ⟨p, hp1, by omega, (how p c).mpr hop⟩
      · rw [List.mem_singleton.mp hc]
        exact Or.inr ⟨8 + m, by omega, by omega, (how _ b).mpr ho⟩
    · rw [List.mem_append]
      by_cases e : p = 8 + m
      · subst e
        refine Or.inr (List.mem_singleton.mpr ?_)
        have h1 := ((how _ c).mp hop).2.2.2
        rw [ho.2.2.2] at h1
        exact (w_nI (w_Dlt ho.2.2.1) (w_Dlt hop.2.2.1) h1).symm
      · exact Or.inl (hG.2.2 p c hp0 (by omega) ((how p c).mp hop))
  · exact Or.inr r
theorem gx_none {t m : Nat} (hG : GX y t m gn F J) (h0 : w_pl (vw y J) t (8 + m) = nI 0) : GX y t (m + 1) gn F J := by
  refine ⟨by have := hG.1; omega, fun c hc => ?_, fun p c hp0 hp hop => ?_⟩
  · rcases hG.2.1 c hc with q | ⟨p, hp1, hp2, hop⟩
    · exact Or.inl q
    · exact Or.inr ⟨p, hp1, by omega, hop⟩
  · by_cases e : p = 8 + m
    · subst e
      exact absurd (hop.2.2.2.symm.trans h0) (w_D0 hop.2.2.1)
    · exact hG.2.2 p c hp0 (by omega) hop
/-- the index's places, where it goes -/
theorem cu_ixA {t a x : Nat} {had : Int32} (hC : TC n y Hd I0 J0) (hM : ∀ r, r < 136 → Hd r ≤ 2) (ht : t < 128) (hH : Hd t = 2) (hX : X.length ≤ 18) (hxX : x ∈ X) (hxD : w_D x) (hE : ∀ c, E c ↔ c = x) (ha : a ≤ 128) :
    ∀ (m q fu fur : Nat) (gn : List Nat) (F : (Nat → Nat) → wS) (I J : am_I), q + m = 16 → m < fu → m < fur → TN y Hd F0 I0 J0 X E F gn (fun c => c ∈ gn) (fun _ => False) I J → w_own (vw y J) t 24 x → GX y t q gn F J → (∀ L, L y = 2 → CI0 t (F0 L) (F L)) → tH y J x → (∀ j, j < 16 → q ≤ j → c_v y I x j = vw y J x j) →
    (∃ gn' F' I' J', bX9_givePlacesBack_3 n fu (nI x) (nI 16) (nI q) I = some (nI 1, I') ∧ bX11_tryCut_38 n fur (nI t) (nI a) had (nI x) (nI (8 + q)) J = bX11_tryCut_160 n (nI t) (nI a) had (nI x) J' ∧ TN y Hd F0 I0 J0 X E F' gn' (fun c => c ∈ gn') (fun _ => False) I' J' ∧ GX y t 16 gn' F' J' ∧ (∀ L, L y = 2 → CI0 t (F0 L) (F' L)) ∧ (∀ c i, (∀ g, ¬ c = w_mp g) → vw y J' c i = vw y J c i) ∧ (∀ c, tH y J c → tH y J' c) ∧ (∀ k, ¬ (k = 5 ∨ k = 7) → I' 0 15 k = I 0 15 k) ∧ (∀ k, ¬ (k = 56 ∨ k = 61) → J' 0 60 k = J 0 60 k))
    ∨ (∃ I' J', bX9_givePlacesBack_3 n fu (nI x) (nI 16) (nI q) I = some (nI 0, I') ∧ bX11_tryCut_38 n fur (nI t) (nI a) had (nI x) (nI (8 + q)) J = some J' ∧ EN y Hd F0 I0 J0 I' J') := by
  have hn4 := hC.2.1
  have hyn := hC.1
  have hxm : ∀ g, ¬ x = w_mp g := D_mp hxD
  have hEm : ∀ g, ¬ E (w_mp g) := fun g q => hxm g ((hE _).mp q).symm
  have hx0 : ¬ nI x = (0 : Int32) := w_D0 hxD
  intro m
  induction m with
  | zero =>
    intro q fu fur gn F I J hq hf hfr h ho hG hci hix hcv
    obtain ⟨fu, rfl⟩ : ∃ f, fu = f + 1 := ⟨fu - 1, by omega⟩
    obtain ⟨fur, rfl⟩ : ∃ f, fur = f + 1 := ⟨fur - 1, by omega⟩
    obtain rfl : q = 16 := by omega
    refine Or.inl ⟨gn, F, I, J, ?_, ?_, h, hG, hci, fun _ _ _ => rfl, fun _ q => q, fun _ _ => rfl, fun _ _ => rfl⟩
    · conv => lhs; unfold bX9_givePlacesBack_3
      simp (disch := omega) only [z_le, Nat.le_refl, if_true]
    · conv => lhs; unfold bX11_tryCut_38
      simp (disch := omega) only [z_le, (by decide : 24 ≤ 8 + 16), if_true]
  | succ m ih =>
    intro q fu fur gn F I J hq hf hfr h ho hG hci hix hcv
    obtain ⟨fu, rfl⟩ : ∃ f, fu = f + 1 := ⟨fu - 1, by omega⟩
    obtain ⟨fur, rfl⟩ : ∃ f, fur = f + 1 := ⟨fur - 1, by omega⟩
    have hle : ¬ 16 ≤ q := by omega
    have hle2 : ¬ 24 ≤ 8 + q := by omega
    have hle3 : 8 ≤ 8 + q := by omega
    have h8q : 8 + q - 8 = q := by omega
    have q1 := c_readv (n := n) (i := q) hC h hix (by omega)
    rw [hcv q (by omega) (Nat.le_refl _)] at q1
    have q2 := r_getc (n := n) (i := q) (by omega) hix (by omega) (tn_c h).2
    have hpl : w_pl (vw y J) t (8 + q) = vw y J x q := by
      have h11 : vw y J (w_ib t) 11 = nI x := ho.2.2.2
      unfold w_pl
      rw [if_neg (by omega), if_neg (by omega), h11, if_neg (w_D0 hxD), nI_clamp (w_Dlt hxD), h8q]
    rcases tr_P (p := 8 + q) h.1 ht (by omega) (by omega) with h0 | ⟨b, b1, b2⟩
    · rw [← hpl, h0] at q1 q2
      have cI : bX9_givePlacesBack_3 n (fu + 1) (nI x) (nI 16) (nI q) I = bX9_givePlacesBack_3 n fu (nI x) (nI 16) (nI (q + 1)) I := by
        conv => lhs; unfold bX9_givePlacesBack_3
        simp (disch := omega) only [z_le, hle, if_false, q1, Option.bind_some, z_00, if_true, bX9_givePlacesBack_42, nI_add]
      have cJ : bX11_tryCut_38 n (fur + 1) (nI t) (nI a) had (nI x) (nI (8 + q)) J = bX11_tryCut_38 n fur (nI t) (nI a) had (nI x) (nI (8 + (q + 1))) J := by
        conv => lhs; unfold bX11_tryCut_38
        simp (disch := omega) only [z_le, hle2, if_false, ov_rn h.2, Option.bind_some, z_00, if_true, hle3, hx0, pk_sub, h8q, q2, bX11_tryCut_91, bX11_tryCut_154, nI_add]
        rfl
      rw [cI, cJ]
      exact ih (q + 1) fu fur gn F I J (by omega) (by omega) (by omega) h ho (gx_none hG h0) hci hix (fun j hj hjq => hcv j hj (by omega))
    · rw [← hpl, b1] at q1 q2
      have hb0 : ¬ nI b = (0 : Int32) := w_D0 b2
      have cI : bX9_givePlacesBack_3 n (fu + 1) (nI x) (nI 16) (nI q) I = (gX9_giveBack n (nI b) I).bind (fun q2 => if q2.1 = 0 then (some (nI 0, q2.2)) else ((gX9_set n (nI x) (nI q) (nI 0) q2.2).bind (fun q3 => bX9_givePlacesBack_3 n fu (nI x) (nI 16) (nI (q + 1)) q3))) := by
        conv => lhs; unfold bX9_givePlacesBack_3
        simp (disch := omega) only [z_le, hle, if_false, q1, Option.bind_some, hb0, bX9_givePlacesBack_42, nI_add]
      have cJ : bX11_tryCut_38 n (fur + 1) (nI t) (nI a) had (nI x) (nI (8 + q)) J = (gX11_giveBack n (nI b) J).bind (fun q1 => (gX11_isOver n q1).bind (fun q2 => if q2.1 = 0 then (bX11_tryCut_38 n fur (nI t) (nI a) had (nI x) (nI (8 + (q + 1))) q2.2) else some q2.2)) := by
        conv => lhs; unfold bX11_tryCut_38
        simp (disch := omega) only [z_le, hle2, if_false, ov_rn h.2, Option.bind_some, z_00, if_true, hle3, hx0, pk_sub, h8q, q2, hb0, ha, bX11_tryCut_91, bX11_tryCut_154, nI_add]
        rfl
      rw [cI, cJ]
      rcases gx_step (n := n) (x := x) hC hM h hEm ht hH (by omega) (by omega) hG hci ⟨ht, by omega, b2, b1⟩ with ⟨I1, J1, F1, g1, g2, g3, g4, g4', g5, g6, g7, g8, g9⟩ | ⟨I1, J1, g1, g2, g3⟩
      · obtain ⟨I2, s1, s2, s3, s4⟩ := tn_cset (n := n) (i := q) (v := nI 0) hC g3 (g6 _ hix) (by omega) ((hE _).mpr rfl) hxX (by omega)
        have hcv2 : ∀ j, j < 16 → q + 1 ≤ j → c_v y I2 x j = vw y J1 x j := fun j hj hjq => by
          rw [s3 _ j (w_D_lt hxD) hj, w_up_i _ _ _ (by omega), g7 _ j (w_D_lt hxD) hj hxm, g5 _ _ hxm]
          exact hcv j hj (by omega)
        have ho1 : w_own (vw y J1) t 24 x := ⟨ht, by omega, hxD, by
          show vw y J1 (w_ib t) 11 = nI x
          rw [g5 _ _ (ib_nmp ht)]
          exact ho.2.2.2⟩
        rw [g1, g2, Option.bind_some, Option.bind_some]
        show _ ∨ _
        simp only [z_10, if_false, ov_rn g3.2, z_00, if_true, s1, Option.bind_some]
        rcases ih (q + 1) fu fur (gn ++ [b]) F1 I2 J1 (by omega) (by omega) (by omega) s2 ho1 g4 g4' (g6 _ hix) hcv2 with ⟨gn', F', I', J', r1, r2, r3, r4, r5, r6, r7, r8, r9⟩ | r
        · exact Or.inl ⟨gn', F', I', J', r1, r2, r3, r4, r5, fun c i hc => by rw [r6 c i hc, g5 c i hc], fun c q => r7 c (g6 c q), fun k hk => by rw [r8 k hk, s4 k (by omega), g8 k hk], fun k hk => by rw [r9 k hk, g9 k hk]⟩
        · exact Or.inr r
      · rw [g1, g2.1, Option.bind_some, Option.bind_some]
        refine Or.inr ⟨I1, J1, if_pos rfl, ?_, g3⟩
        simp only [ov_en g3.2, Option.bind_some, z_10, if_false]
/-- a word of a block that an inode owns, other blocks being apart -/
theorem tn_wsE {k p b i : Nat} {v : Int32} (hC : TC n y Hd I0 J0) (h : TN y Hd F0 I0 J0 X E F gn gp pd I J) (hE : ¬ E b) (hH : Hd k = 2) (ho : w_own (vw y J) k p b) (hp : p < 24) (hib : tH y J (w_ib k)) (hix : 8 ≤ p → p < 24 → tH y J (vw y J (w_ib k) 11).toNatClampNeg) (hv : vw y J (w_ib k) 0 = nI 2 → i % 2 = 1 → ∃ t : Nat, t < 128 ∧ v = nI t) (hi : i < 16) (hbX : b ∈ X) (hX : X.length ≤ 18) : ∃ I' J', gX9_set n (nI b) (nI i) v I = some I' ∧ gX11_set n (nI b) (nI i) v J = some J' ∧ TN y Hd F0 I0 J0 X E (fun L => w_up (F L) b i v) gn gp pd I' J' ∧ vw y J' = w_up (vw y J) b i v ∧ (∀ c, tH y J' c ↔ tH y J c ∨ c = b) ∧ (∀ k, ¬ k = 5 → I' 0 15 k = I 0 15 k) ∧ (∀ k, ¬ k = 56 → J' 0 60 k = J 0 60 k) := by
  have hbD := ho.2.2.1
  refine tn_setv (F' := fun L => w_up (F L) b i v) (gp' := gp) (pd' := pd) (i := i) (v := v) hC h (w_D_lt hbD) hi hE (tr_rdo h.1 (by omega) ho hib hix) (Or.inl hbX) (by omega) (fun L sv hs Bh hL hT hh hc => ?_)
  have hoL := (tr_own h.1 hL (by omega : 0 < Hd k)).mpr ho
  refine ti_word hT hH hoL hp (fun q => hv (by rw [tr_vw h.1 hL (of_ib ho.1) (by omega) (by omega)]; exact q)) hh (fun q hq => ?_)
  obtain ⟨-, rfl⟩ := hT.1.1.2.1 k q k p b hq hoL
  refine ⟨hc _ hib, fun q1 q2 => ?_⟩
  rw [← tr_vw h.1 hL (of_ib ho.1) (by omega) (by omega)]
  exact hc _ (hix q1 q2)
/-- which blocks the class has noted as changed -/
theorem n19_set {b i c : Nat} {v : Int32} {I' : am_I} (hC : TC n y Hd I0 J0) (h : TR y Hd F0 I0 J0 X E F gn gp pd I J) (hX2 : X.length ≤ 20) (hb : b < 640) (hi : i < 16) (hc : c < 640) (hr : gX9_set n (nI b) (nI i) v I = some I') : (I 0 19 c = nI 1 ∨ c = b) → I' 0 19 c = nI 1 := by
  obtain ⟨B, sv, cv, p1, p2, p3, p4, p5, p6, p7, p8, p9, p10, p11, p12, p13, p14, p15⟩ := h
  have hl := tr_len p2.2.2.1 p10
  obtain ⟨I'', f1, f2, f3, f4, f5, f6, f7⟩ := c_set (n := n) (v := v) (D := J 0 64) (by have := hC.1; have := hC.2.1; omega) hC.1 hb hi p2 p4 p5 (Or.inr (by omega))
  rw [hr] at f1
  obtain rfl := Option.some.inj f1
  intro q
  rw [f2.2.2.2.2.1 c hc, if_pos (svp_mem.mpr ?_)]
  rcases q with q | q
  · rw [p2.2.2.2.2.1 c hc] at q
    by_cases e : c ∈ cv
    · exact Or.inl e
    · rw [if_neg e] at q
      exact absurd q (by decide)
  · exact Or.inr q
theorem n19_rd {b i : Nat} {v : Int32} {I' : am_I} (hC : TC n y Hd I0 J0) (h : TR y Hd F0 I0 J0 X E F gn gp pd I J) (hb : b < 640) (hi : i < 16) (hr : gX9_read n (nI b) (nI i) I = some (v, I')) : I' 0 19 = I 0 19 := by
  obtain ⟨B, sv, cv, p1, p2, p3, p4, p5, p6, p7, p8, p9, p10, p11, p12, p13, p14, p15⟩ := h
  obtain ⟨I'', f1, f2, f3, f4, f5⟩ := c_read (n := n) (D := J 0 64) (by have := hC.1; have := hC.2.1; omega) hC.1 hb hi p2 p4 p5
  rw [hr] at f1
  obtain ⟨-, rfl⟩ : v = c_v y I b i ∧ I' = I'' := by
    have := Option.some.inj f1
    exact ⟨congrArg Prod.fst this, congrArg Prod.snd this⟩
  exact f5 0 19 (by omega)
/-- the reference sets what the class has set -/
theorem tn_rset {b i : Nat} {v : Int32} (hC : TC n y Hd I0 J0) (h : TN y Hd F0 I0 J0 X E F gn gp pd I J) (hb : tH y J b) (hi : i < 16) (hX2 : X.length ≤ 20) (h19 : I 0 19 b = nI 1) (hcv : ∀ j, j < 16 → c_v y I b j = w_up (vw y J) b i v b j)
    (hT : ∀ (L : Nat → Nat) (sv hs Bh : Nat → Prop), L y = 2 → TI Hd (F0 L) (F L) (vw y J) sv gp pd hs Bh → hs b → TI Hd (F0 L) (F' L) (w_up (vw y J) b i v) (fun c => sv c ∨ c = b) gp pd hs Bh) :
    ∃ J', gX11_set n (nI b) (nI i) v J = some J' ∧ TN y Hd F0 I0 J0 X (fun c => E c ∧ ¬ c = b) F' gn gp pd I J' ∧ vw y J' = w_up (vw y J) b i v ∧ (∀ k, ¬ k = 56 → J' 0 60 k = J 0 60 k) := by
  obtain ⟨⟨B, sv, cv, p1, p2, p3, p4, p5, p6, p7, p8, p9, p10, p11, p12, p13, p14, p15⟩, hrn⟩ := h
  have hl := tr_len p2.2.2.1 p10
  have hl2 := pigeon sv cv p1.2.2.1 p8
  have hbl := hb.1
  have hbcv : b ∈ cv := by
    have q := p2.2.2.2.2.1 b hbl
    rw [h19] at q
    by_cases e : b ∈ cv
    · exact e
    · rw [if_neg e] at q
      exact absurd q (by decide)
  obtain ⟨J', e1, e2, e3, e4, e5, e6, e7⟩ := r_set (n := n) (v := v) (by have := hC.1; have := hC.2.1; omega) hbl hi p1 p3 (by omega)
  have eB : Bm (J 0 68 (640 * y + b)) (J 0 64) B b = B := by unfold Bm; rw [if_pos hb.2]
  rw [eB] at e2
  have h68 : ∀ c, c < 640 → J' 0 68 (640 * y + c) = J 0 68 (640 * y + c) := fun c hc => by
    rw [e4 c hc]
    split
    · next e => rw [e]; exact hb.2.symm
    · rfl
  have hvw : vw y J' = w_up (vw y J) b i v := vw_up hbl hi e3
  refine ⟨J', e1, ⟨⟨B, svp sv b, cv, e2, p2, fun c hc => ?_, p4, fun k hk => ?_, fun c hc => by rw [h68 c hc]; exact p6 c hc, fun c j hc hj hE' => ?_, fun c hc => ?_, fun c hc => ?_, p10, ?_, p12, p13.tr e5, fun L hL => ?_, p15⟩, ?_⟩, hvw, e6⟩
  · rw [h68 c (e2.2.2.2.1 c hc)]
    rcases svp_mem.mp hc with q | q
    · exact p3 c q
    · rw [q]; exact hb.2
  · rw [e5.1 0 64 (by omega)]
    exact p5 k hk
  · rw [e3 c j hc hj]
    by_cases e : c = b
    · subst e
      rw [hcv j hj]
      unfold w_up
      rw [vw_at hc hj]
    · rw [w_up_b _ _ _ _ e]
      exact p7 c j hc hj (fun q => hE' ⟨q, e⟩)
  · rcases svp_mem.mp hc with q | q
    · exact p8 c q
    · rw [q]; exact hbcv
  · by_cases e : c = b
    · exact Or.inl (svp_mem.mpr (Or.inr e))
    · rcases p9 c hc with q | q
      · exact Or.inl (svp_mem.mpr (Or.inl q))
      · exact Or.inr ⟨q, e⟩
  · rw [e6 61 (by decide), e7]
    exact p11
  · have h1 := ti_cg (V' := vw y J) (p14 L hL) (fun b i hb hi => vw_at hb hi) (fun _ => Iff.rfl) (fun _ => Iff.rfl) (fun _ => Iff.rfl) (fun _ => Iff.rfl)
    refine ti_cg (hT L _ _ _ hL h1 hb) (fun c j hc hj => ?_) (fun c => svp_mem) (fun _ => Iff.rfl) (fun c => ?_) (fun c => Iff.rfl)
    · rw [← hvw, vw_at hc hj]
    · unfold tH
      constructor
      · rintro ⟨q1, q2⟩
        exact ⟨q1, by rw [← h68 c q1]; exact q2⟩
      · rintro ⟨q1, q2⟩
        exact ⟨q1, by rw [h68 c q1]; exact q2⟩
  · unfold rn
    rw [e6 52 (by decide), e6 54 (by decide)]
    exact hrn
/-- the last block's words -/
theorem cw_lp {t a b p : Nat} {had : Int32} (hC : TC n y Hd I0 J0) (ht : t < 128) (hH : Hd t = 2) (hX : X.length ≤ 18) (hbX : b ∈ X) (hbD : w_D b) (hEb : ¬ E b) (hp : p < 24) :
    ∀ (m l fu fur : Nat) (F : (Nat → Nat) → wS) (I J : am_I), l + m = 16 → m < fu → m < fur → TN y Hd F0 I0 J0 X E F gn gp (fun _ => False) I J → (∀ L, L y = 2 → CI0 t (F0 L) (F L) ∧ NG0 gn (F L)) → w_own (vw y J) t p b → tH y J (w_ib t) → (8 ≤ p → tH y J (vw y J (w_ib t) 11).toNatClampNeg) → vw y J (w_ib t) 0 = nI 1 → I 0 19 (w_ib t) = nI 1 →
    ∃ F' I' J', bX9_cut_155 n fu had (nI b) (nI l) I = bX9_cut_182 n had I' ∧ bX11_tryCut_219 n fur (nI t) (nI a) had (nI b) (nI l) J = bX11_tryCut_246 n (nI t) (nI a) had J' ∧ TN y Hd F0 I0 J0 X E F' gn gp (fun _ => False) I' J' ∧ (∀ L, L y = 2 → CI0 t (F0 L) (F' L) ∧ NG0 gn (F' L)) ∧ (∀ i, vw y J' (w_ib t) i = vw y J (w_ib t) i) ∧ tH y J' (w_ib t) ∧ I' 0 19 (w_ib t) = nI 1 ∧ (∀ j, j < 16 → c_v y I' (w_ib t) j = c_v y I (w_ib t) j) := by
  have hb0 : ¬ nI b = (0 : Int32) := w_D0 hbD
  have htb : ¬ w_ib t = b := D_ib hbD ht
  intro m
  induction m with
  | zero =>
    intro l fu fur F I J hl hf hfr h hci ho hib hix hk h19
    obtain ⟨fu, rfl⟩ : ∃ f, fu = f + 1 := ⟨fu - 1, by omega⟩
    obtain ⟨fur, rfl⟩ : ∃ f, fur = f + 1 := ⟨fur - 1, by omega⟩
    obtain rfl : l = 16 := by omega
    refine ⟨F, I, J, ?_, ?_, h, hci, fun _ => rfl, hib, h19, fun _ _ => rfl⟩
    · conv => lhs; unfold bX9_cut_155
      simp (disch := omega) only [hb0, if_false, z_le, Nat.le_refl, if_true]
    · conv => lhs; unfold bX11_tryCut_219
      simp (disch := omega) only [z_le, Nat.le_refl, if_true]
  | succ m ih =>
    intro l fu fur F I J hl hf hfr h hci ho hib hix hk h19
    obtain ⟨fu, rfl⟩ : ∃ f, fu = f + 1 := ⟨fu - 1, by omega⟩
    obtain ⟨fur, rfl⟩ : ∃ f, fur = f + 1 := ⟨fur - 1, by omega⟩
    have hle : ¬ 16 ≤ l := by omega
    obtain ⟨I1, J1, e1, e2, e3, e4, e5, e6, e7⟩ := tn_wsE (n := n) (i := l) (v := nI 0) hC h hEb hH ho hp hib (fun q _ => hix q) (fun q => by rw [hk] at q; exact absurd q (by decide)) (by omega) hbX hX
    have c1 := cv_set hC h.1 (by omega) (w_D_lt hbD) (by omega) e1
    have n1 := n19_set (c := w_ib t) hC h.1 (by omega) (w_D_lt hbD) (by omega) (w_ib_lt ht) e1 (Or.inl h19)
    have hv : ∀ i, vw y J1 (w_ib t) i = vw y J (w_ib t) i := fun i => by rw [e4, w_up_b _ _ _ _ htb]
    have ho1 : w_own (vw y J1) t p b := by
      refine ⟨ht, ho.2.1, hbD, ?_⟩
      rw [← ho.2.2.2]
      refine vw_pl hv (fun x i hx => ?_) (tr_ix (p := 0) (b := 0) h.1 ht (by omega))
      rw [e4, w_up_b _ _ _ _ (fun e => by
        have := (tr_B h.1 (by omega : 0 < Hd t) (by omega : 0 < Hd t) (e ▸ hx) ho).2
        omega)]
    have hci1 : ∀ L, L y = 2 → CI0 t (F0 L) (w_up (F L) b l (nI 0)) ∧ NG0 gn (w_up (F L) b l (nI 0)) := fun L hL => by
      have hoL := (tr_own h.1 hL (by omega : 0 < Hd t)).mpr ho
      have hw := (tr_wf h.1 hL).1
      have hpl : ∀ k p', k < 128 → p' < 25 → w_pl (w_up (F L) b l (nI 0)) k p' = nI 0 ∨ w_pl (w_up (F L) b l (nI 0)) k p' = w_pl (F L) k p' := fun k p' hk' _ => Or.inr (p_up hw.1 hk' (D_ib hbD hk') (fun q => by
        have := (hw.2.1 k 24 t p b q hoL).2
        omega))
      exact ⟨ci_del (hci L hL).1 hpl (fun c i _ hc => w_up_b _ _ _ _ (fun e => hc p (e ▸ hoL))), ng_sub (hci L hL).2 hpl⟩
    obtain ⟨F', I', J', r1, r2, r3, r4, r5, r6, r7, r8⟩ := ih (l + 1) fu fur _ I1 J1 (by omega) (by omega) (by omega) e3 hci1 ho1 ((e5 _).mpr (Or.inl hib)) (fun q => by rw [hv]; exact (e5 _).mpr (Or.inl (hix q))) (by rw [hv]; exact hk) n1
    refine ⟨F', I', J', ?_, ?_, r3, r4, fun i => (r5 i).trans (hv i), r6, r7, fun j hj => ?_⟩
    · rw [← r1]
      conv => lhs; unfold bX9_cut_155
      simp (disch := omega) only [hb0, if_false, z_le, hle, e1, Option.bind_some, nI_add]
    · rw [← r2]
      conv => lhs; unfold bX11_tryCut_219
      simp (disch := omega) only [hb0, if_false, z_le, hle, e2, Option.bind_some, nI_add]
    · rw [r8 j hj, c1 _ j (w_ib_lt ht) hj, w_up_b _ _ _ _ htb]
end CUT
