section SCAN
variable {n y : Nat} {Hd : Nat → Int} {F0 F F' : (Nat → Nat) → wS} {I0 J0 : am_I} {X : List Nat} {E : Nat → Prop} {gn : List Nat} {gp gp' pd pd' : Nat → Prop}
/-- a loop of the reference over the names of a directory -/
def scR {ρ : Type} (n d z i : Nat) (V : wS) (R : Nat → Nat → Nat → am_I → Option ρ) (Dn : Nat → am_I → Option ρ) (Fd : Int32 → am_I → Option ρ) (U : Int32 → am_I → am_I) (P : Nat → Nat → am_I → Prop) : Prop :=
  u55 U ∧ (∀ f w c J, z ≤ w → w < 2 ^ 20 → R (f + 1) w c J = Dn c J)
  ∧ (∀ f w c J x J', w < z → gX11_wordOf n (nI d) (nI w) J = some (x, J') → P w c J' → R (f + 1) w c J = if ¬ x = nI 0 ∧ c = i then Fd x J' else R f (w + 2) (if x = nI 0 then c else c + 1) (U x J'))
  ∧ (∀ w c J J', J' 0 60 = J 0 60 → P w c J → P w c J') ∧ (∀ w c x J, w < z → x = v_nm V d w → ¬ (¬ x = nI 0 ∧ c = i) → P w c J → P (w + 2) (if x = nI 0 then c else c + 1) (U x J)) ∧ ∀ w c J, P w c J → c ≤ w / 2
theorem tn_u0 {I J : am_I} {U : Int32 → am_I → am_I} (hU : u55 U) (x : Int32) (h : TN y Hd F0 I0 J0 X E F gn gp pd I J) : TN y Hd F0 I0 J0 X E F gn gp pd I (U x J) ∧ RO2 y I J I (U x J) := by
  obtain ⟨u1, u2⟩ := hU x J
  refine ⟨⟨tr_sc h.1 (fun i j q => rfl) ⟨rfl, rfl, rfl⟩ u1 ⟨u2 51 (by decide), u2 56 (by decide), u2 61 (by decide)⟩ (fun k q => u2 k (by omega)), ?_⟩, ?_, fun c q => ?_, fun k q => rfl, u2⟩
  · unfold rn
    rw [u2 52 (by decide), u2 54 (by decide)]
    exact h.2
  · funext b i
    unfold vw t_v
    rw [u1 0 68 (by decide), u1 0 67 (by decide), u1 0 64 (by decide)]
  · unfold tH
    rw [u1 0 68 (by decide)]
    exact q
/-- the reference passes over a place without a block -/
theorem nm_zero {ρ : Type} {d a z i : Nat} {R : Nat → Nat → Nat → am_I → Option ρ} {Dn : Nat → am_I → Option ρ} {Fd : Int32 → am_I → Option ρ} {U : Int32 → am_I → am_I} {P : Nat → Nat → am_I → Prop} {V : wS} (hR : scR n d z i V R Dn Fd U P) (hC : TC n y Hd I0 J0) (hE : ∀ b, ¬ E b) (hd : d < 128) (hH : 0 < Hd d) (ha : a < 24) (hz : z ≤ 384) (haz : 16 * a < z) (c : Nat) :
    ∀ (m q fur : Nat) (I J : am_I), q + m = 8 → m + 8 * (23 - a) + 1 < fur → TN y Hd F0 I0 J0 X E F gn gp pd I J → w_pl (vw y J) d a = nI 0 → tH y J (w_ib d) → (8 ≤ a → ¬ vw y J (w_ib d) 11 = nI 0 → tH y J (vw y J (w_ib d) 11).toNatClampNeg) → P (16 * a + 2 * q) c J → vw y J = V →
    ∃ fur' w' J', 8 * (23 - a) + 1 < fur' ∧ R fur (16 * a + 2 * q) c J = R fur' (16 * a + 16) c J' ∧ TN y Hd F0 I0 J0 X E F gn gp pd I J' ∧ RO2 y I J I J' ∧ P w' c J' ∧ (w' = 16 * a + 16 ∨ (z ≤ w' ∧ w' ≤ 16 * a + 16)) := by
  obtain ⟨hU, r0, r1, r2, r3, r4⟩ := hR
  intro m
  induction m with
  | zero =>
    intro q fur I J hq hfr h hbl h1 h2 hP hV
    obtain rfl : q = 8 := by omega
    exact ⟨fur, 16 * a + 16, J, by omega, rfl, h, RO.rf.to2, hP, Or.inl rfl⟩
  | succ m ih =>
    intro q fur I J hq hfr h hbl h1 h2 hP hV
    obtain ⟨fur, rfl⟩ : ∃ f, fur = f + 1 := ⟨fur - 1, by omega⟩
    by_cases hle : z ≤ 16 * a + 2 * q
    · exact ⟨fur + 1, 16 * a + 2 * q, J, by omega, by rw [r0 _ _ _ _ hle (by omega), r0 _ _ _ _ (by omega) (by omega)], h, RO.rf.to2, hP, Or.inr ⟨hle, by omega⟩⟩
    · have hw : 16 * a + 2 * q < z := by omega
      rcases tn_chunk (j := 2 * q) hC h hE hd hH ha (by omega) h1 h2 with ⟨c1, c2⟩ | ⟨b, I1, J1, c1, c2, c3, c4, c5, c6⟩
      · have step := r1 fur (16 * a + 2 * q) c J _ J hw c2 hP
        rw [if_neg (fun e => e.1 rfl), if_pos rfl] at step
        have hP2 := r3 (16 * a + 2 * q) c (nI 0) J hw (by unfold v_nm; rw [show (16 * a + 2 * q) / 16 = a from by omega, ← hV, if_pos hbl]) (fun e => e.1 rfl) hP
        rw [if_pos rfl] at hP2
        obtain ⟨t1, t2⟩ := tn_u0 hU (nI 0) h
        obtain ⟨fur', w', J', s1, s2, s3, s4, s5, s6⟩ := ih (q + 1) fur I _ (by omega) (by omega) t1 (by rw [t2.1]; exact hbl) (t2.2.1 _ h1) (by rw [t2.1]; exact fun q1 q2 => t2.2.1 _ (h2 q1 q2)) (by rw [show 16 * a + 2 * (q + 1) = 16 * a + 2 * q + 2 from by omega]; exact hP2) (t2.1.trans hV)
        refine ⟨fur', w', J', s1, ?_, s3, t2.tr s4, s5, s6⟩
        rw [step, ← s2, show 16 * a + 2 * q + 2 = 16 * a + 2 * (q + 1) from by omega]
      · exact absurd (c2.symm.trans hbl) (w_D0 c1)
theorem nm_in {ρ : Type} {d a z fuo i : Nat} {bl : Int32} {R : Nat → Nat → Nat → am_I → Option ρ} {Dn : Nat → am_I → Option ρ} {Fd : Int32 → am_I → Option ρ} {U : Int32 → am_I → am_I} {P : Nat → Nat → am_I → Prop} {V : wS} (hR : scR n d z i V R Dn Fd U P) (hC : TC n y Hd I0 J0) (hE : ∀ b, ¬ E b) (hd : d < 128) (hH : 0 < Hd d) (ha : a < 24) (hz : z ≤ 384) (haz : 16 * a < z) (hi : i ≤ 192) :
    ∀ (m q c fu fur : Nat) (I J : am_I), q + m = 8 → m < fu → m + 8 * (23 - a) + 1 < fur → TN y Hd F0 I0 J0 X E F gn gp pd I J → w_pl (vw y J) d a = bl → tH y J (w_ib d) → (8 ≤ a → ¬ vw y J (w_ib d) 11 = nI 0 → tH y J (vw y J (w_ib d) 11).toNatClampNeg) → I 0 15 10 = nI c → P (16 * a + 2 * q) c J → (bl = nI 0 → q = 0) → vw y J = V →
    (∃ x I' J', (¬ x = nI 0 ∧ 2 * i < z) ∧ bX9_nameOf_52 n (bX9_nameOf_14 n fuo) fu (nI d) (nI i) (nI z) (nI (16 * a)) bl (nI (if bl = nI 0 then 0 else min 16 (z - 16 * a))) (nI (2 * q)) I = some (x, I') ∧ R fur (16 * a + 2 * q) c J = Fd x J' ∧ TN y Hd F0 I0 J0 X E F gn gp pd I' J' ∧ RO2 y I J I' J')
    ∨ (∃ fur' c' w' I' J', 8 * (23 - a) + 1 < fur' ∧ bX9_nameOf_52 n (bX9_nameOf_14 n fuo) fu (nI d) (nI i) (nI z) (nI (16 * a)) bl (nI (if bl = nI 0 then 0 else min 16 (z - 16 * a))) (nI (2 * q)) I = bX9_nameOf_14 n fuo (nI d) (nI i) (nI z) (nI (16 * a + 16)) I' ∧ R fur (16 * a + 2 * q) c J = R fur' (16 * a + 16) c' J' ∧ TN y Hd F0 I0 J0 X E F gn gp pd I' J' ∧ RO2 y I J I' J' ∧ I' 0 15 10 = nI c' ∧ P w' c' J' ∧ (w' = 16 * a + 16 ∨ (z ≤ w' ∧ w' ≤ 16 * a + 16))) := by
  obtain ⟨hU, r0, r1, r2, r3, r4⟩ := hR
  intro m
  induction m with
  | zero =>
    intro q c fu fur I J hq hf hfr h hbl h1 h2 hc hP hb0 hV
    obtain ⟨fu, rfl⟩ : ∃ f, fu = f + 1 := ⟨fu - 1, by omega⟩
    obtain rfl : q = 8 := by omega
    have hb : ¬ bl = nI 0 := fun e => absurd (hb0 e) (by decide)
    have hle : min 16 (z - 16 * a) ≤ 2 * 8 := by omega
    refine Or.inr ⟨fur, c, 16 * a + 16, I, J, by omega, ?_, rfl, h, RO.rf.to2, hc, hP, Or.inl rfl⟩
    simp (disch := omega) only [bX9_nameOf_52, hb, if_false, z_le, hle, if_true, nI_add]
  | succ m ih =>
    intro q c fu fur I J hq hf hfr h hbl h1 h2 hc hP hb0 hV
    obtain ⟨fu, rfl⟩ : ∃ f, fu = f + 1 := ⟨fu - 1, by omega⟩
    obtain ⟨fur, rfl⟩ : ∃ f, fur = f + 1 := ⟨fur - 1, by omega⟩
    by_cases hle : z ≤ 16 * a + 2 * q
    · have hb : ¬ bl = nI 0 := fun e => by have := hb0 e; omega
      have hle2 : min 16 (z - 16 * a) ≤ 2 * q := by omega
      refine Or.inr ⟨fur + 1, c, 16 * a + 2 * q, I, J, by omega, ?_, ?_, h, RO.rf.to2, hc, hP, Or.inr ⟨hle, by omega⟩⟩
      · simp (disch := omega) only [bX9_nameOf_52, hb, if_false, z_le, hle2, if_true, nI_add]
      · rw [r0 _ _ _ _ hle (by omega), r0 _ _ _ _ (by omega) (by omega)]
    · have hw : 16 * a + 2 * q < z := by omega
      rcases tn_chunk (j := 2 * q) hC h hE hd hH ha (by omega) h1 h2 with ⟨c1, c2⟩ | ⟨b, I1, J1, c1, c2, c3, c4, c5, c6⟩
      · have hbl0 : bl = nI 0 := by rw [← hbl]; exact c1
        obtain rfl := hb0 hbl0
        obtain ⟨fur', w', J', s1, s2, s3, s4, s5, s6⟩ := nm_zero (n := n) (i := i) ⟨hU, r0, r1, r2, r3, r4⟩ hC hE hd hH ha hz haz c 8 0 (fur + 1) I J (by omega) (by omega) h (by rw [hbl]; exact hbl0) h1 h2 hP hV
        refine Or.inr ⟨fur', c, w', I, J', s1, ?_, s2, s3, s4, hc, s5, s6⟩
        subst hbl0
        conv => lhs; unfold bX9_nameOf_52
        simp (disch := omega) only [if_true, z_le, Nat.mul_zero, Nat.le_refl, nI_add]
      · obtain rfl : bl = nI b := by rw [← hbl]; exact c2
        have hb0' : ¬ nI b = nI 0 := w_D0 c1
        have hxm : vw y J b (2 * q) = v_nm V d (16 * a + 2 * q) := by
          unfold v_nm
          rw [show (16 * a + 2 * q) / 16 = a from by omega, show (16 * a + 2 * q) % 16 = 2 * q from by omega, ← hV, c2, if_neg hb0', nI_clamp (w_Dlt c1)]
        have hle2 : ¬ min 16 (z - 16 * a) ≤ 2 * q := by omega
        have hP1 := r2 _ _ _ _ c6.2.2.2 hP
        have hc1 : I1 0 15 10 = nI c := by rw [c6.2.2.1]; exact hc
        have hcle := r4 _ _ _ hP
        have step := r1 fur (16 * a + 2 * q) c J _ J1 hw c4 hP1
        by_cases hx : vw y J b (2 * q) = nI 0
        · have hx0 : vw y J b (2 * q) = 0 := hx
          rw [if_neg (fun e => e.1 hx), if_pos hx] at step
          obtain ⟨t1, t2⟩ := tn_u hU (vw y J b (2 * q)) (nI c + nI 0) c5
          have hP2 := r3 (16 * a + 2 * q) c (vw y J b (2 * q)) J1 hw hxm (fun e => e.1 hx) hP1
          rw [if_pos hx] at hP2
          have ec : bX9_nameOf_52 n (bX9_nameOf_14 n fuo) (fu + 1) (nI d) (nI i) (nI z) (nI (16 * a)) (nI b) (nI (if nI b = nI 0 then 0 else min 16 (z - 16 * a))) (nI (2 * q)) I = bX9_nameOf_52 n (bX9_nameOf_14 n fuo) fu (nI d) (nI i) (nI z) (nI (16 * a)) (nI b) (nI (if nI b = nI 0 then 0 else min 16 (z - 16 * a))) (nI (2 * (q + 1))) (am_up I1 0 15 10 (nI c + nI 0)) := by
            conv => lhs; unfold bX9_nameOf_52
            simp (disch := omega) only [hb0', if_false, z_le, hle2, c3, Option.bind_some, hx0, if_true, bX9_nameOf_85, bX9_nameOf_100, am_lt, hc1, show nI (2 * q) + nI 2 = nI (2 * (q + 1)) from nI_add _ _]
          rw [ec, step, show 16 * a + 2 * q + 2 = 16 * a + 2 * (q + 1) from by omega]
          have hRO := c6.to2.tr t2
          rcases ih (q + 1) c fu fur _ _ (by omega) (by omega) (by omega) t1 (by rw [hRO.1]; exact hbl) (hRO.2.1 _ h1) (by rw [hRO.1]; exact fun q1 q2 => hRO.2.1 _ (h2 q1 q2)) (by rw [z_upk, if_pos rfl, nI_add]; rfl) (by rw [show 16 * a + 2 * (q + 1) = 16 * a + 2 * q + 2 from by omega]; exact hP2) (fun e => absurd e hb0') (hRO.1.trans hV) with ⟨x, I', J', s0, s1, s2, s3, s4⟩ | ⟨fur', c', w', I', J', s0, s1, s2, s3, s4, s5⟩
          · exact Or.inl ⟨x, I', J', s0, s1, s2, s3, hRO.tr s4⟩
          · exact Or.inr ⟨fur', c', w', I', J', s0, s1, s2, s3, hRO.tr s4, s5⟩
        · have hx0 : ¬ vw y J b (2 * q) = 0 := hx
          by_cases hci : c = i
          · rw [if_pos ⟨hx, hci⟩] at step
            refine Or.inl ⟨vw y J b (2 * q), I1, J1, ⟨hx, by omega⟩, ?_, step, c5, c6.to2⟩
            subst hci
            simp (disch := omega) only [bX9_nameOf_52, hb0', if_false, z_le, hle2, c3, Option.bind_some, hx0, hc1, if_true]
          · rw [if_neg (fun e => hci e.2), if_neg hx] at step
            obtain ⟨t1, t2⟩ := tn_u hU (vw y J b (2 * q)) (nI c + nI 1) c5
            have hP2 := r3 (16 * a + 2 * q) c (vw y J b (2 * q)) J1 hw hxm (fun e => hci e.2) hP1
            rw [if_neg hx] at hP2
            have ec : bX9_nameOf_52 n (bX9_nameOf_14 n fuo) (fu + 1) (nI d) (nI i) (nI z) (nI (16 * a)) (nI b) (nI (if nI b = nI 0 then 0 else min 16 (z - 16 * a))) (nI (2 * q)) I = bX9_nameOf_52 n (bX9_nameOf_14 n fuo) fu (nI d) (nI i) (nI z) (nI (16 * a)) (nI b) (nI (if nI b = nI 0 then 0 else min 16 (z - 16 * a))) (nI (2 * (q + 1))) (am_up I1 0 15 10 (nI c + nI 1)) := by
              conv => lhs; unfold bX9_nameOf_52
              simp (disch := omega) only [hb0', if_false, z_le, hle2, c3, Option.bind_some, hx0, bX9_nameOf_85, bX9_nameOf_100, am_lt, hc1, z_eq, hci, show nI (2 * q) + nI 2 = nI (2 * (q + 1)) from nI_add _ _]
            rw [ec, step, show 16 * a + 2 * q + 2 = 16 * a + 2 * (q + 1) from by omega]
            have hRO := c6.to2.tr t2
            rcases ih (q + 1) (c + 1) fu fur _ _ (by omega) (by omega) (by omega) t1 (by rw [hRO.1]; exact hbl) (hRO.2.1 _ h1) (by rw [hRO.1]; exact fun q1 q2 => hRO.2.1 _ (h2 q1 q2)) (by rw [z_upk, if_pos rfl, nI_add]) (by rw [show 16 * a + 2 * (q + 1) = 16 * a + 2 * q + 2 from by omega]; exact hP2) (fun e => absurd e hb0') (hRO.1.trans hV) with ⟨x, I', J', s0, s1, s2, s3, s4⟩ | ⟨fur', c', w', I', J', s0, s1, s2, s3, s4, s5⟩
            · exact Or.inl ⟨x, I', J', s0, s1, s2, s3, hRO.tr s4⟩
            · exact Or.inr ⟨fur', c', w', I', J', s0, s1, s2, s3, hRO.tr s4, s5⟩
theorem nm_out {ρ : Type} {d z i : Nat} {R : Nat → Nat → Nat → am_I → Option ρ} {Dn : Nat → am_I → Option ρ} {Fd : Int32 → am_I → Option ρ} {U : Int32 → am_I → am_I} {P : Nat → Nat → am_I → Prop} {V : wS} (hR : scR n d z i V R Dn Fd U P) (hC : TC n y Hd I0 J0) (hE : ∀ b, ¬ E b) (hd : d < 128) (hH : 0 < Hd d) (hz : z ≤ 384) (hi : i ≤ 192) :
    ∀ (m a w c fuo fur : Nat) (I J : am_I), a + m = 24 → m < fuo → 8 * m + 1 < fur → TN y Hd F0 I0 J0 X E F gn gp pd I J → I 0 15 10 = nI c → P w c J → (w = 16 * a ∨ (z ≤ w ∧ w ≤ 16 * a)) → vw y J = V →
    (∃ x I' J', (¬ x = nI 0 ∧ 2 * i < z) ∧ bX9_nameOf_14 n fuo (nI d) (nI i) (nI z) (nI (16 * a)) I = some (x, I') ∧ R fur (16 * a) c J = Fd x J' ∧ TN y Hd F0 I0 J0 X E F gn gp pd I' J' ∧ RO2 y I J I' J')
    ∨ (∃ c' w' I' J', bX9_nameOf_14 n fuo (nI d) (nI i) (nI z) (nI (16 * a)) I = some (nI 0, I') ∧ R fur (16 * a) c J = Dn c' J' ∧ TN y Hd F0 I0 J0 X E F gn gp pd I' J' ∧ RO2 y I J I' J' ∧ I' 0 15 10 = nI c' ∧ P w' c' J' ∧ z ≤ w') := by
  intro m
  induction m with
  | zero =>
    intro a w c fuo fur I J ha hf hfr h hc hP hw hV
    obtain ⟨fuo, rfl⟩ : ∃ f, fuo = f + 1 := ⟨fuo - 1, by omega⟩
    obtain ⟨fur, rfl⟩ : ∃ f, fur = f + 1 := ⟨fur - 1, by omega⟩
    have hle : z ≤ 16 * a := by omega
    refine Or.inr ⟨c, w, I, J, ?_, hR.2.1 _ _ _ _ hle (by omega), h, RO.rf.to2, hc, hP, by omega⟩
    simp (disch := omega) only [bX9_nameOf_14, z_le, hle, if_true]
  | succ m ih =>
    intro a w c fuo fur I J ha hf hfr h hc hP hw hV
    obtain ⟨fuo, rfl⟩ : ∃ f, fuo = f + 1 := ⟨fuo - 1, by omega⟩
    by_cases hle : z ≤ 16 * a
    · obtain ⟨fur, rfl⟩ : ∃ f, fur = f + 1 := ⟨fur - 1, by omega⟩
      refine Or.inr ⟨c, w, I, J, ?_, hR.2.1 _ _ _ _ hle (by omega), h, RO.rf.to2, hc, hP, by omega⟩
      simp (disch := omega) only [bX9_nameOf_14, z_le, hle, if_true]
    · obtain rfl : w = 16 * a := by omega
      have hq : 16 * a / 16 = a := by omega
      obtain ⟨I1, J1, e1, e2, e3, e4, e5, e6⟩ := tn_bof (a := 16 * a) hC h hE hd hH (by omega)
      rw [hq] at e1 e2 e6
      have hb := r_bofc (n := n) (a := 16 * a) (by have := hC.1; have := hC.2.1; omega) e3.1 hd hH (by omega) e5 (by rw [hq, e4.1]; exact e6)
      rw [hq, e4.1] at hb
      have hwo : gX11_wordOf n (nI d) (nI (16 * a)) J = gX11_wordOf n (nI d) (nI (16 * a)) J1 := by
        simp only [gX11_wordOf, bX11_wordOf_0, e2, hb]
      have hP1 := hR.2.2.2.1 _ _ _ _ e4.2.2.2 hP
      have hc1 : I1 0 15 10 = nI c := by rw [e4.2.2.1]; exact hc
      have hJ : R fur (16 * a) c J = R fur (16 * a + 2 * 0) c J1 := by
        obtain ⟨fur, rfl⟩ : ∃ f, fur = f + 1 := ⟨fur - 1, by omega⟩
        show R (fur + 1) (16 * a) c J = R (fur + 1) (16 * a) c J1
        rcases tn_chunk (j := 0) hC e3 hE hd hH (by omega : a < 24) (by omega) e5 (by rw [e4.1]; exact e6) with ⟨c1, c2⟩ | ⟨b, I2, J2, c1, c2, c3, c4, c5, c6⟩
        · rw [Nat.add_zero] at c2
          rw [hR.2.2.1 fur _ c J _ J1 (by omega) (hwo.trans c2) hP1, hR.2.2.1 fur _ c J1 _ J1 (by omega) c2 hP1]
        · rw [Nat.add_zero] at c4
          have hP2 := hR.2.2.2.1 _ _ _ _ c6.2.2.2 hP1
          rw [hR.2.2.1 fur _ c J _ J2 (by omega) (hwo.trans c4) hP2, hR.2.2.1 fur _ c J1 _ J2 (by omega) c4 hP2]
      have hI : bX9_nameOf_14 n (fuo + 1) (nI d) (nI i) (nI z) (nI (16 * a)) I = bX9_nameOf_52 n (bX9_nameOf_14 n fuo) am_fu (nI d) (nI i) (nI z) (nI (16 * a)) (w_pl (vw y J) d a) (nI (if w_pl (vw y J) d a = nI 0 then 0 else min 16 (z - 16 * a))) (nI (2 * 0)) I1 := by
        by_cases e0 : w_pl (vw y J) d a = nI 0
        · have e00 : w_pl (vw y J) d a = 0 := e0
          rw [if_pos e0, Nat.mul_zero]
          simp (disch := omega) only [bX9_nameOf_14, bX9_nameOf_47, z_le, hle, if_false, e1, Option.bind_some, e00, if_true]
        · have e00 : ¬ w_pl (vw y J) d a = 0 := e0
          rw [if_neg e0, ← z_mn (by omega) (by omega), Nat.mul_zero]
          simp (disch := omega) only [bX9_nameOf_14, bX9_nameOf_47, z_le, hle, if_false, e1, Option.bind_some, e00]
      rw [hI, hJ]
      rcases nm_in (a := a) (z := z) (fuo := fuo) (i := i) (bl := w_pl (vw y J) d a) hR hC hE hd hH (by omega) hz (by omega) hi 8 0 c am_fu fur I1 J1 (by omega) (fu_lt (by omega)) (by omega) e3 (by rw [e4.1]) e5 (by rw [e4.1]; exact e6) hc1 (by rw [Nat.mul_zero, Nat.add_zero]; exact hP1) (fun _ => rfl) (e4.1.trans hV) with ⟨x, I', J', s0, s1, s2, s3, s4⟩ | ⟨fur', c', w', I', J', s0, s1, s2, s3, s4, s5, s6, s7⟩
      · exact Or.inl ⟨x, I', J', s0, s1, s2, s3, e4.to2.tr s4⟩
      · rw [s1, s2, show 16 * a + 16 = 16 * (a + 1) from by omega]
        rcases ih (a + 1) w' c' fuo fur' I' J' (by omega) (by omega) (by omega) s3 s5 s6 (by omega) ((e4.to2.tr s4).1.trans hV) with ⟨x, I2, J2, t0, t1, t2, t3, t4⟩ | ⟨c2, w2, I2, J2, t1, t2, t3, t4, t5, t6⟩
        · exact Or.inl ⟨x, I2, J2, t0, t1, t2, t3, (e4.to2.tr s4).tr t4⟩
        · exact Or.inr ⟨c2, w2, I2, J2, t1, t2, t3, (e4.to2.tr s4).tr t4, t5, t6⟩
end SCAN
