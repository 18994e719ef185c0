theorem fu_lt {m : Nat} (h : m < 10000) : m < am_fu := by
  unfold am_fu
  omega
theorem z_mn {z a : Nat} (h : 16 * a ≤ z) (hz : z < 2 ^ 20) : (if nI 16 ≤ nI z - nI (16 * a) then nI 16 else nI z - nI (16 * a)) = nI (min 16 (z - 16 * a)) := by
  rw [pk_sub h]
  simp (disch := omega) only [z_le]
  by_cases e : 16 ≤ z - 16 * a
  · rw [if_pos e, Nat.min_eq_left e]
  · rw [if_neg e, Nat.min_eq_right (by omega)]
theorem bof_eq {n a a' : Nat} {l : Int32} {J : am_I} (h : a / 16 = a' / 16) (ha : a < 384) (ha' : a' < 384) : gX11_blockOf n l (nI a) J = gX11_blockOf n l (nI a') J := by
  simp (disch := omega) only [gX11_blockOf, bX11_blockOf_0, z_le, pk_div, h]
  by_cases e : 128 ≤ a
  · rw [if_pos e, if_pos (by omega)]
  · rw [if_neg e, if_neg (by omega)]
section FIND
variable {n y : Nat} {Hd : Nat → Int} {F0 F F' : (Nat → Nat) → wS} {I0 J0 I J : am_I} {X : List Nat} {E : Nat → Prop} {gn : List Nat} {gp gp' pd pd' : Nat → Prop}
theorem fd_out {d z : Nat} {name : Int32} (hC : TC n y Hd I0 J0) (hE : ∀ b, ¬ E b) (hd : d < 128) (hH : 0 < Hd d) (hz : z ≤ 384) :
    ∀ (m a fuo fur : Nat) (I J : am_I), a + m = 24 → m < fuo → 8 * m + 1 < fur → TN y Hd F0 I0 J0 X E F gn gp pd I J →
    ∃ r I' J', bX9_find_9 n fuo (nI d) name (nI z) (nI (16 * a)) I = some (r, I') ∧ bX11_find_10 n fur (nI d) name (nI z) (nI (16 * a)) J = some (r, J') ∧ TN y Hd F0 I0 J0 X E F gn gp pd I' J' ∧ RO y I J I' J' ∧ (r = (-1 : Int32) ∨ ∃ w, r = nI w ∧ w < z ∧ w % 2 = 0 ∧ ((¬ name = nI 0 → ∃ b, w_D b ∧ w_pl (vw y J) d (w / 16) = nI b ∧ vw y J b (w % 16) = name) ∧ (name = nI 0 → w_pl (vw y J) d (w / 16) = nI 0 ∨ vw y J (w_pl (vw y J) d (w / 16)).toNatClampNeg (w % 16) = nI 0))) := by
  intro m
  induction m with
  | zero =>
    intro a fuo fur I J ha hf hfr h
    obtain ⟨fuo, rfl⟩ : ∃ f, fuo = f + 1 := ⟨fuo - 1, by omega⟩
    obtain ⟨fur, rfl⟩ : ∃ f, fur = f + 1 := ⟨fur - 1, by omega⟩
    have hle : z ≤ 16 * a := by omega
    refine ⟨_, I, J, ?_, fd_end hle (by omega), h, RO.rf, Or.inl rfl⟩
    simp (disch := omega) only [bX9_find_9, z_le, hle, if_true]
  | succ m ih =>
    intro a fuo fur I J ha hf hfr h
    obtain ⟨fuo, rfl⟩ : ∃ f, fuo = f + 1 := ⟨fuo - 1, by omega⟩
    obtain ⟨fur, rfl⟩ : ∃ f, fur = f + 1 := ⟨fur - 1, by omega⟩
    by_cases hle : z ≤ 16 * a
    · refine ⟨_, I, J, ?_, fd_end hle (by omega), h, RO.rf, Or.inl rfl⟩
      simp (disch := omega) only [bX9_find_9, z_le, hle, if_true]
    · have hq : 16 * a / 16 = a := by omega
      obtain ⟨I1, J1, e1, e2, e3, e4, e5, e6⟩ := tn_bof (a := 16 * a) hC h hE hd hH (by omega)
      rw [hq] at e1 e2 e6
      have hb := r_bofc (n := n) (a := 16 * a) (by have := hC.1; have := hC.2.1; omega) e3.1 hd hH (by omega) e5 (by rw [hq, e4.1]; exact e6)
      rw [hq, e4.1] at hb
      have hJ : bX11_find_10 n (fur + 1) (nI d) name (nI z) (nI (16 * a)) J = bX11_find_10 n (fur + 1) (nI d) name (nI z) (nI (16 * a + 2 * 0)) J1 := by
        have hw : gX11_wordOf n (nI d) (nI (16 * a)) J = gX11_wordOf n (nI d) (nI (16 * a)) J1 := by
          simp only [gX11_wordOf, bX11_wordOf_0, e2, hb]
        simp (disch := omega) only [bX11_find_10, z_le, Nat.mul_zero, Nat.add_zero, hle, if_false, hw]
      have hI : bX9_find_9 n (fuo + 1) (nI d) name (nI z) (nI (16 * a)) I = bX9_find_38 n (bX9_find_9 n fuo) am_fu (nI d) name (nI z) (nI (16 * a)) (w_pl (vw y J) d a) (nI (min 16 (z - 16 * a))) (nI (2 * 0)) I1 := by
        simp (disch := omega) only [bX9_find_9, z_le, hle, if_false, e1, Option.bind_some]
        rw [z_mn (by omega) (by omega)]
      rw [hI, hJ]
      rcases fd_in (a := a) (z := z) (fuo := fuo) (name := name) (bl := w_pl (vw y J) d a) hC hE hd hH (by omega) hz (by omega) 8 0 am_fu (fur + 1) I1 J1 rfl (by decide) (by omega) e3 (by rw [e4.1]) e5 (by rw [e4.1]; exact e6) with ⟨w, I', J', w1, w2, w3, r1, r2, r3, r4, r5⟩ | ⟨fur', I', J', w1, r1, r2, r3, r4⟩
      · refine ⟨_, I', J', r1, r2, r3, e4.tr r4, Or.inr ⟨w, rfl, w1, w3, fun hn => ?_, fun hn => ?_⟩⟩
        · rw [w2]
          rcases r5 with r5 | r5
          · exact absurd r5.2 hn
          · rcases tr_P (p := a) h.1 hd hH (by omega) with q | ⟨b, b1, b2⟩
            · exact absurd q r5.2
            · refine ⟨b, b2, b1, ?_⟩
              have q := r5.1
              rw [b1, nI_clamp (w_Dlt b2), e4.1] at q
              exact q
        · rw [w2]
          rcases r5 with r5 | r5
          · exact Or.inl r5.1
          · refine Or.inr ?_
            have q := r5.1
            rw [e4.1, hn] at q
            exact q
      · obtain ⟨r, I2, J2, s1, s2, s3, s4, s5⟩ := ih (a + 1) fuo fur' I' J' (by omega) (by omega) (by omega) r3
        refine ⟨r, I2, J2, ?_, ?_, s3, (e4.tr r4).tr s4, ?_⟩
        · rw [r1, ← s1, show 16 * (a + 1) = 16 * a + 16 from by omega]
        · rw [r2, ← s2, show 16 * (a + 1) = 16 * a + 16 from by omega]
        · rw [(e4.tr r4).1] at s5
          exact s5
theorem tn_find {d : Nat} (name : Int32) (hC : TC n y Hd I0 J0) (h : TN y Hd F0 I0 J0 X E F gn gp pd I J) (hE : ∀ b, ¬ E b) (hd : d < 128) (hH : 0 < Hd d) : ∃ r I' J', ∃ z : Nat, gX9_find n (nI d) name I = some (r, I') ∧ gX11_find n (nI d) name J = some (r, J') ∧ TN y Hd F0 I0 J0 X E F gn gp pd I' J' ∧ RO y I J I' J' ∧ tH y J' (w_ib d) ∧ z ≤ 384 ∧ vw y J (w_ib d) 2 = nI z ∧ (vw y J (w_ib d) 0 = nI 2 → z % 2 = 0) ∧ (r = (-1 : Int32) ∨ ∃ w, r = nI w ∧ w < z ∧ w % 2 = 0 ∧ ((¬ name = nI 0 → ∃ b, w_D b ∧ w_pl (vw y J) d (w / 16) = nI b ∧ vw y J b (w % 16) = name) ∧ (name = nI 0 → w_pl (vw y J) d (w / 16) = nI 0 ∨ vw y J (w_pl (vw y J) d (w / 16)).toNatClampNeg (w % 16) = nI 0))) := by
  obtain ⟨I1, J1, z, z1, z2, z3, e1, e2, e3, e4, e5⟩ := tn_size hC h hE hd hH
  obtain ⟨r, I2, J2, s1, s2, s3, s4, s5⟩ := fd_out (name := name) hC hE hd hH z1 24 0 am_fu am_fu I1 J1 (by omega) (fu_lt (by omega)) (fu_lt (by omega)) e3
  rw [Nat.mul_zero] at s1 s2
  refine ⟨r, I2, J2, z, ?_, ?_, s3, e4.tr s4, s4.2.1 _ e5, z1, z3, z2, by rw [e4.1] at s5; exact s5⟩
  · rw [gX9_find, bX9_find_0, e1, Option.bind_some]
    exact s1
  · rw [gX11_find, bX11_find_0, e2, Option.bind_some]
    exact s2
/-- the inode of an entry -/
theorem tn_ino {d w b : Nat} (hC : TC n y Hd I0 J0) (h : TN y Hd F0 I0 J0 X E F gn gp pd I J) (hE : ∀ b, ¬ E b) (hd : d < 128) (hH : 0 < Hd d) (hw : w < 384) (hw2 : w % 2 = 0) (hdir : vw y J (w_ib d) 0 = nI 2) (hb : w_D b) (hpl : w_pl (vw y J) d (w / 16) = nI b) : ∃ I' J', ∃ t : Nat, t < 128 ∧ vw y J b (w % 16 + 1) = nI t ∧ gX9_inodeAt n (nI d) (nI w) I = some (nI t, I') ∧ gX11_wordOf n (nI d) (nI (w + 1)) J = some (nI t, J') ∧ TN y Hd F0 I0 J0 X E F gn gp pd I' J' ∧ RO y I J I' J' ∧ tH y J' (w_ib d) ∧ tH y J' b ∧ (8 ≤ w / 16 → ¬ vw y J (w_ib d) 11 = nI 0 → tH y J' (vw y J (w_ib d) 11).toNatClampNeg) := by
  obtain ⟨I1, J1, e1, e2, e3, e4, e5, e6⟩ := tn_bof (a := w) hC h hE hd hH hw
  have ho : w_own (vw y J) d (w / 16) b := ⟨hd, by omega, hb, hpl⟩
  obtain ⟨t, t1, t2⟩ := tr_E (i := (w % 16) / 2) h.1 hH ho (by omega) hdir (by omega)
  rw [show 2 * (w % 16 / 2) + 1 = w % 16 + 1 from by omega] at t2
  obtain ⟨I2, J2, f1, f2, f3, f4, f5⟩ := tn_rdv (i := w % 16 + 1) hC e3 (w_D_lt hb) (by omega) (hE _) (tr_rdo (k := d) (p := w / 16) e3.1 hH (by rw [e4.1]; exact ho) e5 (fun q1 q2 => by
    rw [e4.1]
    refine e6 q1 (fun e => ?_)
    have h3 := ho.2.2.2
    unfold w_pl at h3
    rw [if_neg (by omega), if_neg (by omega), if_pos e] at h3
    exact w_D0 hb h3.symm))
  rw [e4.1, t2] at f1 f2
  have hb0 : ¬ nI b = (0 : Int32) := w_D0 hb
  refine ⟨I2, J2, t, t1, t2, ?_, ?_, f3, e4.tr f4, f4.2.1 _ e5, f5, fun q1 q2 => f4.2.1 _ (e6 q1 q2)⟩
  · rw [hpl] at e1
    simp (disch := omega) only [gX9_inodeAt, bX9_inodeAt_0, e1, Option.bind_some, pk_div, pk_mul, pk_sub, nI_add, show w - w / 16 * 16 + 1 = w % 16 + 1 from by omega, f1]
  · rw [hpl] at e2
    simp (disch := omega) only [gX11_wordOf, bX11_wordOf_0, bX11_wordOf_24, bof_eq (show (w + 1) / 16 = w / 16 by omega) (show w + 1 < 384 by omega) hw, e2, Option.bind_some, hb0, if_false, pk_div, pk_mul, pk_sub, show w + 1 - (w + 1) / 16 * 16 = w % 16 + 1 from by omega, f2]
/-- reading, and counting on both sides -/
def RO2 (y : Nat) (I J I' J' : am_I) : Prop := vw y J' = vw y J ∧ (∀ c, tH y J c → tH y J' c) ∧ (∀ k, ¬ k = 10 → I' 0 15 k = I 0 15 k) ∧ (∀ k, ¬ k = 55 → J' 0 60 k = J 0 60 k)
theorem RO.to2 {I' J' : am_I} (h : RO y I J I' J') : RO2 y I J I' J' := ⟨h.1, h.2.1, fun k _ => by rw [h.2.2.1], fun k _ => by rw [h.2.2.2]⟩
theorem RO2.tr {I' J' I'' J'' : am_I} (h : RO2 y I J I' J') (h' : RO2 y I' J' I'' J'') : RO2 y I J I'' J'' := ⟨h'.1.trans h.1, fun c q => h'.2.1 c (h.2.1 c q), fun k q => (h'.2.2.1 k q).trans (h.2.2.1 k q), fun k q => (h'.2.2.2 k q).trans (h.2.2.2 k q)⟩
/-- what may change of an object of the reference besides: slot 55 -/
def u55 (U : Int32 → am_I → am_I) : Prop := ∀ x J, (∀ a b, ¬ (a = 0 ∧ b = 60) → U x J a b = J a b) ∧ ∀ k, ¬ k = 55 → U x J 0 60 k = J 0 60 k
theorem tn_u {U : Int32 → am_I → am_I} (hU : u55 U) (x v : Int32) (h : TN y Hd F0 I0 J0 X E F gn gp pd I J) : TN y Hd F0 I0 J0 X E F gn gp pd (am_up I 0 15 10 v) (U x J) ∧ RO2 y I J (am_up I 0 15 10 v) (U x J) := by
  obtain ⟨u1, u2⟩ := hU x J
  refine ⟨⟨tr_sc h.1 (fun i j q => z_upj _ _ _ _ _ _ _ q) ⟨by rw [z_upk, if_neg (by decide)], by rw [z_upk, if_neg (by decide)], by rw [z_upk, if_neg (by decide)]⟩ u1 ⟨u2 51 (by decide), u2 56 (by decide), u2 61 (by decide)⟩ (fun k q => u2 k (by omega)), ?_⟩, ?_, fun c q => ?_, fun k q => by rw [z_upk, if_neg q], u2⟩
  · unfold rn
    rw [z_upk, if_neg (by decide), u2 52 (by decide), u2 54 (by decide)]
    exact h.2
  · funext b i
    unfold vw t_v
    rw [u1 0 68 (by decide), u1 0 67 (by decide), u1 0 64 (by decide)]
  · unfold tH
    rw [u1 0 68 (by decide)]
    exact q
end FIND
