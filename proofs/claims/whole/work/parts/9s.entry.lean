section ENT
variable {n y : Nat} {Hd : Nat → Int} {F0 F F' : (Nat → Nat) → wS} {I0 J0 I J : am_I} {X : List Nat} {E : Nat → Prop} {gn : List Nat} {gp gp' pd pd' : Nat → Prop}
theorem en_55 {v : Int32} (h : EN y Hd F0 I0 J0 I J) : EN y Hd F0 I0 J0 I (am_up J 0 60 55 v) := by
  refine ⟨?_, ?_⟩
  · obtain ⟨X4, E4, F4, gn4, gp4, pd4, t4⟩ := h.1
    exact ⟨X4, E4, F4, gn4, gp4, pd4, tr_up t4 (fun _ _ _ => rfl) (fun _ _ => rfl) (fun i j q => z_upj _ _ _ _ _ _ _ q) (fun k q => by rw [z_upk, if_neg (by omega)])⟩
  · have := h.2
    unfold en at this ⊢
    simp only [z_upk, (by decide : ¬ (52 : Nat) = 55), (by decide : ¬ (53 : Nat) = 55), (by decide : ¬ (54 : Nat) = 55), if_false]
    exact this
theorem k_append {k : Nat} {v : Int32} (hC : TC n y Hd I0 J0) (hM : ∀ r, r < 136 → Hd r ≤ 2) (h : TN0 y Hd F0 I0 J0 I J) (hk : k < 128) (ha : I0 y 55 1 = nI k) (hb : I0 y 55 2 = v) (hkd : I0 y 55 0 = nI 12) (hSB : v_SB 191 (F0 L2)) : ∃ I' J', gX9_writeWord n y I = some I' ∧ gX11_tryAppend n (nI k) v J = some J' ∧ (EN y Hd F0 I0 J0 I' J' ∨ DN y Hd F0 I0 J0 (nI 1) I' J') := by
  have hn4 := hC.2.1
  have hyn := hC.1
  rcases tn_wfile hC h (fun _ q => q) hk with ⟨I1, J1, z, e1, f1, z1, z3, e3, e4, e5, e7, hpin, ⟨m1, m2, m3, e6⟩ | ⟨e6, I3, J3, m1, m2, m3⟩⟩ | ⟨I1, J1, e1, e2, e3⟩
  · have hH : Hd k = 2 := by have := hM k (by omega); omega
    have h51 := (tn_c e3).2
    have q0 := r_getc (n := n) (i := 0) (by omega) e7 (by omega) h51
    rw [e4.1, e6] at q0
    by_cases hlt : z < 384
    · have hne : ¬ z = 384 := by omega
      have hk11 : ¬ I0 y 55 0 = nI 11 := by rw [hkd]; decide
      have hiso : gX11_isOf n (nI k) (nI 2) (nI 1) (-4 : Int32) J1 = some (nI 1, J1) := by
        simp only [gX11_isOf, bX11_isOf_0, bX11_isOf_27, bX11_isOf_39, (met_again (n := n) hC e3 (by omega) (Or.inr rfl) hpin e5).2, Option.bind_some, z_10, if_false, a_of hk, q0, if_true, ov_rn e3.2, z_00, z_011, z_gdt]
      have cc : gX9_writeWord n y I = cW n y 2 (nI 1) (nI z) (nI z) I1 := by
        simp (disch := omega) only [gX9_writeWord, bX9_writeWord_0, bX9_writeWord_27, bX9_writeWord_49, cW, tn_a h, ha, e1, Option.bind_some, z_10, if_false, tn_a e3, hkd, if_true, f1, z_lt, hlt, m1]
      have cr : gX11_tryAppend n (nI k) v J = (rW n (nI k) (nI z) v (nI 0) J1).bind (fun q3 => some (am_up q3 0 60 55 (nI z))) := by
        simp (disch := omega) only [gX11_tryAppend, bX11_tryAppend_0, m2, Option.bind_some, z_10, if_false, m3, z_eq, hne, gX11_tryWrite, bX11_tryWrite_0, hiso, rW, am_lt]
      rw [cc, cr]
      rcases w_core (c := 2) (v := v) (l2 := nI 1) (l4 := nI 0) (a := z) (z := z) hC hM e3 hk hH ha hb (Or.inr ⟨hk11, rfl⟩) (by rw [e4.1]; exact e6) (by rw [e4.1]; exact z3) z1 e7 hlt with ⟨v', I3, J3, X3, F3, g1, g2, g3, g4, g5⟩ | ⟨I3, J3, g1, g2, g3⟩
      · have hd := tn_done (v := nI z) g3 g4 (fun _ q => q.elim) (fun b => ⟨fun q => q.elim, fun q => absurd q List.not_mem_nil⟩) (fun _ _ b q => absurd q List.not_mem_nil) (fun L hL => (g5 L hL).lr)
        refine ⟨am_up (am_up I3 0 15 9 (nI 1)) 0 15 10 (nI z), am_up (am_up J3 0 60 55 v') 0 60 55 (nI z), ?_, ?_, Or.inr ?_⟩
        · rw [g1]
          simp only [bX9_writeWord_175, z_10, if_false, bX9_writeWord_187, c_fin, Option.bind_some]
        · rw [g2]
          simp only [bX11_tryWrite_83, am_lt, Option.bind_some]
        · have e : am_up (am_up J3 0 60 55 v') 0 60 55 (nI z) = am_up J3 0 60 55 (nI z) := by
            funext a b c
            rw [z_up, z_up, z_up]
            by_cases q : a = 0 ∧ b = 60 ∧ c = 55
            · rw [if_pos q, if_pos q]
            · rw [if_neg q, if_neg q, if_neg q]
          rw [e]
          exact hd
      · exact ⟨I3, am_up J3 0 60 55 (nI z), g1, by rw [g2, Option.bind_some], Or.inl (en_55 g3)⟩
    · obtain rfl : z = 384 := by omega
      obtain ⟨I3, J3, g1, g2, g3⟩ := tn_fail (n := n) (f := (-7 : Int32)) e3 (by decide)
      refine ⟨I3, J3, ?_, ?_, Or.inl g3⟩
      · simp (disch := omega) only [gX9_writeWord, bX9_writeWord_0, bX9_writeWord_27, bX9_writeWord_49, tn_a h, ha, e1, Option.bind_some, z_10, if_false, tn_a e3, hkd, if_true, f1, z_lt, (by decide : ¬ 384 < 384), g1]
      · simp (disch := omega) only [gX11_tryAppend, bX11_tryAppend_0, m2, Option.bind_some, z_10, if_false, m3, if_true, g2]
  · -- no file: its size isn't 384
    have hlt : z < 384 := by
      have v0 := tr_vw (L := L2) (i := 0) h.1 rfl (of_ib hk) (by omega) (by omega)
      have v2 := tr_vw (L := L2) (i := 2) h.1 rfl (of_ib hk) (by omega) (by omega)
      obtain ⟨q, -⟩ := tr_K h.1 hk (by omega : 0 < Hd k)
      rcases q with q | q | q
      · have := (tr_wf (L := L2) h.1 rfl).2.1 k hk (by rw [← v0]; exact q) 2 (by omega)
        rw [← v2, z3] at this
        have := w_nI (by omega) (by decide) this
        omega
      · exact absurd q e6
      · have := hSB k hk (by rw [← v0]; exact q)
        rw [← v2, z3, nI_clamp (by omega)] at this
        omega
    refine ⟨I3, J3, ?_, ?_, Or.inl m3⟩
    · simp (disch := omega) only [gX9_writeWord, bX9_writeWord_0, bX9_writeWord_27, bX9_writeWord_49, tn_a h, ha, e1, Option.bind_some, z_10, if_false, tn_a e3, hkd, if_true, f1, z_lt, hlt, m1, z_00]
    · simp only [gX11_tryAppend, bX11_tryAppend_0, m2, Option.bind_some, z_00, if_true]
  · refine ⟨I1, J1, ?_, ?_, Or.inl e3⟩
    · simp only [gX9_writeWord, bX9_writeWord_0, tn_a h, ha, e1, Option.bind_some, z_00, if_true]
    · simp only [gX11_tryAppend, bX11_tryAppend_0, e2, Option.bind_some, z_00, if_true]
/-- two words of an entry -/
theorem tn_ent {d p b w : Nat} {v : Int32} {t : Nat} (hC : TC n y Hd I0 J0) (h : TN y Hd F0 I0 J0 X E F gn gp pd I J) (hE : ∀ b, ¬ E b) (hd : d < 128) (hH : Hd d = 2) (ho : w_own (vw y J) d p b) (hp : p < 24) (hib : tH y J (w_ib d)) (hix : 8 ≤ p → p < 24 → tH y J (vw y J (w_ib d) 11).toNatClampNeg) (hw : w % 2 = 0) (ht : t < 128) (hbX : b ∈ X) (hX : X.length ≤ 18) (hin : ∀ k, ¬ b = w_ib k ∨ ¬ k < 128) : ∃ Ia Ja I' J', gX9_set n (nI b) (nI (w % 16)) v I = some Ia ∧ gX9_set n (nI b) (nI (w % 16 + 1)) (nI t) Ia = some I' ∧ gX11_set n (nI b) (nI (w % 16)) v J = some Ja ∧ gX11_set n (nI b) (nI (w % 16 + 1)) (nI t) Ja = some J' ∧ TN y Hd F0 I0 J0 X E (fun L => w_up2 (F L) b w v (nI t)) gn gp pd I' J' ∧ (∀ c i, ¬ c = b → vw y J' c i = vw y J c i) ∧ (∀ c, tH y J c → tH y J' c) ∧ (∀ k, ¬ k = 5 → Ia 0 15 k = I 0 15 k) ∧ (∀ k, ¬ k = 5 → I' 0 15 k = I 0 15 k) ∧ (∀ k, ¬ k = 56 → J' 0 60 k = J 0 60 k) := by
  have hbD := ho.2.2.1
  have hdb : ¬ w_ib d = b := D_ib hbD hd
  obtain ⟨I1, J1, e1, e2, e3, e4, e5, e6, e7⟩ := tn_wset (i := w % 16) (v := v) hC h hE hH ho hp hib hix (fun _ q => by omega) (by omega) hbX hX
  have hv : ∀ c i, ¬ c = b → vw y J1 c i = vw y J c i := fun c i hc => by rw [e4, w_up_b _ _ _ _ hc]
  have ho1 : w_own (vw y J1) d p b := by
    refine ⟨hd, ho.2.1, hbD, ?_⟩
    have := ho.2.2.2
    unfold w_pl at this ⊢
    rw [hv _ _ hdb, hv _ _ hdb]
    by_cases h8 : p < 8
    · rw [if_pos h8] at this ⊢; exact this
    · rw [if_neg h8, if_neg (by omega)] at this ⊢
      by_cases h0 : vw y J (w_ib d) 11 = nI 0
      · rw [if_pos h0] at this; exact absurd this.symm (w_D0 hbD)
      · rw [if_neg h0] at this ⊢
        rcases tr_ix (p := 0) (b := 0) h.1 hd (by omega : 0 < Hd d) with q | ⟨x, x1, x2, x3⟩
        · exact absurd q h0
        · rw [x1, nI_clamp (w_Dlt x2)] at this ⊢
          rw [hv _ _ (fun e => by have := (tr_B h.1 (by omega : 0 < Hd d) (by omega : 0 < Hd d) (e ▸ x3) ho).2; omega)]
          exact this
  obtain ⟨I2, J2, f1, f2, f3, f4, f5, f6, f7⟩ := tn_wset (i := w % 16 + 1) (v := nI t) hC e3 hE hH ho1 hp ((e5 _).mpr (Or.inl hib)) (by rw [hv _ _ hdb]; exact fun q1 q2 => (e5 _).mpr (Or.inl (hix q1 q2))) (fun _ _ => ⟨t, ht, rfl⟩) (by omega) hbX hX
  exact ⟨I1, J1, I2, J2, e1, f1, e2, f2, f3, fun c i hc => by rw [f4, w_up_b _ _ _ _ hc, hv c i hc], fun c q => (f5 c).mpr (Or.inl ((e5 c).mpr (Or.inl q))), e6, fun k q => (f6 k q).trans (e6 k q), fun k q => (f7 k q).trans (e7 k q)⟩
end ENT
