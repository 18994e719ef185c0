section GIX
variable {n y : Nat} {Hd : Nat → Int} {F0 F F' : (Nat → Nat) → wS} {I0 J0 I J : am_I} {X : List Nat} {E : Nat → Prop} {gn : List Nat} {gp gp' pd pd' : Nat → Prop}
theorem gp_first {b i e : Nat} {I1 : am_I} {v : Int32} (fu : Nat) (hie : ¬ e ≤ i) (he : e < 100) (hi : i < 100) (g1 : gX9_read n (nI b) (nI i) I = some (v, I1)) (q : gX9_read n (nI b) (nI i) I1 = some (v, I1)) : bX9_givePlacesBack_3 n (fu + 1) (nI b) (nI e) (nI i) I = bX9_givePlacesBack_3 n (fu + 1) (nI b) (nI e) (nI i) I1 := by
  conv => lhs; unfold bX9_givePlacesBack_3
  conv => rhs; unfold bX9_givePlacesBack_3
  simp (disch := omega) only [z_le, hie, if_false, g1, q]
theorem g50_first {x t : Nat} {J1 : am_I} {v : Int32} (fu : Nat) (hx : ¬ nI x = (0 : Int32)) (h : rn I J) (h1 : rn I J1) (g1 : gX11_get n (nI x) (nI 0) J = some (v, J1)) (q : gX11_get n (nI x) (nI 0) J1 = some (v, J1)) : bX11_giveAll_50 n (fu + 1) (nI t) (nI x) (nI 0) J = bX11_giveAll_50 n (fu + 1) (nI t) (nI x) (nI 0) J1 := by
  conv => lhs; unfold bX11_giveAll_50
  conv => rhs; unfold bX11_giveAll_50
  simp (disch := omega) only [z_le, (by decide : ¬ 16 ≤ 0), if_false, hx, ov_rn h, ov_rn h1, Option.bind_some, z_00, if_true, g1, q]
theorem ga_ix {t x : Nat} (hC : TC n y Hd I0 J0) (hM : ∀ r, r < 136 → Hd r ≤ 2) (ht : t < 128) (hH : Hd t = 2) (hX : X.length ≤ 20) (hxX : x ∈ X) (hxD : w_D x) (hE : ∀ c, E c ↔ (c = w_ib t ∨ c = x)) :
    ∀ (m q fu fur : Nat) (gn : List Nat) (F : (Nat → Nat) → wS) (I J : am_I), q + m = 16 → m < fu → m < fur → TN y Hd F0 I0 J0 X E F gn (fun c => c ∈ gn) (fun _ => False) I J → w_own (vw y J) t 24 x → GB y t 0 (8 + q) gn J → tH y J x → (∀ j, j < 16 → q ≤ j → c_v y I x j = vw y J x j) →
    (∃ gn' F' I' J', bX9_givePlacesBack_3 n fu (nI x) (nI 16) (nI q) I = some (nI 1, I') ∧ bX11_giveAll_50 n fur (nI t) (nI x) (nI q) J = bX11_giveAll_92 n (nI t) (nI x) J' ∧ TN y Hd F0 I0 J0 X E F' gn' (fun c => c ∈ gn') (fun _ => False) I' J' ∧ GB y t 0 24 gn' J' ∧ w_own (vw y J') t 24 x ∧ (∀ c i, (∀ g, ¬ c = w_mp g) → vw y J' c i = vw y J c i) ∧ (∀ c, tH y J c → tH y J' c) ∧ (∀ k, ¬ (k = 5 ∨ k = 7) → I' 0 15 k = I 0 15 k) ∧ (∀ k, ¬ (k = 56 ∨ k = 61) → J' 0 60 k = J 0 60 k) ∧ ∀ L c i, (∀ g, ¬ c = w_mp g) → F' L c i = F L c i)
    ∨ (∃ I' J', bX9_givePlacesBack_3 n fu (nI x) (nI 16) (nI q) I = some (nI 0, I') ∧ bX11_giveAll_50 n fur (nI t) (nI x) (nI q) J = some J' ∧ (∀ c, tH y J c → tH y J' c) ∧ EN y Hd F0 I0 J0 I' J') := by
  have hn4 := hC.2.1
  have hyn := hC.1
  have hxm : ∀ g, ¬ x = w_mp g := fun g e => w_mp_D g (e ▸ hxD)
  have hEm : ∀ g, ¬ E (w_mp g) := fun g q => ((hE _).mp q).elim (fun e => w_ib_mp ht e.symm) (fun e => hxm g e.symm)
  have hx0 : ¬ nI x = (0 : Int32) := w_D0 hxD
  intro m
  induction m with
  | zero =>
    intro q fu fur gn F I J hq hf hfr h ho hG hib hcv
    obtain ⟨fu, rfl⟩ : ∃ f, fu = f + 1 := ⟨fu - 1, by omega⟩
    obtain ⟨fur, rfl⟩ : ∃ f, fur = f + 1 := ⟨fur - 1, by omega⟩
    obtain rfl : q = 16 := by omega
    refine Or.inl ⟨gn, F, I, J, ?_, ?_, h, hG, ho, fun _ _ _ => rfl, fun _ q => q, fun _ _ => rfl, fun _ _ => rfl, fun _ _ _ _ => rfl⟩
    · conv => lhs; unfold bX9_givePlacesBack_3
      simp (disch := omega) only [z_le, Nat.le_refl, if_true]
    · conv => lhs; unfold bX11_giveAll_50
      simp (disch := omega) only [z_le, Nat.le_refl, if_true]
  | succ m ih =>
    intro q fu fur gn F I J hq hf hfr h ho hG hib hcv
    obtain ⟨fu, rfl⟩ : ∃ f, fu = f + 1 := ⟨fu - 1, by omega⟩
    obtain ⟨fur, rfl⟩ : ∃ f, fur = f + 1 := ⟨fur - 1, by omega⟩
    have hle : ¬ 16 ≤ q := by omega
    have q1 := c_readv (n := n) (i := q) hC h hib (by omega)
    rw [hcv q (by omega) (Nat.le_refl _)] at q1
    have q2 := r_getc (n := n) (i := q) (by omega) hib (by omega) (tn_c h).2
    have hpl : w_pl (vw y J) t (8 + q) = vw y J x q := by
      have h11 : vw y J (w_ib t) 11 = nI x := ho.2.2.2
      unfold w_pl
      rw [if_neg (by omega), if_neg (by omega), h11, if_neg (w_D0 hxD), nI_clamp (w_Dlt hxD), show 8 + q - 8 = q from by omega]
    rcases tr_P (p := 8 + q) h.1 ht (by omega) (by omega) with h0 | ⟨b, b1, b2⟩
    · rw [← hpl, h0] at q1 q2
      have cI : bX9_givePlacesBack_3 n (fu + 1) (nI x) (nI 16) (nI q) I = bX9_givePlacesBack_3 n fu (nI x) (nI 16) (nI (q + 1)) I := by
        conv => lhs; unfold bX9_givePlacesBack_3
        simp (disch := omega) only [z_le, hle, if_false, q1, Option.bind_some, z_00, if_true, bX9_givePlacesBack_42, nI_add]
      have cJ : bX11_giveAll_50 n (fur + 1) (nI t) (nI x) (nI q) J = bX11_giveAll_50 n fur (nI t) (nI x) (nI (q + 1)) J := by
        conv => lhs; unfold bX11_giveAll_50
        simp (disch := omega) only [z_le, hle, if_false, hx0, ov_rn h.2, Option.bind_some, z_00, if_true, q2, bX11_giveAll_86, nI_add]
      rw [cI, cJ]
      exact ih (q + 1) fu fur gn F I J (by omega) (by omega) (by omega) h ho (gb_none hG h0) hib (fun j hj hjq => hcv j hj (by omega))
    · rw [← hpl, b1] at q1 q2
      have hb0 : ¬ nI b = (0 : Int32) := w_D0 b2
      have cJ : bX11_giveAll_50 n (fur + 1) (nI t) (nI x) (nI q) J = (gX11_giveBack n (nI b) J).bind (fun q4 => bX11_giveAll_50 n fur (nI t) (nI x) (nI (q + 1)) q4) := by
        conv => lhs; unfold bX11_giveAll_50
        simp (disch := omega) only [z_le, hle, if_false, hx0, ov_rn h.2, Option.bind_some, z_00, if_true, q2, hb0, bX11_giveAll_86, nI_add]
      have cI : bX9_givePlacesBack_3 n (fu + 1) (nI x) (nI 16) (nI q) I = (gX9_giveBack n (nI b) I).bind (fun q2 => if q2.1 = 0 then (some (nI 0, q2.2)) else ((gX9_set n (nI x) (nI q) (nI 0) q2.2).bind (fun q3 => bX9_givePlacesBack_3 n fu (nI x) (nI 16) (nI (q + 1)) q3))) := by
        conv => lhs; unfold bX9_givePlacesBack_3
        simp (disch := omega) only [z_le, hle, if_false, q1, Option.bind_some, hb0, bX9_givePlacesBack_42, nI_add]
      rw [cI, cJ]
      rcases gb_step (n := n) hC hM h hEm ht hH hX (by omega) hG ⟨ht, by omega, b2, b1⟩ with ⟨I1, J1, F1, g1, g2, g3, g4, g5, g6, g7, g8, g9, g10⟩ | ⟨I1, J1, g1, g2, g3⟩
      · obtain ⟨I2, s1, s2, s3, s4⟩ := tn_cset (n := n) (i := q) (v := nI 0) hC g3 (g6 _ hib) (by omega) ((hE _).mpr (Or.inr rfl)) hxX hX
        have hcv2 : ∀ j, j < 16 → q + 1 ≤ j → c_v y I2 x j = vw y J1 x j := fun j hj hjq => by
          rw [s3 _ j (w_D_lt hxD) hj, w_up_i _ _ _ (by omega), g7 _ j (w_D_lt hxD) hj hxm, g5 _ _ hxm]
          exact hcv j hj (by omega)
        have ho1 : w_own (vw y J1) t 24 x := ⟨ht, by omega, hxD, by
          show vw y J1 (w_ib t) 11 = nI x
          rw [g5 _ _ (ib_nmp ht)]
          exact ho.2.2.2⟩
        rw [g1, g2, Option.bind_some, Option.bind_some]
        show _ ∨ _
        simp only [z_10, if_false, s1, Option.bind_some]
        rcases ih (q + 1) fu fur (gn ++ [b]) F1 I2 J1 (by omega) (by omega) (by omega) s2 ho1 g4 (g6 _ hib) hcv2 with ⟨gn', F', I', J', r1, r2, r3, r4, r5, r6, r7, r8, r9, r10⟩ | ⟨I', J', r1, r2, r3, r4⟩
        · exact Or.inl ⟨gn', F', I', J', r1, r2, r3, r4, r5, fun c i hc => by rw [r6 c i hc, g5 c i hc], fun c q => r7 c (g6 c q), fun k hk => by rw [r8 k hk, s4 k (by omega), g8 k hk], fun k hk => by rw [r9 k hk, g9 k hk], fun L c i hc => (r10 L c i hc).trans (g10 L c i hc)⟩
        · exact Or.inr ⟨I', J', r1, r2, fun c q => r3 c (g6 c q), r4⟩
      · rw [g1, g2.1, Option.bind_some, Option.bind_some]
        refine Or.inr ⟨I1, J1, if_pos rfl, ?_, g2.2, g3⟩
        obtain ⟨fur, rfl⟩ : ∃ f, fur = f + 1 := ⟨fur - 1, by omega⟩
        exact ga_over50 ht (by omega) g3
end GIX
