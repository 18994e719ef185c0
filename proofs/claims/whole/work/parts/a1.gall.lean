section GALL
variable {n y : Nat} {Hd : Nat → Int} {F0 F F' : (Nat → Nat) → wS} {I0 J0 I J : am_I} {X : List Nat} {E : Nat → Prop} {gn : List Nat} {gp gp' pd pd' : Nat → Prop}
theorem tn_gp (h : TN y Hd F0 I0 J0 X E F gn gp pd I J) (hp : ∀ c, gp' c ↔ gp c) : TN y Hd F0 I0 J0 X E F gn gp' pd I J := by
  obtain rfl : gp' = gp := funext fun c => propext (hp c)
  exact h
def GAL (y : Nat) (Hd : Nat → Int) (F0 : (Nat → Nat) → wS) (I0 J0 : am_I) (X : List Nat) (t : Nat) (F : (Nat → Nat) → wS) (I J : am_I) (c r : Option am_I) : Prop :=
  (∃ gn X' E' F' I' J', c = some I' ∧ r = some J' ∧ TN y Hd F0 I0 J0 X' E' F' gn (fun c => c ∈ gn) (fun _ => False) I' J' ∧ X'.length ≤ X.length + 2 ∧ (∀ c, E' c → c ∈ gn) ∧ (∀ L, L y = 2 → ∀ b, b ∈ gn → ∀ k p, ¬ w_own (F' L) k p b) ∧ (∀ k, ¬ (k = 5 ∨ k = 7) → I' 0 15 k = I 0 15 k) ∧ (∀ k, ¬ (k = 56 ∨ k = 61) → J' 0 60 k = J 0 60 k) ∧ (∀ L c i, ¬ c = w_ib t → (∀ g, ¬ c = w_mp g) → F' L c i = F L c i) ∧ ∀ L i, F' L (w_ib t) i = nI 0)
  ∨ (∃ I' J', c = some I' ∧ r = some J' ∧ EN y Hd F0 I0 J0 I' J')
theorem tn_gall {t : Nat} (hC : TC n y Hd I0 J0) (hM : ∀ r, r < 136 → Hd r ≤ 2) (h : TN y Hd F0 I0 J0 X (fun _ => False) F [] (fun _ => False) (fun _ => False) I J) (hX : X.length ≤ 5) (ht : t < 128) (hH : Hd t = 2) (hib : tH y J (w_ib t)) : GAL y Hd F0 I0 J0 X t F I J (gX9_giveInodeBack n (nI t) I) (gX11_giveAll n (nI t) J) := by
  have hn4 := hC.2.1
  have hyn := hC.1
  obtain ⟨f, hf, hfb⟩ := fu_ex
  have h1 : TN y Hd F0 I0 J0 (w_ib t :: X) (fun c => c = w_ib t) F [] (fun c => c ∈ ([] : List Nat)) (fun _ => False) I J := tn_gp (tn_E (tn_X (w_ib t) h) (fun _ q => q.elim)) (fun c => ⟨fun q => absurd q List.not_mem_nil, fun q => q.elim⟩)
  have hl1 : (w_ib t :: X).length ≤ 20 := by simp only [List.length_cons]; omega
  have cJ : gX11_giveAll n (nI t) J = bX11_giveAll_2 n am_fu (nI t) (nI (3 + 0)) J := by rw [gX11_giveAll, bX11_giveAll_0]
  have cI : gX9_giveInodeBack n (nI t) I = (bX9_givePlacesBack_3 n am_fu (nI (w_ib t)) (nI 11) (nI (3 + 0)) I).bind (fun q2 => if q2.1 = 0 then (some q2.2) else ((gX9_read n (nI (w_ib t)) (nI 11) q2.2).bind (fun q3 => if q3.1 = 0 then (bX9_giveInodeBack_49 n (nI t) (nI (w_ib t)) q3.2) else ((gX9_givePlacesBack n q3.1 (nI 0) (nI 16) q3.2).bind (fun q4 => if q4.1 = 0 then (bX9_giveInodeBack_48 n q4.2) else ((gX9_giveBack n q3.1 q4.2).bind (fun q5 => if q5.1 = 0 then (bX9_giveInodeBack_48 n q5.2) else (bX9_giveInodeBack_49 n (nI t) (nI (w_ib t)) q5.2)))))))) := by
    rw [gX9_giveInodeBack, bX9_giveInodeBack_0, c_ib n t I ht, Option.bind_some]
    rfl
  rw [cI, cJ]
  rcases ga_dir (n := n) (X := w_ib t :: X) (E := fun c => c = w_ib t) hC hM ht hH hl1 List.mem_cons_self (fun _ => Iff.rfl) 8 0 am_fu am_fu [] F I J (by omega) (fu_lt (by omega)) (fu_lt (by omega)) h1 ⟨Nat.le_refl _, fun c hc => absurd hc List.not_mem_nil, fun p c _ hp => absurd hp (by omega)⟩ hib (fun j hj _ => tn_cv h (w_ib_lt ht) hj (fun q => q)) with ⟨gn1, F1, I1, J1, r1, r2, r3, r4, r5, r6, r7, r8, r9, r10⟩ | ⟨I1, J1, r1, r2, r3, r4⟩
  · have hib1 := r6 _ hib
    have q1 := c_readv (n := n) (i := 11) hC r3 hib1 (by omega)
    rw [r7] at q1
    have q2 := r_getc (n := n) (i := 11) (by omega) hib1 (by omega) (tn_c r3).2
    rw [r1, r2, Option.bind_some]
    show GAL y Hd F0 I0 J0 X t F I J (if nI 1 = (0 : Int32) then _ else _) _
    rw [if_neg (by decide), q1, Option.bind_some, bX11_giveAll_40, a_of ht, q2, Option.bind_some]
    rcases tr_ix (p := 0) (b := 0) r3.1 ht (by omega) with h0 | ⟨x, x1, x2, x3⟩
    · show GAL y Hd F0 I0 J0 X t F I J (if vw y J1 (w_ib t) 11 = (0 : Int32) then _ else _) (bX11_giveAll_50 n am_fu (nI t) (vw y J1 (w_ib t) 11) (nI 0) J1)
      have h00 : vw y J1 (w_ib t) 11 = (0 : Int32) := h0
      have c50 : bX11_giveAll_50 n am_fu (nI t) (vw y J1 (w_ib t) 11) (nI 0) J1 = bX11_giveAll_108 n (nI t) J1 := by
        rw [hf, h0]
        conv => lhs; unfold bX11_giveAll_50
        simp (disch := omega) only [z_le, (by decide : ¬ 16 ≤ 0), if_false, z_00, if_true, bX11_giveAll_92]
      rw [if_pos h00, c50]
      have hzero : ∀ p b, 8 ≤ p → ¬ w_own (vw y J1) t p b := fun p b hp ho => by
        have q := ho.2.2.2
        unfold w_pl at q
        rw [if_neg (by omega)] at q
        by_cases e : p = 24
        · rw [if_pos e, h0] at q; exact w_D0 ho.2.2.1 q.symm
        · rw [if_neg e, if_pos h0] at q; exact w_D0 ho.2.2.1 q.symm
      rcases tn_fin (n := n) (x := w_ib t) hC hM r3 (fun c q => Or.inl q) (Or.inr rfl) ht hH (by simp only [List.length_cons]; omega) List.mem_cons_self hib1 (fun p b ho => r4.2.2 p b (Nat.zero_le _) (Nat.lt_of_not_le (fun hp => hzero p b hp ho)) ho) (fun b hb => (r4.2.1 b hb).imp (fun p q => q.2)) with ⟨I2, J2, F2, s1, s2, s3, s4, s5, s6, s7, s8⟩ | ⟨I2, J2, s1, s2, s3⟩
      · exact Or.inl ⟨gn1, _, _, F2, I2, J2, s1, s2, s3, by simp only [List.length_cons]; omega, fun c q => absurd q.1 q.2, s4, fun k q => by rw [s5 k (by omega), r8 k q], fun k q => by rw [s6 k (by omega), r9 k q], fun L c i h1 h2 => (s7 L c i h1 h2).trans (r10 L c i h2), s8⟩
      · exact Or.inr ⟨I2, J2, s1, s2, s3⟩
    · have hx0 : ¬ nI x = (0 : Int32) := w_D0 x2
      show GAL y Hd F0 I0 J0 X t F I J (if vw y J1 (w_ib t) 11 = (0 : Int32) then _ else ((gX9_givePlacesBack n (vw y J1 (w_ib t) 11) (nI 0) (nI 16) I1).bind _)) (bX11_giveAll_50 n am_fu (nI t) (vw y J1 (w_ib t) 11) (nI 0) J1)
      rw [x1, if_neg hx0, gX9_givePlacesBack, bX9_givePlacesBack_0]
      have hxt : ¬ x = w_ib t := fun e => w_ib_D ht (e ▸ x2)
      obtain ⟨I2, J2, f1, f2, f3, f4, f5⟩ := tn_rdv (i := 0) hC r3 (w_D_lt x2) (by omega) hxt (tr_rdo (k := t) (p := 24) r3.1 (by omega) x3 hib1 (fun _ q => absurd q (by decide)))
      have g1 := c_readv (n := n) (i := 0) hC f3 f5 (by omega)
      have fc := cv_rd hC r3.1 (w_D_lt x2) (by omega) f1
      rw [tn_cv f3 (w_D_lt x2) (by omega) hxt, f4.1] at g1
      have g2 := r_getc (n := n) (i := 0) (by omega) f5 (by omega) (tn_c f3).2
      rw [f4.1] at g2
      have dI := gp_first (n := n) (b := x) (i := 0) (e := 16) f (by omega) (by omega) (by omega) f1 g1
      have dJ := g50_first (n := n) (I := I2) (t := t) f hx0 (by unfold rn; rw [f4.2.2.1]; exact r3.2) f3.2 f2 g2
      rw [← hf] at dI dJ
      rw [dI, dJ]
      have h2 : TN y Hd F0 I0 J0 (x :: w_ib t :: X) (fun c => c = w_ib t ∨ c = x) F1 gn1 (fun c => c ∈ gn1) (fun _ => False) I2 J2 := tn_E (tn_X x f3) (fun _ q => Or.inl q)
      have hl2 : (x :: w_ib t :: X).length ≤ 20 := by simp only [List.length_cons]; omega
      have how : ∀ p c, w_own (vw y J2) t p c ↔ w_own (vw y J1) t p c := fun p c => by rw [f4.1]
      rcases ga_ix (n := n) (X := x :: w_ib t :: X) (E := fun c => c = w_ib t ∨ c = x) hC hM ht hH hl2 List.mem_cons_self x2 (fun _ => Iff.rfl) 16 0 am_fu am_fu gn1 F1 I2 J2 (by omega) (fu_lt (by omega)) (fu_lt (by omega)) h2 ((how _ _).mpr x3) ⟨r4.1, fun c hc => (r4.2.1 c hc).imp (fun p q => ⟨q.1, (how p c).mpr q.2⟩), fun p c a b d => r4.2.2 p c a b ((how p c).mp d)⟩ f5 (fun j hj _ => tn_cv f3 (w_D_lt x2) hj hxt) with ⟨gn3, F3, I3, J3, s1, s2, s3, s4, s5, s6, s7, s8, s9, s10⟩ | ⟨I3, J3, s1, s2, s3, s4⟩
      · rw [s1, s2, Option.bind_some]
        show GAL y Hd F0 I0 J0 X t F I J (if nI 1 = (0 : Int32) then _ else ((gX9_giveBack n (nI x) I3).bind _)) _
        have c92 : bX11_giveAll_92 n (nI t) (nI x) J3 = (gX11_giveBack n (nI x) J3).bind (fun q2 => bX11_giveAll_108 n (nI t) q2) := by
          simp only [bX11_giveAll_92, hx0, if_false, ov_rn s3.2, Option.bind_some, z_00, if_true]
        rw [if_neg (by decide), c92]
        have hEm : ∀ g, ¬ (w_mp g = w_ib t ∨ w_mp g = x) := fun g q => q.elim (fun e => w_ib_mp ht e.symm) (fun e => w_mp_D g (e ▸ x2))
        rcases gb_step (n := n) hC hM s3 hEm ht hH hl2 (by omega) s4 s5 with ⟨I4, J4, F4, u1, u2, u3, u4, u5, u6, u7, u8, u9, u10⟩ | ⟨I4, J4, u1, u2, u3⟩
        · rw [u1, u2, Option.bind_some, Option.bind_some]
          show GAL y Hd F0 I0 J0 X t F I J (if nI 1 = (0 : Int32) then _ else _) _
          rw [if_neg (by decide)]
          have hib4 := u6 _ (s7 _ (f4.2.1 _ hib1))
          rcases tn_fin (n := n) (x := x) hC hM u3 (fun c q => q) (Or.inl x2) ht hH (by simp only [List.length_cons]; omega) (List.mem_cons_of_mem _ List.mem_cons_self) hib4 (fun p b ho => u4.2.2 p b (Nat.zero_le _) (by have := ho.2.1; omega) ho) (fun b hb => (u4.2.1 b hb).imp (fun p q => q.2)) with ⟨I5, J5, F5, v1, v2, v3, v4, v5, v6, v7, v8⟩ | ⟨I5, J5, v1, v2, v3⟩
          · refine Or.inl ⟨_, _, _, F5, I5, J5, v1, v2, v3, by simp only [List.length_cons]; omega, fun c q => ?_, v4, fun k q => ?_, fun k q => ?_, fun L c i h1 h2 => (v7 L c i h1 h2).trans ((u10 L c i h2).trans ((s10 L c i h2).trans (r10 L c i h2))), v8⟩
            · rw [q.1]
              exact List.mem_append.mpr (Or.inr (List.mem_singleton.mpr rfl))
            · rw [v5 k (by omega), u8 k q, s8 k q, f4.2.2.1, r8 k q]
            · rw [v6 k (by omega), u9 k q, s9 k q, f4.2.2.2, r9 k q]
          · exact Or.inr ⟨I5, J5, v1, v2, v3⟩
        · rw [u1, u2.1, Option.bind_some, Option.bind_some]
          exact Or.inr ⟨I4, J4, if_pos rfl, ga_over108 ht u3, u3⟩
      · rw [s1, s2, Option.bind_some]
        exact Or.inr ⟨I3, J3, if_pos rfl, rfl, s4⟩
  · rw [r1, r2, Option.bind_some]
    exact Or.inr ⟨I1, J1, if_pos rfl, ga_over40 (by omega) ht (r3 _ hib) r4, r4⟩
end GALL
