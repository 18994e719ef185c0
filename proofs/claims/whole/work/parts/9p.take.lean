section TAKE
variable {n y : Nat} {Hd : Nat → Int} {F0 F F' : (Nat → Nat) → wS} {I0 J0 I J : am_I} {X : List Nat} {E : Nat → Prop} {gn : List Nat} {gp gp' pd pd' : Nat → Prop}
theorem ct_first {k2 : Int32 → Int32 → am_I → Option (Int32 × am_I)} {l1 l2 l4 v : Int32} {I1 : am_I} (fu : Nat) (g1 : gX9_read n l4 (nI 1) I = some (v, I1)) (q : gX9_read n l4 (nI 1) I1 = some (v, I1)) : bX9_takeBlock_38 n k2 (fu + 1) l1 l2 l4 (nI 1) I = bX9_takeBlock_38 n k2 (fu + 1) l1 l2 l4 (nI 1) I1 := by
  conv => lhs; unfold bX9_takeBlock_38
  conv => rhs; unfold bX9_takeBlock_38
  simp (disch := omega) only [z_lt, (by decide : ¬ 2 < 1), if_false, g1, q]
theorem rt_first {k2 : Int32 → Int32 → am_I → Option (Int32 × am_I)} {l1 l2 v : Int32} {g : Nat} {J1 : am_I} (fu : Nat) (g1 : gX11_get n (nI (w_mp g)) (nI 1) J = some (v, J1)) (q : gX11_get n (nI (w_mp g)) (nI 1) J1 = some (v, J1)) : bX11_takeBlock_43 n k2 (fu + 1) l1 l2 (nI g) (nI 0) J = bX11_takeBlock_43 n k2 (fu + 1) l1 l2 (nI g) (nI 0) J1 := by
  conv => lhs; unfold bX11_takeBlock_43
  conv => rhs; unfold bX11_takeBlock_43
  simp (disch := omega) only [z_le, (by decide : ¬ 47 ≤ 0), if_false, a_mp, Option.bind_some, pk_div, nI_add, (by decide : 1 + 0 / 32 = 1), g1, q]
theorem tk_lp {k : Nat} (hC : TC n y Hd I0 J0) (hM : ∀ r, r < 136 → Hd r ≤ 2) (hE : ∀ b, ¬ E b) (hgp : ∀ c, ¬ gp c) (hX : X.length ≤ 18) (hk : k < 128) : ∀ (m j fu fur : Nat) (I J : am_I), j + m = 8 → m < fu → m < fur → TN y Hd F0 I0 J0 X E F gn gp pd I J →
    (∃ b F' I' J', w_D b ∧ bX9_takeBlock_2 n fu (nI (k / 16)) (nI j) I = some (nI b, I') ∧ bX11_takeBlock_2 n fur (nI k) (nI j) J = some (nI b, J') ∧ TN y Hd F0 I0 J0 (b :: X) E F' gn gp (fun c => pd c ∨ c = b) I' J' ∧ (∀ c i, ¬ c = b → (∀ g, ¬ c = w_mp g) → vw y J' c i = vw y J c i) ∧ (∀ c, tH y J c → tH y J' c) ∧ tH y J' b ∧ (∀ k, ¬ k = 5 → I' 0 15 k = I 0 15 k) ∧ (∀ k, ¬ k = 56 → J' 0 60 k = J 0 60 k) ∧ ∀ L c i, ¬ c = b → (∀ g, ¬ c = w_mp g) → F' L c i = F L c i)
    ∨ (∃ I' J', bX9_takeBlock_2 n fu (nI (k / 16)) (nI j) I = some (nI 0, I') ∧ (bX11_takeBlock_2 n fur (nI k) (nI j) J = some (nI 0, J') ∧ ∀ c, tH y J c → tH y J' c) ∧ EN y Hd F0 I0 J0 I' J') := by
  have hn4 := hC.2.1
  have hyn := hC.1
  obtain ⟨f, hf, hfb⟩ := fu_ex
  intro m
  induction m with
  | zero =>
    intro j fu fur I J hj hfu hfur h
    obtain ⟨fu, rfl⟩ : ∃ f, fu = f + 1 := ⟨fu - 1, by omega⟩
    obtain ⟨fur, rfl⟩ : ∃ f, fur = f + 1 := ⟨fur - 1, by omega⟩
    have hle : 8 ≤ j := by omega
    obtain ⟨I3, J3, g1, g2, g3⟩ := tn_fail (n := n) (f := (-7 : Int32)) h (by decide)
    refine Or.inr ⟨I3, J3, ?_, ⟨?_, g2.2⟩, g3⟩
    · rw [bX9_takeBlock_2]
      simp (disch := omega) only [z_le, hle, if_true, g1, Option.bind_some]
    · rw [bX11_takeBlock_2]
      simp (disch := omega) only [z_le, hle, if_true, bX11_takeBlock_134, g2, Option.bind_some]
  | succ m ih =>
    intro j fu fur I J hj hfu hfur h
    obtain ⟨fu, rfl⟩ : ∃ f, fu = f + 1 := ⟨fu - 1, by omega⟩
    obtain ⟨fur, rfl⟩ : ∃ f, fur = f + 1 := ⟨fur - 1, by omega⟩
    have hle : ¬ 8 ≤ j := by omega
    have hg : (k / 16 + j) % 8 < 8 := by omega
    have hgm : k / 16 + j - (k / 16 + j) / 8 * 8 = (k / 16 + j) % 8 := by omega
    generalize (k / 16 + j) % 8 = g at hg hgm
    have cI : bX9_takeBlock_2 n (fu + 1) (nI (k / 16)) (nI j) I = (gX9_meet n (nI (128 + g)) (nI 2) I).bind (fun q3 => if q3.1 = 0 then some (nI 0, q3.2) else bX9_takeBlock_38 n (bX9_takeBlock_2 n fu) am_fu (nI (k / 16)) (nI j) (nI (w_mp g)) (nI 1) q3.2) := by
      rw [bX9_takeBlock_2]
      simp (disch := omega) only [z_le, hle, if_false, gX10_mapResource, bX10_mapResource_0, nI_add, pk_div, pk_mul, pk_sub, hgm, Option.bind_some, c_mp]
    have cJ : bX11_takeBlock_2 n (fur + 1) (nI k) (nI j) J = (gX11_meets n (nI (128 + g)) (nI 2) J).bind (fun q2 => if q2.1 = 0 then some (nI 0, q2.2) else bX11_takeBlock_43 n (bX11_takeBlock_2 n fur) am_fu (nI k) (nI j) (nI g) (nI 0) q2.2) := by
      rw [bX11_takeBlock_2]
      simp (disch := omega) only [z_le, hle, if_false, ov_rn h.2, Option.bind_some, z_00, if_true, nI_add, pk_div, pk_mul, pk_sub, hgm]
    rw [cI, cJ]
    rcases tn_meet (r := 128 + g) (m := 2) hC h (by omega) (Or.inr rfl) with ⟨hH, e1, e2⟩ | ⟨I1, J1, e1, e2, e3⟩
    · rw [e1, e2, Option.bind_some, Option.bind_some]
      show (∃ b F' I' J', w_D b ∧ (if nI 1 = (0 : Int32) then _ else _) = _ ∧ (if nI 1 = (0 : Int32) then _ else _) = _ ∧ _) ∨ (∃ I' J', (if nI 1 = (0 : Int32) then _ else _) = _ ∧ ((if nI 1 = (0 : Int32) then _ else _) = _ ∧ _) ∧ _)
      simp only [z_10, if_false]
      obtain ⟨I1, J1, f1, f2, f3, f4, f5⟩ := tn_rdv (i := 1) hC h (w_mp_lt hg) (by decide) (hE _) (Or.inr (Or.inr (Or.inl ⟨g, hg, rfl, by omega⟩)))
      have q1 := c_readc (n := n) (i := 1) hC f3 f5 (hE _) (by omega)
      have q2 := r_getc (n := n) (i := 1) (by omega) f5 (by omega) (tn_c f3).2
      rw [f4.1] at q1 q2
      obtain ⟨f3', hf3⟩ : ∃ f', f + 1 = f' + 3 := ⟨f - 2, by omega⟩
      have dI := ct_first (k2 := bX9_takeBlock_2 n fu) (l1 := nI (k / 16)) (l2 := nI j) f f1 q1
      have dJ := rt_first (k2 := bX11_takeBlock_2 n fur) (l1 := nI k) (l2 := nI j) f f2 q2
      rw [← hf] at dI dJ
      rw [dI, dJ]
      have cs := ct_scan (k2 := bX9_takeBlock_2 n fu) (a := k / 16) (j := j) (g := g) (fu := f3') hC f3 hE hg f5 (by omega)
      rw [← hf3, ← hf] at cs
      have rs := rt_scan (n := n) (k2 := bX11_takeBlock_2 n fur) (k := k) (j := j) (by omega) (tn_c f3).2 hg f5 hk (by omega) 47 0 am_fu (by omega) (fu_lt (by omega))
      rcases least (fun i => !vb (vw y J1) g i) 47 with ⟨t, t1, t2, t3⟩ | t0
      · have t2' : vb (vw y J1) g t = false := by simpa using t2
        have t3' : ∀ i, i < t → vb (vw y J1) g i = true := fun i hi => by simpa using t3 i hi
        obtain ⟨I2, J2, s1, s2, s3, s4, s5, s6, s7, s8⟩ := tn_takeg hC f3 hE hgp hX hg (by omega) (hM _ (by omega)) f5 t1 t2'
        refine Or.inl ⟨145 + 64 * g + t, _, I2, J2, by unfold w_D; omega, (cs.1 t t1 t2' t3').trans s1, (rs.1 t t1 (Nat.zero_le _) t2' (fun i _ hi => t3' i hi)).trans s2, s3, fun c i a b => by rw [s4 c i a b, f4.1], fun c q => s5 c (f4.2.1 c q), s6, fun k q => by rw [s7 k q, f4.2.2.1], fun k q => by rw [s8 k q, f4.2.2.2], fun L c i h1 h2 => (if_neg h1).trans (w_up_b _ _ _ _ (h2 g))⟩
      · have t0' : ∀ i, i < 47 → vb (vw y J1) g i = true := fun i hi => by simpa using t0 i hi
        rw [cs.2 t0', rs.2 (fun i _ hi => t0' i hi)]
        rcases ih (j + 1) fu fur I1 J1 (by omega) (by omega) (by omega) f3 with ⟨b, F', I', J', r0, r1, r2, r3, r4, r5, r6, r7, r8, r9⟩ | r
        · exact Or.inl ⟨b, F', I', J', r0, r1, r2, r3, fun c i a b => by rw [r4 c i a b, f4.1], fun c q => r5 c (f4.2.1 c q), r6, fun k q => by rw [r7 k q, f4.2.2.1], fun k q => by rw [r8 k q, f4.2.2.2], r9⟩
        · obtain ⟨I', J', r1, r2, r3⟩ := r
          exact Or.inr ⟨I', J', r1, ⟨r2.1, fun c q => r2.2 c (f4.2.1 c q)⟩, r3⟩
    · rw [e1, e2.1, Option.bind_some, Option.bind_some]
      exact Or.inr ⟨I1, J1, if_pos rfl, ⟨if_pos rfl, e2.2⟩, e3⟩
theorem tn_take {k : Nat} (hC : TC n y Hd I0 J0) (hM : ∀ r, r < 136 → Hd r ≤ 2) (h : TN y Hd F0 I0 J0 X E F gn gp pd I J) (hE : ∀ b, ¬ E b) (hgp : ∀ c, ¬ gp c) (hX : X.length ≤ 18) (hk : k < 128) :
    (∃ b F' I' J', w_D b ∧ gX9_takeBlock n (nI (k / 16)) I = some (nI b, I') ∧ gX11_takeBlock n (nI k) J = some (nI b, J') ∧ TN y Hd F0 I0 J0 (b :: X) E F' gn gp (fun c => pd c ∨ c = b) I' J' ∧ (∀ c i, ¬ c = b → (∀ g, ¬ c = w_mp g) → vw y J' c i = vw y J c i) ∧ (∀ c, tH y J c → tH y J' c) ∧ tH y J' b ∧ (∀ k, ¬ k = 5 → I' 0 15 k = I 0 15 k) ∧ (∀ k, ¬ k = 56 → J' 0 60 k = J 0 60 k) ∧ ∀ L c i, ¬ c = b → (∀ g, ¬ c = w_mp g) → F' L c i = F L c i)
    ∨ (∃ I' J', gX9_takeBlock n (nI (k / 16)) I = some (nI 0, I') ∧ (gX11_takeBlock n (nI k) J = some (nI 0, J') ∧ ∀ c, tH y J c → tH y J' c) ∧ EN y Hd F0 I0 J0 I' J') := by
  rw [gX9_takeBlock, bX9_takeBlock_0, gX11_takeBlock, bX11_takeBlock_0]
  exact tk_lp hC hM hE hgp hX hk 8 0 am_fu am_fu I J (by omega) (fu_lt (by omega)) (fu_lt (by omega)) h
end TAKE
