section GALL
variable {n y : Nat} {Hd : Nat → Int} {F0 F F' : (Nat → Nat) → wS} {I0 J0 I J : am_I} {X : List Nat} {E : Nat → Prop} {gn : List Nat} {gp gp' pd pd' : Nat → Prop}
theorem vw_pl {y k p : Nat} {J J' : am_I} (h1 : ∀ i, vw y J' (w_ib k) i = vw y J (w_ib k) i) (h2 : ∀ x i, w_own (vw y J) k 24 x → vw y J' x i = vw y J x i) (hp : vw y J (w_ib k) 11 = nI 0 ∨ ∃ x, vw y J (w_ib k) 11 = nI x ∧ w_D x ∧ w_own (vw y J) k 24 x) : w_pl (vw y J') k p = w_pl (vw y J) k p := by
  refine w_pl_cg h1 (fun i h0 => ?_)
  rcases hp with e | ⟨x, x1, x2, x3⟩
  · exact absurd e h0
  · rw [x1, nI_clamp (w_Dlt x2)]
    exact h2 x i x3
/-- what has been given back of an inode so far: places below m of the row -/
def GB (y t lo m : Nat) (gn : List Nat) (J : am_I) : Prop := gn.length ≤ m ∧ (∀ c, c ∈ gn → ∃ p, p < m ∧ w_own (vw y J) t p c) ∧ ∀ p c, lo ≤ p → p < m → w_own (vw y J) t p c → c ∈ gn
/-- giving one place back: both sides -/
theorem gb_step {t m b : Nat} (hC : TC n y Hd I0 J0) (hM : ∀ r, r < 136 → Hd r ≤ 2) (h : TN y Hd F0 I0 J0 X E F gn (fun c => c ∈ gn) (fun _ => False) I J) (hEm : ∀ g, ¬ E (w_mp g)) (ht : t < 128) (hH : Hd t = 2) (hX : X.length ≤ 20) (hm : m < 25) (hG : GB y t 0 m gn J) (ho : w_own (vw y J) t m b) :
    (∃ I' J' F', gX9_giveBack n (nI b) I = some (nI 1, I') ∧ gX11_giveBack n (nI b) J = some J' ∧ TN y Hd F0 I0 J0 X E F' (gn ++ [b]) (fun c => c ∈ gn ++ [b]) (fun _ => False) I' J' ∧ GB y t 0 (m + 1) (gn ++ [b]) J' ∧ (∀ c i, (∀ g, ¬ c = w_mp g) → vw y J' c i = vw y J c i) ∧ (∀ c, tH y J c → tH y J' c) ∧ (∀ c j, c < 640 → j < 16 → (∀ g, ¬ c = w_mp g) → c_v y I' c j = c_v y I c j) ∧ (∀ k, ¬ (k = 5 ∨ k = 7) → I' 0 15 k = I 0 15 k) ∧ (∀ k, ¬ (k = 56 ∨ k = 61) → J' 0 60 k = J 0 60 k) ∧ ∀ L c i, (∀ g, ¬ c = w_mp g) → F' L c i = F L c i)
    ∨ (∃ I' J', gX9_giveBack n (nI b) I = some (nI 0, I') ∧ (gX11_giveBack n (nI b) J = some J' ∧ ∀ c, tH y J c → tH y J' c) ∧ EN y Hd F0 I0 J0 I' J') := by
  have hb : b ∉ gn := fun hb => by
    obtain ⟨p, hp, hop⟩ := hG.2.1 b hb
    have := (tr_B h.1 (by omega : 0 < Hd t) (by omega : 0 < Hd t) hop ho).2
    omega
  rcases tn_give (n := n) hC hM h hEm hH ho hb (by have := hG.1; omega) hX with ⟨I', J', F', g1, g2, g3, g4, g5, g6, g7, g8, g9⟩ | r
  · have hgp : (fun c => c ∈ gn ∨ c = b) = (fun c => c ∈ gn ++ [b]) := by
      funext c
      rw [List.mem_append, List.mem_singleton]
    rw [hgp] at g3
    have hpl : ∀ p, w_pl (vw y J') t p = w_pl (vw y J) t p := fun p => vw_pl (fun i => g4 _ _ (ib_nmp ht)) (fun x i hx => g4 _ _ (fun g e => w_mp_D g (e ▸ hx.2.2.1))) (tr_ix (p := 0) (b := 0) h.1 ht (by omega))
    have how : ∀ p c, w_own (vw y J') t p c ↔ w_own (vw y J) t p c := fun p c => by
      unfold w_own
      rw [hpl p]
    refine Or.inl ⟨I', J', F', g1, g2, g3, ⟨by rw [List.length_append, List.length_singleton]; have := hG.1; omega, fun c hc => ?_, fun p c hp0 hp hop => ?_⟩, g4, g5, g6, g7, g8, g9⟩
    · rcases List.mem_append.mp hc with hc | hc
      · obtain ⟨p, hp, hop⟩ := hG.2.1 c hc
        exact ⟨p, by omega, (how p c).mpr hop⟩
      · rw [List.mem_singleton.mp hc]
        exact ⟨m, by omega, (how m b).mpr ho⟩
    · rw [List.mem_append]
      by_cases e : p = m
      · subst e
        refine Or.inr (List.mem_singleton.mpr ?_)
        have h1 := ((how p c).mp hop).2.2.2
        rw [ho.2.2.2] at h1
        exact (w_nI (w_Dlt ho.2.2.1) (w_Dlt hop.2.2.1) h1).symm
      · exact Or.inl (hG.2.2 p c hp0 (by omega) ((how p c).mp hop))
  · exact Or.inr r
/-- a place without a block -/
theorem gb_none {t m : Nat} (hG : GB y t 0 m gn J) (h0 : w_pl (vw y J) t m = nI 0) : GB y t 0 (m + 1) gn J := by
  refine ⟨by have := hG.1; omega, fun c hc => ?_, fun p c hp0 hp hop => ?_⟩
  · obtain ⟨p, hp, hop⟩ := hG.2.1 c hc
    exact ⟨p, by omega, hop⟩
  · by_cases e : p = m
    · subst e
      exact absurd (hop.2.2.2.symm.trans h0) (w_D0 hop.2.2.1)
    · exact hG.2.2 p c hp0 (by omega) hop
/-- the reference's rest, when the try is over -/
theorem ga_over2 {t i f : Nat} (ht : t < 128) (hi : i < 100) (h : EN y Hd F0 I0 J0 I J) : bX11_giveAll_2 n (f + 1) (nI t) (nI i) J = bX11_giveAll_40 n (nI t) J := by
  have o := ov_en (n := n) h.2
  conv => lhs; unfold bX11_giveAll_2
  simp (disch := omega) only [z_le, o, Option.bind_some, z_10, if_false]
  split <;> rfl
theorem ga_over108 {t : Nat} (ht : t < 128) (h : EN y Hd F0 I0 J0 I J) : bX11_giveAll_108 n (nI t) J = some J := by
  have o := ov_en (n := n) h.2
  have hm : ∀ a b, gX11_meets n a b J = some (nI 0, J) := fun a b => by
    simp only [gX11_meets, bX11_meets_0, o, Option.bind_some, z_10, if_false]
  simp only [bX11_giveAll_108, hm, Option.bind_some, z_00, if_true]
theorem ga_over92 {t : Nat} {x : Int32} (ht : t < 128) (h : EN y Hd F0 I0 J0 I J) : bX11_giveAll_92 n (nI t) x J = some J := by
  have o := ov_en (n := n) h.2
  have h108 := ga_over108 (n := n) ht h
  simp only [bX11_giveAll_92, o, Option.bind_some, z_10, if_false, h108, ite_self]
theorem ga_over50 {t i f : Nat} {x : Int32} (ht : t < 128) (hi : i < 100) (h : EN y Hd F0 I0 J0 I J) : bX11_giveAll_50 n (f + 1) (nI t) x (nI i) J = some J := by
  have o := ov_en (n := n) h.2
  have h92 := ga_over92 (n := n) (x := x) ht h
  conv => lhs; unfold bX11_giveAll_50
  simp only [o, Option.bind_some, z_10, if_false, h92, ite_self]
theorem ga_over40 {t : Nat} (hy : y < 4) (ht : t < 128) (hib : tH y J (w_ib t)) (h : EN y Hd F0 I0 J0 I J) : bX11_giveAll_40 n (nI t) J = some J := by
  obtain ⟨f, hf, -⟩ := fu_ex
  obtain ⟨X9, E9, F9, gn9, gp9, pd9, t9⟩ := h.1
  have q := r_getc (n := n) (i := 11) hy hib (by omega) (tr_fr t9).2.2.2
  rw [bX11_giveAll_40, a_of ht, q, Option.bind_some, hf]
  exact ga_over50 ht (by omega) h
/-- the direct places: the class sets each to 0, the reference leaves them -/
theorem ga_dir {t : Nat} (hC : TC n y Hd I0 J0) (hM : ∀ r, r < 136 → Hd r ≤ 2) (ht : t < 128) (hH : Hd t = 2) (hX : X.length ≤ 20) (htX : w_ib t ∈ X) (hE : ∀ c, E c ↔ c = w_ib t) :
    ∀ (m q fu fur : Nat) (gn : List Nat) (F : (Nat → Nat) → wS) (I J : am_I), q + m = 8 → m < fu → m < fur → TN y Hd F0 I0 J0 X E F gn (fun c => c ∈ gn) (fun _ => False) I J → GB y t 0 q gn J → tH y J (w_ib t) → (∀ j, j < 16 → (j < 3 ∨ 3 + q ≤ j) → c_v y I (w_ib t) j = vw y J (w_ib t) j) →
    (∃ gn' F' I' J', bX9_givePlacesBack_3 n fu (nI (w_ib t)) (nI 11) (nI (3 + q)) I = some (nI 1, I') ∧ bX11_giveAll_2 n fur (nI t) (nI (3 + q)) J = bX11_giveAll_40 n (nI t) J' ∧ TN y Hd F0 I0 J0 X E F' gn' (fun c => c ∈ gn') (fun _ => False) I' J' ∧ GB y t 0 8 gn' J' ∧ (∀ c i, (∀ g, ¬ c = w_mp g) → vw y J' c i = vw y J c i) ∧ (∀ c, tH y J c → tH y J' c) ∧ c_v y I' (w_ib t) 11 = vw y J' (w_ib t) 11 ∧ (∀ k, ¬ (k = 5 ∨ k = 7) → I' 0 15 k = I 0 15 k) ∧ (∀ k, ¬ (k = 56 ∨ k = 61) → J' 0 60 k = J 0 60 k) ∧ ∀ L c i, (∀ g, ¬ c = w_mp g) → F' L c i = F L c i)
    ∨ (∃ I' J', bX9_givePlacesBack_3 n fu (nI (w_ib t)) (nI 11) (nI (3 + q)) I = some (nI 0, I') ∧ bX11_giveAll_2 n fur (nI t) (nI (3 + q)) J = bX11_giveAll_40 n (nI t) J' ∧ (∀ c, tH y J c → tH y J' c) ∧ EN y Hd F0 I0 J0 I' J') := by
  have hn4 := hC.2.1
  have hyn := hC.1
  have hEm : ∀ g, ¬ E (w_mp g) := fun g q => w_ib_mp ht ((hE _).mp q).symm
  intro m
  induction m with
  | zero =>
    intro q fu fur gn F I J hq hf hfr h hG hib hcv
    obtain ⟨fu, rfl⟩ : ∃ f, fu = f + 1 := ⟨fu - 1, by omega⟩
    obtain ⟨fur, rfl⟩ : ∃ f, fur = f + 1 := ⟨fur - 1, by omega⟩
    obtain rfl : q = 8 := by omega
    refine Or.inl ⟨gn, F, I, J, ?_, ?_, h, hG, fun _ _ _ => rfl, fun _ q => q, hcv 11 (by omega) (Or.inr (by omega)), fun _ _ => rfl, fun _ _ => rfl, fun _ _ _ _ => rfl⟩
    · conv => lhs; unfold bX9_givePlacesBack_3
      simp (disch := omega) only [z_le, (by decide : 11 ≤ 3 + 8), if_true]
    · conv => lhs; unfold bX11_giveAll_2
      simp (disch := omega) only [z_le, (by decide : 11 ≤ 3 + 8), if_true]
  | succ m ih =>
    intro q fu fur gn F I J hq hf hfr h hG hib hcv
    obtain ⟨fu, rfl⟩ : ∃ f, fu = f + 1 := ⟨fu - 1, by omega⟩
    obtain ⟨fur, rfl⟩ : ∃ f, fur = f + 1 := ⟨fur - 1, by omega⟩
    have hle : ¬ 11 ≤ 3 + q := by omega
    have q1 := c_readv (n := n) (i := 3 + q) hC h hib (by omega)
    rw [hcv (3 + q) (by omega) (Or.inr (by omega))] at q1
    have q2 := r_getc (n := n) (i := 3 + q) (by omega) hib (by omega) (tn_c h).2
    have hpl : w_pl (vw y J) t q = vw y J (w_ib t) (3 + q) := by
      unfold w_pl
      rw [if_pos (by omega)]
    rcases tr_P (p := q) h.1 ht (by omega) (by omega) with h0 | ⟨b, b1, b2⟩
    · rw [← hpl, h0] at q1 q2
      have cI : bX9_givePlacesBack_3 n (fu + 1) (nI (w_ib t)) (nI 11) (nI (3 + q)) I = bX9_givePlacesBack_3 n fu (nI (w_ib t)) (nI 11) (nI (3 + (q + 1))) I := by
        conv => lhs; unfold bX9_givePlacesBack_3
        simp (disch := omega) only [z_le, hle, if_false, q1, Option.bind_some, z_00, if_true, bX9_givePlacesBack_42, nI_add]
        rfl
      have cJ : bX11_giveAll_2 n (fur + 1) (nI t) (nI (3 + q)) J = bX11_giveAll_2 n fur (nI t) (nI (3 + (q + 1))) J := by
        conv => lhs; unfold bX11_giveAll_2
        simp (disch := omega) only [z_le, hle, if_false, ov_rn h.2, Option.bind_some, z_00, if_true, a_of ht, q2, bX11_giveAll_34, nI_add]
        rfl
      rw [cI, cJ]
      exact ih (q + 1) fu fur gn F I J (by omega) (by omega) (by omega) h (gb_none hG h0) hib (fun j hj hjq => hcv j hj (by omega))
    · rw [← hpl, b1] at q1 q2
      have hb0 : ¬ nI b = (0 : Int32) := w_D0 b2
      have cJ : bX11_giveAll_2 n (fur + 1) (nI t) (nI (3 + q)) J = (gX11_giveBack n (nI b) J).bind (fun q4 => bX11_giveAll_2 n fur (nI t) (nI (3 + (q + 1))) q4) := by
        conv => lhs; unfold bX11_giveAll_2
        simp (disch := omega) only [z_le, hle, if_false, ov_rn h.2, Option.bind_some, z_00, if_true, a_of ht, q2, hb0, bX11_giveAll_34, nI_add]
        rfl
      have cI : bX9_givePlacesBack_3 n (fu + 1) (nI (w_ib t)) (nI 11) (nI (3 + q)) I = (gX9_giveBack n (nI b) I).bind (fun q2 => if q2.1 = 0 then (some (nI 0, q2.2)) else ((gX9_set n (nI (w_ib t)) (nI (3 + q)) (nI 0) q2.2).bind (fun q3 => bX9_givePlacesBack_3 n fu (nI (w_ib t)) (nI 11) (nI (3 + (q + 1))) q3))) := by
        conv => lhs; unfold bX9_givePlacesBack_3
        simp (disch := omega) only [z_le, hle, if_false, q1, Option.bind_some, hb0, bX9_givePlacesBack_42, nI_add]
        rfl
      rw [cI, cJ]
      rcases gb_step (n := n) hC hM h hEm ht hH hX (by omega) hG ⟨ht, by omega, b2, b1⟩ with ⟨I1, J1, F1, g1, g2, g3, g4, g5, g6, g7, g8, g9, g10⟩ | ⟨I1, J1, g1, g2, g3⟩
      · obtain ⟨I2, s1, s2, s3, s4⟩ := tn_cset (n := n) (i := 3 + q) (v := nI 0) hC g3 (g6 _ hib) (by omega) ((hE _).mpr rfl) htX hX
        have hcv2 : ∀ j, j < 16 → (j < 3 ∨ 3 + (q + 1) ≤ j) → c_v y I2 (w_ib t) j = vw y J1 (w_ib t) j := fun j hj hjq => by
          rw [s3 _ j (w_ib_lt ht) hj, w_up_i _ _ _ (by omega), g7 _ j (w_ib_lt ht) hj (ib_nmp ht), g5 _ _ (ib_nmp ht)]
          exact hcv j hj (by omega)
        rw [g1, g2, Option.bind_some, Option.bind_some]
        show _ ∨ _
        simp only [z_10, if_false, s1, Option.bind_some]
        rcases ih (q + 1) fu fur (gn ++ [b]) F1 I2 J1 (by omega) (by omega) (by omega) s2 g4 (g6 _ hib) hcv2 with ⟨gn', F', I', J', r1, r2, r3, r4, r5, r6, r7, r8, r9, r10⟩ | ⟨I', J', r1, r2, r3, r4⟩
        · refine Or.inl ⟨gn', F', I', J', r1, r2, r3, r4, fun c i hc => by rw [r5 c i hc, g5 c i hc], fun c q => r6 c (g6 c q), r7, fun k hk => by rw [r8 k hk, s4 k (by omega), g8 k hk], fun k hk => by rw [r9 k hk, g9 k hk], fun L c i hc => (r10 L c i hc).trans (g10 L c i hc)⟩
        · exact Or.inr ⟨I', J', r1, r2, fun c q => r3 c (g6 c q), r4⟩
      · rw [g1, g2.1, Option.bind_some, Option.bind_some]
        refine Or.inr ⟨I1, J1, if_pos rfl, ?_, g2.2, g3⟩
        obtain ⟨fur, rfl⟩ : ∃ f, fur = f + 1 := ⟨fur - 1, by omega⟩
        exact ga_over2 ht (by omega) g3
end GALL
