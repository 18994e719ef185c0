
section LOOP
variable {n T : Nat} {k30 : Int32 → Int32 → Int32 → am_I → Option ((Option Int32 ⊕ Nat) × am_I)} {a1 a2 a3 : Int32}
theorem take_split {α : Type} {l : List α} {i : Nat} {m : α} (h : l[i]? = some m) : l = l.take i ++ m :: l.drop (i + 1) ∧ (l.take i).length = i := by
  obtain ⟨h1, h2⟩ := List.getElem?_eq_some_iff.mp h
  refine ⟨?_, by rw [List.length_take]; omega⟩
  have e : l.drop i = m :: l.drop (i + 1) := by rw [← h2]; exact List.drop_eq_getElem_cons h1
  rw [← e, List.take_append_drop]
/-- all that are due come, both sides -/
theorem dl_lp {S : Nat} (hS : S ≤ 190) : ∀ (q fu fuc e L : Nat) (g : Nat → Nat) (I J : am_I), GS n T e g I J → J 0 60 38 = nI L → L < 128 → 21 * (g 1 - g 0) + (L - g 2) ≤ q → q < fu → g 1 - g 0 < fuc → g 1 < 100 → e + cs n J = S → ∃ I' J' e' g', bX10_tick_61 n k30 fuc a1 a2 a3 (nI (g 1)) (nI (g 0)) I = bX10_tick_105 n k30 am_fu a1 a2 a3 (nI 0) I' ∧ bX11_oneTick_12 n fu (nI (g 2)) J = bX11_oneTick_99 n am_fu (nI 0) J' ∧ GS n T e' g' I' J' ∧ g' 0 = g' 1 ∧ e' + cs n J' = S ∧ J' 0 60 0 = J 0 60 0 := by
  intro q
  induction q with
  | zero =>
    intro fu fuc e L g I J hG h38 hL hq hfu hfuc hg1 he
    obtain ⟨fu, rfl⟩ : ∃ f, fu = f + 1 := ⟨fu - 1, by omega⟩
    obtain ⟨fuc, rfl⟩ : ∃ f, fuc = f + 1 := ⟨fuc - 1, by omega⟩
    obtain ⟨rw, gv, cl, A, jl, ⟨ms, H, B, K, lg, fb, fq, mk, h⟩, rfl, hns, hW⟩ := hG
    have hdu := h.2.2.2.2.2.2.2.2.2.2.2.2
    have hle := hdu.2.1
    refine ⟨I, J, e, gv 136, ?_, ?_, ⟨rw, gv, cl, A, jl, ⟨ms, H, B, K, lg, fb, fq, mk, h⟩, rfl, hns, hW⟩, by omega, he, rfl⟩
    · conv => lhs; unfold bX10_tick_61
      dsimp only
      rw [if_pos (by rw [z_le (by omega) (by omega)]; omega)]
    · conv => lhs; unfold bX11_oneTick_12
      dsimp only
      have hl := hdu.2.2.1
      have hml := h.2.1.2.1.1
      have := pl_len h.2.2.2.2.2.2.1 h.1.2
      rw [h38, z_eq (by omega) (by omega)] at hml
      rw [if_pos (by rw [h38, z_le (by omega) (by omega)]; omega)]
  | succ q ih =>
    intro fu fuc e L g I J hG h38 hL hq hfu hfuc hg1 he
    obtain ⟨fu, rfl⟩ : ∃ f, fu = f + 1 := ⟨fu - 1, by omega⟩
    obtain ⟨fuc, rfl⟩ : ∃ f, fuc = f + 1 := ⟨fuc - 1, by omega⟩
    obtain ⟨rw, gv, cl, A, jl, ⟨ms, H, B, K, lg, fb, fq, mk, h⟩, rfl, hns, hW⟩ := hG
    have hdu := h.2.2.2.2.2.2.2.2.2.2.2.2
    have hML := h.2.1
    have hlen := pl_len h.2.2.2.2.2.2.1 h.1.2
    have eL : ms.length = L := by
      have := hML.2.1.1
      rw [h38, z_eq (by omega) (by omega)] at this
      exact this.symm
    have hT2 : T < 2 ^ 20 := by have := hML.2.2.2.2.2.1; omega
    have hg2 := hdu.2.2.1
    by_cases hend : gv 136 2 = L
    · -- no more
      have e0 : due T ms = [] := List.filter_eq_nil_iff.mpr (fun a ha => by
        obtain ⟨k, hk⟩ := List.mem_iff_getElem?.mp ha
        have := (List.getElem?_eq_some_iff.mp hk).1
        have := hdu.2.2.2 k a hk (by omega)
        rw [decide_eq_true_eq]; omega)
      have e1 : gv 136 0 = gv 136 1 := by
        have := hdu.2.1
        rw [e0, List.length_nil] at this
        omega
      refine ⟨I, J, e, gv 136, ?_, ?_, ⟨rw, gv, cl, A, jl, ⟨ms, H, B, K, lg, fb, fq, mk, h⟩, rfl, hns, hW⟩, e1, he, rfl⟩
      · conv => lhs; unfold bX10_tick_61
        dsimp only
        rw [if_pos (by rw [z_le (by omega) (by omega)]; omega)]
      · conv => lhs; unfold bX11_oneTick_12
        dsimp only
        rw [if_pos (by rw [h38, z_le (by omega) (by omega)]; omega)]
    · obtain ⟨m, hm⟩ : ∃ m, ms[gv 136 2]? = some m := ⟨_, List.getElem?_eq_getElem (by omega)⟩
      obtain ⟨s1, s2⟩ := take_split hm
      have hmJ : ∀ c, c < 6 → J 0 (101 + c) (gv 136 2) = nI (m c) := hML.2.1.2.2 _ m hm
      have hmw := hML.2.1.2.1 m (List.mem_of_getElem? hm)
      by_cases hd : m 5 ≤ T
      · rw [s1] at h
        obtain ⟨I', J', e', g', k1, k2, k3, k4, k5, k6, k7, k8⟩ := gs_dlv (k30 := k30) (fu := fuc) (f := fu) (a1 := a1) (a2 := a2) (a3 := a3) h s2.symm hd hns hW (by omega) hg1
        have hg0 : gv 136 0 < gv 136 1 := by
          have hm0 : m ∈ due T ms := List.mem_filter.mpr ⟨List.mem_of_getElem? hm, decide_eq_true hd⟩
          have := List.length_pos_of_mem hm0
          have := hdu.2.1
          omega
        have k3' := k3
        obtain ⟨rw1, gv1, cl1, A1, jl1, ⟨ms1, H1, B1, K1, lg1, fb1, fq1, mk1, h1⟩, -⟩ := k3'
        have hlen1 := pl_len h1.2.2.2.2.2.2.1 h1.1.2
        obtain ⟨I2, J2, e2, g2, w1, w2, w3, w4, w5, w6⟩ := ih fu fuc e' ms1.length g' I' J' k3 h1.2.1.2.1.1 (by omega) (by rw [k4, k5, k6]; omega) (by omega) (by rw [k4, k5]; omega) (by rw [k5]; exact hg1) (by omega)
        rw [k5, k4] at w1
        rw [k6] at w2
        exact ⟨I2, J2, e2, g2, by rw [k1]; exact w1, by rw [k2]; exact w2, w3, w4, w5, w6.trans k8⟩
      · have hgv : ∀ r, r < 136 → up2 gv 136 2 (gv 136 2 + 1) r = gv r := fun r hr => up2_r (by omega)
        have u0 : up2 gv 136 2 (gv 136 2 + 1) 136 0 = gv 136 0 := up2_x (by omega)
        have u1 : up2 gv 136 2 (gv 136 2 + 1) 136 1 = gv 136 1 := up2_x (by omega)
        have u2 : up2 gv 136 2 (gv 136 2 + 1) 136 2 = gv 136 2 + 1 := up2_a
        have h' : CO n T e I J ms rw (up2 gv 136 2 (gv 136 2 + 1)) cl H A B K lg fb jl fq mk := by
          refine co_fs h fSI.rf fSJ.rf hML (ms_gve h.2.2.1 hgv) (pl_gve h.2.2.2.2.2.2.1 hgv) (fun x r hx hd hr w => by rw [hgv r hr]; exact (((h.2.2.2.2.2.1 x hx).2.2.1 hd).2.2 r hr).2.2.2 w) ⟨?_, ?_, ?_, fun k a hk hk2 => ?_⟩
          · rw [u0]; exact hdu.1
          · rw [u0, u1]; exact hdu.2.1
          · rw [u2]; omega
          · rw [u2] at hk2
            by_cases c : k = gv 136 2
            · rw [c, hm] at hk
              rw [← Option.some.inj hk]; omega
            · exact hdu.2.2.2 k a hk (by omega)
        obtain ⟨I2, J2, e2, g2, w1, w2, w3, w4, w5, w6⟩ := ih fu (fuc + 1) e L (up2 gv 136 2 (gv 136 2 + 1) 136) I J ⟨rw, _, cl, A, jl, ⟨ms, H, B, K, lg, fb, fq, mk, h'⟩, rfl, hns, hW⟩ h38 hL (by rw [u0, u1, u2]; omega) (by omega) (by rw [u0, u1]; omega) (by rw [u1]; exact hg1) he
        rw [u0, u1] at w1
        rw [u2] at w2
        exact ⟨I2, J2, e2, g2, w1, by rw [r_12s hL (by omega) h38 hML.2.2.2.2.1 hT2 hmJ (hmw 5 (by omega)) hd]; exact w2, w3, w4, w5, w6⟩
end LOOP
section GATHER
variable {n : Nat}
theorem lat_cons_l {T : Nat} {m : Nat → Nat} {l : List (Nat → Nat)} (h : T < m 5) : lat T (m :: l) = m :: lat T l := List.filter_cons_of_pos (by exact decide_eq_true h)
theorem lat_cons_d {T : Nat} {m : Nat → Nat} {l : List (Nat → Nat)} (h : ¬ T < m 5) : lat T (m :: l) = lat T l := List.filter_cons_of_neg (by rw [decide_eq_true_eq]; exact h)
theorem due_cons_l {T : Nat} {m : Nat → Nat} {l : List (Nat → Nat)} (h : T < m 5) : due T (m :: l) = due T l := List.filter_cons_of_neg (by rw [decide_eq_true_eq]; omega)
theorem due_cons_d {T : Nat} {m : Nat → Nat} {l : List (Nat → Nat)} (h : ¬ T < m 5) : due T (m :: l) = m :: due T l := List.filter_cons_of_pos (by exact decide_eq_true (by omega))
/-- the class gathers what is due -/
theorem ga_lp {T : Nat} (hT : T < 2 ^ 20) : ∀ (suf D Kp : List (Nat → Nat)) (fu : Nat) (I : am_I), suf.length < fu → D.length + Kp.length + suf.length ≤ 100 → I 0 9 3 = nI (D.length + Kp.length + suf.length) → (∀ k m, D[k]? = some m → ∀ c, c < 6 → I 0 12 (6 * k + c) = nI (m c)) → (∀ k m, Kp[k]? = some m → ∀ c, c < 6 → I 0 11 (6 * k + c) = nI (m c)) → (∀ k m, suf[k]? = some m → ∀ c, c < 6 → I 0 11 (6 * (D.length + Kp.length + k) + c) = nI (m c)) → (∀ m, m ∈ suf → mw m) → ∃ I', bX5_gather_7 n fu (nI T) (nI D.length) (nI Kp.length) (nI (D.length + Kp.length)) I = some (nI (D ++ due T suf).length, I') ∧ (∀ k m, (D ++ due T suf)[k]? = some m → ∀ c, c < 6 → I' 0 12 (6 * k + c) = nI (m c)) ∧ (∀ k m, (Kp ++ lat T suf)[k]? = some m → ∀ c, c < 6 → I' 0 11 (6 * k + c) = nI (m c)) ∧ I' 0 9 3 = nI (Kp ++ lat T suf).length ∧ (∀ a b, ¬ (a = 0 ∧ (b = 9 ∨ b = 11 ∨ b = 12)) → I' a b = I a b) ∧ ∀ k, ¬ k = 3 → I' 0 9 k = I 0 9 k := by
  intro suf
  induction suf with
  | nil =>
    intro D Kp fu I hf hl h3 hD hK _ _
    obtain ⟨fu, rfl⟩ : ∃ f, fu = f + 1 := ⟨fu - 1, by omega⟩
    refine ⟨am_up I 0 9 3 (nI Kp.length), ?_, fun k m hk c hc => ?_, fun k m hk c hc => ?_, ?_, fun a b q => z_upj _ _ _ _ _ _ _ (by omega), fun k q => by rw [z_upk, if_neg q]⟩
    · conv => lhs; unfold bX5_gather_7
      dsimp only
      rw [if_pos (by rw [h3, List.length_nil, Nat.add_zero]; rw [z_le (by omega) (by omega)]; exact Nat.le_refl _), am_lt]
      show some (nI D.length, _) = some (nI (D ++ []).length, _)
      rw [List.append_nil]
    · rw [z_upj _ _ _ _ _ _ _ (by omega)]
      exact hD k m (by rw [show D ++ due T [] = D from List.append_nil D] at hk; exact hk) c hc
    · rw [z_upj _ _ _ _ _ _ _ (by omega)]
      exact hK k m (by rw [show Kp ++ lat T [] = Kp from List.append_nil Kp] at hk; exact hk) c hc
    · rw [z_upk, if_pos rfl, show Kp ++ lat T [] = Kp from List.append_nil Kp]
  | cons m suf ih =>
    intro D Kp fu I hf hl h3 hD hK hs hw
    obtain ⟨fu, rfl⟩ : ∃ f, fu = f + 1 := ⟨fu - 1, by omega⟩
    rw [List.length_cons] at hf hl h3
    have hm := hw m List.mem_cons_self
    have hsm : ∀ c, c < 6 → I 0 11 (6 * (D.length + Kp.length) + c) = nI (m c) := hs 0 m rfl
    have e0 : nI (D.length + Kp.length) * nI 6 = nI (6 * (D.length + Kp.length)) := by rw [pk_mul, Nat.mul_comm]
    have e1 : nI Kp.length * nI 6 = nI (6 * Kp.length) := by rw [pk_mul, Nat.mul_comm]
    have e2 : nI D.length * nI 6 = nI (6 * D.length) := by rw [pk_mul, Nat.mul_comm]
    have g5 : am_inb (nI (6 * (D.length + Kp.length) + 5)) 768 = true := by rw [z_inb (by omega)]; exact decide_eq_true (by omega)
    have cpb : ∀ a b, a + 6 ≤ 768 → b + 6 ≤ 768 → am_cpb (nI a) (nI b) (nI 6) 768 768 = true := fun a b h1 h2 => by
      have z : ∀ k, k < 1000 → ¬ nI k < 0 := fun k hk q => absurd ((z_lt (a := k) (b := 0) (by omega) (by omega)).mp q) (by omega)
      unfold am_cpb
      exact decide_eq_true ⟨z a (by omega), z b (by omega), z 6 (by omega), by rw [z_clamp (by omega), z_clamp (by omega)]; exact h1, by rw [z_clamp (by omega), z_clamp (by omega)]; exact h2⟩
    have gl : ¬ I 0 9 3 ≤ nI (D.length + Kp.length) := by rw [h3, z_le (by omega) (by omega)]; omega
    have h5 := hsm 5 (by omega)
    by_cases hd : T < m 5
    · let I1 : am_I := am_upf I 0 11 (va_cpy (I 0 11) (I 0 11) (6 * (D.length + Kp.length)) (6 * Kp.length) 6)
      have o1 : ∀ a b, ¬ (a = 0 ∧ b = 11) → I1 a b = I a b := fun a b q => z_upfj _ _ _ _ _ _ q
      have k1 : ∀ k c, c < 6 → I1 0 11 (6 * k + c) = if k = Kp.length then nI (m c) else I 0 11 (6 * k + c) := fun k c hc => by
        show am_upf I 0 11 (va_cpy (I 0 11) (I 0 11) (6 * (D.length + Kp.length)) (6 * Kp.length) 6) 0 11 (6 * k + c) = _
        rw [z_upfs]
        unfold va_cpy
        by_cases q : k = Kp.length
        · rw [if_pos (by omega), if_pos q, ← hsm c hc]
          congr 1
          omega
        · rw [if_neg (by omega), if_neg q]
      obtain ⟨I', r1, r2, r3, r4, r5, r6⟩ := ih D (Kp ++ [m]) fu I1 (by omega) (by rw [List.length_append]; simp only [List.length_cons, List.length_nil]; omega) (by rw [o1 0 9 (by omega), h3, List.length_append]; simp only [List.length_cons, List.length_nil]; congr 1; omega) (fun k a hk c hc => by rw [o1 0 12 (by omega)]; exact hD k a hk c hc) (fun k a hk c hc => by
        rw [k1 k c hc]
        rcases app_get hk with ⟨q1, q2⟩ | ⟨q1, q2⟩
        · rw [if_neg (by omega)]; exact hK k a q2 c hc
        · rw [if_pos q1, q2]) (fun k a hk c hc => by
        rw [List.length_append]
        simp only [List.length_cons, List.length_nil]
        rw [k1 _ c hc, if_neg (by omega), show D.length + (Kp.length + (0 + 1)) + k = D.length + Kp.length + (k + 1) from by omega]
        exact hs (k + 1) a (by rw [List.getElem?_cons_succ]; exact hk) c hc) (fun a ha => hw a (List.mem_cons_of_mem _ ha))
      rw [lat_cons_l hd, due_cons_l hd]
      rw [List.append_assoc, List.singleton_append] at r3 r4
      refine ⟨I', ?_, r2, r3, r4, fun a b q => (r5 a b q).trans (o1 a b (by omega)), fun k q => by rw [r6 k q, o1 0 9 (by omega)]⟩
      rw [← r1]
      conv => lhs; unfold bX5_gather_7
      dsimp only
      rw [if_neg gl, e0, nI_add, am_gd_of g5, z_clamp (by omega), if_pos (show nI T < I 0 11 (6 * (D.length + Kp.length) + 5) by have := hm 5 (by omega); rw [h5, z_lt (by omega) (by omega)]; exact hd), e1, am_gd_of (cpb _ _ (by omega) (by omega)), z_clamp (by omega), z_clamp (by omega), z_clamp (by omega), am_lt]
      unfold bX5_gather_85
      rw [nI_add, nI_add, List.length_append]
      rfl
    · let I1 : am_I := am_upf I 0 12 (va_cpy (I 0 11) (I 0 12) (6 * (D.length + Kp.length)) (6 * D.length) 6)
      have o1 : ∀ a b, ¬ (a = 0 ∧ b = 12) → I1 a b = I a b := fun a b q => z_upfj _ _ _ _ _ _ q
      have k1 : ∀ k c, c < 6 → I1 0 12 (6 * k + c) = if k = D.length then nI (m c) else I 0 12 (6 * k + c) := fun k c hc => by
        show am_upf I 0 12 (va_cpy (I 0 11) (I 0 12) (6 * (D.length + Kp.length)) (6 * D.length) 6) 0 12 (6 * k + c) = _
        rw [z_upfs]
        unfold va_cpy
        by_cases q : k = D.length
        · rw [if_pos (by omega), if_pos q, ← hsm c hc]
          congr 1
          omega
        · rw [if_neg (by omega), if_neg q]
      obtain ⟨I', r1, r2, r3, r4, r5, r6⟩ := ih (D ++ [m]) Kp fu I1 (by omega) (by rw [List.length_append]; simp only [List.length_cons, List.length_nil]; omega) (by rw [o1 0 9 (by omega), h3, List.length_append]; simp only [List.length_cons, List.length_nil]; congr 1; omega) (fun k a hk c hc => by
        rw [k1 k c hc]
        rcases app_get hk with ⟨q1, q2⟩ | ⟨q1, q2⟩
        · rw [if_neg (by omega)]; exact hD k a q2 c hc
        · rw [if_pos q1, q2]) (fun k a hk c hc => by rw [o1 0 11 (by omega)]; exact hK k a hk c hc) (fun k a hk c hc => by
        rw [List.length_append]
        simp only [List.length_cons, List.length_nil]
        rw [o1 0 11 (by omega), show D.length + (0 + 1) + Kp.length + k = D.length + Kp.length + (k + 1) from by omega]
        exact hs (k + 1) a (by rw [List.getElem?_cons_succ]; exact hk) c hc) (fun a ha => hw a (List.mem_cons_of_mem _ ha))
      rw [lat_cons_d hd, due_cons_d hd]
      rw [List.append_assoc, List.singleton_append] at r2 r1
      refine ⟨I', ?_, r2, r3, r4, fun a b q => (r5 a b q).trans (o1 a b (by omega)), fun k q => by rw [r6 k q, o1 0 9 (by omega)]⟩
      rw [← r1]
      conv => lhs; unfold bX5_gather_7
      dsimp only
      rw [if_neg gl, e0, nI_add, am_gd_of g5, z_clamp (by omega), if_neg (show ¬ nI T < I 0 11 (6 * (D.length + Kp.length) + 5) by have := hm 5 (by omega); rw [h5, z_lt (by omega) (by omega)]; exact hd), e2, am_gd_of (cpb _ _ (by omega) (by omega)), z_clamp (by omega), z_clamp (by omega), z_clamp (by omega), am_lt]
      unfold bX5_gather_85
      rw [nI_add, nI_add, List.length_append]
      simp only [List.length_cons, List.length_nil]
      rw [show D.length + (0 + 1) + Kp.length = D.length + Kp.length + 1 from by omega]
end GATHER
