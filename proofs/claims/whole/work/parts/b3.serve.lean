
section SERVE
variable {n T : Nat} {I J : am_I} {ms : List (Nat → Nat)} {rw : Nat → List (Nat × Nat)} {gv cl : Nat → Nat → Nat}
theorem ms_cl {r y v : Nat} (h : MSr n I J rw gv cl) (hr : r < 136) (hy : y < 4) (hv : v ≤ 2) : MSr n (am_up I 0 5 (4 * r + y) (nO v)) (am_up J 0 95 (4 * r + y) (nO v)) rw gv (up2 cl r y v) := fun r' hr' => by
  obtain ⟨h1, h2, h3, h4, h5⟩ := h r' hr'
  refine ⟨h1, ?_, ?_, fun i e hi => ?_, fun x hx => ?_⟩
  · rw [z_upj _ _ _ _ _ _ _ (by omega)]; exact h2
  · rw [z_upj _ _ _ _ _ _ _ (by omega)]; exact h3
  · rw [z_upj _ _ _ _ _ _ _ (by omega), z_upj _ _ _ _ _ _ _ (by omega), z_upj _ _ _ _ _ _ _ (by omega), z_upj _ _ _ _ _ _ _ (by omega)]
    exact h4 i e hi
  · obtain ⟨a1, a2, a3, a4, a5, a6⟩ := h5 x hx
    rw [z_upj _ _ _ _ _ _ _ (by omega), z_upj _ _ _ _ _ _ _ (by omega), z_upk, z_upk]
    by_cases e : r' = r ∧ x = y
    · obtain ⟨rfl, rfl⟩ := e
      rw [if_pos rfl, if_pos rfl, up2_a]
      exact ⟨a1, a2, a3, hv, rfl, rfl⟩
    · rw [if_neg (by omega), if_neg (by omega), show up2 cl r y v r' x = cl r' x from if_neg e]
      exact ⟨a1, a2, a3, a4, a5, a6⟩
theorem ms_gv {r y v : Nat} (h : MSr n I J rw gv cl) (hr : r < 136) (hy : y < 4) (hv : v ≤ 2) : MSr n (am_up I 0 4 (4 * r + y) (nI v)) (am_up J 0 94 (4 * r + y) (nI v)) rw (up2 gv r y v) cl := fun r' hr' => by
  obtain ⟨h1, h2, h3, h4, h5⟩ := h r' hr'
  refine ⟨h1, ?_, ?_, fun i e hi => ?_, fun x hx => ?_⟩
  · rw [z_upj _ _ _ _ _ _ _ (by omega)]; exact h2
  · rw [z_upj _ _ _ _ _ _ _ (by omega)]; exact h3
  · rw [z_upj _ _ _ _ _ _ _ (by omega), z_upj _ _ _ _ _ _ _ (by omega), z_upj _ _ _ _ _ _ _ (by omega), z_upj _ _ _ _ _ _ _ (by omega)]
    exact h4 i e hi
  · obtain ⟨a1, a2, a3, a4, a5, a6⟩ := h5 x hx
    rw [z_upk, z_upk, z_upj _ _ _ _ _ _ _ (by omega), z_upj _ _ _ _ _ _ _ (by omega)]
    by_cases e : r' = r ∧ x = y
    · obtain ⟨rfl, rfl⟩ := e
      rw [if_pos rfl, if_pos rfl, up2_a]
      exact ⟨hv, rfl, rfl, a4, a5, a6⟩
    · rw [if_neg (by omega), if_neg (by omega), show up2 gv r y v r' x = gv r' x from if_neg e]
      exact ⟨a1, a2, a3, a4, a5, a6⟩
/-- steps of the masters' state -/
def cBk (n T r M : Nat) (U : Nat → Int32) (P : List (Nat → Nat) → (Nat → List (Nat × Nat)) → (Nat → Nat → Nat) → (Nat → Nat → Nat) → Prop) : Prop := ∀ ms rw gv cl z m rest y ms', P ms rw gv cl → rw r = (z, m) :: rest → y < n → ¬ y = z → agt (gv r y) m = true → (cl r y = 0 ∨ flr m + 1 < cl r y) → snd U T M y 2 r (flr m) ms ms' → P ms' rw gv (up2 cl r y (flr m + 1))
def cGr (n T r M : Nat) (U : Nat → Int32) (P : List (Nat → Nat) → (Nat → List (Nat × Nat)) → (Nat → Nat → Nat) → (Nat → Nat → Nat) → Prop) : Prop := ∀ ms rw gv cl z m rest ms', P ms rw gv cl → rw r = (z, m) :: rest → (∀ y, y < n → y = z ∨ agt (gv r y) m = false) → snd U T M z 1 r m ms ms' → P ms' (up1 rw r rest) (up2 gv r z (max (gv r z) m)) cl
/-- those in the way are called back -/
theorem cb_lp {r z m M : Nat} {rest : List (Nat × Nat)} {U : Nat → Int32} {P : List (Nat → Nat) → (Nat → List (Nat × Nat)) → (Nat → Nat → Nat) → (Nat → Nat → Nat) → Prop} (hn0 : 0 < n) (hn : n ≤ 4) (hr : r < 136) (hz : z < n) (hm : m = 1 ∨ m = 2) (hMn : M < n) (hPl : ∀ ms rw gv cl, P ms rw gv cl → ms.length < 128) (hB : cBk n T r M U P) (hrow : rw r = (z, m) :: rest) :
    ∀ (q i b fu fur : Nat) (I J : am_I) (ms : List (Nat → Nat)) (cl : Nat → Nat → Nat), i + q = n → q < fu → q < fur → (b = 0 ∨ b = 1) → MLr n T I J ms → MSr n I J rw gv cl → P ms rw gv cl → J 0 65 = U → mst n (J 0 66) r n 0 = nI M → (∀ x, x < n → I x 40 6 = J 0 66 x) →
    ∃ I' J' ms' cl' b', bX10_callOthersBack_18 n fu (nI r) (nI z) (nI M) (nI (flr m)) (nI b) (nI i) I = some (nI b', I') ∧ bX11_askBack_15 n fur (nI r) (nI z) (nI m) (nI (flr m)) (nI i) J = some J' ∧ MLr n T I' J' ms' ∧ MSr n I' J' rw gv cl' ∧ P ms' rw gv cl' ∧ fSI I I' ∧ fSJ J J' ∧ (b' = 0 ∨ b' = 1) ∧ (b' = 1 ↔ b = 1 ∨ ∃ y, i ≤ y ∧ y < n ∧ ¬ y = z ∧ agt (gv r y) m = true) ∧ (∀ y, i ≤ y → y < n → ¬ y = z → agt (gv r y) m = true → ¬ cl' r y = 0 ∧ cl' r y ≤ flr m + 1) ∧ (∀ r' y, ¬ (r' = r ∧ i ≤ y) → cl' r' y = cl r' y) := by
  have hfl : flr m ≤ 1 := by unfold flr; split <;> omega
  intro q
  induction q with
  | zero =>
    intro i b fu fur I J ms cl hi hf hfr hb hL hS hP hU hmst hj
    obtain ⟨fu, rfl⟩ : ∃ f, fu = f + 1 := ⟨fu - 1, by omega⟩
    obtain ⟨fur, rfl⟩ : ∃ f, fur = f + 1 := ⟨fur - 1, by omega⟩
    obtain rfl : i = n := by omega
    refine ⟨I, J, ms, cl, b, ?_, ?_, hL, hS, hP, fSI.rf, fSJ.rf, hb, ⟨Or.inl, fun h => h.elim id (fun ⟨y, y1, y2, _⟩ => by omega)⟩, fun y h1 h2 => by omega, fun _ _ _ => rfl⟩
    · conv => lhs; unfold bX10_callOthersBack_18
      rcases hb with rfl | rfl
      · simp (disch := omega) only [z_le, Nat.le_refl, if_true, z_01, z_gdt]
      · simp (disch := omega) only [z_le, Nat.le_refl, if_true, z_011, z_gdt]
    · conv => lhs; unfold bX11_askBack_15
      simp (disch := omega) only [hL.2.2.2.2.2.2.2.2.2.2, z_le, Nat.le_refl, if_true]
  | succ q ih =>
    intro i b fu fur I J ms cl hi hf hfr hb hL hS hP hU hmst hj
    obtain ⟨fu, rfl⟩ : ∃ f, fu = f + 1 := ⟨fu - 1, by omega⟩
    obtain ⟨fur, rfl⟩ : ∃ f, fur = f + 1 := ⟨fur - 1, by omega⟩
    have hle : ¬ n ≤ i := by omega
    have h1 := hL.2.2.2.2.2.2.2.2.2.2
    obtain ⟨v1, v2, v3, v4, v5, v6⟩ := (hS r hr).2.2.2.2 i (by omega)
    have g1 : r * 4 + i < 544 := by omega
    have g2 : 4 * r + i < 544 := by omega
    have v2' : I 0 4 (r * 4 + i) = nI (gv r i) := by rw [Nat.mul_comm]; exact v2
    have v5' : I 0 5 (r * 4 + i) = nO (cl r i) := by rw [Nat.mul_comm]; exact v5
    have hag := r_agt (n := n) (r := r) (y := i) hr (by omega) v1 hm v3
    have hfd := agt_fl v1 hm
    -- what goes on when i is passed over
    have pass : ∀ b2 : Nat, (b2 = 0 ∨ b2 = 1) → (b2 = 1 ↔ b = 1 ∨ (¬ i = z ∧ agt (gv r i) m = true)) → (¬ i = z → agt (gv r i) m = true → ¬ cl r i = 0 ∧ cl r i ≤ flr m + 1) → bX10_callOthersBack_18 n (fu + 1) (nI r) (nI z) (nI M) (nI (flr m)) (nI b) (nI i) I = bX10_callOthersBack_18 n fu (nI r) (nI z) (nI M) (nI (flr m)) (nI b2) (nI (i + 1)) I → bX11_askBack_15 n (fur + 1) (nI r) (nI z) (nI m) (nI (flr m)) (nI i) J = bX11_askBack_15 n fur (nI r) (nI z) (nI m) (nI (flr m)) (nI (i + 1)) J → ∃ I' J' ms' cl' b', bX10_callOthersBack_18 n (fu + 1) (nI r) (nI z) (nI M) (nI (flr m)) (nI b) (nI i) I = some (nI b', I') ∧ bX11_askBack_15 n (fur + 1) (nI r) (nI z) (nI m) (nI (flr m)) (nI i) J = some J' ∧ MLr n T I' J' ms' ∧ MSr n I' J' rw gv cl' ∧ P ms' rw gv cl' ∧ fSI I I' ∧ fSJ J J' ∧ (b' = 0 ∨ b' = 1) ∧ (b' = 1 ↔ b = 1 ∨ ∃ y, i ≤ y ∧ y < n ∧ ¬ y = z ∧ agt (gv r y) m = true) ∧ (∀ y, i ≤ y → y < n → ¬ y = z → agt (gv r y) m = true → ¬ cl' r y = 0 ∧ cl' r y ≤ flr m + 1) ∧ (∀ r' y, ¬ (r' = r ∧ i ≤ y) → cl' r' y = cl r' y) := fun b2 hb2 hbi hcl eI eJ => by
      obtain ⟨I', J', ms', cl', b', r1, r2, r3, r4, r5, r6, r7, r8, r9, r10, r11⟩ := ih (i + 1) b2 fu fur I J ms cl (by omega) (by omega) (by omega) hb2 hL hS hP hU hmst hj
      refine ⟨I', J', ms', cl', b', eI.trans r1, eJ.trans r2, r3, r4, r5, r6, r7, r8, ?_, fun y h1 h2 h3 h4 => ?_, fun r' y h => r11 r' y (by omega)⟩
      · rw [r9, hbi]
        constructor
        · rintro ((h | ⟨h1, h2⟩) | ⟨y, y1, y2, y3, y4⟩)
          · exact Or.inl h
          · exact Or.inr ⟨i, Nat.le_refl _, by omega, h1, h2⟩
          · exact Or.inr ⟨y, by omega, y2, y3, y4⟩
        · rintro (h | ⟨y, y1, y2, y3, y4⟩)
          · exact Or.inl (Or.inl h)
          · by_cases e : y = i
            · subst e
              exact Or.inl (Or.inr ⟨y3, y4⟩)
            · exact Or.inr ⟨y, by omega, y2, y3, y4⟩
      · by_cases e : y = i
        · subst e
          rw [r11 r y (by omega)]
          exact hcl h3 h4
        · exact r10 y (by omega) h2 h3 h4
    by_cases e : i = z
    · refine pass b hb ⟨Or.inl, fun h => h.elim id (fun h => absurd e h.1)⟩ (fun h => absurd e h) ?_ ?_
      · subst e
        conv => lhs; unfold bX10_callOthersBack_18
        simp (disch := omega) only [z_le, hle, if_false, if_true, bX10_callOthersBack_116, nI_add]
      · subst e
        conv => lhs; unfold bX11_askBack_15
        simp (disch := omega) only [h1, z_le, hle, if_false, pk_mul, nI_add, z_inb, g2, decide_true, z_gdt, z_clamp, bX11_askBack_59, bX11_askBack_60, if_true, bX11_askBack_108, ite_self]
    · by_cases ha : agt (gv r i) m = true
      · rw [if_pos ha] at hag
        have hlt : flr m < gv r i := of_decide_eq_true (hfd.symm.trans ha)
        by_cases hc : cl r i = 0 ∨ flr m + 1 < cl r i
        · -- i is called back
          have hL1 : MLr n T (am_up I 0 5 (4 * r + i) (nO (flr m + 1))) (am_up J 0 95 (4 * r + i) (nO (flr m + 1))) ms := ml_ms hL (fun a c q => z_upj _ _ _ _ _ _ _ (by omega)) (fun a c q => z_upj _ _ _ _ _ _ _ (by omega))
          have hS1 := ms_cl (y := i) (v := flr m + 1) hS hr (by omega) (by omega)
          have hmst1 := p_mst (I := am_up I 0 5 (4 * r + i) (nO (flr m + 1))) (J := am_up J 0 95 (4 * r + i) (nO (flr m + 1))) (r := r) hn0 hn hr (by rw [z_upj _ _ _ _ _ _ _ (by omega)]; exact h1) (fun x hx => by rw [z_upj _ _ _ _ _ _ _ (by omega), z_upj _ _ _ _ _ _ _ (by omega)]; exact hj x hx)
          rw [z_upj _ _ _ _ _ _ _ (by omega), hmst] at hmst1
          obtain ⟨I2, J2, ms2, s1, s2, s3, s4, s5, s6⟩ := p_send (n := n) (f := M) (t := i) (k := 2) (r := r) (md := flr m) hn hL1 (hPl _ _ _ _ hP) hMn (by omega) ⟨by decide, by omega, by omega⟩
          rw [z_upj _ _ _ _ _ _ _ (by omega), hU] at s6
          have hP2 := hB ms rw gv cl z m rest i ms2 hP hrow (by omega) e ha hc s6
          have f65 : J2 0 65 = U := by rw [s5.1 0 65 (by omega), z_upj _ _ _ _ _ _ _ (by omega)]; exact hU
          have f66 : J2 0 66 = J 0 66 := by rw [s5.1 0 66 (by omega), z_upj _ _ _ _ _ _ _ (by omega)]
          obtain ⟨I', J', ms', cl', b', r1, r2, r3, r4, r5, r6, r7, r8, r9, r10, r11⟩ := ih (i + 1) 1 fu fur I2 J2 ms2 (up2 cl r i (flr m + 1)) (by omega) (by omega) (by omega) (Or.inr rfl) s3 (ms_mail hS1 s4 s5) hP2 f65 (by rw [f66]; exact hmst) (fun x hx => by rw [f66, s4.1 x 40 (by omega), z_upj _ _ _ _ _ _ _ (by omega)]; exact hj x hx)
          have eI : bX10_callOthersBack_18 n (fu + 1) (nI r) (nI z) (nI M) (nI (flr m)) (nI b) (nI i) I = bX10_callOthersBack_18 n fu (nI r) (nI z) (nI M) (nI (flr m)) (nI 1) (nI (i + 1)) I2 := by
            have c92 : bX10_callOthersBack_92 n (bX10_callOthersBack_18 n fu) (nI r) (nI z) (nI M) (nI (flr m)) (nI 1) (nI i) (nI (r * 4 + i)) I = bX10_callOthersBack_18 n fu (nI r) (nI z) (nI M) (nI (flr m)) (nI 1) (nI (i + 1)) I2 := by
              rw [bX10_callOthersBack_92, am_gd_of (by rw [z_inb (by omega)]; exact decide_eq_true g1), z_clamp (by omega), am_lt, Nat.mul_comm r 4, show nI (flr m) = nO (flr m + 1) from rfl]
              rw [show nO (flr m + 1) = nI (flr m) from rfl] at s1 ⊢
              rw [s1, Option.bind_some, bX10_callOthersBack_116, nI_add]
            conv => lhs; unfold bX10_callOthersBack_18
            simp (disch := omega) only [z_le, hle, if_false, z_eq, e, pk_mul, nI_add, z_inb, g1, decide_true, z_gdt, z_clamp, v2', z_lt, hlt, if_true, v5']
            rcases hc with hc | hc
            · rw [hc, if_pos nO_0]
              exact c92
            · obtain ⟨k, hk⟩ : ∃ k, cl r i = k + 1 := ⟨cl r i - 1, by omega⟩
              rw [hk, nO_s, if_neg (z_m1n (by omega)), if_neg (by rw [z_le (by omega) (by omega)]; omega)]
              exact c92
          have eJ : bX11_askBack_15 n (fur + 1) (nI r) (nI z) (nI m) (nI (flr m)) (nI i) J = bX11_askBack_15 n fur (nI r) (nI z) (nI m) (nI (flr m)) (nI (i + 1)) J2 := by
            have c59 : bX11_askBack_59 n (bX11_askBack_15 n fur) (nI r) (nI z) (nI m) (nI (flr m)) (nI i) (nI (4 * r + i)) J = bX11_askBack_15 n fur (nI r) (nI z) (nI m) (nI (flr m)) (nI (i + 1)) J2 := by
              rw [bX11_askBack_59, bX11_askBack_60, if_neg (by rw [z_eq (by omega) (by omega)]; exact e), hag, Option.bind_some]
              show (if nI 1 = (0 : Int32) then _ else (if nI 0 = (0 : Int32) then am_gd (am_inb (nI (4 * r + i)) 544) (am_lt (am_up J 0 95 (nI (4 * r + i)).toNatClampNeg (nI (flr m))) _) else _)) = _
              rw [if_neg (by decide), if_pos (show nI 0 = (0 : Int32) from rfl), am_gd_of (by rw [z_inb (by omega)]; exact decide_eq_true g2), z_clamp (by omega), am_lt]
              rw [show nO (flr m + 1) = nI (flr m) from rfl] at s2 hmst1
              rw [hmst1.2, Option.bind_some]
              show ((gX11_send n (nI M) (nI i) (nI 2) (nI r) (nI (flr m)) (am_up J 0 95 (4 * r + i) (nI (flr m)))).bind _) = _
              rw [s2, Option.bind_some, bX11_askBack_108, nI_add]
            conv => lhs; unfold bX11_askBack_15
            simp (disch := omega) only [h1, z_le, hle, if_false, pk_mul, nI_add, z_inb, g2, decide_true, z_gdt, z_clamp, v6]
            rcases hc with hc | hc
            · rw [hc, if_pos nO_0]
              exact c59
            · obtain ⟨k, hk⟩ : ∃ k, cl r i = k + 1 := ⟨cl r i - 1, by omega⟩
              rw [hk, nO_s, if_neg (z_m1n (by omega)), if_pos (by rw [z_lt (by omega) (by omega)]; omega)]
              exact c59
          refine ⟨I', J', ms', cl', b', eI.trans r1, eJ.trans r2, r3, r4, r5, ?_, ?_, r8, ?_, fun y h1 h2 h3 h4 => ?_, fun r' y h => ?_⟩
          · exact fSI.tr (fSI.tr ⟨fun a c q => z_upj _ _ _ _ _ _ _ (by omega), fun k _ => by rw [z_upj _ _ _ _ _ _ _ (by omega)]⟩ s4.s) r6
          · exact fSJ.tr (fSJ.tr ⟨fun a c q => z_upj _ _ _ _ _ _ _ (by omega), fun k _ => by rw [z_upj _ _ _ _ _ _ _ (by omega)]⟩ s5.s) r7
          · rw [r9]
            exact ⟨fun _ => Or.inr ⟨i, Nat.le_refl _, by omega, e, ha⟩, fun _ => Or.inl rfl⟩
          · by_cases e2 : y = i
            · subst e2
              rw [r11 r y (by omega), up2_a]
              exact ⟨by omega, Nat.le_refl _⟩
            · exact r10 y (by omega) h2 h3 h4
          · rw [r11 r' y (by omega)]
            exact if_neg (fun q => h ⟨q.1, by omega⟩)
        · -- it has been called back already
          obtain ⟨k, hk⟩ : ∃ k, cl r i = k + 1 := ⟨cl r i - 1, by omega⟩
          refine pass 1 (Or.inr rfl) ⟨fun _ => Or.inr ⟨e, ha⟩, fun _ => rfl⟩ (fun _ _ => by omega) ?_ ?_
          · conv => lhs; unfold bX10_callOthersBack_18
            simp (disch := omega) only [z_le, hle, if_false, z_eq, e, pk_mul, nI_add, z_inb, g1, decide_true, z_gdt, z_clamp, v2', z_lt, hlt, if_true, v5']
            rw [hk, nO_s, if_neg (z_m1n (by omega)), if_pos (by rw [z_le (by omega) (by omega)]; omega), bX10_callOthersBack_116, nI_add]
          · conv => lhs; unfold bX11_askBack_15
            simp (disch := omega) only [h1, z_le, hle, if_false, pk_mul, nI_add, z_inb, g2, decide_true, z_gdt, z_clamp, v6]
            rw [hk, nO_s, if_neg (z_m1n (by omega)), if_neg (by rw [z_lt (by omega) (by omega)]; omega), bX11_askBack_60, if_neg (by rw [z_eq (by omega) (by omega)]; exact e), hag, Option.bind_some]
            show (if nI 1 = (0 : Int32) then _ else (if nI 1 = (0 : Int32) then _ else bX11_askBack_108 n (bX11_askBack_15 n fur) (nI r) (nI z) (nI m) (nI (flr m)) (nI i) J)) = _
            rw [if_neg (by decide), if_neg (by decide), bX11_askBack_108, nI_add]
      · -- it isn't in the way
        have hlt : ¬ flr m < gv r i := fun h => ha (hfd.trans (decide_eq_true h))
        rw [if_neg ha] at hag
        refine pass b hb ⟨Or.inl, fun h => h.elim id (fun h => absurd h.2 ha)⟩ (fun _ h => absurd h ha) ?_ ?_
        · conv => lhs; unfold bX10_callOthersBack_18
          simp (disch := omega) only [z_le, hle, if_false, z_eq, e, pk_mul, nI_add, z_inb, g1, decide_true, z_gdt, z_clamp, v2', z_lt, hlt, bX10_callOthersBack_116]
        · have c60 : ∀ s0, bX11_askBack_60 n (bX11_askBack_15 n fur) (nI r) (nI z) (nI m) (nI (flr m)) (nI i) (nI (4 * r + i)) s0 J = bX11_askBack_15 n fur (nI r) (nI z) (nI m) (nI (flr m)) (nI (i + 1)) J := fun s0 => by
            rw [bX11_askBack_60, if_neg (by rw [z_eq (by omega) (by omega)]; exact e), hag, Option.bind_some]
            show (if nI 0 = (0 : Int32) then bX11_askBack_108 n (bX11_askBack_15 n fur) (nI r) (nI z) (nI m) (nI (flr m)) (nI i) J else _) = _
            rw [if_pos (show nI 0 = (0 : Int32) from rfl), bX11_askBack_108, nI_add]
          conv => lhs; unfold bX11_askBack_15
          simp (disch := omega) only [h1, z_le, hle, if_false, pk_mul, nI_add, z_inb, g2, decide_true, z_gdt, z_clamp, v6, bX11_askBack_59, c60, ite_self]
end SERVE
