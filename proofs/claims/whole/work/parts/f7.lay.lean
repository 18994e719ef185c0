
section LAYR
variable {n : Nat} {H A : Nat → Nat → Nat}
/-- what a resource's laying anew leaves as it is -/
def lrf (n r : Nat) (J J' : am_I) : Prop := (∀ a b, ¬ (a = 0 ∧ (b = 78 ∨ b = 80 ∨ (94 ≤ b ∧ b ≤ 98))) → J' a b = J a b) ∧ (∀ k, (∀ z, z < n → ¬ k = 136 * z + r) → J' 0 78 k = J 0 78 k ∧ J' 0 80 k = J 0 80 k) ∧ (∀ k, ¬ (4 * r ≤ k ∧ k < 4 * r + 4) → J' 0 94 k = J 0 94 k ∧ J' 0 95 k = J 0 95 k) ∧ (∀ k, ¬ k = r → J' 0 96 k = J 0 96 k) ∧ ∀ k, ¬ (16 * r ≤ k ∧ k < 16 * r + 16) → J' 0 97 k = J 0 97 k ∧ J' 0 98 k = J 0 98 k
theorem lrf.rf {r : Nat} {J : am_I} : lrf n r J J := ⟨fun _ _ _ => rfl, fun _ _ => ⟨rfl, rfl⟩, fun _ _ => ⟨rfl, rfl⟩, fun _ _ => rfl, fun _ _ => ⟨rfl, rfl⟩⟩
theorem lrf.tr {r : Nat} {J J' J'' : am_I} (h : lrf n r J J') (h' : lrf n r J' J'') : lrf n r J J'' := ⟨fun a b q => (h'.1 a b q).trans (h.1 a b q), fun k q => ⟨(h'.2.1 k q).1.trans (h.2.1 k q).1, (h'.2.1 k q).2.trans (h.2.1 k q).2⟩, fun k q => ⟨(h'.2.2.1 k q).1.trans (h.2.2.1 k q).1, (h'.2.2.1 k q).2.trans (h.2.2.1 k q).2⟩, fun k q => (h'.2.2.2.1 k q).trans (h.2.2.2.1 k q), fun k q => ⟨(h'.2.2.2.2 k q).1.trans (h.2.2.2.2 k q).1, (h'.2.2.2.2 k q).2.trans (h.2.2.2.2 k q).2⟩⟩
/-- what laying anew looks at -/
def lrh (n r : Nat) (mv : Int32) (H A : Nat → Nat → Nat) (J : am_I) : Prop := J 0 60 1 = nI n ∧ ((∃ M, M < 4 ∧ mv = nI M ∧ J 0 65 M = nI 1) ∨ (mv = (-1 : Int32) ∧ ∀ z, z < n → H z r = 0 ∧ A z r = 0)) ∧ ∀ z, z < n → (J 0 65 z = nI 1 ∨ (J 0 65 z = nI 0 ∧ H z r = 0 ∧ A z r = 0)) ∧ (H z r ≤ 2 ∧ J 0 76 (136 * z + r) = nI (H z r)) ∧ A z r ≤ 2 ∧ J 0 77 (136 * z + r) = nI (A z r)
theorem lrh_cg {r : Nat} {mv : Int32} {J J' : am_I} (h : lrh n r mv H A J) (h1 : J' 0 60 = J 0 60) (h65 : J' 0 65 = J 0 65) (h76 : J' 0 76 = J 0 76) (h77 : J' 0 77 = J 0 77) : lrh n r mv H A J' := by
  unfold lrh at h ⊢
  rw [h1, h65, h76, h77]
  exact h
theorem lr_st {r i : Nat} {mv : Int32} {k6 : Int32 → am_I → Option am_I} {fu : Nat} {J : am_I} (hn : n ≤ 4) (hr : r < 136) (hi : i < n) (hh : lrh n r mv H A J) : bX11_layAnew_26 n k6 (fu + 1) (nI r) mv (nI i) J = if A i r = 0 then bX11_layAnew_26 n k6 fu (nI r) mv (nI (i + 1)) (am_up (am_up (am_up J 0 78 (136 * i + r) (-1 : Int32)) 0 80 (136 * i + r) (nI 0)) 0 94 (4 * r + i) (nI (H i r))) else (gX11_addRequest n (nI r) (nI i) (nI (A i r)) (am_up (am_up (am_up J 0 78 (136 * i + r) (-1 : Int32)) 0 80 (136 * i + r) (nI 0)) 0 94 (4 * r + i) (nI (H i r)))).bind (fun q9 => bX11_layAnew_26 n k6 fu (nI r) mv (nI (i + 1)) q9) := by
  obtain ⟨h1, hm, hz⟩ := hh
  obtain ⟨hz1, ⟨hz2, hz3⟩, hz4, hz5⟩ := hz i hi
  have at1 : ∀ Jx, gX11_at n (nI i) (nI r) Jx = some (nI (136 * i + r), Jx) := fun Jx => by simp (disch := omega) only [gX11_at, bX11_at_0, pk_mul, nI_add]
  have gk : am_inb (nI (136 * i + r)) 544 = true := by rw [z_inb (by omega)]; exact decide_eq_true (by omega)
  have kk : (nI (136 * i + r)).toNatClampNeg = 136 * i + r := z_clamp (by omega)
  have gi : am_inb (nI i) 4 = true := by rw [z_inb (by omega)]; exact decide_eq_true (by omega)
  have ki : (nI i).toNatClampNeg = i := z_clamp (by omega)
  have g4 : am_inb (nI (4 * r + i)) 544 = true := by rw [z_inb (by omega)]; exact decide_eq_true (by omega)
  have k4 : (nI (4 * r + i)).toNatClampNeg = 4 * r + i := z_clamp (by omega)
  let J2 : am_I := am_up (am_up J 0 78 (136 * i + r) (-1 : Int32)) 0 80 (136 * i + r) (nI 0)
  have o2 : ∀ j, ¬ (j = 78 ∨ j = 80) → J2 0 j = J 0 j := fun j q => (z_upj _ _ _ _ _ _ _ (by omega)).trans (z_upj _ _ _ _ _ _ _ (by omega))
  have o3 : ∀ j, ¬ (j = 78 ∨ j = 80 ∨ j = 94) → am_up J2 0 94 (4 * r + i) (nI (H i r)) 0 j = J 0 j := fun j q => (z_upj _ _ _ _ _ _ _ (by omega)).trans (o2 j (by omega))
  have st0 : bX11_layAnew_26 n k6 (fu + 1) (nI r) mv (nI i) J = if mv = (-1 : Int32) then bX11_layAnew_101 n k6 (bX11_layAnew_26 n k6 fu) (nI r) mv (nI i) (nI (4 * r + i)) J2 else am_gd (am_inb mv 4) (if J2 0 65 mv.toNatClampNeg = 0 then bX11_layAnew_101 n k6 (bX11_layAnew_26 n k6 fu) (nI r) mv (nI i) (nI (4 * r + i)) J2 else (if J2 0 65 i = 0 then bX11_layAnew_101 n k6 (bX11_layAnew_26 n k6 fu) (nI r) mv (nI i) (nI (4 * r + i)) J2 else bX11_layAnew_102 n k6 (bX11_layAnew_26 n k6 fu) (nI r) mv (nI i) (nI (H i r)) (nI (4 * r + i)) J2)) := by
    conv => lhs; unfold bX11_layAnew_26
    dsimp only
    rw [if_neg (by rw [h1, z_le (by omega) (by omega)]; omega), at1, Option.bind_some]
    dsimp only
    rw [am_gd_of gk, am_lt, kk, at1, Option.bind_some]
    dsimp only
    rw [am_gd_of gk, am_lt, kk, pk_mul, nI_add, am_gd_of gi, ki, at1, Option.bind_some]
    dsimp only
    rw [am_gd_of gk, kk]
    rw [show am_up (am_up J 0 78 (136 * i + r) (-1 : Int32)) 0 80 (136 * i + r) (nI 0) 0 76 (136 * i + r) = nI (H i r) by rw [show am_up (am_up J 0 78 (136 * i + r) (-1 : Int32)) 0 80 (136 * i + r) (nI 0) 0 76 = J 0 76 from o2 76 (by omega)]; exact hz3]
  have s102 : ∀ v : Int32, v = nI (H i r) → bX11_layAnew_102 n k6 (bX11_layAnew_26 n k6 fu) (nI r) mv (nI i) v (nI (4 * r + i)) J2 = if mv = (-1 : Int32) then bX11_layAnew_26 n k6 fu (nI r) mv (nI (i + 1)) (am_up J2 0 94 (4 * r + i) (nI (H i r))) else am_gd (am_inb mv 4) (if J 0 65 mv.toNatClampNeg = 0 then bX11_layAnew_26 n k6 fu (nI r) mv (nI (i + 1)) (am_up J2 0 94 (4 * r + i) (nI (H i r))) else (if J 0 65 i = 0 then bX11_layAnew_26 n k6 fu (nI r) mv (nI (i + 1)) (am_up J2 0 94 (4 * r + i) (nI (H i r))) else (if nI (A i r) ≤ 0 then bX11_layAnew_26 n k6 fu (nI r) mv (nI (i + 1)) (am_up J2 0 94 (4 * r + i) (nI (H i r))) else (gX11_addRequest n (nI r) (nI i) (nI (A i r)) (am_up J2 0 94 (4 * r + i) (nI (H i r)))).bind (fun q9 => bX11_layAnew_26 n k6 fu (nI r) mv (nI (i + 1)) q9)))) := fun v hv => by
    unfold bX11_layAnew_102 bX11_layAnew_155
    rw [am_gd_of g4, am_lt, k4, hv, am_gd_of gi, ki, at1, Option.bind_some]
    dsimp only
    rw [am_gd_of gk, kk, at1, Option.bind_some]
    dsimp only
    rw [am_gd_of gk, kk, nI_add]
    have e1 : am_up J2 0 94 (4 * r + i) (nI (H i r)) 0 77 (136 * i + r) = nI (A i r) := by rw [o3 77 (by omega)]; exact hz5
    have e2 : am_up J2 0 94 (4 * r + i) (nI (H i r)) 0 65 = J 0 65 := o3 65 (by omega)
    simp only [e1, e2]
  rcases hm with ⟨M, hM, hmv, hUM⟩ | ⟨hmv, h0⟩
  · have nm : ¬ mv = (-1 : Int32) := by rw [hmv]; exact z_m1n (by omega)
    have gm : am_inb mv 4 = true := by rw [hmv, z_inb (by omega)]; exact decide_eq_true hM
    have km : mv.toNatClampNeg = M := by rw [hmv]; exact z_clamp (by omega)
    have e65 : J2 0 65 = J 0 65 := o2 65 (by omega)
    have uM : ¬ J 0 65 M = 0 := by rw [hUM]; decide
    rw [st0, if_neg nm, am_gd_of gm, km, e65, if_neg uM]
    rcases hz1 with hu | ⟨hu, hH, hA⟩
    · have ui : ¬ J 0 65 i = 0 := by rw [hu]; decide
      rw [if_neg ui, s102 _ rfl, if_neg nm, am_gd_of gm, km, if_neg uM, if_neg ui]
      by_cases c : A i r = 0
      · rw [if_pos c, if_pos (by rw [c]; decide)]
      · rw [if_neg c, if_neg (show ¬ nI (A i r) ≤ 0 from fun q => absurd ((z_le (a := A i r) (b := 0) (by omega) (by omega)).mp q) (by omega))]
    · have ui : J 0 65 i = 0 := hu
      rw [if_pos ui]
      unfold bX11_layAnew_101
      rw [s102 (nI 0) (by rw [hH]), if_neg nm, am_gd_of gm, km, if_neg uM, if_pos ui, if_pos hA]
  · obtain ⟨hH, hA⟩ := h0 i hi
    rw [st0, if_pos hmv]
    unfold bX11_layAnew_101
    rw [s102 (nI 0) (by rw [hH]), if_pos hmv, if_pos hA]
theorem lr_26 {r : Nat} {mv : Int32} {k6 : Int32 → am_I → Option am_I} (hn : n ≤ 4) (hr : r < 136) : ∀ (q i fu : Nat) (J : am_I), i + q = n → q < fu → msJ1 J (arow A i r) (hv H i r) r → lrh n r mv H A J → ∃ J', bX11_layAnew_26 n k6 fu (nI r) mv (nI i) J = k6 (nI (r + 1)) J' ∧ msJ1 J' (arow A n r) (hv H n r) r ∧ (∀ z, i ≤ z → z < n → J' 0 78 (136 * z + r) = (-1 : Int32) ∧ J' 0 80 (136 * z + r) = nI 0) ∧ (∀ z, z < i → J' 0 78 (136 * z + r) = J 0 78 (136 * z + r) ∧ J' 0 80 (136 * z + r) = J 0 80 (136 * z + r)) ∧ lrf n r J J' := by
  intro q
  induction q with
  | zero =>
    intro i fu J hi hf hM hh
    obtain ⟨fu, rfl⟩ : ∃ f, fu = f + 1 := ⟨fu - 1, by omega⟩
    obtain rfl : i = n := by omega
    refine ⟨J, ?_, hM, fun z q1 q2 => absurd q1 (by omega), fun _ _ => ⟨rfl, rfl⟩, lrf.rf⟩
    conv => lhs; unfold bX11_layAnew_26
    dsimp only
    rw [if_pos (by rw [hh.1, z_le (by omega) (by omega)]; omega), nI_add]
  | succ q ih =>
    intro i fu J hi hf hM hh
    obtain ⟨fu, rfl⟩ : ∃ f, fu = f + 1 := ⟨fu - 1, by omega⟩
    have hal := arow_len (A := A) (r := r) i
    obtain ⟨w1, w2, w3⟩ := hM
    let J3 : am_I := am_up (am_up (am_up J 0 78 (136 * i + r) (-1 : Int32)) 0 80 (136 * i + r) (nI 0)) 0 94 (4 * r + i) (nI (H i r))
    have o3 : ∀ a b, ¬ (a = 0 ∧ (b = 78 ∨ b = 80 ∨ b = 94)) → J3 a b = J a b := fun a b q => (z_upj _ _ _ _ _ _ _ (by omega)).trans ((z_upj _ _ _ _ _ _ _ (by omega)).trans (z_upj _ _ _ _ _ _ _ (by omega)))
    have k78 : ∀ k, J3 0 78 k = if k = 136 * i + r then (-1 : Int32) else J 0 78 k := fun k => by
      show am_up (am_up (am_up J 0 78 _ _) 0 80 _ _) 0 94 _ _ 0 78 k = _
      rw [z_upj _ _ _ _ _ _ _ (by omega), z_upj _ _ _ _ _ _ _ (by omega), z_upk]
    have k80 : ∀ k, J3 0 80 k = if k = 136 * i + r then nI 0 else J 0 80 k := fun k => by
      show am_up (am_up (am_up J 0 78 _ _) 0 80 _ _) 0 94 _ _ 0 80 k = _
      rw [z_upj _ _ _ _ _ _ _ (by omega), z_upk, z_upj _ _ _ _ _ _ _ (by omega)]
    have k94 : ∀ k, J3 0 94 k = if k = 4 * r + i then nI (H i r) else J 0 94 k := fun k => by
      show am_up (am_up (am_up J 0 78 _ _) 0 80 _ _) 0 94 _ _ 0 94 k = _
      rw [z_upk, z_upj _ _ _ _ _ _ _ (by omega), z_upj _ _ _ _ _ _ _ (by omega)]
    have lr3 : lrf n r J J3 := ⟨fun a b q => o3 a b (by omega), fun k q => by rw [k78, k80, if_neg (q i (by omega)), if_neg (q i (by omega))]; exact ⟨rfl, rfl⟩, fun k q => by rw [k94, if_neg (by omega), o3 0 95 (by omega)]; exact ⟨rfl, rfl⟩, fun k q => by rw [o3 0 96 (by omega)], fun k q => by rw [o3 0 97 (by omega), o3 0 98 (by omega)]; exact ⟨rfl, rfl⟩⟩
    have fin : ∀ J4 : am_I, lrf n r J J4 → msJ1 J4 (arow A (i + 1) r) (hv H (i + 1) r) r → (∀ k, J4 0 78 k = J3 0 78 k ∧ J4 0 80 k = J3 0 80 k) → J4 0 60 = J 0 60 → J4 0 65 = J 0 65 → J4 0 76 = J 0 76 → J4 0 77 = J 0 77 → ∃ J', bX11_layAnew_26 n k6 fu (nI r) mv (nI (i + 1)) J4 = k6 (nI (r + 1)) J' ∧ msJ1 J' (arow A n r) (hv H n r) r ∧ (∀ z, i ≤ z → z < n → J' 0 78 (136 * z + r) = (-1 : Int32) ∧ J' 0 80 (136 * z + r) = nI 0) ∧ (∀ z, z < i → J' 0 78 (136 * z + r) = J 0 78 (136 * z + r) ∧ J' 0 80 (136 * z + r) = J 0 80 (136 * z + r)) ∧ lrf n r J J' := by
      intro J4 h1 h2 h3 h4 h5 h6 h7
      obtain ⟨J', k1, k2, k3, k4, k5⟩ := ih (i + 1) fu J4 (by omega) (by omega) h2 (lrh_cg hh h4 h5 h6 h7)
      refine ⟨J', k1, k2, fun z q1 q2 => ?_, fun z q => ?_, h1.tr k5⟩
      · by_cases e : z = i
        · rw [(k4 z (by omega)).1, (k4 z (by omega)).2, (h3 _).1, (h3 _).2, k78, k80, if_pos (by rw [e]), if_pos (by rw [e])]
          exact ⟨rfl, rfl⟩
        · exact k3 z (by omega) q2
      · rw [(k4 z (by omega)).1, (k4 z (by omega)).2, (h3 _).1, (h3 _).2, k78, k80, if_neg (by omega), if_neg (by omega)]
        exact ⟨rfl, rfl⟩
    have gvs : ∀ J4 : am_I, J4 0 94 = J3 0 94 → J4 0 95 = J 0 95 → ∀ y, y < 4 → J4 0 94 (4 * r + y) = nI (hv H (i + 1) r y) ∧ J4 0 95 (4 * r + y) = (-1 : Int32) := fun J4 h1 h2 y hy => by
      rw [h1, h2, k94]
      refine ⟨?_, (w3 y hy).2⟩
      by_cases d : y = i
      · rw [if_pos (by omega), d]
        unfold hv
        rw [if_pos (by omega)]
      · rw [if_neg (by omega), (w3 y hy).1]
        unfold hv
        by_cases d2 : y < i
        · rw [if_pos d2, if_pos (by omega)]
        · rw [if_neg d2, if_neg (by omega)]
    rw [lr_st hn hr (by omega) hh]
    by_cases c : A i r = 0
    · have er : arow A (i + 1) r = arow A i r := by
        show arow A i r ++ _ = _
        rw [if_pos c, List.append_nil]
      rw [if_pos c]
      exact fin J3 lr3 ⟨by rw [o3 0 96 (by omega), er]; exact w1, fun k e he => by rw [er] at he; rw [o3 0 97 (by omega), o3 0 98 (by omega)]; exact w2 k e he, gvs J3 rfl (o3 0 95 (by omega))⟩ (fun _ => ⟨rfl, rfl⟩) (o3 0 60 (by omega)) (o3 0 65 (by omega)) (o3 0 76 (by omega)) (o3 0 77 (by omega))
    · have er : arow A (i + 1) r = arow A i r ++ [(i, A i r)] := by
        show arow A i r ++ _ = _
        rw [if_neg c]
      have g1 : 16 * r + (arow A i r).length < 2176 := by omega
      have c3 : J3 0 96 r = nI (arow A i r).length := by rw [o3 0 96 (by omega)]; exact w1
      let J4 : am_I := am_up (am_up (am_up J3 0 97 (16 * r + (arow A i r).length) (nI i)) 0 98 (16 * r + (arow A i r).length) (nI (A i r))) 0 96 r (nI ((arow A i r).length + 1))
      have hadd : gX11_addRequest n (nI r) (nI i) (nI (A i r)) J3 = some J4 := by
        simp (disch := omega) only [gX11_addRequest, bX11_addRequest_0, z_inb, hr, decide_true, z_gdt, z_clamp, c3, pk_mul, nI_add, g1, am_lt, z_upj]
        rfl
      have o4 : ∀ a b, ¬ (a = 0 ∧ (b = 96 ∨ b = 97 ∨ b = 98)) → J4 a b = J3 a b := fun a b q => (z_upj _ _ _ _ _ _ _ (by omega)).trans ((z_upj _ _ _ _ _ _ _ (by omega)).trans (z_upj _ _ _ _ _ _ _ (by omega)))
      have k96 : ∀ p, J4 0 96 p = if p = r then nI ((arow A i r).length + 1) else J 0 96 p := fun p => by
        show am_up (am_up (am_up J3 0 97 _ _) 0 98 _ _) 0 96 r _ 0 96 p = _
        rw [z_upk, z_upj _ _ _ _ _ _ _ (by omega), z_upj _ _ _ _ _ _ _ (by omega), o3 0 96 (by omega)]
      have k97 : ∀ p, J4 0 97 p = if p = 16 * r + (arow A i r).length then nI i else J 0 97 p := fun p => by
        show am_up (am_up (am_up J3 0 97 _ _) 0 98 _ _) 0 96 r _ 0 97 p = _
        rw [z_upj _ _ _ _ _ _ _ (by omega), z_upj _ _ _ _ _ _ _ (by omega), z_upk, o3 0 97 (by omega)]
      have k98 : ∀ p, J4 0 98 p = if p = 16 * r + (arow A i r).length then nI (A i r) else J 0 98 p := fun p => by
        show am_up (am_up (am_up J3 0 97 _ _) 0 98 _ _) 0 96 r _ 0 98 p = _
        rw [z_upj _ _ _ _ _ _ _ (by omega), z_upk, z_upj _ _ _ _ _ _ _ (by omega), o3 0 98 (by omega)]
      rw [if_neg c]
      rw [show gX11_addRequest n (nI r) (nI i) (nI (A i r)) (am_up (am_up (am_up J 0 78 (136 * i + r) (-1 : Int32)) 0 80 (136 * i + r) (nI 0)) 0 94 (4 * r + i) (nI (H i r))) = some J4 from hadd, Option.bind_some]
      exact fin J4 (lr3.tr ⟨fun a b q => o4 a b (by omega), fun k _ => by rw [o4 0 78 (by omega), o4 0 80 (by omega)]; exact ⟨rfl, rfl⟩, fun k _ => by rw [o4 0 94 (by omega), o4 0 95 (by omega)]; exact ⟨rfl, rfl⟩, fun k q => by rw [k96, if_neg q, o3 0 96 (by omega)], fun k q => by rw [k97, k98, if_neg (by omega), if_neg (by omega), o3 0 97 (by omega), o3 0 98 (by omega)]; exact ⟨rfl, rfl⟩⟩) ⟨by rw [k96, if_pos rfl, er, List.length_append]; rfl, fun k e he => by
        rw [er] at he
        rw [k97, k98]
        rcases app_get he with ⟨q1, q2⟩ | ⟨q1, q2⟩
        · rw [if_neg (by omega), if_neg (by omega)]; exact w2 k e q2
        · rw [if_pos (by omega), if_pos (by omega), q2]; exact ⟨rfl, rfl⟩, gvs J4 (o4 0 94 (by omega)) (by rw [o4 0 95 (by omega), o3 0 95 (by omega)])⟩ (fun k => by rw [o4 0 78 (by omega), o4 0 80 (by omega)]; exact ⟨rfl, rfl⟩) (by rw [o4 0 60 (by omega), o3 0 60 (by omega)]) (by rw [o4 0 65 (by omega), o3 0 65 (by omega)]) (by rw [o4 0 76 (by omega), o3 0 76 (by omega)]) (by rw [o4 0 77 (by omega), o3 0 77 (by omega)])
theorem lr_6 (hn0 : 0 < n) (hn : n ≤ 4) (jn : Nat → Int32) : ∀ (q r fu : Nat) (J : am_I), r + q = 136 → q < fu → J 0 66 = jn → (∀ s, s < r → msJ1 J (arow A n s) (hv H n s) s) → (∀ s, s < r → ∀ z, z < n → J 0 78 (136 * z + s) = (-1 : Int32) ∧ J 0 80 (136 * z + s) = nI 0) → (∀ s, s < 136 → lrh n s (mst n jn s n 0) H A J) → ∃ J', bX11_layAnew_6 n fu (nI r) J = bX11_layAnew_169 n am_fu (nI 0) J' ∧ (∀ s, s < 136 → msJ1 J' (arow A n s) (hv H n s) s) ∧ (∀ s, s < 136 → ∀ z, z < n → J' 0 78 (136 * z + s) = (-1 : Int32) ∧ J' 0 80 (136 * z + s) = nI 0) ∧ ∀ a b, ¬ (a = 0 ∧ (b = 78 ∨ b = 80 ∨ (94 ≤ b ∧ b ≤ 98))) → J' a b = J a b := by
  intro q
  induction q with
  | zero =>
    intro r fu J hr hf h66 hlo hlo2 hh
    obtain ⟨fu, rfl⟩ : ∃ f, fu = f + 1 := ⟨fu - 1, by omega⟩
    refine ⟨J, ?_, fun s hs => hlo s (by omega), fun s hs => hlo2 s (by omega), fun _ _ _ => rfl⟩
    conv => lhs; unfold bX11_layAnew_6
    dsimp only
    rw [if_pos (by rw [z_le (by omega) (by omega)]; omega)]
  | succ q ih =>
    intro r fu J hr hf h66 hlo hlo2 hh
    obtain ⟨fu, rfl⟩ : ∃ f, fu = f + 1 := ⟨fu - 1, by omega⟩
    have hr6 : r < 136 := by omega
    obtain ⟨f, hfu, hf1⟩ := fu_ex
    obtain ⟨J1, d1, d2, d3, d4, d5⟩ := r_wipe (n := n) (J := J) hr6
    have hh1 : ∀ s, s < 136 → lrh n s (mst n jn s n 0) H A J1 := fun s hs => lrh_cg (hh s hs) (d5 0 60 (by omega)) (d5 0 65 (by omega)) (d5 0 76 (by omega)) (d5 0 77 (by omega))
    have hmst : gX11_masterOf n (nI r) J1 = some (mst n jn r n 0, J1) := by
      obtain ⟨f', hf', -⟩ := fu_ex
      rw [gX11_masterOf, bX11_masterOf_0]
      have := r_mst (n := n) (r := r) (J := J1) hn0 hn hr6 (hh1 r hr6).1 n 0 am_fu (by omega) (by rw [hfu]; omega)
      rw [d5 0 66 (by omega), h66] at this
      exact this
    obtain ⟨J2, k1, k2, k3, -, k5⟩ := lr_26 (n := n) (H := H) (A := A) (mv := mst n jn r n 0) (k6 := bX11_layAnew_6 n fu) hn hr6 n 0 am_fu J1 (by omega) (by rw [hfu]; omega) ⟨by rw [d4, if_pos rfl]; rfl, fun i e he => by simp [arow] at he, fun y hy => by
      rw [hv_0, d2, if_pos (by omega), d3, if_pos (by omega)]
      exact ⟨rfl, rfl⟩⟩ (hh1 r hr6)
    have fr : ∀ a b, ¬ (a = 0 ∧ (b = 78 ∨ b = 80 ∨ (94 ≤ b ∧ b ≤ 98))) → J2 a b = J a b := fun a b q => (k5.1 a b q).trans (d5 a b (by omega))
    obtain ⟨J3, w1, w2, w3, w4⟩ := ih (r + 1) fu J2 (by omega) (by omega) (by rw [fr 0 66 (by omega)]; exact h66) (fun s hs => by
      by_cases e : s = r
      · rw [e]; exact k2
      · obtain ⟨u1, u2, u3⟩ := hlo s (by omega)
        have hl2 : (arow A n s).length ≤ 4 := Nat.le_trans (arow_len _) hn
        refine ⟨by rw [k5.2.2.2.1 s e, d4, if_neg e]; exact u1, fun i e' he => ?_, fun y hy => ?_⟩
        · have hk := (List.getElem?_eq_some_iff.mp he).1
          rw [(k5.2.2.2.2 _ (by omega)).1, (k5.2.2.2.2 _ (by omega)).2, d5 0 97 (by omega), d5 0 98 (by omega)]
          exact u2 i e' he
        · rw [(k5.2.2.1 _ (by omega)).1, (k5.2.2.1 _ (by omega)).2, d2, if_neg (by omega), d3, if_neg (by omega)]
          exact u3 y hy) (fun s hs z hz => by
      by_cases e : s = r
      · rw [e]; exact k3 z (Nat.zero_le _) hz
      · rw [(k5.2.1 _ (fun z' hz' q => by omega)).1, (k5.2.1 _ (fun z' hz' q => by omega)).2, d5 0 78 (by omega), d5 0 80 (by omega)]
        exact hlo2 s (by omega) z hz) (fun s hs => lrh_cg (hh s hs) (fr 0 60 (by omega)) (fr 0 65 (by omega)) (fr 0 76 (by omega)) (fr 0 77 (by omega)))
    refine ⟨J3, ?_, w2, w3, fun a b q => (w4 a b q).trans (fr a b q)⟩
    conv => lhs; unfold bX11_layAnew_6
    dsimp only
    rw [if_neg (by rw [z_le (by omega) (by omega)]; omega), d1, Option.bind_some, hmst, Option.bind_some]
    dsimp only
    rw [k1]
    exact w1
theorem nms_lp : ∀ (q k fu : Nat) (J : am_I), k + q = 16 → q < fu → ∃ J', bX11_noMessages_7 n fu (nI k) J = some J' ∧ (∀ p, J' 0 108 p = if k ≤ p ∧ p < 16 then nI 0 else J 0 108 p) ∧ ∀ a b, ¬ (a = 0 ∧ b = 108) → J' a b = J a b := by
  intro q
  induction q with
  | zero =>
    intro k fu J hk hf
    obtain ⟨fu, rfl⟩ : ∃ f, fu = f + 1 := ⟨fu - 1, by omega⟩
    refine ⟨J, ?_, fun p => by rw [if_neg (by omega)], fun _ _ _ => rfl⟩
    conv => lhs; unfold bX11_noMessages_7
    dsimp only
    rw [if_pos (by rw [z_le (by omega) (by omega)]; omega)]
  | succ q ih =>
    intro k fu J hk hf
    obtain ⟨fu, rfl⟩ : ∃ f, fu = f + 1 := ⟨fu - 1, by omega⟩
    obtain ⟨J', e1, e2, e3⟩ := ih (k + 1) fu (am_up J 0 108 k (nI 0)) (by omega) (by omega)
    refine ⟨J', ?_, fun p => ?_, fun a b q => by rw [e3 a b q, z_upj _ _ _ _ _ _ _ (by omega)]⟩
    · rw [← e1]
      conv => lhs; unfold bX11_noMessages_7
      dsimp only
      rw [if_neg (by rw [z_le (by omega) (by omega)]; omega), am_gd_of (by rw [z_inb (by omega)]; exact decide_eq_true (by omega)), am_lt, z_clamp (by omega), nI_add]
    · rw [e2 p, z_upk]
      by_cases e : k + 1 ≤ p ∧ p < 16
      · rw [if_pos e, if_pos (by omega)]
      · rw [if_neg e]
        by_cases d : p = k
        · rw [if_pos d, if_pos (by omega)]
        · rw [if_neg d, if_neg (by omega)]
/-- the reference lays the locks anew, up to the serving -/
theorem r_lay (hn0 : 0 < n) (hn : n ≤ 4) {J : am_I} (hh : ∀ s, s < 136 → lrh n s (mst n (J 0 66) s n 0) H A J) : ∃ J', gX11_layAnew n J = bX11_layAnew_169 n am_fu (nI 0) J' ∧ (∀ s, s < 136 → msJ1 J' (arow A n s) (hv H n s) s) ∧ (∀ s, s < 136 → ∀ z, z < n → J' 0 78 (136 * z + s) = (-1 : Int32) ∧ J' 0 80 (136 * z + s) = nI 0) ∧ J' 0 60 38 = nI 0 ∧ (∀ k, ¬ k = 38 → J' 0 60 k = J 0 60 k) ∧ (∀ k, k < 16 → J' 0 108 k = nI 0) ∧ ∀ a b, ¬ (a = 0 ∧ (b = 60 ∨ b = 78 ∨ b = 80 ∨ (94 ≤ b ∧ b ≤ 98) ∨ b = 108)) → J' a b = J a b := by
  obtain ⟨f, hf, hf1⟩ := fu_ex
  obtain ⟨J1, e1, e2, e3⟩ := nms_lp (n := n) 16 0 am_fu (am_up J 0 60 38 (nI 0)) (by omega) (by rw [hf]; omega)
  have o1 : ∀ a b, ¬ (a = 0 ∧ (b = 60 ∨ b = 108)) → J1 a b = J a b := fun a b q => by rw [e3 a b (by omega), z_upj _ _ _ _ _ _ _ (by omega)]
  have k60 : ∀ k, J1 0 60 k = if k = 38 then nI 0 else J 0 60 k := fun k => by rw [e3 0 60 (by omega), z_upk]
  obtain ⟨J2, w1, w2, w3, w4⟩ := lr_6 (n := n) (H := H) (A := A) hn0 hn (J 0 66) 136 0 am_fu J1 (by omega) (by rw [hf]; omega) (o1 0 66 (by omega)) (fun s hs => absurd hs (by omega)) (fun s hs => absurd hs (by omega)) (fun s hs => by
    have := hh s hs
    unfold lrh at this ⊢
    rw [k60, if_neg (by omega), o1 0 65 (by omega), o1 0 76 (by omega), o1 0 77 (by omega)]
    exact this)
  refine ⟨J2, ?_, w2, w3, by rw [w4 0 60 (by omega), k60, if_pos rfl], fun k q => by rw [w4 0 60 (by omega), k60, if_neg q], fun k hk => by rw [w4 0 108 (by omega), e2, if_pos ⟨Nat.zero_le _, hk⟩], fun a b q => by rw [w4 a b (by omega), o1 a b (by omega)]⟩
  rw [gX11_layAnew, bX11_layAnew_0, gX11_noMessages, bX11_noMessages_0, am_lt, e1, Option.bind_some, w1]
end LAYR
