
section OBS2
variable {n k T e : Nat} {I J : am_I}
/-- LOCK -/
theorem pr_lock (k : Nat) (I J : am_I) (p0 p1 p2 : Int32) (h : Inv n (k + 1) I J) : PR_lock n k I J p0 p1 p2 := by
  unfold PR_lock
  obtain ⟨T, e, g, h1, h2, h3, h4⟩ := id h
  obtain ⟨⟨hn, hn4⟩, j1⟩ := gs_1 h1
  have bad : gX11_lock n p0 p1 p2 J = bX11_lock_29 n p0 p1 p2 J → gX11_lock n p0 p1 p2 J = some (nI 0, am_up J 0 60 0 (nI 1)) := fun q1 => by
    rw [q1, bX11_lock_29, bX11_lock_34, r_ref1, Option.bind_some]
    dsimp only
    rw [if_neg n10]
  rcases x_node (I := I) hn hn4 j1 p0 with ⟨a, ha, rfl, s1, s2⟩ | ⟨s1, s2⟩
  · rcases x_res (n := n) (I := I) (J := J) p1 with ⟨r, hr, rfl, t1, t2⟩ | ⟨t1, t2⟩
    · rcases p_rng p2 (m := 5) (by omega) with ⟨t, ht, rfl⟩ | q
      · left
        have ga : am_inb (nI a) n = true := by rw [z_inb (by omega)]; exact decide_eq_true ha
        have ga4 : am_inb (nI a) 4 = true := by rw [z_inb (by omega)]; exact decide_eq_true (by omega)
        have ka : (nI a).toNatClampNeg = a := z_clamp (by omega)
        have gr : am_inb (nI r) 136 = true := by rw [z_inb (by omega)]; exact decide_eq_true hr
        have kr : (nI r).toNatClampNeg = r := z_clamp (by omega)
        have g4 : am_inb (nI r * nI 4 + nI a) 544 = true := by rw [pk_mul, nI_add, z_inb (by omega)]; exact decide_eq_true (by omega)
        have k4 : (nI r * nI 4 + nI a).toNatClampNeg = 4 * r + a := by rw [pk_mul, nI_add, z_clamp (by omega), Nat.mul_comm]
        have g4' : am_inb (nI 4 * nI r + nI a) 544 = true := by rw [pk_mul, nI_add, z_inb (by omega)]; exact decide_eq_true (by omega)
        have k4' : (nI 4 * nI r + nI a).toNatClampNeg = 4 * r + a := by rw [pk_mul, nI_add, z_clamp (by omega)]
        have g5 : am_inb (nI (136 * a + r)) 544 = true := by rw [z_inb (by omega)]; exact decide_eq_true (by omega)
        have k5 : (nI (136 * a + r)).toNatClampNeg = 136 * a + r := z_clamp (by omega)
        obtain ⟨rw, gv, cl, A, jl, ⟨ms, H, B, K, lg, fb, fq, mk, hc⟩, hg, hns, hW⟩ := h1
        have o : ∀ j, ¬ j = 60 → am_up J 0 60 0 (nI 0) 0 j = J 0 j := fun j q => z_upj _ _ _ _ _ _ _ (by omega)
        obtain ⟨l1, l2, l3⟩ := (hc.2.2.2.2.1 a ha).2.2.2.2.1 r hr
        have m4 := (hc.2.2.1 r hr).2.2.2.2 a (by omega)
        have e54 : I a 54 r = if J 0 87 a = nI 1 then J 0 81 (136 * a + r) else nI 0 := by
          obtain ⟨-, -, w⟩ := hns a ha
          rcases w with ⟨w1, ls, w2, -⟩ | ⟨w1, w2⟩
          · rw [if_pos w1]
            exact (w2.2.2.1.2 r hr).2.1
          · rw [if_neg w1]
            exact w2.2.2.1 r hr
        have c10 : gX10_lock n (nI a) (nI r) (nI t) I = (if nI t = nI 0 then (some (.inl (some (I a 49 r)), I)) else (if nI t = nI 1 then (some (.inl (some (I a 50 r)), I)) else (if nI t = nI 2 then (some (.inl (some (I a 51 r)), I)) else (if nI t = nI 3 then (some (.inl (some (I a 54 r)), I)) else (some (.inl (some (I 0 4 (4 * r + a))), I)))))) := by
          rw [gX10_lock, bX10_lock_0, s1, Option.bind_some]
          dsimp only
          rw [if_neg n10, t1, Option.bind_some]
          dsimp only
          rw [if_neg n10, z_0, i_le (by omega) (by omega), am_gd_of ga, ka, am_gd_of gr, kr, am_gd_of gr, am_gd_of gr, am_gd_of gr, am_gd_of g4, k4]
        have c11 : gX11_lock n (nI a) (nI r) (nI t) J = (if nI t = nI 0 then (some (J 0 76 (136 * a + r), am_up J 0 60 0 (nI 0))) else (if nI t = nI 1 then (some (J 0 77 (136 * a + r), am_up J 0 60 0 (nI 0))) else (if nI t = nI 2 then (some (J 0 78 (136 * a + r), am_up J 0 60 0 (nI 0))) else (if nI t = nI 3 then ((gX11_isCalling n (nI a) (am_up J 0 60 0 (nI 0))).bind (fun q6 => if q6.1 = 0 then (bX11_lock_127 n (nI 0) q6.2) else (bX11_lock_127 n (q6.2 0 81 (136 * a + r)) q6.2))) else (some (J 0 94 (4 * r + a), am_up J 0 60 0 (nI 0))))))) := by
          rw [gX11_lock, bX11_lock_0, s2, Option.bind_some]
          dsimp only
          rw [if_neg n10, t2, Option.bind_some]
          dsimp only
          rw [if_neg n10, x_in1 (by omega) (by omega) (by omega), Option.bind_some]
          dsimp only
          rw [if_neg n10, bX11_lock_34, r_ref0, Option.bind_some]
          dsimp only
          rw [if_pos n00, gX11_at, bX11_at_0, Option.bind_some, pk_mul, nI_add]
          simp only [am_gd_of g5, am_gd_of g4', k5, k4']
          rw [o 76 (by omega), o 77 (by omega), o 78 (by omega), o 94 (by omega)]
        have key : ∃ v, gX10_lock n (nI a) (nI r) (nI t) I = some (.inl (some v), I) ∧ gX11_lock n (nI a) (nI r) (nI t) J = some (v, am_up J 0 60 0 (nI 0)) := by
          rw [c10, c11]
          have : t = 0 ∨ t = 1 ∨ t = 2 ∨ t = 3 ∨ t = 4 := by omega
          rcases this with rfl | rfl | rfl | rfl | rfl
          · rw [if_pos (rfl : nI 0 = nI 0), if_pos (rfl : nI 0 = nI 0), l1]
            exact ⟨_, rfl, rfl⟩
          · rw [if_neg (show ¬ nI 1 = nI 0 by decide), if_neg (show ¬ nI 1 = nI 0 by decide), if_pos (rfl : nI 1 = nI 1), if_pos (rfl : nI 1 = nI 1), l2]
            exact ⟨_, rfl, rfl⟩
          · rw [if_neg (show ¬ nI 2 = nI 0 by decide), if_neg (show ¬ nI 2 = nI 0 by decide), if_neg (show ¬ nI 2 = nI 1 by decide), if_neg (show ¬ nI 2 = nI 1 by decide), if_pos (rfl : nI 2 = nI 2), if_pos (rfl : nI 2 = nI 2), l3]
            exact ⟨_, rfl, rfl⟩
          · rw [if_neg (show ¬ nI 3 = nI 0 by decide), if_neg (show ¬ nI 3 = nI 0 by decide), if_neg (show ¬ nI 3 = nI 1 by decide), if_neg (show ¬ nI 3 = nI 1 by decide), if_neg (show ¬ nI 3 = nI 2 by decide), if_neg (show ¬ nI 3 = nI 2 by decide), if_pos (rfl : nI 3 = nI 3), if_pos (rfl : nI 3 = nI 3), e54, gX11_isCalling, bX11_isCalling_0, am_gd_of ga4, ka, o 87 (by omega)]
            by_cases c : J 0 87 a = nI 1
            · rw [if_pos c, if_pos c]
              refine ⟨_, rfl, ?_⟩
              rw [bX11_isCalling_15, z_011, z_gdt, Option.bind_some]
              dsimp only
              rw [if_neg n10, o 81 (by omega)]
              rfl
            · rw [if_neg c, if_neg c]
              refine ⟨_, rfl, ?_⟩
              rw [bX11_isCalling_15, z_01, z_gdt, Option.bind_some]
              dsimp only
              rw [if_pos n00]
              rfl
          · rw [if_neg (show ¬ nI 4 = nI 0 by decide), if_neg (show ¬ nI 4 = nI 0 by decide), if_neg (show ¬ nI 4 = nI 1 by decide), if_neg (show ¬ nI 4 = nI 1 by decide), if_neg (show ¬ nI 4 = nI 2 by decide), if_neg (show ¬ nI 4 = nI 2 by decide), if_neg (show ¬ nI 4 = nI 3 by decide), if_neg (show ¬ nI 4 = nI 3 by decide), m4.2.1, m4.2.2.1]
            exact ⟨_, rfl, rfl⟩
        obtain ⟨v, r1, r2⟩ := key
        exact ⟨v, I, _, r1, r2, up60, inv_60 h⟩
      · right
        refine ⟨nI 0, _, ?_, bad ?_, up60, inv_60 h⟩
        · rw [gX10_lock, bX10_lock_0, s1, Option.bind_some]
          dsimp only
          rw [if_neg n10, t1, Option.bind_some]
          dsimp only
          rw [if_neg n10, z_0, o_le (by omega) q]
          rfl
        · rw [gX11_lock, bX11_lock_0, s2, Option.bind_some]
          dsimp only
          rw [if_neg n10, t2, Option.bind_some]
          dsimp only
          rw [if_neg n10, x_in0 q (by omega), Option.bind_some]
          dsimp only
          rw [if_pos n00]
    · right
      refine ⟨nI 0, _, ?_, bad ?_, up60, inv_60 h⟩
      · rw [gX10_lock, bX10_lock_0, s1, Option.bind_some]
        dsimp only
        rw [if_neg n10, t1, Option.bind_some]
        dsimp only
        rw [if_pos n00]
        rfl
      · rw [gX11_lock, bX11_lock_0, s2, Option.bind_some]
        dsimp only
        rw [if_neg n10, t2, Option.bind_some]
        dsimp only
        rw [if_pos n00]
  · right
    refine ⟨nI 0, _, ?_, bad ?_, up60, inv_60 h⟩
    · rw [gX10_lock, bX10_lock_0, s1, Option.bind_some]
      dsimp only
      rw [if_pos n00]
      rfl
    · rw [gX11_lock, bX11_lock_0, s2, Option.bind_some]
      dsimp only
      rw [if_pos n00]
/-- ROW -/
theorem pr_row (k : Nat) (I J : am_I) (p0 p1 : Int32) (h : Inv n (k + 1) I J) : PR_row n k I J p0 p1 := by
  unfold PR_row
  obtain ⟨T, e, g, h1, h2, h3, h4⟩ := id h
  obtain ⟨⟨hn, hn4⟩, j1⟩ := gs_1 h1
  have bad : gX11_row n p0 p1 J = bX11_row_16 n p0 p1 J → gX11_row n p0 p1 J = some (nI 0, am_up J 0 60 0 (nI 1)) := fun q1 => by
    rw [q1, bX11_row_16, bX11_row_21, r_ref1, Option.bind_some]
    dsimp only
    rw [if_neg n10]
  rcases x_res (n := n) (I := I) (J := J) p0 with ⟨r, hr, rfl, t1, t2⟩ | ⟨t1, t2⟩
  · by_cases hp : nI 0 ≤ p1
    · left
      obtain ⟨c, hc0, rfl⟩ : ∃ c : Nat, c < 2 ^ 31 ∧ p1 = nI c := by
        have hp' := hp
        rw [Int32.le_iff_toInt_le, nI_toInt (by omega)] at hp'
        have hlt : p1.toInt < 2 ^ 31 := by
          have := Int32.toInt_lt p1
          simpa using this
        refine ⟨p1.toInt.toNat, by omega, ?_⟩
        apply Int32.toInt_inj.mp
        rw [nI_toInt (by omega)]
        omega
      have gr : am_inb (nI r) 136 = true := by rw [z_inb (by omega)]; exact decide_eq_true hr
      have kr : (nI r).toNatClampNeg = r := z_clamp (by omega)
      have hjn : ∀ x, x < n → I x 40 6 = J 0 66 x := fun x hx => (gs_up hx h1).2.2.1
      obtain ⟨rw, gv, cl, A, jl, ⟨ms, H, B, K, lg, fb, fq, mk, hc⟩, hg, hns, hW⟩ := h1
      obtain ⟨m1, m2, m3, m4, m5⟩ := hc.2.2.1 r hr
      have o : ∀ j, ¬ j = 60 → am_up J 0 60 0 (nI 0) 0 j = J 0 j := fun j q => z_upj _ _ _ _ _ _ _ (by omega)
      obtain ⟨pm1, -⟩ := p_mst (I := I) (J := J) hn hn4 hr j1 hjn
      obtain ⟨-, pm2⟩ := p_mst (I := I) (J := am_up J 0 60 0 (nI 0)) hn hn4 hr (by rw [z_upk, if_neg (by omega)]; exact j1) (fun x hx => by rw [o 66 (by omega)]; exact hjn x hx)
      rw [o 66 (by omega)] at pm2
      have c10 : gX10_row n (nI r) (nI c) I = (if nI c = nI 0 then (some (.inl (some (mst n (J 0 66) r n 0)), I)) else (if nI c = nI 1 then (some (.inl (some (I 0 8 r)), I)) else (if ((nI c - (nI 2)) / (nI 2)) < (I 0 8 r) then (if (nI c - nI c / (nI 2) * (nI 2)) = 0 then (am_gd (am_inb ((nI r * (nI 4)) + ((nI c - (nI 2)) / (nI 2))) 544) (bX10_row_101 n (I 0 6 (((nI r * (nI 4)) + ((nI c - (nI 2)) / (nI 2))).toNatClampNeg)) I)) else (am_gd (am_inb ((nI r * (nI 4)) + ((nI c - (nI 2)) / (nI 2))) 544) (bX10_row_101 n (I 0 7 (((nI r * (nI 4)) + ((nI c - (nI 2)) / (nI 2))).toNatClampNeg)) I))) else (some (.inl (some (-1 : Int32)), I))))) := by
        rw [gX10_row, bX10_row_0, t1, Option.bind_some]
        dsimp only
        rw [if_neg n10, if_pos (show (0 : Int32) ≤ nI c from hp), pm1, Option.bind_some]
        dsimp only
        rw [am_gd_of gr, kr]
        rfl
      have c11 : gX11_row n (nI r) (nI c) J = (if (nI 2) ≤ nI c then (if ((nI c - (nI 2)) / (nI 2)) < (J 0 96 r) then (if (nI c - nI c / (nI 2) * (nI 2)) = 0 then (am_gd (am_inb (((nI 16) * nI r) + ((nI c - (nI 2)) / (nI 2))) 2176) (bX11_row_104 n (J 0 97 ((((nI 16) * nI r) + ((nI c - (nI 2)) / (nI 2))).toNatClampNeg)) (am_up J 0 60 0 (nI 0)))) else (am_gd (am_inb (((nI 16) * nI r) + ((nI c - (nI 2)) / (nI 2))) 2176) (bX11_row_104 n (J 0 98 ((((nI 16) * nI r) + ((nI c - (nI 2)) / (nI 2))).toNatClampNeg)) (am_up J 0 60 0 (nI 0))))) else (some ((-1 : Int32), am_up J 0 60 0 (nI 0)))) else (if nI c = 0 then (some (mst n (J 0 66) r n 0, am_up J 0 60 0 (nI 0))) else (some (J 0 96 r, am_up J 0 60 0 (nI 0))))) := by
        rw [gX11_row, bX11_row_0, t2, Option.bind_some]
        dsimp only
        rw [if_neg n10, if_pos (show (0 : Int32) ≤ nI c from hp), bX11_row_21, r_ref0, Option.bind_some]
        dsimp only
        rw [if_pos n00, pm2, Option.bind_some, am_gd_of gr, am_gd_of gr, kr]
        dsimp only
        simp only [o 96 (by omega), o 97 (by omega), o 98 (by omega), bX11_row_54]
      have key : ∃ v, gX10_row n (nI r) (nI c) I = some (.inl (some v), I) ∧ gX11_row n (nI r) (nI c) J = some (v, am_up J 0 60 0 (nI 0)) := by
        rw [c10, c11]
        by_cases e0 : c = 0
        · subst e0
          rw [if_pos rfl, if_neg (show ¬ nI 2 ≤ nI 0 by decide), if_pos n00]
          exact ⟨_, rfl, rfl⟩
        · by_cases e1 : c = 1
          · subst e1
            rw [if_neg (show ¬ nI 1 = nI 0 by decide), if_pos rfl, if_neg (show ¬ nI 2 ≤ nI 1 by decide), if_neg n10, m2, m3]
            exact ⟨_, rfl, rfl⟩
          · have ed : (nI c - nI 2) / nI 2 = nI ((c - 2) / 2) := by rw [pk_sub (by omega), pk_div (by omega) (by omega) (by omega)]
            rw [if_neg (show ¬ nI c = nI 0 by rw [z_eq (by omega) (by omega)]; exact e0), if_neg (show ¬ nI c = nI 1 by rw [z_eq (by omega) (by omega)]; exact e1), if_pos (show nI 2 ≤ nI c by rw [z_le (by omega) (by omega)]; omega), ed, m2, m3]
            by_cases e2 : (c - 2) / 2 < (rw r).length
            · have hlt : nI ((c - 2) / 2) < nI (rw r).length := by rw [z_lt (by omega) (by omega)]; exact e2
              obtain ⟨x, hx⟩ : ∃ x, (rw r)[(c - 2) / 2]? = some x := ⟨_, List.getElem?_eq_getElem e2⟩
              obtain ⟨-, -, v1, v2, v3, v4⟩ := m4 _ x hx
              rw [if_pos hlt, if_pos hlt, pk_mul, nI_add, pk_mul, nI_add, am_gd_of (show am_inb (nI (r * 4 + (c - 2) / 2)) 544 = true by rw [z_inb (by omega)]; exact decide_eq_true (by omega)), am_gd_of (show am_inb (nI (r * 4 + (c - 2) / 2)) 544 = true by rw [z_inb (by omega)]; exact decide_eq_true (by omega)), am_gd_of (show am_inb (nI (16 * r + (c - 2) / 2)) 2176 = true by rw [z_inb (by omega)]; exact decide_eq_true (by omega)), am_gd_of (show am_inb (nI (16 * r + (c - 2) / 2)) 2176 = true by rw [z_inb (by omega)]; exact decide_eq_true (by omega)), z_clamp (by omega), z_clamp (by omega), Nat.mul_comm r 4, v1, v2, v3, v4]
              by_cases e3 : (nI c - nI c / nI 2 * nI 2) = 0
              · rw [if_pos e3, if_pos e3]
                exact ⟨_, rfl, rfl⟩
              · rw [if_neg e3, if_neg e3]
                exact ⟨_, rfl, rfl⟩
            · have hlt : ¬ nI ((c - 2) / 2) < nI (rw r).length := by rw [z_lt (by omega) (by omega)]; exact e2
              rw [if_neg hlt, if_neg hlt]
              exact ⟨_, rfl, rfl⟩
      obtain ⟨v, r1, r2⟩ := key
      exact ⟨v, I, _, r1, r2, up60, inv_60 h⟩
    · right
      refine ⟨nI 0, _, ?_, bad ?_, up60, inv_60 h⟩
      · rw [gX10_row, bX10_row_0, t1, Option.bind_some]
        dsimp only
        rw [if_neg n10, if_neg (show ¬ (0 : Int32) ≤ p1 from hp)]
        rfl
      · rw [gX11_row, bX11_row_0, t2, Option.bind_some]
        dsimp only
        rw [if_neg n10, if_neg (show ¬ (0 : Int32) ≤ p1 from hp)]
  · right
    refine ⟨nI 0, _, ?_, bad ?_, up60, inv_60 h⟩
    · rw [gX10_row, bX10_row_0, t1, Option.bind_some]
      dsimp only
      rw [if_pos n00]
      rfl
    · rw [gX11_row, bX11_row_0, t2, Option.bind_some]
      dsimp only
      rw [if_pos n00]
end OBS2
