
/-- what a sending looks at -/
def SNr (n T x : Nat) (I J : am_I) (ms : List (Nat → Nat)) : Prop := MLr n T I J ms ∧ I x 40 0 = nI x ∧ (∀ z, z < n → I z 40 6 = J 0 66 z) ∧ ms.length < 128 ∧ ∀ r, r < 136 → ∃ M, M < n ∧ mst n (J 0 66) r n 0 = nI M
theorem ml_cg {n T : Nat} {I J I' J' : am_I} {ms : List (Nat → Nat)} (h : MLr n T I J ms) (h9 : I' 0 9 = I 0 9) (h11 : I' 0 11 = I 0 11) (h0 : I' 0 0 7 = I 0 0 7) (h10 : I' 0 10 = I 0 10) (h40 : ∀ z, z < n → I' z 40 5 = I z 40 5) (j1 : J' 0 60 1 = J 0 60 1) (j2 : J' 0 60 2 = J 0 60 2) (j3 : J' 0 60 38 = J 0 60 38) (j4 : J' 0 60 39 = J 0 60 39) (j5 : ∀ b, (101 ≤ b ∧ b ≤ 108) ∨ b = 65 → J' 0 b = J 0 b) : MLr n T I' J' ms := by
  unfold MLr mC mR
  rw [h9, h11, h0, h10, j1, j2, j3, j4, j5 107 (by omega), j5 108 (by omega), j5 65 (by omega)]
  obtain ⟨q1, q2, q3, q4, q5, q6, q7, q8, q9, q10, q11⟩ := h
  exact ⟨q1, ⟨q2.1, q2.2.1, fun k mm hk c hc => by rw [j5 (101 + c) (by omega)]; exact q2.2.2 k mm hk c hc⟩, q3, q4, q5, q6, q7, q8, q9, fun z hz => by rw [h40 z hz]; exact q10 z hz, q11⟩
/-- the pins of the list's resources below s are set -/
def PN (x : Nat) (ls : List Nat) (s : Nat) (I J I1 J1 : am_I) : Prop :=
  (∀ a b, ¬ (a = x ∧ b = 52) → I1 a b = I a b) ∧ (∀ a b, ¬ (a = 0 ∧ b = 79) → J1 a b = J a b) ∧ (∀ c, c < 136 → I1 x 52 c = J1 0 79 (136 * x + c))
  ∧ (∀ c, c < 136 → J1 0 79 (136 * x + c) = if c ∈ ls ∧ c < s then nI 1 else J 0 79 (136 * x + c)) ∧ (∀ k, ¬ (136 * x ≤ k ∧ k < 136 * x + 136) → J1 0 79 k = J 0 79 k)
  ∧ ∀ c, c ∈ ls → c < s → J 0 79 (136 * x + c) = nI 0 → J 0 78 (136 * x + c) = (-1 : Int32) ∧ ¬ J 0 76 (136 * x + c) < J 0 81 (136 * x + c)
/-- pinning stops at s -/
def PS (n T x : Nat) (ls : List Nat) (I J I' J' : am_I) (ms : List (Nat → Nat)) : Prop :=
  ∃ s I1 J1 v, s ∈ ls ∧ s < 136 ∧ PN x ls s I J I1 J1 ∧ J 0 79 (136 * x + s) = nI 0 ∧ (J 0 76 (136 * x + s) < J 0 81 (136 * x + s) ∨ ¬ J 0 78 (136 * x + s) = (-1 : Int32)) ∧ v ≤ 2 ∧ J 0 81 (136 * x + s) = nI v
    ∧ ((¬ (J 0 78 (136 * x + s) = (-1 : Int32) ∧ J 0 77 (136 * x + s) = nI 0) ∧ I' = I1 ∧ J' = J1)
      ∨ (J 0 78 (136 * x + s) = (-1 : Int32) ∧ J 0 77 (136 * x + s) = nI 0 ∧ ∃ M ms', M < n ∧ mst n (J 0 66) s n 0 = nI M ∧ MLr n T I' J' ms' ∧ snd (J 0 65) T x M 0 s v ms ms' ∧ fMI (am_up I1 x 50 s (nI v)) I' ∧ fMJ (am_up J1 0 77 (136 * x + s) (nI v)) J'))
section PIN
variable {n T x : Nat} {ms : List (Nat → Nat)}
theorem pn_lp (hn : n ≤ 4) (hx : x < n) : ∀ (m k fu fuc j : Nat) (suf : List Nat) (I J : am_I), k + m = 136 → m < fu → suf.length < fuc → j + suf.length ≤ 136 → suf.Pairwise (· < ·) → (∀ c, c ∈ suf → k ≤ c ∧ c < 136) → I x 48 6 = nI (j + suf.length) → (∀ i c, suf[i]? = some c → I x 53 (j + i) = nI c) → (∀ c, k ≤ c → c < 136 → (c ∈ suf ↔ ¬ J 0 81 (136 * x + c) = nI 0)) → (∀ c, c < 136 → I x 54 c = J 0 81 (136 * x + c) ∧ ∃ v : Nat, v ≤ 2 ∧ J 0 81 (136 * x + c) = nI v) → LKr x I J → (∀ c, c < 136 → I x 52 c = J 0 79 (136 * x + c) ∧ (J 0 79 (136 * x + c) = nI 0 ∨ J 0 79 (136 * x + c) = nI 1)) → SNr n T x I J ms → ∃ I' J' a, bX10_pinAll_7 n fuc x x (nI j) I = some (nI a, I') ∧ bX11_pinAll_2 n fu (nI x) (nI k) J = some (nI a, J') ∧ ((a = 1 ∧ PN x suf 136 I J I' J') ∨ (a = 0 ∧ PS n T x suf I J I' J' ms)) := by
  intro m
  induction m with
  | zero =>
    intro k fu fuc j suf I J hk hf hfc hj hs hsb h48 h53 hmem h54 hL hpin hS
    obtain ⟨fu, rfl⟩ : ∃ f, fu = f + 1 := ⟨fu - 1, by omega⟩
    obtain ⟨fuc, rfl⟩ : ∃ f, fuc = f + 1 := ⟨fuc - 1, by omega⟩
    obtain rfl : suf = [] := by
      match suf, hsb with
      | [], _ => rfl
      | c :: suf, hsb => have := hsb c List.mem_cons_self; omega
    refine ⟨I, J, 1, ?_, ?_, Or.inl ⟨rfl, fun _ _ _ => rfl, fun _ _ _ => rfl, fun c hc => (hpin c hc).1, fun c _ => by rw [if_neg (fun q => List.not_mem_nil q.1)], fun _ _ => rfl, fun c hc => absurd hc List.not_mem_nil⟩⟩
    · conv => lhs; unfold bX10_pinAll_7
      dsimp only
      have : I x 48 6 ≤ nI j := by rw [h48, z_le (by simp at hj ⊢; omega) (by simp at hj; omega)]; simp
      rw [if_pos this]
    · conv => lhs; unfold bX11_pinAll_2
      dsimp only
      rw [if_pos (by rw [z_le (by omega) (by omega)]; omega)]
  | succ m ih =>
    intro k fu fuc j suf I J hk hf hfc hj hs hsb h48 h53 hmem h54 hL hpin hS
    obtain ⟨fu, rfl⟩ : ∃ f, fu = f + 1 := ⟨fu - 1, by omega⟩
    have hk6 : k < 136 := by omega
    have g1 : 136 * x + k < 544 := by omega
    have rs : bX11_pinAll_2 n (fu + 1) (nI x) (nI k) J = if J 0 81 (136 * x + k) = 0 then bX11_pinAll_2 n fu (nI x) (nI (k + 1)) J else (if J 0 79 (136 * x + k) = 0 then (if J 0 76 (136 * x + k) < J 0 81 (136 * x + k) then bX11_pinAll_61 n (nI x) (nI k) (nI (136 * x + k)) J else (if J 0 78 (136 * x + k) = (-1 : Int32) then bX11_pinAll_2 n fu (nI x) (nI (k + 1)) (am_up J 0 79 (136 * x + k) (nI 1)) else bX11_pinAll_61 n (nI x) (nI k) (nI (136 * x + k)) J)) else bX11_pinAll_2 n fu (nI x) (nI (k + 1)) J) := by
      conv => lhs; unfold bX11_pinAll_2
      dsimp only
      rw [if_neg (by rw [z_le (by omega) (by omega)]; omega), gX11_at, bX11_at_0, Option.bind_some, pk_mul, nI_add]
      dsimp only
      rw [z_inb (by omega), decide_eq_true g1]
      simp only [z_gdt, z_clamp (show 136 * x + k < 2 ^ 31 by omega), am_lt, bX11_pinAll_119, nI_add]
    have hsuc : ∀ s, s ∈ suf → ¬ s = k → k + 1 ≤ s := fun s hs' hne => by have := (hsb s hs').1; omega
    by_cases hks : k ∈ suf
    · obtain ⟨suf1, rfl⟩ : ∃ s, suf = k :: s := by
        match suf, hs, hsb, hks with
        | c :: s, hs, hsb, hks =>
          rcases List.mem_cons.mp hks with e | e
          · exact ⟨s, by rw [e]⟩
          · have := (List.pairwise_cons.mp hs).1 k e
            have := (hsb c List.mem_cons_self).1
            omega
      obtain ⟨fuc, rfl⟩ : ∃ f, fuc = f + 1 := ⟨fuc - 1, by omega⟩
      rw [List.length_cons] at hfc hj h48
      have hs1 := List.pairwise_cons.mp hs
      obtain ⟨h53j, h53'⟩ := shf h53
      obtain ⟨l1, l2, l3⟩ := hL k hk6
      have h81 : ¬ J 0 81 (136 * x + k) = nI 0 := (hmem k (Nat.le_refl _) hk6).mp hks
      obtain ⟨h54k, v, v1, v2⟩ := h54 k hk6
      obtain ⟨p1, p2⟩ := hpin k hk6
      have cs : bX10_pinAll_7 n (fuc + 1) x x (nI j) I = if J 0 79 (136 * x + k) = 0 then (if J 0 78 (136 * x + k) = (-1 : Int32) then bX10_pinAll_52 n (bX10_pinAll_7 n fuc) x x (nI j) (nI k) (nI 0) I else bX10_pinAll_52 n (bX10_pinAll_7 n fuc) x x (nI j) (nI k) (nI 1) I) else bX10_pinAll_7 n fuc x x (nI (j + 1)) I := by
        conv => lhs; unfold bX10_pinAll_7
        dsimp only
        rw [if_neg (by rw [h48, z_le (by omega) (by omega)]; omega), z_inb (by omega), decide_eq_true (by omega), z_gdt, z_clamp (by omega), h53j, z_inb (by omega), decide_eq_true hk6, z_gdt, z_gdt, z_clamp (by omega), p1, l3, bX10_pinAll_139, nI_add]
      have fin := fun (I1 J1 : am_I) => ih (k + 1) fu fuc (j + 1) suf1 I1 J1 (by omega) (by omega) (by omega) (by omega) hs1.2 (fun c hc => ⟨hs1.1 c hc, (hsb c (List.mem_cons_of_mem _ hc)).2⟩)
      have hm1 : ∀ c, k + 1 ≤ c → c < 136 → (c ∈ suf1 ↔ ¬ J 0 81 (136 * x + c) = nI 0) := fun c hc hc6 => by
        rw [← hmem c (by omega) hc6, List.mem_cons]
        exact ⟨Or.inr, fun q => q.resolve_left (by omega)⟩
      rw [cs, rs, if_neg (show ¬ J 0 81 (136 * x + k) = 0 from h81)]
      rcases p2 with p2 | p2
      · rw [if_pos (show J 0 79 (136 * x + k) = 0 from p2), if_pos (show J 0 79 (136 * x + k) = 0 from p2)]
        by_cases hstop : J 0 76 (136 * x + k) < J 0 81 (136 * x + k) ∨ ¬ J 0 78 (136 * x + k) = (-1 : Int32)
        · -- it stops here
          have hPN : PN x (k :: suf1) k I J I J := ⟨fun _ _ _ => rfl, fun _ _ _ => rfl, fun c hc => (hpin c hc).1, fun c hc => by rw [if_neg (fun q => by have := (hsb c q.1).1; omega)], fun _ _ => rfl, fun c hc hck => by have := (hsb c hc).1; omega⟩
          have hr61 : (if J 0 76 (136 * x + k) < J 0 81 (136 * x + k) then bX11_pinAll_61 n (nI x) (nI k) (nI (136 * x + k)) J else (if J 0 78 (136 * x + k) = (-1 : Int32) then bX11_pinAll_2 n fu (nI x) (nI (k + 1)) (am_up J 0 79 (136 * x + k) (nI 1)) else bX11_pinAll_61 n (nI x) (nI k) (nI (136 * x + k)) J)) = bX11_pinAll_61 n (nI x) (nI k) (nI (136 * x + k)) J := by
            by_cases e : J 0 76 (136 * x + k) < J 0 81 (136 * x + k)
            · rw [if_pos e]
            · rw [if_neg e, if_neg (hstop.resolve_left e)]
          rw [hr61]
          by_cases hask : J 0 78 (136 * x + k) = (-1 : Int32) ∧ J 0 77 (136 * x + k) = nI 0
          · -- it is asked for
            have hlt : J 0 76 (136 * x + k) < J 0 81 (136 * x + k) := hstop.resolve_right (fun q => q hask.1)
            have hnle : ¬ I x 54 k ≤ I x 49 k := by
              rw [h54k, l1]
              exact Int32.not_le.mpr hlt
            obtain ⟨s1, s2, s3, s4, s5⟩ := hS
            obtain ⟨M, M1, M2⟩ := s5 k hk6
            obtain ⟨Ia, hIa⟩ : ∃ Ia, Ia = am_up I x 50 k (nI v) := ⟨_, rfl⟩
            obtain ⟨Ja, hJa⟩ : ∃ Ja, Ja = am_up J 0 77 (136 * x + k) (nI v) := ⟨_, rfl⟩
            have ia : ∀ a b, ¬ (a = x ∧ b = 50) → Ia a b = I a b := fun a b q => by rw [hIa, z_upj _ _ _ _ _ _ _ (by omega)]
            have ja : ∀ a b, ¬ (a = 0 ∧ b = 77) → Ja a b = J a b := fun a b q => by rw [hJa, z_upj _ _ _ _ _ _ _ (by omega)]
            have hMa : MLr n T Ia Ja ms := ml_cg s1 (ia 0 9 (by omega)) (ia 0 11 (by omega)) (by rw [ia 0 0 (by omega)]) (ia 0 10 (by omega)) (fun z _ => by rw [ia z 40 (by omega)]) (by rw [ja 0 60 (by omega)]) (by rw [ja 0 60 (by omega)]) (by rw [ja 0 60 (by omega)]) (by rw [ja 0 60 (by omega)]) (fun b q => ja 0 b (by omega))
            obtain ⟨m1, m2⟩ := p_mst (n := n) (r := k) (I := Ia) (J := Ja) (by omega) hn hk6 hMa.2.2.2.2.2.2.2.2.2.2 (fun z hz => by rw [ia z 40 (by omega), ja 0 66 (by omega)]; exact s3 z hz)
            have e66 : Ja 0 66 = J 0 66 := ja 0 66 (by omega)
            have e65 : Ja 0 65 = J 0 65 := ja 0 65 (by omega)
            rw [e66, M2] at m1 m2
            obtain ⟨I', J', ms', t1, t2, t3, t4, t5, t6⟩ := p_send (n := n) (f := x) (t := M) (k := 0) (r := k) (md := v) hn hMa s4 hx M1 ⟨by decide, by omega, by omega⟩
            refine ⟨I', J', 0, ?_, ?_, Or.inr ⟨rfl, k, I, J, v, List.mem_cons_self, hk6, hPN, p2, hstop, v1, v2, Or.inr ⟨hask.1, hask.2, M, ms', M1, M2, t3, by rw [e65] at t6; exact t6, hIa ▸ t4, hJa ▸ t5⟩⟩⟩
            · have i40 : Ia x 40 0 = nI x := by rw [ia x 40 (by omega)]; exact s2
              have i50 : Ia x 50 k = nI v := by rw [hIa, z_upk, if_pos rfl]
              rw [if_pos hask.1, bX10_pinAll_52, if_pos (show nI 0 = (0 : Int32) from rfl), z_inb (by omega), decide_eq_true hk6, z_gdt, z_gdt, z_clamp (by omega), if_neg hnle, bX10_pinAll_76, if_pos (show nI 0 = (0 : Int32) from rfl), z_inb (by omega), decide_eq_true hk6, z_gdt, z_clamp (by omega), if_pos (show I x 50 k = 0 from l2.trans hask.2), z_gdt, z_gdt, am_lt, h54k, v2, ← hIa, m1, Option.bind_some]
              show am_gd true ((gX10_post n (Ia x 40 0) (nI M) (nI 0) (nI k) (Ia x 50 k) Ia).bind _) = _
              rw [z_gdt, i40, i50, t1, Option.bind_some]
              rfl
            · have j81 : Ja 0 81 (136 * x + k) = nI v := by rw [ja 0 81 (by omega)]; exact v2
              rw [bX11_pinAll_61, z_inb (by omega), decide_eq_true g1, z_gdt, z_clamp (by omega), if_pos hask.1, z_gdt, if_pos (show J 0 77 (136 * x + k) = 0 from hask.2), z_gdt, z_gdt, am_lt, v2, ← hJa, m2, Option.bind_some]
              show am_gd true ((gX11_send n (nI x) (nI M) (nI 0) (nI k) (Ja 0 81 (136 * x + k)) Ja).bind _) = _
              rw [z_gdt, j81, t2, Option.bind_some]
              rfl
          · -- it has been asked for, or it is called back
            refine ⟨I, J, 0, ?_, ?_, Or.inr ⟨rfl, k, I, J, v, List.mem_cons_self, hk6, hPN, p2, hstop, v1, v2, Or.inl ⟨hask, rfl, rfl⟩⟩⟩
            · by_cases hbk : J 0 78 (136 * x + k) = (-1 : Int32)
              · have hlt : J 0 76 (136 * x + k) < J 0 81 (136 * x + k) := hstop.resolve_right (fun q => q hbk)
                have hnle : ¬ I x 54 k ≤ I x 49 k := by
                  rw [h54k, l1]
                  exact Int32.not_le.mpr hlt
                have h77 : ¬ I x 50 k = 0 := fun q => hask ⟨hbk, l2 ▸ q⟩
                rw [if_pos hbk, bX10_pinAll_52, if_pos (show nI 0 = (0 : Int32) from rfl), z_inb (by omega), decide_eq_true hk6, z_gdt, z_gdt, z_clamp (by omega), if_neg hnle, bX10_pinAll_76, if_pos (show nI 0 = (0 : Int32) from rfl), z_inb (by omega), decide_eq_true hk6, z_gdt, z_clamp (by omega), if_neg h77, bX10_pinAll_129]
              · rw [if_neg hbk, bX10_pinAll_52, if_neg (show ¬ nI 1 = (0 : Int32) from by decide), bX10_pinAll_76, if_neg (show ¬ nI 1 = (0 : Int32) from by decide), bX10_pinAll_129]
            · rw [bX11_pinAll_61, z_inb (by omega), decide_eq_true g1, z_gdt, z_clamp (by omega)]
              by_cases hbk : J 0 78 (136 * x + k) = (-1 : Int32)
              · have h77 : ¬ J 0 77 (136 * x + k) = 0 := fun q => hask ⟨hbk, q⟩
                rw [if_pos hbk, z_gdt, if_neg h77, bX11_pinAll_110]
              · rw [if_neg hbk, bX11_pinAll_110]
        · -- it is pinned
          have hnlt : ¬ J 0 76 (136 * x + k) < J 0 81 (136 * x + k) := fun q => hstop (Or.inl q)
          have hbk : J 0 78 (136 * x + k) = (-1 : Int32) := Classical.not_not.mp (fun q => hstop (Or.inr q))
          have hle : I x 54 k ≤ I x 49 k := by
            rw [h54k, l1]
            exact Int32.not_lt.mp hnlt
          obtain ⟨Ia, hIa⟩ : ∃ Ia, Ia = am_up I x 52 k (nI 1) := ⟨_, rfl⟩
          obtain ⟨Ja, hJa⟩ : ∃ Ja, Ja = am_up J 0 79 (136 * x + k) (nI 1) := ⟨_, rfl⟩
          have ia : ∀ a b, ¬ (a = x ∧ b = 52) → Ia a b = I a b := fun a b q => by rw [hIa, z_upj _ _ _ _ _ _ _ (by omega)]
          have ja : ∀ a b, ¬ (a = 0 ∧ b = 79) → Ja a b = J a b := fun a b q => by rw [hJa, z_upj _ _ _ _ _ _ _ (by omega)]
          have i52 : ∀ c, Ia x 52 c = if c = k then nI 1 else I x 52 c := fun c => by rw [hIa, z_upk]
          have j79 : ∀ c, Ja 0 79 c = if c = 136 * x + k then nI 1 else J 0 79 c := fun c => by rw [hJa, z_upk]
          obtain ⟨s1, s2, s3, s4, s5⟩ := hS
          have hMa : MLr n T Ia Ja ms := ml_cg s1 (ia 0 9 (by omega)) (ia 0 11 (by omega)) (by rw [ia 0 0 (by omega)]) (ia 0 10 (by omega)) (fun z _ => by rw [ia z 40 (by omega)]) (by rw [ja 0 60 (by omega)]) (by rw [ja 0 60 (by omega)]) (by rw [ja 0 60 (by omega)]) (by rw [ja 0 60 (by omega)]) (fun b q => ja 0 b (by omega))
          obtain ⟨I', J', a, r1, r2, r3⟩ := fin Ia Ja (by rw [ia x 48 (by omega), h48]; exact congrArg nI (by omega)) (by rw [ia x 53 (by omega)]; exact h53') (by rw [ja 0 81 (by omega)]; exact hm1) (by rw [ia x 54 (by omega), ja 0 81 (by omega)]; exact h54) (by unfold LKr; rw [ia x 49 (by omega), ia x 50 (by omega), ia x 51 (by omega), ja 0 76 (by omega), ja 0 77 (by omega), ja 0 78 (by omega)]; exact hL) (fun c hc => by
            rw [i52, j79]
            by_cases e : c = k
            · rw [if_pos e, if_pos (by omega)]; exact ⟨rfl, Or.inr rfl⟩
            · rw [if_neg e, if_neg (by omega)]; exact hpin c hc) ⟨hMa, by rw [ia x 40 (by omega)]; exact s2, fun z hz => by rw [ia z 40 (by omega), ja 0 66 (by omega)]; exact s3 z hz, s4, by rw [ja 0 66 (by omega)]; exact s5⟩
          have lift : ∀ s I1 J1, k < s → PN x suf1 s Ia Ja I1 J1 → PN x (k :: suf1) s I J I1 J1 := fun s I1 J1 hks ⟨n1, n2, n3, n4, n5, n6⟩ => by
            refine ⟨fun a b q => (n1 a b q).trans (ia a b q), fun a b q => (n2 a b q).trans (ja a b q), n3, fun c hc => ?_, fun c hc => ?_, fun c hc hcs h0 => ?_⟩
            · rw [n4 c hc, j79]
              by_cases e : c = k
              · subst e
                rw [if_pos (c := c ∈ c :: suf1 ∧ c < s) ⟨List.mem_cons_self, hks⟩]
                by_cases e2 : c ∈ suf1 ∧ c < s
                · rw [if_pos e2]
                · rw [if_neg e2, if_pos rfl]
              · rw [if_neg (c := 136 * x + c = 136 * x + k) (by omega)]
                by_cases e2 : c ∈ suf1 ∧ c < s
                · rw [if_pos e2, if_pos ⟨List.mem_cons_of_mem _ e2.1, e2.2⟩]
                · rw [if_neg e2, if_neg (fun q => e2 ⟨(List.mem_cons.mp q.1).resolve_left e, q.2⟩)]
            · rw [n5 c hc, j79, if_neg (by omega)]
            · rcases List.mem_cons.mp hc with e | e
              · subst e
                exact ⟨hbk, hnlt⟩
              · have hck := hs1.1 c e
                have := n6 c e hcs (by rw [j79, if_neg (by omega)]; exact h0)
                rw [ja 0 78 (by omega), ja 0 76 (by omega), ja 0 81 (by omega)] at this
                exact this
          refine ⟨I', J', a, ?_, ?_, ?_⟩
          · rw [if_pos hbk, bX10_pinAll_52, if_pos (show nI 0 = (0 : Int32) from rfl), z_inb (by omega), decide_eq_true hk6, z_gdt, z_gdt, z_clamp (by omega), if_pos hle, z_gdt, am_lt, ← hIa, bX10_pinAll_139, nI_add]
            exact r1
          · rw [if_neg hnlt, if_pos hbk, ← hJa]
            exact r2
          · rcases r3 with ⟨e, h1⟩ | ⟨e, s, I1, J1, v', u1, u2, u3, u4, u5, u6, u7, u8⟩
            · exact Or.inl ⟨e, lift 136 I' J' hk6 h1⟩
            · have hks' := hs1.1 s u1
              rw [j79, if_neg (by omega)] at u4
              rw [ja 0 76 (by omega), ja 0 81 (by omega), ja 0 78 (by omega)] at u5
              rw [ja 0 81 (by omega)] at u7
              rw [ja 0 78 (by omega), ja 0 77 (by omega), ja 0 66 (by omega), ja 0 65 (by omega)] at u8
              exact Or.inr ⟨e, s, I1, J1, v', List.mem_cons_of_mem _ u1, u2, lift s I1 J1 hks' u3, u4, u5, u6, u7, u8⟩
      · -- it is pinned already
        have z0 : ¬ J 0 79 (136 * x + k) = 0 := by rw [p2]; decide
        rw [if_neg z0, if_neg z0]
        obtain ⟨I', J', a, r1, r2, r3⟩ := fin I J (by rw [h48]; exact congrArg nI (by omega)) h53' hm1 h54 hL hpin hS
        have lift : ∀ s I1 J1, k < s → PN x suf1 s I J I1 J1 → PN x (k :: suf1) s I J I1 J1 := fun s I1 J1 hks ⟨n1, n2, n3, n4, n5, n6⟩ => by
          refine ⟨n1, n2, n3, fun c hc => ?_, n5, fun c hc hcs h0 => ?_⟩
          · rw [n4 c hc]
            by_cases e2 : c ∈ suf1 ∧ c < s
            · rw [if_pos e2, if_pos ⟨List.mem_cons_of_mem _ e2.1, e2.2⟩]
            · rw [if_neg e2]
              by_cases e3 : c ∈ k :: suf1 ∧ c < s
              · rw [if_pos e3]
                have : c = k := (List.mem_cons.mp e3.1).resolve_right (fun q => e2 ⟨q, e3.2⟩)
                rw [this, p2]
              · rw [if_neg e3]
          · rcases List.mem_cons.mp hc with e | e
            · rw [e, p2] at h0
              exact absurd h0 (by decide)
            · exact n6 c e hcs h0
        refine ⟨I', J', a, r1, r2, ?_⟩
        rcases r3 with ⟨e, h1⟩ | ⟨e, s, I1, J1, v', u1, u2, u3, u4⟩
        · exact Or.inl ⟨e, lift 136 I' J' hk6 h1⟩
        · exact Or.inr ⟨e, s, I1, J1, v', List.mem_cons_of_mem _ u1, u2, lift s I1 J1 (hs1.1 s u1) u3, u4⟩
    · have h81 : J 0 81 (136 * x + k) = nI 0 := Classical.not_not.mp (fun q => hks ((hmem k (Nat.le_refl _) hk6).mpr q))
      rw [rs, if_pos (show J 0 81 (136 * x + k) = 0 from h81)]
      exact ih (k + 1) fu fuc j suf I J (by omega) (by omega) hfc hj hs (fun c hc => ⟨hsuc c hc (fun e => hks (e ▸ hc)), (hsb c hc).2⟩) h48 h53 (fun c hc hc6 => hmem c (by omega) hc6) h54 hL hpin hS
/-- the list of a call, both sides -/
def LSr (x : Nat) (I J : am_I) (ls : List Nat) : Prop := LSc x I ls ∧ ∀ c, c < 136 → (c ∈ ls ↔ ¬ J 0 81 (136 * x + c) = nI 0) ∧ I x 54 c = J 0 81 (136 * x + c) ∧ ∃ v : Nat, v ≤ 2 ∧ J 0 81 (136 * x + c) = nI v
theorem p_pin {ls : List Nat} {I J : am_I} (hn : n ≤ 4) (hx : x < n) (hls : LSr x I J ls) (hL : LKr x I J) (hpin : ∀ c, c < 136 → I x 52 c = J 0 79 (136 * x + c) ∧ (J 0 79 (136 * x + c) = nI 0 ∨ J 0 79 (136 * x + c) = nI 1)) (hS : SNr n T x I J ms) : ∃ I' J' a, gX10_pinAll n x I = some (nI a, I') ∧ gX11_pinAll n (nI x) J = some (nI a, J') ∧ ((a = 1 ∧ PN x ls 136 I J I' J') ∨ (a = 0 ∧ PS n T x ls I J I' J' ms)) := by
  obtain ⟨⟨l1, l2, l3, l4⟩, l5⟩ := hls
  have hll := ls_len l1 l2
  rw [gX10_pinAll, bX10_pinAll_0, gX11_pinAll, bX11_pinAll_0]
  exact pn_lp (n := n) (T := T) (ms := ms) hn hx 136 0 am_fu am_fu 0 ls I J rfl (fu_lt (by decide)) (fu_lt (by omega)) (by omega) l1 (fun c hc => ⟨Nat.zero_le _, l2 c hc⟩) (by rw [Nat.zero_add]; exact l3) (fun i c hk => by rw [Nat.zero_add]; exact l4 i c hk) (fun c _ hc => (l5 c hc).1) (fun c hc => (l5 c hc).2) hL hpin hS
end PIN
