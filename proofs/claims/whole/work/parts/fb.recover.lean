
section REC
variable {n T e : Nat} {I J I' J' : am_I} {g : Nat → Nat}
/-- how all stands while dead nodes are recovered (those below i are) -/
def RPr (n T e i : Nat) (I J : am_I) (H A B : Nat → Nat → Nat) (K : Nat → Nat → Int) (lg fb jl : Nat → List Nat) (fq mk : Nat → Nat) : Prop :=
  (0 < n ∧ n ≤ 4) ∧ (I 0 9 4 = J 0 60 39 ∧ I 0 0 7 = nI T ∧ J 0 60 2 = nI T ∧ T ≤ 100000 ∧ (∀ w, w < 16 → ∃ d : Nat, 1 ≤ d ∧ d ≤ 20 ∧ I 0 10 w = nI d ∧ J 0 107 w = nI d) ∧ (∀ z, z < n → I z 40 5 = J 0 65 z ∧ (J 0 65 z = nI 0 ∨ J 0 65 z = nI 1)) ∧ J 0 60 1 = nI n) ∧ BKr I J e ∧ (∀ z, z < n → NDr z I J (lg z) (fb z) (fq z) (mk z) (H z) (A z) (B z))
  ∧ (∀ z, z < n → (J 0 65 z = nI 1 ∧ J 0 66 z = nI 1 ∧ (∀ r, r < 136 → K z r = H z r) ∧ (fb z = [] → jl z = [])) ∨ (J 0 65 z = nI 0 ∧ lg z = [] ∧ fb z = [] ∧ (∀ r, r < 136 → H z r = 0 ∧ A z r = 0) ∧ (J 0 71 z = nI 0 ∧ ∀ b, b < 640 → J 0 68 (640 * z + b) = nI 0) ∧ ((J 0 66 z = nI 0 ∧ jl z = [] ∧ ∀ r, K z r = 0) ∨ (i ≤ z ∧ J 0 66 z = nI 1))))
  ∧ (∀ k, k < 10240 → I 0 1 k = J 0 64 k) ∧ TID I J ∧ CTI n e lg fb jl K I J ∧ (∀ z, z < n → FJ z (dD J) (fb z) (jl z) (fq z) (fwI I z)) ∧ MKr n e J fb fq mk
  ∧ (∀ z r, z < n → r < 136 → A z r ≤ 2) ∧ (∀ z r r', z < n → r < 136 → r' < 136 → J 0 65 z = nI 1 → ¬ A z r = 0 → ¬ A z r' = 0 → r = r')
theorem rp_lp {H A B : Nat → Nat → Nat} {K : Nat → Nat → Int} {lg fb jl : Nat → List Nat} {fq mk : Nat → Nat} (h : RPr n T e n I J H A B K lg fb jl fq mk) : LPr n T e I J H A B K lg fb jl fq mk := by
  obtain ⟨a1, a2, a3, a4, a5, a6⟩ := h
  refine ⟨a1, a2, a3, a4, fun z hz => ?_, a6⟩
  rcases a5 z hz with w | ⟨w1, w2, w3, w4, w5, w6⟩
  · exact Or.inl w
  · rcases w6 with ⟨q1, q2, q3⟩ | q
    · exact Or.inr ⟨w1, q1, w2, w3, q2, q3, w4, w5⟩
    · omega
theorem rp_of {rw : Nat → List (Nat × Nat)} {gv cl H A B : Nat → Nat → Nat} {K : Nat → Nat → Int} {lg fb jl : Nat → List Nat} {fq mk : Nat → Nat} {ms : List (Nat → Nat)} (h : CO n T e I J ms rw gv cl H A B K lg fb jl fq mk) : RPr n T e 0 I J H A B K lg fb jl fq mk := by
  obtain ⟨a1, a2, a3, a4, a5, a6, a7, a8, a9, b1, b2, b3, b4⟩ := h
  obtain ⟨c0, c1, c2, c3, c4, c5, c6', c7, c8, c9, c10⟩ := a2
  refine ⟨a1, ⟨c2, c3, c4, c5, c6', c9, c10⟩, a4, a5, fun z hz => ?_, a8, a9, b1, b2, b3, a7.2.2.2.2.1.2.2.2.2, a7.2.2.2.2.1.2.2.1⟩
  obtain ⟨s1, s2, s3, s4⟩ := a6 z hz
  rcases (c9 z hz).2 with u | u
  · have nu : ¬ J 0 65 z = nI 1 := by rw [u]; decide
    obtain ⟨t1, t2, t3⟩ := s3 nu
    refine Or.inr ⟨u, t1, t2, fun r hr => ⟨(t3 r hr).1, (t3 r hr).2.1⟩, s4.2 nu, ?_⟩
    rcases s1 with q | q
    · have := s4.1 (by rw [q]; decide)
      exact Or.inl ⟨q, this.1, this.2⟩
    · exact Or.inr ⟨Nat.zero_le _, q⟩
  · exact Or.inl ⟨u, s2 u⟩
/-- one node's turn -/
theorem rp_st {H A B : Nat → Nat → Nat} {K : Nat → Nat → Int} {lg fb jl : Nat → List Nat} {fq mk : Nat → Nat} {i fu fur acc : Nat} (hi : i < n) (h : RPr n T e i I J H A B K lg fb jl fq mk) (hns : ∀ z, z < n → NS0 z I J) (hW : WL I J) : ∃ I' J' acc' K' jl', bX10_recover_56 n (fu + 1) (nI acc) (nI i) I = bX10_recover_56 n fu (nI acc') (nI (i + 1)) I' ∧ bX11_recover_47 n (fur + 1) (nI acc) (nI i) J = bX11_recover_47 n fur (nI acc') (nI (i + 1)) J' ∧ RPr n T e (i + 1) I' J' H A B K' lg fb jl' fq mk ∧ (∀ z, z < n → NS0 z I' J') ∧ WL I' J' ∧ J' 0 87 = J 0 87 ∧ J' 0 60 = J 0 60 := by
  have h0 := h
  obtain ⟨⟨hn0, hn⟩, ⟨l1, l2, l3, l4, l5, l6, l7⟩, hBK, hND, hST, h1, hTID, hC, hF, hMK, hA2, hAu⟩ := h
  have hi4 : i < 4 := by omega
  have gi : am_inb (nI i) 4 = true := by rw [z_inb (by omega)]; exact decide_eq_true hi4
  have gn : am_inb (nI i) n = true := by rw [z_inb (by omega)]; exact decide_eq_true hi
  have ki : (nI i).toNatClampNeg = i := z_clamp (by omega)
  have hnle : ¬ J 0 60 1 ≤ nI i := by rw [l7, z_le (by omega) (by omega)]; omega
  have hnleI : ¬ nI n ≤ nI i := by rw [z_le (by omega) (by omega)]; omega
  have i5 : I i 40 5 = J 0 65 i := (l6 i hi).1
  have i6 : I i 40 6 = J 0 66 i := (hND i hi).2.1
  by_cases hdead : J 0 65 i = nI 0 ∧ J 0 66 i = nI 1
  · obtain ⟨d1, d2⟩ := hdead
    rcases hST i hi with w | ⟨w1, w2, w3, w4, w5, w6⟩
    · rw [d1] at w; exact absurd w.1 (by decide)
    · have hFi := hF i hi
      rw [w3] at hFi
      obtain ⟨I1, J1, k1, k2, k3, k4, k5, k6, k7, k8, k9⟩ := p_play (n := n) (z := i) hi4 hFi (hND i hi).1 h1 (hW.2.2 i hi4)
      have o6 : ∀ a b, ¬ (a = i ∧ b = 40) → am_up I1 i 40 6 (nI 0) a b = I1 a b := fun a b q => z_upj _ _ _ _ _ _ _ q
      have k40 : ∀ k, am_up I1 i 40 6 (nI 0) i 40 k = if k = 6 then nI 0 else I i 40 k := fun k => by rw [z_upk, k8 i 40 (by omega)]
      have oI : ∀ a b, ¬ (a = i ∧ b = 40) → ¬ (a = 0 ∧ b = 1) → am_up I1 i 40 6 (nI 0) a b = I a b := fun a b q1 q2 => (o6 a b q1).trans (k8 a b q2)
      have e65 : J1 0 65 = J 0 65 := k9 0 65 (by omega)
      obtain ⟨hC', hF'⟩ := cti_replay (y := i) (I' := am_up I1 i 40 6 (nI 0)) (J' := J1) (K' := setN K i (fun _ => 0)) hC hi hn hF (by rw [d1]; decide) w2 w3 k4 k5 (by rw [k6]; decide) (fun z => oI z 47 (by omega) (by omega)) ⟨e65, k9 0 67 (by omega), k9 0 68 (by omega)⟩ (fun z r hz => by rw [setN_o hz]) (fun r => by rw [setN_s])
      refine ⟨am_up I1 i 40 6 (nI 0), J1, acc + (jl i).length, setN K i (fun _ => 0), setN jl i [], ?_, ?_, ⟨⟨hn0, hn⟩, ⟨by rw [oI 0 9 (by omega) (by omega), k9 0 60 (by omega)]; exact l1, by rw [oI 0 0 (by omega) (by omega)]; exact l2, by rw [k9 0 60 (by omega)]; exact l3, l4, by rw [oI 0 10 (by omega) (by omega), k9 0 107 (by omega)]; exact l5, fun z hz => ?_, by rw [k9 0 60 (by omega)]; exact l7⟩, ?_, fun z hz => ?_, fun z hz => ?_, fun k hk => by rw [o6 0 1 (by omega)]; exact k3 k hk, ?_, hC', hF', ?_, hA2, by rw [e65]; exact hAu⟩, fun z hz => ?_, ?_, k9 0 87 (by omega), k9 0 60 (by omega)⟩
      · conv => lhs; unfold bX10_recover_56
        dsimp only
        rw [if_neg hnleI, am_gd_of gn, ki, if_pos (show I i 40 5 = 0 by rw [i5]; exact d1), if_neg (show ¬ I i 40 6 = 0 by rw [i6, d2]; decide), k1, Option.bind_some, am_lt]
        unfold bX10_recover_104
        dsimp only
        rw [nI_add, nI_add]
      · conv => lhs; unfold bX11_recover_47
        dsimp only
        have isd : gX11_isDead n (nI i) J = some (nI 1, J) := by
          rw [gX11_isDead, bX11_isDead_0, am_gd_of gi, ki, if_pos (show J 0 65 i = 0 from d1), am_gd_of gi, if_neg (show ¬ J 0 66 i = 0 by rw [d2]; decide)]
          rfl
        rw [if_neg hnle, isd, Option.bind_some]
        dsimp only
        rw [if_neg n10, k2, Option.bind_some]
        unfold bX11_recover_77
        dsimp only
        rw [nI_add, nI_add]
      · rw [e65]
        by_cases c : z = i
        · rw [c, k40, if_neg (by omega)]; exact l6 i hi
        · rw [oI z 40 (by omega) (by omega)]; exact l6 z hz
      · unfold BKr at hBK ⊢
        rw [oI 0 13 (by omega) (by omega), oI 0 14 (by omega) (by omega), k9 0 60 (by omega), k9 0 125 (by omega), k9 0 126 (by omega)]
        exact hBK
      · obtain ⟨c1, c2, c3, c4, c5, c6⟩ := hND z hz
        refine ⟨?_, ?_, jn_cgz c3 (oI z 44 (by omega) (by omega)) (oI z 45 (by omega) (by omega)) (oI z 46 (by omega) (by omega)) (oI z 47 (by omega) (by omega)) (fun b _ => by rw [k9 0 69 (by omega)]) (by rw [k9 0 70 (by omega)]) (by rw [k9 0 71 (by omega)]) (by rw [k9 0 72 (by omega)]) (by rw [k9 0 73 (by omega)]) (fun k _ => by rw [k9 0 74 (by omega)]) (fun k i _ _ => by rw [k9 0 75 (by omega)]), ch_cg c4 (oI z 41 (by omega) (by omega)) (oI z 42 (by omega) (by omega)) (oI z 43 (by omega) (by omega)) (fun b i _ _ => by rw [k9 0 67 (by omega)]) (fun b _ => by rw [k9 0 68 (by omega)]), fun r hr => ?_, fun r hr => ?_⟩
        · by_cases c : z = i
          · rw [c, k40, if_neg (by omega), ← c]; exact c1
          · rw [oI z 40 (by omega) (by omega)]; exact c1
        · rw [k7]
          by_cases c : z = i
          · rw [c, k40, if_pos rfl, if_pos rfl]
          · rw [oI z 40 (by omega) (by omega), if_neg c]; exact c2
        · rw [oI z 49 (by omega) (by omega), oI z 50 (by omega) (by omega), oI z 51 (by omega) (by omega), k9 0 76 (by omega), k9 0 77 (by omega), k9 0 78 (by omega)]
          exact c5 r hr
        · rw [k9 0 76 (by omega), k9 0 77 (by omega), k9 0 78 (by omega)]
          exact c6 r hr
      · rw [e65, k7, k9 0 71 (by omega), k9 0 68 (by omega)]
        by_cases c : z = i
        · subst c
          rw [if_pos rfl, setN_s, setN_s]
          exact Or.inr ⟨d1, w2, w3, w4, w5, Or.inl ⟨rfl, rfl, fun _ => rfl⟩⟩
        · rw [if_neg c, setN_o c, setN_o c]
          rcases hST z hz with v | ⟨v1, v2, v3, v4, v5, v6⟩
          · exact Or.inl v
          · exact Or.inr ⟨v1, v2, v3, v4, v5, v6.imp id (fun q => ⟨by omega, q.2⟩)⟩
      · unfold TID at hTID ⊢
        rw [k9 0 120 (by omega), oI 0 19 (by omega) (by omega), oI 0 15 (by omega) (by omega)]
        exact hTID
      · unfold MKr at hMK ⊢
        rw [k9 0 125 (by omega), k9 0 126 (by omega)]
        exact hMK
      · refine ns0_cg (fun b q => oI z b (by omega) (by omega)) (fun j r q1 q2 q3 q4 _ => by rw [k9 0 j (by omega)]) (fun j q => by rw [k9 0 j (by omega)]) (fun r hr => ?_) (hns z hz)
        have := ((hns z hz).1 r hr).2
        unfold WP WT at this ⊢
        rw [k9 0 79 (by omega), k9 0 80 (by omega), k9 0 78 (by omega), k9 0 76 (by omega), k9 0 72 (by omega)]
        exact this
      · refine ⟨by rw [oI 0 0 (by omega) (by omega), k9 0 60 (by omega)]; exact hW.1, by rw [oI 0 0 (by omega) (by omega), k9 0 60 (by omega)]; exact hW.2.1, fun z hz => ?_⟩
        by_cases c : z = i
        · rw [c]; exact Or.inl k6
        · rw [k5 _ 2 (by omega) (by omega) (by omega)]; exact hW.2.2 z hz
  · -- nothing
    have hst' : RPr n T e (i + 1) I J H A B K lg fb jl fq mk := by
      refine ⟨⟨hn0, hn⟩, ⟨l1, l2, l3, l4, l5, l6, l7⟩, hBK, hND, fun z hz => ?_, h1, hTID, hC, hF, hMK, hA2, hAu⟩
      rcases hST z hz with v | ⟨v1, v2, v3, v4, v5, v6⟩
      · exact Or.inl v
      · refine Or.inr ⟨v1, v2, v3, v4, v5, v6.imp id (fun q => ⟨?_, q.2⟩)⟩
        by_cases c : z = i
        · rw [c] at v1 q; exact absurd ⟨v1, q.2⟩ hdead
        · omega
    refine ⟨I, J, acc, K, jl, ?_, ?_, hst', hns, hW, rfl, rfl⟩
    · conv => lhs; unfold bX10_recover_56
      dsimp only
      rw [if_neg hnleI, am_gd_of gn, ki]
      unfold bX10_recover_104
      rw [nI_add]
      by_cases c : I i 40 5 = 0
      · have c5 : J 0 65 i = nI 0 := by rw [← i5]; exact c
        have c6 : I i 40 6 = 0 := by
          rw [i6]
          rcases hST i hi with v | ⟨-, -, -, -, -, v⟩
          · rw [c5] at v; exact absurd v.1 (by decide)
          · rcases v with v | v
            · exact v.1
            · exact absurd ⟨c5, v.2⟩ hdead
        rw [if_pos c, if_pos c6]
      · rw [if_neg c]
    · conv => lhs; unfold bX11_recover_47
      dsimp only
      have isd : gX11_isDead n (nI i) J = some (nI 0, J) := by
        rw [gX11_isDead, bX11_isDead_0, am_gd_of gi, ki]
        by_cases c : J 0 65 i = 0
        · have c6 : J 0 66 i = 0 := by
            rcases hST i hi with v | ⟨-, -, -, -, -, v⟩
            · rw [show J 0 65 i = nI 0 from c] at v; exact absurd v.1 (by decide)
            · rcases v with v | v
              · exact v.1
              · exact absurd ⟨c, v.2⟩ hdead
          rw [if_pos c, am_gd_of gi, if_pos c6]
          rfl
        · rw [if_neg c]
          rfl
      rw [if_neg hnle, isd, Option.bind_some]
      dsimp only
      rw [if_pos n00]
      unfold bX11_recover_77
      rw [nI_add]
end REC
