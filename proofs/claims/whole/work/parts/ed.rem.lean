
section REM
variable {n T : Nat} {I J : am_I} {ms : List (Nat → Nat)}
theorem rmm_lp {L : Nat} (hL : L < 128) : ∀ (q k fu : Nat) (J : am_I), k + q = L → q < fu → J 0 60 38 = nI L → ∃ J', bX11_removeMessage_12 n fu (nI k) J = some J' ∧ (∀ c, c < 6 → ∀ p, J' 0 (101 + c) p = if k ≤ p ∧ p < L then J 0 (101 + c) (p + 1) else J 0 (101 + c) p) ∧ (∀ a b, ¬ (a = 0 ∧ (101 ≤ b ∧ b ≤ 106)) → J' a b = J a b) := by
  intro q
  induction q with
  | zero =>
    intro k fu J hk hf h38
    obtain ⟨fu, rfl⟩ : ∃ f, fu = f + 1 := ⟨fu - 1, by omega⟩
    obtain rfl : k = L := by omega
    refine ⟨J, ?_, fun c hc p => by rw [if_neg (by omega)], fun _ _ _ => rfl⟩
    conv => lhs; unfold bX11_removeMessage_12
    simp (disch := omega) only [h38, z_le, Nat.le_refl, if_true]
  | succ q ih =>
    intro k fu J hk hf h38
    obtain ⟨fu, rfl⟩ : ∃ f, fu = f + 1 := ⟨fu - 1, by omega⟩
    have hle : ¬ L ≤ k := by omega
    have g1 : k + 1 < 4096 := by omega
    have g2 : k < 4096 := by omega
    obtain ⟨J', e1, e2, e3⟩ := ih (k + 1) fu (am_up (am_up (am_up (am_up (am_up (am_up J 0 101 k (J 0 101 (k + 1))) 0 102 k (J 0 102 (k + 1))) 0 103 k (J 0 103 (k + 1))) 0 104 k (J 0 104 (k + 1))) 0 105 k (J 0 105 (k + 1))) 0 106 k (J 0 106 (k + 1))) (by omega) (by omega) (by simp (disch := omega) only [z_upj]; exact h38)
    refine ⟨J', ?_, fun c hc p => ?_, fun a b h => ?_⟩
    · rw [← e1]
      conv => lhs; unfold bX11_removeMessage_12
      simp (disch := omega) only [z_inb, decide_true, z_gdt, z_clamp, h38, nI_add, z_le, hle, if_false, g1, g2, am_lt, z_upj]
    · rw [e2 c hc p]
      have key : ∀ p, (am_up (am_up (am_up (am_up (am_up (am_up J 0 101 k (J 0 101 (k + 1))) 0 102 k (J 0 102 (k + 1))) 0 103 k (J 0 103 (k + 1))) 0 104 k (J 0 104 (k + 1))) 0 105 k (J 0 105 (k + 1))) 0 106 k (J 0 106 (k + 1))) 0 (101 + c) p = if p = k then J 0 (101 + c) (k + 1) else J 0 (101 + c) p := fun p => by
        rcases c6 hc with rfl | rfl | rfl | rfl | rfl | rfl
        all_goals simp (disch := omega) only [z_upj, z_upk]
      rw [key, key]
      by_cases e : k + 1 ≤ p ∧ p < L
      · rw [if_pos e, if_neg (by omega), if_pos (by omega)]
      · rw [if_neg e]
        by_cases e3 : p = k
        · rw [if_pos e3, if_pos (by omega), e3]
        · rw [if_neg e3, if_neg (by omega)]
    · rw [e3 a b h]
      simp (disch := omega) only [z_upj]
/-- a message is taken out of the reference's row -/
theorem r_rem {l1 l2 : List (Nat → Nat)} {m : Nat → Nat} (h : mR J (l1 ++ m :: l2)) (hl : (l1 ++ m :: l2).length < 128) : ∃ J', gX11_removeMessage n (nI l1.length) J = some J' ∧ mR J' (l1 ++ l2) ∧ (∀ a b, ¬ (a = 0 ∧ (b = 60 ∨ (101 ≤ b ∧ b ≤ 106))) → J' a b = J a b) ∧ ∀ k, ¬ k = 38 → J' 0 60 k = J 0 60 k := by
  have el : (l1 ++ m :: l2).length = (l1 ++ l2).length + 1 := by simp only [List.length_append, List.length_cons]; omega
  obtain ⟨f, hf, hf1⟩ := fu_ex
  obtain ⟨J', e1, e2, e3⟩ := rmm_lp (n := n) (L := (l1 ++ l2).length) (by omega) ((l1 ++ l2).length - l1.length) l1.length am_fu (am_up J 0 60 38 (nI (l1 ++ l2).length)) (by rw [List.length_append]; omega) (by rw [hf]; omega) (by rw [z_upk, if_pos rfl])
  refine ⟨J', ?_, ⟨?_, fun a ha => h.2.1 a ?_, fun k a hk c hc => ?_⟩, fun a b q => ?_, fun k q => ?_⟩
  · rw [gX11_removeMessage, bX11_removeMessage_0, am_lt, h.1, el, pk_sub (by omega), Nat.add_sub_cancel]
    exact e1
  · rw [e3 0 60 (by omega), z_upk, if_pos rfl]
  · rcases List.mem_append.mp ha with q | q
    · exact List.mem_append_left _ q
    · exact List.mem_append_right _ (List.mem_cons_of_mem _ q)
  · have hk' := (List.getElem?_eq_some_iff.mp hk).1
    rw [e2 c hc k]
    simp (disch := omega) only [z_upj]
    by_cases e : l1.length ≤ k
    · rw [if_pos ⟨e, hk'⟩]
      refine h.2.2 (k + 1) a ?_ c hc
      rw [List.getElem?_append_right e] at hk
      rw [List.getElem?_append_right (by omega), show k + 1 - l1.length = (k - l1.length) + 1 from by omega, List.getElem?_cons_succ]
      exact hk
    · rw [if_neg (fun q => e q.1)]
      refine h.2.2 k a ?_ c hc
      rw [List.getElem?_append_left (by omega)] at hk ⊢
      exact hk
  · rw [e3 a b (by omega), z_upj _ _ _ _ _ _ _ (by omega)]
  · rw [e3 0 60 (by omega), z_upk, if_neg q]
theorem mxd_lew {f t c : Nat} : ∀ l : List (Nat → Nat), (∀ m, m ∈ l → m 0 = f → m 1 = t → m 5 ≤ c) → mxd f t l ≤ c
  | [], _ => Nat.zero_le _
  | m :: l, h => by
    have ih := mxd_lew l (fun a ha => h a (List.mem_cons_of_mem _ ha))
    show (if m 0 = f ∧ m 1 = t then max (m 5) (mxd f t l) else mxd f t l) ≤ c
    by_cases e : m 0 = f ∧ m 1 = t
    · rw [if_pos e]
      have := h m List.mem_cons_self e.1 e.2
      omega
    · rw [if_neg e]; exact ih
theorem lat_rem {l1 l2 : List (Nat → Nat)} {m : Nat → Nat} (hm : m 5 ≤ T) : lat T (l1 ++ m :: l2) = lat T (l1 ++ l2) := by
  unfold lat
  rw [List.filter_append, List.filter_append, List.filter_cons_of_neg (by rw [decide_eq_true_eq]; omega)]
theorem due_rem {l1 l2 : List (Nat → Nat)} {m : Nat → Nat} (hm : m 5 ≤ T) (h1 : ∀ a, a ∈ l1 → T < a 5) : due T (l1 ++ m :: l2) = m :: due T (l1 ++ l2) := by
  have e0 : due T l1 = [] := List.filter_eq_nil_iff.mpr (fun a ha => by rw [decide_eq_true_eq]; have := h1 a ha; omega)
  unfold due at e0 ⊢
  rw [List.filter_append, List.filter_append, e0, List.nil_append, List.nil_append]
  exact List.filter_cons_of_pos (by exact decide_eq_true hm)
/-- both sides' mail, a message that came aside -/
theorem ml_rem {J' : am_I} {l1 l2 : List (Nat → Nat)} {m : Nat → Nat} (h : MLr n T I J (l1 ++ m :: l2)) (hm : m 5 ≤ T) (hR : mR J' (l1 ++ l2)) (o : ∀ a b, ¬ (a = 0 ∧ (b = 60 ∨ (101 ≤ b ∧ b ≤ 106))) → J' a b = J a b) (o6 : ∀ k, ¬ k = 38 → J' 0 60 k = J 0 60 k) : MLr n T I J' (l1 ++ l2) := by
  obtain ⟨c0, c1, c2, c3, c4, c5, c6', c7, c8, c9, c10⟩ := h
  have sub : ∀ a, a ∈ l1 ++ l2 → a ∈ l1 ++ m :: l2 := fun a ha => by
    rcases List.mem_append.mp ha with q | q
    · exact List.mem_append_left _ q
    · exact List.mem_append_right _ (List.mem_cons_of_mem _ q)
  refine ⟨by rw [← lat_rem hm]; exact c0, hR, by rw [o6 39 (by omega)]; exact c2, c3, by rw [o6 2 (by omega)]; exact c4, c5, by rw [o 0 107 (by omega)]; exact c6', fun f t hf ht => ?_, fun a ha => c8 a (sub a ha), by rw [o 0 65 (by omega)]; exact c9, by rw [o6 1 (by omega)]; exact c10⟩
  rw [o 0 108 (by omega)]
  obtain ⟨ld, d1, d2, d3⟩ := c7 f t hf ht
  refine ⟨ld, d1, Nat.le_trans (mxd_lew _ (fun a ha q1 q2 => mxd_ge _ (sub a ha) q1 q2)) d2, ?_⟩
  rw [← mxd_lat (T := T) (l1 ++ l2), ← lat_rem hm, mxd_lat]
  exact d3
end REM
section NSC
variable {z : Nat} {I J I' J' : am_I}
theorem ns_cg (oI : ∀ b, b = 48 ∨ (52 ≤ b ∧ b ≤ 55) → I' z b = I z b) (j7 : ∀ j r, 76 ≤ j → j ≤ 81 → r < 136 → J' 0 j (136 * z + r) = J 0 j (136 * z + r)) (j8 : ∀ j, j = 65 ∨ j = 72 ∨ (82 ≤ j ∧ j ≤ 93) → J' 0 j z = J 0 j z) (h : NS z I J) : NS z I' J' ∧ cal J' z = cal J z := by
  obtain ⟨hP, hS, hst⟩ := h
  have hc : cal J' z = cal J z := by unfold cal; rw [j8 87 (by omega)]
  refine ⟨⟨fun r hr => ?_, ?_, ?_⟩, hc⟩
  · have := hP r hr
    unfold WP WT at this ⊢
    rw [oI 52 (by omega), j7 79 r (by omega) (by omega) hr, j7 80 r (by omega) (by omega) hr, j7 78 r (by omega) (by omega) hr, j7 76 r (by omega) (by omega) hr, j8 72 (by omega)]
    exact this
  · unfold TS at hS ⊢
    rw [oI 55 (by omega), j8 87 (by omega), j8 88 (by omega), j8 89 (by omega), j8 90 (by omega), j8 91 (by omega), j8 92 (by omega)]
    exact ⟨fun c hc => by rw [j8 (82 + c) (by omega)]; exact hS.1 c hc, hS.2⟩
  · rw [j8 87 (by omega)]
    rcases hst with ⟨q1, ls, q2, q3⟩ | ⟨q1, q2⟩
    · obtain ⟨g1, g2, g3, g4, g5, g6, g7, g8, g9⟩ := q2
      refine Or.inl ⟨q1, ls, ⟨by rw [j8 65 (by omega)]; exact g1, by rw [j8 82 (by omega), j8 83 (by omega), j8 84 (by omega), j8 85 (by omega), j8 86 (by omega)]; exact g2, ⟨?_, fun c hc => ?_⟩, by rw [oI 55 (by omega)]; exact g4, fun c hc q => ?_, fun c hc q => ?_, by rw [oI 55 (by omega)]; exact g7, by rw [j8 82 (by omega), oI 55 (by omega), j8 93 (by omega)]; exact g8, by rw [j8 82 (by omega), j8 93 (by omega)]; exact g9⟩, ?_⟩
      · have := g3.1
        unfold LSc at this ⊢
        rw [oI 48 (by omega), oI 53 (by omega)]
        exact this
      · rw [oI 54 (by omega), j7 81 c (by omega) (by omega) hc]
        exact g3.2 c hc
      · rw [j7 79 c (by omega) (by omega) hc] at q
        rw [j7 76 c (by omega) (by omega) hc, j7 81 c (by omega) (by omega) hc]
        exact g5 c hc q
      · rw [j7 77 c (by omega) (by omega) hc] at q
        rw [j7 76 c (by omega) (by omega) hc, j7 81 c (by omega) (by omega) hc, j7 79 c (by omega) (by omega) hc, oI 55 (by omega)]
        obtain ⟨w1, w2, w3, w4, w5⟩ := g6 c hc q
        exact ⟨w1, w2, w3, fun c' h1 h2 => by rw [j7 79 c' (by omega) (by omega) (by omega)]; exact w4 c' h1 h2, w5⟩
      · rcases q3 with ⟨w1, w2⟩ | ⟨w1, w2, s, w3, w4, w5, w6, w7, w8⟩
        · exact Or.inl ⟨by rw [oI 55 (by omega)]; exact w1, by rw [j8 72 (by omega)]; exact w2⟩
        · refine Or.inr ⟨by rw [oI 55 (by omega)]; exact w1, by rw [j8 82 (by omega)]; exact w2, s, w3, w4, ?_, fun c h1 h2 => ?_, ?_, ?_⟩
          · rw [j7 79 s (by omega) (by omega) w4]; exact w5
          · rw [j7 79 c (by omega) (by omega) (by omega)]; exact w6 c h1 h2
          · rw [j7 76 s (by omega) (by omega) w4, j7 81 s (by omega) (by omega) w4, j7 78 s (by omega) (by omega) w4]; exact w7
          · rw [j7 78 s (by omega) (by omega) w4, j7 77 s (by omega) (by omega) w4]; exact w8
    · obtain ⟨w1, w2, w3, w4⟩ := q2
      refine Or.inr ⟨q1, by rw [oI 55 (by omega)]; exact w1, by rw [oI 48 (by omega)]; exact w2, by rw [oI 54 (by omega)]; exact w3, fun r hr => ?_⟩
      rw [j7 79 r (by omega) (by omega) hr, j7 77 r (by omega) (by omega) hr]
      exact w4 r hr
end NSC
section FS
variable {n T e x : Nat} {I J I' J' : am_I} {ms ms' : List (Nat → Nat)} {rw rw' : Nat → List (Nat × Nat)} {gv cl gv' cl' H A B : Nat → Nat → Nat} {K : Nat → Nat → Int} {lg fb jl : Nat → List Nat} {fq mk : Nat → Nat}
theorem ns_s {z : Nat} (hI : fSI I I') (hJ : fSJ J J') (h : NS z I J) : NS z I' J' ∧ cal J' z = cal J z := ns_cg (fun b q => hI.1 z b (by omega)) (fun j r q1 q2 _ => by rw [hJ.1 0 j (by omega)]) (fun j q => by rw [hJ.1 0 j (by omega)]) h
/-- masters and mail change -/
theorem co_fs (h : CO n T e I J ms rw gv cl H A B K lg fb jl fq mk) (hI : fSI I I') (hJ : fSJ J J') (hL : MLr n T I' J' ms') (hS : MSr n I' J' rw' gv' cl') (hP : PL n (J 0 65) (mrr n J) ms' rw' gv' cl' H A B) (hg : ∀ x r, x < n → ¬ J 0 65 x = nI 1 → r < 136 → J 0 65 (mrr n J r) = nI 1 → K x r ≤ gv' r x) (hd : DUr gv' I' T ms') : CO n T e I' J' ms' rw' gv' cl' H A B K lg fb jl fq mk := by
  obtain ⟨a1, a2, a3, a4, a5, a6, a7, a8, a9, b1, b2, b3, b4⟩ := h
  have oI : ∀ a b, ¬ (a = 0 ∧ ((4 ≤ b ∧ b ≤ 8) ∨ b = 9 ∨ b = 11)) → I' a b = I a b := hI.1
  have oJ : ∀ a b, ¬ (a = 0 ∧ (b = 60 ∨ (94 ≤ b ∧ b ≤ 98) ∨ (101 ≤ b ∧ b ≤ 106) ∨ b = 108)) → J' a b = J a b := hJ.1
  have oJ6 : ∀ k, ¬ (k = 38 ∨ k = 39) → J' 0 60 k = J 0 60 k := hJ.2
  have e65 : J' 0 65 = J 0 65 := oJ 0 65 (by omega)
  have e66 : J' 0 66 = J 0 66 := oJ 0 66 (by omega)
  have em : mrr n J' = mrr n J := mrr_cg e66
  have e64 : J' 0 64 = J 0 64 := oJ 0 64 (by omega)
  have edD : dD J' = dD J := by unfold dD; rw [e64]
  have e47 : ∀ z, I' z 47 = I z 47 := fun z => oI z 47 (by omega)
  have efw : fwI I' = fwI I := funext fun z => funext fun k => funext fun i => by unfold fwI; rw [e47]
  refine ⟨a1, hL, hS, ?_, fun z hz => nd_cg (a5 z hz) (fun j _ _ _ => oI z j (by omega)) (by rw [e66]) (fun b i _ _ => by rw [oJ 0 67 (by omega)]) (fun b _ => by rw [oJ 0 68 (by omega)]) (fun b _ => by rw [oJ 0 69 (by omega)]) (by rw [oJ 0 70 (by omega)]) (by rw [oJ 0 71 (by omega)]) (by rw [oJ 0 72 (by omega)]) (by rw [oJ 0 73 (by omega)]) (fun k _ => by rw [oJ 0 74 (by omega)]) (fun k i _ _ => by rw [oJ 0 75 (by omega)]) (fun r _ => ⟨by rw [oJ 0 76 (by omega)], by rw [oJ 0 77 (by omega)], by rw [oJ 0 78 (by omega)]⟩), fun z hz => ?_, by rw [e65, em]; exact hP, fun k hk => by rw [oI 0 1 (by omega), e64]; exact a8 k hk, ?_, cti_cg b1 (fun b i _ _ => by rw [e64]) e65 (fun z b i _ _ _ => by rw [oJ 0 67 (by omega)]) (fun z b _ _ => by rw [oJ 0 68 (by omega)]) (fun z k i _ _ _ => by rw [e47]) (fun z hz => (b2 z hz).2.1.2.1) a1.2, by rw [edD, efw]; exact b2, ?_, hd⟩
  · unfold BKr at a4 ⊢
    rw [oI 0 13 (by omega), oI 0 14 (by omega), oJ6 49 (by omega), oJ6 63 (by omega), oJ 0 125 (by omega), oJ 0 126 (by omega)]
    exact a4
  · obtain ⟨s1, s2, s3, s4⟩ := a6 z hz
    rw [e65, e66, em]
    exact ⟨s1, s2, fun q => ⟨(s3 q).1, (s3 q).2.1, fun r hr => ⟨((s3 q).2.2 r hr).1, ((s3 q).2.2 r hr).2.1, ((s3 q).2.2 r hr).2.2.1, fun w => hg z r hz q hr w⟩⟩, s4.1, by rw [oJ 0 71 (by omega), oJ 0 68 (by omega)]; exact s4.2⟩
  · unfold TID at a9 ⊢
    rw [oJ 0 120 (by omega), oI 0 19 (by omega), oI 0 15 (by omega)]
    exact a9
  · unfold MKr at b3 ⊢
    rw [oJ 0 125 (by omega), oJ 0 126 (by omega)]
    exact b3
theorem du_gv (h : DUr gv I T ms) (e : gv' 136 = gv 136) : DUr gv' I T ms := by
  unfold DUr at h ⊢
  rw [e]
  exact h
/-- A MASTER SERVES A RESOURCE, both sides -/
theorem co_srv {r : Nat} (h : CO n T e I J ms rw gv cl H A B K lg fb jl fq mk) (hr : r < 136) (hM : mrr n J r < n) (hmst : mst n (J 0 66) r n 0 = nI (mrr n J r)) (hU : J 0 65 (mrr n J r) = nI 1) : ∃ I' J' ms' rw' gv' cl', gX10_serve n (nI r) I = some I' ∧ gX11_serve n (nI r) J = some J' ∧ CO n T e I' J' ms' rw' gv' cl' H A B K lg fb jl fq mk ∧ fSI I I' ∧ fSJ J J' ∧ gv' 136 = gv 136 := by
  have hn := h.1.2
  have hn0 := h.1.1
  have hc1 := pl_cBk (n := n) (T := T) (U := J 0 65) (mr := mrr n J) (H := H) (A := A) (B := B) hr hM hU
  have hc2 := pl_cGr (n := n) (T := T) (U := J 0 65) (mr := mrr n J) (H := H) (A := A) (B := B) hr hM hU
  obtain ⟨I', J', ms', rw', gv', cl', p1, p2, p3, p4, p5, p6, p7, -, p9⟩ := p_srv (n := n) (T := T) (r := r) (M := mrr n J r) (U := J 0 65) (P := fun ms rw gv' cl => PL n (J 0 65) (mrr n J) ms rw gv' cl H A B ∧ (∀ x r, x < n → ¬ J 0 65 x = nI 1 → r < 136 → J 0 65 (mrr n J r) = nI 1 → K x r ≤ gv' r x) ∧ DUr gv' I T ms) hn0 hn hr hM (fun ms rw gv cl q => by have := pl_len q.1 hn; omega) (fun ms rw gv cl z m rest y ms' q h1 h2 h3 h4 h5 h6 => ⟨hc1 ms rw gv cl z m rest y ms' q.1 h1 h2 h3 h4 h5 h6, q.2.1, du_snd q.2.2 h6 rfl⟩) (fun ms rw gv cl z m rest ms' q h1 h2 h3 => ⟨hc2 ms rw gv cl z m rest ms' q.1 h1 h2 h3, fun x s hx hd hs w => by
    have := q.2.1 x s hx hd hs w
    by_cases c : s = r ∧ x = z
    · obtain ⟨rfl, rfl⟩ := c
      rw [up2_a]
      omega
    · have : up2 gv r z (max (gv r z) m) s x = gv s x := if_neg c
      rw [this]; assumption, du_snd (du_gv q.2.2 (up2_r (by omega))) h3 rfl⟩) h.2.1 h.2.2.1 ⟨h.2.2.2.2.2.2.1, fun x r hx hd hr w => (((h.2.2.2.2.2.1 x hx).2.2.1 hd).2.2 r hr).2.2.2 w, h.2.2.2.2.2.2.2.2.2.2.2.2⟩ rfl hmst (fun z hz => (h.2.2.2.2.1 z hz).2.1)
  exact ⟨I', J', ms', rw', gv', cl', p1, p2, co_fs h p6 p7 p3 p4 p5.1 p5.2.1 (du_cg p5.2.2 (p6.1 0 12 (by omega))), p6, p7, (p9 136 (by omega)).2.1⟩
end FS
