
section OVR
variable {n T x r t ed : Nat} {I J I' J' : am_I} {lg fb : List Nat} {fq mk : Nat} {ms : List (Nat → Nat)}
/-- a flush is over: what waited goes down, both sides (only what isn't pinned) -/
theorem fo_lp2 {Q : am_I → am_I → Prop} (hn : n ≤ 4) (hx : x < n) (hQ : ∀ I J, Q I J → ∃ lg fb fq mk ms, GBr n T x t ed I J lg fb fq mk ms) (hst : ∀ I J I' J' r, Q I J → r < 136 → J 0 79 (136 * x + r) = nI 0 → GDs n T x r t ed I J I' J' → Q I' J') : ∀ (m k fu fuc : Nat) (I J : am_I), k + m = 136 → m < fu → m < fuc → (∀ c, c < k → WP x J c) → (∀ c, k ≤ c → c < 136 → WQ x J c) → (∀ c, c < 136 → I x 52 c = J 0 79 (136 * x + c)) → Q I J → ∃ I' J', bX10_endFlush_66 n fuc x (nI k) I = some (nI 1, I') ∧ bX11_flushOver_107 n fu (nI x) (nI k) J = (gX11_goOn n (nI x) J').bind (fun q1 => some q1) ∧ Q I' J' ∧ (∀ c, c < 136 → WP x J' c) ∧ I' x 52 = I x 52 ∧ J' 0 79 = J 0 79 ∧ I' x 53 = I x 53 ∧ I' x 48 = I x 48 ∧ I' x 54 = I x 54 ∧ J' 0 81 = J 0 81 := by
  intro m
  induction m with
  | zero =>
    intro k fu fuc I J hk hf hfc hlo hhi h52 hq
    obtain ⟨fu, rfl⟩ : ∃ f, fu = f + 1 := ⟨fu - 1, by omega⟩
    obtain ⟨fuc, rfl⟩ : ∃ f, fuc = f + 1 := ⟨fuc - 1, by omega⟩
    refine ⟨I, J, ?_, ?_, hq, fun c hc => hlo c (by omega), rfl, rfl, rfl, rfl, rfl, rfl⟩
    · conv => lhs; unfold bX10_endFlush_66
      dsimp only
      rw [if_pos (by rw [z_le (by omega) (by omega)]; omega)]
    · conv => lhs; unfold bX11_flushOver_107
      dsimp only
      rw [if_pos (by rw [z_le (by omega) (by omega)]; omega)]
  | succ m ih =>
    intro k fu fuc I J hk hf hfc hlo hhi h52 hq
    obtain ⟨fu, rfl⟩ : ∃ f, fu = f + 1 := ⟨fu - 1, by omega⟩
    obtain ⟨fuc, rfl⟩ : ∃ f, fuc = f + 1 := ⟨fuc - 1, by omega⟩
    have hk6 : k < 136 := by omega
    have g1 : 136 * x + k < 544 := by omega
    have cs : bX10_endFlush_66 n (fuc + 1) x (nI k) I = (gX10_goDown n x (nI k) I).bind (fun q1 => bX10_endFlush_66 n fuc x (nI (k + 1)) q1) := by
      conv => lhs; unfold bX10_endFlush_66
      dsimp only
      rw [if_neg (by rw [z_le (by omega) (by omega)]; omega), nI_add]
    have rs : bX11_flushOver_107 n (fu + 1) (nI x) (nI k) J = if J 0 80 (136 * x + k) = 0 then bX11_flushOver_107 n fu (nI x) (nI (k + 1)) J else (gX11_goDown n (nI x) (nI k) J).bind (fun q4 => bX11_flushOver_107 n fu (nI x) (nI (k + 1)) q4) := by
      conv => lhs; unfold bX11_flushOver_107
      dsimp only
      rw [if_neg (by rw [z_le (by omega) (by omega)]; omega), gX11_at, bX11_at_0, Option.bind_some, pk_mul, nI_add]
      dsimp only
      rw [z_inb (by omega), decide_eq_true g1, z_gdt, z_clamp (by omega)]
      simp only [bX11_flushOver_133, nI_add]
    obtain ⟨lg, fb, fq, mk, ms, hG⟩ := hQ I J hq
    have hlo' : ∀ J1 : am_I, WP x J1 k → (∀ c, ¬ c = k → WP x J c → WP x J1 c) → ∀ c, c < k + 1 → WP x J1 c := fun J1 h1 h2 c hc => by
      by_cases e : c = k
      · rw [e]; exact h1
      · exact h2 c e (hlo c (by omega))
    by_cases hw : J 0 80 (136 * x + k) = nI 0
    · -- nothing
      have hnop : gX10_goDown n x (nI k) I = some I ∧ WP x J k := by
        rcases hhi k (Nat.le_refl _) hk6 with ⟨w1, w2⟩ | ⟨w1, ⟨w2, w3⟩ | ⟨w2, w3⟩⟩
        · exact ⟨c_gd0 (n := n) hk6 hG.1 (Or.inr (by rw [h52 k hk6]; exact w1)), Or.inl ⟨w1, w2⟩⟩
        · exact ⟨c_gd0 (n := n) hk6 hG.1 (Or.inl w2), Or.inr ⟨w1, Or.inl ⟨w2, w3⟩⟩⟩
        · rw [hw] at w3; exact absurd w3 (by decide)
      rw [cs, rs, if_pos (show J 0 80 (136 * x + k) = 0 from hw), hnop.1, Option.bind_some]
      exact ih (k + 1) fu fuc I J (by omega) (by omega) (by omega) (hlo' J hnop.2 (fun _ _ q => q)) (fun c hc hc6 => hhi c (by omega) hc6) h52 hq
    · -- it waits
      have w : J 0 79 (136 * x + k) = nI 0 ∧ ¬ J 0 78 (136 * x + k) = (-1 : Int32) := by
        rcases hhi k (Nat.le_refl _) hk6 with ⟨w1, w2⟩ | ⟨w1, ⟨w2, w3⟩ | ⟨w2, w3⟩⟩
        · exact absurd w2 hw
        · exact absurd w3 hw
        · exact ⟨w1, w2⟩
      obtain ⟨m', m1, m2, m3⟩ := (hG.2.2.2.2.2.2.2 k hk6).2.2.resolve_left w.2
      obtain ⟨I1, J1, d1, d2, d3⟩ := p_gd (n := n) hn hx hk6 hG m1 m2 (by rw [h52 k hk6]; exact w.1)
      obtain ⟨f1, f2, f3, f4, f5, f6, f7, f8, f9, f10⟩ := gds_fr (by omega) hk6 d3
      rw [cs, rs, if_neg (show ¬ J 0 80 (136 * x + k) = 0 from hw), d1, d2, Option.bind_some, Option.bind_some]
      obtain ⟨I', J', r1, r2, r3, r4, r5, r6, r7, r8, r9, r10⟩ := ih (k + 1) fu fuc I1 J1 (by omega) (by omega) (by omega) (hlo' J1 (Or.inr ⟨by rw [f2]; exact w.1, f7⟩) (fun c hc q => by
        obtain ⟨v1, v2, v3⟩ := f1 (136 * x + c) (by omega)
        unfold WP at q ⊢
        rw [f2, v3]
        exact q.imp id (fun q => ⟨q.1, wt_cg q.2 v1 v2 v3 f6⟩))) (fun c hc hc6 => by
        obtain ⟨v1, v2, v3⟩ := f1 (136 * x + c) (by omega)
        have := hhi c (by omega) hc6
        unfold WQ at this ⊢
        rw [f2, v3, v2]
        exact this) (fun c hc => by rw [f3, f2]; exact h52 c hc) (hst I J I1 J1 k hq hk6 w.1 d3)
      exact ⟨I', J', r1, r2, r3, r4, r5.trans f3, r6.trans f2, r7.trans f4, r8.trans f5, r9.trans f10, r10.trans f8⟩
theorem c_wt (hr : r < 136) (h51 : I x 51 r = J 0 78 (136 * x + r)) (h52 : I x 52 r = J 0 79 (136 * x + r)) (hW : WQ x J r) : gX4_waitsToGoDown n x (nI r) I = some (nI (if J 0 80 (136 * x + r) = nI 0 then 0 else 1), I) := by
  have g : am_inb (nI r) 136 = true := by rw [z_inb (by omega)]; exact decide_eq_true hr
  rw [gX4_waitsToGoDown, bX4_waitsToGoDown_0, am_gd_of g, z_clamp (by omega), h51, am_gd_of g, h52]
  rcases hW with ⟨w1, w2⟩ | ⟨w1, ⟨w2, w3⟩ | ⟨w2, w3⟩⟩
  · rw [w1, w2, if_pos rfl]
    by_cases c : J 0 78 (136 * x + r) = (-1 : Int32)
    · rw [if_pos c]; rfl
    · rw [if_neg c]
      exact (if_neg (show ¬ nI 1 = 0 by decide)).trans rfl
  · rw [if_pos w2, w3, if_pos rfl]; rfl
  · rw [if_neg w2, w1, w3, if_neg (show ¬ nI 1 = nI 0 by decide)]
    exact (if_pos (rfl : nI 0 = 0)).trans rfl
/-- whether somebody waits for the log, both sides -/
theorem wl_lp (hx : x < 4) (h5 : ∀ c, c < 136 → I x 51 c = J 0 78 (136 * x + c) ∧ I x 52 c = J 0 79 (136 * x + c) ∧ WQ x J c) : ∀ (q k fu fuc b : Nat), k + q = 136 → q < fu → q < fuc → b ≤ 1 → ∃ w : Nat, w ≤ 1 ∧ bX10_endFlush_17 n fuc x (nI b) (nI k) I = bX10_endFlush_43 n x (nI w) I ∧ bX11_flushOver_50 n fu (nI x) (nI b) (nI k) J = (if J 0 70 x ≤ 0 then (bX11_flushOver_105 n (nI x) J) else (if nI w = 0 then (bX11_flushOver_105 n (nI x) J) else ((gX11_beginFlush n (nI x) J).bind (fun q2 => some q2)))) := by
  intro q
  induction q with
  | zero =>
    intro k fu fuc b hk hf hfc hb
    obtain ⟨fu, rfl⟩ : ∃ f, fu = f + 1 := ⟨fu - 1, by omega⟩
    obtain ⟨fuc, rfl⟩ : ∃ f, fuc = f + 1 := ⟨fuc - 1, by omega⟩
    refine ⟨b, hb, ?_, ?_⟩
    · conv => lhs; unfold bX10_endFlush_17
      dsimp only
      rw [if_pos (by rw [z_le (by omega) (by omega)]; omega)]
    · conv => lhs; unfold bX11_flushOver_50
      dsimp only
      rw [if_pos (by rw [z_le (by omega) (by omega)]; omega), am_gd_of (by rw [z_inb (by omega)]; exact decide_eq_true hx), z_clamp (by omega)]
  | succ q ih =>
    intro k fu fuc b hk hf hfc hb
    obtain ⟨fu, rfl⟩ : ∃ f, fu = f + 1 := ⟨fu - 1, by omega⟩
    obtain ⟨fuc, rfl⟩ : ∃ f, fuc = f + 1 := ⟨fuc - 1, by omega⟩
    have hk6 : k < 136 := by omega
    have g1 : 136 * x + k < 544 := by omega
    obtain ⟨v1, v2, v3⟩ := h5 k hk6
    have cs1 : bX10_endFlush_17 n (fuc + 1) x (nI b) (nI k) I = if nI b = 0 then bX10_endFlush_17 n fuc x (nI (if J 0 80 (136 * x + k) = nI 0 then 0 else 1)) (nI (k + 1)) I else bX10_endFlush_43 n x (nI b) I := by
      conv => lhs; unfold bX10_endFlush_17
      dsimp only
      rw [if_neg (by rw [z_le (by omega) (by omega)]; omega), c_wt hk6 v1 v2 v3, Option.bind_some, nI_add]
    have rs : bX11_flushOver_50 n (fu + 1) (nI x) (nI b) (nI k) J = if nI b = 0 then bX11_flushOver_50 n fu (nI x) (nI (if J 0 80 (136 * x + k) = nI 0 then 0 else 1)) (nI (k + 1)) J else bX11_flushOver_50 n fu (nI x) (nI 1) (nI (k + 1)) J := by
      conv => lhs; unfold bX11_flushOver_50
      dsimp only
      rw [if_neg (by rw [z_le (by omega) (by omega)]; omega), gX11_at, bX11_at_0, Option.bind_some, pk_mul, nI_add]
      dsimp only
      rw [z_inb (by omega), decide_eq_true g1, z_gdt, z_clamp (by omega)]
      simp only [bX11_flushOver_79, bX11_flushOver_74, nI_add]
      by_cases c : nI b = 0
      · rw [if_pos c, if_pos c]
        by_cases d : J 0 80 (136 * x + k) = 0
        · rw [if_pos d, if_pos (show J 0 80 (136 * x + k) = nI 0 from d)]
        · rw [if_neg d, if_neg (show ¬ J 0 80 (136 * x + k) = nI 0 from d)]
      · rw [if_neg c, if_neg c]
    have hb01 : b = 0 ∨ b = 1 := by omega
    rcases hb01 with rfl | rfl
    · obtain ⟨w, k1, k2, k3⟩ := ih (k + 1) fu fuc (if J 0 80 (136 * x + k) = nI 0 then 0 else 1) (by omega) (by omega) (by omega) (by split <;> omega)
      refine ⟨w, k1, ?_, ?_⟩
      · rw [cs1]; exact (if_pos (rfl : nI 0 = 0)).trans k2
      · rw [rs]; exact (if_pos (rfl : nI 0 = 0)).trans k3
    · obtain ⟨w, k1, k2, k3⟩ := ih (k + 1) fu (fuc + 1) 1 (by omega) (by omega) (by omega) (by omega)
      have k2' : bX10_endFlush_17 n (fuc + 1) x (nI 1) (nI (k + 1)) I = bX10_endFlush_43 n x (nI 1) I := by
        conv => lhs; unfold bX10_endFlush_17
        dsimp only
        by_cases c : nI 136 ≤ nI (k + 1)
        · rw [if_pos c]
        · rw [if_neg c]; exact (if_neg (show ¬ nI 1 = 0 by decide)).trans rfl
      refine ⟨w, k1, ?_, ?_⟩
      · rw [cs1, ← k2, k2']; exact (if_neg (show ¬ nI 1 = 0 by decide)).trans rfl
      · rw [rs]; exact (if_neg (show ¬ nI 1 = 0 by decide)).trans k3
/-- .. a flush is under way -/
theorem ns_72 (oI : ∀ b, b = 48 ∨ (52 ≤ b ∧ b ≤ 55) → I' x b = I x b) (j7 : ∀ j r, 76 ≤ j → j ≤ 81 → r < 136 → J' 0 j (136 * x + r) = J 0 j (136 * x + r)) (j8 : ∀ j, j = 65 ∨ (82 ≤ j ∧ j ≤ 93) → J' 0 j x = J 0 j x) (h72 : ¬ J' 0 72 x = nI 0) (h : NS x I J) : NS x I' J' := by
  obtain ⟨hP, hS, hst⟩ := h
  refine ⟨fun r hr => ?_, ?_, ?_⟩
  · have := hP r hr
    unfold WP WT at this ⊢
    rw [oI 52 (by omega), j7 79 r (by omega) (by omega) hr, j7 80 r (by omega) (by omega) hr, j7 78 r (by omega) (by omega) hr, j7 76 r (by omega) (by omega) hr]
    exact ⟨this.1, this.2.imp id (fun w => ⟨w.1, w.2.imp id (fun u => ⟨u.1, u.2.1, u.2.2.1, h72⟩)⟩)⟩
  · unfold TS at hS ⊢
    rw [oI 55 (by omega), j8 87 (by omega), j8 88 (by omega), j8 89 (by omega), j8 90 (by omega), j8 91 (by omega), j8 92 (by omega)]
    exact ⟨fun c hc => by rw [j8 (82 + c) (by omega)]; exact hS.1 c hc, hS.2⟩
  · rw [j8 87 (by omega)]
    rcases hst with ⟨q1, ls, q2, q3⟩ | ⟨q1, q2⟩
    · obtain ⟨g1, g2, g3, g4, g5, g6, g7, g8, g9⟩ := q2
      refine Or.inl ⟨q1, ls, ⟨by rw [j8 65 (by omega)]; exact g1, by rw [j8 82 (by omega), j8 83 (by omega), j8 84 (by omega), j8 85 (by omega), j8 86 (by omega)]; exact g2, ⟨?_, fun c hc => ?_⟩, by rw [oI 55 (by omega)]; exact g4, fun c hc q => ?_, fun c hc q => ?_, by rw [oI 55 (by omega)]; exact g7, by rw [j8 82 (by omega), oI 55 (by omega), j8 93 (by omega)]; exact g8, by rw [j8 82 (by omega), j8 93 (by omega)]; exact g9⟩, ?_⟩
      · have := g3.1
        unfold LSc at this ⊢
        rw [oI 48 (by omega), oI 53 (by omega)]
        exact this
      · rw [oI 54 (by omega), j7 81 c (by omega) (by omega) hc]
        exact g3.2 c hc
      · rw [j7 79 c (by omega) (by omega) hc] at q
        rw [j7 76 c (by omega) (by omega) hc, j7 81 c (by omega) (by omega) hc]
        exact g5 c hc q
      · rw [j7 77 c (by omega) (by omega) hc] at q
        rw [j7 76 c (by omega) (by omega) hc, j7 81 c (by omega) (by omega) hc, j7 79 c (by omega) (by omega) hc, oI 55 (by omega)]
        obtain ⟨w1, w2, w3, w4, w5⟩ := g6 c hc q
        exact ⟨w1, w2, w3, fun c' h1 h2 => by rw [j7 79 c' (by omega) (by omega) (by omega)]; exact w4 c' h1 h2, w5⟩
      · rcases q3 with ⟨w1, w2⟩ | ⟨w1, w2, s, w3, w4, w5, w6, w7, w8⟩
        · exact Or.inl ⟨by rw [oI 55 (by omega)]; exact w1, h72⟩
        · refine Or.inr ⟨by rw [oI 55 (by omega)]; exact w1, by rw [j8 82 (by omega)]; exact w2, s, w3, w4, ?_, fun c h1 h2 => ?_, ?_, ?_⟩
          · rw [j7 79 s (by omega) (by omega) w4]; exact w5
          · rw [j7 79 c (by omega) (by omega) (by omega)]; exact w6 c h1 h2
          · rw [j7 76 s (by omega) (by omega) w4, j7 81 s (by omega) (by omega) w4, j7 78 s (by omega) (by omega) w4]; exact w7
          · rw [j7 78 s (by omega) (by omega) w4, j7 77 s (by omega) (by omega) w4]; exact w8
    · obtain ⟨w1, w2, w3, w4⟩ := q2
      refine Or.inr ⟨q1, by rw [oI 55 (by omega)]; exact w1, by rw [oI 48 (by omega)]; exact w2, by rw [oI 54 (by omega)]; exact w3, fun r hr => ?_⟩
      rw [j7 79 r (by omega) (by omega) hr, j7 77 r (by omega) (by omega) hr]
      exact w4 r hr
/-- .. what waited went down -/
theorem ns_fo (oI : ∀ b, b = 48 ∨ (52 ≤ b ∧ b ≤ 55) → I' x b = I x b) (e7 : ∀ c, c < 136 → J' 0 77 (136 * x + c) = J 0 77 (136 * x + c) ∧ J' 0 79 (136 * x + c) = J 0 79 (136 * x + c) ∧ J' 0 81 (136 * x + c) = J 0 81 (136 * x + c)) (h76 : ∀ c, c < 136 → ∃ h h' : Nat, h ≤ 2 ∧ h' ≤ h ∧ J 0 76 (136 * x + c) = nI h ∧ J' 0 76 (136 * x + c) = nI h') (hp : ∀ c, c < 136 → J 0 79 (136 * x + c) = nI 1 → J' 0 76 (136 * x + c) = J 0 76 (136 * x + c)) (j8 : ∀ j, j = 65 ∨ (82 ≤ j ∧ j ≤ 93) → J' 0 j x = J 0 j x) (hw : ∀ c, c < 136 → WP x J' c) (h : NS x I J) : NS0 x I' J' := by
  obtain ⟨hP, hS, hst⟩ := h
  refine ⟨fun c hc => ⟨by rw [oI 52 (by omega), (e7 c hc).2.1]; exact (hP c hc).1, hw c hc⟩, ?_, ?_⟩
  · unfold TS at hS ⊢
    rw [oI 55 (by omega), j8 87 (by omega), j8 88 (by omega), j8 89 (by omega), j8 90 (by omega), j8 91 (by omega), j8 92 (by omega)]
    exact ⟨fun c hc => by rw [j8 (82 + c) (by omega)]; exact hS.1 c hc, hS.2⟩
  · rw [j8 87 (by omega)]
    rcases hst with ⟨q1, ls, q2, q3⟩ | ⟨q1, q2⟩
    · obtain ⟨g1, g2, g3, g4, g5, g6, g7, g8, g9⟩ := q2
      refine Or.inl ⟨q1, ls, by rw [j8 65 (by omega)]; exact g1, by rw [j8 82 (by omega), j8 83 (by omega), j8 84 (by omega), j8 85 (by omega), j8 86 (by omega)]; exact g2, ⟨?_, fun c hc => ?_⟩, by rw [oI 55 (by omega)]; exact g4, fun c hc q => ?_, fun c hc q => ?_, by rw [oI 55 (by omega)]; exact g7, by rw [j8 82 (by omega), oI 55 (by omega), j8 93 (by omega)]; exact g8, by rw [j8 82 (by omega), j8 93 (by omega)]; exact g9⟩
      · have := g3.1
        unfold LSc at this ⊢
        rw [oI 48 (by omega), oI 53 (by omega)]
        exact this
      · rw [oI 54 (by omega), (e7 c hc).2.2]
        exact g3.2 c hc
      · rw [(e7 c hc).2.1] at q
        rw [(e7 c hc).2.2, hp c hc q]
        exact g5 c hc q
      · rw [(e7 c hc).1] at q
        obtain ⟨w1, w2, w3, w4, w5⟩ := g6 c hc q
        refine ⟨w1, by rw [(e7 c hc).2.1]; exact w2, ?_, fun c' h1 h2 => by rw [(e7 c' (by omega)).2.1]; exact w4 c' h1 h2, by rw [oI 55 (by omega)]; exact w5⟩
        rw [(e7 c hc).2.2]
        obtain ⟨k, k', k1, k2, k3, k4⟩ := h76 c hc
        obtain ⟨-, -, v, v1, v2⟩ := g3.2 c hc
        rw [k3, v2, z_lt (by omega) (by omega)] at w3
        rw [k4, v2, z_lt (by omega) (by omega)]
        omega
    · obtain ⟨w1, w2, w3, w4⟩ := q2
      refine Or.inr ⟨q1, by rw [oI 55 (by omega)]; exact w1, by rw [oI 48 (by omega)]; exact w2, by rw [oI 54 (by omega)]; exact w3, fun c hc => ?_⟩
      rw [(e7 c hc).2.1, (e7 c hc).1]
      exact w4 c hc
end OVR
