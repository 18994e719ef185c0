
section CT2
variable {n sz y : Nat} {Y Y' : Nat → Nat → Nat → Prop} {W W' : Nat → Nat → wS} {D D' : wS} {K K' : Nat → Nat → Int} {U U' : Nat → Prop} {V V' : Nat → wS} {hs hs' : Nat → Nat → Prop} {L : Nat → Nat}
/-- whoever has, at some layer, a block that belongs to r has r alone; no other has it -/
theorem ct_own {z b r l : Nat} (h : CT n sz Y W D K U V hs) (hz : z < n) (hl : l ≤ 2) (hY : Y z l b) (ho : w_of (sF Y W D L n) b r) : K z r = 2 ∧ ∀ z' l', z' < n → ¬ z' = z → ¬ nd Y z' l' b := by
  obtain ⟨c1, c2, c3, c4, c5⟩ := h
  have hk : K z r = 2 := Classical.not_not.mp (fun q => ce_of c2 (fun L => (c1 L).1) hz q hl ho hY)
  refine ⟨hk, fun z' l' hz' hne => ?_⟩
  have := c3 r z z' hz hz' (fun e => hne e.symm) hk
  exact ce_no c2 (fun L => (c1 L).1) hz' (by omega) ho
/-- STEPS THAT MAP LEVELS: what is seen at L now was seen at tau L -/
theorem ct_lev {tau : (Nat → Nat) → (Nat → Nat)} (h : CT n sz Y W D K U V hs)
    (hS : ∀ L b r i, w_of (sF Y W D (tau L) n) b r → i < 16 → sF Y' W' D' L n b i = sF Y W D (tau L) n b i)
    (hT : ∀ L z, z < n → U' z → L z = 2 → tau L z = 2) (hC : ∀ (L : Nat → Nat) z b, z < n → L z ≤ 2 → Y' z (L z) b → tau L z ≤ 2 ∧ Y z (tau L z) b)
    (hU : ∀ z, z < n → U' z → U z) (hV : ∀ z, z < n → U' z → ∀ L, tau L z = 2 → ∀ b r i, w_of (sF Y W D (tau L) n) b r → 0 < K z r → i < 16 → V' z b i = V z b i) (hh : ∀ z, z < n → U' z → hs' z = hs z) (h2 : ∀ z b, z < n → Y' z 2 b → U' z ∧ Y z 2 b) : CT n sz Y' W' D' K U' V' hs' := by
  obtain ⟨c1, c2, c3, c4, c5⟩ := h
  have hj : ∀ L, jeq (sF Y W D (tau L) n) (sF Y' W' D' L n) := fun L => ⟨fun k i hk hi => hS L _ k i (of_ib hk) hi, fun g i hg hi => hS L _ (128 + g) i (of_mp hg) hi, fun k p b i ho hi => hS L b k i (of_own ho) hi⟩
  have hof : ∀ L b r, w_of (sF Y' W' D' L n) b r ↔ w_of (sF Y W D (tau L) n) b r := fun L b r => jeq_of (hj L) (c1 _).1.1.1
  refine ⟨fun L => ⟨jeq_wf (hj L) (c1 _).1, jeq_LK (hj L) (c1 _).1.1.1 (c1 _).2⟩, fun L z l b hz hl hq hLz => ?_, c3, fun z hz hUz L hL => ?_, fun z b hz hq => ?_⟩
  · subst hLz
    obtain ⟨a1, a2⟩ := hC L z b hz hl hq
    obtain ⟨r, r1, r2⟩ := c2 (tau L) z (tau L z) b hz a1 a2 rfl
    exact ⟨r, (hof L b r).mpr r1, r2⟩
  · have ht := hT L z hz hUz hL
    obtain ⟨d1, d2⟩ := c4 z hz (hU z hz hUz) (tau L) ht
    rw [hh z hz hUz]
    refine ⟨fun b r ho hk i hi => ?_, fun b hb => ?_⟩
    · have ho' := (hof L b r).mp ho
      rw [hV z hz hUz L ht b r i ho' hk hi, hS L b r i ho' hi]
      exact d1 b r ho' hk i hi
    · obtain ⟨r, r1, r2, r3⟩ := d2 b hb
      refine ⟨r, (hof L b r).mpr r1, r2, fun p hp => ?_⟩
      obtain ⟨u1, u2⟩ := r3 p ((jeq_own (hj L) (c1 _).1.1.1).mp hp)
      refine ⟨u1, fun h8 h24 => ?_⟩
      rw [(hj L).1 r 11 hp.1 (by decide)]
      exact u2 h8 h24
  · obtain ⟨q1, q2⟩ := h2 z b hz hq
    rw [hh z hz q1]
    exact ⟨q1, (c5 z b hz q2).2⟩
/-- a flush begins -/
theorem ct_begin (h : CT n sz Y W D K U V hs) (h0 : ∀ b, ¬ Y y 1 b) (hY : ∀ z l b, ¬ (z = y ∧ (l = 1 ∨ l = 2)) → (Y' z l b ↔ Y z l b)) (hY2 : ∀ b, ¬ Y' y 2 b) (hY1 : ∀ b, Y' y 1 b ↔ Y y 2 b) (hW : ∀ z l b i, ¬ (z = y ∧ (l = 1 ∨ l = 2)) → W' z l b i = W z l b i) (hW1 : ∀ b i, Y y 2 b → i < 16 → W' y 1 b i = W y 2 b i) : CT n sz Y' W' D K U V hs := by
  refine ct_lev (tau := fun L => if L y = 1 then lvl L y 2 else L) h (fun L b r i _ hi => ?_) (fun L z hz _ hL => ?_) (fun L z b hz hl hq => ?_) (fun z _ q => q) (fun _ _ _ _ _ _ _ _ _ _ _ => rfl) (fun _ _ _ => rfl) (fun z b hz hq => ?_)
  · have key : ∀ z, (nd Y' z (L z) b ↔ nd Y z ((if L y = 1 then lvl L y 2 else L) z) b) ∧ lw Y' W' z (L z) b i = lw Y W z ((if L y = 1 then lvl L y 2 else L) z) b i ∨ (¬ nd Y' z (L z) b ∧ ¬ nd Y z ((if L y = 1 then lvl L y 2 else L) z) b) := fun z => by
      by_cases e : z = y
      · subst e
        have n1 : (1 ≤ L z ∧ Y' z 1 b) ↔ (1 ≤ L z ∧ Y z 2 b) := by rw [hY1]
        by_cases hb : Y z 2 b
        · by_cases hL : 1 ≤ L z
          · left
            have e2 : 2 ≤ (if L z = 1 then lvl L z 2 else L) z := by
              by_cases c : L z = 1
              · rw [if_pos c, lvl_s]; exact Nat.le_refl _
              · rw [if_neg c]; omega
            refine ⟨⟨fun _ => Or.inl ⟨e2, hb⟩, fun _ => Or.inr (Or.inl ⟨hL, (hY1 b).mpr hb⟩)⟩, ?_⟩
            unfold lw
            rw [cif_neg (p := 2 ≤ L z ∧ Y' z 2 b) (fun q => hY2 b q.2), cif_pos (p := 1 ≤ L z ∧ Y' z 1 b) ⟨hL, (hY1 b).mpr hb⟩, cif_pos (p := 2 ≤ (if L z = 1 then lvl L z 2 else L) z ∧ Y z 2 b) ⟨e2, hb⟩, hW1 b i hb hi]
          · left
            have e0 : (if L z = 1 then lvl L z 2 else L) z = L z := by rw [if_neg (by omega)]
            rw [e0]
            refine ⟨?_, lw_cg ⟨fun q => absurd q.1 (by omega), fun q => absurd q.1 (by omega)⟩ ⟨fun q => absurd q.1 hL, fun q => absurd q.1 hL⟩ (fun q => by omega) (fun q => absurd q hL) (hW z 0 b i (by omega))⟩
            unfold nd
            rw [hY z 0 b (by omega)]
            exact ⟨fun q => q.elim (fun q => by omega) (fun q => q.elim (fun q => absurd q.1 hL) (fun q => Or.inr (Or.inr q))), fun q => q.elim (fun q => by omega) (fun q => q.elim (fun q => absurd q.1 hL) (fun q => Or.inr (Or.inr q)))⟩
        · left
          refine ⟨?_, lw_cg ⟨fun q => absurd q.2 (hY2 b), fun q => absurd q.2 hb⟩ ⟨fun q => absurd ((hY1 b).mp q.2) hb, fun q => absurd q.2 (h0 b)⟩ (fun _ q => absurd q (hY2 b)) (fun _ q => absurd ((hY1 b).mp q) hb) (hW z 0 b i (by omega))⟩
          unfold nd
          rw [hY z 0 b (by omega)]
          exact ⟨fun q => q.elim (fun q => absurd q.2 (hY2 b)) (fun q => q.elim (fun q => absurd ((hY1 b).mp q.2) hb) (fun q => Or.inr (Or.inr q))), fun q => q.elim (fun q => absurd q.2 hb) (fun q => q.elim (fun q => absurd q.2 (h0 b)) (fun q => Or.inr (Or.inr q)))⟩
      · left
        have e0 : (if L y = 1 then lvl L y 2 else L) z = L z := by
          by_cases c : L y = 1
          · rw [if_pos c, lvl_o e]
          · rw [if_neg c]
        have eY : ∀ l, Y' z l b ↔ Y z l b := fun l => hY z l b (fun q => e q.1)
        rw [e0]
        refine ⟨?_, lw_cg (by rw [eY]) (by rw [eY]) (fun _ _ => hW z 2 b i (fun q => e q.1)) (fun _ _ => hW z 1 b i (fun q => e q.1)) (hW z 0 b i (fun q => e q.1))⟩
        unfold nd
        rw [eY, eY, eY]
    refine sF_cg n (fun z _ => ?_) (fun _ => rfl)
    rcases key z with ⟨k1, k2⟩ | ⟨k1, k2⟩
    · exact ⟨k1, fun _ => k2⟩
    · exact ⟨⟨fun q => absurd q k1, fun q => absurd q k2⟩, fun q => absurd q k1⟩
  · by_cases c : L y = 1
    · rw [if_pos c, lvl_o (fun e => by rw [e] at hL; omega)]; exact hL
    · rw [if_neg c]; exact hL
  · by_cases e : z = y
    · subst e
      by_cases c : L z = 1
      · rw [if_pos c, lvl_s]
        rw [c] at hq
        exact ⟨Nat.le_refl _, (hY1 b).mp hq⟩
      · rw [if_neg c]
        by_cases c2 : L z = 2
        · rw [c2] at hq; exact absurd hq (hY2 b)
        · exact ⟨hl, (hY z (L z) b (by omega)).mp hq⟩
    · have e0 : (if L y = 1 then lvl L y 2 else L) z = L z := by
        by_cases c : L y = 1
        · rw [if_pos c, lvl_o e]
        · rw [if_neg c]
      rw [e0]
      exact ⟨hl, (hY z (L z) b (fun q => e q.1)).mp hq⟩
  · by_cases e : z = y
    · subst e; exact absurd hq (hY2 b)
    · have q := (hY z 2 b (fun q => e q.1)).mp hq
      exact ⟨(h.2.2.2.2 z b hz q).1, q⟩
/-- the journal's head is written: the journal is valid -/
theorem ct_head (h : CT n sz Y W D K U V hs) (h0 : ∀ b, ¬ Y y 0 b) (hY : ∀ z l b, ¬ (z = y ∧ l = 0) → (Y' z l b ↔ Y z l b)) (hY0 : ∀ b, Y' y 0 b ↔ Y y 1 b) (hW : ∀ z l b i, ¬ (z = y ∧ l = 0) → W' z l b i = W z l b i) (hW0 : ∀ b i, Y y 1 b → i < 16 → W' y 0 b i = W y 1 b i) (hD : ∀ b i, 128 ≤ b → D' b i = D b i) : CT n sz Y' W' D' K U V hs := by
  refine ct_lev (tau := fun L => if L y = 0 then lvl L y 1 else L) h (fun L b r i ho hi => ?_) (fun L z hz _ hL => ?_) (fun L z b hz hl hq => ?_) (fun z _ q => q) (fun _ _ _ _ _ _ _ _ _ _ _ => rfl) (fun _ _ _ => rfl) (fun z b hz hq => ?_)
  · refine sF_cg n (fun z _ => ?_) (fun _ => hD b i (of_pos ho))
    by_cases e : z = y
    · subst e
      by_cases hb : Y z 1 b
      · have e1 : 1 ≤ (if L z = 0 then lvl L z 1 else L) z := by
          by_cases c : L z = 0
          · rw [if_pos c, lvl_s]; exact Nat.le_refl _
          · rw [if_neg c]; omega
        have e2 : 2 ≤ (if L z = 0 then lvl L z 1 else L) z ↔ 2 ≤ L z := by
          by_cases c : L z = 0
          · rw [if_pos c, lvl_s, c]; decide
          · rw [if_neg c]
        refine ⟨⟨fun _ => Or.inr (Or.inl ⟨e1, hb⟩), fun _ => Or.inr (Or.inr ((hY0 b).mpr hb))⟩, fun _ => ?_⟩
        unfold lw
        by_cases c2 : 2 ≤ L z ∧ Y z 2 b
        · rw [cif_pos (p := 2 ≤ L z ∧ Y' z 2 b) ⟨c2.1, (hY z 2 b (by omega)).mpr c2.2⟩, cif_pos (p := 2 ≤ (if L z = 0 then lvl L z 1 else L) z ∧ Y z 2 b) ⟨e2.mpr c2.1, c2.2⟩, hW z 2 b i (by omega)]
        · rw [cif_neg (p := 2 ≤ L z ∧ Y' z 2 b) (fun q => c2 ⟨q.1, (hY z 2 b (by omega)).mp q.2⟩), cif_neg (p := 2 ≤ (if L z = 0 then lvl L z 1 else L) z ∧ Y z 2 b) (fun q => c2 ⟨e2.mp q.1, q.2⟩), cif_pos (p := 1 ≤ (if L z = 0 then lvl L z 1 else L) z ∧ Y z 1 b) ⟨e1, hb⟩]
          by_cases c1 : 1 ≤ L z
          · rw [cif_pos (p := 1 ≤ L z ∧ Y' z 1 b) ⟨c1, (hY z 1 b (by omega)).mpr hb⟩, hW z 1 b i (by omega)]
          · rw [cif_neg (p := 1 ≤ L z ∧ Y' z 1 b) (fun q => c1 q.1), hW0 b i hb hi]
      · have n0 : ¬ Y' z 0 b := fun q => hb ((hY0 b).mp q)
        have n1 : ¬ Y' z 1 b := fun q => hb ((hY z 1 b (by omega)).mp q)
        have e2 : 2 ≤ (if L z = 0 then lvl L z 1 else L) z ↔ 2 ≤ L z := by
          by_cases c : L z = 0
          · rw [if_pos c, lvl_s, c]; decide
          · rw [if_neg c]
        refine ⟨?_, fun q => ?_⟩
        · unfold nd
          rw [e2, hY z 2 b (by omega)]
          exact ⟨fun q => q.elim Or.inl (fun q => q.elim (fun q => absurd q.2 n1) (fun q => absurd q n0)), fun q => q.elim Or.inl (fun q => q.elim (fun q => absurd q.2 hb) (fun q => absurd q (h0 b)))⟩
        · rcases q with q | q | q
          · unfold lw
            rw [cif_pos (p := 2 ≤ L z ∧ Y' z 2 b) q, cif_pos (p := 2 ≤ (if L z = 0 then lvl L z 1 else L) z ∧ Y z 2 b) ⟨e2.mpr q.1, (hY z 2 b (by omega)).mp q.2⟩, hW z 2 b i (by omega)]
          · exact absurd q.2 n1
          · exact absurd q n0
    · have e0 : (if L y = 0 then lvl L y 1 else L) z = L z := by
        by_cases c : L y = 0
        · rw [if_pos c, lvl_o e]
        · rw [if_neg c]
      have eY : ∀ l, Y' z l b ↔ Y z l b := fun l => hY z l b (fun q => e q.1)
      rw [e0]
      refine ⟨?_, fun _ => lw_cg (by rw [eY]) (by rw [eY]) (fun _ _ => hW z 2 b i (fun q => e q.1)) (fun _ _ => hW z 1 b i (fun q => e q.1)) (hW z 0 b i (fun q => e q.1))⟩
      unfold nd
      rw [eY, eY, eY]
  · by_cases c : L y = 0
    · rw [if_pos c, lvl_o (fun e => by rw [e] at hL; omega)]; exact hL
    · rw [if_neg c]; exact hL
  · by_cases e : z = y
    · subst e
      by_cases c : L z = 0
      · rw [if_pos c, lvl_s]
        rw [c] at hq
        exact ⟨by decide, (hY0 b).mp hq⟩
      · rw [if_neg c]
        exact ⟨hl, (hY z (L z) b (by omega)).mp hq⟩
    · have e0 : (if L y = 0 then lvl L y 1 else L) z = L z := by
        by_cases c : L y = 0
        · rw [if_pos c, lvl_o e]
        · rw [if_neg c]
      rw [e0]
      exact ⟨hl, (hY z (L z) b (fun q => e q.1)).mp hq⟩
  · have q := (hY z 2 b (by omega)).mp hq
    exact ⟨(h.2.2.2.2 z b hz q).1, q⟩
/-- a block that is in a valid journal is written where it belongs, whole or torn: nothing is seen of it -/
theorem ct_place (h : CT n sz Y W D K U V hs) (hy : y < n) (hD : ∀ b i, 128 ≤ b → D' b i = D b i ∨ Y y 0 b)
    (hV : ∀ z, z < n → U z → ∀ b i, b < 640 → i < 16 → V' z b i = V z b i ∨ (Y y 0 b ∧ (z = y → Y y 1 b ∧ ¬ Y y 2 b ∧ V' z b i = W y 1 b i))) : CT n sz Y W D' K U V' hs := by
  refine ct_lev (tau := fun L => L) h (fun L b r i ho hi => ?_) (fun L z hz _ hL => hL) (fun L z b hz hl hq => ⟨hl, hq⟩) (fun z _ q => q) (fun z hz hU L hL b r i ho hk hi => ?_) (fun _ _ _ => rfl) (fun z b hz hq => ⟨(h.2.2.2.2 z b hz hq).1, hq⟩)
  · refine sF_cg n (fun z _ => ⟨Iff.rfl, fun _ => rfl⟩) (fun q => ?_)
    rcases hD b i (of_pos ho) with e | e
    · exact e
    · exact absurd (Or.inr (Or.inr e)) (q y hy)
  · rcases hV z hz hU b i (of_lt ho) hi with e | ⟨e, e2⟩
    · exact e
    · obtain ⟨k1, k2⟩ := ct_own h hy (by decide) e ho
      by_cases c : z = y
      · subst c
        obtain ⟨f1, f2, f3⟩ := e2 rfl
        rw [f3, (h.2.2.2.1 z hz hU L hL).1 b r ho hk i hi, sF_one (z := z) n hz (Or.inr (Or.inr e)) (fun z' hz' hne => k2 z' _ hz' hne) i]
        unfold lw
        rw [cif_neg (p := 2 ≤ L z ∧ Y z 2 b) (fun q => f2 q.2), cif_pos (p := 1 ≤ L z ∧ Y z 1 b) ⟨by rw [show L z = 2 from hL]; decide, f1⟩]
      · exfalso
        have := h.2.2.1 r y z hy hz (fun q => c q.symm) k1
        omega
/-- all is in its place: the layers below the log go (a flush is over; a journal was replayed) -/
theorem ct_over (h : CT n sz Y W D K U V hs) (hy : y < n) (hY : ∀ z l b, ¬ (z = y ∧ l < 2) → (Y' z l b ↔ Y z l b)) (hY0 : ∀ l b, l < 2 → ¬ Y' y l b) (hW : ∀ z l b i, ¬ (z = y ∧ l < 2) → W' z l b i = W z l b i) (hD : ∀ b i, 128 ≤ b → D' b i = D b i) (hd : ∀ l b i, l < 2 → Y y l b → i < 16 → W y l b i = D b i) : CT n sz Y' W' D' K U V hs := by
  refine ct_lev (tau := fun L => L) h (fun L b r i ho hi => ?_) (fun L z hz _ hL => hL) (fun L z b hz hl hq => ⟨hl, ?_⟩) (fun z _ q => q) (fun _ _ _ _ _ _ _ _ _ _ _ => rfl) (fun _ _ _ => rfl) (fun z b hz hq => ?_)
  · have eY : ∀ z l, ¬ z = y → (Y' z l b ↔ Y z l b) := fun z l e => hY z l b (fun q => e q.1)
    have e2 : Y' y 2 b ↔ Y y 2 b := hY y 2 b (by omega)
    have other : ∀ z, ¬ z = y → (nd Y' z (L z) b ↔ nd Y z (L z) b) ∧ lw Y' W' z (L z) b i = lw Y W z (L z) b i := fun z e => by
      refine ⟨?_, lw_cg (by rw [eY z 2 e]) (by rw [eY z 1 e]) (fun _ _ => hW z 2 b i (fun q => e q.1)) (fun _ _ => hW z 1 b i (fun q => e q.1)) (hW z 0 b i (fun q => e q.1))⟩
      unfold nd
      rw [eY z 2 e, eY z 1 e, eY z 0 e]
    by_cases hb : nd Y y (L y) b
    · obtain ⟨l, l1, l2, l3⟩ := nd_Y hb
      obtain ⟨k1, k2⟩ := ct_own h hy l1 l3 ho
      by_cases c : 2 ≤ L y ∧ Y y 2 b
      · rw [sF_one (z := y) n hy hb (fun z' hz' hne => k2 z' _ hz' hne) i, sF_one (z := y) n hy (Or.inl ⟨c.1, e2.mpr c.2⟩) (fun z' hz' hne q => k2 z' _ hz' hne ((other z' hne).1.mp q)) i]
        unfold lw
        rw [cif_pos (p := 2 ≤ L y ∧ Y' y 2 b) ⟨c.1, e2.mpr c.2⟩, cif_pos c, hW y 2 b i (by omega)]
      · rw [sF_one (z := y) n hy hb (fun z' hz' hne => k2 z' _ hz' hne) i, sF_no (Y := Y') n (fun z hz q => by
          by_cases e : z = y
          · subst e
            rcases q with q | q | q
            · exact c ⟨q.1, e2.mp q.2⟩
            · exact hY0 1 b (by decide) q.2
            · exact hY0 0 b (by decide) q
          · exact k2 z _ hz e ((other z e).1.mp q)) i, hD b i (of_pos ho)]
        unfold lw
        rw [cif_neg c]
        by_cases c1 : 1 ≤ L y ∧ Y y 1 b
        · rw [cif_pos c1, hd 1 b i (by decide) c1.2 hi]
        · rw [cif_neg c1]
          rcases hb with q | q | q
          · exact absurd q c
          · exact absurd q c1
          · rw [hd 0 b i (by decide) q hi]
    · refine sF_cg n (fun z hz => ?_) (fun _ => hD b i (of_pos ho))
      by_cases e : z = y
      · subst e
        have : ¬ nd Y' z (L z) b := fun q => by
          rcases q with q | q | q
          · exact hb (Or.inl ⟨q.1, e2.mp q.2⟩)
          · exact hY0 1 b (by decide) q.2
          · exact hY0 0 b (by decide) q
        exact ⟨⟨fun q => absurd q this, fun q => absurd q hb⟩, fun q => absurd q this⟩
      · exact ⟨(other z e).1, fun _ => (other z e).2⟩
  · by_cases e : z = y ∧ L z < 2
    · obtain ⟨rfl, e⟩ := e
      exact absurd hq (hY0 _ b e)
    · exact (hY z (L z) b e).mp hq
  · have q := (hY z 2 b (by omega)).mp hq
    exact ⟨(h.2.2.2.2 z b hz q).1, q⟩
/-- a node crashes: its log and its flush are lost -/
theorem ct_crash (h : CT n sz Y W D K U V hs) (hY : ∀ z l b, ¬ (z = y ∧ 1 ≤ l) → (Y' z l b ↔ Y z l b)) (hY0 : ∀ l b, 1 ≤ l → ¬ Y' y l b) (hW : ∀ z l b i, W' z l b i = W z l b i) (hU : ∀ z, U' z ↔ U z ∧ ¬ z = y) (hV : ∀ z, ¬ z = y → V' z = V z) (hh : ∀ z, ¬ z = y → hs' z = hs z) : CT n sz Y' W' D K U' V' hs' := by
  refine ct_lev (tau := fun L => lvl L y 0) h (fun L b r i ho hi => ?_) (fun L z hz hz2 hL => ?_) (fun L z b hz hl hq => ?_) (fun z _ q => ((hU z).mp q).1) (fun z _ q L _ b r i _ _ _ => by rw [hV z ((hU z).mp q).2]) (fun z _ q => hh z ((hU z).mp q).2) (fun z b hz hq => ?_)
  · refine sF_cg n (fun z hz => ?_) (fun _ => rfl)
    by_cases e : z = y
    · subst e
      rw [lvl_s]
      have e0 : Y' z 0 b ↔ Y z 0 b := hY z 0 b (by omega)
      refine ⟨?_, fun q => ?_⟩
      · unfold nd
        rw [e0]
        exact ⟨fun q => q.elim (fun q => absurd q.2 (hY0 2 b (by decide))) (fun q => q.elim (fun q => absurd q.2 (hY0 1 b (by decide))) (fun q => Or.inr (Or.inr q))), fun q => q.elim (fun q => absurd q.1 (by decide)) (fun q => q.elim (fun q => absurd q.1 (by decide)) (fun q => Or.inr (Or.inr q)))⟩
      · exact lw_cg ⟨fun q => absurd q.2 (hY0 2 b (by decide)), fun q => absurd q.1 (by decide)⟩ ⟨fun q => absurd q.2 (hY0 1 b (by decide)), fun q => absurd q.1 (by decide)⟩ (fun _ q => absurd q (hY0 2 b (by decide))) (fun _ q => absurd q (hY0 1 b (by decide))) (hW z 0 b i)
    · rw [lvl_o e]
      have eY : ∀ l, Y' z l b ↔ Y z l b := fun l => hY z l b (fun q => e q.1)
      refine ⟨?_, fun _ => lw_cg (by rw [eY]) (by rw [eY]) (fun _ _ => hW z 2 b i) (fun _ _ => hW z 1 b i) (hW z 0 b i)⟩
      unfold nd
      rw [eY, eY, eY]
  · rw [lvl_o ((hU z).mp hz2).2]; exact hL
  · by_cases e : z = y
    · subst e
      rw [lvl_s]
      by_cases c : 1 ≤ L z
      · exact absurd hq (hY0 _ b c)
      · have : L z = 0 := by omega
        rw [this] at hq
        exact ⟨by decide, (hY z 0 b (by omega)).mp hq⟩
    · rw [lvl_o e]
      exact ⟨hl, (hY z (L z) b (fun q => e q.1)).mp hq⟩
  · by_cases e : z = y
    · subst e; exact absurd hq (hY0 2 b (by decide))
    · have q := (hY z 2 b (fun q => e q.1)).mp hq
      exact ⟨(hU z).mpr ⟨(h.2.2.2.2 z b hz q).1, e⟩, q⟩
end CT2
