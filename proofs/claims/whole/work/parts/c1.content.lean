
/-- THE CONTENT: the stores at every choice of levels are well-formed; who has what alone; what the nodes see and have cached -/
def CT (n sz : Nat) (Y : Nat → Nat → Nat → Prop) (W : Nat → Nat → wS) (D : wS) (K : Nat → Nat → Int) (U : Nat → Prop) (V : Nat → wS) (hs : Nat → Nat → Prop) : Prop :=
  (∀ L, x_wf (sF Y W D L n) (fun _ => False) ∧ v_LK sz (sF Y W D L n)) ∧ CE Y W D n K ∧ AL n K
  ∧ (∀ z, z < n → U z → ∀ L, L z = 2 → (∀ b r, w_of (sF Y W D L n) b r → 0 < K z r → ∀ i, i < 16 → V z b i = sF Y W D L n b i) ∧ ∀ b, hs z b → ∃ r, w_of (sF Y W D L n) b r ∧ 0 < K z r ∧ t_in (sF Y W D L n) (hs z) b r)
  ∧ ∀ z b, z < n → Y z 2 b → U z ∧ hs z b
section CT
variable {n sz y : Nat} {Y Y' : Nat → Nat → Nat → Prop} {W W' : Nat → Nat → wS} {D D' : wS} {K : Nat → Nat → Int} {U : Nat → Prop} {V V' : Nat → wS} {hs hs' : Nat → Nat → Prop} {L : Nat → Nat}
theorem nd_ge {z l b : Nat} (h : 2 ≤ l) : nd Y z l b ↔ nd Y z 2 b := by
  unfold nd
  constructor
  · rintro (q | q | q)
    · exact Or.inl ⟨by decide, q.2⟩
    · exact Or.inr (Or.inl ⟨by decide, q.2⟩)
    · exact Or.inr (Or.inr q)
  · rintro (q | q | q)
    · exact Or.inl ⟨h, q.2⟩
    · exact Or.inr (Or.inl ⟨by omega, q.2⟩)
    · exact Or.inr (Or.inr q)
theorem lw_cg {z l l' b i : Nat} (e2 : (2 ≤ l ∧ Y z 2 b) ↔ (2 ≤ l' ∧ Y' z 2 b)) (e1 : (1 ≤ l ∧ Y z 1 b) ↔ (1 ≤ l' ∧ Y' z 1 b)) (w2 : 2 ≤ l → Y z 2 b → W z 2 b i = W' z 2 b i) (w1 : 1 ≤ l → Y z 1 b → W z 1 b i = W' z 1 b i) (w0 : W z 0 b i = W' z 0 b i) : lw Y W z l b i = lw Y' W' z l' b i := by
  unfold lw
  by_cases c2 : 2 ≤ l ∧ Y z 2 b
  · rw [cif_pos c2, cif_pos (e2.mp c2), w2 c2.1 c2.2]
  · rw [cif_neg c2, cif_neg (p := 2 ≤ l' ∧ Y' z 2 b) (fun q => c2 (e2.mpr q))]
    by_cases c1 : 1 ≤ l ∧ Y z 1 b
    · rw [cif_pos c1, cif_pos (p := 1 ≤ l' ∧ Y' z 1 b) (e1.mp c1), w1 c1.1 c1.2]
    · rw [cif_neg c1, cif_neg (p := 1 ≤ l' ∧ Y' z 1 b) (fun q => c1 (e1.mpr q)), w0]
theorem lw_eq {z l l' b i : Nat} (h2 : 2 ≤ l ↔ 2 ≤ l') (h1 : 1 ≤ l ↔ 1 ≤ l') : lw Y W z l b i = lw Y W z l' b i :=
  lw_cg (by rw [h2]) (by rw [h1]) (fun _ _ => rfl) (fun _ _ => rfl) rfl
theorem sF_ge (h : 2 ≤ L y) : sF Y W D L n = sF Y W D (lvl L y 2) n := by
  funext b i
  refine sF_cg n (fun z hz => ?_) (fun _ => rfl)
  by_cases e : z = y
  · subst e
    rw [lvl_s]
    exact ⟨nd_ge h, fun _ => lw_eq ⟨fun _ => by decide, fun _ => h⟩ ⟨fun _ => by decide, fun _ => by omega⟩⟩
  · rw [lvl_o e]
    exact ⟨Iff.rfl, fun _ => rfl⟩
theorem x_wf_g {s : wS} {g : Nat → Prop} (h : x_wf s g) (hg : ∀ b, g b → ∀ k p, ¬ w_own s k p b) : x_wf s (fun _ => False) := by
  obtain ⟨⟨hA, hB, hC, hK, hE⟩, hr⟩ := h
  exact ⟨⟨hA, hB, fun k p b ho => (hC k p b ho).imp id (fun q => hg b q k p ho), hK, hE⟩, hr⟩
theorem ix_of {s : wS} {k p b : Nat} (hA : w_A s) (ho : w_own s k p b) (h8 : 8 ≤ p) (h24 : p < 24) : ∃ x, s (w_ib k) 11 = nI x ∧ w_D x ∧ w_own s k 24 x := by
  refine w_ix hA ho.1 (fun e => ?_)
  have := ho.2.2.2
  unfold w_pl at this
  rw [if_neg (by omega), if_neg (by omega), if_pos e] at this
  have h0 := w_nI (a := 0) (by decide) (by have := w_Dlt ho.2.2.1; omega) this
  have := ho.2.2.1.1
  omega
/-- A TRY IS KEPT -/
theorem ct_commit {sv gn : List Nat} {F : (Nat → Nat) → wS} {V1 : wS} {hs1 Bh : Nat → Prop} (h : CT n sz Y W D K U V hs) (hy : y < n) (hU : U y)
    (hTI : ∀ L, L y = 2 → TI (K y) (sF Y W D L n) (F L) V1 (fun b => b ∈ sv) (fun b => b ∈ gn) (fun _ => False) hs1 Bh)
    (hgu : ∀ L, L y = 2 → ∀ b, b ∈ gn → ∀ k p, ¬ w_own (F L) k p b) (hlc : ∀ L, L y = 2 → LR (sF Y W D L n) (F L))
    (hY : ∀ z l b, ¬ (z = y ∧ l = 2) → (Y' z l b ↔ Y z l b)) (hY2 : ∀ b, Y' y 2 b ↔ (Y y 2 b ∨ b ∈ sv) ∧ ¬ b ∈ gn)
    (hW : ∀ z l b i, ¬ (z = y ∧ l = 2) → W' z l b i = W z l b i) (hW2 : ∀ b i, Y' y 2 b → i < 16 → W' y 2 b i = V1 b i) (hold : ∀ b i, Y y 2 b → ¬ b ∈ sv → i < 16 → V1 b i = W y 2 b i)
    (hgr : ∀ b, Y y 2 b → hs1 b) (hV : ∀ z, ¬ z = y → V' z = V z) (hV2 : ∀ b i, ¬ b ∈ gn → i < 16 → V' y b i = V1 b i) (hh : ∀ z, ¬ z = y → hs' z = hs z) (hh2 : ∀ b, hs' y b ↔ hs1 b ∧ ¬ b ∈ gn) : CT n (sz + 1) Y' W' D K U V' hs' := by
  obtain ⟨c1, c2, c3, c4, c5⟩ := h
  -- below the log nothing changes
  have hlow : ∀ L, ¬ 2 ≤ L y → sF Y' W' D L n = sF Y W D L n := fun L hL => by
    funext b i
    have hnd : ∀ z, nd Y' z (L z) b ↔ nd Y z (L z) b := fun z => by
      unfold nd
      rw [hY z 1 b (by omega), hY z 0 b (by omega)]
      by_cases e : z = y
      · rw [e]
        have : ∀ p : Prop, (2 ≤ L y ∧ p) ↔ False := fun p => ⟨fun q => hL q.1, False.elim⟩
        rw [this, this]
      · rw [hY z 2 b (fun q => e q.1)]
    refine sF_cg n (fun z hz => ⟨hnd z, fun _ => ?_⟩) (fun _ => rfl)
    refine lw_cg ?_ (by rw [hY z 1 b (by omega)]) (fun q1 q2 => ?_) (fun _ _ => hW z 1 b i (by omega)) (hW z 0 b i (by omega))
    · by_cases e : z = y
      · rw [e]
        exact ⟨fun q => absurd q.1 hL, fun q => absurd q.1 hL⟩
      · rw [hY z 2 b (fun q => e q.1)]
    · by_cases e : z = y
      · exact absurd (e ▸ q1) hL
      · exact hW z 2 b i (fun q => e q.1)
  -- another node hasn't what was changed
  have hno : ∀ L : Nat → Nat, L y = 2 → ∀ z b l, z < n → ¬ z = y → l ≤ 2 → b ∈ sv → ¬ Y z l b := fun L hL z b l hz hzy hl hb q => by
    have hL1 : lvl L z l y = 2 := by rw [lvl_o (fun e => hzy e.symm)]; exact hL
    obtain ⟨r, r1, r2⟩ := c2 (lvl L z l) z l b hz hl q lvl_s
    rcases (hTI _ hL1).2.2.2.1 b hb with ⟨r', s1, s2⟩ | s1
    · rw [of_eq (c1 _).1 s1 r1] at s2
      have := c3 r z y hz hy hzy r2
      omega
    · exact s1 r r1
  have hgD : ∀ b, b ∈ gn → w_D b := fun b hb => ((hTI (fun _ => 2) rfl).2.2.2.2.2.2.1 b hb).1
  have hng : ∀ L, L y = 2 → ∀ b r, w_of (F L) b r → ¬ b ∈ gn := fun L hL b r ho hb => by
    obtain ⟨p, hp⟩ := of_D ho (hgD b hb)
    exact hgu L hL b hb r p hp
  have hsv2 : ∀ L, L y = 2 → ∀ b r, w_of (F L) b r → b ∈ sv → K y r = 2 := fun L hL b r ho hb => by
    rcases (hTI L hL).2.2.2.2.1 b hb with q | q | ⟨r', s1, s2, s3⟩
    · exact absurd q (hng L hL b r ho)
    · exact q.elim
    · rw [of_eq (hTI L hL).1 ho s1]; exact s2
  -- the new store
  have hjq : ∀ L, L y = 2 → ∀ b r i, w_of (F L) b r → i < 16 → sF Y' W' D L n b i = F L b i := fun L hL b r i ho hi => by
    have hbg := hng L hL b r ho
    by_cases hb : b ∈ sv
    · have hY' : Y' y 2 b := (hY2 b).mpr ⟨Or.inr hb, hbg⟩
      rw [sF_one (z := y) n hy (by rw [hL]; exact nd_2 hY') (fun z hz hzy q => by
        obtain ⟨l, l1, l2, l3⟩ := nd_Y q
        exact hno L hL z b l hz hzy l1 hb ((hY z l b (fun q => hzy q.1)).mp l3)) i]
      unfold lw
      rw [cif_pos ⟨by rw [hL]; decide, hY'⟩, hW2 b i hY' hi]
      have hk := hsv2 L hL b r ho hb
      exact (hTI L hL).2.1 b r ho (by omega) i hi
    · rw [(hTI L hL).2.2.1 b hb i]
      have e2 : Y' y 2 b ↔ Y y 2 b := by
        rw [hY2 b]
        exact ⟨fun q => q.1.resolve_right hb, fun q => ⟨Or.inl q, hbg⟩⟩
      have eY : ∀ z l, Y' z l b ↔ Y z l b := fun z l => by
        by_cases e : z = y ∧ l = 2
        · rw [e.1, e.2]; exact e2
        · exact hY z l b e
      refine sF_cg n (fun z hz => ⟨?_, fun q => ?_⟩) (fun _ => rfl)
      · unfold nd
        rw [eY, eY, eY]
      · refine lw_cg (by rw [eY]) (by rw [eY]) (fun q1 q2 => ?_) (fun _ _ => hW z 1 b i (by omega)) (hW z 0 b i (by omega))
        by_cases e : z = y
        · rw [e] at q2 ⊢
          rw [hW2 b i q2 hi, hold b i (e2.mp q2) hb hi]
        · exact hW z 2 b i (fun q => e q.1)
  have hxF : ∀ L, L y = 2 → x_wf (F L) (fun _ => False) := fun L hL => x_wf_g (hTI L hL).1 (hgu L hL)
  have hj : ∀ L, L y = 2 → jeq (F L) (sF Y' W' D L n) := fun L hL => ⟨fun k i hk hi => hjq L hL _ k i (of_ib hk) hi, fun g i hg hi => hjq L hL _ (128 + g) i (of_mp hg) hi, fun k p b i ho hi => hjq L hL b k i (of_own ho) hi⟩
  have hof : ∀ L, L y = 2 → ∀ b r, w_of (sF Y' W' D L n) b r ↔ w_of (F L) b r := fun L hL b r => jeq_of (hj L hL) (hxF L hL).1.1
  -- what belonged belongs, if it wasn't given back
  have hfw : ∀ L, L y = 2 → ∀ b r, w_of (sF Y W D L n) b r → ¬ b ∈ gn → w_of (F L) b r := fun L hL b r ho hb => by
    rcases ho with q | ⟨p, q⟩ | q
    · exact Or.inl q
    · exact Or.inr (Or.inl ⟨p, ((hTI L hL).2.2.2.2.2.1 r p b q).resolve_left hb⟩)
    · exact Or.inr (Or.inr q)
  have hgo : ∀ L, L y = 2 → ∀ b r, w_of (sF Y W D L n) b r → b ∈ gn → K y r = 2 := fun L hL b r ho hb => by
    rcases ((hTI L hL).2.2.2.2.2.2.1 b hb).2 with ⟨r', s1, s2⟩ | s1
    · rw [of_eq (c1 L).1 ho s1]; exact s2
    · exact absurd ho (s1 r)
  have hbk : ∀ L, L y = 2 → ∀ b r p, w_own (F L) r p b → ¬ b ∈ sv → w_own (sF Y W D L n) r p b := fun L hL b r p ho hb =>
    ((hTI L hL).2.2.2.2.2.2.2.2.2.1 r p b ho).resolve_right (fun q => hb q.1)
  refine ⟨fun L => ?_, fun L z l b hz hl hq hLz => ?_, c3, fun z hz hUz L hL => ?_, fun z b hz hq => ?_⟩
  · by_cases e : 2 ≤ L y
    · rw [sF_ge (y := y) e]
      have hL : lvl L y 2 y = 2 := lvl_s
      exact ⟨jeq_wf (hj _ hL) (hxF _ hL), jeq_LK (hj _ hL) (hxF _ hL).1.1 ((hlc _ hL).lk (c1 _).2)⟩
    · rw [hlow L e]; exact ⟨(c1 L).1, (c1 L).2.up (by omega)⟩
  · by_cases e : z = y ∧ l = 2
    · obtain ⟨rfl, rfl⟩ := e
      obtain ⟨q1, q2⟩ := (hY2 b).mp hq
      by_cases hb : b ∈ sv
      · rcases (hTI L hLz).2.2.2.2.1 b hb with q | q | ⟨r, s1, s2, s3⟩
        · exact absurd q q2
        · exact q.elim
        · exact ⟨r, (hof L hLz b r).mpr s1, s2⟩
      · obtain ⟨r, r1, r2⟩ := c2 L z 2 b hz hl (q1.resolve_right hb) hLz
        exact ⟨r, (hof L hLz b r).mpr (hfw L hLz b r r1 q2), r2⟩
    · have hq' := (hY z l b e).mp hq
      by_cases eL : 2 ≤ L y
      · have hzy : ¬ z = y := fun q => e ⟨q, by rw [q] at hLz; omega⟩
        have hL : lvl L y 2 y = 2 := lvl_s
        obtain ⟨r, r1, r2⟩ := c2 (lvl L y 2) z l b hz hl hq' (by rw [lvl_o hzy]; exact hLz)
        have hbg : ¬ b ∈ gn := fun q => by
          have k1 := hgo _ hL b r r1 q
          have k2 := c3 r z y hz hy hzy r2
          omega
        rw [sF_ge (y := y) eL]
        exact ⟨r, (hof _ hL b r).mpr (hfw _ hL b r r1 hbg), r2⟩
      · rw [hlow L eL]
        exact c2 L z l b hz hl hq' hLz
  · by_cases e : z = y
    · subst e
      refine ⟨fun b r ho hk i hi => ?_, fun b hb => ?_⟩
      · have ho' := (hof L hL b r).mp ho
        rw [hV2 b i (hng L hL b r ho') hi, hjq L hL b r i ho' hi]
        exact (hTI L hL).2.1 b r ho' hk i hi
      · obtain ⟨b1, b2⟩ := (hh2 b).mp hb
        -- what an owner's inode and index have
        have fin : ∀ r, w_of (F L) b r → 0 < K z r → t_in (F L) hs1 b r → ∃ r, w_of (sF Y' W' D L n) b r ∧ 0 < K z r ∧ t_in (sF Y' W' D L n) (hs' z) b r := fun r r1 r2 r3 => by
          refine ⟨r, (hof L hL b r).mpr r1, r2, fun p hp => ?_⟩
          have hp' := (jeq_own (hj L hL) (hxF L hL).1.1).mp hp
          obtain ⟨u1, u2⟩ := r3 p hp'
          refine ⟨(hh2 _).mpr ⟨u1, fun q => w_ib_D hp.1 (hgD _ q)⟩, fun h8 h24 => (hh2 _).mpr ⟨?_, ?_⟩⟩
          · rw [(hj L hL).1 r 11 hp.1 (by decide)]
            exact u2 h8 h24
          · rw [(hj L hL).1 r 11 hp.1 (by decide)]
            obtain ⟨x, x1, x2, x3⟩ := ix_of (hxF L hL).1.1 hp' h8 h24
            rw [x1, nI_clamp (w_Dlt x2)]
            exact hng L hL x r (of_own x3)
        by_cases hsb : b ∈ sv
        · rcases (hTI L hL).2.2.2.2.1 b hsb with q | q | ⟨r, s1, s2, s3⟩
          · exact absurd q b2
          · exact q.elim
          · exact fin r s1 (by omega) s3
        · have hB := (((hTI L hL).2.2.2.2.2.2.2.2.1 b).mp b1).resolve_right hsb
          obtain ⟨r, r1, r2, r3⟩ := (hTI L hL).2.2.2.2.2.2.2.1 b hB
          refine fin r (hfw L hL b r r1 b2) r2 (fun p hp => ?_)
          have hp0 := hbk L hL b r p hp hsb
          obtain ⟨u1, u2⟩ := r3 p hp0
          refine ⟨((hTI L hL).2.2.2.2.2.2.2.2.1 _).mpr (Or.inl u1), fun h8 h24 => ?_⟩
          obtain ⟨x, x1, x2, x3⟩ := ix_of (hxF L hL).1.1 hp h8 h24
          obtain ⟨x', x1', x2', x3'⟩ := ix_of (c1 L).1.1.1 hp0 h8 h24
          have hxx : x = x' := by
            rcases (hTI L hL).2.2.2.2.2.2.2.2.2.1 r 24 x x3 with q | q
            · have := q.2.2.2.symm.trans x3'.2.2.2
              exact w_nI (by have := w_Dlt x2; omega) (by have := w_Dlt x2'; omega) this
            · have := q.2.symm.trans x3'.2.2.2
              have h0 := w_nI (a := 0) (by decide) (by have := w_Dlt x2'; omega) this
              have := x2'.1
              omega
          have := u2 h8 h24
          rw [x1', nI_clamp (w_Dlt x2')] at this
          rw [x1, nI_clamp (w_Dlt x2), hxx]
          exact ((hTI L hL).2.2.2.2.2.2.2.2.1 _).mpr (Or.inl this)
    · rw [hV z e, hh z e]
      by_cases eL : 2 ≤ L y
      · rw [sF_ge (y := y) eL]
        have hLy : lvl L y 2 y = 2 := lvl_s
        have hLz : lvl L y 2 z = 2 := by rw [lvl_o e]; exact hL
        obtain ⟨d1, d2⟩ := c4 z hz hUz (lvl L y 2) hLz
        have hK : ∀ r, 0 < K z r → ¬ K y r = 2 := fun r hr q => by
          have := c3 r y z hy hz (fun e2 => e e2.symm) q
          omega
        have hbk2 : ∀ b r p, w_own (F (lvl L y 2)) r p b → 0 < K z r → w_own (sF Y W D (lvl L y 2) n) r p b := fun b r p ho hr =>
          hbk _ hLy b r p ho (fun q => hK r hr (hsv2 _ hLy b r (of_own ho) q))
        have hbo : ∀ b r, w_of (F (lvl L y 2)) b r → 0 < K z r → w_of (sF Y W D (lvl L y 2) n) b r := fun b r ho hr => by
          rcases ho with q | ⟨p, q⟩ | q
          · exact Or.inl q
          · exact Or.inr (Or.inl ⟨p, hbk2 b r p q hr⟩)
          · exact Or.inr (Or.inr q)
        have hw : ∀ b r i, w_of (F (lvl L y 2)) b r → 0 < K z r → i < 16 → sF Y' W' D (lvl L y 2) n b i = sF Y W D (lvl L y 2) n b i := fun b r i ho hr hi => by
          rw [hjq _ hLy b r i ho hi]
          exact (hTI _ hLy).2.2.1 b (fun q => hK r hr (hsv2 _ hLy b r ho q)) i
        refine ⟨fun b r ho hk i hi => ?_, fun b hb => ?_⟩
        · have ho' := (hof _ hLy b r).mp ho
          rw [hw b r i ho' hk hi]
          exact d1 b r (hbo b r ho' hk) hk i hi
        · obtain ⟨r, r1, r2, r3⟩ := d2 b hb
          have r1' := hfw _ hLy b r r1 (fun q => hK r r2 (hgo _ hLy b r r1 q))
          refine ⟨r, (hof _ hLy b r).mpr r1', r2, fun p hp => ?_⟩
          have hp' := (jeq_own (hj _ hLy) (hxF _ hLy).1.1).mp hp
          obtain ⟨u1, u2⟩ := r3 p (hbk2 b r p hp' r2)
          refine ⟨u1, fun h8 h24 => ?_⟩
          rw [hw (w_ib r) r 11 (of_ib hp.1) r2 (by decide)]
          exact u2 h8 h24
      · rw [hlow L eL]
        exact c4 z hz hUz L hL
  · by_cases e : z = y
    · subst e
      obtain ⟨q1, q2⟩ := (hY2 b).mp hq
      refine ⟨hU, (hh2 b).mpr ⟨?_, q2⟩⟩
      rcases q1 with q | q
      · exact hgr b q
      · exact ((hTI (fun _ => 2) rfl).2.2.2.2.2.2.2.2.1 b).mpr (Or.inr q)
    · rw [hh z e]
      exact c5 z b hz ((hY z 2 b (fun q => e q.1)).mp hq)
end CT
