
section WRITE5
variable {n sz y : Nat} {lg fb jl : Nat → List Nat} {C fw : Nat → wS} {D D' : wS} {K : Nat → Nat → Int} {U : Nat → Prop} {V V' : Nat → wS} {hs : Nat → Nat → Prop} {fq : Nat → Nat} {be : Int32}
theorem setN_id {α : Type} {f : Nat → α} {y : Nat} : setN f y (f y) = f := funext fun z => by
  by_cases e : z = y
  · rw [e, setN_s]
  · rw [setN_o e]
theorem yY_cg {lg fb jl lg' fb' jl' : Nat → List Nat} {z l b : Nat} (h2 : l = 2 → lg' z = lg z) (h1 : l = 1 → fb' z = fb z) (h0 : l = 0 → jl' z = jl z) : yY lg' fb' jl' z l b ↔ yY lg fb jl z l b := by
  unfold yY
  constructor
  · rintro (⟨q1, q2⟩ | ⟨q1, q2⟩ | ⟨q1, q2⟩)
    · exact Or.inl ⟨q1, h2 q1 ▸ q2⟩
    · exact Or.inr (Or.inl ⟨q1, h1 q1 ▸ q2⟩)
    · exact Or.inr (Or.inr ⟨q1, h0 q1 ▸ q2⟩)
  · rintro (⟨q1, q2⟩ | ⟨q1, q2⟩ | ⟨q1, q2⟩)
    · exact Or.inl ⟨q1, (h2 q1).symm ▸ q2⟩
    · exact Or.inr (Or.inl ⟨q1, (h1 q1).symm ▸ q2⟩)
    · exact Or.inr (Or.inr ⟨q1, (h0 q1).symm ▸ q2⟩)
theorem wW_cg {C fw : Nat → wS} {D : wS} {fb jl fb' jl' : Nat → List Nat} {z l b i : Nat} (h1 : l = 1 → fb' z = fb z) (h0 : l = 0 → jl' z = jl z) : wW C fw D fb' jl' z l b i = wW C fw D fb jl z l b i := by
  unfold wW
  by_cases e2 : l = 2
  · rw [if_pos e2, if_pos e2]
  · rw [if_neg e2, if_neg e2]
    by_cases e1 : l = 1
    · rw [if_pos e1, if_pos e1, h1 e1]
    · rw [if_neg e1, if_neg e1]
      by_cases e0 : l = 0
      · rw [if_pos e0, if_pos e0, h0 e0]
      · rw [if_neg e0, if_neg e0]
/-- the disk's words where no layer and no node looks -/
theorem ct_disk {fb jl : Nat → List Nat} (h : CT n sz (yY lg fb jl) (wW C fw D fb jl) D K U V hs) (hjl : ∀ z, z < n → (jl z).length ≤ 16) (hJ : ∀ z k i, z < n → k < (jl z).length → i < 16 → D' (3 + 24 * z + k) i = D (3 + 24 * z + k) i) (hD : ∀ b i, 128 ≤ b → b < 640 → i < 16 → D' b i = D b i) (hV : ∀ z b i, z < n → U z → 128 ≤ b → b < 640 → i < 16 → V' z b i = V z b i) : CT n sz (yY lg fb jl) (wW C fw D' fb jl) D' K U V' hs := by
  refine ct_cg h (fun _ _ _ _ _ => Iff.rfl) (fun z l b i hz hl hq hi => ?_) hD (fun _ _ => Iff.rfl) hV (fun _ _ _ => rfl)
  rcases l3 hl with rfl | rfl | rfl
  · rw [wW_0, wW_0]
    rw [y0] at hq
    exact hJ z _ i hz (idx_get hq).2 hi
  · rfl
  · rfl
/-- A WRITE OF A FLUSH -/
theorem ct_write (h : CT n sz (yY lg fb jl) (wW C fw D fb jl) D K U V hs) (hn : n ≤ 4) (hy : y < n) (hF : ∀ z, z < n → FJ z D (fb z) (jl z) (fq z) (fw z)) (hne : ¬ fb y = []) (hq : fq y < 2 * (fb y).length + 3)
    (hD : ∀ b i, i < 16 → D' b i = if b = wb y (fb y) (fq y) then ww (fb y) be (fw y) (fq y) i else D b i)
    (hV : ∀ z b i, z < n → U z → b < 640 → i < 16 → (V' z b i = V z b i ∧ hs z b) ∨ (¬ hs z b ∧ V z b i = D b i ∧ V' z b i = D' b i)) :
    ∃ fb1 jl1, CT n sz (yY lg (setN fb y fb1) (setN jl y jl1)) (wW C fw D' (setN fb y fb1) (setN jl y jl1)) D' K U V' hs ∧ (∀ z, z < n → FJ z D' (setN fb y fb1 z) (setN jl y jl1 z) (setN fq y (fq y + 1) z) (fw z)) ∧ fb1 = if fq y + 1 = 2 * (fb y).length + 3 then [] else fb y := by
  obtain ⟨a1, a2, a3, a4, a5⟩ := hF y hy
  obtain ⟨e1, e2, e3, e4, e5⟩ := a5 hne
  have hc0 : 0 < (fb y).length := List.length_pos_iff.mpr hne
  have hc16 := a1.2.1
  have hjl16 : ∀ z, z < n → (jl z).length ≤ 16 := fun z hz => (hF z hz).2.1.2.1
  obtain ⟨w, hw⟩ : ∃ w, w = wb y (fb y) (fq y) := ⟨_, rfl⟩
  rw [← hw] at hD
  have hDo : ∀ b i, i < 16 → ¬ b = w → D' b i = D b i := fun b i hi hb => by rw [hD b i hi, if_neg hb]
  have hVo : ∀ z b i, z < n → U z → b < 640 → i < 16 → ¬ b = w → V' z b i = V z b i := fun z b i hz hU hb hi hbw => by
    rcases hV z b i hz hU hb hi with q | ⟨q1, q2, q3⟩
    · exact q.1
    · rw [q3, q2, hDo b i hi hbw]
  -- the other nodes' journals and flushes
  have hFo : ∀ (fb1 jl1 : List Nat), (∀ z, z < n → ¬ z = y → (∀ b, 1 + 24 * z ≤ b → b < 19 + 24 * z → ¬ b = w) ∧ ∀ b, b ∈ fb z → ¬ b = w) → FJ y D' fb1 jl1 (fq y + 1) (fw y) → ∀ z, z < n → FJ z D' (setN fb y fb1 z) (setN jl y jl1 z) (setN fq y (fq y + 1) z) (fw z) := fun fb1 jl1 ho hy' z hz => by
    by_cases e : z = y
    · rw [e, setN_s, setN_s, setN_s]; exact hy'
    · rw [setN_o e, setN_o e, setN_o e]
      exact fj_cg (hF z hz) (fun b i h1 h2 hi => hDo b i hi ((ho z hz e).1 b h1 h2)) (fun b i hb hi => hDo b i hi ((ho z hz e).2 b hb))
  have hlow : w < 19 + 24 * y → 1 + 24 * y ≤ w → ∀ z, z < n → ¬ z = y → (∀ b, 1 + 24 * z ≤ b → b < 19 + 24 * z → ¬ b = w) ∧ ∀ b, b ∈ fb z → ¬ b = w := fun h1 h2 z hz hzy => ⟨fun b b1 b2 e => by omega, fun b hb e => by
    have := ((hF z hz).1.2.2 b hb).1
    omega⟩
  by_cases q1 : fq y < (fb y).length
  · -- a block's image
    have hwe : w = 3 + 24 * y + fq y := by rw [hw]; unfold wb; rw [if_pos q1]
    have hjl := e1 (by omega)
    refine ⟨fb y, jl y, ?_, ?_, by rw [if_neg (by omega)]⟩
    · rw [setN_id, setN_id]
      exact ct_wj (j := w) h (by omega) (by omega) hn hy hF hjl (fun b i hi hb => hDo b i hi hb) (fun z b i hz hU hb hi hb2 => hVo z b i hz hU hb hi (by omega))
    · refine hFo _ _ (hlow (by omega) (by omega)) ⟨a1, a2, by rw [hDo _ _ (by decide) (by omega)]; exact a3, fun q => absurd hjl q, fun _ => ⟨fun _ => hjl, fun k i hk hkq hi => ?_, fun q => by omega, fun q => by omega, fun j b i hj => by omega⟩⟩
      by_cases e : k = fq y
      · rw [hD _ i hi, if_pos (by omega)]
        unfold ww
        rw [if_pos q1, e]
      · rw [hDo _ i hi (by omega)]
        exact e2 k i hk (by omega) hi
  · by_cases q2 : fq y = (fb y).length
    · -- the list
      have hwe : w = 2 + 24 * y := by rw [hw]; unfold wb; rw [if_neg q1, if_pos q2]
      have hjl := e1 (by omega)
      refine ⟨fb y, jl y, ?_, ?_, by rw [if_neg (by omega)]⟩
      · rw [setN_id, setN_id]
        exact ct_wj (j := w) h (by omega) (by omega) hn hy hF hjl (fun b i hi hb => hDo b i hi hb) (fun z b i hz hU hb hi hb2 => hVo z b i hz hU hb hi (by omega))
      · refine hFo _ _ (hlow (by omega) (by omega)) ⟨a1, a2, by rw [hDo _ _ (by decide) (by omega)]; exact a3, fun q => absurd hjl q, fun _ => ⟨fun _ => hjl, fun k i hk hkq hi => ?_, fun q k b hk => ?_, fun q => by omega, fun j b i hj => by omega⟩⟩
        · rw [hDo _ i hi (by omega)]
          exact e2 k i hk (by omega) hi
        · have := get_lt hk
          rw [hD _ k (by omega), if_pos hwe.symm]
          unfold ww
          rw [if_neg q1, if_pos q2, if_pos this, getD_some hk]
    · by_cases q3 : fq y = (fb y).length + 1
      · -- the head: the journal is valid
        have hwe : w = 1 + 24 * y := by rw [hw]; unfold wb; rw [if_neg q1, if_neg q2, if_pos q3]
        have hjl := e1 (by omega)
        refine ⟨fb y, fb y, ?_, ?_, by rw [if_neg (by omega)]⟩
        · rw [setN_id]
          have h1 : CT n sz (yY lg fb (setN jl y (fb y))) (wW C fw D fb (setN jl y (fb y))) D K U V hs := ct_head h (fun b q => by rw [y0, hjl] at q; exact absurd q List.not_mem_nil) (fun z l b hzl => yY_cg (fun _ => rfl) (fun _ => rfl) (fun e => setN_o (fun e2 => hzl ⟨e2, e⟩))) (fun b => by rw [y0, y1, setN_s]) (fun z l b i hzl => wW_cg (fun _ => rfl) (fun e => setN_o (fun e2 => hzl ⟨e2, e⟩))) (fun b i hb hi => by
            rw [y1] at hb
            rw [wW_0, wW_1, setN_s]
            have := (idx_get hb).2
            exact e2 _ i this (by omega) hi) (fun _ _ _ => rfl)
          refine ct_disk h1 (fun z hz => ?_) (fun z k i hz hk hi => hDo _ i hi (by
            have : k < 16 := by
              by_cases e : z = y
              · rw [e, setN_s] at hk; omega
              · rw [setN_o e] at hk; have := hjl16 z hz; omega
            omega)) (fun b i hb _ hi => hDo b i hi (by omega)) (fun z b i hz hU hb hb2 hi => hVo z b i hz hU hb2 hi (by omega))
          by_cases e : z = y
          · rw [e, setN_s]; exact hc16
          · rw [setN_o e]; exact hjl16 z hz
        · refine hFo _ _ (hlow (by omega) (by omega)) ⟨a1, a1, ?_, fun _ => ⟨?_, fun k b hk => ?_⟩, fun _ => ⟨fun q => by omega, fun k i hk hkq hi => ?_, fun q k b hk => ?_, fun _ => rfl, fun j b i hj => by omega⟩⟩
          · rw [hD _ 2 (by decide), if_pos hwe.symm]
            unfold ww
            rw [if_neg q1, if_neg q2, if_neg (fun q => q.2 q3), if_neg (by decide), if_neg (by decide), if_pos rfl, if_pos q3]
            exact ⟨fun _ => hne, fun _ => rfl⟩
          · rw [hD _ 1 (by decide), if_pos hwe.symm]
            unfold ww
            rw [if_neg q1, if_neg q2, if_neg (fun q => q.2 q3), if_neg (by decide), if_pos rfl]
          · rw [hDo _ k (by have := get_lt hk; omega) (by omega)]
            exact e3 (by omega) k b hk
          · rw [hDo _ i hi (by omega)]
            exact e2 k i hk (by omega) hi
          · rw [hDo _ k (by have := get_lt hk; omega) (by omega)]
            exact e3 (by omega) k b hk
      · have hjf := e4 (by omega)
        by_cases q4 : fq y < 2 * (fb y).length + 2
        · -- a block gets to its place
          have hj : fq y - (fb y).length - 2 < (fb y).length := by omega
          obtain ⟨b0, hb0⟩ : ∃ b, (fb y)[fq y - (fb y).length - 2]? = some b := ⟨_, List.getElem?_eq_getElem hj⟩
          have hwe : w = b0 := by rw [hw]; unfold wb; rw [if_neg q1, if_neg q2, if_neg q3, if_pos q4, getD_some hb0]
          have hbm := List.mem_of_getElem? hb0
          have hb128 := a1.2.2 b0 hbm
          have hD0 : ∀ i, i < 16 → D' b0 i = fw y (fq y - (fb y).length - 2) i := fun i hi => by
            rw [hD _ i hi, if_pos hwe.symm]
            unfold ww
            rw [if_neg q1, if_neg q2, if_pos ⟨q4, q3⟩]
          refine ⟨fb y, jl y, ?_, ?_, by rw [if_neg (by omega)]⟩
          · rw [setN_id, setN_id]
            have h1 : CT n sz (yY lg fb jl) (wW C fw D fb jl) (fun b i => if i < 16 then D' b i else D b i) K U V' hs := ct_place (y := y) h hy (fun b i hb => by
              by_cases hi : i < 16
              · by_cases e : b = w
                · exact Or.inr (by rw [y0, hjf, e, hwe]; exact hbm)
                · left
                  show (if i < 16 then D' b i else D b i) = _
                  rw [if_pos hi, hDo b i hi e]
              · left
                show (if i < 16 then D' b i else D b i) = _
                rw [if_neg hi]) (fun z hz hU b i hb hi => by
              by_cases e : b = w
              · rcases hV z b i hz hU hb hi with q | ⟨u1, u2, u3⟩
                · exact Or.inl q.1
                · refine Or.inr ⟨by rw [y0, hjf, e, hwe]; exact hbm, fun ez => ?_⟩
                  subst ez
                  refine ⟨by rw [y1, e, hwe]; exact hbm, fun q => u1 (h.2.2.2.2 z b hz q).2, ?_⟩
                  rw [u3, e, hwe, hD0 i hi, wW_1, idx_of a1.1 hb0]
              · exact Or.inl (hVo z b i hz hU hb hi e))
            refine ct_cg h1 (fun _ _ _ _ _ => Iff.rfl) (fun z l b i hz hl hq' hi => ?_) (fun b i _ _ hi => by
              show D' b i = if i < 16 then D' b i else D b i
              rw [if_pos hi]) (fun _ _ => Iff.rfl) (fun _ _ _ _ _ _ _ _ => rfl) (fun _ _ _ => rfl)
            rcases l3 hl with rfl | rfl | rfl
            · rw [wW_0, wW_0]
              rw [y0] at hq'
              have := (idx_get hq').2
              have := hjl16 z hz
              exact hDo _ i hi (by omega)
            · rfl
            · rfl
          · refine hFo _ _ (fun z hz hzy => ⟨fun b b1 b2 e => by omega, fun b hb e => fl_dj h hy hz hzy (by rw [e, hwe] at hb; exact hbm) (by rw [e, hwe] at hb; exact hb)⟩) ⟨a1, a2, by rw [hDo _ _ (by decide) (by omega)]; exact a3, fun q => ?_, fun _ => ⟨fun q => by omega, fun k i hk hkq hi => ?_, fun q k b hk => ?_, fun _ => hjf, fun j b i hj' hb hi => ?_⟩⟩
            · obtain ⟨u1, u2⟩ := a4 q
              have := hjl16 y hy
              exact ⟨by rw [hDo _ _ (by decide) (by omega)]; exact u1, fun k b hk => by rw [hDo _ k (by have := get_lt hk; omega) (by omega)]; exact u2 k b hk⟩
            · rw [hDo _ i hi (by omega)]
              exact e2 k i hk (by omega) hi
            · rw [hDo _ k (by have := get_lt hk; omega) (by omega)]
              exact e3 (by omega) k b hk
            · by_cases e : j = fq y - (fb y).length - 2
              · subst e
                have : b = b0 := Option.some.inj (hb.symm.trans hb0)
                rw [this, hD0 i hi]
              · have hbb : ¬ b = w := fun e' => e (by
                  rw [e', hwe] at hb
                  rw [← idx_of a1.1 hb, idx_of a1.1 hb0])
                rw [hDo b i hi hbb]
                exact e5 j b i (by omega) hb hi
        · -- the head again: the flush is over
          have hqe : fq y = 2 * (fb y).length + 2 := by omega
          have hwe : w = 1 + 24 * y := by rw [hw]; unfold wb; rw [if_neg q1, if_neg q2, if_neg q3, if_neg q4]
          refine ⟨[], [], ?_, ?_, by rw [if_pos (by omega)]⟩
          · have h1 : CT n sz (yY lg (setN fb y []) (setN jl y [])) (wW C fw D (setN fb y []) (setN jl y [])) D K U V hs := ct_over (y := y) h hy (fun z l b hzl => yY_cg (fun _ => rfl) (fun e => setN_o (fun e2 => hzl ⟨e2, by omega⟩)) (fun e => setN_o (fun e2 => hzl ⟨e2, by omega⟩))) (fun l b hl q => by
              have : l = 0 ∨ l = 1 := by omega
              rcases this with rfl | rfl
              · rw [y0, setN_s] at q; exact absurd q List.not_mem_nil
              · rw [y1, setN_s] at q; exact absurd q List.not_mem_nil) (fun z l b i hzl => wW_cg (fun e => setN_o (fun e2 => hzl ⟨e2, by omega⟩)) (fun e => setN_o (fun e2 => hzl ⟨e2, by omega⟩))) (fun _ _ _ => rfl) (fun l b i hl q hi => by
              have : l = 0 ∨ l = 1 := by omega
              rcases this with rfl | rfl
              · rw [y0, hjf] at q
                obtain ⟨u1, u2⟩ := idx_get q
                rw [wW_0, hjf, e2 _ i u2 (by omega) hi, e5 _ b i (by omega) u1 hi]
              · rw [y1] at q
                obtain ⟨u1, u2⟩ := idx_get q
                rw [wW_1, e5 _ b i (by omega) u1 hi])
            refine ct_disk h1 (fun z hz => ?_) (fun z k i hz hk hi => hDo _ i hi (by
              have : k < 16 := by
                by_cases e : z = y
                · rw [e, setN_s] at hk; simp at hk
                · rw [setN_o e] at hk; have := hjl16 z hz; omega
              omega)) (fun b i hb _ hi => hDo b i hi (by omega)) (fun z b i hz hU hb hb2 hi => hVo z b i hz hU hb2 hi (by omega))
            by_cases e : z = y
            · rw [e, setN_s]; exact Nat.zero_le _
            · rw [setN_o e]; exact hjl16 z hz
          · refine hFo _ _ (hlow (by omega) (by omega)) ⟨⟨List.nodup_nil, Nat.zero_le _, fun b hb => absurd hb List.not_mem_nil⟩, ⟨List.nodup_nil, Nat.zero_le _, fun b hb => absurd hb List.not_mem_nil⟩, ?_, fun q => absurd rfl q, fun q => absurd rfl q⟩
            rw [hD _ 2 (by decide), if_pos hwe.symm]
            unfold ww
            rw [if_neg q1, if_neg q2, if_neg (fun q => q4 q.1), if_neg (by decide), if_neg (by decide), if_pos rfl, if_neg q3]
            exact ⟨fun q => absurd q (by decide), fun q => absurd rfl q⟩
end WRITE5
