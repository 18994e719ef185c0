
section CRASH
variable {n sz y : Nat} {lg fb jl : Nat → List Nat} {C C' fw : Nat → wS} {D D' : wS} {K : Nat → Nat → Int} {U U' : Nat → Prop} {V V' : Nat → wS} {hs hs' : Nat → Nat → Prop} {fq : Nat → Nat} {be : Int32} {many : Nat}
/-- a node is gone: its log, its flush, its cache -/
theorem ct_fin (h : CT n sz (yY lg fb jl) (wW C fw D fb jl) D K U V hs) (hC : ∀ z, ¬ z = y → C' z = C z) (hU : ∀ z, U' z ↔ U z ∧ ¬ z = y) (hV : ∀ z b i, z < n → ¬ z = y → U z → 128 ≤ b → b < 640 → i < 16 → V' z b i = V z b i) (hh : ∀ z, ¬ z = y → hs' z = hs z) : CT n sz (yY (setN lg y []) (setN fb y []) jl) (wW C' fw D (setN fb y []) jl) D K U' V' hs' := by
  have h1 : CT n sz (yY (setN lg y []) (setN fb y []) jl) (wW C fw D fb jl) D K U' V hs' := ct_crash (y := y) h (fun z l b hzl => yY_cg (fun e => setN_o (fun e2 => hzl ⟨e2, by omega⟩)) (fun e => setN_o (fun e2 => hzl ⟨e2, by omega⟩)) (fun _ => rfl)) (fun l b hl q => by
    rcases q with ⟨e, q⟩ | ⟨e, q⟩ | ⟨e, q⟩
    · rw [setN_s] at q; exact absurd q List.not_mem_nil
    · rw [setN_s] at q; exact absurd q List.not_mem_nil
    · omega) (fun _ _ _ _ => rfl) hU (fun _ _ => rfl) hh
  refine ct_cg h1 (fun _ _ _ _ _ => Iff.rfl) (fun z l b i hz hl hq hi => ?_) (fun _ _ _ _ _ => rfl) (fun _ _ => Iff.rfl) (fun z b i hz hUz h1 h2 hi => hV z b i hz ((hU z).mp hUz).2 ((hU z).mp hUz).1 h1 h2 hi) (fun _ _ _ => rfl)
  by_cases e : z = y
  · subst e
    rcases l3 hl with rfl | rfl | rfl
    · rfl
    · rw [y1, setN_s] at hq; exact absurd hq List.not_mem_nil
    · rw [y2, setN_s] at hq; exact absurd hq List.not_mem_nil
  · rcases l3 hl with rfl | rfl | rfl
    · rfl
    · rw [wW_1, wW_1, setN_o e]
    · rw [wW_2, wW_2, hC z e]
/-- a node crashes while it writes: so many words of the write get to the disk -/
theorem ct_torn (h : CT n sz (yY lg fb jl) (wW C fw D fb jl) D K U V hs) (hn : n ≤ 4) (hy : y < n) (hF : ∀ z, z < n → FJ z D (fb z) (jl z) (fq z) (fw z)) (hne : ¬ fb y = []) (hq : fq y < 2 * (fb y).length + 3)
    (hD : ∀ b i, i < 16 → D' b i = if b = wb y (fb y) (fq y) ∧ i < many then ww (fb y) be (fw y) (fq y) i else D b i) (hC : ∀ z, ¬ z = y → C' z = C z) (hU : ∀ z, U' z ↔ U z ∧ ¬ z = y)
    (hV : ∀ z b i, z < n → ¬ z = y → U z → b < 640 → i < 16 → (V' z b i = V z b i ∧ hs z b) ∨ (¬ hs z b ∧ V z b i = D b i ∧ V' z b i = D' b i)) (hh : ∀ z, ¬ z = y → hs' z = hs z) :
    ∃ jl1, CT n sz (yY (setN lg y []) (setN fb y []) (setN jl y jl1)) (wW C' fw D' (setN fb y []) (setN jl y jl1)) D' K U' V' hs' ∧ (∀ z, z < n → FJ z D' (setN fb y [] z) (setN jl y jl1 z) (fq z) (fw z)) := by
  obtain ⟨a1, a2, a3, a4, a5⟩ := hF y hy
  obtain ⟨e1, e2, e3, e4, e5⟩ := a5 hne
  have hc0 : 0 < (fb y).length := List.length_pos_iff.mpr hne
  have hc16 := a1.2.1
  have hjl16 : ∀ z, z < n → (jl z).length ≤ 16 := fun z hz => (hF z hz).2.1.2.1
  obtain ⟨w, hw⟩ : ∃ w, w = wb y (fb y) (fq y) := ⟨_, rfl⟩
  rw [← hw] at hD
  have hDo : ∀ b i, i < 16 → ¬ b = w → D' b i = D b i := fun b i hi hb => by rw [hD b i hi, if_neg (fun q => hb q.1)]
  have hVo : ∀ z b i, z < n → ¬ z = y → U z → b < 640 → i < 16 → ¬ b = w → V' z b i = V z b i := fun z b i hz hzy hU hb hi hbw => by
    rcases hV z b i hz hzy hU hb hi with q | ⟨q1, q2, q3⟩
    · exact q.1
    · rw [q3, q2, hDo b i hi hbw]
  have hFo : ∀ (jl1 : List Nat), (∀ z, z < n → ¬ z = y → (∀ b, 1 + 24 * z ≤ b → b < 19 + 24 * z → ¬ b = w) ∧ ∀ b, b ∈ fb z → ¬ b = w) → (jl1.Nodup ∧ jl1.length ≤ 16 ∧ ∀ b, b ∈ jl1 → 128 ≤ b ∧ b < 640) → (D' (1 + 24 * y) 2 = nI 1 ↔ ¬ jl1 = []) → (¬ jl1 = [] → D' (1 + 24 * y) 1 = nI jl1.length ∧ ∀ k b, jl1[k]? = some b → D' (2 + 24 * y) k = nI b) → ∀ z, z < n → FJ z D' (setN fb y [] z) (setN jl y jl1 z) (fq z) (fw z) := fun jl1 ho k1 k2 k3 z hz => by
    by_cases e : z = y
    · rw [e, setN_s, setN_s]
      exact ⟨⟨List.nodup_nil, Nat.zero_le _, fun b hb => absurd hb List.not_mem_nil⟩, k1, k2, k3, fun q => absurd rfl q⟩
    · rw [setN_o e, setN_o e]
      exact fj_cg (hF z hz) (fun b i h1 h2 hi => hDo b i hi ((ho z hz e).1 b h1 h2)) (fun b i hb hi => hDo b i hi ((ho z hz e).2 b hb))
  have hlow : w < 19 + 24 * y → 1 + 24 * y ≤ w → ∀ z, z < n → ¬ z = y → (∀ b, 1 + 24 * z ≤ b → b < 19 + 24 * z → ¬ b = w) ∧ ∀ b, b ∈ fb z → ¬ b = w := fun h1 h2 z hz hzy => ⟨fun b b1 b2 e => by omega, fun b hb e => by
    have := ((hF z hz).1.2.2 b hb).1
    omega⟩
  have nil3 : ([] : List Nat).Nodup ∧ ([] : List Nat).length ≤ 16 ∧ ∀ b, b ∈ ([] : List Nat) → 128 ≤ b ∧ b < 640 := ⟨List.nodup_nil, Nat.zero_le _, fun b hb => absurd hb List.not_mem_nil⟩
  have hsid : jl y = [] → setN jl y [] = jl := fun e => by rw [← e, setN_id]
  by_cases q0 : fq y ≤ (fb y).length
  · -- one of the journal's own blocks
    have hwe : 2 + 24 * y ≤ w ∧ w < 19 + 24 * y := by
      rw [hw]
      unfold wb
      by_cases q1 : fq y < (fb y).length
      · rw [if_pos q1]; omega
      · rw [if_neg q1, if_pos (by omega)]; omega
    have hjl := e1 (by omega)
    refine ⟨[], ?_, hFo [] (hlow (by omega) (by omega)) nil3 ?_ (fun q => absurd rfl q)⟩
    · rw [hsid hjl]
      exact ct_fin (V := V) (ct_wj (j := w) (V' := V) h (by omega) (by omega) hn hy hF hjl (fun b i hi hb => hDo b i hi hb) (fun _ _ _ _ _ _ _ _ => rfl)) hC hU (fun z b i hz hzy hU h1 h2 hi => hVo z b i hz hzy hU h2 hi (by omega)) hh
    · rw [hDo _ _ (by decide) (by omega), a3, hjl]
  · have q1 : ¬ fq y < (fb y).length := by omega
    have q2 : ¬ fq y = (fb y).length := by omega
    by_cases q3 : fq y = (fb y).length + 1
    · -- the head
      have hwe : w = 1 + 24 * y := by rw [hw]; unfold wb; rw [if_neg q1, if_neg q2, if_pos q3]
      have hjl := e1 (by omega)
      by_cases hm : 2 < many
      · refine ⟨fb y, ?_, hFo (fb y) (hlow (by omega) (by omega)) a1 ?_ (fun _ => ⟨?_, fun k b hk => ?_⟩)⟩
        · have h1 : CT n sz (yY lg fb (setN jl y (fb y))) (wW C fw D fb (setN jl y (fb y))) D K U V hs := ct_head h (fun b q => by rw [y0, hjl] at q; exact absurd q List.not_mem_nil) (fun z l b hzl => yY_cg (fun _ => rfl) (fun _ => rfl) (fun e => setN_o (fun e2 => hzl ⟨e2, e⟩))) (fun b => by rw [y0, y1, setN_s]) (fun z l b i hzl => wW_cg (fun _ => rfl) (fun e => setN_o (fun e2 => hzl ⟨e2, e⟩))) (fun b i hb hi => by
            rw [y1] at hb
            rw [wW_0, wW_1, setN_s]
            have := (idx_get hb).2
            exact e2 _ i this (by omega) hi) (fun _ _ _ => rfl)
          refine ct_fin (V := V) (ct_disk (D' := D') (V' := V) h1 (fun z hz => ?_) (fun z k i hz hk hi => hDo _ i hi (by
            have : k < 16 := by
              by_cases e : z = y
              · rw [e, setN_s] at hk; omega
              · rw [setN_o e] at hk; have := hjl16 z hz; omega
            omega)) (fun b i hb _ hi => hDo b i hi (by omega)) (fun _ _ _ _ _ _ _ _ => rfl)) hC hU (fun z b i hz hzy hU h1 h2 hi => hVo z b i hz hzy hU h2 hi (by omega)) hh
          by_cases e : z = y
          · rw [e, setN_s]; exact hc16
          · rw [setN_o e]; exact hjl16 z hz
        · rw [hD _ 2 (by decide), if_pos ⟨hwe.symm, by omega⟩]
          unfold ww
          rw [if_neg q1, if_neg q2, if_neg (fun q => q.2 q3), if_neg (by decide), if_neg (by decide), if_pos rfl, if_pos q3]
          exact ⟨fun _ => hne, fun _ => rfl⟩
        · rw [hD _ 1 (by decide), if_pos ⟨hwe.symm, by omega⟩]
          unfold ww
          rw [if_neg q1, if_neg q2, if_neg (fun q => q.2 q3), if_neg (by decide), if_pos rfl]
        · rw [hDo _ k (by have := get_lt hk; omega) (by omega)]
          exact e3 (by omega) k b hk
      · refine ⟨[], ?_, hFo [] (hlow (by omega) (by omega)) nil3 ?_ (fun q => absurd rfl q)⟩
        · rw [hsid hjl]
          exact ct_fin (V := V) (ct_disk (D' := D') (V' := V) h hjl16 (fun z k i hz hk hi => hDo _ i hi (by have := hjl16 z hz; omega)) (fun b i hb _ hi => hDo b i hi (by omega)) (fun _ _ _ _ _ _ _ _ => rfl)) hC hU (fun z b i hz hzy hU h1 h2 hi => hVo z b i hz hzy hU h2 hi (by omega)) hh
        · rw [hD _ 2 (by decide), if_neg (fun q => hm (by omega)), a3, hjl]
    · have hjf := e4 (by omega)
      by_cases q4 : fq y < 2 * (fb y).length + 2
      · -- a block on its way to its place
        have hj : fq y - (fb y).length - 2 < (fb y).length := by omega
        obtain ⟨b0, hb0⟩ : ∃ b, (fb y)[fq y - (fb y).length - 2]? = some b := ⟨_, List.getElem?_eq_getElem hj⟩
        have hwe : w = b0 := by rw [hw]; unfold wb; rw [if_neg q1, if_neg q2, if_neg q3, if_pos q4, getD_some hb0]
        have hbm := List.mem_of_getElem? hb0
        have hb128 := a1.2.2 b0 hbm
        refine ⟨jl y, ?_, hFo (jl y) (fun z hz hzy => ⟨fun b b1 b2 e => by omega, fun b hb e => fl_dj h hy hz hzy hbm (by rw [e, hwe] at hb; exact hb)⟩) a2 (by rw [hDo _ _ (by decide) (by omega)]; exact a3) (fun q => ?_)⟩
        · rw [setN_id]
          have h1 : CT n sz (yY lg fb jl) (wW C fw D fb jl) (fun b i => if i < 16 then D' b i else D b i) K U (setN V' y (V y)) hs := ct_place (y := y) h hy (fun b i hb => by
            by_cases hi : i < 16
            · by_cases e : b = w
              · exact Or.inr (by rw [y0, hjf, e, hwe]; exact hbm)
              · left
                show (if i < 16 then D' b i else D b i) = _
                rw [if_pos hi, hDo b i hi e]
            · left
              show (if i < 16 then D' b i else D b i) = _
              rw [if_neg hi]) (fun z hz hU b i hb hi => by
            by_cases ez : z = y
            · rw [ez, setN_s]; exact Or.inl rfl
            · rw [setN_o ez]
              by_cases e : b = w
              · exact Or.inr ⟨by rw [y0, hjf, e, hwe]; exact hbm, fun q => absurd q ez⟩
              · exact Or.inl (hVo z b i hz ez hU hb hi e))
          have h2 : CT n sz (yY lg fb jl) (wW C fw D' fb jl) D' K U (setN V' y (V y)) hs := by
            refine ct_cg h1 (fun _ _ _ _ _ => Iff.rfl) (fun z l b i hz hl hq' hi => ?_) (fun b i _ _ hi => by
              show D' b i = if i < 16 then D' b i else D b i
              rw [if_pos hi]) (fun _ _ => Iff.rfl) (fun _ _ _ _ _ _ _ _ => rfl) (fun _ _ _ => rfl)
            rcases l3 hl with rfl | rfl | rfl
            · rw [wW_0, wW_0]
              rw [y0] at hq'
              have := (idx_get hq').2
              have := hjl16 z hz
              exact hDo _ i hi (by omega)
            · rfl
            · rfl
          exact ct_fin h2 hC hU (fun z b i hz hzy _ _ _ _ => by rw [setN_o hzy]) hh
        · obtain ⟨u1, u2⟩ := a4 q
          have := hjl16 y hy
          exact ⟨by rw [hDo _ _ (by decide) (by omega)]; exact u1, fun k b hk => by rw [hDo _ k (by have := get_lt hk; omega) (by omega)]; exact u2 k b hk⟩
      · -- the head again
        have hwe : w = 1 + 24 * y := by rw [hw]; unfold wb; rw [if_neg q1, if_neg q2, if_neg q3, if_neg q4]
        have hdk : ∀ (fb2 jl2 : Nat → List Nat), (∀ z, z < n → (jl2 z).length ≤ 16) → CT n sz (yY lg fb2 jl2) (wW C fw D fb2 jl2) D K U V hs → CT n sz (yY lg fb2 jl2) (wW C fw D' fb2 jl2) D' K U V hs := fun fb2 jl2 h16 hc => ct_disk hc h16 (fun z k i hz hk hi => hDo _ i hi (by have := h16 z hz; omega)) (fun b i hb _ hi => hDo b i hi (by omega)) (fun _ _ _ _ _ _ _ _ => rfl)
        by_cases hm : 2 < many
        · refine ⟨[], ?_, hFo [] (hlow (by omega) (by omega)) nil3 ?_ (fun q => absurd rfl q)⟩
          · have h1 : CT n sz (yY lg (setN fb y []) (setN jl y [])) (wW C fw D (setN fb y []) (setN jl y [])) D K U V hs := ct_over (y := y) h hy (fun z l b hzl => yY_cg (fun _ => rfl) (fun e => setN_o (fun e2 => hzl ⟨e2, by omega⟩)) (fun e => setN_o (fun e2 => hzl ⟨e2, by omega⟩))) (fun l b hl q => by
              have : l = 0 ∨ l = 1 := by omega
              rcases this with rfl | rfl
              · rw [y0, setN_s] at q; exact absurd q List.not_mem_nil
              · rw [y1, setN_s] at q; exact absurd q List.not_mem_nil) (fun z l b i hzl => wW_cg (fun e => setN_o (fun e2 => hzl ⟨e2, by omega⟩)) (fun e => setN_o (fun e2 => hzl ⟨e2, by omega⟩))) (fun _ _ _ => rfl) (fun l b i hl q hi => by
              have : l = 0 ∨ l = 1 := by omega
              rcases this with rfl | rfl
              · rw [y0, hjf] at q
                obtain ⟨u1, u2⟩ := idx_get q
                rw [wW_0, hjf, e2 _ i u2 (by omega) hi, e5 _ b i (by omega) u1 hi]
              · rw [y1] at q
                obtain ⟨u1, u2⟩ := idx_get q
                rw [wW_1, e5 _ b i (by omega) u1 hi])
            have h2 := hdk _ _ (fun z hz => by
              by_cases e : z = y
              · rw [e, setN_s]; exact Nat.zero_le _
              · rw [setN_o e]; exact hjl16 z hz) h1
            have h3 := ct_fin (y := y) (C' := C') (U' := U') (V' := V') (hs' := hs') h2 hC hU (fun z b i hz hzy hU h1 h2 hi => hVo z b i hz hzy hU h2 hi (by omega)) hh
            have e : setN (setN fb y []) y [] = setN fb y [] := funext fun z => by
              by_cases e : z = y
              · rw [e, setN_s, setN_s]
              · rw [setN_o e]
            rw [e] at h3
            exact h3
          · rw [hD _ 2 (by decide), if_pos ⟨hwe.symm, by omega⟩]
            unfold ww
            rw [if_neg q1, if_neg q2, if_neg (fun q => q4 q.1), if_neg (by decide), if_neg (by decide), if_pos rfl, if_neg q3]
            exact ⟨fun q => absurd q (by decide), fun q => absurd rfl q⟩
        · refine ⟨jl y, ?_, hFo (jl y) (hlow (by omega) (by omega)) a2 ?_ (fun q => ?_)⟩
          · rw [setN_id]
            exact ct_fin (hdk fb jl hjl16 h) hC hU (fun z b i hz hzy hU h1 h2 hi => hVo z b i hz hzy hU h2 hi (by omega)) hh
          · rw [hD _ 2 (by decide), if_neg (fun q => hm (by omega))]
            exact a3
          · obtain ⟨u1, u2⟩ := a4 q
            refine ⟨?_, fun k b hk => by rw [hDo _ k (by have := get_lt hk; have := hjl16 y hy; omega) (by omega)]; exact u2 k b hk⟩
            rw [hD _ 1 (by decide)]
            by_cases c : 1 + 24 * y = w ∧ 1 < many
            · rw [if_pos c]
              unfold ww
              rw [if_neg q1, if_neg q2, if_neg (fun q => q4 q.1), if_neg (by decide), if_pos rfl, hjf]
            · rw [if_neg c]; exact u1
end CRASH
