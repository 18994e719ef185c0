
section REPLAY
variable {n sz y : Nat} {lg fb jl : Nat → List Nat} {C fw : Nat → wS} {D D' : wS} {K K' : Nat → Nat → Int} {U : Nat → Prop} {V V' : Nat → wS} {hs : Nat → Nat → Prop} {fq : Nat → Nat}
/-- a flush has no block of another's journal -/
theorem fj_dj {z b : Nat} (h : CT n sz (yY lg fb jl) (wW C fw D fb jl) D K U V hs) (hy : y < n) (hz : z < n) (hne : ¬ z = y) (hb : b ∈ jl y) : ¬ b ∈ fb z := fun q => by
  have l1 : lvl (fun _ => 0) z 1 y = 0 := lvl_o (fun e => hne e.symm)
  obtain ⟨r, r1, r2⟩ := h.2.1 (lvl (fun _ => 0) z 1) y 0 b hy (by decide) (y0.mpr hb) l1
  obtain ⟨r', s1, s2⟩ := h.2.1 (lvl (fun _ => 0) z 1) z 1 b hz (by decide) (y1.mpr q) lvl_s
  rw [of_eq (h.1 _).1 s1 r1] at s2
  have := h.2.2.1 r y z hy hz (fun e => hne e.symm) r2
  omega
/-- a dead node's journal is replayed -/
theorem ct_replay (h : CT n sz (yY lg fb jl) (wW C fw D fb jl) D K U V hs) (hy : y < n) (hn : n ≤ 4) (hF : ∀ z, z < n → FJ z D (fb z) (jl z) (fq z) (fw z)) (hUy : ¬ U y) (hlg : lg y = []) (hfb : fb y = [])
    (hD : ∀ b i, 128 ≤ b → b < 640 → i < 16 → D' b i = if b ∈ jl y then D (3 + 24 * y + (jl y).idxOf b) i else D b i) (hDl : ∀ b i, b < 128 → i < 16 → ¬ b = 1 + 24 * y → D' b i = D b i) (hDh : ¬ D' (1 + 24 * y) 2 = nI 1)
    (hV : ∀ z b i, z < n → U z → b < 640 → i < 16 → (V' z b i = V z b i ∧ hs z b) ∨ (¬ hs z b ∧ V z b i = D b i ∧ V' z b i = D' b i)) (hK : ∀ z r, ¬ z = y → K' z r = K z r) (hK2 : ∀ r, K' y r = 0) :
    CT n sz (yY lg fb (setN jl y [])) (wW C fw D' fb (setN jl y [])) D' K' U V' hs ∧ (∀ z, z < n → FJ z D' (fb z) (setN jl y [] z) (fq z) (fw z)) := by
  obtain ⟨a1, a2, a3, a4, a5⟩ := hF y hy
  have hjl16 : ∀ z, z < n → (jl z).length ≤ 16 := fun z hz => (hF z hz).2.1.2.1
  obtain ⟨D1, hD1⟩ : ∃ D1 : wS, D1 = fun b i => if 128 ≤ b ∧ b < 640 ∧ i < 16 then D' b i else D b i := ⟨_, rfl⟩
  have d1 : ∀ b i, 128 ≤ b → b < 640 → i < 16 → D1 b i = D' b i := fun b i q1 q2 q3 => by rw [hD1]; exact if_pos ⟨q1, q2, q3⟩
  have d2 : ∀ b i, ¬ (128 ≤ b ∧ b < 640 ∧ i < 16) → D1 b i = D b i := fun b i q => by rw [hD1]; exact if_neg q
  have hbo : ∀ b i, 128 ≤ b → b < 640 → i < 16 → ¬ b ∈ jl y → D' b i = D b i := fun b i q1 q2 q3 q4 => by rw [hD b i q1 q2 q3, if_neg q4]
  -- the images get to their places
  have h1 : CT n sz (yY lg fb jl) (wW C fw D fb jl) D1 K U V' hs := ct_lev (tau := fun L => L) h (fun L b r i ho hi => by
    refine sF_cg n (fun z _ => ⟨Iff.rfl, fun _ => rfl⟩) (fun q => ?_)
    rw [d1 b i (of_pos ho) (of_lt ho) hi]
    exact hbo b i (of_pos ho) (of_lt ho) hi (fun e => q y hy (Or.inr (Or.inr (y0.mpr e))))) (fun L z hz _ hL => hL) (fun L z b hz hl hq => ⟨hl, hq⟩) (fun z _ q => q) (fun z hz hU L hL b r i ho hk hi => by
    rcases hV z b i hz hU (of_lt ho) hi with q | ⟨u1, u2, u3⟩
    · exact q.1
    · have hzy : ¬ z = y := fun e => hUy (e ▸ hU)
      rw [u3, u2]
      refine hbo b i (of_pos ho) (of_lt ho) hi (fun e => ?_)
      obtain ⟨k1, k2⟩ := ct_own h hy (by decide) (y0.mpr e) ho
      have := h.2.2.1 r y z hy hz (fun q => hzy q.symm) k1
      omega) (fun _ _ _ => rfl) (fun z b hz hq => ⟨(h.2.2.2.2 z b hz hq).1, hq⟩)
  have h2 : CT n sz (yY lg fb (setN jl y [])) (wW C fw D fb (setN jl y [])) D1 K U V' hs := ct_over (y := y) h1 hy (fun z l b hzl => yY_cg (fun _ => rfl) (fun _ => rfl) (fun e => setN_o (fun e2 => hzl ⟨e2, by omega⟩))) (fun l b hl q => by
    have : l = 0 ∨ l = 1 := by omega
    rcases this with rfl | rfl
    · rw [y0, setN_s] at q; exact absurd q List.not_mem_nil
    · rw [y1, hfb] at q; exact absurd q List.not_mem_nil) (fun z l b i hzl => wW_cg (fun _ => rfl) (fun e => setN_o (fun e2 => hzl ⟨e2, by omega⟩))) (fun _ _ _ => rfl) (fun l b i hl q hi => by
    have : l = 0 ∨ l = 1 := by omega
    rcases this with rfl | rfl
    · rw [y0] at q
      obtain ⟨b1, b2⟩ := a2.2.2 b q
      rw [wW_0, d1 b i b1 b2 hi, hD b i b1 b2 hi, if_pos q]
    · rw [y1, hfb] at q; exact absurd q List.not_mem_nil)
  -- the disk's other words
  have h3 : CT n sz (yY lg fb (setN jl y [])) (wW C fw D' fb (setN jl y [])) D' K U V' hs := by
    refine ct_cg h2 (fun _ _ _ _ _ => Iff.rfl) (fun z l b i hz hl hq hi => ?_) (fun b i q1 q2 q3 => (d1 b i q1 q2 q3).symm) (fun _ _ => Iff.rfl) (fun _ _ _ _ _ _ _ _ => rfl) (fun _ _ _ => rfl)
    rcases l3 hl with rfl | rfl | rfl
    · rw [wW_0, wW_0]
      rw [y0] at hq
      have hzy : ¬ z = y := fun e => by rw [e, setN_s] at hq; exact absurd hq List.not_mem_nil
      rw [setN_o hzy] at hq ⊢
      have := (idx_get hq).2
      have := hjl16 z hz
      exact hDl _ i (by omega) hi (by omega)
    · rfl
    · rfl
  refine ⟨ct_dead h3 hUy (fun l b hl q => ?_) hK hK2, fun z hz => ?_⟩
  · rcases l3 hl with rfl | rfl | rfl
    · rw [y0, setN_s] at q; exact absurd q List.not_mem_nil
    · rw [y1, hfb] at q; exact absurd q List.not_mem_nil
    · rw [y2, hlg] at q; exact absurd q List.not_mem_nil
  · by_cases e : z = y
    · subst e
      rw [setN_s, hfb]
      exact ⟨⟨List.nodup_nil, Nat.zero_le _, fun b hb => absurd hb List.not_mem_nil⟩, ⟨List.nodup_nil, Nat.zero_le _, fun b hb => absurd hb List.not_mem_nil⟩, ⟨fun q => absurd q hDh, fun q => absurd rfl q⟩, fun q => absurd rfl q, fun q => absurd rfl q⟩
    · rw [setN_o e]
      refine fj_cg (hF z hz) (fun b i h1 h2 hi => hDl b i (by omega) hi (by omega)) (fun b i hb hi => ?_)
      obtain ⟨b1, b2⟩ := (hF z hz).1.2.2 b hb
      exact hbo b i b1 b2 hi (fun q => fj_dj h hy hz e q hb)
/-- a flush begins -/
theorem ct_open {fw1 : wS} (h : CT n sz (yY lg fb jl) (wW C fw D fb jl) D K U V hs) (hfb : fb y = []) (hjl : jl y = []) (hnd : (lg y).Nodup) (hl : (lg y).length ≤ 16) (hl6 : ∀ b, b ∈ lg y → 128 ≤ b ∧ b < 640) (hw : ∀ k b i, (lg y)[k]? = some b → i < 16 → fw1 k i = C y b i) (hF : ∀ z, z < n → FJ z D (fb z) (jl z) (fq z) (fw z)) :
    CT n sz (yY (setN lg y []) (setN fb y (lg y)) jl) (wW C (setN fw y fw1) D (setN fb y (lg y)) jl) D K U V hs ∧ ∀ z, z < n → FJ z D (setN fb y (lg y) z) (jl z) (setN fq y 0 z) (setN fw y fw1 z) := by
  refine ⟨ct_begin (y := y) h (fun b q => by rw [y1, hfb] at q; exact absurd q List.not_mem_nil) (fun z l b hzl => yY_cg (fun e => setN_o (fun e2 => hzl ⟨e2, Or.inr e⟩)) (fun e => setN_o (fun e2 => hzl ⟨e2, Or.inl e⟩)) (fun _ => rfl)) (fun b q => by rw [y2, setN_s] at q; exact absurd q List.not_mem_nil) (fun b => by rw [y1, y2, setN_s]) (fun z l b i hzl => ?_) (fun b i hb hi => ?_), fun z hz => ?_⟩
  · by_cases e1 : l = 1
    · subst e1
      have ez : ¬ z = y := fun e => hzl ⟨e, Or.inl rfl⟩
      rw [wW_1, wW_1, setN_o ez, setN_o ez]
    · unfold wW
      rw [if_neg e1, if_neg e1]
  · rw [y2] at hb
    rw [wW_1, wW_2, setN_s, setN_s]
    exact hw _ b i (idx_get hb).1 hi
  · by_cases e : z = y
    · subst e
      rw [setN_s, setN_s, setN_s]
      obtain ⟨a1, a2, a3, a4, a5⟩ := hF z hz
      exact ⟨⟨hnd, hl, hl6⟩, a2, a3, a4, fun _ => ⟨fun _ => hjl, fun k i _ q => by omega, fun q => by omega, fun q => by omega, fun j b i q => by omega⟩⟩
    · rw [setN_o e, setN_o e, setN_o e]
      exact hF z hz
end REPLAY
