
/-- who has what: logs, flushes, journals -/
def yY (lg fb jl : Nat → List Nat) (z l b : Nat) : Prop := (l = 2 ∧ b ∈ lg z) ∨ (l = 1 ∧ b ∈ fb z) ∨ (l = 0 ∧ b ∈ jl z)
def wW (C fw : Nat → wS) (D : wS) (fb jl : Nat → List Nat) (z l : Nat) : wS := fun b i => if l = 2 then C z b i else if l = 1 then fw z ((fb z).idxOf b) i else if l = 0 then D (3 + 24 * z + (jl z).idxOf b) i else nI 0
/-- a node's journal on the disk, and how far its flush is -/
def FJ (z : Nat) (D : wS) (fb jl : List Nat) (fq : Nat) (fw : wS) : Prop :=
  (fb.Nodup ∧ fb.length ≤ 16 ∧ (∀ b, b ∈ fb → 128 ≤ b ∧ b < 640)) ∧ (jl.Nodup ∧ jl.length ≤ 16 ∧ (∀ b, b ∈ jl → 128 ≤ b ∧ b < 640))
  ∧ (D (1 + 24 * z) 2 = nI 1 ↔ ¬ jl = []) ∧ (¬ jl = [] → D (1 + 24 * z) 1 = nI jl.length ∧ ∀ k b, jl[k]? = some b → D (2 + 24 * z) k = nI b)
  ∧ (¬ fb = [] → (fq ≤ fb.length + 1 → jl = []) ∧ (∀ k i, k < fb.length → k < fq → i < 16 → D (3 + 24 * z + k) i = fw k i) ∧ (fb.length < fq → ∀ k b, fb[k]? = some b → D (2 + 24 * z) k = nI b) ∧ (fb.length + 1 < fq → jl = fb) ∧ ∀ j b i, fb.length + 2 + j < fq → fb[j]? = some b → i < 16 → D b i = fw j i)
theorem y2 {lg fb jl : Nat → List Nat} {z b : Nat} : yY lg fb jl z 2 b ↔ b ∈ lg z := by
  unfold yY
  exact ⟨fun q => q.elim (fun q => q.2) (fun q => q.elim (fun q => absurd q.1 (by decide)) (fun q => absurd q.1 (by decide))), fun q => Or.inl ⟨rfl, q⟩⟩
theorem y1 {lg fb jl : Nat → List Nat} {z b : Nat} : yY lg fb jl z 1 b ↔ b ∈ fb z := by
  unfold yY
  exact ⟨fun q => q.elim (fun q => absurd q.1 (by decide)) (fun q => q.elim (fun q => q.2) (fun q => absurd q.1 (by decide))), fun q => Or.inr (Or.inl ⟨rfl, q⟩)⟩
theorem y0 {lg fb jl : Nat → List Nat} {z b : Nat} : yY lg fb jl z 0 b ↔ b ∈ jl z := by
  unfold yY
  exact ⟨fun q => q.elim (fun q => absurd q.1 (by decide)) (fun q => q.elim (fun q => absurd q.1 (by decide)) (fun q => q.2)), fun q => Or.inr (Or.inr ⟨rfl, q⟩)⟩
theorem idx_get {l : List Nat} {b : Nat} (h : b ∈ l) : l[l.idxOf b]? = some b ∧ l.idxOf b < l.length := by
  have hl := List.idxOf_lt_length_of_mem h
  exact ⟨by rw [List.getElem?_eq_getElem hl, List.getElem_idxOf hl], hl⟩
theorem idx_of {l : List Nat} {k b : Nat} (hn : l.Nodup) (h : l[k]? = some b) : l.idxOf b = k := by
  have hm := List.mem_of_getElem? h
  obtain ⟨h1, h2⟩ := idx_get hm
  have hk := get_lt h
  exact (List.getElem?_inj h2 hn).mp (h1.trans h.symm)
def setN {α : Type} (f : Nat → α) (y : Nat) (v : α) : Nat → α := fun z => if z = y then v else f z
theorem setN_s {α : Type} {f : Nat → α} {y : Nat} {v : α} : setN f y v y = v := if_pos rfl
theorem setN_o {α : Type} {f : Nat → α} {y z : Nat} {v : α} (h : ¬ z = y) : setN f y v z = f z := if_neg h
section WRITE
variable {n sz y : Nat} {lg fb jl : Nat → List Nat} {C fw : Nat → wS} {D D' : wS} {K : Nat → Nat → Int} {U : Nat → Prop} {V V' : Nat → wS} {hs : Nat → Nat → Prop} {fq : Nat → Nat} {be : Int32}
/-- blocks of other journals -/
theorem fj_cg {z : Nat} {D D' : wS} {fb jl : List Nat} {fq : Nat} {fw : wS} (h : FJ z D fb jl fq fw) (h1 : ∀ b i, 1 + 24 * z ≤ b → b < 19 + 24 * z → i < 16 → D' b i = D b i) (h2 : ∀ b i, b ∈ fb → i < 16 → D' b i = D b i) : FJ z D' fb jl fq fw := by
  obtain ⟨a1, a2, a3, a4, a5⟩ := h
  refine ⟨a1, a2, by rw [h1 _ _ (by omega) (by omega) (by decide)]; exact a3, fun q => ?_, fun q => ?_⟩
  · obtain ⟨c1, c2⟩ := a4 q
    refine ⟨by rw [h1 _ _ (by omega) (by omega) (by decide)]; exact c1, fun k b hk => ?_⟩
    rw [h1 _ _ (by omega) (by omega) (by have := get_lt hk; have := a2.2.1; omega)]
    exact c2 k b hk
  · obtain ⟨c1, c2, c3, c4, c5⟩ := a5 q
    have := a1.2.1
    refine ⟨c1, fun k i hk hkq hi => ?_, fun hq k b hk => ?_, c4, fun j b i hj hb hi => ?_⟩
    · rw [h1 _ _ (by omega) (by omega) hi]; exact c2 k i hk hkq hi
    · rw [h1 _ _ (by omega) (by omega) (by have := get_lt hk; omega)]; exact c3 hq k b hk
    · rw [h2 b i (List.mem_of_getElem? hb) hi]; exact c5 j b i hj hb hi
/-- two flushes have no block in common -/
theorem fl_dj {z b : Nat} (h : CT n sz (yY lg fb jl) (wW C fw D fb jl) D K U V hs) (hy : y < n) (hz : z < n) (hne : ¬ z = y) (hb : b ∈ fb y) : ¬ b ∈ fb z := fun q => by
  obtain ⟨r, r1, r2⟩ := h.2.1 (fun _ => 1) y 1 b hy (by decide) (y1.mpr hb) rfl
  obtain ⟨r', s1, s2⟩ := h.2.1 (fun _ => 1) z 1 b hz (by decide) (y1.mpr q) rfl
  rw [of_eq (h.1 _).1 s1 r1] at s2
  have := h.2.2.1 r y z hy hz (fun e => hne e.symm) r2
  omega
theorem wW_2 {z b i : Nat} {D : wS} {fb jl : Nat → List Nat} : wW C fw D fb jl z 2 b i = C z b i := rfl
theorem wW_1 {z b i : Nat} {D : wS} {fb jl : Nat → List Nat} : wW C fw D fb jl z 1 b i = fw z ((fb z).idxOf b) i := rfl
theorem wW_0 {z b i : Nat} {D : wS} {fb jl : Nat → List Nat} : wW C fw D fb jl z 0 b i = D (3 + 24 * z + (jl z).idxOf b) i := rfl
theorem l3 {l : Nat} (h : l ≤ 2) : l = 0 ∨ l = 1 ∨ l = 2 := by omega
/-- A WRITE OF A FLUSH, one of the journal's own blocks (not the head) -/
theorem ct_wj {j : Nat} (h : CT n sz (yY lg fb jl) (wW C fw D fb jl) D K U V hs) (hj1 : 2 + 24 * y ≤ j) (hj2 : j < 19 + 24 * y) (hn : n ≤ 4) (hy : y < n) (hF : ∀ z, z < n → FJ z D (fb z) (jl z) (fq z) (fw z)) (hjl : jl y = []) (hD : ∀ b i, i < 16 → ¬ b = j → D' b i = D b i) (hV : ∀ z b i, z < n → U z → b < 640 → i < 16 → 128 ≤ b → V' z b i = V z b i) : CT n sz (yY lg fb jl) (wW C fw D' fb jl) D' K U V' hs := by
  refine ct_lev (tau := fun L => L) h (fun L b r i ho hi => ?_) (fun L z hz _ hL => hL) (fun L z b hz hl hq => ⟨hl, hq⟩) (fun z _ q => q) (fun z hz q L _ b r i ho _ hi => hV z b i hz q (of_lt ho) hi (of_pos ho)) (fun z hz q => rfl) (fun z b hz hq => ⟨(h.2.2.2.2 z b hz hq).1, hq⟩)
  refine sF_cg n (fun z hz => ⟨Iff.rfl, fun q => ?_⟩) (fun _ => hD b i hi (by have := of_pos ho; omega))
  by_cases e : z = y
  · subst e
    have n0 : ¬ yY lg fb jl z 0 b := fun q => by rw [y0, hjl] at q; exact absurd q List.not_mem_nil
    unfold lw
    by_cases c2 : 2 ≤ L z ∧ yY lg fb jl z 2 b
    · rw [cif_pos c2, cif_pos c2, wW_2, wW_2]
    · rw [cif_neg c2, cif_neg c2]
      by_cases c1 : 1 ≤ L z ∧ yY lg fb jl z 1 b
      · rw [cif_pos c1, cif_pos c1, wW_1, wW_1]
      · rcases q with q | q | q
        · exact absurd q c2
        · exact absurd q c1
        · exact absurd q n0
  · unfold lw
    by_cases c2 : 2 ≤ L z ∧ yY lg fb jl z 2 b
    · rw [cif_pos c2, cif_pos c2, wW_2, wW_2]
    · rw [cif_neg c2, cif_neg c2]
      by_cases c1 : 1 ≤ L z ∧ yY lg fb jl z 1 b
      · rw [cif_pos c1, cif_pos c1, wW_1, wW_1]
      · rw [cif_neg c1, cif_neg c1, wW_0, wW_0]
        rcases q with q | q | q
        · exact absurd q c2
        · exact absurd q c1
        · rw [y0] at q
          have h1 := (idx_get q).2
          have h2 := (hF z hz).2.1.2.1
          exact hD _ i hi (by omega)
end WRITE
