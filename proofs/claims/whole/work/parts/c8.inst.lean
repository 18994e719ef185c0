
/-- the content of the machine -/
def dD (J : am_I) : wS := fun b i => J 0 64 (16 * b + i)
def cC (J : am_I) : Nat → wS := fun z b i => J 0 67 (16 * (640 * z + b) + i)
def fwI (I : am_I) : Nat → wS := fun z k i => I z 47 (16 * k + i)
noncomputable def sST (n : Nat) (lg fb jl : Nat → List Nat) (I J : am_I) (L : Nat → Nat) : wS := sF (yY lg fb jl) (wW (cC J) (fwI I) (dD J) fb jl) (dD J) L n
def CTI (n sz : Nat) (lg fb jl : Nat → List Nat) (K : Nat → Nat → Int) (I J : am_I) : Prop := CT n sz (yY lg fb jl) (wW (cC J) (fwI I) (dD J) fb jl) (dD J) K (fun z => J 0 65 z = nI 1) (fun z => t_v z J) (fun z => tH z J)
section INST
variable {n sz y : Nat} {lg fb jl : Nat → List Nat} {K : Nat → Nat → Int} {I J I0 J0 I' J' : am_I}
theorem tv_c {z b i : Nat} (h : tH z J b) : t_v z J b i = cC J z b i := if_pos h.2
theorem tv_d {z b i : Nat} (hb : b < 640) (h : ¬ tH z J b) : t_v z J b i = dD J b i := if_neg (fun q => h ⟨hb, q⟩)
/-- a node at rest -/
theorem rt_of (h : CTI n sz lg fb jl K I J) (hy : y < n) (hU : J 0 65 y = nI 1) (hC : CHr y I J) (hd : ∀ k, k < 10240 → I 0 1 k = J 0 64 k) (j120 : ∀ b, b < 640 → J 0 120 b = nI 0) (i19 : ∀ b, b < 640 → I 0 19 b = nI 0) (i5 : I 0 15 5 = nI 0) (i7 : I 0 15 7 = nI 0) : RT y (K y) (sST n lg fb jl I J) I J := by
  obtain ⟨c1, c2, c3, c4, c5⟩ := h
  refine ⟨fun b hb => (hC.1 b hb).2, fun b hb => (hC.1 b hb).1, fun b hb q i hi => ?_, hC.2.1, hd, j120, i19, i5, i7, fun L hL => ⟨(c1 L).1, ?_, ?_⟩⟩
  · rw [Nat.mul_comm b 16]
    exact hC.2.2.1 b i hb hi q
  · exact (c4 y hy hU L hL).1
  · exact (c4 y hy hU L hL).2
/-- a larger bound -/
theorem cti_up {sz' : Nat} (h : CTI n sz lg fb jl K I J) (hz : sz ≤ sz') : CTI n sz' lg fb jl K I J := ⟨fun L => ⟨(h.1 L).1, (h.1 L).2.up hz⟩, h.2⟩
/-- a try is kept: the content -/
theorem cti_keep {sv gn lg' : List Nat} {F : (Nat → Nat) → wS} (h : CTI n sz lg fb jl K I0 J0) (hy : y < n) (hU : J0 0 65 y = nI 1) (hM : CM y (K y) (sST n lg fb jl I0 J0) J0 sv gn F J) (hf : fJ y J0 J) (hm : ∀ b, b ∈ lg' ↔ (b ∈ lg y ∨ b ∈ sv) ∧ ¬ b ∈ gn)
    (h68 : ∀ b, b < 640 → J' 0 68 (640 * y + b) = if b ∈ gn then nI 0 else J 0 68 (640 * y + b)) (hk : fKp y J J') (h47 : ∀ z, I' z 47 = I0 z 47) : CTI n (sz + 1) (setN lg y lg') fb jl K I' J' := by
  obtain ⟨Bh, m1, m2, m3, m4, m5, m6, m7, m8⟩ := hM
  have e64 : J' 0 64 = J0 0 64 := by rw [hk.1 0 64 (by omega), hf.1 0 64 (by omega)]
  have e65 : J' 0 65 = J0 0 65 := by rw [hk.1 0 65 (by omega), hf.1 0 65 (by omega)]
  have e67 : J' 0 67 = J 0 67 := hk.1 0 67 (by omega)
  have edD : dD J' = dD J0 := by unfold dD; rw [e64]
  have efw : fwI I' = fwI I0 := funext fun z => funext fun k => funext fun i => by unfold fwI; rw [h47]
  have o67 : ∀ z b i, ¬ z = y → b < 640 → i < 16 → J' 0 67 (16 * (640 * z + b) + i) = J0 0 67 (16 * (640 * z + b) + i) := fun z b i hz hb hi => by rw [e67, hf.2.2.2 _ (by omega)]
  have o68 : ∀ z b, ¬ z = y → b < 640 → J' 0 68 (640 * z + b) = J0 0 68 (640 * z + b) := fun z b hz hb => by rw [(hk.2.2.1 _ (by omega)).1, hf.2.2.1 _ (by omega)]
  have oH : ∀ z, ¬ z = y → ∀ b, tH z J' b ↔ tH z J0 b := fun z hz b => by
    unfold tH
    constructor
    · rintro ⟨q1, q2⟩; exact ⟨q1, by rw [← o68 z b hz q1]; exact q2⟩
    · rintro ⟨q1, q2⟩; exact ⟨q1, by rw [o68 z b hz q1]; exact q2⟩
  have oV : ∀ z b i, ¬ z = y → b < 640 → i < 16 → t_v z J' b i = t_v z J0 b i := fun z b i hz hb hi => by
    unfold t_v
    rw [o68 z b hz hb, o67 z b i hz hb hi, e64]
  have tHy : ∀ b, tH y J' b ↔ tH y J b ∧ ¬ b ∈ gn := fun b => by
    unfold tH
    constructor
    · rintro ⟨q1, q2⟩
      rw [h68 b q1] at q2
      by_cases e : b ∈ gn
      · rw [if_pos e] at q2; exact absurd q2 (by decide)
      · rw [if_neg e] at q2; exact ⟨⟨q1, q2⟩, e⟩
    · rintro ⟨⟨q1, q2⟩, e⟩
      exact ⟨q1, by rw [h68 b q1, if_neg e]; exact q2⟩
  have lg6 : ∀ b, b ∈ lg y → tH y J0 b := fun b hb => (h.2.2.2.2 y b hy (y2.mpr hb)).2
  have hsvH : ∀ b, b ∈ sv → tH y J b := fun b hb => ((m4 (fun _ => 2) rfl).2.2.2.2.2.2.2.2.1 b).mpr (Or.inr hb)
  -- a bundle with the same words where they count
  have h1 : CT n (sz + 1) (yY (setN lg y lg') fb jl) (wW (setN (cC J0) y (cC J y)) (fwI I0) (dD J0) fb jl) (dD J0) K (fun z => J0 0 65 z = nI 1) (setN (fun z => t_v z J0) y (t_v y J')) (setN (fun z => tH z J0) y (tH y J')) := by
    refine ct_commit (y := y) (sv := sv) (gn := gn) (F := F) (V1 := t_v y J) (hs1 := tH y J) (Bh := Bh) h hy hU m4 m5 m6 (fun z l b hzl => yY_cg (fun e => setN_o (fun e2 => hzl ⟨e2, e⟩)) (fun _ => rfl) (fun _ => rfl)) (fun b => by rw [y2, y2, setN_s]; exact hm b) (fun z l b i hzl => ?_) (fun b i hq hi => ?_) (fun b i hq hs hi => ?_) (fun b hq => m7 b (lg6 b (y2.mp hq))) (fun z hz => setN_o hz) (fun b i hb hi => ?_) (fun z hz => setN_o hz) (fun b => by rw [setN_s]; exact tHy b)
    · unfold wW
      by_cases e : l = 2
      · rw [if_pos e, if_pos e, setN_o (fun e2 => hzl ⟨e2, e⟩)]
      · rw [if_neg e, if_neg e]
    · rw [y2, setN_s] at hq
      rw [wW_2, setN_s, tv_c]
      exact ((hm b).mp hq).1.elim (fun q => m7 b (lg6 b q)) (hsvH b)
    · rw [y2] at hq
      rw [wW_2, tv_c (m7 b (lg6 b hq))]
      exact m8 b i (lg6 b hq) hs hi
    · rw [setN_s]
      unfold t_v
      by_cases hb6 : b < 640
      · rw [h68 b hb6, if_neg hb, e67, hk.1 0 64 (by omega)]
      · by_cases e : 640 * y + b < 640 * y + 640
        · omega
        · rw [(hk.2.2.1 (640 * y + b) (by omega)).1, e67, hk.1 0 64 (by omega)]
  unfold CTI
  rw [edD, efw, e65]
  refine ct_cg h1 (fun _ _ _ _ _ => Iff.rfl) (fun z l b i hz hl hq hi => ?_) (fun _ _ _ _ _ => rfl) (fun _ _ => Iff.rfl) (fun z b i hz _ h1 h2 hi => ?_) (fun z hz _ => ?_)
  · rcases l3 hl with rfl | rfl | rfl
    · rfl
    · rfl
    · rw [y2] at hq
      rw [wW_2, wW_2]
      by_cases e : z = y
      · rw [e, setN_s]
        unfold cC
        rw [e67]
      · rw [setN_o e] at hq ⊢
        exact o67 z b i e ((h.2.2.2.2 z b hz (y2.mpr hq)).2).1 hi
  · by_cases e : z = y
    · rw [e, setN_s]
    · rw [setN_o e]; exact oV z b i e h2 hi
  · by_cases e : z = y
    · rw [e, setN_s]
    · rw [setN_o e]
      exact funext fun b => propext (oH z e b)
end INST
