
section GONE
variable {n sz y r : Nat} {lg fb jl : Nat → List Nat} {K K' : Nat → Nat → Int} {I J I' J' : am_I} {fq : Nat → Nat}
/-- a node crashes while it doesn't flush: the content -/
theorem cti_fin (h : CTI n sz lg fb jl K I J) (hfb : fb y = []) (hF : ∀ z, z < n → FJ z (dD J) (fb z) (jl z) (fq z) (fwI I z)) (h64 : J' 0 64 = J 0 64) (hI : ∀ z, I' z 47 = I z 47) (h65 : ∀ z, J' 0 65 z = nI 1 ↔ J 0 65 z = nI 1 ∧ ¬ z = y) (h67 : ∀ z b i, ¬ z = y → b < 640 → i < 16 → J' 0 67 (16 * (640 * z + b) + i) = J 0 67 (16 * (640 * z + b) + i)) (h68 : ∀ z b, ¬ z = y → b < 640 → J' 0 68 (640 * z + b) = J 0 68 (640 * z + b)) :
    CTI n sz (setN lg y []) fb jl K I' J' ∧ ∀ z, z < n → FJ z (dD J') (fb z) (jl z) (fq z) (fwI I' z) := by
  have efw : fwI I' = fwI I := funext fun z => funext fun k => funext fun i => by unfold fwI; rw [hI z]
  have edD : dD J' = dD J := by unfold dD; rw [h64]
  have eH : ∀ z, ¬ z = y → tH z J' = tH z J := fun z hz => funext fun b => propext (by
    unfold tH
    exact ⟨fun q => ⟨q.1, by rw [← h68 z b hz q.1]; exact q.2⟩, fun q => ⟨q.1, by rw [h68 z b hz q.1]; exact q.2⟩⟩)
  have c1 := ct_fin (y := y) (C' := cC J) (U' := fun z => J' 0 65 z = nI 1) (V' := fun z => t_v z J') (hs' := fun z => tH z J') h (fun _ _ => rfl) h65 (fun z b i hz hzy _ _ hb hi => by
    show t_v z J' b i = t_v z J b i
    unfold t_v
    rw [h68 z b hzy hb, h67 z b i hzy hb hi, h64]) (fun z hz => eH z hz)
  have es : setN fb y [] = fb := by rw [← hfb, setN_id]
  rw [es] at c1
  refine ⟨?_, by rw [efw, edD]; exact hF⟩
  unfold CTI
  rw [efw, edD]
  refine ct_cg c1 (fun _ _ _ _ _ => Iff.rfl) (fun z l b i hz hl hq' hi => ?_) (fun _ _ _ _ _ => rfl) (fun _ _ => Iff.rfl) (fun _ _ _ _ _ _ _ _ => rfl) (fun _ _ _ => rfl)
  rcases l3 hl with rfl | rfl | rfl
  · rfl
  · rfl
  · rw [y2] at hq'
    rw [wW_2, wW_2]
    have e : ¬ z = y := fun e => by rw [e, setN_s] at hq'; exact absurd hq' List.not_mem_nil
    rw [setN_o e] at hq'
    exact h67 z b i e ((h.2.2.2.2 z b hz (y2.mpr hq')).2).1 hi
/-- a dead node's journal is replayed: the content -/
theorem cti_replay (h : CTI n sz lg fb jl K I J) (hy : y < n) (hn : n ≤ 4) (hF : ∀ z, z < n → FJ z (dD J) (fb z) (jl z) (fq z) (fwI I z)) (hU : ¬ J 0 65 y = nI 1) (hlg : lg y = []) (hfb : fb y = [])
    (hD : ∀ b i, 128 ≤ b → b < 640 → i < 16 → J' 0 64 (16 * b + i) = if b ∈ jl y then J 0 64 (16 * (3 + 24 * y + (jl y).idxOf b) + i) else J 0 64 (16 * b + i)) (hDl : ∀ b i, b < 128 → i < 16 → ¬ b = 1 + 24 * y → J' 0 64 (16 * b + i) = J 0 64 (16 * b + i)) (hDh : ¬ J' 0 64 (16 * (1 + 24 * y) + 2) = nI 1)
    (hI : ∀ z, I' z 47 = I z 47) (hJ : J' 0 65 = J 0 65 ∧ J' 0 67 = J 0 67 ∧ J' 0 68 = J 0 68) (hK : ∀ z r, ¬ z = y → K' z r = K z r) (hK2 : ∀ r, K' y r = 0) :
    CTI n sz lg fb (setN jl y []) K' I' J' ∧ ∀ z, z < n → FJ z (dD J') (fb z) (setN jl y [] z) (fq z) (fwI I' z) := by
  have efw : fwI I' = fwI I := funext fun z => funext fun k => funext fun i => by unfold fwI; rw [hI z]
  have ecC : cC J' = cC J := by unfold cC; rw [hJ.2.1]
  have eH : ∀ z, tH z J' = tH z J := fun z => by unfold tH; rw [hJ.2.2]
  obtain ⟨c1, c2⟩ := ct_replay (D' := dD J') (V' := fun z => t_v z J') h hy hn hF hU hlg hfb hD hDl hDh (fun z b i hz _ hb hi => by
    by_cases c : tH z J b
    · refine Or.inl ⟨?_, c⟩
      show t_v z J' b i = t_v z J b i
      rw [tv_c c, tv_c (J := J') (by rw [eH]; exact c), ecC]
    · exact Or.inr ⟨c, tv_d hb c, tv_d (J := J') hb (by rw [eH]; exact c)⟩) hK hK2
  refine ⟨?_, by rw [efw]; exact c2⟩
  unfold CTI
  rw [efw, ecC, hJ.1]
  have eH' : (fun z => tH z J') = fun z => tH z J := funext eH
  rw [eH']
  exact c1
end GONE
