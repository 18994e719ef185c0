
section GRANT
variable {n sz y r : Nat} {lg fb jl : Nat → List Nat} {K K' : Nat → Nat → Int} {I J I' J' : am_I} {fq : Nat → Nat}
/-- a lock is granted: the content -/
theorem cti_grant {v : Int} (h : CTI n sz lg fb jl K I J) (hy : y < n) (hv : K y r ≤ v) (hv2 : v ≤ 2) (hoth : ∀ z, z < n → ¬ z = y → ¬ K z r = 2 ∧ (v = 2 → K z r ≤ 0)) (hK : ∀ z r', ¬ (z = y ∧ r' = r) → K' z r' = K z r') (hK2 : K' y r = v) : CTI n sz lg fb jl K' I J :=
  ct_grant h hy hv hv2 hoth hK hK2 (fun b i hb _ hnc => tv_d hb hnc)
/-- a flush writes: the content -/
theorem cti_write (h : CTI n sz lg fb jl K I J) (hn : n ≤ 4) (hy : y < n) (hF : ∀ z, z < n → FJ z (dD J) (fb z) (jl z) (fq z) (fwI I z)) (hne : ¬ fb y = []) (hq : fq y < 2 * (fb y).length + 3)
    (h64 : ∀ k, J' 0 64 k = if 16 * wb y (fb y) (fq y) ≤ k ∧ k < 16 * wb y (fb y) (fq y) + 16 then ww (fb y) (J 0 71 y) (fun k i => I y 47 (16 * k + i)) (fq y) (k - 16 * wb y (fb y) (fq y)) else J 0 64 k) (hI : ∀ z, I' z 47 = I z 47) (hJ : J' 0 65 = J 0 65 ∧ J' 0 67 = J 0 67 ∧ J' 0 68 = J 0 68) :
    ∃ fb1 jl1, CTI n sz lg (setN fb y fb1) (setN jl y jl1) K I' J' ∧ (∀ z, z < n → FJ z (dD J') (setN fb y fb1 z) (setN jl y jl1 z) (setN fq y (fq y + 1) z) (fwI I' z)) ∧ fb1 = if fq y + 1 = 2 * (fb y).length + 3 then [] else fb y := by
  have efw : fwI I' = fwI I := funext fun z => funext fun k => funext fun i => by unfold fwI; rw [hI z]
  have ecC : cC J' = cC J := by unfold cC; rw [hJ.2.1]
  have eH : ∀ z, tH z J' = tH z J := fun z => by unfold tH; rw [hJ.2.2]
  obtain ⟨fb1, jl1, c1, c2, c3⟩ := ct_write (D' := dD J') (V' := fun z => t_v z J') (be := J 0 71 y) h hn hy hF hne hq (fun b i hi => by
    show J' 0 64 (16 * b + i) = _
    rw [h64]
    by_cases e : b = wb y (fb y) (fq y)
    · rw [if_pos e, if_pos (by omega), show 16 * b + i - 16 * wb y (fb y) (fq y) = i from by omega]
      rfl
    · rw [if_neg e, if_neg (by omega)]
      rfl) (fun z b i hz _ hb hi => by
    by_cases c : tH z J b
    · refine Or.inl ⟨?_, c⟩
      show t_v z J' b i = t_v z J b i
      rw [tv_c c, tv_c (J := J') (by rw [eH]; exact c), ecC]
    · exact Or.inr ⟨c, tv_d hb c, tv_d (J := J') hb (by rw [eH]; exact c)⟩)
  refine ⟨fb1, jl1, ?_, by rw [efw]; exact c2, c3⟩
  unfold CTI
  rw [efw, ecC, hJ.1]
  have eH' : (fun z => tH z J') = fun z => tH z J := funext eH
  rw [eH']
  exact c1
/-- a node crashes while it flushes: the content -/
theorem cti_torn {many : Nat} (h : CTI n sz lg fb jl K I J) (hn : n ≤ 4) (hy : y < n) (hm : many ≤ 16) (hF : ∀ z, z < n → FJ z (dD J) (fb z) (jl z) (fq z) (fwI I z)) (hne : ¬ fb y = []) (hq : fq y < 2 * (fb y).length + 3)
    (h64 : ∀ k, J' 0 64 k = if 16 * wb y (fb y) (fq y) ≤ k ∧ k < 16 * wb y (fb y) (fq y) + many then ww (fb y) (J 0 71 y) (fun k i => I y 47 (16 * k + i)) (fq y) (k - 16 * wb y (fb y) (fq y)) else J 0 64 k) (hI : ∀ z, I' z 47 = I z 47) (h65 : ∀ z, J' 0 65 z = nI 1 ↔ J 0 65 z = nI 1 ∧ ¬ z = y) (h67 : ∀ z b i, ¬ z = y → b < 640 → i < 16 → J' 0 67 (16 * (640 * z + b) + i) = J 0 67 (16 * (640 * z + b) + i)) (h68 : ∀ z b, ¬ z = y → b < 640 → J' 0 68 (640 * z + b) = J 0 68 (640 * z + b)) :
    ∃ jl1, CTI n sz (setN lg y []) (setN fb y []) (setN jl y jl1) K I' J' ∧ ∀ z, z < n → FJ z (dD J') (setN fb y [] z) (setN jl y jl1 z) (fq z) (fwI I' z) := by
  have efw : fwI I' = fwI I := funext fun z => funext fun k => funext fun i => by unfold fwI; rw [hI z]
  have eH : ∀ z, ¬ z = y → tH z J' = tH z J := fun z hz => funext fun b => propext (by
    unfold tH
    exact ⟨fun q => ⟨q.1, by rw [← h68 z b hz q.1]; exact q.2⟩, fun q => ⟨q.1, by rw [h68 z b hz q.1]; exact q.2⟩⟩)
  obtain ⟨jl1, c1, c2⟩ := ct_torn (D' := dD J') (V' := fun z => t_v z J') (be := J 0 71 y) (many := many) (C' := cC J) (U' := fun z => J' 0 65 z = nI 1) (hs' := fun z => tH z J') h hn hy hF hne hq (fun b i hi => by
    show J' 0 64 (16 * b + i) = _
    rw [h64]
    by_cases e : b = wb y (fb y) (fq y) ∧ i < many
    · rw [if_pos e, if_pos (by omega), show 16 * b + i - 16 * wb y (fb y) (fq y) = i from by omega]
      rfl
    · rw [if_neg e, if_neg (by omega)]
      rfl) (fun _ _ => rfl) h65 (fun z b i hz hzy _ hb hi => by
    by_cases c : tH z J b
    · refine Or.inl ⟨?_, c⟩
      show t_v z J' b i = t_v z J b i
      rw [tv_c c, tv_c (J := J') (by rw [eH z hzy]; exact c)]
      exact h67 z b i hzy hb hi
    · exact Or.inr ⟨c, tv_d hb c, tv_d (J := J') hb (by rw [eH z hzy]; exact c)⟩) (fun z hz => eH z hz)
  refine ⟨jl1, ?_, by rw [efw]; exact c2⟩
  unfold CTI
  rw [efw]
  refine ct_cg c1 (fun _ _ _ _ _ => Iff.rfl) (fun z l b i hz hl hq' hi => ?_) (fun _ _ _ _ _ => rfl) (fun _ _ => Iff.rfl) (fun _ _ _ _ _ _ _ _ => rfl) (fun _ _ _ => rfl)
  rcases l3 hl with rfl | rfl | rfl
  · rfl
  · rfl
  · rw [y2] at hq'
    rw [wW_2, wW_2]
    have e : ¬ z = y := fun e => by rw [e, setN_s] at hq'; exact absurd hq' List.not_mem_nil
    rw [setN_o e] at hq'
    exact h67 z b i e ((h.2.2.2.2 z b hz (y2.mpr hq')).2).1 hi
end GRANT
