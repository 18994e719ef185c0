
section INST9
variable {n sz y : Nat} {lg fb jl : Nat → List Nat} {K K' : Nat → Nat → Int} {I J I0 J0 I' J' : am_I} {fq : Nat → Nat}
/-- words that nobody looks at -/
theorem cti_cg (h : CTI n sz lg fb jl K I J) (h64 : ∀ b i, b < 640 → i < 16 → J' 0 64 (16 * b + i) = J 0 64 (16 * b + i)) (h65 : J' 0 65 = J 0 65) (h67 : ∀ z b i, z < n → b < 640 → i < 16 → J' 0 67 (16 * (640 * z + b) + i) = J 0 67 (16 * (640 * z + b) + i)) (h68 : ∀ z b, z < n → b < 640 → J' 0 68 (640 * z + b) = J 0 68 (640 * z + b)) (h47 : ∀ z k i, z < n → k < (fb z).length → i < 16 → I' z 47 (16 * k + i) = I z 47 (16 * k + i)) (hjl : ∀ z, z < n → (jl z).length ≤ 16) (hn : n ≤ 4) : CTI n sz lg fb jl K I' J' := by
  unfold CTI
  rw [h65]
  refine ct_cg h (fun _ _ _ _ _ => Iff.rfl) (fun z l b i hz hl hq hi => ?_) (fun b i _ h2 hi => h64 b i h2 hi) (fun _ _ => Iff.rfl) (fun z b i hz _ _ h2 hi => ?_) (fun z hz _ => ?_)
  · rcases l3 hl with rfl | rfl | rfl
    · rw [wW_0, wW_0]
      rw [y0] at hq
      have := (idx_get hq).2
      have := hjl z hz
      exact h64 _ i (by omega) hi
    · rw [wW_1, wW_1]
      rw [y1] at hq
      exact h47 z _ i hz (idx_get hq).2 hi
    · rw [wW_2, wW_2]
      rw [y2] at hq
      exact h67 z b i hz ((h.2.2.2.2 z b hz (y2.mpr hq)).2).1 hi
  · unfold t_v
    rw [h68 z b hz h2, h67 z b i hz h2 hi, h64 b i h2 hi]
  · refine funext fun b => propext ?_
    unfold tH
    exact ⟨fun q => ⟨q.1, by rw [← h68 z b hz q.1]; exact q.2⟩, fun q => ⟨q.1, by rw [h68 z b hz q.1]; exact q.2⟩⟩
/-- a try is undone: the content -/
theorem cti_undo {B : wS} (h : CTI n sz lg fb jl K I0 J0) (hy : y < n) (hR : RS y (K y) (sST n lg fb jl I0 J0) I0 J0 B I J) : CTI n sz lg fb jl K I J := by
  obtain ⟨r1, r2, r3, r4, r5, r6, r7, r8, r9, r10⟩ := hR
  have e64 : J 0 64 = J0 0 64 := r9.1 0 64 (by omega)
  have e65 : J 0 65 = J0 0 65 := r9.1 0 65 (by omega)
  have edD : dD J = dD J0 := by unfold dD; rw [e64]
  have efw : fwI I = fwI I0 := funext fun z => funext fun k => funext fun i => by unfold fwI; rw [r8 z 47 (by omega) (by omega)]
  have o67 : ∀ z b i, ¬ z = y → b < 640 → i < 16 → J 0 67 (16 * (640 * z + b) + i) = J0 0 67 (16 * (640 * z + b) + i) := fun z b i hz hb hi => r9.2.2.2 _ (by omega)
  have o68 : ∀ z b, ¬ z = y → b < 640 → J 0 68 (640 * z + b) = J0 0 68 (640 * z + b) := fun z b hz hb => r9.2.2.1 _ (by omega)
  have hold : ∀ b, tH y J0 b → tH y J b ∧ ∀ i, i < 16 → J 0 67 (16 * (640 * y + b) + i) = J0 0 67 (16 * (640 * y + b) + i) := fun b hb => by
    have hB := (r4 b hb.1).1 hb.2
    exact ⟨⟨hb.1, by rw [(r1 b hb.1).1]; exact hB.1⟩, fun i hi => by rw [(r1 b hb.1).2 hB.1 i hi, hB.2 i hi]⟩
  have hv : ∀ z b i, b < 640 → i < 16 → t_v z J b i = t_v z J0 b i := fun z b i hb hi => by
    by_cases e : z = y
    · subst e
      by_cases c0 : J0 0 68 (640 * z + b) = nI 1
      · have := hold b ⟨hb, c0⟩
        rw [tv_c this.1, tv_c (J := J0) ⟨hb, c0⟩]
        exact this.2 i hi
      · by_cases c1 : B b 16 = nI 1
        · rw [tv_c (J := J) ⟨hb, by rw [(r1 b hb).1]; exact c1⟩, tv_d (J := J0) hb (fun q => c0 q.2)]
          unfold cC
          rw [(r1 b hb).2 c1 i hi]
          exact (r4 b hb).2.1 c0 c1 i hi
        · rw [tv_d (J := J) hb (fun q => c1 (by rw [← (r1 b hb).1]; exact q.2)), tv_d (J := J0) hb (fun q => c0 q.2), edD]
    · unfold t_v
      rw [o68 z b e hb, o67 z b i e hb hi, e64]
  have h1 := ct_read (y := y) (V' := fun z => t_v z J) (hs' := fun z => if z = y then tH y J else tH z J0) h hv (fun z hz => if_neg hz) (fun b hb => by
    show (if y = y then tH y J else tH y J0) b
    rw [if_pos rfl]
    exact (hold b (h.2.2.2.2 y b hy hb).2).1) (fun L hL b hb => by
    have eh : (if y = y then tH y J else tH y J0) = fun b => b < 640 ∧ B b 16 = nI 1 := by
      rw [if_pos rfl]
      refine funext fun b => propext ?_
      unfold tH
      exact ⟨fun q => ⟨q.1, by rw [← (r1 b q.1).1]; exact q.2⟩, fun q => ⟨q.1, by rw [(r1 b q.1).1]; exact q.2⟩⟩
    have hb' : (if y = y then tH y J else tH y J0) b := hb
    rw [eh] at hb'
    show ∃ r, w_of _ b r ∧ 0 < K y r ∧ t_in _ (if y = y then tH y J else tH y J0) b r
    rw [eh]
    exact r10 L hL b hb')
  unfold CTI
  rw [edD, efw, e65]
  refine ct_cg h1 (fun _ _ _ _ _ => Iff.rfl) (fun z l b i hz hl hq hi => ?_) (fun _ _ _ _ _ => rfl) (fun _ _ => Iff.rfl) (fun _ _ _ _ _ _ _ _ => rfl) (fun z hz _ => ?_)
  · rcases l3 hl with rfl | rfl | rfl
    · rfl
    · rfl
    · rw [wW_2, wW_2]
      have hc := (h.2.2.2.2 z b hz hq).2
      by_cases e : z = y
      · subst e
        exact (hold b hc).2 i hi
      · exact o67 z b i e hc.1 hi
  · by_cases e : z = y
    · rw [e, if_pos rfl]
    · rw [if_neg e]
      refine funext fun b => propext ?_
      unfold tH
      exact ⟨fun q => ⟨q.1, by rw [← o68 z b e q.1]; exact q.2⟩, fun q => ⟨q.1, by rw [o68 z b e q.1]; exact q.2⟩⟩
/-- a flush begins: the content -/
theorem cti_open {t ed fq0 mk0 fq1 mk1 : Nat} {lg1 fb1 : List Nat} (h : CTI n sz lg fb jl K I J) (hy : y < n) (hn : n ≤ 4) (hjl0 : fb y = [] → jl y = []) (hl1 : (lg y).Nodup) (hl2 : (lg y).length ≤ 16) (hF : ∀ z, z < n → FJ z (dD J) (fb z) (jl z) (fq z) (fwI I z)) (hq : fq y = fq0) (hB : BFl y t ed I J (lg y) (fb y) fq0 mk0 I' J' lg1 fb1 fq1 mk1) : CTI n sz (setN lg y lg1) (setN fb y fb1) jl K I' J' ∧ ∀ z, z < n → FJ z (dD J') (setN fb y fb1 z) (jl z) (setN fq y fq1 z) (fwI I' z) := by
  obtain ⟨b1, b2, b3, b4⟩ := hB
  have e64 : J' 0 64 = J 0 64 := b2.1 0 64 (by omega)
  have edD : dD J' = dD J := by unfold dD; rw [e64]
  have hjl16 : ∀ z, z < n → (jl z).length ≤ 16 := fun z hz => (hF z hz).2.1.2.1
  rcases b4 with ⟨e1, e2, e3, e4, e5, e6, e7, e8⟩ | ⟨e1, e3, e4, e5, e6, e7, e8⟩
  · have hl6 : ∀ b, b ∈ lg y → 128 ≤ b ∧ b < 640 := fun b hb => by
      obtain ⟨r, r1, r2⟩ := h.2.1 (fun _ => 2) y 2 b hy (by decide) (y2.mpr hb) rfl
      exact ⟨of_pos r1, of_lt r1⟩
    obtain ⟨c1, c2⟩ := ct_open (fq := fq) (fw1 := fwI I' y) h e1 (hjl0 e1) hl1 hl2 hl6 (fun k b i hk hi => by
      show I' y 47 (16 * k + i) = _
      rw [e8 k i (get_lt hk) hi, getD_some hk]
      rfl) hF
    have efw : setN (fwI I) y (fwI I' y) = fwI I' := funext fun z => by
      by_cases e : z = y
      · rw [e, setN_s]
      · rw [setN_o e]
        unfold fwI
        rw [b3 z 47 (by omega)]
    rw [efw] at c1 c2
    subst e3 e4 e5
    refine ⟨?_, by rw [edD]; exact c2⟩
    have c3 : CTI n sz (setN lg y []) (setN fb y (lg y)) jl K I' J := c1
    exact cti_cg c3 (fun b i _ _ => by rw [e64]) (b2.1 0 65 (by omega)) (fun z b i _ _ _ => by rw [b2.1 0 67 (by omega)]) (fun z b _ _ => by rw [b2.1 0 68 (by omega)]) (fun _ _ _ _ _ _ => rfl) hjl16 hn
  · subst e7 e8 e3 e4 e5
    rw [setN_id, setN_id, ← hq, setN_id]
    exact ⟨h, hF⟩
end INST9
