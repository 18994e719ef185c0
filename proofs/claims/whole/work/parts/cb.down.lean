
section DOWN2
variable {n sz y r : Nat} {lg fb jl : Nat → List Nat} {K K' : Nat → Nat → Int} {I J I' J' : am_I} {L : Nat → Nat}
/-- a node goes down: the content -/
theorem cti_down {T m M : Nat} {ms : List (Nat → Nat)} (h : CTI n sz lg fb jl K I J) (hn : n ≤ 4) (hy : y < n) (hr : r < 136) (hU : J 0 65 y = nI 1) (hm : m < 2) (hmK : (m : Int) ≤ K y r) (hid : K y r = 2 → lg y = [] ∧ fb y = [] ∧ jl y = []) (hjl : ∀ z, z < n → (jl z).length ≤ 16) (hd : GDd n T y r m M I J ms I' J') (hK : ∀ z r', ¬ (z = y ∧ r' = r) → K' z r' = K z r') (hK2 : K' y r = m) : CTI n sz lg fb jl K' I' J' := by
  obtain ⟨d1, d2, d3, d4, d5, d6, d7, d8, d9, d10⟩ := hd
  have e64 : J' 0 64 = J 0 64 := d10.1 0 64 (by omega)
  have e65 : J' 0 65 = J 0 65 := d10.1 0 65 (by omega)
  have e67 : J' 0 67 = J 0 67 := d10.1 0 67 (by omega)
  have edD : dD J' = dD J := by unfold dD; rw [e64]
  have ecC : cC J' = cC J := by unfold cC; rw [e67]
  have efw : fwI I' = fwI I := funext fun z => funext fun k => funext fun i => by unfold fwI; rw [d9.1 z 47 (by omega) (by omega)]
  have h68 : ∀ c, c < 640 → (J' 0 68 (640 * y + c) = J 0 68 (640 * y + c)) ∨ (m = 0 ∧ (if r < 128 then fgt y r J c else c = w_mp (r - 128))) := fun c hc => by
    by_cases e : m = 0
    · by_cases q : (if r < 128 then fgt y r J c else c = w_mp (r - 128))
      · exact Or.inr ⟨e, q⟩
      · exact Or.inl ((d7 e c hc).2 q)
    · exact Or.inl (by rw [d8 e])
  have o68 : ∀ z b, ¬ z = y → b < 640 → J' 0 68 (640 * z + b) = J 0 68 (640 * z + b) := fun z b hz hb => d10.2.2.2 _ (by omega)
  have oH : ∀ z, ¬ z = y → tH z J' = tH z J := fun z hz => funext fun b => propext (by
    unfold tH
    exact ⟨fun q => ⟨q.1, by rw [← o68 z b hz q.1]; exact q.2⟩, fun q => ⟨q.1, by rw [o68 z b hz q.1]; exact q.2⟩⟩)
  have hsub : ∀ b, tH y J' b → tH y J b := fun b hb => by
    refine ⟨hb.1, ?_⟩
    rcases h68 b hb.1 with q | ⟨q1, q2⟩
    · rw [← q]; exact hb.2
    · have := (d7 q1 b hb.1).1 q2
      rw [hb.2] at this
      exact absurd this (by decide)
  have tvd : ∀ z b i, b < 640 → (tH z J b → tH z J' b) → (tH z J' b → tH z J b) → t_v z J' b i = t_v z J b i := fun z b i hb h1 h2 => by
    by_cases c : tH z J b
    · rw [tv_c c, tv_c (h1 c), ecC]
    · rw [tv_d hb c, tv_d hb (fun q => c (h2 q)), edD]
  have hct : CT n sz (yY lg fb jl) (wW (cC J) (fwI I) (dD J) fb jl) (dD J) K' (fun z => J 0 65 z = nI 1) (setN (fun z => t_v z J) y (fun b i => if b < 640 then t_v y J' b i else t_v y J b i)) (setN (fun z => tH z J) y (tH y J')) := by
    refine ct_down (y := y) (r := r) (m := m) h hy (by omega) hmK (fun q l b hl hq => ?_) hK hK2 (fun z hz => setN_o hz) (fun b hb => ?_) (fun b hb hnb => ?_) (fun hm0 b hb L hL ho => ?_) (fun z hz => setN_o hz) (fun b i hbb => ?_)
    · obtain ⟨q1, q2, q3⟩ := hid q
      rcases l3 hl with rfl | rfl | rfl
      · rw [y0, q3] at hq; exact absurd hq List.not_mem_nil
      · rw [y1, q2] at hq; exact absurd hq List.not_mem_nil
      · rw [y2, q1] at hq; exact absurd hq List.not_mem_nil
    · rw [setN_s] at hb
      exact hsub b hb
    · rw [setN_s] at hnb
      have hb' : tH y J b := hb
      rcases h68 b hb'.1 with q | ⟨q1, q2⟩
      · exact absurd ⟨hb'.1, by rw [q]; exact hb'.2⟩ hnb
      · exact ⟨by omega, fun L hL => (dr_of h hy hU hr hL hb').mp q2⟩
    · rw [setN_s] at hb
      have q := (dr_of h hy hU hr hL (hsub b hb)).mpr ho
      have := (d7 (by omega) b hb.1).1 q
      rw [hb.2] at this
      exact absurd this (by decide)
    · rw [setN_s] at hbb ⊢
      show (if b < 640 then t_v y J' b i else t_v y J b i) = t_v y J b i
      by_cases hb : b < 640
      · rw [if_pos hb]
        exact tvd y b i hb hbb (hsub b)
      · rw [if_neg hb]
  unfold CTI
  rw [edD, ecC, efw, e65]
  refine ct_cg hct (fun _ _ _ _ _ => Iff.rfl) (fun _ _ _ _ _ _ _ _ => rfl) (fun _ _ _ _ _ => rfl) (fun _ _ => Iff.rfl) (fun z b i hz _ _ h2 hi => ?_) (fun z hz _ => ?_)
  · by_cases e : z = y
    · rw [e, setN_s]
      show t_v y J' b i = if b < 640 then t_v y J' b i else t_v y J b i
      rw [if_pos h2]
    · rw [setN_o e]
      exact tvd z b i h2 (fun q => by rw [oH z e]; exact q) (fun q => by rw [oH z e] at q; exact q)
  · by_cases e : z = y
    · rw [e, setN_s]
    · rw [setN_o e]
      exact oH z e
end DOWN2
