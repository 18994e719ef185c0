
section CRASH
variable {n T e x : Nat} {I J I' J' : am_I} {ms : List (Nat → Nat)} {rw rw' : Nat → List (Nat × Nat)} {gv cl gv' cl' H A B H' A' B' : Nat → Nat → Nat} {K : Nat → Nat → Int} {lg fb jl jl' : Nat → List Nat} {fq mk : Nat → Nat} {g : Nat → Nat}
theorem kp_t {m : Nat → Nat} : kp x m = true ↔ ¬ m 0 = x ∧ ¬ m 1 = x := by unfold kp; rw [decide_eq_true_eq]
/-- a node crashes: the locks -/
theorem pl_crash {U U' : Nat → Int32} {mr : Nat → Nat} (h : PL n U mr ms rw gv cl H A B) (hx : x < n) (hUo : ∀ z, ¬ z = x → U' z = U z) (hUx : U' x = nI 0) (hrw : ∀ r, r < 136 → rw' r = if mr r = x then [] else rw r) (hgv : ∀ r y, r < 136 → gv' r y = if mr r = x then 0 else gv r y) (hcl : ∀ r y, r < 136 → cl' r y = if mr r = x then 0 else cl r y) (hH : ∀ z, ¬ z = x → H' z = H z ∧ A' z = A z ∧ B' z = B z) (hA0 : ∀ r, A' x r = 0) : PL n U' mr (ms.filter (kp x)) rw' gv' cl' H' A' B' := by
  obtain ⟨a1, a2, a3, a4, a5, a6, a7, a8⟩ := h
  have ne1 : ∀ z, U' z = nI 1 → ¬ z = x := fun z q c => by rw [c, hUx] at q; exact absurd q (by decide)
  -- what is about others is kept
  have keepA : ∀ z r, ¬ z = x → ¬ mr r = x → ∀ a, a ∈ ms → tA z r a = true → kp x a = true := fun z r hz hm a ha q => by
    obtain ⟨q1, q2⟩ := tA_0.mp q
    obtain ⟨-, -, -, -, -, -, w⟩ := a1 a ha
    rw [q1] at w
    rw [kp_t]
    rcases q2 with ⟨q2, q3⟩ | ⟨q2, q3⟩
    · rcases w with w | w | w | w
      · exact ⟨by omega, by omega⟩
      · omega
      · omega
      · omega
    · rcases w with w | w | w | w
      · omega
      · exact ⟨by omega, by omega⟩
      · omega
      · omega
  have keepB : ∀ z r, ¬ z = x → ¬ mr r = x → ∀ a, a ∈ ms → tB z r a = true → kp x a = true := fun z r hz hm a ha q => by
    obtain ⟨q1, q2⟩ := tB_0.mp q
    obtain ⟨-, -, -, -, -, -, w⟩ := a1 a ha
    rw [q1] at w
    rw [kp_t]
    rcases q2 with ⟨q2, q3⟩ | ⟨q2, q3⟩
    · rcases w with w | w | w | w
      · omega
      · omega
      · exact ⟨by omega, by omega⟩
      · omega
    · rcases w with w | w | w | w
      · omega
      · omega
      · omega
      · exact ⟨by omega, by omega⟩
  have cntA : ∀ z r, ¬ z = x → ¬ mr r = x → (ms.filter (kp x)).countP (tA z r) = ms.countP (tA z r) := fun z r hz hm => by
    rw [List.countP_filter]
    refine List.countP_congr fun a ha => ?_
    rw [Bool.and_eq_true]
    exact ⟨fun q => q.1, fun q => ⟨q, keepA z r hz hm a ha q⟩⟩
  have cntB : ∀ z r, ¬ z = x → ¬ mr r = x → (ms.filter (kp x)).countP (tB z r) = ms.countP (tB z r) := fun z r hz hm => by
    rw [List.countP_filter]
    refine List.countP_congr fun a ha => ?_
    rw [Bool.and_eq_true]
    exact ⟨fun q => q.1, fun q => ⟨q, keepB z r hz hm a ha q⟩⟩
  have grE : ∀ z r, ¬ z = x → ¬ mr r = x → (gr (ms.filter (kp x)) z r ↔ gr ms z r) := fun z r hz hm => ⟨fun ⟨m, q1, q2⟩ => ⟨m, (List.mem_filter.mp q1).1, q2⟩, fun ⟨m, q1, q2, q3, q4⟩ => ⟨m, List.mem_filter.mpr ⟨q1, keepA z r hz hm m q1 (tA_0.mpr ⟨q4, Or.inr ⟨q2, q3⟩⟩)⟩, q2, q3, q4⟩⟩
  have rlE : ∀ z r, ¬ z = x → ¬ mr r = x → (rl (ms.filter (kp x)) z r ↔ rl ms z r) := fun z r hz hm => ⟨fun ⟨m, q1, q2⟩ => ⟨m, (List.mem_filter.mp q1).1, q2⟩, fun ⟨m, q1, q2, q3, q4⟩ => ⟨m, List.mem_filter.mpr ⟨q1, keepB z r hz hm m q1 (tB_0.mpr ⟨q4, Or.inr ⟨q2, q3⟩⟩)⟩, q2, q3, q4⟩⟩
  have sub : ∀ r e, r < 136 → e ∈ rw' r → e ∈ rw r := fun r e hr q => by
    rw [hrw r hr] at q
    by_cases c : mr r = x
    · rw [if_pos c] at q; simp at q
    · rw [if_neg c] at q; exact q
  refine ⟨fun m hm => ?_, fun z r hz hr u1 u2 => ?_, fun z r hz hr u1 u2 => ?_, fun z r hz hr u1 u2 => ?_, ⟨fun z r r' m m' hr hr' q1 q2 => a5.1 z r r' m m' hr hr' (sub r _ hr q1) (sub r' _ hr' q2), fun z r hr => ?_, fun z r r' hz hr hr' u q1 q2 => ?_, fun r e hr q => a5.2.2.2.1 r e hr (sub r e hr q), fun z r hz hr => ?_⟩, fun r y z hr hy hz hne q => ?_, fun r hr u => ?_, a8.filter _⟩
  · obtain ⟨q1, q2⟩ := List.mem_filter.mp hm
    obtain ⟨k0, k1⟩ := kp_t.mp q2
    obtain ⟨w1, w2, w3, w4, w5, w6, w7⟩ := a1 m q1
    refine ⟨w1, w2, w3, by rw [hUo _ k0]; exact w4, by rw [hUo _ k1]; exact w5, w6, ?_⟩
    rw [(hH _ k0).2.1, (hH _ k1).2.1, (hH _ k0).1, hcl _ _ w6, hcl _ _ w6]
    rcases w7 with w | w | w | w
    · exact Or.inl w
    · exact Or.inr (Or.inl w)
    · rw [if_neg (by omega), if_neg (by omega)]; exact Or.inr (Or.inr (Or.inl w))
    · rw [if_neg (by omega), if_neg (by omega)]; exact Or.inr (Or.inr (Or.inr w))
  · have hz' := ne1 z u1
    have hm := ne1 _ u2
    rw [hUo z hz'] at u1
    rw [hUo _ hm] at u2
    rw [cntA z r hz' hm, hrw r hr, if_neg hm, (hH z hz').2.1]
    exact a2 z r hz hr u1 u2
  · have hz' := ne1 z u1
    have hm := ne1 _ u2
    rw [hUo z hz'] at u1
    rw [hUo _ hm] at u2
    rw [cntB z r hz' hm, hrw r hr, if_neg hm, (hH z hz').2.2, grE z r hz' hm, rlE z r hz' hm, hcl r z hr, if_neg hm, hgv r z hr, if_neg hm]
    exact a3 z r hz hr u1 u2
  · have hz' := ne1 z u1
    have hm := ne1 _ u2
    rw [hUo z hz'] at u1
    rw [hUo _ hm] at u2
    rw [grE z r hz' hm, rlE z r hz' hm, hgv r z hr, if_neg hm, (hH z hz').1, (hH z hz').2.1]
    exact a4 z r hz hr u1 u2
  · rw [hrw r hr]
    by_cases c : mr r = x
    · rw [if_pos c]; exact Nat.zero_le _
    · rw [if_neg c]; exact a5.2.1 z r hr
  · have hz' := ne1 z u
    rw [hUo z hz'] at u
    rw [(hH z hz').2.1] at q1 q2
    exact a5.2.2.1 z r r' hz hr hr' u q1 q2
  · by_cases c : z = x
    · rw [c, hA0]; omega
    · rw [(hH z c).2.1]; exact a5.2.2.2.2 z r hz hr
  · rw [hgv r y hr] at q
    rw [hgv r z hr]
    by_cases c : mr r = x
    · rw [if_pos c]
    · rw [if_neg c] at q ⊢; exact a6 r y z hr hy hz hne q
  · by_cases c : mr r = x
    · refine ⟨by rw [hrw r hr, if_pos c], fun y hy => ?_⟩
      rw [hgv r y hr, if_pos c, hcl r y hr, if_pos c]
      exact ⟨rfl, rfl⟩
    · rw [hUo _ c] at u
      obtain ⟨q1, q2⟩ := a7 r hr u
      refine ⟨by rw [hrw r hr, if_neg c]; exact q1, fun y hy => ?_⟩
      rw [hgv r y hr, if_neg c, hcl r y hr, if_neg c]
      exact q2 y hy
/-- a node crashes: the core -/
theorem co_crash (h : CO n T e I J ms rw gv cl H A B K lg fb jl fq mk) (hx : x < n) (hU : J 0 65 x = nI 1) (hUx : J' 0 65 x = nI 0) (hUo : ∀ z, ¬ z = x → J' 0 65 z = J 0 65 z) (hjl : ∀ z, ¬ z = x → jl' z = jl z) (hC : CTI n e (setN lg x []) (setN fb x []) jl' K I' J') (hF : ∀ z, z < n → FJ z (dD J') (setN fb x [] z) (jl' z) (fq z) (fwI I' z)) (h1 : ∀ k, k < 10240 → I' 0 1 k = J' 0 64 k) (hML : MLr n T I' J' (ms.filter (kp x))) (hMS : MSr n I' J' rw' gv' cl') (hrw : ∀ r, r < 136 → rw' r = if mrr n J r = x then [] else rw r) (hgv : ∀ r y, r < 136 → gv' r y = if mrr n J r = x then 0 else gv r y) (hcl : ∀ r y, r < 136 → cl' r y = if mrr n J r = x then 0 else cl r y) (hBK : BKr I' J' e) (hND : NDr x I' J' [] [] (fq x) (mk x) (fun _ => 0) (fun _ => 0) (fun _ => 0)) (h71 : J' 0 71 x = nI 0) (h68 : ∀ b, b < 640 → J' 0 68 (640 * x + b) = nI 0)
    (oI : ∀ z b, ¬ z = x → 40 ≤ b → b ≤ 51 → ¬ b = 48 → I' z b = I z b) (o66 : J' 0 66 = J 0 66) (o67 : J' 0 67 = J 0 67) (o74 : J' 0 74 = J 0 74 ∧ J' 0 75 = J 0 75) (oz : ∀ z, ¬ z = x → (∀ b, b < 640 → J' 0 68 (640 * z + b) = J 0 68 (640 * z + b) ∧ J' 0 69 (640 * z + b) = J 0 69 (640 * z + b)) ∧ (J' 0 70 z = J 0 70 z ∧ J' 0 71 z = J 0 71 z ∧ J' 0 72 z = J 0 72 z ∧ J' 0 73 z = J 0 73 z) ∧ ∀ r, r < 136 → J' 0 76 (136 * z + r) = J 0 76 (136 * z + r) ∧ J' 0 77 (136 * z + r) = J 0 77 (136 * z + r) ∧ J' 0 78 (136 * z + r) = J 0 78 (136 * z + r)) (hT : TID I' J') (hMK : MKr n e J' (setN fb x []) fq mk) (hd : DUr gv' I' T (ms.filter (kp x))) : CO n T e I' J' (ms.filter (kp x)) rw' gv' cl' (setN H x (fun _ => 0)) (setN A x (fun _ => 0)) (setN B x (fun _ => 0)) K (setN lg x []) (setN fb x []) jl' fq mk := by
  obtain ⟨a1, a2, a3, a4, a5, a6, a7, a8, a9, b1, b2, b3, b4⟩ := h
  have em : mrr n J' = mrr n J := mrr_cg o66
  have hjx := (a6 x hx).2.1 hU
  refine ⟨a1, hML, hMS, hBK, fun z hz => ?_, fun z hz => ?_, ?_, h1, hT, hC, hF, hMK, hd⟩
  · by_cases ez : z = x
    · subst ez
      rw [setN_s, setN_s, setN_s, setN_s, setN_s]
      exact hND
    · rw [setN_o ez, setN_o ez, setN_o ez, setN_o ez, setN_o ez]
      obtain ⟨o1, o2, o3⟩ := oz z ez
      exact nd_cg (a5 z hz) (fun j q1 q2 q3 => oI z j ez q1 q2 q3) (by rw [o66]) (fun b i _ _ => by rw [o67]) (fun b hb => (o1 b hb).1) (fun b hb => (o1 b hb).2) o2.1 o2.2.1 o2.2.2.1 o2.2.2.2 (fun k _ => by rw [o74.1]) (fun k i _ _ => by rw [o74.2]) o3
  · obtain ⟨s1, s2, s3, s4⟩ := a6 z hz
    rw [o66, em]
    by_cases ez : z = x
    · subst ez
      rw [setN_s, setN_s, setN_s, setN_s, setN_s]
      refine ⟨s1, fun q => by rw [hUx] at q; exact absurd q (by decide), fun _ => ⟨rfl, rfl, fun r hr => ⟨rfl, rfl, rfl, fun w => ?_⟩⟩, fun q => absurd hjx.1 q, fun _ => ⟨h71, h68⟩⟩
      have hm : ¬ mrr n J r = z := fun c => by rw [c, hUx] at w; exact absurd w (by decide)
      rw [hUo _ hm] at w
      rw [hgv r z hr, if_neg hm, hjx.2.1 r hr]
      have := (a7.2.2.2.1 z r hz hr hU w).1
      omega
    · rw [setN_o ez, setN_o ez, setN_o ez, setN_o ez, setN_o ez, hUo z ez, hjl z ez, (oz z ez).2.1.2.1]
      refine ⟨s1, s2, fun q => ⟨(s3 q).1, (s3 q).2.1, fun r hr => ⟨((s3 q).2.2 r hr).1, ((s3 q).2.2 r hr).2.1, ((s3 q).2.2 r hr).2.2.1, fun w => ?_⟩⟩, s4.1, fun q => ⟨(s4.2 q).1, fun b hb => by rw [((oz z ez).1 b hb).1]; exact (s4.2 q).2 b hb⟩⟩
      have hm : ¬ mrr n J r = x := fun c => by rw [c, hUx] at w; exact absurd w (by decide)
      rw [hUo _ hm] at w
      rw [hgv r z hr, if_neg hm]
      exact ((s3 q).2.2 r hr).2.2.2 w
  · rw [em]
    exact pl_crash a7 hx hUo hUx hrw hgv hcl (fun z hz => ⟨setN_o hz, setN_o hz, setN_o hz⟩) (fun r => by rw [setN_s])
/-- the mail without a node's messages -/
theorem ml_crash (h : MLr n T I J ms) (hn : n ≤ 4) (hx : x < n) (hC : mC I' (lat T (ms.filter (kp x)))) (hR : mR J' (ms.filter (kp x))) (h4 : I' 0 9 4 = I 0 9 4) (h39 : J' 0 60 39 = J 0 60 39) (h7 : I' 0 0 7 = I 0 0 7) (h2 : J' 0 60 2 = J 0 60 2) (h10 : I' 0 10 = I 0 10) (h107 : J' 0 107 = J 0 107) (h108 : ∀ f t, f < 4 → t < 4 → J' 0 108 (4 * f + t) = if f = x ∨ t = x then nI 0 else J 0 108 (4 * f + t)) (h40 : ∀ z, z < n → I' z 40 5 = J' 0 65 z ∧ (J' 0 65 z = nI 0 ∨ J' 0 65 z = nI 1)) (j1 : J' 0 60 1 = J 0 60 1) : MLr n T I' J' (ms.filter (kp x)) := by
  obtain ⟨c0, c1, c2, c3, c4, c5, c6', c7, c8, c9, c10⟩ := h
  refine ⟨hC, hR, by rw [h4, h39]; exact c2, by rw [h7]; exact c3, by rw [h2]; exact c4, c5, by rw [h10, h107]; exact c6', fun f t hf ht => ?_, fun m hm => c8 m (List.mem_filter.mp hm).1, h40, by rw [j1]; exact c10⟩
  rw [h108 f t hf ht]
  by_cases c : f = x ∨ t = x
  · rw [if_pos c]
    have : mxd f t (ms.filter (kp x)) ≤ 0 := mxd_lew _ (fun m hm q1 q2 => by
      have := kp_t.mp (List.mem_filter.mp hm).2
      omega)
    exact ⟨0, rfl, this, by omega⟩
  · rw [if_neg c]
    obtain ⟨ld, d1, d2, d3⟩ := c7 f t hf ht
    have e : mxd f t (ms.filter (kp x)) = mxd f t ms := Nat.le_antisymm (mxd_lew _ (fun m hm q1 q2 => mxd_ge _ (List.mem_filter.mp hm).1 q1 q2)) (mxd_lew _ (fun m hm q1 q2 => mxd_ge _ (List.mem_filter.mpr ⟨hm, kp_t.mpr ⟨by omega, by omega⟩⟩) q1 q2))
    rw [e]
    exact ⟨ld, d1, d2, d3⟩
end CRASH
