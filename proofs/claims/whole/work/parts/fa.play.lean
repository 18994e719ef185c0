
section PLAY
variable {n z : Nat} {jl : List Nat} {D : wS}
/-- the disk, the first j blocks of a journal in their places -/
def pD (z : Nat) (jl : List Nat) (D : wS) (j b i : Nat) : Int32 := if b ∈ jl.take j then D (3 + 24 * z + jl.idxOf b) i else D b i
/-- a valid journal -/
def jok (z : Nat) (jl : List Nat) (D : wS) : Prop := jl.Nodup ∧ jl.length ≤ 16 ∧ (∀ b, b ∈ jl → 128 ≤ b ∧ b < 640) ∧ ∀ k b, jl[k]? = some b → D (2 + 24 * z) k = nI b
theorem pD_lo {j b i : Nat} (h : jok z jl D) (hb : b < 128) : pD z jl D j b i = D b i := if_neg (fun q => by have := (h.2.2.1 b (List.mem_of_mem_take q)).1; omega)
theorem pD_s {j b b' i : Nat} (h : jok z jl D) (hj : jl[j]? = some b) : pD z jl D (j + 1) b' i = if b' = b then D (3 + 24 * z + j) i else pD z jl D j b' i := by
  have hl := (List.getElem?_eq_some_iff.mp hj).1
  have hg := (List.getElem?_eq_some_iff.mp hj).2
  have et : jl.take (j + 1) = jl.take j ++ [b] := by rw [List.take_succ, hj]; rfl
  unfold pD
  rw [et]
  by_cases c : b' = b
  · subst c
    rw [if_pos (by simp), if_pos rfl, idx_of h.1 hj]
  · rw [if_neg c]
    by_cases d : b' ∈ jl.take j
    · rw [if_pos (List.mem_append_left _ d), if_pos d]
    · rw [if_neg (fun q => (List.mem_append.mp q).elim d (fun w => c (List.mem_singleton.mp w))), if_neg d]
theorem rc_lp (hz : z < 4) (h : jok z jl D) : ∀ (q j fu : Nat) (I : am_I), j + q = jl.length → q < fu → (∀ b i, b < 640 → i < 16 → I 0 1 (16 * b + i) = pD z jl D j b i) → ∃ I', bX10_replay_46 n fu (nI (16 * (1 + 24 * z))) (nI jl.length) (nI j) I = some (nI jl.length, I') ∧ (∀ b i, b < 640 → i < 16 → I' 0 1 (16 * b + i) = if b = 1 + 24 * z ∧ i = 2 then nI 0 else pD z jl D jl.length b i) ∧ ∀ a b, ¬ (a = 0 ∧ b = 1) → I' a b = I a b := by
  intro q
  have hl := h.2.1
  induction q with
  | zero =>
    intro j fu I hj hf hP
    obtain ⟨fu, rfl⟩ : ∃ f, fu = f + 1 := ⟨fu - 1, by omega⟩
    obtain rfl : j = jl.length := by omega
    refine ⟨am_up I 0 1 (16 * (1 + 24 * z) + 2) (nI 0), ?_, fun b i hb hi => ?_, fun a b q => z_upj _ _ _ _ _ _ _ q⟩
    · conv => lhs; unfold bX10_replay_46
      dsimp only
      rw [if_pos (by rw [z_le (by omega) (by omega)]; exact Nat.le_refl _), nI_add, am_gd_of (by rw [z_inb (by omega)]; exact decide_eq_true (by omega)), am_lt, z_clamp (by omega)]
    · rw [z_upk]
      by_cases c : b = 1 + 24 * z ∧ i = 2
      · rw [if_pos c, if_pos (by omega)]
      · rw [if_neg c, if_neg (by omega)]; exact hP b i hb hi
  | succ q ih =>
    intro j fu I hj hf hP
    obtain ⟨fu, rfl⟩ : ∃ f, fu = f + 1 := ⟨fu - 1, by omega⟩
    obtain ⟨b, hb⟩ : ∃ b, jl[j]? = some b := ⟨_, List.getElem?_eq_getElem (by omega)⟩
    have hbr := h.2.2.1 b (List.mem_of_getElem? hb)
    have tb : I 0 1 (16 * (2 + 24 * z) + j) = nI b := by rw [hP _ j (by omega) (by omega), pD_lo h (by omega)]; exact h.2.2.2 j b hb
    have cpb : am_cpb (nI (16 * (3 + 24 * z + j))) (nI (16 * b)) (nI 16) 10240 10240 = true := by
      have zz : ∀ k, k < 20000 → ¬ nI k < 0 := fun k hk q => absurd ((z_lt (a := k) (b := 0) (by omega) (by omega)).mp q) (by omega)
      unfold am_cpb
      exact decide_eq_true ⟨zz _ (by omega), zz _ (by omega), zz 16 (by omega), by rw [z_clamp (by omega), z_clamp (by omega)]; omega, by rw [z_clamp (by omega), z_clamp (by omega)]; omega⟩
    have isb : gX10_isBlock n (nI b) I = some (nI 1, I) := by
      rw [gX10_isBlock, bX10_isBlock_0, if_neg (show ¬ nI b < 0 from fun q => absurd ((z_lt (a := b) (b := 0) (by omega) (by omega)).mp q) (by omega)), if_neg (by rw [z_le (by omega) (by omega)]; omega)]
      rfl
    let I1 : am_I := am_upf I 0 1 (va_cpy (I 0 1) (I 0 1) (16 * (3 + 24 * z + j)) (16 * b) 16)
    obtain ⟨I2, r1, r2, r3⟩ := ih (j + 1) fu I1 (by omega) (by omega) (fun b' i hb' hi => by
      show am_upf I 0 1 (va_cpy (I 0 1) (I 0 1) (16 * (3 + 24 * z + j)) (16 * b) 16) 0 1 (16 * b' + i) = _
      rw [z_upfs, pD_s h hb]
      unfold va_cpy
      by_cases c : b' = b
      · rw [if_pos (by omega), if_pos c, show 16 * (3 + 24 * z + j) + (16 * b' + i - 16 * b) = 16 * (3 + 24 * z + j) + i from by omega, hP _ i (by omega) hi, pD_lo h (by omega)]
      · rw [if_neg (by omega), if_neg c]; exact hP b' i hb' hi)
    refine ⟨I2, ?_, r2, fun a b q => (r3 a b q).trans (z_upfj _ _ _ _ _ _ q)⟩
    rw [← r1]
    conv => lhs; unfold bX10_replay_46
    dsimp only
    rw [if_neg (by rw [z_le (by omega) (by omega)]; omega), nI_add, nI_add, show 16 * (1 + 24 * z) + 16 + j = 16 * (2 + 24 * z) + j from by omega, am_gd_of (by rw [z_inb (by omega)]; exact decide_eq_true (by omega)), z_clamp (by omega), tb, isb, Option.bind_some]
    dsimp only
    rw [if_neg n10, nI_add, pk_mul, nI_add, show 16 * (1 + 24 * z) + (2 + j) * 16 = 16 * (3 + 24 * z + j) from by omega, pk_mul, Nat.mul_comm b 16, am_gd_of cpb, am_lt, z_clamp (by omega), z_clamp (by omega), z_clamp (by omega)]
    unfold bX10_replay_101
    rw [nI_add]
theorem rp_66 {k41 : Int32 → Int32 → Int32 → Int32 → am_I → Option (Int32 × am_I)} {b j m : Nat} (hz : z < 4) (hj : j < 16) (hb : 128 ≤ b) (hb6 : b < 640) : ∀ (q i fu : Nat) (J : am_I), i + q = 16 → q < fu → ∃ J', bX11_play_66 n k41 fu (nI z) (nI (1 + 24 * z)) (nI m) (nI j) (nI b) (nI i) J = k41 (nI z) (nI (1 + 24 * z)) (nI m) (nI (j + 1)) J' ∧ (∀ k, J' 0 64 k = if 16 * b + i ≤ k ∧ k < 16 * b + 16 then J 0 64 (16 * (3 + 24 * z + j) + (k - 16 * b)) else J 0 64 k) ∧ ∀ a b, ¬ (a = 0 ∧ b = 64) → J' a b = J a b := by
  intro q
  induction q with
  | zero =>
    intro i fu J hi hf
    obtain ⟨fu, rfl⟩ : ∃ f, fu = f + 1 := ⟨fu - 1, by omega⟩
    refine ⟨J, ?_, fun k => by rw [if_neg (by omega)], fun _ _ _ => rfl⟩
    conv => lhs; unfold bX11_play_66
    dsimp only
    rw [if_pos (by rw [z_le (by omega) (by omega)]; omega), nI_add]
  | succ q ih =>
    intro i fu J hi hf
    obtain ⟨fu, rfl⟩ : ∃ f, fu = f + 1 := ⟨fu - 1, by omega⟩
    obtain ⟨J', e1, e2, e3⟩ := ih (i + 1) fu (am_up J 0 64 (16 * b + i) (J 0 64 (16 * (3 + 24 * z + j) + i))) (by omega) (by omega)
    refine ⟨J', ?_, fun k => ?_, fun a b' q => by rw [e3 a b' q, z_upj _ _ _ _ _ _ _ q]⟩
    · rw [← e1]
      conv => lhs; unfold bX11_play_66
      dsimp only
      rw [if_neg (by rw [z_le (by omega) (by omega)]; omega), nI_add, nI_add, pk_mul, nI_add, show 16 * (1 + 24 * z + 2 + j) + i = 16 * (3 + 24 * z + j) + i from by omega, am_gd_of (by rw [z_inb (by omega)]; exact decide_eq_true (by omega)), pk_mul, nI_add, am_gd_of (by rw [z_inb (by omega)]; exact decide_eq_true (by omega)), am_lt, z_clamp (by omega), z_clamp (by omega), nI_add]
    · rw [e2 k, z_upk, z_upk]
      by_cases e : 16 * b + (i + 1) ≤ k ∧ k < 16 * b + 16
      · rw [if_pos e, if_neg (by omega), if_pos (by omega)]
      · rw [if_neg e]
        by_cases d : k = 16 * b + i
        · rw [if_pos d, if_pos (by omega), d]
          congr 1
          omega
        · rw [if_neg d, if_neg (by omega)]
theorem rr_lp (hz : z < 4) (h : jok z jl D) : ∀ (q j fu : Nat) (J : am_I), j + q = jl.length → q < fu → (∀ b i, b < 640 → i < 16 → J 0 64 (16 * b + i) = pD z jl D j b i) → ∃ J', bX11_play_41 n fu (nI z) (nI (1 + 24 * z)) (nI jl.length) (nI j) J = some (nI jl.length, J') ∧ (∀ b i, b < 640 → i < 16 → J' 0 64 (16 * b + i) = if b = 1 + 24 * z ∧ i = 2 then nI 0 else pD z jl D jl.length b i) ∧ (∀ k, J' 0 66 k = if k = z then nI 0 else J 0 66 k) ∧ ∀ a b, ¬ (a = 0 ∧ (b = 64 ∨ b = 66)) → J' a b = J a b := by
  intro q
  have hl := h.2.1
  obtain ⟨f, hf0, hf1⟩ := fu_ex
  induction q with
  | zero =>
    intro j fu J hj hf hP
    obtain ⟨fu, rfl⟩ : ∃ f, fu = f + 1 := ⟨fu - 1, by omega⟩
    obtain rfl : j = jl.length := by omega
    refine ⟨am_up (am_up J 0 64 (16 * (1 + 24 * z) + 2) (nI 0)) 0 66 z (nI 0), ?_, fun b i hb hi => ?_, fun k => by rw [z_upk, z_upj _ _ _ _ _ _ _ (by omega)], fun a b q => by rw [z_upj _ _ _ _ _ _ _ (by omega), z_upj _ _ _ _ _ _ _ (by omega)]⟩
    · conv => lhs; unfold bX11_play_41
      dsimp only
      rw [if_pos (by rw [z_le (by omega) (by omega)]; exact Nat.le_refl _), pk_mul, nI_add, am_gd_of (by rw [z_inb (by omega)]; exact decide_eq_true (by omega)), am_lt, am_gd_of (by rw [z_inb (by omega)]; exact decide_eq_true hz), am_lt, z_clamp (by omega), z_clamp (by omega)]
    · rw [z_upj _ _ _ _ _ _ _ (by omega), z_upk]
      by_cases c : b = 1 + 24 * z ∧ i = 2
      · rw [if_pos c, if_pos (by omega)]
      · rw [if_neg c, if_neg (by omega)]; exact hP b i hb hi
  | succ q ih =>
    intro j fu J hj hf hP
    obtain ⟨fu, rfl⟩ : ∃ f, fu = f + 1 := ⟨fu - 1, by omega⟩
    obtain ⟨b, hb⟩ : ∃ b, jl[j]? = some b := ⟨_, List.getElem?_eq_getElem (by omega)⟩
    have hbr := h.2.2.1 b (List.mem_of_getElem? hb)
    have tb : J 0 64 (16 * (2 + 24 * z) + j) = nI b := by rw [hP _ j (by omega) (by omega), pD_lo h (by omega)]; exact h.2.2.2 j b hb
    obtain ⟨J1, k1, k2, k3⟩ := rp_66 (n := n) (z := z) (k41 := bX11_play_41 n fu) (b := b) (j := j) (m := jl.length) hz (by omega) hbr.1 hbr.2 16 0 am_fu J (by omega) (by rw [hf0]; omega)
    obtain ⟨J2, r1, r2, r3, r4⟩ := ih (j + 1) fu J1 (by omega) (by omega) (fun b' i hb' hi => by
      rw [k2, pD_s h hb]
      by_cases c : b' = b
      · rw [if_pos (by omega), if_pos c, show 16 * (3 + 24 * z + j) + (16 * b' + i - 16 * b) = 16 * (3 + 24 * z + j) + i from by omega, hP _ i (by omega) hi, pD_lo h (by omega)]
      · rw [if_neg (by omega), if_neg c]; exact hP b' i hb' hi)
    refine ⟨J2, ?_, r2, fun k => by rw [r3 k, k3 0 66 (by omega)], fun a b q => by rw [r4 a b q, k3 a b (by omega)]⟩
    rw [← r1, ← k1]
    conv => lhs; unfold bX11_play_41
    dsimp only
    rw [if_neg (by rw [z_le (by omega) (by omega)]; omega), nI_add, pk_mul, nI_add, show 16 * (1 + 24 * z + 1) + j = 16 * (2 + 24 * z) + j from by omega, am_gd_of (by rw [z_inb (by omega)]; exact decide_eq_true (by omega)), z_clamp (by omega), tb]
/-- a dead node's journal is replayed, both sides -/
theorem p_play {I J : am_I} {fq : Nat} {fw : wS} (hz : z < 4) (hF : FJ z (dD J) [] jl fq fw) (h40 : I z 40 0 = nI z) (h1 : ∀ k, k < 10240 → I 0 1 k = J 0 64 k) (hh : J 0 64 (16 * (1 + 24 * z) + 2) = nI 0 ∨ J 0 64 (16 * (1 + 24 * z) + 2) = nI 1) : ∃ I' J', gX10_replay n z I = some (nI jl.length, I') ∧ gX11_play n (nI z) J = some (nI jl.length, J') ∧ (∀ k, k < 10240 → I' 0 1 k = J' 0 64 k) ∧ (∀ b i, 128 ≤ b → b < 640 → i < 16 → J' 0 64 (16 * b + i) = if b ∈ jl then J 0 64 (16 * (3 + 24 * z + jl.idxOf b) + i) else J 0 64 (16 * b + i)) ∧ (∀ b i, b < 128 → i < 16 → ¬ b = 1 + 24 * z → J' 0 64 (16 * b + i) = J 0 64 (16 * b + i)) ∧ J' 0 64 (16 * (1 + 24 * z) + 2) = nI 0 ∧ (∀ k, J' 0 66 k = if k = z then nI 0 else J 0 66 k) ∧ (∀ a b, ¬ (a = 0 ∧ b = 1) → I' a b = I a b) ∧ ∀ a b, ¬ (a = 0 ∧ (b = 64 ∨ b = 66)) → J' a b = J a b := by
  obtain ⟨-, ⟨f1, f2, f3⟩, f4, f5, -⟩ := hF
  obtain ⟨f, hf0, hf1⟩ := fu_ex
  have hhb : gX10_headBlock n (I z 40 0) I = some (nI (1 + 24 * z), I) := by
    rw [h40, gX10_headBlock, bX10_headBlock_0, pk_mul, nI_add]
  have d2 : dD J (1 + 24 * z) 2 = J 0 64 (16 * (1 + 24 * z) + 2) := rfl
  have d1 : dD J (1 + 24 * z) 1 = J 0 64 (16 * (1 + 24 * z) + 1) := rfl
  have e0 : nI (1 + 24 * z) * nI 16 = nI (16 * (1 + 24 * z)) := by rw [pk_mul, Nat.mul_comm]
  have e1 : nI 16 * (nI 1 + nI 24 * nI z) = nI (16 * (1 + 24 * z)) := by rw [pk_mul, nI_add, pk_mul]
  have e2 : nI 1 + nI 24 * nI z = nI (1 + 24 * z) := by rw [pk_mul, nI_add]
  have g2 : am_inb (nI (16 * (1 + 24 * z) + 2)) 10240 = true := by rw [z_inb (by omega)]; exact decide_eq_true (by omega)
  have g1 : am_inb (nI (16 * (1 + 24 * z) + 1)) 10240 = true := by rw [z_inb (by omega)]; exact decide_eq_true (by omega)
  have hall : ∀ (I' J' : am_I), (∀ b i, b < 640 → i < 16 → I' 0 1 (16 * b + i) = J' 0 64 (16 * b + i)) → ∀ k, k < 10240 → I' 0 1 k = J' 0 64 k := fun I' J' hq k hk => by
    have := hq (k / 16) (k % 16) (by omega) (by omega)
    rw [show 16 * (k / 16) + k % 16 = k from by omega] at this
    exact this
  by_cases c : jl = []
  · -- nothing to replay
    subst c
    have h2 : ¬ J 0 64 (16 * (1 + 24 * z) + 2) = nI 1 := fun q => f4.mp q rfl
    obtain ⟨J', r1, r2, r3, r4⟩ := rr_lp (n := n) (z := z) (jl := []) (D := dD J) hz ⟨f1, f2, f3, fun k b hk => by simp at hk⟩ 0 0 am_fu J rfl (by rw [hf0]; omega) (fun b i hb hi => by unfold pD; rw [if_neg (by simp)]; rfl)
    have r2' : ∀ b i, b < 640 → i < 16 → J' 0 64 (16 * b + i) = if b = 1 + 24 * z ∧ i = 2 then nI 0 else J 0 64 (16 * b + i) := fun b i hb hi => by
      rw [r2 b i hb hi]
      unfold pD
      rw [if_neg (show ¬ b ∈ ([] : List Nat).take ([] : List Nat).length by simp)]
      rfl
    have h20 : J 0 64 (16 * (1 + 24 * z) + 2) = nI 0 := hh.resolve_right h2
    have same : ∀ b i, b < 640 → i < 16 → J' 0 64 (16 * b + i) = J 0 64 (16 * b + i) := fun b i hb hi => by
      rw [r2' b i hb hi]
      by_cases d : b = 1 + 24 * z ∧ i = 2
      · rw [if_pos d, d.1, d.2, h20]
      · rw [if_neg d]
    refine ⟨I, J', ?_, ?_, hall I J' (fun b i hb hi => by rw [same b i hb hi]; exact h1 _ (by omega)), fun b i _ hb hi => by rw [same b i hb hi, if_neg (by simp)], fun b i hb hi _ => same b i (by omega) hi, by rw [same _ 2 (by omega) (by omega)]; exact h20, r3, fun _ _ _ => rfl, r4⟩
    · rw [gX10_replay, bX10_replay_0, hhb, Option.bind_some]
      dsimp only
      rw [e0, nI_add, am_gd_of g2, z_clamp (by omega), if_neg (by rw [h1 _ (by omega)]; exact h2)]
      rfl
    · rw [gX11_play, bX11_play_0, e1, nI_add, am_gd_of g2, z_clamp (by omega), if_neg h2]
      unfold bX11_play_37
      rw [e2]
      exact r1
  · obtain ⟨w1, w2⟩ := f5 c
    have h2 : J 0 64 (16 * (1 + 24 * z) + 2) = nI 1 := f4.mpr c
    have hok : jok z jl (dD J) := ⟨f1, f2, f3, w2⟩
    have p0 : ∀ b i, pD z jl (dD J) 0 b i = J 0 64 (16 * b + i) := fun b i => by unfold pD; rw [List.take_zero, if_neg (by simp)]; rfl
    obtain ⟨J', r1, r2, r3, r4⟩ := rr_lp (n := n) (z := z) hz hok jl.length 0 am_fu J (by omega) (by rw [hf0]; omega) (fun b i hb hi => by rw [p0])
    obtain ⟨I', s1, s2, s3⟩ := rc_lp (n := n) (z := z) hz hok jl.length 0 am_fu I (by omega) (by rw [hf0]; omega) (fun b i hb hi => by rw [p0]; exact h1 _ (by omega))
    have pl : ∀ b i, pD z jl (dD J) jl.length b i = if b ∈ jl then J 0 64 (16 * (3 + 24 * z + jl.idxOf b) + i) else J 0 64 (16 * b + i) := fun b i => by unfold pD; rw [List.take_length]; rfl
    refine ⟨I', J', ?_, ?_, hall I' J' (fun b i hb hi => by rw [s2 b i hb hi, r2 b i hb hi]), fun b i hb hb6 hi => by rw [r2 b i hb6 hi, if_neg (by omega), pl], fun b i hb hi hne => by rw [r2 b i (by omega) hi, if_neg (fun q => hne q.1), pD_lo hok hb]; rfl, by rw [r2 _ 2 (by omega) (by omega), if_pos ⟨rfl, rfl⟩], r3, s3, r4⟩
    · rw [gX10_replay, bX10_replay_0, hhb, Option.bind_some]
      dsimp only
      have i1 : I 0 1 (16 * (1 + 24 * z) + 1) = nI jl.length := by rw [h1 _ (by omega)]; exact w1
      have m16 : (if nI 16 ≤ nI jl.length then nI 16 else nI jl.length) = nI jl.length := by
        by_cases d : jl.length = 16
        · rw [d, if_pos (by decide)]
        · rw [if_neg (by rw [z_le (by omega) (by omega)]; omega)]
      have m0 : (if nI jl.length ≤ nI 0 then nI 0 else nI jl.length) = nI jl.length := by
        by_cases d : jl.length = 0
        · rw [d, if_pos (by decide)]
        · rw [if_neg (by rw [z_le (by omega) (by omega)]; omega)]
      rw [e0, nI_add, am_gd_of g2, z_clamp (by omega), if_pos (by rw [h1 _ (by omega)]; exact h2), nI_add, am_gd_of g1, z_clamp (by omega)]
      simp only [i1, m16, m0]
      exact s1
    · have j1 : J 0 64 (16 * (1 + 24 * z) + 1) = nI jl.length := w1
      rw [gX11_play, bX11_play_0, e1, nI_add, am_gd_of g2, z_clamp (by omega), if_pos h2, nI_add, am_gd_of g1, z_clamp (by omega), j1]
      unfold bX11_play_37
      rw [e2]
      exact r1
end PLAY
