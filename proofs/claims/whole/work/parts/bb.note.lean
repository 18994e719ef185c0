
section NOTE
variable {n x : Nat} {I J : am_I} {e : Nat}
/-- a row of ten -/
def rv (x : Nat) (k0 k1 k2 k3 k4 st vl tm ft : Int32) (c : Nat) : Int32 := match c with
  | 0 => nI x
  | 1 => k0
  | 2 => k1
  | 3 => k2
  | 4 => k3
  | 5 => k4
  | 6 => st
  | 7 => vl
  | 8 => tm
  | _ => ft
theorem c10 {c : Nat} (h : c < 10) : c = 0 ∨ c = 1 ∨ c = 2 ∨ c = 3 ∨ c = 4 ∨ c = 5 ∨ c = 6 ∨ c = 7 ∨ c = 8 ∨ c = 9 := by omega
def wrow (I : am_I) (j b x : Nat) (k0 k1 k2 k3 k4 st vl tm ft : Int32) : am_I := (am_up (am_up (am_up (am_up (am_up (am_up (am_up (am_up (am_up (am_up I 0 j (b) (nI x)) 0 j (b + 1) k0) 0 j (b + 2) k1) 0 j (b + 3) k2) 0 j (b + 4) k3) 0 j (b + 5) k4) 0 j (b + 6) st) 0 j (b + 7) vl) 0 j (b + 8) tm) 0 j (b + 9) ft)
theorem wrow_f {j b : Nat} {k0 k1 k2 k3 k4 st vl tm ft : Int32} {a c : Nat} (h : ¬ (a = 0 ∧ c = j)) : wrow I j b x k0 k1 k2 k3 k4 st vl tm ft a c = I a c := by
  unfold wrow
  rw [z_upj _ _ _ _ _ _ _ h, z_upj _ _ _ _ _ _ _ h, z_upj _ _ _ _ _ _ _ h, z_upj _ _ _ _ _ _ _ h, z_upj _ _ _ _ _ _ _ h, z_upj _ _ _ _ _ _ _ h, z_upj _ _ _ _ _ _ _ h, z_upj _ _ _ _ _ _ _ h, z_upj _ _ _ _ _ _ _ h, z_upj _ _ _ _ _ _ _ h]
theorem wrow_o {j b k : Nat} {k0 k1 k2 k3 k4 st vl tm ft : Int32} (h : ¬ (b ≤ k ∧ k < b + 10)) : wrow I j b x k0 k1 k2 k3 k4 st vl tm ft 0 j k = I 0 j k := by
  unfold wrow
  rw [z_upk, if_neg (by omega), z_upk, if_neg (by omega), z_upk, if_neg (by omega), z_upk, if_neg (by omega), z_upk, if_neg (by omega), z_upk, if_neg (by omega), z_upk, if_neg (by omega), z_upk, if_neg (by omega), z_upk, if_neg (by omega), z_upk, if_neg (by omega)]
theorem wrow_i {j b c : Nat} {k0 k1 k2 k3 k4 st vl tm ft : Int32} (h : c < 10) : wrow I j b x k0 k1 k2 k3 k4 st vl tm ft 0 j (b + c) = rv x k0 k1 k2 k3 k4 st vl tm ft c := by
  unfold wrow
  rcases c10 h with rfl | rfl | rfl | rfl | rfl | rfl | rfl | rfl | rfl | rfl
  · rw [z_upk, if_neg (by omega), z_upk, if_neg (by omega), z_upk, if_neg (by omega), z_upk, if_neg (by omega), z_upk, if_neg (by omega), z_upk, if_neg (by omega), z_upk, if_neg (by omega), z_upk, if_neg (by omega), z_upk, if_neg (by omega), z_upk, if_pos (by omega)]
    rfl
  · rw [z_upk, if_neg (by omega), z_upk, if_neg (by omega), z_upk, if_neg (by omega), z_upk, if_neg (by omega), z_upk, if_neg (by omega), z_upk, if_neg (by omega), z_upk, if_neg (by omega), z_upk, if_neg (by omega), z_upk, if_pos (by omega)]
    rfl
  · rw [z_upk, if_neg (by omega), z_upk, if_neg (by omega), z_upk, if_neg (by omega), z_upk, if_neg (by omega), z_upk, if_neg (by omega), z_upk, if_neg (by omega), z_upk, if_neg (by omega), z_upk, if_pos (by omega)]
    rfl
  · rw [z_upk, if_neg (by omega), z_upk, if_neg (by omega), z_upk, if_neg (by omega), z_upk, if_neg (by omega), z_upk, if_neg (by omega), z_upk, if_neg (by omega), z_upk, if_pos (by omega)]
    rfl
  · rw [z_upk, if_neg (by omega), z_upk, if_neg (by omega), z_upk, if_neg (by omega), z_upk, if_neg (by omega), z_upk, if_neg (by omega), z_upk, if_pos (by omega)]
    rfl
  · rw [z_upk, if_neg (by omega), z_upk, if_neg (by omega), z_upk, if_neg (by omega), z_upk, if_neg (by omega), z_upk, if_pos (by omega)]
    rfl
  · rw [z_upk, if_neg (by omega), z_upk, if_neg (by omega), z_upk, if_neg (by omega), z_upk, if_pos (by omega)]
    rfl
  · rw [z_upk, if_neg (by omega), z_upk, if_neg (by omega), z_upk, if_pos (by omega)]
    rfl
  · rw [z_upk, if_neg (by omega), z_upk, if_pos (by omega)]
    rfl
  · rw [z_upk, if_pos (by omega)]
    rfl
theorem c_enter {k0 k1 k2 k3 k4 st vl tm ft : Int32} (he : e ≤ 190) (h : I 0 13 1 = nI e) (h0 : I x 40 0 = nI x) (a0 : I x 55 0 = k0) (a1 : I x 55 1 = k1) (a2 : I x 55 2 = k2) (a3 : I x 55 3 = k3) (a4 : I x 55 4 = k4) (a5 : I x 55 5 = st) (a6 : I x 55 6 = vl) : gX0_enter n x tm ft I = some (am_up (wrow I 14 (e * 10) x k0 k1 k2 k3 k4 st vl tm ft) 0 13 1 (nI (e + 1))) := by
  have hle : ¬ nI 400 ≤ nI e := by rw [z_le (by decide) (by omega)]; omega
  have g0 : e * 10 < 4000 := by omega
  have g1 : e * 10 + 1 < 4000 := by omega
  have g2 : e * 10 + 2 < 4000 := by omega
  have g3 : e * 10 + 3 < 4000 := by omega
  have g4 : e * 10 + 4 < 4000 := by omega
  have g5 : e * 10 + 5 < 4000 := by omega
  have g6 : e * 10 + 6 < 4000 := by omega
  have g7 : e * 10 + 7 < 4000 := by omega
  have g8 : e * 10 + 8 < 4000 := by omega
  have g9 : e * 10 + 9 < 4000 := by omega
  simp (disch := omega) only [gX0_enter, bX0_enter_0, bX0_enter_158, h, hle, if_false, pk_mul, nI_add, z_inb, g0, g1, g2, g3, g4, g5, g6, g7, g8, g9, decide_true, z_gdt, z_clamp, am_lt, z_upj, h0, a0, a1, a2, a3, a4, a5, a6, wrow]
theorem r_note {k0 k1 k2 k3 k4 st vl tm ft : Int32} (hx : x < 4) (he : e ≤ 190) (h : J 0 60 63 = nI e) (a0 : J 0 82 x = k0) (a1 : J 0 83 x = k1) (a2 : J 0 84 x = k2) (a3 : J 0 85 x = k3) (a4 : J 0 86 x = k4) (a5 : J 0 60 2 = tm) : gX11_note n (nI x) st vl ft J = some (am_up (am_up (wrow J 125 (10 * e) x k0 k1 k2 k3 k4 st vl tm ft) 0 126 e (nI 0)) 0 60 63 (nI (e + 1))) := by
  have hne : ¬ nI e = nI 400 := by rw [z_eq (by omega) (by decide)]; omega
  have g : e < 400 := by omega
  have g0 : 10 * e < 4000 := by omega
  have g1 : 10 * e + 1 < 4000 := by omega
  have g2 : 10 * e + 2 < 4000 := by omega
  have g3 : 10 * e + 3 < 4000 := by omega
  have g4 : 10 * e + 4 < 4000 := by omega
  have g5 : 10 * e + 5 < 4000 := by omega
  have g6 : 10 * e + 6 < 4000 := by omega
  have g7 : 10 * e + 7 < 4000 := by omega
  have g8 : 10 * e + 8 < 4000 := by omega
  have g9 : 10 * e + 9 < 4000 := by omega
  simp (disch := omega) only [gX11_note, bX11_note_0, h, hne, if_false, pk_mul, nI_add, z_inb, hx, g, g0, g1, g2, g3, g4, g5, g6, g7, g8, g9, decide_true, z_gdt, z_clamp, am_lt, z_upj, a0, a1, a2, a3, a4, a5, wrow]
/-- a call is entered -/
theorem p_note {tm st vl ft : Int32} (hx : x < 4) (he : e < 190) (h : BKr I J e) (h0 : I x 40 0 = nI x) (ht : J 0 60 2 = tm) (hc : ∀ c, c < 5 → I x 55 c = J 0 (82 + c) x) (a5 : I x 55 5 = st) (a6 : I x 55 6 = vl) : ∃ I' J', gX0_enter n x tm ft I = some I' ∧ gX11_note n (nI x) st vl ft J = some J' ∧ BKr I' (am_up J' 0 60 49 (nI (e + 1))) (e + 1) ∧ (∀ k, k < e → J' 0 125 (10 * k) = J 0 125 (10 * k) ∧ J' 0 125 (10 * k + 9) = J 0 125 (10 * k + 9) ∧ J' 0 126 k = J 0 126 k) ∧ J' 0 125 (10 * e) = nI x ∧ J' 0 125 (10 * e + 9) = ft ∧ J' 0 126 e = nI 0 ∧ (∀ a b, ¬ (a = 0 ∧ (b = 13 ∨ b = 14)) → I' a b = I a b) ∧ (∀ a b, ¬ (a = 0 ∧ (b = 125 ∨ b = 126 ∨ b = 60)) → J' a b = J a b) ∧ (∀ k, ¬ k = 63 → J' 0 60 k = J 0 60 k) := by
  obtain ⟨h1, h2, h3, h4, h5, h6⟩ := h
  have e1 := c_enter (n := n) (tm := tm) (ft := ft) (by omega) h2 h0 (hc 0 (by omega)) (hc 1 (by omega)) (hc 2 (by omega)) (hc 3 (by omega)) (hc 4 (by omega)) a5 a6
  have e2 := r_note (n := n) (st := st) (vl := vl) (ft := ft) hx (by omega) h4 (rfl : J 0 82 x = J 0 (82 + 0) x) (rfl : J 0 83 x = J 0 (82 + 1) x) (rfl : J 0 84 x = J 0 (82 + 2) x) (rfl : J 0 85 x = J 0 (82 + 3) x) (rfl : J 0 86 x = J 0 (82 + 4) x) ht
  refine ⟨_, _, e1, e2, ⟨by omega, ?_, ?_, ?_, fun k hk => ?_, fun k hk => ⟨?_, ?_⟩⟩, fun k hk => ⟨?_, ?_, ?_⟩, ?_, ?_, ?_, fun a b q => ?_, fun a b q => ?_, fun k q => ?_⟩
  · rw [z_upk, if_pos rfl]
  · rw [z_upk, if_pos rfl]
  · rw [z_upk, if_neg (by decide), z_upk, if_pos rfl]
  · rw [z_upj _ _ _ _ _ _ _ (by omega), z_upj _ _ _ _ _ _ _ (by omega), z_upj _ _ _ _ _ _ _ (by omega), z_upj _ _ _ _ _ _ _ (by omega)]
    by_cases q : k < 10 * e
    · rw [wrow_o (by omega), wrow_o (by omega)]
      exact h5 k q
    · have a := wrow_i (I := I) (x := x) (j := 14) (b := e * 10) (c := k - 10 * e) (k0 := J 0 (82 + 0) x) (k1 := J 0 (82 + 1) x) (k2 := J 0 (82 + 2) x) (k3 := J 0 (82 + 3) x) (k4 := J 0 (82 + 4) x) (st := st) (vl := vl) (tm := tm) (ft := ft) (by omega)
      have b := wrow_i (I := J) (x := x) (j := 125) (b := 10 * e) (c := k - 10 * e) (k0 := J 0 (82 + 0) x) (k1 := J 0 (82 + 1) x) (k2 := J 0 (82 + 2) x) (k3 := J 0 (82 + 3) x) (k4 := J 0 (82 + 4) x) (st := st) (vl := vl) (tm := tm) (ft := ft) (by omega)
      rw [show e * 10 + (k - 10 * e) = k from by omega] at a
      rw [show 10 * e + (k - 10 * e) = k from by omega] at b
      rw [a, b]
  · rw [z_upj _ _ _ _ _ _ _ (by omega), z_upj _ _ _ _ _ _ _ (by omega), z_upj _ _ _ _ _ _ _ (by omega)]
    by_cases q : k < e
    · rw [wrow_o (by omega)]
      exact (h6 k q).1
    · obtain rfl : k = e := by omega
      have b := wrow_i (I := J) (x := x) (j := 125) (b := 10 * k) (c := 0) (k0 := J 0 (82 + 0) x) (k1 := J 0 (82 + 1) x) (k2 := J 0 (82 + 2) x) (k3 := J 0 (82 + 3) x) (k4 := J 0 (82 + 4) x) (st := st) (vl := vl) (tm := tm) (ft := ft) (by omega)
      exact ⟨x, hx, b⟩
  · rw [z_upj _ _ _ _ _ _ _ (by omega), z_upj _ _ _ _ _ _ _ (by omega), z_upk]
    by_cases q : k = e
    · rw [if_pos q]; exact Or.inl rfl
    · rw [if_neg q, wrow_f (by omega)]
      exact (h6 k (by omega)).2
  · rw [z_upj _ _ _ _ _ _ _ (by omega), z_upj _ _ _ _ _ _ _ (by omega), wrow_o (by omega)]
  · rw [z_upj _ _ _ _ _ _ _ (by omega), z_upj _ _ _ _ _ _ _ (by omega), wrow_o (by omega)]
  · rw [z_upj _ _ _ _ _ _ _ (by omega), z_upk, if_neg (by omega), wrow_f (by omega)]
  · rw [z_upj _ _ _ _ _ _ _ (by omega), z_upj _ _ _ _ _ _ _ (by omega)]
    exact wrow_i (c := 0) (by omega)
  · rw [z_upj _ _ _ _ _ _ _ (by omega), z_upj _ _ _ _ _ _ _ (by omega)]
    exact wrow_i (c := 9) (by omega)
  · rw [z_upj _ _ _ _ _ _ _ (by omega), z_upk, if_pos rfl]
  · rw [z_upj _ _ _ _ _ _ _ (by omega), wrow_f (by omega)]
  · rw [z_upj _ _ _ _ _ _ _ (by omega), z_upj _ _ _ _ _ _ _ (by omega), wrow_f (by omega)]
  · rw [z_upk, if_neg q, z_upj _ _ _ _ _ _ _ (by omega), wrow_f (by omega)]
end NOTE
