
section DARK
variable {n x : Nat}
/-- what a node that is down has, in the reference -/
def nnJ (x : Nat) (J J' : am_I) : Prop := (∀ k, J' 0 68 k = if 640 * x ≤ k ∧ k < 640 * x + 640 then nI 0 else J 0 68 k) ∧ (∀ k, J' 0 69 k = if 640 * x ≤ k ∧ k < 640 * x + 640 then nI 0 else J 0 69 k) ∧ (∀ j k, j = 70 ∨ j = 72 ∨ j = 73 ∨ j = 93 → J' 0 j k = if k = x then nI 0 else J 0 j k)
  ∧ (∀ j k, j = 76 ∨ j = 77 ∨ j = 79 ∨ j = 80 → J' 0 j k = if 136 * x ≤ k ∧ k < 136 * x + 136 then nI 0 else J 0 j k) ∧ (∀ k, J' 0 78 k = if 136 * x ≤ k ∧ k < 136 * x + 136 then (-1 : Int32) else J 0 78 k)
  ∧ ∀ a b, ¬ (a = 0 ∧ (b = 68 ∨ b = 69 ∨ b = 70 ∨ b = 72 ∨ b = 73 ∨ b = 93 ∨ (76 ≤ b ∧ b ≤ 80))) → J' a b = J a b
theorem nn_l2 (hx : x < 4) : ∀ (q r fu : Nat) (J : am_I), r + q = 136 → q < fu → ∃ J', bX11_noneOf_71 n fu (nI x) (nI r) J = some J' ∧ (∀ j k, j = 76 ∨ j = 77 ∨ j = 79 ∨ j = 80 → J' 0 j k = if 136 * x + r ≤ k ∧ k < 136 * x + 136 then nI 0 else J 0 j k) ∧ (∀ k, J' 0 78 k = if 136 * x + r ≤ k ∧ k < 136 * x + 136 then (-1 : Int32) else J 0 78 k) ∧ ∀ a b, ¬ (a = 0 ∧ (76 ≤ b ∧ b ≤ 80)) → J' a b = J a b := by
  intro q
  induction q with
  | zero =>
    intro r fu J hr hf
    obtain ⟨fu, rfl⟩ : ∃ f, fu = f + 1 := ⟨fu - 1, by omega⟩
    refine ⟨J, ?_, fun j k _ => by rw [if_neg (by omega)], fun k => by rw [if_neg (by omega)], fun _ _ _ => rfl⟩
    conv => lhs; unfold bX11_noneOf_71
    dsimp only
    rw [if_pos (by rw [z_le (by omega) (by omega)]; omega)]
  | succ q ih =>
    intro r fu J hr hf
    obtain ⟨fu, rfl⟩ : ∃ f, fu = f + 1 := ⟨fu - 1, by omega⟩
    have g : am_inb (nI (136 * x + r)) 544 = true := by rw [z_inb (by omega)]; exact decide_eq_true (by omega)
    have k0 : (nI (136 * x + r)).toNatClampNeg = 136 * x + r := z_clamp (by omega)
    obtain ⟨J', e1, e2, e3, e4⟩ := ih (r + 1) fu (am_up (am_up (am_up (am_up (am_up J 0 76 (136 * x + r) (nI 0)) 0 77 (136 * x + r) (nI 0)) 0 78 (136 * x + r) (-1 : Int32)) 0 79 (136 * x + r) (nI 0)) 0 80 (136 * x + r) (nI 0)) (by omega) (by omega)
    refine ⟨J', ?_, fun j k hj => ?_, fun k => ?_, fun a b q => ?_⟩
    · rw [← e1]
      conv => lhs; unfold bX11_noneOf_71
      dsimp only
      rw [if_neg (by rw [z_le (by omega) (by omega)]; omega), gX11_at, bX11_at_0, Option.bind_some, pk_mul, nI_add]
      dsimp only
      rw [am_gd_of g, am_lt, am_gd_of g, am_lt, am_gd_of g, am_lt, am_gd_of g, am_lt, am_gd_of g, am_lt, k0, nI_add]
    · rw [e2 j k hj]
      have : (am_up (am_up (am_up (am_up (am_up J 0 76 (136 * x + r) (nI 0)) 0 77 (136 * x + r) (nI 0)) 0 78 (136 * x + r) (-1 : Int32)) 0 79 (136 * x + r) (nI 0)) 0 80 (136 * x + r) (nI 0)) 0 j k = if k = 136 * x + r then nI 0 else J 0 j k := by
        rcases hj with rfl | rfl | rfl | rfl <;> simp (disch := omega) only [z_upj, z_upk]
      rw [this]
      by_cases e : 136 * x + (r + 1) ≤ k ∧ k < 136 * x + 136
      · rw [if_pos e, if_pos (by omega)]
      · rw [if_neg e]
        by_cases d : k = 136 * x + r
        · rw [if_pos d, if_pos (by omega)]
        · rw [if_neg d, if_neg (by omega)]
    · rw [e3 k]
      have : (am_up (am_up (am_up (am_up (am_up J 0 76 (136 * x + r) (nI 0)) 0 77 (136 * x + r) (nI 0)) 0 78 (136 * x + r) (-1 : Int32)) 0 79 (136 * x + r) (nI 0)) 0 80 (136 * x + r) (nI 0)) 0 78 k = if k = 136 * x + r then (-1 : Int32) else J 0 78 k := by
        simp (disch := omega) only [z_upj, z_upk]
      rw [this]
      by_cases e : 136 * x + (r + 1) ≤ k ∧ k < 136 * x + 136
      · rw [if_pos e, if_pos (by omega)]
      · rw [if_neg e]
        by_cases d : k = 136 * x + r
        · rw [if_pos d, if_pos (by omega)]
        · rw [if_neg d, if_neg (by omega)]
    · rw [e4 a b q]
      simp (disch := omega) only [z_upj]
theorem nn_l1 (hx : x < 4) : ∀ (q b fu : Nat) (J : am_I), b + q = 640 → q < fu → ∃ J', bX11_noneOf_2 n fu (nI x) (nI b) J = bX11_noneOf_71 n am_fu (nI x) (nI 0) J' ∧ (∀ k, J' 0 68 k = if 640 * x + b ≤ k ∧ k < 640 * x + 640 then nI 0 else J 0 68 k) ∧ (∀ k, J' 0 69 k = if 640 * x + b ≤ k ∧ k < 640 * x + 640 then nI 0 else J 0 69 k) ∧ (∀ j k, j = 70 ∨ j = 72 ∨ j = 73 ∨ j = 93 → J' 0 j k = if k = x then nI 0 else J 0 j k) ∧ ∀ a b, ¬ (a = 0 ∧ (b = 68 ∨ b = 69 ∨ b = 70 ∨ b = 72 ∨ b = 73 ∨ b = 93)) → J' a b = J a b := by
  intro q
  have gx : am_inb (nI x) 4 = true := by rw [z_inb (by omega)]; exact decide_eq_true hx
  have kx : (nI x).toNatClampNeg = x := z_clamp (by omega)
  induction q with
  | zero =>
    intro b fu J hb hf
    obtain ⟨fu, rfl⟩ : ∃ f, fu = f + 1 := ⟨fu - 1, by omega⟩
    refine ⟨(am_up (am_up (am_up (am_up J 0 70 x (nI 0)) 0 72 x (nI 0)) 0 73 x (nI 0)) 0 93 x (nI 0)), ?_, fun k => ?_, fun k => ?_, fun j k hj => ?_, fun a b' q => ?_⟩
    · conv => lhs; unfold bX11_noneOf_2
      dsimp only
      rw [if_pos (by rw [z_le (by omega) (by omega)]; omega), am_gd_of gx, am_lt, am_gd_of gx, am_lt, am_gd_of gx, am_lt, am_gd_of gx, am_lt, kx]
    · rw [if_neg (by omega)]; simp (disch := omega) only [z_upj]
    · rw [if_neg (by omega)]; simp (disch := omega) only [z_upj]
    · rcases hj with rfl | rfl | rfl | rfl <;> simp (disch := omega) only [z_upj, z_upk]
    · simp (disch := omega) only [z_upj]
  | succ q ih =>
    intro b fu J hb hf
    obtain ⟨fu, rfl⟩ : ∃ f, fu = f + 1 := ⟨fu - 1, by omega⟩
    have g : am_inb (nI (640 * x + b)) 2560 = true := by rw [z_inb (by omega)]; exact decide_eq_true (by omega)
    have k0 : (nI (640 * x + b)).toNatClampNeg = 640 * x + b := z_clamp (by omega)
    obtain ⟨J', e1, e2, e3, e4, e5⟩ := ih (b + 1) fu (am_up (am_up J 0 68 (640 * x + b) (nI 0)) 0 69 (640 * x + b) (nI 0)) (by omega) (by omega)
    refine ⟨J', ?_, fun k => ?_, fun k => ?_, fun j k hj => ?_, fun a b' q => ?_⟩
    · rw [← e1]
      conv => lhs; unfold bX11_noneOf_2
      dsimp only
      rw [if_neg (by rw [z_le (by omega) (by omega)]; omega), pk_mul, nI_add, am_gd_of g, am_lt, am_gd_of g, am_lt, k0, nI_add]
    · rw [e2 k]
      simp (disch := omega) only [z_upj, z_upk]
      by_cases e : 640 * x + (b + 1) ≤ k ∧ k < 640 * x + 640
      · rw [if_pos e, if_pos (by omega)]
      · rw [if_neg e]
        by_cases d : k = 640 * x + b
        · rw [if_pos d, if_pos (by omega)]
        · rw [if_neg d, if_neg (by omega)]
    · rw [e3 k]
      simp (disch := omega) only [z_upj, z_upk]
      by_cases e : 640 * x + (b + 1) ≤ k ∧ k < 640 * x + 640
      · rw [if_pos e, if_pos (by omega)]
      · rw [if_neg e]
        by_cases d : k = 640 * x + b
        · rw [if_pos d, if_pos (by omega)]
        · rw [if_neg d, if_neg (by omega)]
    · rw [e4 j k hj]
      rcases hj with rfl | rfl | rfl | rfl <;> simp (disch := omega) only [z_upj]
    · rw [e5 a b' q]
      simp (disch := omega) only [z_upj]
/-- the reference: a node has nothing -/
theorem r_none {J : am_I} (hx : x < 4) : ∃ J', gX11_noneOf n (nI x) J = some J' ∧ nnJ x J J' := by
  obtain ⟨f, hf, hf1⟩ := fu_ex
  obtain ⟨J1, e1, e2, e3, e4, e5⟩ := nn_l1 (n := n) hx 640 0 am_fu J (by omega) (by rw [hf]; omega)
  obtain ⟨J2, d1, d2, d3, d4⟩ := nn_l2 (n := n) hx 136 0 am_fu J1 (by omega) (by rw [hf]; omega)
  rw [Nat.add_zero] at e2 e3 d2 d3
  refine ⟨J2, by rw [gX11_noneOf, bX11_noneOf_0, e1]; exact d1, fun k => by rw [d4 0 68 (by omega)]; exact e2 k, fun k => by rw [d4 0 69 (by omega)]; exact e3 k, fun j k hj => by rw [d4 0 j (by omega)]; exact e4 j k hj, fun j k hj => by rw [d2 j k hj, e5 0 j (by omega)], fun k => by rw [d3 k, e5 0 78 (by omega)], fun a b q => by rw [d4 a b (by omega), e5 a b (by omega)]⟩
/-- what a node that is down has, in the class -/
def nnI (x : Nat) (I I' : am_I) : Prop := (∀ k, I' x 40 k = if k = 5 then nI 0 else I x 40 k) ∧ I' x 41 2 = nI 0 ∧ (∀ b, b < 640 → I' x 43 b = nI 0) ∧ I' x 44 2 = nI 0 ∧ I' x 44 5 = nI 0 ∧ I' x 44 7 = nI 0 ∧ I' x 44 0 = I x 44 0 ∧ I' x 48 6 = nI 0 ∧ (∀ r, r < 136 → I' x 49 r = nI 0 ∧ I' x 50 r = nI 0 ∧ I' x 51 r = (-1 : Int32) ∧ I' x 52 r = nI 0 ∧ I' x 54 r = nI 0)
  ∧ ∀ a b, ¬ (a = x ∧ (b = 40 ∨ b = 41 ∨ b = 43 ∨ b = 44 ∨ (48 ≤ b ∧ b ≤ 52) ∨ b = 54)) → I' a b = I a b
theorem cwp_lp : ∀ (q b fu : Nat) (I : am_I), b + q = 640 → q < fu → ∃ I', bX1_wipe_2 n fu x (nI b) I = some I' ∧ (∀ k, I' x 43 k = if b ≤ k ∧ k < 640 then nI 0 else I x 43 k) ∧ I' x 41 2 = nI 0 ∧ ∀ a b, ¬ (a = x ∧ (b = 41 ∨ b = 43)) → I' a b = I a b := by
  intro q
  induction q with
  | zero =>
    intro b fu I hb hf
    obtain ⟨fu, rfl⟩ : ∃ f, fu = f + 1 := ⟨fu - 1, by omega⟩
    refine ⟨am_up I x 41 2 (nI 0), ?_, fun k => by rw [if_neg (by omega), z_upj _ _ _ _ _ _ _ (by omega)], by rw [z_upk, if_pos rfl], fun a b q => z_upj _ _ _ _ _ _ _ (by omega)⟩
    conv => lhs; unfold bX1_wipe_2
    dsimp only
    rw [if_pos (by rw [z_le (by omega) (by omega)]; omega), am_lt]
  | succ q ih =>
    intro b fu I hb hf
    obtain ⟨fu, rfl⟩ : ∃ f, fu = f + 1 := ⟨fu - 1, by omega⟩
    obtain ⟨I', e1, e2, e3, e4⟩ := ih (b + 1) fu (am_up I x 43 b (nI 0)) (by omega) (by omega)
    refine ⟨I', ?_, fun k => ?_, e3, fun a b' q => by rw [e4 a b' q, z_upj _ _ _ _ _ _ _ (by omega)]⟩
    · rw [← e1]
      conv => lhs; unfold bX1_wipe_2
      dsimp only
      rw [if_neg (by rw [z_le (by omega) (by omega)]; omega), am_gd_of (by rw [z_inb (by omega)]; exact decide_eq_true (by omega)), am_lt, z_clamp (by omega), nI_add]
    · rw [e2 k, z_upk]
      by_cases e : b + 1 ≤ k ∧ k < 640
      · rw [if_pos e, if_pos (by omega)]
      · rw [if_neg e]
        by_cases d : k = b
        · rw [if_pos d, if_pos (by omega)]
        · rw [if_neg d, if_neg (by omega)]
theorem lw_lp : ∀ (q r fu : Nat) (I : am_I), r + q = 136 → q < fu → ∃ I', bX4_wipe_26 n fu x (nI r) I = some I' ∧ (∀ k, I' x 52 k = if r ≤ k ∧ k < 136 then nI 0 else I x 52 k) ∧ I' x 48 6 = nI 0 ∧ (∀ k, k < 136 → I' x 54 k = nI 0) ∧ ∀ a b, ¬ (a = x ∧ (b = 48 ∨ b = 52 ∨ b = 54)) → I' a b = I a b := by
  intro q
  induction q with
  | zero =>
    intro r fu I hr hf
    obtain ⟨fu, rfl⟩ : ∃ f, fu = f + 1 := ⟨fu - 1, by omega⟩
    refine ⟨am_up (am_upf I x 54 (am_fil (I x 54) 136 (nI 0))) x 48 6 (nI 0), ?_, fun k => by rw [if_neg (by omega), z_upj _ _ _ _ _ _ _ (by omega), z_upfj _ _ _ _ _ _ (by omega)], by rw [z_upk, if_pos rfl], fun k hk => ?_, fun a b q => by rw [z_upj _ _ _ _ _ _ _ (by omega), z_upfj _ _ _ _ _ _ (by omega)]⟩
    · conv => lhs; unfold bX4_wipe_26
      dsimp only
      rw [if_pos (by rw [z_le (by omega) (by omega)]; omega), gX4_clearList, bX4_clearList_0, am_lt, am_lt, Option.bind_some]
    · rw [z_upj _ _ _ _ _ _ _ (by omega), z_upfs]
      exact if_pos hk
  | succ q ih =>
    intro r fu I hr hf
    obtain ⟨fu, rfl⟩ : ∃ f, fu = f + 1 := ⟨fu - 1, by omega⟩
    obtain ⟨I', e1, e2, e3, e4, e5⟩ := ih (r + 1) fu (am_up I x 52 r (nI 0)) (by omega) (by omega)
    refine ⟨I', ?_, fun k => ?_, e3, e4, fun a b' q => by rw [e5 a b' q, z_upj _ _ _ _ _ _ _ (by omega)]⟩
    · rw [← e1]
      conv => lhs; unfold bX4_wipe_26
      dsimp only
      rw [if_neg (by rw [z_le (by omega) (by omega)]; omega), am_gd_of (by rw [z_inb (by omega)]; exact decide_eq_true (by omega)), am_lt, z_clamp (by omega), nI_add]
    · rw [e2 k, z_upk]
      by_cases e : r + 1 ≤ k ∧ k < 136
      · rw [if_pos e, if_pos (by omega)]
      · rw [if_neg e]
        by_cases d : k = r
        · rw [if_pos d, if_pos (by omega)]
        · rw [if_neg d, if_neg (by omega)]
/-- the class: a node goes dark -/
theorem c_dark {I : am_I} : ∃ I', gX7_goDark n x I = some I' ∧ nnI x I I' := by
  obtain ⟨f, hf, hf1⟩ := fu_ex
  obtain ⟨I1, a1, a2, a3, a4⟩ := cwp_lp (n := n) (x := x) 640 0 am_fu (am_up I x 40 5 (nI 0)) (by omega) (by rw [hf]; omega)
  let I2 : am_I := am_up (am_up (am_up I1 x 44 2 (nI 0)) x 44 5 (nI 0)) x 44 7 (nI 0)
  have o2 : ∀ a b, ¬ (a = x ∧ b = 44) → I2 a b = I1 a b := fun a b q => (z_upj _ _ _ _ _ _ _ q).trans ((z_upj _ _ _ _ _ _ _ q).trans (z_upj _ _ _ _ _ _ _ q))
  have k2 : ∀ k, I2 x 44 k = if k = 7 then nI 0 else if k = 5 then nI 0 else if k = 2 then nI 0 else I1 x 44 k := fun k => by
    show am_up (am_up (am_up I1 x 44 2 (nI 0)) x 44 5 (nI 0)) x 44 7 (nI 0) x 44 k = _
    rw [z_upk, z_upk, z_upk]
  let I3 : am_I := am_upf (am_upf (am_upf I2 x 49 (am_fil (I2 x 49) 136 (nI 0))) x 50 (am_fil ((am_upf I2 x 49 (am_fil (I2 x 49) 136 (nI 0))) x 50) 136 (nI 0))) x 51 (am_fil ((am_upf (am_upf I2 x 49 (am_fil (I2 x 49) 136 (nI 0))) x 50 (am_fil ((am_upf I2 x 49 (am_fil (I2 x 49) 136 (nI 0))) x 50) 136 (nI 0))) x 51) 136 (-1 : Int32))
  have o3 : ∀ a b, ¬ (a = x ∧ 49 ≤ b ∧ b ≤ 51) → I3 a b = I2 a b := fun a b q => (z_upfj _ _ _ _ _ _ (by omega)).trans ((z_upfj _ _ _ _ _ _ (by omega)).trans (z_upfj _ _ _ _ _ _ (by omega)))
  have k49 : ∀ r, r < 136 → I3 x 49 r = nI 0 := fun r hr => by
    show am_upf (am_upf (am_upf I2 x 49 _) x 50 _) x 51 _ x 49 r = _
    rw [z_upfj _ _ _ _ _ _ (by omega), z_upfj _ _ _ _ _ _ (by omega), z_upfs]
    exact if_pos hr
  have k50 : ∀ r, r < 136 → I3 x 50 r = nI 0 := fun r hr => by
    show am_upf (am_upf (am_upf I2 x 49 _) x 50 _) x 51 _ x 50 r = _
    rw [z_upfj _ _ _ _ _ _ (by omega), z_upfs]
    exact if_pos hr
  have k51 : ∀ r, r < 136 → I3 x 51 r = (-1 : Int32) := fun r hr => by
    show am_upf (am_upf (am_upf I2 x 49 _) x 50 _) x 51 _ x 51 r = _
    rw [z_upfs]
    exact if_pos hr
  obtain ⟨I4, b1, b2, b3, b4, b5⟩ := lw_lp (n := n) (x := x) 136 0 am_fu I3 (by omega) (by rw [hf]; omega)
  have i40 : I4 x 40 = am_up I x 40 5 (nI 0) x 40 := by rw [b5 x 40 (by omega), o3 x 40 (by omega), o2 x 40 (by omega), a4 x 40 (by omega)]
  have i44 : ∀ k, I4 x 44 k = if k = 7 then nI 0 else if k = 5 then nI 0 else if k = 2 then nI 0 else I1 x 44 k := fun k => by rw [b5 x 44 (by omega), o3 x 44 (by omega)]; exact k2 k
  refine ⟨I4, ?_, fun k => by rw [i40, z_upk], by rw [b5 x 41 (by omega), o3 x 41 (by omega), o2 x 41 (by omega)]; exact a3, fun b hb => by rw [b5 x 43 (by omega), o3 x 43 (by omega), o2 x 43 (by omega), a2, if_pos (by omega)], by rw [i44, if_neg (by omega), if_neg (by omega), if_pos rfl], by rw [i44, if_neg (by omega), if_pos rfl], by rw [i44, if_pos rfl], by rw [i44, if_neg (by omega), if_neg (by omega), if_neg (by omega), a4 x 44 (by omega), z_upj _ _ _ _ _ _ _ (by omega)], b3, fun r hr => ⟨by rw [b5 x 49 (by omega)]; exact k49 r hr, by rw [b5 x 50 (by omega)]; exact k50 r hr, by rw [b5 x 51 (by omega)]; exact k51 r hr, by rw [b2, if_pos (by omega)], b4 r hr⟩, fun a b q => ?_⟩
  · rw [gX7_goDark, bX7_goDark_0, am_lt, gX1_wipe, bX1_wipe_0, a1, Option.bind_some, gX3_wipe, bX3_wipe_0, am_lt, am_lt, am_lt, Option.bind_some, gX4_wipe, bX4_wipe_0, am_lt, am_lt, am_lt]
    rw [show bX4_wipe_26 n am_fu x (nI 0) _ = some I4 from b1, Option.bind_some]
  · rw [b5 a b (by omega), o3 a b (by omega), o2 a b (by omega), a4 a b (by omega), z_upj _ _ _ _ _ _ _ (by omega)]
end DARK
