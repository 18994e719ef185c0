
theorem z_bit1 {m : Nat} (x : Int32) (hm : m < 32) : ((x >>> (nI m &&& 31)) &&& nI 1 = nI 1) ↔ bt x m = true := by
  constructor
  · intro h
    cases q : bt x m with
    | true => rfl
    | false =>
      have := (z_bit0 x hm).mpr q
      rw [h] at this
      exact absurd this (by decide)
  · intro h
    refine b_ext (fun i hi => ?_)
    rw [b_and, b_1]
    by_cases e : i = 0
    · subst e
      rw [b_sshr m hm x hi, if_pos (by omega), Nat.add_zero, h]
      rfl
    · rw [decide_eq_false e, Bool.and_false]
/-- a map that is wrong: an inode's bit, a block's bit -/
def wI (S : wS) (g i : Nat) : Prop := ¬ (bt (S (w_mp g) 0) i = true ↔ ¬ S (w_ib (16 * g + i)) 0 = nI 0)
def wB (S : wS) (g d : Nat) : Prop := ¬ (bt (S (w_mp g) (1 + d / 32)) (d % 32) = true ↔ MB S 128 0 (145 + 64 * g + d))
section MAPS
variable {n : Nat} {S : wS} {I J : am_I}
/-- an accumulating flag -/
def acc (r r' : Nat) (p : Prop) : Prop := r' ≤ 1 ∧ (r' = 1 ↔ r = 1 ∨ p)
theorem acc_0 {r : Nat} {p : Prop} (hr : r ≤ 1) (hp : ¬ p) : acc r r p := ⟨hr, Or.inl, fun q => q.resolve_right hp⟩
theorem acc_1 {r : Nat} {p : Prop} (hp : r = 1 ∨ p) : acc r 1 p := ⟨by omega, fun _ => hp, fun _ => rfl⟩
theorem acc_n {r r' : Nat} {p : Prop} (h : acc r r' p) : r' ≤ 1 := h.1
/-- an inode's bit, the reference -/
theorem a_12 {k4 : Int32 → Int32 → am_I → Option (Int32 × am_I)} {fu r g i : Nat} (hs : SV S I J) (hr : r ≤ 1) (hg : g < 8) (hi : i < 16) : ∃ r', acc r r' (wI S g i) ∧ bX11_areMapsWrong_12 n k4 (fu + 1) (nI r) (nI g) (nI i) J = bX11_areMapsWrong_12 n k4 fu (nI r') (nI g) (nI (i + 1)) J := by
  have hm := w_mp_lt hg
  have head : bX11_areMapsWrong_12 n k4 (fu + 1) (nI r) (nI g) (nI i) J = bX11_areMapsWrong_43 n k4 (bX11_areMapsWrong_12 n k4 fu) (nI r) (nI g) (nI i) (if bt (S (w_mp g) 0) i = true then nI 1 else nI 0) J := by
    conv => lhs; unfold bX11_areMapsWrong_12
    dsimp only
    rw [if_neg (by rw [z_le (by omega) (by omega)]; omega), a_mp, Option.bind_some]
    dsimp only
    rw [pk_mul, am_gd_of (by rw [z_inb (by omega)]; exact decide_eq_true (by omega)), z_clamp (by omega)]
    have e0 : J 0 127 (16 * w_mp g) = S (w_mp g) 0 := hs.2 _ 0 hm (by omega)
    simp only [e0]
    by_cases c : bt (S (w_mp g) 0) i = true
    · rw [if_pos ((z_bit1 _ (by omega)).mpr c), if_pos c]
    · rw [if_neg (fun q => c ((z_bit1 _ (by omega)).mp q)), if_neg c]
  rw [head, bX11_areMapsWrong_43]
  rcases Nat.le_one_iff_eq_zero_or_eq_one.mp hr with rfl | rfl
  · rw [if_pos n00, pk_mul, nI_add, sv_ai hs (by omega) (by omega), Option.bind_some]
    dsimp only
    by_cases k : S (w_ib (16 * g + i)) 0 = nI 0
    · rw [if_pos (show S (w_ib (16 * g + i)) 0 = 0 from k), bX11_areMapsWrong_70]
      by_cases c : bt (S (w_mp g) 0) i = true
      · exact ⟨1, acc_1 (Or.inr (fun q => q.mp c k)), by rw [if_pos c, if_neg (show ¬ nI 1 = nI 0 by decide), bX11_areMapsWrong_73, bX11_areMapsWrong_78, nI_add]⟩
      · exact ⟨0, acc_0 (by omega) (fun q => q ⟨fun w => absurd w c, fun w => absurd k w⟩), by rw [if_neg c, if_pos rfl, bX11_areMapsWrong_78, nI_add]⟩
    · rw [if_neg (show ¬ S (w_ib (16 * g + i)) 0 = 0 from k), bX11_areMapsWrong_70]
      by_cases c : bt (S (w_mp g) 0) i = true
      · exact ⟨0, acc_0 (by omega) (fun q => q ⟨fun _ => k, fun _ => c⟩), by rw [if_pos c, if_pos rfl, bX11_areMapsWrong_78, nI_add]⟩
      · exact ⟨1, acc_1 (Or.inr (fun q => c (q.mpr k))), by rw [if_neg c, if_neg (show ¬ nI 0 = nI 1 by decide), bX11_areMapsWrong_73, bX11_areMapsWrong_78, nI_add]⟩
  · exact ⟨1, acc_1 (Or.inl rfl), by rw [if_neg n10, bX11_areMapsWrong_73, bX11_areMapsWrong_78, nI_add]⟩
/-- a block's bit, the reference -/
theorem a_87 {k4 : Int32 → Int32 → am_I → Option (Int32 × am_I)} {fu r g d : Nat} (hs : SV S I J) (hh : HV S J 128 0) (hr : r ≤ 1) (hg : g < 8) (hd : d < 47) : ∃ r', acc r r' (wB S g d) ∧ bX11_areMapsWrong_87 n k4 (fu + 1) (nI r) (nI g) (nI d) J = bX11_areMapsWrong_87 n k4 fu (nI r') (nI g) (nI (d + 1)) J := by
  have hm := w_mp_lt hg
  have head : bX11_areMapsWrong_87 n k4 (fu + 1) (nI r) (nI g) (nI d) J = bX11_areMapsWrong_128 n k4 (bX11_areMapsWrong_87 n k4 fu) (nI r) (nI g) (nI d) (if bt (S (w_mp g) (1 + d / 32)) (d % 32) = true then nI 1 else nI 0) J := by
    conv => lhs; unfold bX11_areMapsWrong_87
    dsimp only
    rw [if_neg (by rw [z_le (by omega) (by omega)]; omega), a_mp, Option.bind_some]
    dsimp only
    rw [pk_div (by omega) (by omega) (by omega), pk_mul, nI_add, nI_add, am_gd_of (by rw [z_inb (by omega)]; exact decide_eq_true (by omega)), z_clamp (by omega)]
    have e0 : J 0 127 (16 * w_mp g + 1 + d / 32) = S (w_mp g) (1 + d / 32) := by
      rw [Nat.add_assoc]
      exact hs.2 _ _ hm (by omega)
    have e2 : nI d - nI (d / 32) * nI 32 = nI (d % 32) := by rw [pk_mul, pk_sub (by omega)]; exact congrArg nI (by omega)
    simp only [e0, e2]
    by_cases c : bt (S (w_mp g) (1 + d / 32)) (d % 32) = true
    · rw [if_pos ((z_bit1 _ (by omega)).mpr c), if_pos c]
    · rw [if_neg (fun q => c ((z_bit1 _ (by omega)).mp q)), if_neg c]
  rw [head, bX11_areMapsWrong_128]
  rcases Nat.le_one_iff_eq_zero_or_eq_one.mp hr with rfl | rfl
  · have db : gX11_dataBlock n (nI g) (nI d) J = some (nI (145 + 64 * g + d), J) := by
      rw [gX11_dataBlock, bX11_dataBlock_0, pk_mul, nI_add, nI_add]
    rw [if_pos n00, db, Option.bind_some]
    dsimp only
    rw [am_gd_of (by rw [z_inb (by omega)]; exact decide_eq_true (by omega)), z_clamp (by omega)]
    have e3 := hh (145 + 64 * g + d) (by omega)
    simp only [e3]
    by_cases k : MB S 128 0 (145 + 64 * g + d)
    · rw [cif_pos k, if_neg (show ¬ nI 1 ≤ (0 : Int32) by decide), bX11_areMapsWrong_154]
      by_cases c : bt (S (w_mp g) (1 + d / 32)) (d % 32) = true
      · exact ⟨0, acc_0 (by omega) (fun q => q ⟨fun _ => k, fun _ => c⟩), by rw [if_pos c, if_pos rfl, bX11_areMapsWrong_162, nI_add]⟩
      · exact ⟨1, acc_1 (Or.inr (fun q => c (q.mpr k))), by rw [if_neg c, if_neg (show ¬ nI 0 = nI 1 by decide), bX11_areMapsWrong_157, bX11_areMapsWrong_162, nI_add]⟩
    · rw [cif_neg k, if_pos (show nI 0 ≤ (0 : Int32) by decide), bX11_areMapsWrong_154]
      by_cases c : bt (S (w_mp g) (1 + d / 32)) (d % 32) = true
      · exact ⟨1, acc_1 (Or.inr (fun q => k (q.mp c))), by rw [if_pos c, if_neg (show ¬ nI 1 = nI 0 by decide), bX11_areMapsWrong_157, bX11_areMapsWrong_162, nI_add]⟩
      · exact ⟨0, acc_0 (by omega) (fun q => q ⟨fun w => absurd w c, fun w => absurd w k⟩), by rw [if_neg c, if_pos rfl, bX11_areMapsWrong_162, nI_add]⟩
  · exact ⟨1, acc_1 (Or.inl rfl), by rw [if_neg n10, bX11_areMapsWrong_157, bX11_areMapsWrong_162, nI_add]⟩
theorem acc_tr {r r1 r2 k m : Nat} {p : Nat → Prop} (hk : k < m) (h1 : acc r r1 (p k)) (h2 : acc r1 r2 (∃ j, k + 1 ≤ j ∧ j < m ∧ p j)) : acc r r2 (∃ j, k ≤ j ∧ j < m ∧ p j) := by
  refine ⟨h2.1, ?_⟩
  rw [h2.2, h1.2, or_assoc]
  refine or_congr Iff.rfl ?_
  constructor
  · rintro (q | ⟨j, a1, a2, a3⟩)
    · exact ⟨k, by omega, hk, q⟩
    · exact ⟨j, by omega, a2, a3⟩
  · rintro ⟨j, a1, a2, a3⟩
    by_cases c : j = k
    · exact Or.inl (c ▸ a3)
    · exact Or.inr ⟨j, by omega, a2, a3⟩
theorem acc_e {r k m : Nat} {p : Nat → Prop} (hr : r ≤ 1) (hk : ¬ k < m) : acc r r (∃ j, k ≤ j ∧ j < m ∧ p j) := acc_0 hr (fun ⟨j, a1, a2, _⟩ => by omega)
theorem a_87l {k4 : Int32 → Int32 → am_I → Option (Int32 × am_I)} {g : Nat} (hs : SV S I J) (hh : HV S J 128 0) (hg : g < 8) : ∀ (m d fu r : Nat), d + m = 47 → m < fu → r ≤ 1 → ∃ r', acc r r' (∃ j, d ≤ j ∧ j < 47 ∧ wB S g j) ∧ bX11_areMapsWrong_87 n k4 fu (nI r) (nI g) (nI d) J = k4 (nI r') (nI (g + 1)) J := by
  intro m
  induction m with
  | zero =>
    intro d fu r hd hfu hr
    obtain ⟨fu, rfl⟩ : ∃ f, fu = f + 1 := ⟨fu - 1, by omega⟩
    refine ⟨r, acc_e hr (by omega), ?_⟩
    unfold bX11_areMapsWrong_87
    dsimp only
    rw [if_pos (by rw [z_le (by omega) (by omega)]; omega), nI_add]
  | succ m ih =>
    intro d fu r hd hfu hr
    obtain ⟨fu, rfl⟩ : ∃ f, fu = f + 1 := ⟨fu - 1, by omega⟩
    obtain ⟨r1, h1, h2⟩ := a_87 (n := n) (k4 := k4) (fu := fu) (d := d) hs hh hr hg (by omega)
    obtain ⟨r2, g1, g2⟩ := ih (d + 1) fu r1 (by omega) (by omega) h1.1
    exact ⟨r2, acc_tr (by omega) h1 g1, by rw [h2, g2]⟩
theorem a_12l {k4 : Int32 → Int32 → am_I → Option (Int32 × am_I)} {g : Nat} (hs : SV S I J) (hg : g < 8) : ∀ (m i fu r : Nat), i + m = 16 → m < fu → r ≤ 1 → ∃ r', acc r r' (∃ j, i ≤ j ∧ j < 16 ∧ wI S g j) ∧ bX11_areMapsWrong_12 n k4 fu (nI r) (nI g) (nI i) J = bX11_areMapsWrong_87 n k4 am_fu (nI r') (nI g) (nI 0) J := by
  intro m
  induction m with
  | zero =>
    intro i fu r hi hfu hr
    obtain ⟨fu, rfl⟩ : ∃ f, fu = f + 1 := ⟨fu - 1, by omega⟩
    refine ⟨r, acc_e hr (by omega), ?_⟩
    unfold bX11_areMapsWrong_12
    dsimp only
    rw [if_pos (by rw [z_le (by omega) (by omega)]; omega)]
  | succ m ih =>
    intro i fu r hi hfu hr
    obtain ⟨fu, rfl⟩ : ∃ f, fu = f + 1 := ⟨fu - 1, by omega⟩
    obtain ⟨r1, h1, h2⟩ := a_12 (n := n) (k4 := k4) (fu := fu) (i := i) hs hr hg (by omega)
    obtain ⟨r2, g1, g2⟩ := ih (i + 1) fu r1 (by omega) (by omega) h1.1
    exact ⟨r2, acc_tr (by omega) h1 g1, by rw [h2, g2]⟩
def wG (S : wS) (g : Nat) : Prop := (∃ j, 0 ≤ j ∧ j < 16 ∧ wI S g j) ∨ ∃ j, 0 ≤ j ∧ j < 47 ∧ wB S g j
theorem a_4l (hs : SV S I J) (hh : HV S J 128 0) : ∀ (m g fu r : Nat), g + m = 8 → m < fu → r ≤ 1 → ∃ r', acc r r' (∃ j, g ≤ j ∧ j < 8 ∧ wG S j) ∧ bX11_areMapsWrong_4 n fu (nI r) (nI g) J = some (nI r', J) := by
  obtain ⟨f, hf, hf1⟩ := fu_ex
  intro m
  induction m with
  | zero =>
    intro g fu r hg hfu hr
    obtain ⟨fu, rfl⟩ : ∃ f, fu = f + 1 := ⟨fu - 1, by omega⟩
    refine ⟨r, acc_e hr (by omega), ?_⟩
    unfold bX11_areMapsWrong_4
    dsimp only
    rw [if_pos (by rw [z_le (by omega) (by omega)]; omega)]
    refine am_gd_of ?_
    rcases Nat.le_one_iff_eq_zero_or_eq_one.mp hr with rfl | rfl
    · exact z_01
    · exact z_011
  | succ m ih =>
    intro g fu r hg hfu hr
    obtain ⟨fu, rfl⟩ : ∃ f, fu = f + 1 := ⟨fu - 1, by omega⟩
    obtain ⟨r1, h1, h2⟩ := a_12l (n := n) (k4 := bX11_areMapsWrong_4 n fu) (g := g) hs (by omega) 16 0 am_fu r (by omega) (by rw [hf]; omega) hr
    obtain ⟨r2, g1, g2⟩ := a_87l (n := n) (k4 := bX11_areMapsWrong_4 n fu) (g := g) hs hh (by omega) 47 0 am_fu r1 (by omega) (by rw [hf]; omega) h1.1
    obtain ⟨r3, p1, p2⟩ := ih (g + 1) fu r2 (by omega) (by omega) g1.1
    refine ⟨r3, acc_tr (r1 := r2) (by omega) ⟨g1.1, ?_⟩ p1, ?_⟩
    · rw [g1.2, h1.2, or_assoc]
      rfl
    · conv => lhs; unfold bX11_areMapsWrong_4
      dsimp only
      rw [if_neg (by rw [z_le (by omega) (by omega)]; omega), h2, g2, p2]
/-- the class: a word of a map -/
def nW (S : wS) (I : am_I) (g i : Nat) : Prop := ¬ S (w_mp g) i = if 3 ≤ i then nI 0 else I 0 26 (3 * g + i)
theorem h_10 {k2 : Int32 → am_I → Option (Int32 × am_I)} {g : Nat} (hs : SV S I J) (hg : g < 8) : ∀ (m i fu : Nat), i + m = 16 → m < fu → ((∃ j, i ≤ j ∧ j < 16 ∧ nW S I g j) ∧ bX2_hasWrongMap_10 n k2 fu (nI g) (nI i) I = some (nI 1, I)) ∨ ((¬ ∃ j, i ≤ j ∧ j < 16 ∧ nW S I g j) ∧ bX2_hasWrongMap_10 n k2 fu (nI g) (nI i) I = k2 (nI (g + 1)) I) := by
  have hm := w_mp_lt hg
  intro m
  induction m with
  | zero =>
    intro i fu hi hfu
    obtain ⟨fu, rfl⟩ : ∃ f, fu = f + 1 := ⟨fu - 1, by omega⟩
    refine Or.inr ⟨fun ⟨j, a1, a2, _⟩ => by omega, ?_⟩
    unfold bX2_hasWrongMap_10
    dsimp only
    rw [if_pos (by rw [z_le (by omega) (by omega)]; omega), nI_add]
  | succ m ih =>
    intro i fu hi hfu
    obtain ⟨fu, rfl⟩ : ∃ f, fu = f + 1 := ⟨fu - 1, by omega⟩
    have head : bX2_hasWrongMap_10 n k2 (fu + 1) (nI g) (nI i) I = if S (w_mp g) i = (if 3 ≤ i then nI 0 else I 0 26 (3 * g + i)) then bX2_hasWrongMap_10 n k2 fu (nI g) (nI (i + 1)) I else some (nI 1, I) := by
      conv => lhs; unfold bX2_hasWrongMap_10
      dsimp only
      rw [if_neg (by rw [z_le (by omega) (by omega)]; omega), c_mp, Option.bind_some]
      dsimp only
      rw [sv_at hs hm (by omega), Option.bind_some]
      dsimp only
      by_cases c : 3 ≤ i
      · rw [if_pos (by rw [z_le (by omega) (by omega)]; exact c), if_pos c, bX2_hasWrongMap_44, nI_add]
      · rw [if_neg (by rw [z_le (by omega) (by omega)]; exact c), if_neg c, pk_mul, nI_add, am_gd_of (by rw [z_inb (by omega)]; exact decide_eq_true (by omega)), z_clamp (by omega), bX2_hasWrongMap_44, nI_add, Nat.mul_comm g 3]
    rw [head]
    by_cases c : S (w_mp g) i = (if 3 ≤ i then nI 0 else I 0 26 (3 * g + i))
    · rw [if_pos c]
      rcases ih (i + 1) fu (by omega) (by omega) with ⟨⟨j, a1, a2, a3⟩, q⟩ | ⟨q1, q2⟩
      · exact Or.inl ⟨⟨j, by omega, a2, a3⟩, q⟩
      · refine Or.inr ⟨fun ⟨j, a1, a2, a3⟩ => ?_, q2⟩
        by_cases d : j = i
        · exact a3 (d ▸ c)
        · exact q1 ⟨j, by omega, a2, a3⟩
    · rw [if_neg c]
      exact Or.inl ⟨⟨i, by omega, by omega, c⟩, rfl⟩
theorem h_2 (hs : SV S I J) : ∀ (m g fu : Nat), g + m = 8 → m < fu → ∃ r, acc 0 r (∃ g', g ≤ g' ∧ g' < 8 ∧ ∃ j, 0 ≤ j ∧ j < 16 ∧ nW S I g' j) ∧ bX2_hasWrongMap_2 n fu (nI g) I = some (nI r, I) := by
  obtain ⟨f, hf, hf1⟩ := fu_ex
  intro m
  induction m with
  | zero =>
    intro g fu hg hfu
    obtain ⟨fu, rfl⟩ : ∃ f, fu = f + 1 := ⟨fu - 1, by omega⟩
    refine ⟨0, acc_e (by omega) (by omega), ?_⟩
    unfold bX2_hasWrongMap_2
    dsimp only
    rw [if_pos (by rw [z_le (by omega) (by omega)]; omega)]
  | succ m ih =>
    intro g fu hg hfu
    obtain ⟨fu, rfl⟩ : ∃ f, fu = f + 1 := ⟨fu - 1, by omega⟩
    have head : bX2_hasWrongMap_2 n (fu + 1) (nI g) I = bX2_hasWrongMap_10 n (bX2_hasWrongMap_2 n fu) am_fu (nI g) (nI 0) I := by
      conv => lhs; unfold bX2_hasWrongMap_2
      dsimp only
      rw [if_neg (by rw [z_le (by omega) (by omega)]; omega)]
    rw [head]
    rcases h_10 (n := n) (k2 := bX2_hasWrongMap_2 n fu) (g := g) hs (by omega) 16 0 am_fu (by omega) (by rw [hf]; omega) with ⟨q1, q2⟩ | ⟨q1, q2⟩
    · exact ⟨1, acc_1 (Or.inr ⟨g, by omega, by omega, q1⟩), q2⟩
    · obtain ⟨r, p1, p2⟩ := ih (g + 1) fu (by omega) (by omega)
      exact ⟨r, acc_tr (by omega) (acc_0 (by omega) q1) p1, by rw [q2, p2]⟩
/-- words or bits -/
theorem wg_iff {g : Nat} (hT : w_T S) (hb : BV I (MI S 128) (MB S 128 0)) (hg : g < 8) : (∃ j, 0 ≤ j ∧ j < 16 ∧ nW S I g j) ↔ wG S g := by
  obtain ⟨t0, t2, t3⟩ := hT g hg
  obtain ⟨b0, b1⟩ := hb g hg
  have mi : ∀ i, i < 16 → (MI S 128 (16 * g + i) ↔ ¬ S (w_ib (16 * g + i)) 0 = nI 0) := fun i hi => ⟨fun q => q.2, fun q => ⟨by omega, q⟩⟩
  have key : (¬ wG S g) ↔ ¬ ∃ j, 0 ≤ j ∧ j < 16 ∧ nW S I g j := by
    constructor
    · intro hw
      have h1 : ∀ i, i < 16 → (bt (S (w_mp g) 0) i = true ↔ ¬ S (w_ib (16 * g + i)) 0 = nI 0) := fun i hi => Classical.byContradiction fun q => hw (Or.inl ⟨i, by omega, hi, q⟩)
      have h2 : ∀ d, d < 47 → (bt (S (w_mp g) (1 + d / 32)) (d % 32) = true ↔ MB S 128 0 (145 + 64 * g + d)) := fun d hd => Classical.byContradiction fun q => hw (Or.inr ⟨d, by omega, hd, q⟩)
      rintro ⟨j, -, hj, q⟩
      apply q
      by_cases c : 3 ≤ j
      · rw [if_pos c]; exact t3 j c hj
      · rw [if_neg c]
        have : j = 0 ∨ j = 1 ∨ j = 2 := by omega
        rcases this with rfl | rfl | rfl
        · refine b_ext (fun i hi => Bool.eq_iff_iff.mpr ?_)
          rw [Nat.add_zero, b0 i hi]
          by_cases ci : i < 16
          · rw [h1 i ci, mi i ci]
            exact ⟨fun q => ⟨ci, q⟩, fun q => q.2⟩
          · rw [t0 i (by omega) hi]
            exact ⟨fun q => absurd q (by decide), fun q => absurd q.1 ci⟩
        · refine b_ext (fun i hi => Bool.eq_iff_iff.mpr ?_)
          have e1 := b1 0 (by omega) i hi
          rw [Nat.add_zero, Nat.mul_zero, Nat.zero_add] at e1
          rw [e1]
          have e2 := h2 i (by omega)
          rw [show 1 + i / 32 = 1 by omega, show i % 32 = i by omega] at e2
          rw [e2]
          exact ⟨fun q => ⟨by omega, q⟩, fun q => q.2⟩
        · refine b_ext (fun i hi => Bool.eq_iff_iff.mpr ?_)
          have e1 := b1 1 (by omega) i hi
          rw [show 3 * g + 1 + 1 = 3 * g + 2 by omega] at e1
          rw [e1]
          by_cases ci : i < 15
          · have e2 := h2 (32 + i) (by omega)
            rw [show 1 + (32 + i) / 32 = 2 by omega, show (32 + i) % 32 = i by omega] at e2
            rw [e2, Nat.mul_one]
            exact ⟨fun q => ⟨by omega, q⟩, fun q => q.2⟩
          · rw [t2 i (by omega) hi]
            exact ⟨fun q => absurd q (by decide), fun q => absurd q.1 (by omega)⟩
    · intro hn hw
      have h0 : ∀ j, j < 3 → S (w_mp g) j = I 0 26 (3 * g + j) := fun j hj => Classical.byContradiction fun q => hn ⟨j, by omega, by omega, by unfold nW; rw [if_neg (by omega)]; exact q⟩
      rcases hw with ⟨i, -, hi, q⟩ | ⟨d, -, hd, q⟩
      · apply q
        have e0 := h0 0 (by omega)
        rw [Nat.add_zero] at e0
        rw [e0, b0 i (by omega), mi i hi]
        exact ⟨fun q => q.2, fun q => ⟨hi, q⟩⟩
      · apply q
        have e0 := h0 (1 + d / 32) (by omega)
        have e1 := b1 (d / 32) (by omega) (d % 32) (by omega)
        rw [show 3 * g + 1 + d / 32 = 3 * g + (1 + d / 32) by omega, show 32 * (d / 32) + d % 32 = d by omega] at e1
        rw [e0, e1]
        exact ⟨fun q => q.2, fun q => ⟨hd, q⟩⟩
  exact ⟨fun q => Classical.byContradiction fun w => key.mp w q, fun q => Classical.byContradiction fun w => key.mpr w q⟩
/-- THE MAPS, both sides -/
theorem k_maps {I0 : am_I} (hT : w_T S) (hs : SV S I J) (hsJ : SV S I0 J) (hb : BV I (MI S 128) (MB S 128 0)) (hh : HV S J 128 0) : ∃ r, r ≤ 1 ∧ gX2_hasWrongMap n I = some (nI r, I) ∧ gX11_areMapsWrong n J = some (nI r, J) := by
  obtain ⟨f, hf, hf1⟩ := fu_ex
  obtain ⟨r, h1, h2⟩ := h_2 (n := n) hs 8 0 am_fu (by omega) (by rw [hf]; omega)
  obtain ⟨r', g1, g2⟩ := a_4l (n := n) hs hh 8 0 am_fu 0 (by omega) (by rw [hf]; omega) (by omega)
  have e : r' = r := by
    have a1 := h1.1
    have a2 := g1.1
    have : r' = 1 ↔ r = 1 := by
      rw [h1.2, g1.2]
      refine or_congr Iff.rfl ⟨fun ⟨j, q1, q2, q3⟩ => ⟨j, q1, q2, (wg_iff hT hb q2).mpr q3⟩, fun ⟨j, q1, q2, q3⟩ => ⟨j, q1, q2, (wg_iff hT hb q2).mp q3⟩⟩
    omega
  exact ⟨r, h1.1, by rw [gX2_hasWrongMap, bX2_hasWrongMap_0, h2], by rw [gX11_areMapsWrong, bX11_areMapsWrong_0, g2, e]⟩
end MAPS
