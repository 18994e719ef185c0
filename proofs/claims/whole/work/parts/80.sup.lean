/-- a guard -/
def am_gd {α : Type} (p : Bool) (k : Option α) : Option α := if p = true then k else none
theorem am_gd_some {α : Type} {p : Bool} {k : Option α} {r : α} (h : am_gd p k = some r) : p = true ∧ k = some r := by
  unfold am_gd at h
  split at h
  · next hp => exact ⟨hp, h⟩
  · cases h
theorem am_gd_of {α : Type} {p : Bool} {k : Option α} (h : p = true) : am_gd p k = k := by rw [am_gd, if_pos h]
/-- an index within a row -/
def am_inb (x : Int32) (n : Nat) : Bool := decide (¬ x < 0 ∧ x.toNatClampNeg < n)
theorem am_inb_lt {x : Int32} {n : Nat} (h : am_inb x n = true) : x.toNatClampNeg < n := (of_decide_eq_true h).2
theorem am_inb_eq {x : Int32} {n : Nat} (h : am_inb x n = true) : x = nI x.toNatClampNeg := by
  have h0 : ¬ x < 0 := (of_decide_eq_true h).1
  have h1 : 0 ≤ x.toInt := by
    have := mt Int32.lt_iff_toInt_lt.mpr h0
    rw [am_i0] at this
    omega
  apply Int32.toInt_inj.mp
  have h2 : x.toInt < 2 ^ 31 := by
    have := Int32.toInt_lt x
    simpa using this
  have h3 : x.toNatClampNeg = x.toInt.toNat := rfl
  rw [nI_toInt (by rw [h3]; omega), h3]
  omega
theorem am_inb_of {a n : Nat} (h : a < n) (h31 : n ≤ 2 ^ 31) : am_inb (nI a) n = true := by
  have ha : a < 2 ^ 31 := Nat.lt_of_lt_of_le h h31
  refine decide_eq_true ⟨nI_pos ha, ?_⟩
  rw [nI_clamp ha]
  exact h
/-- 0 or 1 -/
def am_01 (x : Int32) : Bool := decide (x = 0 ∨ x = 1)
theorem am_01_of {x : Int32} (h : am_01 x = true) : x = 0 ∨ x = 1 := of_decide_eq_true h
/-- a name for a value -/
def am_lt {α β : Type} (x : α) (k : α → β) : β := k x
theorem am_lt_some {α β : Type} {x : α} {k : α → Option β} {r : β} (h : am_lt x k = some r) : ∃ y : α, y = x ∧ k y = some r := ⟨x, rfl, h⟩
theorem am_bd {α β : Type} {x : Option α} {k : α → Option β} {r : β} (h : x.bind k = some r) : ∃ y : α, x = some y ∧ k y = some r := by
  cases x with
  | none => cases h
  | some y => exact ⟨y, rfl, h⟩
/-- turns that a loop may take -/
def am_fu : Nat := 20000
/-- less known of the locals -/
def am_lsub : List (Option am_V) → List (Option am_V) → Prop
  | [], [] => True
  | none :: a, _ :: b => am_lsub a b
  | some v :: a, w :: b => w = some v ∧ am_lsub a b
  | _, _ => False
theorem am_lsub.spec : ∀ {a b : List (Option am_V)}, am_lsub a b → a.length = b.length ∧ ∀ (i : Nat) (v : am_V), a[i]? = some (some v) → b[i]? = some (some v)
  | [], [], _ => ⟨rfl, fun i v h => by simp at h⟩
  | none :: a, w :: b, h => by
    obtain ⟨h1, h2⟩ := am_lsub.spec (a := a) (b := b) h
    refine ⟨by simp [h1], fun i v hi => ?_⟩
    cases i with
    | zero => simp at hi
    | succ i => simpa using h2 i v (by simpa using hi)
  | some v :: a, w :: b, h => by
    have hb : w = some v ∧ am_lsub a b := h
    obtain ⟨rfl, hb2⟩ := hb
    obtain ⟨h1, h2⟩ := am_lsub.spec (a := a) (b := b) hb2
    refine ⟨by simp [h1], fun i v' hi => ?_⟩
    cases i with
    | zero => simpa using hi
    | succ i => simpa using h2 i v' (by simpa using hi)
  | [], _ :: _, h => (show False from h).elim
  | none :: _, [], h => (show False from h).elim
  | some _ :: _, [], h => (show False from h).elim
section G1
variable {G : am_G} {d : Nat} {M : am_M} {TH : Nat → List (Option am_V) → List am_V → am_I → Prop} {Q : Option Int32 → am_I → Prop} {pc : Nat} {lo : List (Option am_V)} {st : List am_V} {I : am_I}
theorem am_lwJ {lo' : List (Option am_V)} (h : am_lsub lo' lo) (hj : am_J G d M TH Q pc lo' st I) : am_J G d M TH Q pc lo st I :=
  fun p e R s m args below meth c A Z cells slots H locs ls X hH hL => hj p e R s m args below meth c A Z cells slots H locs ls X hH ⟨hL.1, hL.2.1, h.spec.1.trans hL.2.2.1, fun i v hi => hL.2.2.2 i v (h.spec.2 i v hi)⟩
theorem am_st10 {J : am_I} (h : J = I) (hj : am_J G d M TH Q pc lo st J) : am_J G d M TH Q pc lo st I := h ▸ hj
theorem am_ialdG {i j : Nat} {x : Int32} (hd : decode M.2.1 pc = .ok (.iaload, 1)) (hm : (i, j) ∈ G.2.2.2.2) (hkj : am_k j = 1) (hg : am_inb x (am_len G.2.2.2.1 j) = true) (h31 : am_len G.2.2.2.1 j < 2 ^ 31) (hk : am_J G d M TH Q (pc + 1) lo (.inl (I i j x.toNatClampNeg) :: st) I) : am_J G d M TH Q pc lo (.inl x :: .inr (i, j) :: st) I :=
  am_iald hd hm hkj (am_inb_eq hg) (am_inb_lt hg) h31 hk
theorem am_zaldG {i j : Nat} {x : Int32} (hd : decode M.2.1 pc = .ok (.baload, 1)) (hm : (i, j) ∈ G.2.2.2.2) (hkj : am_k j = 2) (hg : am_inb x (am_len G.2.2.2.1 j) = true) (h31 : am_len G.2.2.2.1 j < 2 ^ 31) (hk : am_J G d M TH Q (pc + 1) lo (.inl (I i j x.toNatClampNeg) :: st) I) : am_J G d M TH Q pc lo (.inl x :: .inr (i, j) :: st) I :=
  am_zald hd hm hkj (am_inb_eq hg) (am_inb_lt hg) h31 hk
theorem am_aaldG {i j : Nat} {x : Int32} (hd : decode M.2.1 pc = .ok (.aaload, 1)) (hm : (i, j) ∈ G.2.2.2.2) (hkj : am_k j = 3) (hg : am_inb x G.2.2.2.1 = true) (h31 : G.2.2.2.1 < 2 ^ 31) (hk : am_J G d M TH Q (pc + 1) lo (.inr (x.toNatClampNeg, 40) :: st) I) : am_J G d M TH Q pc lo (.inl x :: .inr (i, j) :: st) I :=
  am_aald hd hm hkj (am_inb_eq hg) (am_inb_lt hg) h31 hk
theorem am_iastG {i j : Nat} {x y : Int32} (hd : decode M.2.1 pc = .ok (.iastore, 1)) (hm : (i, j) ∈ G.2.2.2.2) (hkj : am_k j = 1) (hg : am_inb x (am_len G.2.2.2.1 j) = true) (h31 : am_len G.2.2.2.1 j < 2 ^ 31) (hk : am_J G d M TH Q (pc + 1) lo st (am_up I i j x.toNatClampNeg y)) : am_J G d M TH Q pc lo (.inl y :: .inl x :: .inr (i, j) :: st) I :=
  am_iast hd hm hkj (am_inb_eq hg) (am_inb_lt hg) h31 hk
theorem am_zastG {i j : Nat} {x y : Int32} (hd : decode M.2.1 pc = .ok (.bastore, 1)) (hm : (i, j) ∈ G.2.2.2.2) (hkj : am_k j = 2) (hy : y = 0 ∨ y = 1) (hg : am_inb x (am_len G.2.2.2.1 j) = true) (h31 : am_len G.2.2.2.1 j < 2 ^ 31) (hk : am_J G d M TH Q (pc + 1) lo st (am_up I i j x.toNatClampNeg y)) : am_J G d M TH Q pc lo (.inl y :: .inl x :: .inr (i, j) :: st) I :=
  am_zast hd hm hkj hy (am_inb_eq hg) (am_inb_lt hg) h31 hk
/-- a copy's places lie within -/
def am_cpb (sp dp cn : Int32) (n0 n1 : Nat) : Bool := decide (¬ sp < 0 ∧ ¬ dp < 0 ∧ ¬ cn < 0 ∧ sp.toNatClampNeg + cn.toNatClampNeg ≤ n0 ∧ dp.toNatClampNeg + cn.toNatClampNeg ≤ n1)
theorem ac_ini : Cond.initialized "java/lang/System" ∈ am_T := am_t1 19 rfl rfl
theorem ac_stat : Cond.static arraycopyName ∈ am_T := am_t3 111 rfl rfl
theorem ac_nat : Cond.native arraycopyName ∈ am_T := am_t3 112 rfl rfl
theorem am_copy {idx i j i' j' : Nat} {sp dp cn : Int32} {rest : List am_V} (hd : decode M.2.1 pc = .ok (.invokestatic idx, 3)) (hl : Cond.methodLink M.1.cls idx arraycopyName ∈ am_T) (hm : (i, j) ∈ G.2.2.2.2) (hm' : (i', j') ∈ G.2.2.2.2) (hkj : am_k j = 1) (hkj' : am_k j' = 1) (hg : am_cpb sp dp cn (am_len G.2.2.2.1 j) (am_len G.2.2.2.1 j') = true) (hrest : rest.length ≤ 8)
    (hk : am_J G (d + 1) M TH Q (pc + 3) lo rest (am_upf I i' j' (va_cpy (I i j) (I i' j') sp.toNatClampNeg dp.toNatClampNeg cn.toNatClampNeg))) : am_J G (d + 1) M TH Q pc lo (.inl cn :: .inl dp :: .inr (i', j') :: .inl sp :: .inr (i, j) :: rest) I := by
  intro p e R s m args below meth c A Z cells slots H locs ls X hH hL
  obtain ⟨hx, hb, hr, hml, hown, hts, hlocks⟩ := X.1
  obtain ⟨q, hq, hw⟩ := am_at hm I
  obtain ⟨q', hq', hw'⟩ := am_at hm' I
  rw [am_cell1 hkj] at hw
  rw [am_cell1 hkj'] at hw'
  obtain ⟨g1, g2, g3, g4, g5⟩ := of_decide_eq_true hg
  have t1 := X.2.2.1.1
  have t2 := X.2.2.1.2.1
  refine va_copyi (own := M.1.cls) (index := idx) hx hb (by rw [hml]; exact hL.1.symm) hown (hts _ (List.mem_cons_of_mem _ hl)) (hts _ (List.mem_cons_of_mem _ ac_nat)) (hts _ (List.mem_cons_of_mem _ ac_stat)) (hts _ (List.mem_cons_of_mem _ ac_ini)) X.2.1.2.1 hH.1 hH.2.1 hH.2.2 q q' 0 0 hw hw' rfl rfl rfl g1 g2 g3 g4 g5 (fun _ _ => rfl) (by omega) ?_ hd (fun H1 locs1 hP hD hS => ?_)
  · rw [am_cats]
    show rest.length + (7 + 11) ≤ R.locals
    omega
  · rw [← am_cell1 (i := i') hkj', am_set X.2.1.2.2.2.1 hq'] at hP hD
    exact hk p e R s m args below meth c A Z cells slots H1 locs1 ls X ⟨hP, hD, hS⟩ hL
end G1
theorem am_sw (hi : Nat) (x : Int32) : (∃ m : Nat, m ≤ hi ∧ x = nI m) ∨ (x.toInt < 0 ∨ (hi : Int) < x.toInt) := by
  by_cases h : x.toInt < 0
  · exact Or.inr (Or.inl h)
  · by_cases h2 : (hi : Int) < x.toInt
    · exact Or.inr (Or.inr h2)
    · refine Or.inl ⟨x.toInt.toNat, by omega, ?_⟩
      have h3 : x.toInt < 2 ^ 31 := by
        have := Int32.toInt_lt x
        simpa using this
      apply Int32.toInt_inj.mp
      rw [nI_toInt (by omega)]
      omega
theorem am_swd {hi k : Nat} {x : Int32} (h : x.toInt < 0 ∨ (hi : Int) < x.toInt) (hk : k ≤ hi) (h31 : hi < 2 ^ 31) : ¬ x = nI k := by
  intro e
  rw [e, nI_toInt (by omega)] at h
  omega
theorem ml_X3_41 : Cond.methodLink RX3 41 arraycopyName ∈ am_T := am_t3 110 rfl rfl
theorem ml_X9_119 : Cond.methodLink RX9 119 arraycopyName ∈ am_T := am_t4 85 rfl rfl
theorem ml_X5_37 : Cond.methodLink RX5 37 arraycopyName ∈ am_T := am_t4 183 rfl rfl
theorem ml_X10_495 : Cond.methodLink RX10 495 arraycopyName ∈ am_T := am_t5 87 rfl rfl
