section AMH
variable {G : am_G} {d : Nat} {M : am_M} {TH : Nat → List (Option am_V) → List am_V → am_I → Prop} {Q : Option Int32 → am_I → Prop} {pc : Nat} {lo : List (Option am_V)} {st : List am_V} {I : am_I}
/-- a field's link: class, constant's number, role, slot -/
def am_fl (own : String) (idx j k : Nat) : Prop := ∃ (C : String) (T : u_T) (N : Nat), vwCl[am_ci j]? = some (C, T, N) ∧ (∀ w ∈ u_ws C T N, w ∈ am_T) ∧ k < N ∧ Cond.fieldLink own idx (T k).1 (T k).2.1 (T k).2.2.1 ∈ am_T ∧ am_k j = 0
/-- the same of a field that may be written -/
def am_fp (own : String) (idx j k : Nat) (ty : FieldType) : Prop := ∃ (C : String) (T : u_T) (N : Nat) (ty0 : Nat → FieldType), vwCl[am_ci j]? = some (C, T, N) ∧ (∀ w ∈ u_ws C T N, w ∈ am_T) ∧ k < N ∧ Cond.fieldLink own idx (T k).1 (T k).2.1 (T k).2.2.1 ∈ am_T ∧ am_k j = 0 ∧ (∀ a, a < N → ∀ b, b < N → a ≠ b → (T a).2.1 ≠ (T b).2.1) ∧ (∀ k, k < N → parseFieldDescriptor (T k).2.2.1 = some (ty0 k)) ∧ (T k).2.2.2 = false ∧ parseFieldDescriptor (T k).2.2.1 = some ty
theorem am_cell0 {f : Nat → Int32} {i j : Nat} (h : am_k j = 0) : am_cell G f i j = .inr (am_ci j, am_fs G f i j) := by simp [am_cell, h]
theorem am_cell1 {f : Nat → Int32} {i j : Nat} (h : am_k j = 1) : am_cell G f i j = .inl (G.2.1.1, am_len G.2.2.2.1 j, .inl f) := by simp [am_cell, h]
theorem am_cell2 {f : Nat → Int32} {i j : Nat} (h : am_k j = 2) : am_cell G f i j = .inl (G.2.1.2.1, am_len G.2.2.2.1 j, .inl f) := by simp [am_cell, h]
theorem am_cell3 {f : Nat → Int32} {i j : Nat} (h : am_k j = 3) : am_cell G f i j = .inl (G.2.1.2.2, G.2.2.2.1, .inr (.inr (.inr (.inr (fun x => some (G.2.2.1 x 40)))))) := by simp [am_cell, h]
theorem am_get {idx i j k : Nat} {v : am_V} (hd : decode M.2.1 pc = .ok (.getfield idx, 3)) (hf : am_fl M.1.cls idx j k) (hm : (i, j) ∈ G.2.2.2.2) (hv : (am_fs G (I i j) i j)[k]? = some (am_val G v)) (hk : am_J G d M TH Q (pc + 3) lo (v :: st) I) : am_J G d M TH Q pc lo (.inr (i, j) :: st) I := by
  intro p e R s m args below meth c A Z cells slots H locs ls X hH hL
  obtain ⟨hx, hb, hr, hml, hown, hts, hlocks⟩ := X.1
  obtain ⟨C, T, N, h1, h2, h3, h4, h5⟩ := hf
  obtain ⟨q, -, hw⟩ := am_at hm I
  rw [am_cell0 h5] at hw
  exact va_get hx hb (fun w h => hts w (List.mem_cons_of_mem _ h)) h2 hown X.2.1.2.1 hH.1 q hw h1 k h3 (hts _ (List.mem_cons_of_mem _ h4)) (fun _ h => h) hv hd (hk p e R s m args below meth c A Z cells slots H locs ls X hH hL)
theorem am_putV {idx i j k : Nat} {v : am_V} {x : Int32} {ty : FieldType} (hd : decode M.2.1 pc = .ok (.putfield idx, 3)) (hf : am_fp M.1.cls idx j k ty) (hm : (i, j) ∈ G.2.2.2.2) (hn : narrow ty (am_val G v) = am_val G v) (hfit : fits ty (am_val G v) = true) (hl : k < (am_fs G (I i j) i j).length) (hs : (am_fs G (I i j) i j).set k (am_val G v) = am_fs G (upd (I i j) k x) i j)
    (hk : am_J G d M TH Q (pc + 3) lo st (am_up I i j k x)) : am_J G d M TH Q pc lo (v :: .inr (i, j) :: st) I := by
  intro p e R s m args below meth c A Z cells slots H locs ls X hH hL
  obtain ⟨hx, hb, hr, hml, hown, hts, hlocks⟩ := X.1
  obtain ⟨C, T, N, ty0, h1, h2, h3, h4, h5, h6, h7, h8, h9⟩ := hf
  obtain ⟨q, hq, hw⟩ := am_at hm I
  rw [am_cell0 h5] at hw
  refine va_put hx hb (fun w h => hts w (List.mem_cons_of_mem _ h)) h2 ty0 h7 h6 hown X.2.1.2.1 hH.1 hH.2.1 hH.2.2 q hw h1 k h3 (hts _ (List.mem_cons_of_mem _ h4)) (fun _ h => h) h8 h9 hn hfit hl hd (fun H1 locs1 hP hD hS => ?_)
  rw [hs, ← am_cell0 h5, am_set X.2.1.2.2.2.1 hq] at hP hD
  exact hk p e R s m args below meth c A Z cells slots H1 locs1 ls X ⟨hP, hD, hS⟩ hL
theorem am_put {idx i j k : Nat} {x : Int32} (hd : decode M.2.1 pc = .ok (.putfield idx, 3)) (hf : am_fp M.1.cls idx j k .int) (hm : (i, j) ∈ G.2.2.2.2) (hl : k < (am_fs G (I i j) i j).length) (hs : (am_fs G (I i j) i j).set k (.int x) = am_fs G (upd (I i j) k x) i j)
    (hk : am_J G d M TH Q (pc + 3) lo st (am_up I i j k x)) : am_J G d M TH Q pc lo (.inl x :: .inr (i, j) :: st) I := am_putV (v := .inl x) hd hf hm rfl rfl hl hs hk
theorem am_nz {x : Int32} (h : x = 0 ∨ x = 1) : narrow .boolean (.int x) = .int x ∧ fits .boolean (.int x) = true ∧ vp_nar .boolean x = x := by rcases h with rfl | rfl <;> decide
theorem am_putz {idx i j k : Nat} {x : Int32} (hd : decode M.2.1 pc = .ok (.putfield idx, 3)) (hf : am_fp M.1.cls idx j k .boolean) (hm : (i, j) ∈ G.2.2.2.2) (hx01 : x = 0 ∨ x = 1) (hl : k < (am_fs G (I i j) i j).length) (hs : (am_fs G (I i j) i j).set k (.int x) = am_fs G (upd (I i j) k x) i j)
    (hk : am_J G d M TH Q (pc + 3) lo st (am_up I i j k x)) : am_J G d M TH Q pc lo (.inl x :: .inr (i, j) :: st) I := am_putV (v := .inl x) hd hf hm (am_nz hx01).1 (am_nz hx01).2.1 hl hs hk
/-- the node of the try -/
theorem am_putN {idx i : Nat} (hd : decode M.2.1 pc = .ok (.putfield idx, 3)) (hf : am_fp M.1.cls idx 15 8 (.object RX7)) (hm : (0, 15) ∈ G.2.2.2.2) (hi : i < 2 ^ 31)
    (hk : am_J G d M TH Q (pc + 3) lo st (am_up I 0 15 8 (nI i))) : am_J G d M TH Q pc lo (.inr (i, 40) :: .inr (0, 15) :: st) I := by
  refine am_putV (v := .inr (i, 40)) hd hf hm rfl rfl (by show 8 < 17; omega) ?_ hk
  simp [am_fs, am_val, upd, nI_clamp hi]
theorem am_iald {i j a : Nat} {x : Int32} (hd : decode M.2.1 pc = .ok (.iaload, 1)) (hm : (i, j) ∈ G.2.2.2.2) (hkj : am_k j = 1) (hxa : x = nI a) (ha : a < am_len G.2.2.2.1 j) (h31 : am_len G.2.2.2.1 j < 2 ^ 31)
    (hk : am_J G d M TH Q (pc + 1) lo (.inl (I i j a) :: st) I) : am_J G d M TH Q pc lo (.inl x :: .inr (i, j) :: st) I := by
  intro p e R s m args below meth c A Z cells slots H locs ls X hH hL
  obtain ⟨hx, hb, hr, hml, hown, hts, hlocks⟩ := X.1
  obtain ⟨q, -, hw⟩ := am_at hm I
  rw [am_cell1 hkj] at hw
  subst hxa
  refine va_iald hx hb X.2.1.2.1 hH.1 q 0 hw rfl (vp_in_nI ha h31) hd ?_
  rw [nI_clamp (Nat.lt_trans ha h31)]
  exact hk p e R s m args below meth c A Z cells slots H locs ls X hH hL
theorem am_zald {i j a : Nat} {x : Int32} (hd : decode M.2.1 pc = .ok (.baload, 1)) (hm : (i, j) ∈ G.2.2.2.2) (hkj : am_k j = 2) (hxa : x = nI a) (ha : a < am_len G.2.2.2.1 j) (h31 : am_len G.2.2.2.1 j < 2 ^ 31)
    (hk : am_J G d M TH Q (pc + 1) lo (.inl (I i j a) :: st) I) : am_J G d M TH Q pc lo (.inl x :: .inr (i, j) :: st) I := by
  intro p e R s m args below meth c A Z cells slots H locs ls X hH hL
  obtain ⟨hx, hb, hr, hml, hown, hts, hlocks⟩ := X.1
  obtain ⟨q, -, hw⟩ := am_at hm I
  rw [am_cell2 hkj] at hw
  subst hxa
  refine va_zald hx hb X.2.1.2.1 hH.1 q 1 hw rfl (vp_in_nI ha h31) hd ?_
  rw [nI_clamp (Nat.lt_trans ha h31)]
  exact hk p e R s m args below meth c A Z cells slots H locs ls X hH hL
theorem am_aald {i j a : Nat} {x : Int32} (hd : decode M.2.1 pc = .ok (.aaload, 1)) (hm : (i, j) ∈ G.2.2.2.2) (hkj : am_k j = 3) (hxa : x = nI a) (ha : a < G.2.2.2.1) (h31 : G.2.2.2.1 < 2 ^ 31)
    (hk : am_J G d M TH Q (pc + 1) lo (.inr (a, 40) :: st) I) : am_J G d M TH Q pc lo (.inl x :: .inr (i, j) :: st) I := by
  intro p e R s m args below meth c A Z cells slots H locs ls X hH hL
  obtain ⟨hx, hb, hr, hml, hown, hts, hlocks⟩ := X.1
  obtain ⟨q, -, hw⟩ := am_at hm I
  rw [am_cell3 hkj] at hw
  subst hxa
  refine va_aldq hx hb X.2.1.2.1 hH.1 q 2 hw rfl (vp_in_nI ha h31) hd ?_
  rw [nI_clamp (Nat.lt_trans ha h31)]
  exact hk p e R s m args below meth c A Z cells slots H locs ls X hH hL
theorem am_iast {i j a : Nat} {x y : Int32} (hd : decode M.2.1 pc = .ok (.iastore, 1)) (hm : (i, j) ∈ G.2.2.2.2) (hkj : am_k j = 1) (hxa : x = nI a) (ha : a < am_len G.2.2.2.1 j) (h31 : am_len G.2.2.2.1 j < 2 ^ 31)
    (hk : am_J G d M TH Q (pc + 1) lo st (am_up I i j a y)) : am_J G d M TH Q pc lo (.inl y :: .inl x :: .inr (i, j) :: st) I := by
  intro p e R s m args below meth c A Z cells slots H locs ls X hH hL
  obtain ⟨hx, hb, hr, hml, hown, hts, hlocks⟩ := X.1
  obtain ⟨q, hq, hw⟩ := am_at hm I
  rw [am_cell1 hkj] at hw
  subst hxa
  refine va_iast hx hb X.2.1.2.1 hH.1 hH.2.1 hH.2.2 q 0 hw rfl (vp_in_nI ha h31) hd (fun H1 locs1 hP hD hS => ?_)
  rw [nI_clamp (Nat.lt_trans ha h31), ← am_cell1 (i := i) hkj, am_set X.2.1.2.2.2.1 hq] at hP hD
  exact hk p e R s m args below meth c A Z cells slots H1 locs1 ls X ⟨hP, hD, hS⟩ hL
theorem am_zast {i j a : Nat} {x y : Int32} (hd : decode M.2.1 pc = .ok (.bastore, 1)) (hm : (i, j) ∈ G.2.2.2.2) (hkj : am_k j = 2) (hy : y = 0 ∨ y = 1) (hxa : x = nI a) (ha : a < am_len G.2.2.2.1 j) (h31 : am_len G.2.2.2.1 j < 2 ^ 31)
    (hk : am_J G d M TH Q (pc + 1) lo st (am_up I i j a y)) : am_J G d M TH Q pc lo (.inl y :: .inl x :: .inr (i, j) :: st) I := by
  intro p e R s m args below meth c A Z cells slots H locs ls X hH hL
  obtain ⟨hx, hb, hr, hml, hown, hts, hlocks⟩ := X.1
  obtain ⟨q, hq, hw⟩ := am_at hm I
  rw [am_cell2 hkj] at hw
  subst hxa
  refine va_zast hx hb X.2.1.2.1 hH.1 hH.2.1 hH.2.2 q 1 hw rfl (vp_in_nI ha h31) hd (fun H1 locs1 hP hD hS => ?_)
  rw [nI_clamp (Nat.lt_trans ha h31), (am_nz hy).2.2, ← am_cell2 (i := i) hkj, am_set X.2.1.2.2.2.1 hq] at hP hD
  exact hk p e R s m args below meth c A Z cells slots H1 locs1 ls X ⟨hP, hD, hS⟩ hL
theorem am_alen1 {i j : Nat} (hd : decode M.2.1 pc = .ok (.arraylength, 1)) (hm : (i, j) ∈ G.2.2.2.2) (hkj : am_k j = 1)
    (hk : am_J G d M TH Q (pc + 1) lo (.inl (nI (am_len G.2.2.2.1 j)) :: st) I) : am_J G d M TH Q pc lo (.inr (i, j) :: st) I := by
  intro p e R s m args below meth c A Z cells slots H locs ls X hH hL
  obtain ⟨hx, hb, hr, hml, hown, hts, hlocks⟩ := X.1
  obtain ⟨q, -, hw⟩ := am_at hm I
  rw [am_cell1 hkj] at hw
  exact va_alen hx hb X.2.1.2.1 hH.1 q 0 hw (ty := .int) rfl rfl hd (hk p e R s m args below meth c A Z cells slots H locs ls X hH hL)
theorem am_alen3 {i j : Nat} (hd : decode M.2.1 pc = .ok (.arraylength, 1)) (hm : (i, j) ∈ G.2.2.2.2) (hkj : am_k j = 3)
    (hk : am_J G d M TH Q (pc + 1) lo (.inl (nI G.2.2.2.1) :: st) I) : am_J G d M TH Q pc lo (.inr (i, j) :: st) I := by
  intro p e R s m args below meth c A Z cells slots H locs ls X hH hL
  obtain ⟨hx, hb, hr, hml, hown, hts, hlocks⟩ := X.1
  obtain ⟨q, -, hw⟩ := am_at hm I
  rw [am_cell3 hkj] at hw
  exact va_alen hx hb X.2.1.2.1 hH.1 q 2 hw (ty := .object RX7) rfl rfl hd (hk p e R s m args below meth c A Z cells slots H locs ls X hH hL)
-- the ends
theorem am_iret {v : Int32} {ty : FieldType} (hd : decode M.2.1 pc = .ok (.ireturn, 1)) (ht : M.2.2.2 = some ty) (hn : narrow ty (.int v) = .int v) (hq : Q (some v) I) : am_J G d M TH Q pc lo [.inl v] I := by
  intro p e R s m args below meth c A Z cells slots H locs ls X hH hL
  obtain ⟨hx, hb, hr, hml, hown, hts, hlocks⟩ := X.1
  exact X.2.2.2.1 (some v) I H locs _ (by rw [ht]; rfl) hq hH (W.zret hx hb (hr.trans ht) hn (fun t ht hW => ⟨rfl, ht, hW⟩) hH.2.2.2.2 hd hlocks)
theorem am_vret (hd : decode M.2.1 pc = .ok (.return_, 1)) (ht : M.2.2.2 = none) (hq : Q none I) : am_J G d M TH Q pc lo [] I := by
  intro p e R s m args below meth c A Z cells slots H locs ls X hH hL
  obtain ⟨hx, hb, hr, hml, hown, hts, hlocks⟩ := X.1
  exact X.2.2.2.1 none I H locs _ (by rw [ht]; rfl) hq hH (W.vret hx hb (hr.trans ht) (fun t ht hW => ⟨rfl, ht, hW⟩) hH.2.2.2.2 hd hlocks)
end AMH
