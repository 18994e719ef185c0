
def rI5 (y : Nat) (I0 : am_I) : am_I := am_up (am_up (am_up (am_up (am_up I0 0 15 8 (nI y)) 0 15 9 (nI 0)) 0 15 10 (nI 0)) 0 15 13 (-1 : Int32)) 0 15 16 (-1 : Int32)
def rJ7 (y : Nat) (J0 : am_I) : am_I := am_up (am_up (am_up (am_up (am_up (am_up (am_up J0 0 60 51 (nI y)) 0 60 52 (-1 : Int32)) 0 60 53 (nI 0)) 0 60 54 (nI 0)) 0 60 55 (nI 0)) 0 60 56 (nI 0)) 0 60 61 (nI 0)
/-- a number below m -/
def nlt (m : Nat) (x : Int32) : Prop := ∃ t : Nat, t < m ∧ x = nI t
/-- what a call has -/
def VA (k a b c d : Int32) : Prop :=
  ((k = nI 0 ∨ k = nI 2) ∧ nlt 128 a ∧ ¬ b = nI 0) ∨ (k = nI 1 ∧ nlt 128 a ∧ ¬ b = nI 0 ∧ (c = nI 1 ∨ c = nI 2)) ∨ (k = nI 3 ∧ nlt 128 a ∧ ¬ b = nI 0 ∧ nlt 128 c) ∨ (k = nI 4 ∧ nlt 128 a ∧ ¬ b = nI 0 ∧ nlt 128 c ∧ ¬ d = nI 0)
  ∨ ((k = nI 5 ∨ k = nI 6 ∨ k = nI 11) ∧ nlt 128 a ∧ nlt 384 b) ∨ (k = nI 7 ∧ nlt 128 a ∧ nlt 385 b) ∨ (k = nI 8 ∧ nlt 128 a ∧ nlt 192 b) ∨ (k = nI 9 ∧ nlt 128 a ∧ nlt 4 b) ∨ ((k = nI 12 ∨ k = nI 13) ∧ nlt 128 a) ∨ k = nI 10 ∨ k = nI 14
section RUN
variable {n y : Nat} {Hd : Nat → Int} {F0 : (Nat → Nat) → wS} {I0 J0 : am_I}
theorem r_e5 {v : Int32} (hk : I0 y 55 0 = v) : rI5 y I0 y 55 0 = v := by
  unfold rI5
  simp (disch := omega) only [z_upj]
  exact hk
theorem r_e7 {j : Nat} {v : Int32} (hy : y < 4) (hj : ¬ j = 60) (hk : J0 0 j y = v) : rJ7 y J0 0 j (nI y).toNatClampNeg = v := by
  unfold rJ7
  simp (disch := omega) only [z_upj, z_clamp]
  exact hk
theorem r_g4 (hy : y < 4) : am_inb (nI y) 4 = true := by
  rw [z_inb (by omega)]
  exact decide_eq_true hy
theorem rk_0 (hk : I0 y 55 0 = nI 0) : gX9_run n y I0 = (gX9_seek n y (rI5 y I0)).bind (fun q => bX9_run_203 n q) := by
  have h : ∀ j : Nat, ¬ nI 0 = nI j → ¬ rI5 y I0 y 55 0 = nI j := fun j hj => by rw [r_e5 hk]; exact hj
  exact if_pos (r_e5 hk)
theorem ra_0 (hy : y < 4) (hk : J0 0 82 y = nI 0) : gX11_attempt n (nI y) J0 = gX11_tryLook n (J0 0 83 y) (J0 0 84 y) (rJ7 y J0) := by
  have g := r_g4 hy
  have h : ∀ j : Nat, ¬ nI 0 = nI j → ¬ rJ7 y J0 0 82 (nI y).toNatClampNeg = nI j := fun j hj => by rw [r_e7 hy (by decide) hk]; exact hj
  refine (am_gd_of g).trans ((am_gd_of g).trans ((am_gd_of g).trans ((am_gd_of g).trans ((if_pos (r_e7 hy (by decide) hk)).trans (?_)))))
  show (gX11_tryLook n (rJ7 y J0 0 83 (nI y).toNatClampNeg) (rJ7 y J0 0 84 (nI y).toNatClampNeg) (rJ7 y J0)).bind (fun q => some q) = _
  rw [r_e7 hy (by decide) (rfl : J0 0 83 y = J0 0 83 y), r_e7 hy (by decide) (rfl : J0 0 84 y = J0 0 84 y), z_bs]
theorem rk_1 (hk : I0 y 55 0 = nI 1) : gX9_run n y I0 = (gX9_make n y (rI5 y I0)).bind (fun q => bX9_run_203 n q) := by
  have h : ∀ j : Nat, ¬ nI 1 = nI j → ¬ rI5 y I0 y 55 0 = nI j := fun j hj => by rw [r_e5 hk]; exact hj
  exact (if_neg (h 0 (by decide))).trans (if_pos (r_e5 hk))
theorem ra_1 (hy : y < 4) (hk : J0 0 82 y = nI 1) : gX11_attempt n (nI y) J0 = gX11_tryMake n (J0 0 83 y) (J0 0 84 y) (J0 0 85 y) (rJ7 y J0) := by
  have g := r_g4 hy
  have h : ∀ j : Nat, ¬ nI 1 = nI j → ¬ rJ7 y J0 0 82 (nI y).toNatClampNeg = nI j := fun j hj => by rw [r_e7 hy (by decide) hk]; exact hj
  refine (am_gd_of g).trans ((am_gd_of g).trans ((am_gd_of g).trans ((am_gd_of g).trans ((if_neg (h 0 (by decide))).trans ((if_pos (r_e7 hy (by decide) hk)).trans (?_))))))
  show (gX11_tryMake n (rJ7 y J0 0 83 (nI y).toNatClampNeg) (rJ7 y J0 0 84 (nI y).toNatClampNeg) (rJ7 y J0 0 85 (nI y).toNatClampNeg) (rJ7 y J0)).bind (fun q => some q) = _
  rw [r_e7 hy (by decide) (rfl : J0 0 83 y = J0 0 83 y), r_e7 hy (by decide) (rfl : J0 0 84 y = J0 0 84 y), r_e7 hy (by decide) (rfl : J0 0 85 y = J0 0 85 y), z_bs]
theorem rk_2 (hk : I0 y 55 0 = nI 2) : gX9_run n y I0 = (gX9_remove n y (rI5 y I0)).bind (fun q => bX9_run_203 n q) := by
  have h : ∀ j : Nat, ¬ nI 2 = nI j → ¬ rI5 y I0 y 55 0 = nI j := fun j hj => by rw [r_e5 hk]; exact hj
  exact (if_neg (h 0 (by decide))).trans ((if_neg (h 1 (by decide))).trans (if_pos (r_e5 hk)))
theorem ra_2 (hy : y < 4) (hk : J0 0 82 y = nI 2) : gX11_attempt n (nI y) J0 = gX11_tryRemove n (J0 0 83 y) (J0 0 84 y) (rJ7 y J0) := by
  have g := r_g4 hy
  have h : ∀ j : Nat, ¬ nI 2 = nI j → ¬ rJ7 y J0 0 82 (nI y).toNatClampNeg = nI j := fun j hj => by rw [r_e7 hy (by decide) hk]; exact hj
  refine (am_gd_of g).trans ((am_gd_of g).trans ((am_gd_of g).trans ((am_gd_of g).trans ((if_neg (h 0 (by decide))).trans ((if_neg (h 1 (by decide))).trans ((if_pos (r_e7 hy (by decide) hk)).trans (?_)))))))
  show (gX11_tryRemove n (rJ7 y J0 0 83 (nI y).toNatClampNeg) (rJ7 y J0 0 84 (nI y).toNatClampNeg) (rJ7 y J0)).bind (fun q => some q) = _
  rw [r_e7 hy (by decide) (rfl : J0 0 83 y = J0 0 83 y), r_e7 hy (by decide) (rfl : J0 0 84 y = J0 0 84 y), z_bs]
theorem rk_3 (hk : I0 y 55 0 = nI 3) : gX9_run n y I0 = (gX9_link n y (rI5 y I0)).bind (fun q => bX9_run_203 n q) := by
  have h : ∀ j : Nat, ¬ nI 3 = nI j → ¬ rI5 y I0 y 55 0 = nI j := fun j hj => by rw [r_e5 hk]; exact hj
  exact (if_neg (h 0 (by decide))).trans ((if_neg (h 1 (by decide))).trans ((if_neg (h 2 (by decide))).trans (if_pos (r_e5 hk))))
theorem ra_3 (hy : y < 4) (hk : J0 0 82 y = nI 3) : gX11_attempt n (nI y) J0 = gX11_tryLink n (J0 0 83 y) (J0 0 84 y) (J0 0 85 y) (rJ7 y J0) := by
  have g := r_g4 hy
  have h : ∀ j : Nat, ¬ nI 3 = nI j → ¬ rJ7 y J0 0 82 (nI y).toNatClampNeg = nI j := fun j hj => by rw [r_e7 hy (by decide) hk]; exact hj
  refine (am_gd_of g).trans ((am_gd_of g).trans ((am_gd_of g).trans ((am_gd_of g).trans ((if_neg (h 0 (by decide))).trans ((if_neg (h 1 (by decide))).trans ((if_neg (h 2 (by decide))).trans ((if_pos (r_e7 hy (by decide) hk)).trans (?_))))))))
  show (gX11_tryLink n (rJ7 y J0 0 83 (nI y).toNatClampNeg) (rJ7 y J0 0 84 (nI y).toNatClampNeg) (rJ7 y J0 0 85 (nI y).toNatClampNeg) (rJ7 y J0)).bind (fun q => some q) = _
  rw [r_e7 hy (by decide) (rfl : J0 0 83 y = J0 0 83 y), r_e7 hy (by decide) (rfl : J0 0 84 y = J0 0 84 y), r_e7 hy (by decide) (rfl : J0 0 85 y = J0 0 85 y), z_bs]
theorem rk_4 (hk : I0 y 55 0 = nI 4) : gX9_run n y I0 = (gX9_rename n y (rI5 y I0)).bind (fun q => bX9_run_203 n q) := by
  have h : ∀ j : Nat, ¬ nI 4 = nI j → ¬ rI5 y I0 y 55 0 = nI j := fun j hj => by rw [r_e5 hk]; exact hj
  exact (if_neg (h 0 (by decide))).trans ((if_neg (h 1 (by decide))).trans ((if_neg (h 2 (by decide))).trans ((if_neg (h 3 (by decide))).trans (if_pos (r_e5 hk)))))
theorem ra_4 (hy : y < 4) (hk : J0 0 82 y = nI 4) : gX11_attempt n (nI y) J0 = gX11_tryRename n (J0 0 83 y) (J0 0 84 y) (J0 0 85 y) (J0 0 86 y) (rJ7 y J0) := by
  have g := r_g4 hy
  have h : ∀ j : Nat, ¬ nI 4 = nI j → ¬ rJ7 y J0 0 82 (nI y).toNatClampNeg = nI j := fun j hj => by rw [r_e7 hy (by decide) hk]; exact hj
  refine (am_gd_of g).trans ((am_gd_of g).trans ((am_gd_of g).trans ((am_gd_of g).trans ((if_neg (h 0 (by decide))).trans ((if_neg (h 1 (by decide))).trans ((if_neg (h 2 (by decide))).trans ((if_neg (h 3 (by decide))).trans ((if_pos (r_e7 hy (by decide) hk)).trans ((am_gd_of g).trans (?_))))))))))
  show (gX11_tryRename n (rJ7 y J0 0 83 (nI y).toNatClampNeg) (rJ7 y J0 0 84 (nI y).toNatClampNeg) (rJ7 y J0 0 85 (nI y).toNatClampNeg) (rJ7 y J0 0 86 (nI y).toNatClampNeg) (rJ7 y J0)).bind (fun q => some q) = _
  rw [r_e7 hy (by decide) (rfl : J0 0 83 y = J0 0 83 y), r_e7 hy (by decide) (rfl : J0 0 84 y = J0 0 84 y), r_e7 hy (by decide) (rfl : J0 0 85 y = J0 0 85 y), r_e7 hy (by decide) (rfl : J0 0 86 y = J0 0 86 y), z_bs]
theorem rk_5 (hk : I0 y 55 0 = nI 5) : gX9_run n y I0 = (gX9_readWord n y (rI5 y I0)).bind (fun q => bX9_run_203 n q) := by
  have h : ∀ j : Nat, ¬ nI 5 = nI j → ¬ rI5 y I0 y 55 0 = nI j := fun j hj => by rw [r_e5 hk]; exact hj
  exact (if_neg (h 0 (by decide))).trans ((if_neg (h 1 (by decide))).trans ((if_neg (h 2 (by decide))).trans ((if_neg (h 3 (by decide))).trans ((if_neg (h 4 (by decide))).trans (if_pos (r_e5 hk))))))
theorem ra_5 (hy : y < 4) (hk : J0 0 82 y = nI 5) : gX11_attempt n (nI y) J0 = gX11_tryRead n (J0 0 83 y) (J0 0 84 y) (rJ7 y J0) := by
  have g := r_g4 hy
  have h : ∀ j : Nat, ¬ nI 5 = nI j → ¬ rJ7 y J0 0 82 (nI y).toNatClampNeg = nI j := fun j hj => by rw [r_e7 hy (by decide) hk]; exact hj
  refine (am_gd_of g).trans ((am_gd_of g).trans ((am_gd_of g).trans ((am_gd_of g).trans ((if_neg (h 0 (by decide))).trans ((if_neg (h 1 (by decide))).trans ((if_neg (h 2 (by decide))).trans ((if_neg (h 3 (by decide))).trans ((if_neg (h 4 (by decide))).trans ((if_pos (r_e7 hy (by decide) hk)).trans (?_))))))))))
  show gX11_tryRead n (rJ7 y J0 0 83 (nI y).toNatClampNeg) (rJ7 y J0 0 84 (nI y).toNatClampNeg) (rJ7 y J0) = _
  rw [r_e7 hy (by decide) (rfl : J0 0 83 y = J0 0 83 y), r_e7 hy (by decide) (rfl : J0 0 84 y = J0 0 84 y)]
theorem rk_6 (hk : I0 y 55 0 = nI 6) : gX9_run n y I0 = (gX9_writeWord n y (rI5 y I0)).bind (fun q => bX9_run_203 n q) := by
  have h : ∀ j : Nat, ¬ nI 6 = nI j → ¬ rI5 y I0 y 55 0 = nI j := fun j hj => by rw [r_e5 hk]; exact hj
  exact (if_neg (h 0 (by decide))).trans ((if_neg (h 1 (by decide))).trans ((if_neg (h 2 (by decide))).trans ((if_neg (h 3 (by decide))).trans ((if_neg (h 4 (by decide))).trans ((if_neg (h 5 (by decide))).trans (if_pos (r_e5 hk)))))))
theorem ra_6 (hy : y < 4) (hk : J0 0 82 y = nI 6) : gX11_attempt n (nI y) J0 = gX11_tryWrite n (J0 0 83 y) (J0 0 84 y) (J0 0 85 y) (nI 0) (rJ7 y J0) := by
  have g := r_g4 hy
  have h : ∀ j : Nat, ¬ nI 6 = nI j → ¬ rJ7 y J0 0 82 (nI y).toNatClampNeg = nI j := fun j hj => by rw [r_e7 hy (by decide) hk]; exact hj
  refine (am_gd_of g).trans ((am_gd_of g).trans ((am_gd_of g).trans ((am_gd_of g).trans ((if_neg (h 0 (by decide))).trans ((if_neg (h 1 (by decide))).trans ((if_neg (h 2 (by decide))).trans ((if_neg (h 3 (by decide))).trans ((if_neg (h 4 (by decide))).trans ((if_neg (h 5 (by decide))).trans ((if_pos (r_e7 hy (by decide) hk)).trans ((am_gd_of g).trans ((if_neg (h 11 (by decide))).trans (?_)))))))))))))
  show (gX11_tryWrite n (rJ7 y J0 0 83 (nI y).toNatClampNeg) (rJ7 y J0 0 84 (nI y).toNatClampNeg) (rJ7 y J0 0 85 (nI y).toNatClampNeg) (nI 0) (rJ7 y J0)).bind (fun q => some q) = _
  rw [r_e7 hy (by decide) (rfl : J0 0 83 y = J0 0 83 y), r_e7 hy (by decide) (rfl : J0 0 84 y = J0 0 84 y), r_e7 hy (by decide) (rfl : J0 0 85 y = J0 0 85 y), z_bs]
theorem rk_7 (hk : I0 y 55 0 = nI 7) : gX9_run n y I0 = (gX9_cut n y (rI5 y I0)).bind (fun q => bX9_run_203 n q) := by
  have h : ∀ j : Nat, ¬ nI 7 = nI j → ¬ rI5 y I0 y 55 0 = nI j := fun j hj => by rw [r_e5 hk]; exact hj
  exact (if_neg (h 0 (by decide))).trans ((if_neg (h 1 (by decide))).trans ((if_neg (h 2 (by decide))).trans ((if_neg (h 3 (by decide))).trans ((if_neg (h 4 (by decide))).trans ((if_neg (h 5 (by decide))).trans ((if_neg (h 6 (by decide))).trans (if_pos (r_e5 hk))))))))
theorem ra_7 (hy : y < 4) (hk : J0 0 82 y = nI 7) : gX11_attempt n (nI y) J0 = gX11_tryCut n (J0 0 83 y) (J0 0 84 y) (rJ7 y J0) := by
  have g := r_g4 hy
  have h : ∀ j : Nat, ¬ nI 7 = nI j → ¬ rJ7 y J0 0 82 (nI y).toNatClampNeg = nI j := fun j hj => by rw [r_e7 hy (by decide) hk]; exact hj
  refine (am_gd_of g).trans ((am_gd_of g).trans ((am_gd_of g).trans ((am_gd_of g).trans ((if_neg (h 0 (by decide))).trans ((if_neg (h 1 (by decide))).trans ((if_neg (h 2 (by decide))).trans ((if_neg (h 3 (by decide))).trans ((if_neg (h 4 (by decide))).trans ((if_neg (h 5 (by decide))).trans ((if_neg (h 6 (by decide))).trans ((if_pos (r_e7 hy (by decide) hk)).trans (?_))))))))))))
  show (gX11_tryCut n (rJ7 y J0 0 83 (nI y).toNatClampNeg) (rJ7 y J0 0 84 (nI y).toNatClampNeg) (rJ7 y J0)).bind (fun q => some q) = _
  rw [r_e7 hy (by decide) (rfl : J0 0 83 y = J0 0 83 y), r_e7 hy (by decide) (rfl : J0 0 84 y = J0 0 84 y), z_bs]
theorem rk_8 (hk : I0 y 55 0 = nI 8) : gX9_run n y I0 = (gX9_entry n y (rI5 y I0)).bind (fun q => bX9_run_203 n q) := by
  have h : ∀ j : Nat, ¬ nI 8 = nI j → ¬ rI5 y I0 y 55 0 = nI j := fun j hj => by rw [r_e5 hk]; exact hj
  exact (if_neg (h 0 (by decide))).trans ((if_neg (h 1 (by decide))).trans ((if_neg (h 2 (by decide))).trans ((if_neg (h 3 (by decide))).trans ((if_neg (h 4 (by decide))).trans ((if_neg (h 5 (by decide))).trans ((if_neg (h 6 (by decide))).trans ((if_neg (h 7 (by decide))).trans (if_pos (r_e5 hk)))))))))
theorem ra_8 (hy : y < 4) (hk : J0 0 82 y = nI 8) : gX11_attempt n (nI y) J0 = gX11_tryEntry n (J0 0 83 y) (J0 0 84 y) (rJ7 y J0) := by
  have g := r_g4 hy
  have h : ∀ j : Nat, ¬ nI 8 = nI j → ¬ rJ7 y J0 0 82 (nI y).toNatClampNeg = nI j := fun j hj => by rw [r_e7 hy (by decide) hk]; exact hj
  refine (am_gd_of g).trans ((am_gd_of g).trans ((am_gd_of g).trans ((am_gd_of g).trans ((if_neg (h 0 (by decide))).trans ((if_neg (h 1 (by decide))).trans ((if_neg (h 2 (by decide))).trans ((if_neg (h 3 (by decide))).trans ((if_neg (h 4 (by decide))).trans ((if_neg (h 5 (by decide))).trans ((if_neg (h 6 (by decide))).trans ((if_neg (h 7 (by decide))).trans ((if_pos (r_e7 hy (by decide) hk)).trans (?_)))))))))))))
  show (gX11_tryEntry n (rJ7 y J0 0 83 (nI y).toNatClampNeg) (rJ7 y J0 0 84 (nI y).toNatClampNeg) (rJ7 y J0)).bind (fun q => some q) = _
  rw [r_e7 hy (by decide) (rfl : J0 0 83 y = J0 0 83 y), r_e7 hy (by decide) (rfl : J0 0 84 y = J0 0 84 y), z_bs]
theorem rk_9 (hk : I0 y 55 0 = nI 9) : gX9_run n y I0 = (gX9_stat n y (rI5 y I0)).bind (fun q => bX9_run_203 n q) := by
  have h : ∀ j : Nat, ¬ nI 9 = nI j → ¬ rI5 y I0 y 55 0 = nI j := fun j hj => by rw [r_e5 hk]; exact hj
  exact (if_neg (h 0 (by decide))).trans ((if_neg (h 1 (by decide))).trans ((if_neg (h 2 (by decide))).trans ((if_neg (h 3 (by decide))).trans ((if_neg (h 4 (by decide))).trans ((if_neg (h 5 (by decide))).trans ((if_neg (h 6 (by decide))).trans ((if_neg (h 7 (by decide))).trans ((if_neg (h 8 (by decide))).trans (if_pos (r_e5 hk))))))))))
theorem ra_9 (hy : y < 4) (hk : J0 0 82 y = nI 9) : gX11_attempt n (nI y) J0 = gX11_tryStat n (J0 0 83 y) (J0 0 84 y) (rJ7 y J0) := by
  have g := r_g4 hy
  have h : ∀ j : Nat, ¬ nI 9 = nI j → ¬ rJ7 y J0 0 82 (nI y).toNatClampNeg = nI j := fun j hj => by rw [r_e7 hy (by decide) hk]; exact hj
  refine (am_gd_of g).trans ((am_gd_of g).trans ((am_gd_of g).trans ((am_gd_of g).trans ((if_neg (h 0 (by decide))).trans ((if_neg (h 1 (by decide))).trans ((if_neg (h 2 (by decide))).trans ((if_neg (h 3 (by decide))).trans ((if_neg (h 4 (by decide))).trans ((if_neg (h 5 (by decide))).trans ((if_neg (h 6 (by decide))).trans ((if_neg (h 7 (by decide))).trans ((if_neg (h 8 (by decide))).trans ((if_pos (r_e7 hy (by decide) hk)).trans (?_))))))))))))))
  show (gX11_tryStat n (rJ7 y J0 0 83 (nI y).toNatClampNeg) (rJ7 y J0 0 84 (nI y).toNatClampNeg) (rJ7 y J0)).bind (fun q => some q) = _
  rw [r_e7 hy (by decide) (rfl : J0 0 83 y = J0 0 83 y), r_e7 hy (by decide) (rfl : J0 0 84 y = J0 0 84 y), z_bs]
theorem rk_11 (hk : I0 y 55 0 = nI 11) : gX9_run n y I0 = (gX9_writeWord n y (rI5 y I0)).bind (fun q => bX9_run_203 n q) := by
  have h : ∀ j : Nat, ¬ nI 11 = nI j → ¬ rI5 y I0 y 55 0 = nI j := fun j hj => by rw [r_e5 hk]; exact hj
  exact (if_neg (h 0 (by decide))).trans ((if_neg (h 1 (by decide))).trans ((if_neg (h 2 (by decide))).trans ((if_neg (h 3 (by decide))).trans ((if_neg (h 4 (by decide))).trans ((if_neg (h 5 (by decide))).trans ((if_neg (h 6 (by decide))).trans ((if_neg (h 7 (by decide))).trans ((if_neg (h 8 (by decide))).trans ((if_neg (h 9 (by decide))).trans ((if_neg (h 10 (by decide))).trans (if_pos (r_e5 hk))))))))))))
theorem ra_11 (hy : y < 4) (hk : J0 0 82 y = nI 11) : gX11_attempt n (nI y) J0 = gX11_tryWrite n (J0 0 83 y) (J0 0 84 y) (J0 0 85 y) (nI 1) (rJ7 y J0) := by
  have g := r_g4 hy
  have h : ∀ j : Nat, ¬ nI 11 = nI j → ¬ rJ7 y J0 0 82 (nI y).toNatClampNeg = nI j := fun j hj => by rw [r_e7 hy (by decide) hk]; exact hj
  refine (am_gd_of g).trans ((am_gd_of g).trans ((am_gd_of g).trans ((am_gd_of g).trans ((if_neg (h 0 (by decide))).trans ((if_neg (h 1 (by decide))).trans ((if_neg (h 2 (by decide))).trans ((if_neg (h 3 (by decide))).trans ((if_neg (h 4 (by decide))).trans ((if_neg (h 5 (by decide))).trans ((if_neg (h 6 (by decide))).trans ((if_neg (h 7 (by decide))).trans ((if_neg (h 8 (by decide))).trans ((if_neg (h 9 (by decide))).trans ((if_neg (h 10 (by decide))).trans ((if_pos (r_e7 hy (by decide) hk)).trans ((am_gd_of g).trans ((if_pos (r_e7 hy (by decide) hk)).trans (?_))))))))))))))))))
  show (gX11_tryWrite n (rJ7 y J0 0 83 (nI y).toNatClampNeg) (rJ7 y J0 0 84 (nI y).toNatClampNeg) (rJ7 y J0 0 85 (nI y).toNatClampNeg) (nI 1) (rJ7 y J0)).bind (fun q => some q) = _
  rw [r_e7 hy (by decide) (rfl : J0 0 83 y = J0 0 83 y), r_e7 hy (by decide) (rfl : J0 0 84 y = J0 0 84 y), r_e7 hy (by decide) (rfl : J0 0 85 y = J0 0 85 y), z_bs]
theorem rk_12 (hk : I0 y 55 0 = nI 12) : gX9_run n y I0 = (gX9_writeWord n y (rI5 y I0)).bind (fun q => bX9_run_203 n q) := by
  have h : ∀ j : Nat, ¬ nI 12 = nI j → ¬ rI5 y I0 y 55 0 = nI j := fun j hj => by rw [r_e5 hk]; exact hj
  exact (if_neg (h 0 (by decide))).trans ((if_neg (h 1 (by decide))).trans ((if_neg (h 2 (by decide))).trans ((if_neg (h 3 (by decide))).trans ((if_neg (h 4 (by decide))).trans ((if_neg (h 5 (by decide))).trans ((if_neg (h 6 (by decide))).trans ((if_neg (h 7 (by decide))).trans ((if_neg (h 8 (by decide))).trans ((if_neg (h 9 (by decide))).trans ((if_neg (h 10 (by decide))).trans ((if_neg (h 11 (by decide))).trans (if_pos (r_e5 hk)))))))))))))
theorem ra_12 (hy : y < 4) (hk : J0 0 82 y = nI 12) : gX11_attempt n (nI y) J0 = gX11_tryAppend n (J0 0 83 y) (J0 0 84 y) (rJ7 y J0) := by
  have g := r_g4 hy
  have h : ∀ j : Nat, ¬ nI 12 = nI j → ¬ rJ7 y J0 0 82 (nI y).toNatClampNeg = nI j := fun j hj => by rw [r_e7 hy (by decide) hk]; exact hj
  refine (am_gd_of g).trans ((am_gd_of g).trans ((am_gd_of g).trans ((am_gd_of g).trans ((if_neg (h 0 (by decide))).trans ((if_neg (h 1 (by decide))).trans ((if_neg (h 2 (by decide))).trans ((if_neg (h 3 (by decide))).trans ((if_neg (h 4 (by decide))).trans ((if_neg (h 5 (by decide))).trans ((if_neg (h 6 (by decide))).trans ((if_neg (h 7 (by decide))).trans ((if_neg (h 8 (by decide))).trans ((if_neg (h 9 (by decide))).trans ((if_neg (h 10 (by decide))).trans ((if_neg (h 11 (by decide))).trans ((if_pos (r_e7 hy (by decide) hk)).trans (?_)))))))))))))))))
  show (gX11_tryAppend n (rJ7 y J0 0 83 (nI y).toNatClampNeg) (rJ7 y J0 0 84 (nI y).toNatClampNeg) (rJ7 y J0)).bind (fun q => some q) = _
  rw [r_e7 hy (by decide) (rfl : J0 0 83 y = J0 0 83 y), r_e7 hy (by decide) (rfl : J0 0 84 y = J0 0 84 y), z_bs]
theorem rk_13 (hk : I0 y 55 0 = nI 13) : gX9_run n y I0 = (gX9_count n y (rI5 y I0)).bind (fun q => bX9_run_203 n q) := by
  have h : ∀ j : Nat, ¬ nI 13 = nI j → ¬ rI5 y I0 y 55 0 = nI j := fun j hj => by rw [r_e5 hk]; exact hj
  exact (if_neg (h 0 (by decide))).trans ((if_neg (h 1 (by decide))).trans ((if_neg (h 2 (by decide))).trans ((if_neg (h 3 (by decide))).trans ((if_neg (h 4 (by decide))).trans ((if_neg (h 5 (by decide))).trans ((if_neg (h 6 (by decide))).trans ((if_neg (h 7 (by decide))).trans ((if_neg (h 8 (by decide))).trans ((if_neg (h 9 (by decide))).trans ((if_neg (h 10 (by decide))).trans ((if_neg (h 11 (by decide))).trans ((if_neg (h 12 (by decide))).trans (if_pos (r_e5 hk))))))))))))))
theorem ra_13 (hy : y < 4) (hk : J0 0 82 y = nI 13) : gX11_attempt n (nI y) J0 = gX11_tryCount n (J0 0 83 y) (rJ7 y J0) := by
  have g := r_g4 hy
  have h : ∀ j : Nat, ¬ nI 13 = nI j → ¬ rJ7 y J0 0 82 (nI y).toNatClampNeg = nI j := fun j hj => by rw [r_e7 hy (by decide) hk]; exact hj
  refine (am_gd_of g).trans ((am_gd_of g).trans ((am_gd_of g).trans ((am_gd_of g).trans ((if_neg (h 0 (by decide))).trans ((if_neg (h 1 (by decide))).trans ((if_neg (h 2 (by decide))).trans ((if_neg (h 3 (by decide))).trans ((if_neg (h 4 (by decide))).trans ((if_neg (h 5 (by decide))).trans ((if_neg (h 6 (by decide))).trans ((if_neg (h 7 (by decide))).trans ((if_neg (h 8 (by decide))).trans ((if_neg (h 9 (by decide))).trans ((if_neg (h 10 (by decide))).trans ((if_neg (h 11 (by decide))).trans ((if_neg (h 12 (by decide))).trans ((if_pos (r_e7 hy (by decide) hk)).trans (?_))))))))))))))))))
  show (gX11_tryCount n (rJ7 y J0 0 83 (nI y).toNatClampNeg) (rJ7 y J0)).bind (fun q => some q) = _
  rw [r_e7 hy (by decide) (rfl : J0 0 83 y = J0 0 83 y), z_bs]
theorem rk_14 (hk : I0 y 55 0 = nI 14) : gX9_run n y I0 = (gX9_room n (rI5 y I0)).bind (fun q => bX9_run_203 n q) := by
  have h : ∀ j : Nat, ¬ nI 14 = nI j → ¬ rI5 y I0 y 55 0 = nI j := fun j hj => by rw [r_e5 hk]; exact hj
  exact (if_neg (h 0 (by decide))).trans ((if_neg (h 1 (by decide))).trans ((if_neg (h 2 (by decide))).trans ((if_neg (h 3 (by decide))).trans ((if_neg (h 4 (by decide))).trans ((if_neg (h 5 (by decide))).trans ((if_neg (h 6 (by decide))).trans ((if_neg (h 7 (by decide))).trans ((if_neg (h 8 (by decide))).trans ((if_neg (h 9 (by decide))).trans ((if_neg (h 10 (by decide))).trans ((if_neg (h 11 (by decide))).trans ((if_neg (h 12 (by decide))).trans ((if_neg (h 13 (by decide))).trans (if_pos (r_e5 hk)))))))))))))))
theorem ra_14 (hy : y < 4) (hk : J0 0 82 y = nI 14) : gX11_attempt n (nI y) J0 = gX11_tryRoom n (rJ7 y J0) := by
  have g := r_g4 hy
  have h : ∀ j : Nat, ¬ nI 14 = nI j → ¬ rJ7 y J0 0 82 (nI y).toNatClampNeg = nI j := fun j hj => by rw [r_e7 hy (by decide) hk]; exact hj
  refine (am_gd_of g).trans ((am_gd_of g).trans ((am_gd_of g).trans ((am_gd_of g).trans ((if_neg (h 0 (by decide))).trans ((if_neg (h 1 (by decide))).trans ((if_neg (h 2 (by decide))).trans ((if_neg (h 3 (by decide))).trans ((if_neg (h 4 (by decide))).trans ((if_neg (h 5 (by decide))).trans ((if_neg (h 6 (by decide))).trans ((if_neg (h 7 (by decide))).trans ((if_neg (h 8 (by decide))).trans ((if_neg (h 9 (by decide))).trans ((if_neg (h 10 (by decide))).trans ((if_neg (h 11 (by decide))).trans ((if_neg (h 12 (by decide))).trans ((if_neg (h 13 (by decide))).trans ((if_pos (r_e7 hy (by decide) hk)).trans (?_)))))))))))))))))))
  show (gX11_tryRoom n (rJ7 y J0)).bind (fun q => some q) = _
  rw [z_bs]
theorem r_start (hR : RT y Hd F0 I0 J0) : TN0 y Hd F0 I0 J0 (rI5 y I0) (rJ7 y J0) := by
  refine tn_init hR (fun i j q => ?_) ?_ ?_ ?_ ?_ (fun i j q => ?_) (fun k q => ?_) ?_ ?_ ?_ ?_ ?_
  · unfold rI5
    simp (disch := omega) only [z_upj]
  · simp only [rI5, z_upk]; rfl
  · simp only [rI5, z_upk]; rfl
  · simp only [rI5, z_upk]; rfl
  · simp only [rI5, z_upk]; rfl
  · unfold rJ7
    simp (disch := omega) only [z_upj]
  · unfold rJ7
    rw [z_upk, if_neg (by omega), z_upk, if_neg (by omega), z_upk, if_neg (by omega), z_upk, if_neg (by omega), z_upk, if_neg (by omega), z_upk, if_neg (by omega), z_upk, if_neg (by omega)]
  · simp only [rJ7, z_upk]; rfl
  · simp only [rJ7, z_upk]; rfl
  · simp only [rJ7, z_upk]; rfl
  · simp only [rJ7, z_upk]; rfl
  · simp only [rJ7, z_upk]; rfl
/-- A TRY: the class's run and the reference's attempt -/
theorem run_att (hC : TC n y Hd I0 J0) (hM : ∀ r, r < 136 → Hd r ≤ 2) (hR : RT y Hd F0 I0 J0) (hLC : v_LC (F0 L2)) (hSB : v_SB 191 (F0 L2)) (h0 : I0 y 55 0 = J0 0 82 y) (h1 : I0 y 55 1 = J0 0 83 y) (h2 : I0 y 55 2 = J0 0 84 y) (h3 : I0 y 55 3 = J0 0 85 y) (h4 : I0 y 55 4 = J0 0 86 y) (hV : VA (J0 0 82 y) (J0 0 83 y) (J0 0 84 y) (J0 0 85 y) (J0 0 86 y)) (hns : ¬ J0 0 82 y = nI 10) : ∃ I' J', gX9_run n y I0 = some I' ∧ gX11_attempt n (nI y) J0 = some J' ∧ (EN y Hd F0 I0 J0 I' J' ∨ DN y Hd F0 I0 J0 (nI 1) I' J') := by
  have hn4 := hC.2.1
  have hyn := hC.1
  have hy4 : y < 4 := by omega
  have hT := r_start hR
  have h13 : rI5 y I0 0 15 13 = (-1 : Int32) := by simp only [rI5, z_upk]; rfl
  have h16 : rI5 y I0 0 15 16 = (-1 : Int32) := by simp only [rI5, z_upk]; rfl
  have h55 : rJ7 y J0 0 60 55 = nI 0 := by simp only [rJ7, z_upk]; rfl
  rcases hV with ⟨hk | hk, ⟨t, t1, t2⟩, hb⟩ | ⟨hk, ⟨t, t1, t2⟩, hb, hc⟩ | ⟨hk, ⟨t, t1, t2⟩, hb, ⟨u, u1, u2⟩⟩ | ⟨hk, ⟨t, t1, t2⟩, hb, ⟨u, u1, u2⟩, hd⟩ | ⟨hk | hk | hk, ⟨t, t1, t2⟩, ⟨u, u1, u2⟩⟩ | ⟨hk, ⟨t, t1, t2⟩, ⟨u, u1, u2⟩⟩ | ⟨hk, ⟨t, t1, t2⟩, ⟨u, u1, u2⟩⟩ | ⟨hk, ⟨t, t1, t2⟩, ⟨u, u1, u2⟩⟩ | ⟨hk | hk, ⟨t, t1, t2⟩⟩ | hk | hk
  · rw [rk_0 (h0.trans hk), ra_0 hy4 hk, t2]
    exact kd_of (k_seek hC hT t1 (h1.trans t2) h2 hb)
  · rw [rk_2 (h0.trans hk), ra_2 hy4 hk, t2]
    exact k_remove hC hM hT t1 hb (h1.trans t2) h2 h13 h55 hLC
  · rw [rk_1 (h0.trans hk), ra_1 hy4 hk, t2]
    rcases hc with hc | hc
    · rw [hc]
      exact k_make (c := 1) hC hM hT t1 (Or.inl rfl) (h1.trans t2) h2 (h3.trans hc) h16 hb
    · rw [hc]
      exact k_make (c := 2) hC hM hT t1 (Or.inr rfl) (h1.trans t2) h2 (h3.trans hc) h16 hb
  · rw [rk_3 (h0.trans hk), ra_3 hy4 hk, t2, u2]
    exact k_link hC hM hT t1 u1 (h1.trans t2) h2 (h3.trans u2) h16 hb
  · rw [rk_4 (h0.trans hk), ra_4 hy4 hk, t2, u2]
    exact k_rename hC hM hT t1 u1 hb (h1.trans t2) h2 (h3.trans u2) h4 h16 h55 hd
  · rw [rk_5 (h0.trans hk), ra_5 hy4 hk, t2, u2]
    exact kd_of (k_read hC hT t1 u1 (h1.trans t2) (h2.trans u2))
  · rw [rk_6 (h0.trans hk), ra_6 hy4 hk, t2, u2]
    exact kd_of (k_write hC hM hT t1 u1 (h1.trans t2) (h2.trans u2) h3 (Or.inr ⟨by rw [h0, hk]; decide, rfl⟩) (by rw [h0, hk]; decide))
  · rw [rk_11 (h0.trans hk), ra_11 hy4 hk, t2, u2]
    exact kd_of (k_write hC hM hT t1 u1 (h1.trans t2) (h2.trans u2) h3 (Or.inl ⟨h0.trans hk, by decide⟩) (by rw [h0, hk]; decide))
  · rw [rk_7 (h0.trans hk), ra_7 hy4 hk, t2, u2]
    exact kd_of (k_cut hC hM hT t1 (by omega) (h1.trans t2) (h2.trans u2))
  · rw [rk_8 (h0.trans hk), ra_8 hy4 hk, t2, u2]
    exact kd_of (k_entry hC hT t1 u1 (h1.trans t2) (h2.trans u2))
  · rw [rk_9 (h0.trans hk), ra_9 hy4 hk, t2, u2]
    exact kd_of (k_stat hC hT t1 (by omega) (h1.trans t2) (h2.trans u2))
  · rw [rk_12 (h0.trans hk), ra_12 hy4 hk, t2]
    exact kd_of (k_append hC hM hT t1 (h1.trans t2) h2 (h0.trans hk) hSB)
  · rw [rk_13 (h0.trans hk), ra_13 hy4 hk, t2]
    exact kd_of (k_count hC hT t1 (h1.trans t2) h55)
  · exact absurd hk hns
  · rw [rk_14 (h0.trans hk), ra_14 hy4 hk]
    exact kd_of (k_room hC hT h55)
/-- SYNC: the class's try does nothing -/
theorem run_sync (hk : I0 y 55 0 = nI 10) : gX9_run n y I0 = some (am_up (rI5 y I0) 0 15 9 (nI 1)) := by
  have h9 : rI5 y I0 0 15 9 = 0 := by simp only [rI5, z_upk]; rfl
  have h13 : rI5 y I0 0 15 13 = (-1 : Int32) := by simp only [rI5, z_upk]; rfl
  have h16 : rI5 y I0 0 15 16 = (-1 : Int32) := by simp only [rI5, z_upk]; rfl
  have e : gX9_run n y I0 = bX9_run_203 n (rI5 y I0) := by
    have h : ∀ j : Nat, ¬ nI 10 = nI j → ¬ rI5 y I0 y 55 0 = nI j := fun j hj => by rw [r_e5 hk]; exact hj
    exact (if_neg (h 0 (by decide))).trans ((if_neg (h 1 (by decide))).trans ((if_neg (h 2 (by decide))).trans ((if_neg (h 3 (by decide))).trans ((if_neg (h 4 (by decide))).trans ((if_neg (h 5 (by decide))).trans ((if_neg (h 6 (by decide))).trans ((if_neg (h 7 (by decide))).trans ((if_neg (h 8 (by decide))).trans ((if_neg (h 9 (by decide))).trans (if_pos (r_e5 hk)))))))))))
  rw [e]
  simp only [bX9_run_203, bX9_run_228, bX9_run_249, bX9_run_261, h9, if_true, h16, c_isinm, Option.bind_some, z_00, h13, am_lt]
end RUN
