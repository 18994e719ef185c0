theorem tr_sc {y : Nat} {Hd : Nat → Int} {F0 F : (Nat → Nat) → wS} {I0 J0 I J I' J' : am_I} {X : List Nat} {E : Nat → Prop} {gn : List Nat} {gp pd : Nat → Prop} (h : TR y Hd F0 I0 J0 X E F gn gp pd I J) (hI : ∀ i j, ¬ (i = 0 ∧ j = 15) → I' i j = I i j) (hI2 : I' 0 15 5 = I 0 15 5 ∧ I' 0 15 7 = I 0 15 7 ∧ I' 0 15 8 = I 0 15 8) (hJ : ∀ i j, ¬ (i = 0 ∧ j = 60) → J' i j = J i j) (hJ2 : J' 0 60 51 = J 0 60 51 ∧ J' 0 60 56 = J 0 60 56 ∧ J' 0 60 61 = J 0 60 61) (hJ3 : ∀ k, ¬ ((51 ≤ k ∧ k ≤ 56) ∨ k = 61) → J' 0 60 k = J 0 60 k) : TR y Hd F0 I0 J0 X E F gn gp pd I' J' := by
  obtain ⟨B, sv, cv, p1, p2, p3, p4, p5, p6, p7, p8, p9, p10, p11, p12, p13, p14, p15⟩ := h
  have hv : ∀ b i, t_v y J' b i = t_v y J b i := fun b i => by unfold t_v; rw [hJ 0 68 (by omega), hJ 0 67 (by omega), hJ 0 64 (by omega)]
  have hc : ∀ b i, c_v y I' b i = c_v y I b i := fun b i => by unfold c_v; rw [hI y 43 (by omega), hI y 42 (by omega), hI 0 1 (by omega)]
  refine ⟨B, sv, cv, ?_, ?_, ?_, ?_, ?_, ?_, fun b i hb hi hE => ?_, p8, p9, p10, ?_, fun i j q1 q2 => ?_, ?_, fun L hL => ?_, p15⟩
  · unfold pr_ref
    rw [hJ2.1, hJ2.2.1, hJ 0 120 (by omega), hJ 0 118 (by omega), hJ 0 119 (by omega), hJ 0 121 (by omega), hJ 0 68 (by omega), hJ 0 67 (by omega)]
    exact p1
  · unfold pr_cls
    rw [hI2.1, hI2.2.2, hI 0 19 (by omega), hI 0 16 (by omega), hI 0 17 (by omega), hI 0 18 (by omega), hI y 43 (by omega), hI y 42 (by omega), hI y 41 (by omega)]
    exact p2
  · rw [hJ 0 68 (by omega)]; exact p3
  · rw [hI y 43 (by omega)]; exact p4
  · rw [hI 0 1 (by omega), hJ 0 64 (by omega)]; exact p5
  · rw [hI y 43 (by omega), hJ 0 68 (by omega)]; exact p6
  · rw [hv, hc]; exact p7 b i hb hi hE
  · rw [hJ2.2.2, hI2.2.1, hJ 0 123 (by omega), hI 0 20 (by omega)]; exact p11
  · rw [hI i j (by omega)]; exact p12 i j q1 q2
  · exact p13.tr ⟨fun i j q => hJ i j (by omega), hJ3, fun k _ => by rw [hJ 0 68 (by omega)], fun k _ => by rw [hJ 0 67 (by omega)]⟩
  · exact ti_cg (p14 L hL) (fun b i _ _ => hv b i) (fun _ => Iff.rfl) (fun _ => Iff.rfl) (fun c => by unfold tH; rw [hJ 0 68 (by omega)]) (fun _ => Iff.rfl)
theorem tr_fr {y : Nat} {Hd : Nat → Int} {F0 F : (Nat → Nat) → wS} {I0 J0 I J : am_I} {X : List Nat} {E : Nat → Prop} {gn : List Nat} {gp pd : Nat → Prop} (h : TR y Hd F0 I0 J0 X E F gn gp pd I J) : fI y I0 I ∧ fJ y J0 J ∧ I 0 15 8 = nI y ∧ J 0 60 51 = nI y := by
  obtain ⟨B, sv, cv, p1, p2, p3, p4, p5, p6, p7, p8, p9, p10, p11, p12, p13, p14, p15⟩ := h
  exact ⟨p12, p13, p2.1, p1.1⟩
/-- a try that goes on -/
def rn (I J : am_I) : Prop := I 0 15 9 = nI 0 ∧ J 0 60 52 = (-1 : Int32) ∧ J 0 60 54 = nI 0
/-- a try that is over: it lacks a resource, or has a fault -/
def en (y : Nat) (Hd : Nat → Int) (J0 I J : am_I) : Prop :=
  (I 0 15 9 = nI 3 ∧ ∃ r m : Nat, r < 136 ∧ (m = 1 ∨ m = 2) ∧ I 0 15 11 = nI r ∧ I 0 15 12 = nI m ∧ J 0 60 52 = nI r ∧ J 0 60 53 = nI m ∧ (J0 0 79 (136 * y + r) = nI 0 ∨ Hd r < m))
  ∨ (I 0 15 9 = nI 2 ∧ J 0 60 52 = (-1 : Int32) ∧ I 0 15 10 = J 0 60 54 ∧ ¬ J 0 60 54 = nI 0)
def EN (y : Nat) (Hd : Nat → Int) (F0 : (Nat → Nat) → wS) (I0 J0 I J : am_I) : Prop := (∃ X E F gn gp pd, TR y Hd F0 I0 J0 X E F gn gp pd I J) ∧ en y Hd J0 I J
def TN (y : Nat) (Hd : Nat → Int) (F0 : (Nat → Nat) → wS) (I0 J0 : am_I) (X : List Nat) (E : Nat → Prop) (F : (Nat → Nat) → wS) (gn : List Nat) (gp pd : Nat → Prop) (I J : am_I) : Prop := TR y Hd F0 I0 J0 X E F gn gp pd I J ∧ rn I J
theorem z_m1n {a : Nat} (h : a < 2 ^ 31) : ¬ nI a = (-1 : Int32) := fun e => by
  have := z_m1 h
  rw [this] at e
  exact e
theorem ov_rn {n : Nat} {I J : am_I} (h : rn I J) : gX11_isOver n J = some (nI 0, J) := by
  simp only [gX11_isOver, bX11_isOver_0, bX11_isOver_20, h.2.1, h.2.2, if_true, z_00, z_01, z_gdt]
theorem ov_en {n y : Nat} {Hd : Nat → Int} {J0 I J : am_I} (h : en y Hd J0 I J) : gX11_isOver n J = some (nI 1, J) := by
  rcases h with ⟨-, r, m, hr, -, -, -, h2, -⟩ | ⟨-, h2, -, h3⟩
  · have := z_m1n (a := r) (by omega)
    simp only [gX11_isOver, bX11_isOver_0, bX11_isOver_15, bX11_isOver_20, h2, this, if_false, z_011, z_gdt]
  · have h4 : ¬ J 0 60 54 = 0 := h3
    simp only [gX11_isOver, bX11_isOver_0, bX11_isOver_15, bX11_isOver_20, h2, if_true, h4, if_false, z_011, z_gdt]
theorem rn_k {I J I' J' : am_I} (h : rn I J) (h1 : ∀ k, ¬ k = 5 → I' 0 15 k = I 0 15 k) (h2 : ∀ k, ¬ k = 56 → J' 0 60 k = J 0 60 k) : rn I' J' := by
  unfold rn
  rw [h1 9 (by decide), h2 52 (by decide), h2 54 (by decide)]
  exact h
theorem rn_e {I J I' J' : am_I} (h : rn I J) (h1 : I' 0 15 = I 0 15) (h2 : J' 0 60 = J 0 60) : rn I' J' := rn_k h (fun k _ => by rw [h1]) (fun k _ => by rw [h2])
theorem a_ib (n k : Nat) (J : am_I) (hk : k < 128) : gX11_inodeBlock n (nI k) J = some (nI (w_ib k), J) := by
  simp (disch := omega) only [gX11_inodeBlock, bX11_inodeBlock_0, pk_div, pk_sub, pk_mul, nI_add]
  rw [show 129 + 64 * (k / 16) + (k - k / 16 * 16) = w_ib k from by unfold w_ib; omega]
theorem c_ib (n k : Nat) (I : am_I) (hk : k < 128) : gX10_inodeBlock n (nI k) I = some (nI (w_ib k), I) := by
  simp (disch := omega) only [gX10_inodeBlock, bX10_inodeBlock_0, gX10_mapBlock, bX10_mapBlock_0, pk_div, pk_sub, pk_mul, nI_add, Option.bind_some]
  rw [show 128 + 64 * (k / 16) + 1 + (k - k / 16 * 16) = w_ib k from by unfold w_ib; omega]
theorem a_mp (n g : Nat) (J : am_I) : gX11_mapOf n (nI g) J = some (nI (w_mp g), J) := by
  simp only [gX11_mapOf, bX11_mapOf_0, pk_mul, nI_add]
  rfl
theorem c_mp (n g : Nat) (J : am_I) : gX10_mapBlock n (nI g) J = some (nI (w_mp g), J) := by
  simp only [gX10_mapBlock, bX10_mapBlock_0, pk_mul, nI_add]
  rfl
theorem a_of {n k : Nat} {i : Int32} {J : am_I} (hk : k < 128) : gX11_ofInode n (nI k) i J = gX11_get n (nI (w_ib k)) i J := by
  simp only [gX11_ofInode, bX11_ofInode_0, a_ib n k J hk, Option.bind_some]
  cases gX11_get n (nI (w_ib k)) i J <;> rfl
theorem a_si {n k : Nat} {i v : Int32} {J : am_I} (hk : k < 128) : gX11_setInode n (nI k) i v J = gX11_set n (nI (w_ib k)) i v J := by
  simp only [gX11_setInode, bX11_setInode_0, a_ib n k J hk, Option.bind_some, z_bs]
section RUN
variable {n y : Nat} {Hd : Nat → Int} {F0 F F' : (Nat → Nat) → wS} {I0 J0 I J : am_I} {X : List Nat} {E : Nat → Prop} {gn : List Nat} {gp gp' pd pd' : Nat → Prop}
theorem tn_meet {r m : Nat} (hC : TC n y Hd I0 J0) (h : TN y Hd F0 I0 J0 X E F gn gp pd I J) (hr : r < 136) (hm : m = 1 ∨ m = 2) :
    ((m : Int) ≤ Hd r ∧ gX9_meet n (nI r) (nI m) I = some (nI 1, I) ∧ gX11_meets n (nI r) (nI m) J = some (nI 1, J))
    ∨ ∃ I' J', gX9_meet n (nI r) (nI m) I = some (nI 0, I') ∧ (gX11_meets n (nI r) (nI m) J = some (nI 0, J') ∧ ∀ c, tH y J c → tH y J' c) ∧ EN y Hd F0 I0 J0 I' J' := by
  obtain ⟨h, hrn⟩ := h
  obtain ⟨fi, fj, i8, j51⟩ := tr_fr h
  obtain ⟨c1, c2, c3, c4⟩ := hC.2.2 r hr
  have hy := hC.1
  have hn4 := hC.2.1
  have e1 : I y 49 r = J0 0 76 (136 * y + r) := by rw [fi y 49 (by omega) (by omega)]; exact c1
  have e2 : I y 52 r = J0 0 79 (136 * y + r) := by rw [fi y 52 (by omega) (by omega)]; exact c2
  have e3 : J 0 76 (136 * y + r) = J0 0 76 (136 * y + r) := by rw [fj.1 0 76 (by omega)]
  have e4 : J 0 79 (136 * y + r) = J0 0 79 (136 * y + r) := by rw [fj.1 0 79 (by omega)]
  have g1 : 136 * y + r < 544 := by omega
  have hlt : (J0 0 76 (136 * y + r) < nI m) ↔ Hd r < m := by
    rw [Int32.lt_iff_toInt_lt, nI_toInt (by omega), c3]
  have ov := ov_rn (n := n) hrn
  have hEN : (J0 0 79 (136 * y + r) = nI 0 ∨ Hd r < m) → EN y Hd F0 I0 J0 (am_up (am_up (am_up I 0 15 9 (nI 3)) 0 15 11 (nI r)) 0 15 12 (nI m)) (am_up (am_up J 0 60 52 (nI r)) 0 60 53 (nI m)) := fun hne => by
    refine ⟨⟨X, E, F, gn, gp, pd, tr_sc h (fun i j q => by simp (disch := omega) only [z_upj]) (by simp only [z_upk]; exact ⟨rfl, rfl, rfl⟩) (fun i j q => by simp (disch := omega) only [z_upj]) (by simp only [z_upk]; exact ⟨rfl, rfl, rfl⟩) (fun k q => ?_)⟩, Or.inl ⟨by simp only [z_upk]; rfl, r, m, hr, hm, by simp only [z_upk]; rfl, by simp only [z_upk]; rfl, by simp only [z_upk]; rfl, by simp only [z_upk]; rfl, hne⟩⟩
    rw [z_upk, if_neg (by omega), z_upk, if_neg (by omega)]
  have hmono : ∀ c, tH y J c → tH y (am_up (am_up J 0 60 52 (nI r)) 0 60 53 (nI m)) c := fun c q => by
    unfold tH at q ⊢
    simp (disch := omega) only [z_upj]
    exact q
  rcases c4 with h0 | h0
  · refine Or.inr ⟨_, _, ?_, ⟨?_, hmono⟩, hEN (Or.inl h0)⟩
    · simp (disch := omega) only [gX9_meet, bX9_meet_0, bX9_meet_33, i8, z_clamp, hy, decide_true, z_gdt, z_inb, hr, e2, h0, z_00, if_true, am_lt]
    · simp (disch := omega) only [gX11_meets, bX11_meets_0, bX11_meets_44, ov, Option.bind_some, z_00, if_true, gX11_at, bX11_at_0, j51, pk_mul, nI_add, z_inb, z_clamp, g1, decide_true, z_gdt, e4, h0, am_lt]
  · by_cases hl : Hd r < m
    · have hl2 := hlt.mpr hl
      refine Or.inr ⟨_, _, ?_, ⟨?_, hmono⟩, hEN (Or.inr hl)⟩
      · simp (disch := omega) only [gX9_meet, bX9_meet_0, bX9_meet_33, i8, z_clamp, hy, decide_true, z_gdt, z_inb, hr, e2, h0, z_10, if_false, e1, hl2, if_true, am_lt]
      · simp (disch := omega) only [gX11_meets, bX11_meets_0, bX11_meets_44, ov, Option.bind_some, z_00, if_true, gX11_at, bX11_at_0, j51, pk_mul, nI_add, z_inb, z_clamp, g1, decide_true, z_gdt, e4, h0, z_10, if_false, e3, hl2, am_lt]
    · have hl2 := mt hlt.mp hl
      refine Or.inl ⟨by omega, ?_, ?_⟩
      · simp (disch := omega) only [gX9_meet, bX9_meet_0, bX9_meet_33, i8, z_clamp, hy, decide_true, z_gdt, z_inb, hr, e2, h0, z_10, if_false, e1, hl2]
      · simp (disch := omega) only [gX11_meets, bX11_meets_0, bX11_meets_44, ov, Option.bind_some, z_00, if_true, gX11_at, bX11_at_0, j51, pk_mul, nI_add, z_inb, z_clamp, g1, decide_true, z_gdt, e4, h0, z_10, if_false, e3, hl2]
theorem tn_fail {f : Int32} (h : TN y Hd F0 I0 J0 X E F gn gp pd I J) (hf : ¬ f = nI 0) : ∃ I' J', gX9_fail n f I = some (nI 0, I') ∧ (gX11_fail n f J = some J' ∧ ∀ c, tH y J c → tH y J' c) ∧ EN y Hd F0 I0 J0 I' J' := by
  obtain ⟨h, hrn⟩ := h
  have ov := ov_rn (n := n) hrn
  refine ⟨am_up (am_up I 0 15 9 (nI 2)) 0 15 10 f, am_up J 0 60 54 f, ?_, ⟨?_, fun c q => by unfold tH at q ⊢; simp (disch := omega) only [z_upj]; exact q⟩, ⟨X, E, F, gn, gp, pd, tr_sc h (fun i j q => by simp (disch := omega) only [z_upj]) (by simp only [z_upk]; exact ⟨rfl, rfl, rfl⟩) (fun i j q => by simp (disch := omega) only [z_upj]) (by simp only [z_upk]; exact ⟨rfl, rfl, rfl⟩) (fun k q => ?_)⟩, Or.inr ⟨by simp only [z_upk]; rfl, ?_, by simp only [z_upk]; rfl, ?_⟩⟩
  · simp only [gX9_fail, bX9_fail_0, am_lt]
  · simp only [gX11_fail, bX11_fail_0, bX11_fail_12, ov, Option.bind_some, z_00, if_true, am_lt]
  · rw [z_upk, if_neg (by omega)]
  · rw [z_upk, if_neg (by decide)]; exact hrn.2.1
  · rw [z_upk, if_pos rfl]; exact hf
theorem tn_rd {b i : Nat} (hC : TC n y Hd I0 J0) (h : TN y Hd F0 I0 J0 X E F gn gp pd I J) (hb : b < 640) (hi : i < 16) (hE : ¬ E b) (hr : rdc y Hd F J b) : ∃ I' J', gX9_read n (nI b) (nI i) I = some (t_v y J b i, I') ∧ gX11_get n (nI b) (nI i) J = some (t_v y J b i, J') ∧ TN y Hd F0 I0 J0 X E F gn gp pd I' J' ∧ (∀ c j, c < 640 → j < 16 → t_v y J' c j = t_v y J c j) ∧ (∀ c, tH y J' c ↔ tH y J c ∨ c = b) ∧ I' 0 15 = I 0 15 ∧ J' 0 60 = J 0 60 := by
  obtain ⟨I', J', e1, e2, e3, e4, e5, e6, e7⟩ := tr_rd hC h.1 hb hi hE hr
  exact ⟨I', J', e1, e2, ⟨e3, rn_e h.2 e6 e7⟩, e4, e5, e6, e7⟩
end RUN
