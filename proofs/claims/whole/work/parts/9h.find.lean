section FIND
variable {n y : Nat} {Hd : Nat → Int} {F0 F F' : (Nat → Nat) → wS} {I0 J0 I J : am_I} {X : List Nat} {E : Nat → Prop} {gn : List Nat} {gp gp' pd pd' : Nat → Prop}
theorem tn_size {k : Nat} (hC : TC n y Hd I0 J0) (h : TN y Hd F0 I0 J0 X E F gn gp pd I J) (hE : ∀ b, ¬ E b) (hk : k < 128) (hH : 0 < Hd k) : ∃ I' J', ∃ z : Nat, z ≤ 384 ∧ (vw y J (w_ib k) 0 = nI 2 → z % 2 = 0) ∧ vw y J (w_ib k) 2 = nI z ∧ gX9_sizeOf n (nI k) I = some (nI z, I') ∧ gX11_ofInode n (nI k) (nI 2) J = some (nI z, J') ∧ TN y Hd F0 I0 J0 X E F gn gp pd I' J' ∧ RO y I J I' J' ∧ tH y J' (w_ib k) := by
  obtain ⟨I', J', e1, e2, e3, e4, e5⟩ := tn_rdv (i := 2) hC h (w_ib_lt hk) (by decide) (hE _) (Or.inr (Or.inl ⟨k, hk, rfl, hH⟩))
  obtain ⟨-, z, z1, z2, z3⟩ := tr_K h.1 hk hH
  refine ⟨I', J', z, z2, z3, z1, ?_, ?_, e3, e4, e5⟩
  · rw [z1] at e1
    simp (disch := omega) only [gX9_sizeOf, bX9_sizeOf_0, c_ib n k I hk, Option.bind_some, e1, z_le]
    by_cases e : 384 ≤ z
    · obtain rfl : z = 384 := by omega
      rw [if_pos e]
      simp (disch := omega) only [z_le]
      rw [if_neg (by decide)]
    · rw [if_neg e]
      simp (disch := omega) only [z_le]
      by_cases e0 : z ≤ 0
      · obtain rfl : z = 0 := by omega
        rw [if_pos e0]
      · rw [if_neg e0]
  · rw [a_of hk, e2, z1]
/-- a directory, behind its lock -/
theorem tn_dir {k m : Nat} (hC : TC n y Hd I0 J0) (h : TN y Hd F0 I0 J0 X E F gn gp pd I J) (hE : ∀ b, ¬ E b) (hk : k < 128) (hm : m = 1 ∨ m = 2) :
    (∃ I' J', gX9_meetDirectory n (nI k) (nI m) I = some (nI 1, I') ∧ gX11_isOf n (nI k) (nI m) (nI 2) (-2 : Int32) J = some (nI 1, J') ∧ TN y Hd F0 I0 J0 X E F gn gp pd I' J' ∧ RO y I J I' J' ∧ (m : Int) ≤ Hd k ∧ vw y J (w_ib k) 0 = nI 2 ∧ tH y J' (w_ib k))
    ∨ ∃ I' J', gX9_meetDirectory n (nI k) (nI m) I = some (nI 0, I') ∧ gX11_isOf n (nI k) (nI m) (nI 2) (-2 : Int32) J = some (nI 0, J') ∧ EN y Hd F0 I0 J0 I' J' := by
  rcases tn_meet (r := k) hC h (by omega) hm with ⟨hH, e1, e2⟩ | ⟨I1, J1, e1, e2, e3⟩
  · have hH0 : 0 < Hd k := by omega
    obtain ⟨I', J', f1, f2, f3, f4, f5⟩ := tn_rdv (i := 0) hC h (w_ib_lt hk) (by decide) (hE _) (Or.inr (Or.inl ⟨k, hk, rfl, hH0⟩))
    by_cases hd : vw y J (w_ib k) 0 = nI 2
    · refine Or.inl ⟨I', J', ?_, ?_, f3, f4, hH, hd, f5⟩
      · simp only [gX9_meetDirectory, bX9_meetDirectory_0, bX9_meetDirectory_31, bX9_meetDirectory_36, e1, Option.bind_some, z_10, if_false, c_ib n k I hk, f1, hd, if_true, z_011, z_gdt]
      · simp only [gX11_isOf, bX11_isOf_0, bX11_isOf_27, bX11_isOf_39, e2, Option.bind_some, z_10, if_false, a_of hk, f2, hd, if_true, ov_rn f3.2, z_00, z_011, z_gdt]
    · obtain ⟨I2, J2, g1, g2, g3⟩ := tn_fail (n := n) (f := (-2 : Int32)) f3 (by decide)
      refine Or.inr ⟨I2, J2, ?_, ?_, g3⟩
      · simp only [gX9_meetDirectory, bX9_meetDirectory_0, bX9_meetDirectory_35, bX9_meetDirectory_36, e1, Option.bind_some, z_10, if_false, c_ib n k I hk, f1, hd, g1, z_00, if_true, z_01, z_gdt]
      · simp only [gX11_isOf, bX11_isOf_0, bX11_isOf_27, bX11_isOf_39, e2, Option.bind_some, z_10, if_false, a_of hk, f2, hd, g2, ov_en g3.2, z_01, z_gdt]
  · refine Or.inr ⟨I1, J1, ?_, ?_, e3⟩
    · simp only [gX9_meetDirectory, bX9_meetDirectory_0, bX9_meetDirectory_35, bX9_meetDirectory_36, e1, Option.bind_some, z_00, if_true, z_01, z_gdt]
    · simp only [gX11_isOf, bX11_isOf_0, e2, Option.bind_some, z_00, if_true]
/-- a file, behind its lock -/
theorem tn_file {k m : Nat} (hC : TC n y Hd I0 J0) (h : TN y Hd F0 I0 J0 X E F gn gp pd I J) (hE : ∀ b, ¬ E b) (hk : k < 128) (hm : m = 1 ∨ m = 2) :
    (∃ I' J', gX9_meetFile n (nI k) (nI m) I = some (nI 1, I') ∧ gX11_isOf n (nI k) (nI m) (nI 1) (-4 : Int32) J = some (nI 1, J') ∧ TN y Hd F0 I0 J0 X E F gn gp pd I' J' ∧ RO y I J I' J' ∧ (m : Int) ≤ Hd k ∧ vw y J (w_ib k) 0 = nI 1 ∧ tH y J' (w_ib k))
    ∨ ∃ I' J', gX9_meetFile n (nI k) (nI m) I = some (nI 0, I') ∧ gX11_isOf n (nI k) (nI m) (nI 1) (-4 : Int32) J = some (nI 0, J') ∧ EN y Hd F0 I0 J0 I' J' := by
  rcases tn_meet (r := k) hC h (by omega) hm with ⟨hH, e1, e2⟩ | ⟨I1, J1, e1, e2, e3⟩
  · have hH0 : 0 < Hd k := by omega
    obtain ⟨I', J', f1, f2, f3, f4, f5⟩ := tn_rdv (i := 0) hC h (w_ib_lt hk) (by decide) (hE _) (Or.inr (Or.inl ⟨k, hk, rfl, hH0⟩))
    by_cases hd : vw y J (w_ib k) 0 = nI 1
    · refine Or.inl ⟨I', J', ?_, ?_, f3, f4, hH, hd, f5⟩
      · simp only [gX9_meetFile, bX9_meetFile_0, bX9_meetFile_31, bX9_meetFile_36, e1, Option.bind_some, z_10, if_false, c_ib n k I hk, f1, hd, if_true, z_011, z_gdt]
      · simp only [gX11_isOf, bX11_isOf_0, bX11_isOf_27, bX11_isOf_39, e2, Option.bind_some, z_10, if_false, a_of hk, f2, hd, if_true, ov_rn f3.2, z_00, z_011, z_gdt]
    · obtain ⟨I2, J2, g1, g2, g3⟩ := tn_fail (n := n) (f := (-4 : Int32)) f3 (by decide)
      refine Or.inr ⟨I2, J2, ?_, ?_, g3⟩
      · simp only [gX9_meetFile, bX9_meetFile_0, bX9_meetFile_35, bX9_meetFile_36, e1, Option.bind_some, z_10, if_false, c_ib n k I hk, f1, hd, g1, z_00, if_true, z_01, z_gdt]
      · simp only [gX11_isOf, bX11_isOf_0, bX11_isOf_27, bX11_isOf_39, e2, Option.bind_some, z_10, if_false, a_of hk, f2, hd, g2, ov_en g3.2, z_01, z_gdt]
  · refine Or.inr ⟨I1, J1, ?_, ?_, e3⟩
    · simp only [gX9_meetFile, bX9_meetFile_0, bX9_meetFile_35, bX9_meetFile_36, e1, Option.bind_some, z_00, if_true, z_01, z_gdt]
    · simp only [gX11_isOf, bX11_isOf_0, e2, Option.bind_some, z_00, if_true]
/-- a word of an inode, its block's place known: both sides -/
theorem tn_chunk {d a j : Nat} (hC : TC n y Hd I0 J0) (h : TN y Hd F0 I0 J0 X E F gn gp pd I J) (hE : ∀ b, ¬ E b) (hd : d < 128) (hH : 0 < Hd d) (ha : a < 24) (hj : j < 16) (h1 : tH y J (w_ib d)) (h2 : 8 ≤ a → ¬ vw y J (w_ib d) 11 = nI 0 → tH y J (vw y J (w_ib d) 11).toNatClampNeg) :
    (w_pl (vw y J) d a = nI 0 ∧ gX11_wordOf n (nI d) (nI (16 * a + j)) J = some (nI 0, J))
    ∨ ∃ b I' J', w_D b ∧ w_pl (vw y J) d a = nI b ∧ gX9_read n (nI b) (nI j) I = some (vw y J b j, I') ∧ gX11_wordOf n (nI d) (nI (16 * a + j)) J = some (vw y J b j, J') ∧ TN y Hd F0 I0 J0 X E F gn gp pd I' J' ∧ RO y I J I' J' := by
  have hq : (16 * a + j) / 16 = a := by omega
  have hb := r_bofc (n := n) (a := 16 * a + j) (by have := hC.1; have := hC.2.1; omega) h.1 hd hH (by omega) h1 (by rw [hq]; exact h2)
  rw [hq] at hb
  rcases tr_P (p := a) h.1 hd hH (by omega) with h0 | ⟨b, b1, b2⟩
  · refine Or.inl ⟨h0, ?_⟩
    rw [h0] at hb
    simp (disch := omega) only [gX11_wordOf, bX11_wordOf_0, bX11_wordOf_24, hb, Option.bind_some, z_00, if_true]
  · have ho : w_own (vw y J) d a b := ⟨hd, by omega, b2, b1⟩
    obtain ⟨I', J', e1, e2, e3, e4, e5⟩ := tn_rdv (i := j) hC h (w_D_lt b2) hj (hE _) (tr_rdo h.1 hH ho h1 (fun q1 q2 => h2 q1 (fun e => by
      have h3 := ho.2.2.2
      unfold w_pl at h3
      rw [if_neg (by omega), if_neg (by omega), if_pos e] at h3
      exact w_D0 b2 h3.symm)))
    refine Or.inr ⟨b, I', J', b2, b1, e1, ?_, e3, e4⟩
    rw [b1] at hb
    have hb0 : ¬ nI b = (0 : Int32) := w_D0 b2
    simp (disch := omega) only [gX11_wordOf, bX11_wordOf_0, bX11_wordOf_24, hb, Option.bind_some, hb0, if_false, pk_div, pk_mul, pk_sub, hq, show 16 * a + j - a * 16 = j from by omega, e2]
theorem fd_end {d z w fu : Nat} {name : Int32} (hz : z ≤ w) (hw : w < 2 ^ 20) : bX11_find_10 n (fu + 1) (nI d) name (nI z) (nI w) J = some ((-1 : Int32), J) := by
  simp (disch := omega) only [bX11_find_10, z_le, hz, if_true]
/-- the class's inner loop -/
theorem fd_in {d a z fuo : Nat} {name bl : Int32} (hC : TC n y Hd I0 J0) (hE : ∀ b, ¬ E b) (hd : d < 128) (hH : 0 < Hd d) (ha : a < 24) (hz : z ≤ 384) (haz : 16 * a < z) :
    ∀ (m q fu fur : Nat) (I J : am_I), q + m = 8 → m < fu → m + 8 * (23 - a) + 1 < fur → TN y Hd F0 I0 J0 X E F gn gp pd I J → w_pl (vw y J) d a = bl → tH y J (w_ib d) → (8 ≤ a → ¬ vw y J (w_ib d) 11 = nI 0 → tH y J (vw y J (w_ib d) 11).toNatClampNeg) →
    (∃ w I' J', w < z ∧ w / 16 = a ∧ w % 2 = 0 ∧ bX9_find_38 n (bX9_find_9 n fuo) fu (nI d) name (nI z) (nI (16 * a)) bl (nI (min 16 (z - 16 * a))) (nI (2 * q)) I = some (nI w, I') ∧ bX11_find_10 n fur (nI d) name (nI z) (nI (16 * a + 2 * q)) J = some (nI w, J') ∧ TN y Hd F0 I0 J0 X E F gn gp pd I' J' ∧ RO y I J I' J' ∧ (bl = nI 0 ∧ name = nI 0 ∨ vw y J bl.toNatClampNeg (w % 16) = name ∧ ¬ bl = nI 0))
    ∨ (∃ fur' I' J', 8 * (23 - a) + 1 < fur' ∧ bX9_find_38 n (bX9_find_9 n fuo) fu (nI d) name (nI z) (nI (16 * a)) bl (nI (min 16 (z - 16 * a))) (nI (2 * q)) I = bX9_find_9 n fuo (nI d) name (nI z) (nI (16 * a + 16)) I' ∧ bX11_find_10 n fur (nI d) name (nI z) (nI (16 * a + 2 * q)) J = bX11_find_10 n fur' (nI d) name (nI z) (nI (16 * a + 16)) J' ∧ TN y Hd F0 I0 J0 X E F gn gp pd I' J' ∧ RO y I J I' J') := by
  intro m
  induction m with
  | zero =>
    intro q fu fur I J hq hf hfr h hbl h1 h2
    obtain ⟨fu, rfl⟩ : ∃ f, fu = f + 1 := ⟨fu - 1, by omega⟩
    obtain rfl : q = 8 := by omega
    have hle : min 16 (z - 16 * a) ≤ 2 * 8 := by omega
    refine Or.inr ⟨fur, I, J, by omega, ?_, rfl, h, RO.rf⟩
    simp (disch := omega) only [bX9_find_38, z_le, hle, if_true, nI_add]
  | succ m ih =>
    intro q fu fur I J hq hf hfr h hbl h1 h2
    obtain ⟨fu, rfl⟩ : ∃ f, fu = f + 1 := ⟨fu - 1, by omega⟩
    obtain ⟨fur, rfl⟩ : ∃ f, fur = f + 1 := ⟨fur - 1, by omega⟩
    by_cases hle : min 16 (z - 16 * a) ≤ 2 * q
    · refine Or.inr ⟨fur + 1, I, J, by omega, ?_, ?_, h, RO.rf⟩
      · simp (disch := omega) only [bX9_find_38, z_le, hle, if_true, nI_add]
      · rw [fd_end (by omega) (by omega), fd_end (by omega) (by omega)]
    · have hw : ¬ z ≤ 16 * a + 2 * q := by omega
      rcases tn_chunk (j := 2 * q) hC h hE hd hH ha (by omega) h1 h2 with ⟨c1, c2⟩ | ⟨b, I1, J1, c1, c2, c3, c4, c5, c6⟩
      · have hb0 : bl = nI 0 := by rw [← hbl]; exact c1
        have hb00 : bl = 0 := hb0
        by_cases hn : nI 0 = name
        · refine Or.inl ⟨16 * a + 2 * q, I, J, by omega, by omega, by omega, ?_, ?_, h, RO.rf, Or.inl ⟨hb0, hn.symm⟩⟩
          · simp (disch := omega) only [bX9_find_38, bX9_find_62, z_le, hle, if_false, hb00, if_true, hn, nI_add]
          · simp (disch := omega) only [bX11_find_10, z_le, hw, if_false, c2, Option.bind_some, hn, if_true]
        · obtain r | r := ih (q + 1) fu fur I J (by omega) (by omega) (by omega) h hbl h1 h2
          · obtain ⟨w, I', J', w1, w2, w3, r1, r2, r3, r4, r5⟩ := r
            refine Or.inl ⟨w, I', J', w1, w2, w3, ?_, ?_, r3, r4, r5⟩
            · rw [← r1]
              simp (disch := omega) only [bX9_find_38, bX9_find_62, z_le, hle, if_false, hb00, if_true, hn, nI_add]
              rfl
            · rw [← r2]
              simp (disch := omega) only [bX11_find_10, z_le, hw, if_false, c2, Option.bind_some, hn, nI_add]
              rfl
          · obtain ⟨fur', I', J', w1, r1, r2, r3, r4⟩ := r
            refine Or.inr ⟨fur', I', J', w1, ?_, ?_, r3, r4⟩
            · rw [← r1]
              simp (disch := omega) only [bX9_find_38, bX9_find_62, z_le, hle, if_false, hb00, if_true, hn, nI_add]
              rfl
            · rw [← r2]
              simp (disch := omega) only [bX11_find_10, z_le, hw, if_false, c2, Option.bind_some, hn, nI_add]
              rfl
      · obtain rfl : bl = nI b := by rw [← hbl]; exact c2
        have hb0 : ¬ nI b = (0 : Int32) := w_D0 c1
        by_cases hn : vw y J b (2 * q) = name
        · refine Or.inl ⟨16 * a + 2 * q, I1, J1, by omega, by omega, by omega, ?_, ?_, c5, c6, Or.inr ⟨?_, w_D0 c1⟩⟩
          · simp (disch := omega) only [bX9_find_38, bX9_find_62, z_le, hle, if_false, hb0, c3, Option.bind_some, hn, if_true, nI_add]
          · simp (disch := omega) only [bX11_find_10, z_le, hw, if_false, c4, Option.bind_some, hn, if_true]
          · rw [nI_clamp (w_Dlt c1), show (16 * a + 2 * q) % 16 = 2 * q from by omega]
            exact hn
        · obtain r | r := ih (q + 1) fu fur I1 J1 (by omega) (by omega) (by omega) c5 (by rw [c6.1]; exact hbl) (c6.2.1 _ h1) (by rw [c6.1]; exact fun q1 q2 => c6.2.1 _ (h2 q1 q2))
          · obtain ⟨w, I', J', w1, w2, w3, r1, r2, r3, r4, r5⟩ := r
            refine Or.inl ⟨w, I', J', w1, w2, w3, ?_, ?_, r3, c6.tr r4, by rw [c6.1] at r5; exact r5⟩
            · rw [← r1]
              simp (disch := omega) only [bX9_find_38, bX9_find_62, z_le, hle, if_false, hb0, c3, Option.bind_some, hn, nI_add]
              rfl
            · rw [← r2]
              simp (disch := omega) only [bX11_find_10, z_le, hw, if_false, c4, Option.bind_some, hn, nI_add]
              rfl
          · obtain ⟨fur', I', J', w1, r1, r2, r3, r4⟩ := r
            refine Or.inr ⟨fur', I', J', w1, ?_, ?_, r3, c6.tr r4⟩
            · rw [← r1]
              simp (disch := omega) only [bX9_find_38, bX9_find_62, z_le, hle, if_false, hb0, c3, Option.bind_some, hn, nI_add]
              rfl
            · rw [← r2]
              simp (disch := omega) only [bX11_find_10, z_le, hw, if_false, c4, Option.bind_some, hn, nI_add]
              rfl
end FIND
