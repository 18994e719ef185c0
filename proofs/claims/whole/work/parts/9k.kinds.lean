/-- a try that is done -/
def DN (y : Nat) (Hd : Nat → Int) (F0 : (Nat → Nat) → wS) (I0 J0 : am_I) (o : Int32) (I J : am_I) : Prop :=
  (∃ X E F gn gp, TR y Hd F0 I0 J0 X E F gn gp (fun _ => False) I J ∧ X.length ≤ 8 ∧ (∀ b, E b → b ∈ gn) ∧ (∀ b, gp b ↔ b ∈ gn) ∧ (∀ L, L y = 2 → ∀ b, b ∈ gn → ∀ k p, ¬ w_own (F L) k p b) ∧ ∀ L, L y = 2 → LR (F0 L) (F L))
  ∧ I 0 15 9 = o ∧ J 0 60 52 = (-1 : Int32) ∧ J 0 60 54 = nI 0 ∧ I 0 15 10 = J 0 60 55
def TN0 (y : Nat) (Hd : Nat → Int) (F0 : (Nat → Nat) → wS) (I0 J0 I J : am_I) : Prop := TN y Hd F0 I0 J0 [] (fun _ => False) F0 [] (fun _ => False) (fun _ => False) I J
section KINDS
variable {n y : Nat} {Hd : Nat → Int} {F0 F F' : (Nat → Nat) → wS} {I0 J0 I J : am_I} {X : List Nat} {E : Nat → Prop} {gn : List Nat} {gp gp' pd pd' : Nat → Prop}
theorem run_over (h : ¬ I 0 15 9 = nI 0) : bX9_run_203 n I = some I := by
  have h0 : ¬ I 0 15 9 = 0 := h
  simp only [bX9_run_203, bX9_run_228, bX9_run_249, bX9_run_261, h0, if_false]
theorem en_ne (h : EN y Hd F0 I0 J0 I J) : ¬ I 0 15 9 = nI 0 := by
  rcases h.2 with h | h
  · rw [h.1]; decide
  · rw [h.1]; decide
theorem tn_a (h : TN y Hd F0 I0 J0 X E F gn gp pd I J) : I y 55 = I0 y 55 := (tr_fr h.1).1 y 55 (by omega) (by omega)
theorem c_fin {v : Int32} : gX9_finish n v I = some (am_up (am_up I 0 15 9 (nI 1)) 0 15 10 v) := by
  simp only [gX9_finish, bX9_finish_0, am_lt]
/-- scalars of the try are set -/
theorem tr_up {I' J' : am_I} (h : TR y Hd F0 I0 J0 X E F gn gp pd I J) (hI : ∀ i j, ¬ (i = 0 ∧ j = 15) → I' i j = I i j) (hI2 : ∀ k, k < 9 → I' 0 15 k = I 0 15 k) (hJ : ∀ i j, ¬ (i = 0 ∧ j = 60) → J' i j = J i j) (hJ2 : ∀ k, ¬ (52 ≤ k ∧ k ≤ 55) → J' 0 60 k = J 0 60 k) : TR y Hd F0 I0 J0 X E F gn gp pd I' J' :=
  tr_sc h hI ⟨hI2 5 (by omega), hI2 7 (by omega), hI2 8 (by omega)⟩ hJ ⟨hJ2 51 (by omega), hJ2 56 (by omega), hJ2 61 (by omega)⟩ (fun k q => hJ2 k (by omega))
theorem tn_done {v : Int32} (h : TN y Hd F0 I0 J0 X E F gn gp (fun _ => False) I J) (hX : X.length ≤ 8) (hE : ∀ b, E b → b ∈ gn) (hg : ∀ b, gp b ↔ b ∈ gn) (hz : ∀ L, L y = 2 → ∀ b, b ∈ gn → ∀ k p, ¬ w_own (F L) k p b) (hl : ∀ L, L y = 2 → LR (F0 L) (F L)) : DN y Hd F0 I0 J0 (nI 1) (am_up (am_up I 0 15 9 (nI 1)) 0 15 10 v) (am_up J 0 60 55 v) := by
  refine ⟨⟨X, E, F, gn, gp, tr_up h.1 (fun i j q => by simp (disch := omega) only [z_upj]) (fun k q => by rw [z_upk, if_neg (by omega), z_upk, if_neg (by omega)]) (fun i j q => by simp (disch := omega) only [z_upj]) (fun k q => by rw [z_upk, if_neg (by omega)]), hX, hE, hg, hz, hl⟩, ?_, ?_, ?_, ?_⟩
  · simp only [z_upk]; rfl
  · rw [z_upk, if_neg (by decide)]; exact h.2.2.1
  · rw [z_upk, if_neg (by decide)]; exact h.2.2.2
  · simp only [z_upk]; rfl
theorem tn_done0 {v : Int32} (h : TN0 y Hd F0 I0 J0 I J) : DN y Hd F0 I0 J0 (nI 1) (am_up (am_up I 0 15 9 (nI 1)) 0 15 10 v) (am_up J 0 60 55 v) :=
  tn_done h (Nat.zero_le _) (fun _ h => h.elim) (fun b => ⟨fun h => h.elim, fun h => absurd h (List.not_mem_nil)⟩) (fun _ _ b hb => absurd hb (List.not_mem_nil)) (fun _ _ => LR.rf)
theorem k_seek {d : Nat} {name : Int32} (hC : TC n y Hd I0 J0) (h : TN0 y Hd F0 I0 J0 I J) (hd : d < 128) (ha : I0 y 55 1 = nI d) (hb : I0 y 55 2 = name) (hn : ¬ name = nI 0) : ∃ I' J', gX9_seek n y I = some I' ∧ gX11_tryLook n (nI d) name J = some J' ∧ (EN y Hd F0 I0 J0 I' J' ∨ DN y Hd F0 I0 J0 (nI 1) I' J') := by
  rcases tn_dir (m := 1) hC h (fun _ q => q) hd (Or.inl rfl) with ⟨I1, J1, e1, e2, e3, e4, e5, e6, e7⟩ | ⟨I1, J1, e1, e2, e3⟩
  · obtain ⟨r, I2, J2, z, f1, f2, f3, f4, f5, f6, f7, f8, f9⟩ := tn_find name hC e3 (fun _ q => q) hd (by omega)
    rcases f9 with rfl | ⟨w, rfl, w1, w2, w3⟩
    · obtain ⟨I3, J3, g1, g2, g3⟩ := tn_fail (n := n) (f := (-3 : Int32)) f3 (by decide)
      refine ⟨I3, J3, ?_, ?_, Or.inl g3⟩
      · simp only [gX9_seek, bX9_seek_0, tn_a h, ha, e1, Option.bind_some, z_10, if_false, tn_a e3, hb, f1, if_true, g1]
      · simp only [gX11_tryLook, bX11_tryLook_0, bX11_tryLook_46, e2, Option.bind_some, z_10, if_false, f2, if_true, g2]
    · obtain ⟨b, b1, b2, -⟩ := w3.1 hn
      rw [e4.1] at b2
      obtain ⟨I3, J3, t, t1, t2, g1, g2, g3, g4, g5, g6, g7⟩ := tn_ino (w := w) (b := b) hC f3 (fun _ q => q) hd (by omega) (by omega) w2 (by rw [f4.1, e4.1]; exact e6) b1 (by rw [f4.1, e4.1]; exact b2)
      have hm := z_m1n (a := w) (by omega)
      refine ⟨_, _, ?_, ?_, Or.inr (tn_done0 (v := nI t) g3)⟩
      · simp only [gX9_seek, bX9_seek_0, tn_a h, ha, e1, Option.bind_some, z_10, if_false, tn_a e3, hb, f1, hm, tn_a f3, g1, c_fin]
      · simp only [gX11_tryLook, bX11_tryLook_0, bX11_tryLook_46, e2, Option.bind_some, z_10, if_false, f2, hm, nI_add, g2, am_lt]
  · refine ⟨I1, J1, ?_, ?_, Or.inl e3⟩
    · simp only [gX9_seek, bX9_seek_0, tn_a h, ha, e1, Option.bind_some, z_00, if_true]
    · simp only [gX11_tryLook, bX11_tryLook_0, e2, Option.bind_some, z_00, if_true]
/-- what READ does in the reference -/
def gX11_tryRead (n : Nat) (a b : Int32) (J : am_I) : Option am_I := (gX11_isOf n a (nI 1) (nI 1) (-4 : Int32) J).bind (fun q18 => if q18.1 = 0 then (bX11_attempt_312 n q18.2) else ((gX11_ofInode n a (nI 2) q18.2).bind (fun q19 => if b < q19.1 then ((gX11_wordOf n a b q19.2).bind (fun q20 => am_lt (am_up q20.2 0 60 55 q20.1) (fun I21 => bX11_attempt_312 n I21))) else ((gX11_fail n (-10 : Int32) q19.2).bind (fun q22 => bX11_attempt_312 n q22)))))
theorem k_read {k i : Nat} (hC : TC n y Hd I0 J0) (h : TN0 y Hd F0 I0 J0 I J) (hk : k < 128) (hi : i < 384) (ha : I0 y 55 1 = nI k) (hb : I0 y 55 2 = nI i) : ∃ I' J', gX9_readWord n y I = some I' ∧ gX11_tryRead n (nI k) (nI i) J = some J' ∧ (EN y Hd F0 I0 J0 I' J' ∨ DN y Hd F0 I0 J0 (nI 1) I' J') := by
  rcases tn_file (m := 1) hC h (fun _ q => q) hk (Or.inl rfl) with ⟨I1, J1, e1, e2, e3, e4, e5, e6, e7⟩ | ⟨I1, J1, e1, e2, e3⟩
  · obtain ⟨I2, J2, z, z1, z2, z3, f1, f2, f3, f4, f5⟩ := tn_size hC e3 (fun _ q => q) hk (by omega)
    by_cases hz : i < z
    · obtain ⟨I3, J3, g1, g2, g3, g4, g5, g6⟩ := tn_bof (a := i) hC f3 (fun _ q => q) hk (by omega) hi
      have hb2 := r_bofc (n := n) (a := i) (by have := hC.1; have := hC.2.1; omega) g3.1 hk (by omega) hi g5 (by rw [g4.1]; exact g6)
      rw [g4.1] at hb2
      have hwo : gX11_wordOf n (nI k) (nI i) J2 = gX11_wordOf n (nI k) (nI i) J3 := by
        simp only [gX11_wordOf, bX11_wordOf_0, g2, hb2]
      rcases tn_chunk (d := k) (a := i / 16) (j := i % 16) hC g3 (fun _ q => q) hk (by omega) (by omega) (by omega) g5 (by rw [g4.1]; exact g6) with ⟨c1, c2⟩ | ⟨b, I4, J4, c1, c2, c3, c4, c5, c6⟩
      · rw [show 16 * (i / 16) + i % 16 = i from by omega] at c2
        rw [g4.1] at c1
        have c10 : w_pl (vw y J2) k (i / 16) = 0 := c1
        rw [c2] at hwo
        refine ⟨_, _, ?_, ?_, Or.inr (tn_done0 (v := nI 0) g3)⟩
        · simp (disch := omega) only [gX9_readWord, bX9_readWord_0, bX9_readWord_70, tn_a h, ha, e1, Option.bind_some, z_10, if_false, tn_a e3, hb, f1, z_lt, hz, if_true, tn_a f3, g1, c10, c_fin]
        · simp (disch := omega) only [gX11_tryRead, bX11_attempt_312, e2, Option.bind_some, z_10, if_false, f2, z_lt, hz, if_true, hwo, am_lt]
      · rw [show 16 * (i / 16) + i % 16 = i from by omega] at c4
        rw [g4.1] at c2
        have hb0 : ¬ nI b = (0 : Int32) := w_D0 c1
        rw [c4] at hwo
        rw [c2] at g1
        refine ⟨_, _, ?_, ?_, Or.inr (tn_done0 (v := vw y J3 b (i % 16)) c5)⟩
        · simp (disch := omega) only [gX9_readWord, bX9_readWord_0, bX9_readWord_70, tn_a h, ha, e1, Option.bind_some, z_10, if_false, tn_a e3, hb, f1, z_lt, hz, if_true, tn_a f3, g1, hb0, tn_a g3, pk_div, pk_mul, pk_sub, show i - i / 16 * 16 = i % 16 from by omega, c3, c_fin]
        · simp (disch := omega) only [gX11_tryRead, bX11_attempt_312, e2, Option.bind_some, z_10, if_false, f2, z_lt, hz, if_true, hwo, am_lt]
    · obtain ⟨I3, J3, g1, g2, g3⟩ := tn_fail (n := n) (f := (-10 : Int32)) f3 (by decide)
      refine ⟨I3, J3, ?_, ?_, Or.inl g3⟩
      · simp (disch := omega) only [gX9_readWord, bX9_readWord_0, tn_a h, ha, e1, Option.bind_some, z_10, if_false, tn_a e3, hb, f1, z_lt, hz, g1]
      · simp (disch := omega) only [gX11_tryRead, bX11_attempt_312, e2, Option.bind_some, z_10, if_false, f2, z_lt, hz, g2]
  · refine ⟨I1, J1, ?_, ?_, Or.inl e3⟩
    · simp only [gX9_readWord, bX9_readWord_0, tn_a h, ha, e1, Option.bind_some, z_00, if_true]
    · simp only [gX11_tryRead, bX11_attempt_312, e2, Option.bind_some, z_00, if_true]
end KINDS
