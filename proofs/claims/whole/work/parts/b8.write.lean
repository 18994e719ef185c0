
section WR
variable {n x : Nat} {I J : am_I} {lg fb : List Nat} {fq mk : Nat}
theorem z_neg1 {a : Nat} (ha : a < 1000) : nI (a + 1) - nI a - nI 2 = (-1 : Int32) := by
  rw [pk_sub (by omega), show a + 1 - a = 1 from by omega]
  decide
/-- what a flush writes next, in the class -/
def jC (x : Nat) (I : am_I) (fb : List Nat) (fq : Nat) : Prop := I x 44 0 = nI (1 + 24 * x) ∧ I x 44 5 = nI fb.length ∧ fb.length ≤ 16 ∧ ¬ fb = [] ∧ fq < 2 * fb.length + 3 ∧ I x 44 6 = nI fq ∧ ∀ k b, fb[k]? = some b → I x 46 k = nI b
theorem jc_of (h : JNr x I J lg fb fq mk) (hf : ¬ fb = []) : jC x I fb fq := ⟨h.2.2.2.2.1, h.2.2.2.2.2.2.1, h.2.2.2.2.2.2.2.1, hf, (h.2.2.2.2.2.2.2.2.2.2 hf).1, (h.2.2.2.2.2.2.2.2.2.2 hf).2.1, (h.2.2.2.2.2.2.2.2.2.2 hf).2.2.2.1⟩
theorem c_target (hx : x < 4) (h : jC x I fb fq) : gX3_target n x I = some (nI (wb x fb fq), I) := by
  obtain ⟨h1, h2, h3, h4, h5, h6, h7⟩ := h
  have h0 : ¬ fb.length = 0 := fun e => h4 (List.length_eq_zero_iff.mp e)
  have h00 : ¬ nI fb.length = (0 : Int32) := fun e => h0 (w_nI (b := 0) (by omega) (by decide) e)
  have hm1 : (-1 : Int32) < 0 := by decide
  unfold wb
  by_cases a1 : fq < fb.length
  · have a1' : ¬ fb.length ≤ fq := by omega
    rw [if_pos a1]
    simp (disch := omega) only [gX3_target, bX3_target_0, h2, h00, if_false, h6, z_le, a1', h1, nI_add]
    rw [show 1 + 24 * x + 2 + fq = 3 + 24 * x + fq from by omega]
  · have a1' : fb.length ≤ fq := by omega
    rw [if_neg a1]
    by_cases a2 : fq = fb.length
    · rw [if_pos a2]
      simp (disch := omega) only [gX3_target, bX3_target_0, h2, h00, if_false, h6, z_le, a1', if_true, z_eq, a2, h1, nI_add]
      rw [if_pos (Nat.le_refl _), show 1 + 24 * x + 1 = 2 + 24 * x from by omega]
    · rw [if_neg a2]
      by_cases a3 : fq = fb.length + 1
      · rw [if_pos a3]
        have e := z_neg1 (a := fb.length) (by omega)
        rw [gX3_target, bX3_target_0, h2, if_neg h00, h6, if_pos (by rw [z_le (by omega) (by omega)]; exact a1'), if_neg (by rw [z_eq (by omega) (by omega)]; exact a2), a3, e, if_pos hm1, bX3_target_74, h1, bX3_target_87]
      · rw [if_neg a3]
        have e : nI fq - nI fb.length - nI 2 = nI (fq - fb.length - 2) := by rw [pk_sub (by omega), pk_sub (by omega)]
        have en : ¬ nI (fq - fb.length - 2) < (0 : Int32) := by rw [z_0, z_lt (by omega) (by decide)]; omega
        by_cases a4 : fq < 2 * fb.length + 2
        · rw [if_pos a4]
          have hj : fq - fb.length - 2 < fb.length := by omega
          have h46 := h7 _ _ (List.getElem?_eq_getElem hj)
          rw [gX3_target, bX3_target_0, h2, if_neg h00, h6, if_pos (by rw [z_le (by omega) (by omega)]; exact a1'), if_neg (by rw [z_eq (by omega) (by omega)]; exact a2), e, if_neg en, if_pos (by rw [z_lt (by omega) (by omega)]; exact hj), am_gd_of (by rw [z_inb (by omega)]; exact decide_eq_true (by omega)), z_clamp (by omega), h46, bX3_target_87, getD_some (List.getElem?_eq_getElem hj)]
        · rw [if_neg a4]
          rw [gX3_target, bX3_target_0, h2, if_neg h00, h6, if_pos (by rw [z_le (by omega) (by omega)]; exact a1'), if_neg (by rw [z_eq (by omega) (by omega)]; exact a2), e, if_neg en, if_neg (by rw [z_lt (by omega) (by omega)]; omega), bX3_target_74, h1, bX3_target_87]
theorem c_content {i : Nat} (hi : i < 16) (h : jC x I fb fq) : gX3_content n x (nI i) I = some (ww fb (I x 44 7) (fun k i => I x 47 (16 * k + i)) fq i, I) := by
  obtain ⟨h1, h2, h3, h4, h5, h6, h7⟩ := h
  have h0 : ¬ fb.length = 0 := fun e => h4 (List.length_eq_zero_iff.mp e)
  have hm1 : (-1 : Int32) < 0 := by decide
  have hm2 : ¬ (0 : Int32) ≤ (-1 : Int32) := by decide
  unfold ww
  by_cases a1 : fq < fb.length
  · rw [if_pos a1, gX3_content, bX3_content_0, h2, h6, if_neg (by rw [z_le (by omega) (by omega)]; omega), pk_mul, nI_add, am_gd_of (by rw [z_inb (by omega)]; exact decide_eq_true (by omega)), z_clamp (by omega), Nat.mul_comm fq 16]
  · rw [if_neg a1]
    by_cases a2 : fq = fb.length
    · rw [if_pos a2, gX3_content, bX3_content_0, h2, h6, if_pos (by rw [z_le (by omega) (by omega)]; omega), if_pos (by rw [a2])]
      by_cases a5 : i < fb.length
      · have h46 := h7 _ _ (List.getElem?_eq_getElem a5)
        rw [if_pos a5, if_neg (by rw [z_le (by omega) (by omega)]; omega), am_gd_of (by rw [z_inb (by omega)]; exact decide_eq_true hi), z_clamp (by omega), h46, bX3_content_55, getD_some (List.getElem?_eq_getElem a5)]
      · rw [if_neg a5, if_pos (by rw [z_le (by omega) (by omega)]; omega), bX3_content_55]
    · rw [if_neg a2]
      have c92 : ∀ (l2 v : Int32), (if 0 ≤ l2 then nI 0 else nI 1) = v → bX3_content_92 n x (nI i) l2 I = some (if i = 0 then I x 44 7 else if i = 1 then nI fb.length else if i = 2 then v else nI 0, I) := fun l2 v hv => by
        rw [bX3_content_92]
        by_cases i0 : i = 0
        · rw [if_pos (by rw [i0]), if_pos i0]
        · rw [if_neg (by rw [z_eq (by omega) (by decide)]; exact i0), if_neg i0]
          by_cases i1 : i = 1
          · rw [if_pos (by rw [i1]), if_pos i1, h2]
          · rw [if_neg (by rw [z_eq (by omega) (by decide)]; exact i1), if_neg i1]
            by_cases i2 : i = 2
            · rw [if_pos (by rw [i2]), if_pos i2, ← hv]
              by_cases e : (0 : Int32) ≤ l2
              · rw [if_pos e, if_pos e, bX3_content_139]
              · rw [if_neg e, if_neg e, bX3_content_139]
            · rw [if_neg (by rw [z_eq (by omega) (by decide)]; exact i2), if_neg i2]
      by_cases a3 : fq = fb.length + 1
      · have e := z_neg1 (a := fb.length) (by omega)
        rw [if_neg (by omega), gX3_content, bX3_content_0, h2, h6, if_pos (by rw [z_le (by omega) (by omega)]; omega), if_neg (by rw [z_eq (by omega) (by omega)]; exact a2), a3, e, if_pos hm1, c92 (-1) (nI 1) (if_neg hm2), if_pos rfl]
      · have e : nI fq - nI fb.length - nI 2 = nI (fq - fb.length - 2) := by rw [pk_sub (by omega), pk_sub (by omega)]
        have en : ¬ nI (fq - fb.length - 2) < (0 : Int32) := by rw [z_0, z_lt (by omega) (by decide)]; omega
        have ep : (0 : Int32) ≤ nI (fq - fb.length - 2) := by rw [z_0, z_le (by decide) (by omega)]; omega
        by_cases a4 : fq < 2 * fb.length + 2
        · rw [if_pos ⟨a4, a3⟩, gX3_content, bX3_content_0, h2, h6, if_pos (by rw [z_le (by omega) (by omega)]; omega), if_neg (by rw [z_eq (by omega) (by omega)]; exact a2), e, if_neg en, if_neg (by rw [z_le (by omega) (by omega)]; omega), pk_mul, nI_add, am_gd_of (by rw [z_inb (by omega)]; exact decide_eq_true (by omega)), z_clamp (by omega), Nat.mul_comm _ 16]
        · rw [if_neg (fun q => a4 q.1), gX3_content, bX3_content_0, h2, h6, if_pos (by rw [z_le (by omega) (by omega)]; omega), if_neg (by rw [z_eq (by omega) (by omega)]; exact a2), e, if_neg en, if_pos (by rw [z_le (by omega) (by omega)]; omega), c92 _ (nI 0) (if_pos ep), if_neg a3]
theorem wb_lt (hx : x < 4) (hl : fb.length ≤ 16) (hb : ∀ b, b ∈ fb → b < 640) (k : Nat) : wb x fb k < 640 := by
  unfold wb
  split
  · omega
  · split
    · omega
    · split
      · omega
      · split
        · next h1 h2 h3 h4 =>
          have hj : k - fb.length - 2 < fb.length := by omega
          rw [getD_some (List.getElem?_eq_getElem hj)]
          exact hb _ (List.getElem_mem hj)
        · omega
theorem cw_wr {B many : Nat} {w : Nat → Int32} (hB : B < 640) (hm : many ≤ 16) : ∀ (q i fu : Nat) (I : am_I), i + q = many → q < fu → jC x I fb fq → (∀ j, j < 16 → ww fb (I x 44 7) (fun k i => I x 47 (16 * k + i)) fq j = w j) → ∃ I', bX3_write_16 n fu x (nI many) (nI B) (nI i) I = some I' ∧ (∀ k, I' 0 1 k = if 16 * B + i ≤ k ∧ k < 16 * B + many then w (k - 16 * B) else I 0 1 k) ∧ (∀ a b, ¬ (a = 0 ∧ b = 1) → I' a b = I a b) := by
  intro q
  induction q with
  | zero =>
    intro i fu I hi hf hj hw
    obtain ⟨fu, rfl⟩ : ∃ f, fu = f + 1 := ⟨fu - 1, by omega⟩
    obtain rfl : i = many := by omega
    refine ⟨I, ?_, fun k => by rw [if_neg (by omega)], fun _ _ _ => rfl⟩
    conv => lhs; unfold bX3_write_16
    simp (disch := omega) only [z_le, Nat.le_refl, if_true, bX3_write_50]
  | succ q ih =>
    intro i fu I hi hf hj hw
    obtain ⟨fu, rfl⟩ : ∃ f, fu = f + 1 := ⟨fu - 1, by omega⟩
    have hle : ¬ many ≤ i := by omega
    have hle2 : ¬ 16 ≤ i := by omega
    have g1 : B * 16 + i < 10240 := by omega
    have hc := c_content (n := n) (i := i) (by omega) hj
    rw [hw i (by omega)] at hc
    obtain ⟨I', e1, e2, e3⟩ := ih (i + 1) fu (am_up I 0 1 (B * 16 + i) (w i)) (by omega) (by omega) (by unfold jC; simp (disch := omega) only [z_upj]; exact hj) (fun j hj' => by simp (disch := omega) only [z_upj]; exact hw j hj')
    refine ⟨I', ?_, fun k => ?_, fun a b h => by rw [e3 a b h, z_upj _ _ _ _ _ _ _ h]⟩
    · rw [← e1]
      conv => lhs; unfold bX3_write_16
      simp (disch := omega) only [z_le, hle, hle2, if_false, hc, Option.bind_some, pk_mul, nI_add, z_inb, g1, decide_true, z_gdt, z_clamp, am_lt]
    · rw [e2 k, z_upk]
      by_cases e : 16 * B + (i + 1) ≤ k ∧ k < 16 * B + many
      · rw [if_pos e, if_pos (by omega)]
      · rw [if_neg e]
        by_cases ek : k = B * 16 + i
        · rw [if_pos ek, if_pos (by omega), show k - 16 * B = i from by omega]
        · rw [if_neg ek, if_neg (by omega)]
theorem rw_wr {B many f : Nat} {w : Nat → Int32} (hB : B < 640) (hm : many ≤ 16) (hf : f + 16 ≤ 2304) : ∀ (q i fu : Nat) (J : am_I), i + q = many → q < fu → (∀ j, j < 16 → J 0 75 (f + j) = w j) → ∃ J', bX11_putWords_3 n fu (nI B) (nI f) (nI many) (nI i) J = some J' ∧ (∀ k, J' 0 64 k = if 16 * B + i ≤ k ∧ k < 16 * B + many then w (k - 16 * B) else J 0 64 k) ∧ (∀ a b, ¬ (a = 0 ∧ b = 64) → J' a b = J a b) := by
  intro q
  induction q with
  | zero =>
    intro i fu J hi hf hw
    obtain ⟨fu, rfl⟩ : ∃ f, fu = f + 1 := ⟨fu - 1, by omega⟩
    obtain rfl : i = many := by omega
    refine ⟨J, ?_, fun k => by rw [if_neg (by omega)], fun _ _ _ => rfl⟩
    conv => lhs; unfold bX11_putWords_3
    simp (disch := omega) only [z_le, Nat.le_refl, if_true]
  | succ q ih =>
    intro i fu J hi hfu hw
    obtain ⟨fu, rfl⟩ : ∃ f, fu = f + 1 := ⟨fu - 1, by omega⟩
    have hle : ¬ many ≤ i := by omega
    have g1 : f + i < 2304 := by omega
    have g2 : 16 * B + i < 10240 := by omega
    have hc := hw i (by omega)
    obtain ⟨J', e1, e2, e3⟩ := ih (i + 1) fu (am_up J 0 64 (16 * B + i) (w i)) (by omega) (by omega) (fun j hj' => by rw [z_upj _ _ _ _ _ _ _ (by omega)]; exact hw j hj')
    refine ⟨J', ?_, fun k => ?_, fun a b h => by rw [e3 a b h, z_upj _ _ _ _ _ _ _ h]⟩
    · rw [← e1]
      conv => lhs; unfold bX11_putWords_3
      simp (disch := omega) only [z_le, hle, if_false, hc, pk_mul, nI_add, z_inb, g1, g2, decide_true, z_gdt, z_clamp, am_lt]
    · rw [e2 k, z_upk]
      by_cases e : 16 * B + (i + 1) ≤ k ∧ k < 16 * B + many
      · rw [if_pos e, if_pos (by omega)]
      · rw [if_neg e]
        by_cases ek : k = 16 * B + i
        · rw [if_pos ek, if_pos (by omega), show k - 16 * B = i from by omega]
        · rw [if_neg ek, if_neg (by omega)]
/-- so many words of a flush's next write get to the disk -/
theorem p_put {many : Nat} (hx : x < 4) (hm : many ≤ 16) (h : JNr x I J lg fb fq mk) (hf : ¬ fb = []) : ∃ I' J', gX3_write n x (nI many) I = some I' ∧ gX11_putWords n (J 0 74 (36 * x + fq)) (nI (16 * (36 * x + fq))) (nI many) J = some J' ∧ (∀ k, I' 0 1 k = if 16 * wb x fb fq ≤ k ∧ k < 16 * wb x fb fq + many then ww fb (J 0 71 x) (fun k i => I x 47 (16 * k + i)) fq (k - 16 * wb x fb fq) else I 0 1 k) ∧ (∀ k, J' 0 64 k = if 16 * wb x fb fq ≤ k ∧ k < 16 * wb x fb fq + many then ww fb (J 0 71 x) (fun k i => I x 47 (16 * k + i)) fq (k - 16 * wb x fb fq) else J 0 64 k) ∧ (∀ a b, ¬ (a = 0 ∧ b = 1) → I' a b = I a b) ∧ (∀ a b, ¬ (a = 0 ∧ b = 64) → J' a b = J a b) := by
  have hj := jc_of h hf
  have hB := wb_lt (fb := fb) hx hj.2.2.1 h.2.2.2.2.2.2.2.2.1 fq
  obtain ⟨-, -, -, -, hW, -⟩ := h.2.2.2.2.2.2.2.2.2.2 hf
  have hq := hj.2.2.2.2.1
  have hl16 := hj.2.2.1
  obtain ⟨w1, w2⟩ := hW.2 fq hq
  obtain ⟨I', e1, e2, e3⟩ := cw_wr (n := n) (x := x) (fb := fb) (fq := fq) (w := ww fb (J 0 71 x) (fun k i => I x 47 (16 * k + i)) fq) hB hm many 0 am_fu I (by omega) (fu_lt (by omega)) hj (fun j _ => by rw [h.2.2.2.2.2.1])
  obtain ⟨J', f1, f2, f3⟩ := rw_wr (n := n) (f := 16 * (36 * x + fq)) (w := ww fb (J 0 71 x) (fun k i => I x 47 (16 * k + i)) fq) hB hm (by omega) many 0 am_fu J (by omega) (fu_lt (by omega)) w2
  refine ⟨I', J', ?_, ?_, e2, f2, e3, f3⟩
  · have hisb : gX10_isBlock n (nI (wb x fb fq)) I = some (nI 1, I) := by
      have a1 : ¬ 640 ≤ wb x fb fq := by omega
      simp (disch := omega) only [gX10_isBlock, bX10_isBlock_16, bX10_isBlock_15, bX10_isBlock_0, z_ni0, z_le, a1, if_false, z_011, z_gdt]
    rw [gX3_write, bX3_write_0, c_target hx hj, Option.bind_some]
    show ((gX10_isBlock n (nI (wb x fb fq)) I).bind _) = _
    rw [hisb, Option.bind_some]
    show (if nI 1 = (0 : Int32) then _ else bX3_write_16 n am_fu x (nI many) (nI (wb x fb fq)) (nI 0) I) = _
    rw [if_neg (by decide)]
    exact e1
  · rw [w1, gX11_putWords, bX11_putWords_0]
    exact f1
end WR
