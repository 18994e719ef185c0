
theorem nd_lt {l : List Nat} (h : l.Pairwise (· < ·)) : l.Nodup := h.imp (fun q => by omega)
theorem len_eq {l m : List Nat} (hl : l.Nodup) (hm : m.Nodup) (h : ∀ a, a ∈ l ↔ a ∈ m) : l.length = m.length :=
  Nat.le_antisymm (pigeon l m hl (fun a q => (h a).mp q)) (pigeon m l hm (fun a q => (h a).mpr q))
def fSt (y : Nat) (I I' : am_I) : Prop := (∀ a b, ¬ (a = y ∧ (b = 41 ∨ b = 43 ∨ b = 44 ∨ b = 45)) → I' a b = I a b) ∧ ∀ k, ¬ k = 2 → I' y 44 k = I y 44 k ∧ I' y 41 k = I y 41 k
theorem fSt.tr {x : Nat} {I I' I'' : am_I} (h : fSt x I I') (h' : fSt x I' I'') : fSt x I I'' := ⟨fun a b q => (h'.1 a b q).trans (h.1 a b q), fun k q => ⟨((h'.2 k q).1).trans (h.2 k q).1, ((h'.2 k q).2).trans (h.2 k q).2⟩⟩
theorem fSt.rf {x : Nat} {I : am_I} : fSt x I I := ⟨fun _ _ _ => rfl, fun _ _ => ⟨rfl, rfl⟩⟩
theorem fSt_Lg {x : Nat} {I I' : am_I} (h : fLg x I I') : fSt x I I' := ⟨fun a b q => h.1 a b (by omega), fun k q => ⟨h.2 k q, by rw [h.1 x 41 (by omega)]⟩⟩
theorem shf {f : Nat → Int32} {d j : Nat} {suf : List Nat} (h : ∀ k c, (d :: suf)[k]? = some c → f (j + k) = nI c) : f j = nI d ∧ ∀ k c, suf[k]? = some c → f (j + 1 + k) = nI c := ⟨h 0 d rfl, fun k c hk => by
  rw [← h (k + 1) c hk]
  exact congrArg f (by omega)⟩
section SET
variable {n y : Nat}
theorem st1_lp (hy : y < n) (hn : n ≤ 4) : ∀ (suf : List Nat) (j fu : Nat) (lg : List Nat) (I : am_I), suf.length < fu → j + suf.length ≤ 32 → (∀ c, c ∈ suf → c < 640) → I 0 15 7 = nI (j + suf.length) → (∀ k c, suf[k]? = some c → I 0 20 (j + k) = nI c) → I 0 15 8 = nI y → LCl y I lg → lg.length ≤ 16 → (∀ c, c ∈ lg → c < 640) → lg.Pairwise (· < ·) → (∀ b, b < 640 → I y 43 b = nI 0 ∨ I y 43 b = nI 1) → I y 41 2 = nI (cnt (I y 43) 640) → ∃ I' lg', bX9_settle_2 n fu (nI j) I = bX9_settle_50 n am_fu (nI 0) I' ∧ LCl y I' lg' ∧ lg'.Pairwise (· < ·) ∧ (∀ c, c ∈ lg' ↔ c ∈ lg ∧ ¬ c ∈ suf) ∧ (∀ c, I' y 43 c = if c ∈ suf then nI 0 else I y 43 c) ∧ I' y 41 2 = nI (cnt (I' y 43) 640) ∧ fSt y I I' := by
  intro suf
  induction suf with
  | nil =>
    intro j fu lg I hf hj h640 h7 h20 h8 hL hl hl6 hs h01 hc
    obtain ⟨fu, rfl⟩ : ∃ f, fu = f + 1 := ⟨fu - 1, by omega⟩
    refine ⟨I, lg, ?_, hL, hs, fun c => ⟨fun q => ⟨q, List.not_mem_nil⟩, fun q => q.1⟩, fun c => by rw [if_neg List.not_mem_nil], hc, fSt.rf⟩
    conv => lhs; unfold bX9_settle_2
    dsimp only
    have : I 0 15 7 ≤ nI j := by rw [h7, z_le (by simp at hj ⊢; omega) (by omega)]; simp
    rw [if_pos this]
  | cons d suf ih =>
    intro j fu lg I hf hj h640 h7 h20 h8 hL hl hl6 hs h01 hc
    obtain ⟨fu, rfl⟩ : ∃ f, fu = f + 1 := ⟨fu - 1, by omega⟩
    rw [List.length_cons] at hf hj h7
    have hd := h640 d List.mem_cons_self
    obtain ⟨h20j, h20'⟩ := shf h20
    have hle : ¬ I 0 15 7 ≤ nI j := by rw [h7, z_le (by omega) (by omega)]; omega
    have g1 : j < 32 := by omega
    obtain ⟨I1, a1, a2, a3⟩ := c_rmv (n := n) (x := y) hd hl hl6 hL
    have e8 : I1 0 15 8 = nI y := by rw [a3.1 0 15 (by omega)]; exact h8
    have e20 : I1 0 20 = I 0 20 := a3.1 0 20 (by omega)
    have e43 : I1 y 43 = I y 43 := a3.1 y 43 (by omega)
    obtain ⟨I2, b1, b2, b3, b4, b5⟩ := c_drp (n := n) (x := y) (b := d) (I := I1) hd (by rw [e43]; exact h01 d hd) (by rw [a3.1 y 41 (by omega), e43]; exact hc)
    have hm1 : ∀ c, c ∈ lg.filter (fun c => decide (¬ c = d)) ↔ c ∈ lg ∧ ¬ c = d := fun c => by rw [List.mem_filter, decide_eq_true_iff]
    have hl1 : (lg.filter (fun c => decide (¬ c = d))).length ≤ 16 := Nat.le_trans (List.length_filter_le _ _) hl
    have fr : fSt y I I2 := fSt.tr (fSt_Lg a3) ⟨fun a b q => b5 a b (by omega), fun k q => ⟨by rw [b5 y 44 (by omega)], b4 k q⟩⟩
    obtain ⟨I', lg', r1, r2, r3, r4, r5, r6, r7⟩ := ih (j + 1) fu _ I2 (by omega) (by omega) (fun c hc => h640 c (List.mem_cons_of_mem _ hc)) (by rw [fr.1 0 15 (by omega), h7]; exact congrArg nI (by omega)) (fun k c hk => by rw [fr.1 0 20 (by omega)]; exact h20' k c hk) (by rw [fr.1 0 15 (by omega)]; exact h8) (show LCl y I2 _ from by unfold LCl; rw [b5 y 44 (by omega), b5 y 45 (by omega)]; exact a2) hl1 (fun c q => hl6 c ((hm1 c).mp q).1) (hs.sublist List.filter_sublist) (fun b hb => by
      rw [b2 b]
      by_cases e : b = d
      · rw [if_pos e]; exact Or.inl rfl
      · rw [if_neg e, e43]; exact h01 b hb) b3
    refine ⟨I', lg', ?_, r2, r3, fun c => ?_, fun c => ?_, r6, fr.tr r7⟩
    · rw [← r1]
      conv => lhs; unfold bX9_settle_2
      dsimp only
      rw [if_neg hle, h8, z_clamp (by omega), decide_eq_true hy, z_gdt, z_inb (by omega), decide_eq_true g1, z_gdt, z_clamp (by omega), h20j, a1, Option.bind_some]
      rw [e8, z_clamp (by omega), decide_eq_true hy, z_gdt, z_gdt, e20, h20j, b1, Option.bind_some, nI_add]
    · rw [r4 c, hm1 c, List.mem_cons]
      exact ⟨fun q => ⟨q.1.1, fun q2 => q2.elim q.1.2 q.2⟩, fun q => ⟨⟨q.1, fun e => q.2 (Or.inl e)⟩, fun e => q.2 (Or.inr e)⟩⟩
    · rw [r5 c, b2 c, e43]
      by_cases e : c ∈ suf
      · rw [if_pos e, if_pos (List.mem_cons_of_mem _ e)]
      · rw [if_neg e]
        by_cases e2 : c = d
        · rw [if_pos e2, if_pos (by rw [e2]; exact List.mem_cons_self)]
        · rw [if_neg e2, if_neg (fun q => (List.mem_cons.mp q).elim e2 e)]
theorem st2_lp {gn W : List Nat} (hy : y < n) (hn : n ≤ 4) (hW : W.length ≤ 16) (hW6 : ∀ c, c ∈ W → c < 640) : ∀ (suf : List Nat) (j fu : Nat) (lg : List Nat) (I : am_I), suf.length < fu → j + suf.length ≤ 32 → (∀ c, c ∈ suf → c < 640) → I 0 15 5 = nI (j + suf.length) → (∀ k c, suf[k]? = some c → I 0 16 (j + k) = nI c) → I 0 15 8 = nI y → GVc I gn → LCl y I lg → (∀ c, c ∈ lg → c ∈ W) → lg.Pairwise (· < ·) → (∀ c, c ∈ suf → ¬ c ∈ gn → c ∈ W) → ∃ I' lg', bX9_settle_50 n fu (nI j) I = (gX9_forget n I').bind (fun q1 => some q1) ∧ LCl y I' lg' ∧ lg'.Pairwise (· < ·) ∧ (∀ c, c ∈ lg' ↔ c ∈ lg ∨ (c ∈ suf ∧ ¬ c ∈ gn)) ∧ fLg y I I' := by
  intro suf
  induction suf with
  | nil =>
    intro j fu lg I hf hj h640 h5 h16 h8 hG hL hlW hs hsW
    obtain ⟨fu, rfl⟩ : ∃ f, fu = f + 1 := ⟨fu - 1, by omega⟩
    refine ⟨I, lg, ?_, hL, hs, fun c => ⟨Or.inl, fun q => q.elim id (fun q => absurd q.1 List.not_mem_nil)⟩, fLg.rf⟩
    conv => lhs; unfold bX9_settle_50
    dsimp only
    have : I 0 15 5 ≤ nI j := by rw [h5, z_le (by simp at hj ⊢; omega) (by omega)]; simp
    rw [if_pos this]
  | cons d suf ih =>
    intro j fu lg I hf hj h640 h5 h16 h8 hG hL hlW hs hsW
    obtain ⟨fu, rfl⟩ : ∃ f, fu = f + 1 := ⟨fu - 1, by omega⟩
    rw [List.length_cons] at hf hj h5
    have hd := h640 d List.mem_cons_self
    obtain ⟨h16j, h16'⟩ := shf h16
    have hle : ¬ I 0 15 5 ≤ nI j := by rw [h5, z_le (by omega) (by omega)]; omega
    have g1 : j < 32 := by omega
    have hnd := nd_lt hs
    have hy8 : (I 0 15 8).toNatClampNeg = y := by rw [h8, z_clamp (by omega)]
    have hlen : lg.length ≤ 16 := Nat.le_trans (pigeon lg W hnd hlW) hW
    have hl6 : ∀ c, c ∈ lg → c < 640 := fun c q => hW6 c (hlW c q)
    have st : ∀ I1 : am_I, bX9_settle_50 n (fu + 1) (nI j) I = (if nI (if d ∈ gn then 1 else 0) = (0 : Int32) then (gX3_add n y (nI d) I).bind (fun q6 => bX9_settle_50 n fu (nI (j + 1)) q6) else bX9_settle_50 n fu (nI (j + 1)) I) := fun _ => by
      conv => lhs; unfold bX9_settle_50
      dsimp only
      rw [if_neg hle, z_inb (by omega), decide_eq_true g1, z_gdt, z_clamp (by omega), h16j, c_isG (n := n) hd hG, Option.bind_some]
      dsimp only
      by_cases hc0 : nI (if d ∈ gn then 1 else 0) = (0 : Int32)
      · rw [if_pos hc0, if_pos hc0]
        refine (am_gd_of (decide_eq_true (hy8 ▸ hy))).trans ?_
        rw [hy8, z_gdt, h16j]
        show ((gX3_add n y (nI d) I).bind (fun q6 => bX9_settle_50 n fu (nI j + nI 1) q6)) = _
        rw [nI_add]
      · rw [if_neg hc0, if_neg hc0, bX9_settle_87, nI_add]
    rw [st I]
    by_cases hg : d ∈ gn
    · rw [if_pos hg, if_neg (show ¬ nI 1 = (0 : Int32) from by decide)]
      obtain ⟨I', lg', r1, r2, r3, r4, r5⟩ := ih (j + 1) fu lg I (by omega) (by omega) (fun c hc => h640 c (List.mem_cons_of_mem _ hc)) (by rw [h5]; exact congrArg nI (by omega)) h16' h8 hG hL hlW hs (fun c hc => hsW c (List.mem_cons_of_mem _ hc))
      refine ⟨I', lg', r1, r2, r3, fun c => ?_, r5⟩
      rw [r4 c, List.mem_cons]
      exact ⟨fun q => q.imp id (fun q => ⟨Or.inr q.1, q.2⟩), fun q => q.imp id (fun q => ⟨q.1.resolve_left (fun e => q.2 (e ▸ hg)), q.2⟩)⟩
    · rw [if_neg hg, if_pos (show nI 0 = (0 : Int32) from rfl)]
      have hdW := hsW d List.mem_cons_self hg
      obtain ⟨I1, lg1, a1, a2, a3, a4, a5⟩ := c_addL (n := n) (x := y) hd hlen hs hl6 hL (by
        by_cases e : d ∈ lg
        · exact Or.inl e
        · refine Or.inr ?_
          have := pigeon (d :: lg) W (List.nodup_cons.mpr ⟨e, hnd⟩) (fun c hc => (List.mem_cons.mp hc).elim (fun e => e ▸ hdW) (hlW c))
          rw [List.length_cons] at this
          omega)
      obtain ⟨I', lg', r1, r2, r3, r4, r5⟩ := ih (j + 1) fu lg1 I1 (by omega) (by omega) (fun c hc => h640 c (List.mem_cons_of_mem _ hc)) (by rw [a5.1 0 15 (by omega), h5]; exact congrArg nI (by omega)) (by rw [a5.1 0 16 (by omega)]; exact h16') (by rw [a5.1 0 15 (by omega)]; exact h8) (show GVc I1 gn from by unfold GVc; rw [a5.1 0 15 (by omega), a5.1 0 20 (by omega)]; exact hG) a2 (fun c hc => ((a4 c).mp hc).elim (hlW c) (fun e => e ▸ hdW)) a3 (fun c hc => hsW c (List.mem_cons_of_mem _ hc))
      refine ⟨I', lg', ?_, r2, r3, fun c => ?_, a5.tr r5⟩
      · rw [a1, Option.bind_some]
        exact r1
      · rw [r4 c, a4 c, List.mem_cons]
        constructor
        · rintro ((q | q) | q)
          · exact Or.inl q
          · exact Or.inr ⟨Or.inl q, by rw [q]; exact hg⟩
          · exact Or.inr ⟨Or.inr q.1, q.2⟩
        · rintro (q | ⟨q | q, q2⟩)
          · exact Or.inl (Or.inl q)
          · exact Or.inl (Or.inr q)
          · exact Or.inr ⟨q, q2⟩
/-- the class keeps what a try did -/
theorem c_settle {gn cv lg W : List Nat} {I : am_I} (hy : y < n) (hn : n ≤ 4) (hG : GVc I gn) (h8 : I 0 15 8 = nI y) (h5 : I 0 15 5 = nI cv.length) (hl : cv.length ≤ 32) (hnd : cv.Nodup) (hc6 : ∀ b, b ∈ cv → b < 640) (h19 : ∀ b, b < 640 → I 0 19 b = if b ∈ cv then nI 1 else nI 0) (h16 : ∀ k b, cv[k]? = some b → I 0 16 k = nI b) (hL : LCl y I lg) (hlg : lg.length ≤ 16) (hl6 : ∀ c, c ∈ lg → c < 640) (hs : lg.Pairwise (· < ·)) (h01 : ∀ b, b < 640 → I y 43 b = nI 0 ∨ I y 43 b = nI 1) (hc : I y 41 2 = nI (cnt (I y 43) 640)) (hW : W.length ≤ 16) (hWm : ∀ c, c ∈ W ↔ (c ∈ lg ∨ c ∈ cv) ∧ ¬ c ∈ gn) : ∃ I' lg', gX9_settle n I = some I' ∧ LCl y I' lg' ∧ lg'.Pairwise (· < ·) ∧ (∀ c, c ∈ lg' ↔ (c ∈ lg ∨ c ∈ cv) ∧ ¬ c ∈ gn) ∧ (∀ c, I' y 43 c = if c ∈ gn then nI 0 else I y 43 c) ∧ I' y 41 2 = nI (cnt (I' y 43) 640) ∧ (∀ b, b < 640 → I' 0 19 b = nI 0) ∧ I' 0 15 5 = nI 0 ∧ I' 0 15 7 = nI 0 ∧ (∀ k, ¬ (k = 5 ∨ k = 7) → I' 0 15 k = I 0 15 k) ∧ (∀ k, ¬ k = 2 → I' y 44 k = I y 44 k ∧ I' y 41 k = I y 41 k) ∧ ∀ a b, ¬ (a = y ∧ (b = 41 ∨ b = 43 ∨ b = 44 ∨ b = 45)) → ¬ (a = 0 ∧ (b = 15 ∨ b = 19)) → I' a b = I a b := by
  obtain ⟨I1, lg1, a1, a2, a3, a4, a5, a6, a7⟩ := st1_lp (n := n) hy hn gn 0 am_fu lg I (fu_lt (by have := hG.2.2.1; omega)) (by have := hG.2.2.1; omega) hG.2.2.2 (by rw [Nat.zero_add]; exact hG.1) (fun k c hk => by rw [Nat.zero_add]; exact hG.2.1 k c hk) h8 hL hlg hl6 hs h01 hc
  have hW6 : ∀ c, c ∈ W → c < 640 := fun c q => ((hWm c).mp q).1.elim (hl6 c) (hc6 c)
  obtain ⟨I2, lg2, b1, b2, b3, b4, b5⟩ := st2_lp (n := n) (gn := gn) hy hn hW hW6 cv 0 am_fu lg1 I1 (fu_lt (by omega)) (by omega) hc6 (by rw [Nat.zero_add, a7.1 0 15 (by omega)]; exact h5) (fun k c hk => by rw [Nat.zero_add, a7.1 0 16 (by omega)]; exact h16 k c hk) (by rw [a7.1 0 15 (by omega)]; exact h8) (show GVc I1 gn from by unfold GVc; rw [a7.1 0 15 (by omega), a7.1 0 20 (by omega)]; exact hG) a2 (fun c q => (hWm c).mpr ⟨Or.inl ((a4 c).mp q).1, ((a4 c).mp q).2⟩) a3 (fun c q q2 => (hWm c).mpr ⟨Or.inr q, q2⟩)
  have fr := a7.tr (fSt_Lg b5)
  obtain ⟨I', r1, r2, r3, r4, r5, r6⟩ := cf_lp (n := n) hnd hc6 hl cv.length 0 am_fu I2 (by omega) (fu_lt (by omega)) (by rw [fr.1 0 15 (by omega)]; exact h5) (fun k b q => by rw [fr.1 0 16 (by omega)]; exact h16 k b q) (by rw [List.drop_zero, fr.1 0 19 (by omega)]; exact h19)
  refine ⟨I', lg2, ?_, ?_, b3, fun c => ?_, fun c => ?_, ?_, r2, r3, r4, fun k q => ?_, fun k q => ?_, fun a b q q2 => ?_⟩
  · rw [gX9_settle, bX9_settle_0, a1, b1, gX9_forget, bX9_forget_0, r1]
    rfl
  · unfold LCl
    rw [r6 y 44 (by omega), r6 y 45 (by omega)]
    exact b2
  · rw [b4 c, a4 c]
    exact ⟨fun q => q.elim (fun q => ⟨Or.inl q.1, q.2⟩) (fun q => ⟨Or.inr q.1, q.2⟩), fun q => q.1.elim (fun q1 => Or.inl ⟨q1, q.2⟩) (fun q1 => Or.inr ⟨q1, q.2⟩)⟩
  · rw [r6 y 43 (by omega), b5.1 y 43 (by omega), a5 c]
  · rw [r6 y 41 (by omega), r6 y 43 (by omega), b5.1 y 41 (by omega), b5.1 y 43 (by omega)]
    exact a6
  · rw [r5 k q, fr.1 0 15 (by omega)]
  · rw [r6 y 44 (by omega), r6 y 41 (by omega)]
    exact fr.2 k q
  · rw [r6 a b (by omega)]
    exact fr.1 a b q
/-- whether the log could not hold it: the class -/
theorem it2_lp {gn lg : List Nat} {I : am_I} (hy : y < n) (hn : n ≤ 4) (hG : GVc I gn) (h8 : I 0 15 8 = nI y) (hL : LCl y I lg) (hlg : lg.length ≤ 16) (hl6 : ∀ c, c ∈ lg → c < 640) : ∀ (suf : List Nat) (c j fu : Nat), suf.length < fu → j + suf.length ≤ 32 → c + suf.length ≤ 1000 → (∀ c, c ∈ suf → c < 640) → I 0 15 5 = nI (j + suf.length) → (∀ k c, suf[k]? = some c → I 0 16 (j + k) = nI c) → bX9_isTooMuch_48 n fu (nI c) (nI j) I = some (nI (if 16 < c + (suf.filter (fun b => decide (¬ b ∈ gn ∧ ¬ b ∈ lg))).length then 1 else 0), I) := by
  intro suf
  induction suf with
  | nil =>
    intro c j fu hf hj hcb h640 h5 h16
    obtain ⟨fu, rfl⟩ : ∃ f, fu = f + 1 := ⟨fu - 1, by omega⟩
    conv => lhs; unfold bX9_isTooMuch_48
    dsimp only
    have : I 0 15 5 ≤ nI j := by rw [h5, z_le (by simp at hj ⊢; omega) (by omega)]; simp
    rw [if_pos this, List.filter_nil]
    show _ = some (nI (if 16 < c then 1 else 0), I)
    by_cases e : c ≤ 16
    · rw [if_pos (by rw [z_le (by omega) (by decide)]; exact e), if_neg (by omega), bX9_isTooMuch_108, z_01, z_gdt]
    · rw [if_neg (by rw [z_le (by omega) (by decide)]; exact e), if_pos (by omega), bX9_isTooMuch_108, z_011, z_gdt]
  | cons d suf ih =>
    intro c j fu hf hj hcb h640 h5 h16
    obtain ⟨fu, rfl⟩ : ∃ f, fu = f + 1 := ⟨fu - 1, by omega⟩
    rw [List.length_cons] at hf hj h5 hcb
    have hd := h640 d List.mem_cons_self
    obtain ⟨h16j, h16'⟩ := shf h16
    have hle : ¬ I 0 15 5 ≤ nI j := by rw [h5, z_le (by omega) (by omega)]; omega
    have g1 : j < 32 := by omega
    have i1 := fun c' hc' => ih c' (j + 1) fu (by omega) (by omega) hc' (fun c hc => h640 c (List.mem_cons_of_mem _ hc)) (by rw [h5]; exact congrArg nI (by omega)) h16'
    conv => lhs; unfold bX9_isTooMuch_48
    dsimp only
    rw [if_neg hle, z_inb (by omega), decide_eq_true g1, z_gdt, z_clamp (by omega), h16j, c_isG (n := n) hd hG, Option.bind_some]
    dsimp only
    rw [List.filter_cons]
    by_cases hg : d ∈ gn
    · rw [if_pos hg, if_neg (show ¬ nI 1 = (0 : Int32) from by decide), bX9_isTooMuch_91, nI_add, i1 c (by omega), if_neg (c := decide _ = true) (by simp [hg])]
    · have hy8 : (I 0 15 8).toNatClampNeg = y := by rw [h8, z_clamp (by omega)]
      rw [if_neg hg, if_pos (show nI 0 = (0 : Int32) from rfl)]
      refine (am_gd_of (decide_eq_true (hy8 ▸ hy))).trans ?_
      rw [hy8, z_gdt, h16j, c_hasL (n := n) hd hlg hl6 hL, Option.bind_some]
      dsimp only
      by_cases hm : d ∈ lg
      · rw [if_pos hm, if_neg (show ¬ nI 1 = (0 : Int32) from by decide), bX9_isTooMuch_91, nI_add, i1 c (by omega), if_neg (c := decide _ = true) (by simp [hm])]
      · rw [if_neg hm, if_pos (show nI 0 = (0 : Int32) from rfl), bX9_isTooMuch_91, nI_add, nI_add, i1 (c + 1) (by omega), if_pos (c := decide _ = true) (by simp [hg, hm]), List.length_cons]
        rw [show c + 1 + (suf.filter (fun b => decide (¬ b ∈ gn ∧ ¬ b ∈ lg))).length = c + ((suf.filter (fun b => decide (¬ b ∈ gn ∧ ¬ b ∈ lg))).length + 1) from by omega]
theorem it1_lp {gn : List Nat} {I : am_I} (hy : y < n) (hn : n ≤ 4) (hG : GVc I gn) (h8 : I 0 15 8 = nI y) : ∀ (suf : List Nat) (c j fu : Nat), suf.length < fu → j + suf.length ≤ 16 → (∀ c, c ∈ suf → c < 640) → I y 44 2 = nI (j + suf.length) → (∀ k c, suf[k]? = some c → I y 45 (j + k) = nI c) → bX9_isTooMuch_4 n fu (nI c) (nI j) I = bX9_isTooMuch_48 n am_fu (nI (c + (suf.filter (fun b => decide (¬ b ∈ gn))).length)) (nI 0) I := by
  intro suf
  induction suf with
  | nil =>
    intro c j fu hf hj h640 h5 h16
    obtain ⟨fu, rfl⟩ : ∃ f, fu = f + 1 := ⟨fu - 1, by omega⟩
    conv => lhs; unfold bX9_isTooMuch_4
    dsimp only
    have : I y 44 2 ≤ nI j := by rw [h5, z_le (by simp at hj ⊢; omega) (by omega)]; simp
    rw [h8, z_clamp (by omega), decide_eq_true hy, z_gdt, if_pos this, List.filter_nil]
    rfl
  | cons d suf ih =>
    intro c j fu hf hj h640 h5 h16
    obtain ⟨fu, rfl⟩ : ∃ f, fu = f + 1 := ⟨fu - 1, by omega⟩
    rw [List.length_cons] at hf hj h5
    have hd := h640 d List.mem_cons_self
    obtain ⟨h16j, h16'⟩ := shf h16
    have hle : ¬ I y 44 2 ≤ nI j := by rw [h5, z_le (by omega) (by omega)]; omega
    have g1 : j < 16 := by omega
    have i1 := fun c' => ih c' (j + 1) fu (by omega) (by omega) (fun c hc => h640 c (List.mem_cons_of_mem _ hc)) (by rw [h5]; exact congrArg nI (by omega)) h16'
    conv => lhs; unfold bX9_isTooMuch_4
    dsimp only
    rw [h8, z_clamp (by omega), decide_eq_true hy, z_gdt, if_neg hle, z_gdt, z_inb (by omega), decide_eq_true g1, z_gdt, z_clamp (by omega), h16j, c_isG (n := n) hd hG, Option.bind_some]
    dsimp only
    rw [List.filter_cons]
    by_cases hg : d ∈ gn
    · rw [if_pos hg, if_neg (show ¬ nI 1 = (0 : Int32) from by decide), if_neg (c := decide _ = true) (by simp [hg]), bX9_isTooMuch_40, nI_add, i1 c]
    · rw [if_neg hg, if_pos (show nI 0 = (0 : Int32) from rfl), if_pos (c := decide _ = true) (by simp [hg]), bX9_isTooMuch_40, nI_add, nI_add, i1 (c + 1), List.length_cons]
      rw [show c + 1 + (suf.filter (fun b => decide (¬ b ∈ gn))).length = c + ((suf.filter (fun b => decide (¬ b ∈ gn))).length + 1) from by omega]
/-- how many blocks would be logged -/
def tgt (lg cv gn : List Nat) : List Nat := lg.filter (fun b => decide (¬ b ∈ gn)) ++ cv.filter (fun b => decide (¬ b ∈ gn ∧ ¬ b ∈ lg))
theorem tgt_mem {lg cv gn : List Nat} (c : Nat) : c ∈ tgt lg cv gn ↔ (c ∈ lg ∨ c ∈ cv) ∧ ¬ c ∈ gn := by
  unfold tgt
  rw [List.mem_append, List.mem_filter, List.mem_filter, decide_eq_true_iff, decide_eq_true_iff]
  by_cases h : c ∈ lg
  · exact ⟨fun q => q.elim (fun q => ⟨Or.inl q.1, q.2⟩) (fun q => ⟨Or.inr q.1, q.2.1⟩), fun q => Or.inl ⟨h, q.2⟩⟩
  · exact ⟨fun q => q.elim (fun q => ⟨Or.inl q.1, q.2⟩) (fun q => ⟨Or.inr q.1, q.2.1⟩), fun q => Or.inr ⟨q.1.resolve_left h, q.2, h⟩⟩
theorem tgt_nd {lg cv gn : List Nat} (hl : lg.Nodup) (hc : cv.Nodup) : (tgt lg cv gn).Nodup := by
  unfold tgt
  rw [List.nodup_append]
  refine ⟨hl.sublist List.filter_sublist, hc.sublist List.filter_sublist, fun a ha b hb e => ?_⟩
  rw [List.mem_filter, decide_eq_true_iff] at ha hb
  exact hb.2.2 (e ▸ ha.1)
theorem c_tooM {gn cv lg : List Nat} {I : am_I} (hy : y < n) (hn : n ≤ 4) (hG : GVc I gn) (h8 : I 0 15 8 = nI y) (h5 : I 0 15 5 = nI cv.length) (hl : cv.length ≤ 32) (hc6 : ∀ b, b ∈ cv → b < 640) (h16 : ∀ k b, cv[k]? = some b → I 0 16 k = nI b) (hL : LCl y I lg) (hlg : lg.length ≤ 16) (hl6 : ∀ c, c ∈ lg → c < 640) : gX9_isTooMuch n I = some (nI (if 16 < (tgt lg cv gn).length then 1 else 0), I) := by
  have hfl := List.length_filter_le (fun b => decide (¬ b ∈ gn)) lg
  rw [gX9_isTooMuch, bX9_isTooMuch_0, it1_lp (n := n) hy hn hG h8 lg 0 0 am_fu (fu_lt (by omega)) (by omega) hl6 (by rw [Nat.zero_add]; exact hL.1) (fun k c hk => by rw [Nat.zero_add]; exact hL.2 k c hk), it2_lp (n := n) hy hn hG h8 hL hlg hl6 cv _ 0 am_fu (fu_lt (by omega)) (by omega) (by omega) hc6 (by rw [Nat.zero_add]; exact h5) (fun k c hk => by rw [Nat.zero_add]; exact h16 k c hk), Nat.zero_add]
  unfold tgt
  rw [List.length_append]
end SET
