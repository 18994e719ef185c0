
/-- the class's bits: which inodes are used, which blocks -/
def BV (I : am_I) (M B : Nat → Prop) : Prop := ∀ g, g < 8 → (∀ i, i < 32 → (bt (I 0 26 (3 * g)) i = true ↔ i < 16 ∧ M (16 * g + i))) ∧ ∀ w, w < 2 → ∀ i, i < 32 → (bt (I 0 26 (3 * g + 1 + w)) i = true ↔ 32 * w + i < 47 ∧ B (145 + 64 * g + (32 * w + i)))
def f26 (I I' : am_I) : Prop := ∀ a b, ¬ (a = 0 ∧ b = 26) → I' a b = I a b
section OWN
variable {n : Nat} {S : wS} {I J : am_I} {k s b : Nat} {M B M' B' : Nat → Prop}
theorem f26.tr {I' I'' : am_I} (h : f26 I I') (h' : f26 I' I'') : f26 I I'' := fun a b q => (h' a b q).trans (h a b q)
theorem sv_26 {I' : am_I} (h : SV S I J) (f : f26 I I') : SV S I' J := sv_fr h (f 0 1 (by omega)) (f 0 22 (by omega)) rfl
theorem bv_eq (h : BV I M B) (e1 : ∀ t, t < 128 → (M' t ↔ M t)) (e2 : ∀ b, w_D b → (B' b ↔ B b)) : BV I M' B' := fun g hg => by
  obtain ⟨h1, h2⟩ := h g hg
  refine ⟨fun i hi => (h1 i hi).trans ?_, fun w hw i hi => (h2 w hw i hi).trans ?_⟩
  · exact ⟨fun q => ⟨q.1, (e1 _ (by omega)).mpr q.2⟩, fun q => ⟨q.1, (e1 _ (by omega)).mp q.2⟩⟩
  · exact ⟨fun q => ⟨q.1, (e2 _ (by unfold w_D; omega)).mpr q.2⟩, fun q => ⟨q.1, (e2 _ (by unfold w_D; omega)).mp q.2⟩⟩
/-- a bit of an inode is set -/
theorem bv_i {t : Nat} (h : BV I M B) (ht : t < 128) : BV (am_up I 0 26 (3 * (t / 16)) (I 0 26 (3 * (t / 16)) ||| (nI 1 <<< (nI (t % 16) &&& 31)))) (fun u => M u ∨ u = t) B := fun g hg => by
  obtain ⟨h1, h2⟩ := h g hg
  refine ⟨fun i hi => ?_, fun w hw i hi => ?_⟩
  · rw [z_upk]
    by_cases c : g = t / 16
    · rw [if_pos (by omega), ← c, z_bset _ (by omega) hi, Bool.or_eq_true, decide_eq_true_eq, h1 i hi]
      constructor
      · rintro (q | q)
        · exact ⟨q.1, Or.inl q.2⟩
        · exact ⟨by omega, Or.inr (by omega)⟩
      · rintro ⟨q1, q2 | q2⟩
        · exact Or.inl ⟨q1, q2⟩
        · exact Or.inr (by omega)
    · rw [if_neg (by omega), h1 i hi]
      exact ⟨fun q => ⟨q.1, Or.inl q.2⟩, fun q => ⟨q.1, q.2.resolve_right (by omega)⟩⟩
  · rw [z_upk, if_neg (by omega)]
    exact h2 w hw i hi
/-- a bit of a block is set -/
theorem bv_b {x : Nat} (h : BV I M B) (hx : w_D x) : BV (am_up I 0 26 (3 * ((x - 128) / 64) + 1 + ((x - 128) % 64 - 17) / 32) (I 0 26 (3 * ((x - 128) / 64) + 1 + ((x - 128) % 64 - 17) / 32) ||| (nI 1 <<< (nI (((x - 128) % 64 - 17) % 32) &&& 31)))) M (fun u => B u ∨ u = x) := fun g hg => by
  obtain ⟨h1, h2⟩ := h g hg
  obtain ⟨x1, x2, x3⟩ := hx
  refine ⟨fun i hi => ?_, fun w hw i hi => ?_⟩
  · rw [z_upk, if_neg (by omega)]
    exact h1 i hi
  · rw [z_upk]
    by_cases c : g = (x - 128) / 64 ∧ w = ((x - 128) % 64 - 17) / 32
    · rw [if_pos (by omega), ← c.1, ← c.2, z_bset _ (by omega) hi, Bool.or_eq_true, decide_eq_true_eq, h2 w hw i hi]
      constructor
      · rintro (q | q)
        · exact ⟨q.1, Or.inl q.2⟩
        · exact ⟨by omega, Or.inr (by omega)⟩
      · rintro ⟨q1, q2 | q2⟩
        · exact Or.inl ⟨q1, q2⟩
        · exact Or.inr (by omega)
    · rw [if_neg (by omega), h2 w hw i hi]
      exact ⟨fun q => ⟨q.1, Or.inl q.2⟩, fun q => ⟨q.1, q.2.resolve_right (by omega)⟩⟩
theorem bv_no {x : Nat} (h : BV I M B) (hx : w_D x) (hn : ¬ B x) : I 0 26 (3 * ((x - 128) / 64) + 1 + ((x - 128) % 64 - 17) / 32) &&& (nI 1 <<< (nI (((x - 128) % 64 - 17) % 32) &&& 31)) = 0 := by
  obtain ⟨x1, x2, x3⟩ := hx
  rw [z_zero]
  intro i hi
  rw [b_and, b_1s (by omega) hi]
  by_cases c : i = ((x - 128) % 64 - 17) % 32
  · have := (h ((x - 128) / 64) (by omega)).2 (((x - 128) % 64 - 17) / 32) (by omega) i hi
    cases q : bt (I 0 26 (3 * ((x - 128) / 64) + 1 + ((x - 128) % 64 - 17) / 32)) i with
    | false => rfl
    | true =>
      have q2 := (this.mp q).2
      rw [show 145 + 64 * ((x - 128) / 64) + (32 * (((x - 128) % 64 - 17) / 32) + i) = x by omega] at q2
      exact absurd q2 hn
  · rw [decide_eq_false c, Bool.and_false]
/-- a place, the class -/
theorem o_st {h e i fu : Nat} (hw : w_wf S (fun _ => False)) (hk : k < 128) (hs : s < 25) (hv : SV S I J) (hh : h < 640) (hi : i < 16) (hie : i < e) (he : e < 100) (hx : S h i = w_pl S k (pp s)) (hb : BV I M (MB S k s)) : ∃ I', bX2_ownPlaces_3 n (fu + 1) (nI h) (nI e) (nI i) I = bX2_ownPlaces_3 n fu (nI h) (nI e) (nI (i + 1)) I' ∧ BV I' M (MB S k (s + 1)) ∧ f26 I I' := by
  obtain ⟨hA, hB, -⟩ := hw
  conv => enter [1, I', 1, 1]; unfold bX2_ownPlaces_3
  dsimp only
  rw [if_neg (by rw [z_le (by omega) (by omega)]; omega), sv_at hv hh hi, Option.bind_some]
  dsimp only
  rw [hx]
  rcases hA k (pp s) hk (pp_lt hs) with q | ⟨x, q, hxD⟩
  · refine ⟨I, ?_, bv_eq hb (fun _ _ => Iff.rfl) (fun b _ => ?_), fun _ _ _ => rfl⟩
    · rw [if_pos (show w_pl S k (pp s) = 0 from q), bX2_ownPlaces_96, nI_add]
    · rw [mb_s hs]
      refine ⟨fun w => w.resolve_right (fun w => ?_), Or.inl⟩
      have := w.2.2.2
      rw [q] at this
      exact w_D0 w.2.2.1 this.symm
  · have ho : w_own S k (pp s) x := ⟨hk, pp_lt hs, hxD, q⟩
    have hx6 := w_D640 hxD
    have hx1 := hxD.1
    have hx3 := hxD.2.2
    have ei : nI ((x - 128) / 64) * nI 3 + nI 1 + nI ((x - 128) % 64 - 17) / nI 32 = nI (3 * ((x - 128) / 64) + 1 + ((x - 128) % 64 - 17) / 32) := by
      rw [pk_div (by omega) (by omega) (by omega), pk_mul, nI_add, nI_add, Nat.mul_comm ((x - 128) / 64) 3]
    have ga : am_inb (nI (3 * ((x - 128) / 64) + 1 + ((x - 128) % 64 - 17) / 32)) 24 = true := by rw [z_inb (by omega)]; exact decide_eq_true (by omega)
    refine ⟨_, ?_, bv_eq (bv_b hb hxD) (fun _ _ => Iff.rfl) (fun b hbD => ?_), fun a b w => z_upj _ _ _ _ _ _ _ w⟩
    · have dn : gX10_dataNumber n (nI x) I = some (nI ((x - 128) % 64 - 17), I) := by
        rw [gX10_dataNumber, bX10_dataNumber_0, pk_sub (by omega), z_mod (by omega) (by omega) (by omega), pk_sub (by omega)]
      have gr : gX10_groupOf n (nI x) I = some (nI ((x - 128) / 64), I) := by
        rw [gX10_groupOf, bX10_groupOf_0, pk_sub (by omega), pk_div (by omega) (by omega) (by omega)]
      rw [q, if_neg (show ¬ nI x = 0 from w_D0 hxD), c_isd1 hxD, Option.bind_some]
      dsimp only
      rw [if_neg n10, dn, Option.bind_some]
      dsimp only
      rw [gr, Option.bind_some]
      dsimp only
      rw [ei, am_gd_of ga, z_clamp (by omega), z_mod (by omega) (by omega) (by omega), if_pos (bv_no hb hxD (mb_fresh hB hs ho)), am_gd_of ga, am_gd_of ga, am_lt, bX2_ownPlaces_96, nI_add]
    · rw [mb_s hs]
      constructor
      · rintro (w | w)
        · exact Or.inl w
        · right
          have := w.2.2.2
          rw [q] at this
          have hb6 := w_D640 hbD
          exact (w_nI (by omega) (by omega) this).symm
      · rintro (w | w)
        · exact Or.inl w
        · exact Or.inr (w ▸ ho)
theorem ow_lp {h e c c' : Nat} (hw : w_wf S (fun _ => False)) (hk : k < 128) (hh : h < 640) (he : e ≤ 16) (hx : ∀ i s, s + c = i + c' → i < e → s < 25 ∧ S h i = w_pl S k (pp s)) : ∀ (m i s fu : Nat) (I : am_I), i + m = e → s + c = i + c' → m < fu → SV S I J → BV I M (MB S k s) → ∃ I', bX2_ownPlaces_3 n fu (nI h) (nI e) (nI i) I = some (nI 1, I') ∧ BV I' M (MB S k (s + m)) ∧ f26 I I' := by
  intro m
  induction m with
  | zero =>
    intro i s fu I hi hsi hfu hv hb
    obtain ⟨fu, rfl⟩ : ∃ f, fu = f + 1 := ⟨fu - 1, by omega⟩
    refine ⟨I, ?_, hb, fun _ _ _ => rfl⟩
    unfold bX2_ownPlaces_3
    dsimp only
    rw [if_pos (by rw [z_le (by omega) (by omega)]; omega)]
  | succ m ih =>
    intro i s fu I hi hsi hfu hv hb
    obtain ⟨fu, rfl⟩ : ∃ f, fu = f + 1 := ⟨fu - 1, by omega⟩
    obtain ⟨hs, e1⟩ := hx i s hsi (by omega)
    obtain ⟨I1, h1, h2, h3⟩ := o_st (n := n) (fu := fu) (e := e) hw hk hs hv hh (by omega) (by omega) (by omega) e1 hb
    obtain ⟨I', g1, g2, g3⟩ := ih (i + 1) (s + 1) fu I1 (by omega) (by omega) (by omega) (sv_26 hv h3) h2
    exact ⟨I', by rw [h1, g1], by rw [show s + (m + 1) = s + 1 + m by omega]; exact g2, h3.tr g3⟩
/-- whose bit an inode is -/
def MI (S : wS) (k t : Nat) : Prop := t < k ∧ ¬ S (w_ib t) 0 = nI 0
theorem o_10 (hx : x_wf S (fun _ => False)) : ∀ (m k fu : Nat) (I : am_I), k + m = 128 → m < fu → SV S I J → BV I (MI S k) (MB S k 0) → ∃ I', bX2_ownBlocks_10 n fu (nI k) I = some (nI 1, I') ∧ BV I' (MI S 128) (MB S 128 0) ∧ f26 I I' := by
  obtain ⟨f, hf, hf1⟩ := fu_ex
  intro m
  induction m with
  | zero =>
    intro k fu I hk hfu hv hb
    obtain ⟨fu, rfl⟩ : ∃ f, fu = f + 1 := ⟨fu - 1, by omega⟩
    refine ⟨I, ?_, by rw [show 128 = k by omega]; exact hb, fun _ _ _ => rfl⟩
    unfold bX2_ownBlocks_10
    dsimp only
    rw [if_pos (by rw [z_le (by omega) (by omega)]; omega)]
  | succ m ih =>
    intro k fu I hk hfu hv hb
    obtain ⟨fu, rfl⟩ : ∃ f, fu = f + 1 := ⟨fu - 1, by omega⟩
    have hk8 : k < 128 := by omega
    by_cases c : S (w_ib k) 0 = nI 0
    · obtain ⟨I', g1, g2, g3⟩ := ih (k + 1) fu I (by omega) (by omega) hv (bv_eq hb (fun t _ => by
        unfold MI
        refine ⟨fun q => ⟨?_, q.2⟩, fun q => ⟨by omega, q.2⟩⟩
        by_cases d : t = k
        · exact absurd (d ▸ c) q.2
        · omega) (fun b _ => mb_z hx.2.1 hk8 c))
      refine ⟨I', ?_, g2, g3⟩
      conv => lhs; unfold bX2_ownBlocks_10
      dsimp only
      rw [if_neg (by rw [z_le (by omega) (by omega)]; omega), sv_kind hv hk8, Option.bind_some]
      dsimp only
      rw [if_pos (show S (w_ib k) 0 = 0 from c), bX2_ownBlocks_89, nI_add]
      exact g1
    · have hb1 : BV (am_up I 0 26 (3 * (k / 16)) (I 0 26 (3 * (k / 16)) ||| (nI 1 <<< (nI (k % 16) &&& 31)))) (MI S (k + 1)) (MB S k 0) := bv_eq (bv_i hb hk8) (fun t _ => by
        unfold MI
        constructor
        · rintro ⟨q1, q2⟩
          by_cases d : t = k
          · exact Or.inr d
          · exact Or.inl ⟨by omega, q2⟩
        · rintro (q | q)
          · exact ⟨by omega, q.2⟩
          · exact ⟨by omega, q ▸ c⟩) (fun _ _ => Iff.rfl)
      have f1 : f26 I (am_up I 0 26 (3 * (k / 16)) (I 0 26 (3 * (k / 16)) ||| (nI 1 <<< (nI (k % 16) &&& 31)))) := fun a b w => z_upj _ _ _ _ _ _ _ w
      have hv1 := sv_26 hv f1
      obtain ⟨I2, h1, h2, h3⟩ := ow_lp (n := n) (c := 3) (c' := 0) (e := 12) hx.1 hk8 (w_ib_lt hk8) (by omega) (fun i s q1 q2 => ⟨by omega, by rw [show s = i - 3 by omega]; exact (pl_h (by omega) q2).symm⟩) 9 3 0 am_fu _ (by omega) (by omega) (by rw [hf]; omega) hv1 hb1
      have hv2 := sv_26 hv1 h3
      have e16 : nI k / nI 16 * nI 3 = nI (3 * (k / 16)) := by rw [pk_div (by omega) (by omega) (by omega), pk_mul, Nat.mul_comm]
      have ga : am_inb (nI (3 * (k / 16))) 24 = true := by rw [z_inb (by omega)]; exact decide_eq_true (by omega)
      have head : bX2_ownBlocks_10 n (fu + 1) (nI k) I = if S (w_ib k) 11 = 0 then bX2_ownBlocks_89 n (bX2_ownBlocks_10 n fu) (nI k) I2 else ((gX2_ownPlaces n (S (w_ib k) 11) (nI 0) (nI 16) I2).bind (fun q8 => if q8.1 = 0 then (bX2_ownBlocks_87 n q8.2) else (bX2_ownBlocks_89 n (bX2_ownBlocks_10 n fu) (nI k) q8.2))) := by
        conv => lhs; unfold bX2_ownBlocks_10
        dsimp only
        rw [if_neg (by rw [z_le (by omega) (by omega)]; omega), sv_kind hv hk8, Option.bind_some]
        dsimp only
        rw [if_neg (show ¬ S (w_ib k) 0 = 0 from c), e16, am_gd_of ga, am_gd_of ga, z_clamp (by omega), z_mod (by omega) (by omega) (by omega), am_lt, c_ib n k _ hk8, Option.bind_some]
        dsimp only
        rw [sv_at hv1 (w_ib_lt hk8) (by omega), Option.bind_some]
        dsimp only
        rw [gX2_ownPlaces, bX2_ownPlaces_0, h1, Option.bind_some]
        dsimp only
        rw [if_neg n10]
      by_cases d : S (w_ib k) 11 = nI 0
      · obtain ⟨I', g1, g2, g3⟩ := ih (k + 1) fu I2 (by omega) (by omega) hv2 (bv_eq h2 (fun _ _ => Iff.rfl) (fun b _ => mb_k.trans (mb_x d)))
        exact ⟨I', by rw [head, if_pos (show S (w_ib k) 11 = 0 from d), bX2_ownBlocks_89, nI_add, g1], g2, (f1.tr h3).tr g3⟩
      · obtain ⟨x, x1, x2, -⟩ := w_ix hx.1.1 hk8 d
        obtain ⟨I3, p1, p2, p3⟩ := ow_lp (n := n) (c := 0) (c' := 9) (e := 16) hx.1 hk8 (w_D640 x2) (by omega) (fun i s q1 q2 => ⟨by omega, by rw [show s = 9 + i by omega]; exact (pl_x q2 x2 x1).symm⟩) 16 0 9 am_fu I2 (by omega) (by omega) (by rw [hf]; omega) hv2 h2
        obtain ⟨I', g1, g2, g3⟩ := ih (k + 1) fu I3 (by omega) (by omega) (sv_26 hv2 p3) (bv_eq p2 (fun _ _ => Iff.rfl) (fun b _ => mb_k))
        refine ⟨I', ?_, g2, ((f1.tr h3).tr p3).tr g3⟩
        rw [head, if_neg (show ¬ S (w_ib k) 11 = 0 from d), x1, gX2_ownPlaces, bX2_ownPlaces_0, p1, Option.bind_some]
        dsimp only
        rw [if_neg n10, bX2_ownBlocks_89, nI_add, g1]
theorem k_own (hx : x_wf S (fun _ => False)) (hv : SV S I J) : ∃ I', gX2_ownBlocks n I = some (nI 1, I') ∧ BV I' (MI S 128) (MB S 128 0) ∧ f26 I I' := by
  obtain ⟨f, hf, hf1⟩ := fu_ex
  have o26 : ∀ k, k < 24 → am_upf I 0 26 (am_fil (I 0 26) 24 (nI 0)) 0 26 k = nI 0 := fun k hk => by
    unfold am_upf am_fil
    rw [if_pos ⟨rfl, rfl⟩, if_pos hk]
  have f1 : f26 I (am_upf I 0 26 (am_fil (I 0 26) 24 (nI 0))) := fun a b q => if_neg q
  obtain ⟨I', g1, g2, g3⟩ := o_10 (n := n) hx 128 0 am_fu _ (by omega) (by rw [hf]; omega) (sv_26 hv f1) (fun g hg => ⟨fun i hi => by
    rw [o26 _ (by omega)]
    exact ⟨fun q => by rw [show nI 0 = (0 : Int32) from rfl, b_0] at q; exact absurd q (by decide), fun q => absurd q.2.1 (by omega)⟩, fun w hw i hi => by
    rw [o26 _ (by omega)]
    exact ⟨fun q => by rw [show nI 0 = (0 : Int32) from rfl, b_0] at q; exact absurd q (by decide), fun q => absurd q.2 mb_0⟩⟩)
  exact ⟨I', by rw [gX2_ownBlocks, bX2_ownBlocks_0, am_lt, g1], g2, f1.tr g3⟩
end OWN
