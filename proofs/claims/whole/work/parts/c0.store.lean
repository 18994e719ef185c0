
/-- s' has what s has, but for blocks that belong to nothing -/
def jeq (s s' : wS) : Prop := (∀ k i, k < 128 → i < 16 → s' (w_ib k) i = s (w_ib k) i) ∧ (∀ g i, g < 8 → i < 16 → s' (w_mp g) i = s (w_mp g) i) ∧ ∀ k p b i, w_own s k p b → i < 16 → s' b i = s b i
section JEQ
variable {s s' : wS}
theorem jeq_pl (h : jeq s s') (hA : w_A s) {k p : Nat} (hk : k < 128) (hp : p < 25) : w_pl s' k p = w_pl s k p := by
  unfold w_pl
  rw [h.1 k 11 hk (by decide)]
  by_cases h8 : p < 8
  · rw [if_pos h8, if_pos h8, h.1 k (3 + p) hk (by omega)]
  · rw [if_neg h8, if_neg h8]
    by_cases e : p = 24
    · rw [if_pos e, if_pos e]
    · rw [if_neg e, if_neg e]
      by_cases e0 : s (w_ib k) 11 = nI 0
      · rw [if_pos e0, if_pos e0]
      · rw [if_neg e0, if_neg e0]
        obtain ⟨x, x1, x2, x3⟩ := w_ix hA hk e0
        rw [x1, nI_clamp (w_Dlt x2)]
        exact h.2.2 k 24 x (p - 8) x3 (by omega)
theorem jeq_own (h : jeq s s') (hA : w_A s) {k p b : Nat} : w_own s' k p b ↔ w_own s k p b := by
  constructor
  · rintro ⟨a1, a2, a3, a4⟩
    exact ⟨a1, a2, a3, by rw [← jeq_pl h hA a1 a2]; exact a4⟩
  · rintro ⟨a1, a2, a3, a4⟩
    exact ⟨a1, a2, a3, by rw [jeq_pl h hA a1 a2]; exact a4⟩
theorem jeq_of (h : jeq s s') (hA : w_A s) {b r : Nat} : w_of s' b r ↔ w_of s b r := by
  unfold w_of
  have : (∃ p, w_own s' r p b) ↔ ∃ p, w_own s r p b := ⟨fun ⟨p, q⟩ => ⟨p, (jeq_own h hA).mp q⟩, fun ⟨p, q⟩ => ⟨p, (jeq_own h hA).mpr q⟩⟩
  rw [this]
theorem jeq_w (h : jeq s s') {b r i : Nat} (ho : w_of s b r) (hi : i < 16) : s' b i = s b i := by
  rcases ho with ⟨h1, rfl⟩ | ⟨p, h1⟩ | ⟨g, h1, -, rfl⟩
  · exact h.1 r i h1 hi
  · exact h.2.2 r p b i h1 hi
  · exact h.2.1 g i h1 hi
theorem w_D_g {b : Nat} (h : w_D b) : (b - 128) / 64 < 8 ∧ 1 + ((b - 128) % 64 - 17) / 32 < 16 := by
  obtain ⟨h1, h2, h3⟩ := h
  omega
theorem jeq_bit (h : jeq s s') {b : Nat} (hb : w_D b) : w_bit s' b = w_bit s b := by
  unfold w_bit
  rw [h.2.1 _ _ (w_D_g hb).1 (w_D_g hb).2]
theorem jeq_wf {g : Nat → Prop} (h : jeq s s') (hw : x_wf s g) : x_wf s' g := by
  obtain ⟨⟨hA, hB, hC, hK, hE⟩, hZ, hN, hT⟩ := hw
  refine ⟨⟨fun k p hk hp => by rw [jeq_pl h hA hk hp]; exact hA k p hk hp, fun k p k' p' b a1 a2 => hB k p k' p' b ((jeq_own h hA).mp a1) ((jeq_own h hA).mp a2), fun k p b a1 => ?_, fun k hk => ?_, fun k p b a1 hp h2 i hi => ?_⟩, fun k hk h0 i hi => ?_, fun k hk h0 => ?_, fun g hg => ?_⟩
  · rw [jeq_bit h a1.2.2.1]
    exact hC k p b ((jeq_own h hA).mp a1)
  · unfold w_K
    rw [h.1 k 0 hk (by decide), h.1 k 2 hk (by decide)]
    exact hK k hk
  · have a1' := (jeq_own h hA).mp a1
    rw [h.2.2 k p b _ a1' (by omega)]
    rw [h.1 k 0 a1.1 (by decide)] at h2
    exact hE k p b a1' hp h2 i hi
  · rw [h.1 k 0 hk (by decide)] at h0
    rw [h.1 k i hk hi]
    exact hZ k hk h0 i hi
  · rw [h.1 k 0 hk (by decide)] at h0
    have := hN k hk h0
    unfold w_ibit at this ⊢
    rw [h.2.1 (k / 16) 0 (by omega) (by decide)]
    exact this
  · obtain ⟨t1, t2, t3⟩ := hT g hg
    refine ⟨fun i a b => ?_, fun i a b => ?_, fun i a b => ?_⟩
    · rw [h.2.1 g 0 hg (by decide)]; exact t1 i a b
    · rw [h.2.1 g 2 hg (by decide)]; exact t2 i a b
    · rw [h.2.1 g i hg (by omega)]; exact t3 i a b
theorem jeq_en (h : jeq s s') (hA : w_A s) {d w t : Nat} (hd : d < 128) (hw : w < 192) : v_en s' d w t = v_en s d w t := by
  unfold v_en
  rw [h.1 d 0 hd (by decide), h.1 d 2 hd (by decide), jeq_pl h hA hd (by omega : w / 8 < 25)]
  by_cases e0 : w_pl s d (w / 8) = nI 0
  · simp only [e0, not_true_eq_false, false_and, and_false]
  · rcases hA d (w / 8) hd (by omega) with q | ⟨b, q1, q2⟩
    · exact absurd q e0
    · have ho : w_own s d (w / 8) b := ⟨hd, by omega, q2, q1⟩
      rw [q1, nI_clamp (w_Dlt q2), h.2.2 d (w / 8) b _ ho (by omega), h.2.2 d (w / 8) b _ ho (by omega)]
theorem jeq_cn (h : jeq s s') (hA : w_A s) (t : Nat) : v_cn s' t = v_cn s t := by
  unfold v_cn
  refine v_sum_cg 128 (fun d hd => ?_)
  unfold v_c1
  refine v_sum_cg 192 (fun w hw => ?_)
  rw [jeq_en h hA hd hw]
theorem jeq_LC (h : jeq s s') (hA : w_A s) (hl : v_LC s) : v_LC s' := fun t ht => by
  rw [h.1 t 1 ht (by decide), jeq_cn h hA t]
  exact hl t ht
/-- what a store is at a bound of places: links are entries, directories are no larger -/
def v_LK (z : Nat) (S : wS) : Prop := v_LC S ∧ v_SB z S
theorem jeq_LK {z : Nat} (h : jeq s s') (hA : w_A s) (hl : v_LK z s) : v_LK z s' := ⟨jeq_LC h hA hl.1, fun d hd hk => by
  rw [h.1 d 0 hd (by decide)] at hk
  rw [h.1 d 2 hd (by decide)]
  exact hl.2 d hd hk⟩
theorem v_LK.up {z z' : Nat} (h : v_LK z s) (hz : z ≤ z') : v_LK z' s := ⟨h.1, h.2.up hz⟩
theorem LR.lk {z : Nat} (h : LR s s') (hl : v_LK z s) : v_LK (z + 1) s' := ⟨h.1 hl.1, h.2 z hl.2⟩
theorem jeq.rf : jeq s s := ⟨fun _ _ _ _ => rfl, fun _ _ _ _ => rfl, fun _ _ _ _ _ _ => rfl⟩
theorem jeq_sy (h : jeq s s') (hA : w_A s) : jeq s' s := ⟨fun k i hk hi => (h.1 k i hk hi).symm, fun g i hg hi => (h.2.1 g i hg hi).symm, fun k p b i ho hi => (h.2.2 k p b i ((jeq_own h hA).mp ho) hi).symm⟩
end JEQ
/-- THE LAYERS: Y z l b: node z has block b at layer l (2 its log, 1 its flush, 0 its journal, if that is valid); W the words; D the disk -/
def nd (Y : Nat → Nat → Nat → Prop) (z l b : Nat) : Prop := (2 ≤ l ∧ Y z 2 b) ∨ (1 ≤ l ∧ Y z 1 b) ∨ Y z 0 b
noncomputable def cif {α : Type} (p : Prop) (a b : α) : α := @ite α p (Classical.propDecidable p) a b
theorem cif_pos {α : Type} {p : Prop} {a b : α} (h : p) : cif p a b = a := @if_pos p (Classical.propDecidable p) h α a b
theorem cif_neg {α : Type} {p : Prop} {a b : α} (h : ¬ p) : cif p a b = b := @if_neg p (Classical.propDecidable p) h α a b
noncomputable def lw (Y : Nat → Nat → Nat → Prop) (W : Nat → Nat → wS) (z l : Nat) : wS := fun b i => cif (2 ≤ l ∧ Y z 2 b) (W z 2 b i) (cif (1 ≤ l ∧ Y z 1 b) (W z 1 b i) (W z 0 b i))
noncomputable def sF (Y : Nat → Nat → Nat → Prop) (W : Nat → Nat → wS) (D : wS) (L : Nat → Nat) : Nat → wS
  | 0 => D
  | z + 1 => fun b i => cif (nd Y z (L z) b) (lw Y W z (L z) b i) (sF Y W D L z b i)
section LAY
variable {Y Y' : Nat → Nat → Nat → Prop} {W W' : Nat → Nat → wS} {D D' : wS} {L L' : Nat → Nat}
theorem sF_no {b : Nat} : ∀ m, (∀ z, z < m → ¬ nd Y z (L z) b) → ∀ i, sF Y W D L m b i = D b i
  | 0, _, _ => rfl
  | m + 1, h, i => by
    rw [sF]
    exact (cif_neg (h m (by omega))).trans (sF_no m (fun z hz => h z (by omega)) i)
theorem sF_one {z b : Nat} : ∀ m, z < m → nd Y z (L z) b → (∀ z', z' < m → ¬ z' = z → ¬ nd Y z' (L z') b) → ∀ i, sF Y W D L m b i = lw Y W z (L z) b i
  | 0, h, _, _, _ => absurd h (Nat.not_lt_zero _)
  | m + 1, h, h1, h2, i => by
    rw [sF]
    by_cases e : z = m
    · subst e
      exact cif_pos h1
    · exact (cif_neg (h2 m (by omega) (fun q => e q.symm))).trans (sF_one m (by omega) h1 (fun z' hz' => h2 z' (by omega)) i)
theorem sF_cg {b : Nat} {i : Nat} : ∀ m, (∀ z, z < m → (nd Y z (L z) b ↔ nd Y' z (L' z) b) ∧ (nd Y z (L z) b → lw Y W z (L z) b i = lw Y' W' z (L' z) b i)) → ((∀ z, z < m → ¬ nd Y z (L z) b) → D b i = D' b i) → sF Y W D L m b i = sF Y' W' D' L' m b i
  | 0, _, h2 => h2 (fun z hz => absurd hz (Nat.not_lt_zero _))
  | m + 1, h, h2 => by
    rw [sF, sF]
    by_cases e : nd Y m (L m) b
    · exact (cif_pos e).trans (((h m (by omega)).2 e).trans (cif_pos ((h m (by omega)).1.mp e)).symm)
    · have e' : ¬ nd Y' m (L' m) b := fun q => e ((h m (by omega)).1.mpr q)
      refine (cif_neg e).trans ((sF_cg m (fun z hz => h z (by omega)) (fun q => h2 (fun z hz => ?_))).trans (cif_neg e').symm)
      by_cases ez : z = m
      · rw [ez]; exact e
      · exact q z (by omega)
theorem nd_2 {z b : Nat} (h : Y z 2 b) : nd Y z 2 b := Or.inl ⟨Nat.le_refl _, h⟩
/-- whoever has a block at a layer has, at that level, its resource alone -/
def CE (Y : Nat → Nat → Nat → Prop) (W : Nat → Nat → wS) (D : wS) (n : Nat) (G : Nat → Nat → Int) : Prop := ∀ L z l b, z < n → l ≤ 2 → Y z l b → L z = l → ∃ r, w_of (sF Y W D L n) b r ∧ G z r = 2
/-- alone is alone -/
def AL (n : Nat) (G : Nat → Nat → Int) : Prop := ∀ r z z', z < n → z' < n → ¬ z = z' → G z r = 2 → G z' r ≤ 0
variable {n : Nat} {G : Nat → Nat → Int}
def lvl (L : Nat → Nat) (z l : Nat) : Nat → Nat := fun z' => if z' = z then l else L z'
theorem lvl_s {z l : Nat} : lvl L z l z = l := if_pos rfl
theorem lvl_o {z l z' : Nat} (h : ¬ z' = z) : lvl L z l z' = L z' := if_neg h
theorem nd_Y {z l b : Nat} (h : nd Y z l b) : ∃ l', l' ≤ 2 ∧ l' ≤ l ∧ Y z l' b := by
  rcases h with ⟨h1, h2⟩ | ⟨h1, h2⟩ | h2
  · exact ⟨2, by decide, h1, h2⟩
  · exact ⟨1, by decide, h1, h2⟩
  · exact ⟨0, by decide, Nat.zero_le _, h2⟩
/-- a block that y hasn't at any layer: y's level doesn't matter -/
theorem lv_w {y b : Nat} (hL : ∀ z, ¬ z = y → L' z = L z) (h : ∀ l, l ≤ 2 → ¬ Y y l b) (i : Nat) : sF Y W D L' n b i = sF Y W D L n b i := by
  have hn : ∀ l, ¬ nd Y y l b := fun l q => by
    obtain ⟨l', a1, -, a2⟩ := nd_Y q
    exact h l' a1 a2
  refine sF_cg n (fun z hz => ?_) (fun _ => rfl)
  by_cases e : z = y
  · rw [e]
    exact ⟨⟨fun q => absurd q (hn _), fun q => absurd q (hn _)⟩, fun q => absurd q (hn _)⟩
  · rw [hL z e]
    exact ⟨Iff.rfl, fun _ => rfl⟩
theorem ce_at {y r : Nat} (h : CE Y W D n G) (hw : ∀ L, x_wf (sF Y W D L n) (fun _ => False)) (hy : y < n) (hG : ¬ G y r = 2) {b l : Nat} (hl : l ≤ 2) (ho : w_of (sF Y W D L n) b r) (hL : L y = l) : ¬ Y y l b := fun q => by
  obtain ⟨r', h1, h2⟩ := h L y l b hy hl q hL
  rw [of_eq (hw L) ho h1] at hG
  exact hG h2
theorem ce_ib {y r : Nat} (h : CE Y W D n G) (hw : ∀ L, x_wf (sF Y W D L n) (fun _ => False)) (hy : y < n) (hG : ¬ G y r = 2) {l : Nat} (hr : r < 128) (hl : l ≤ 2) : ¬ Y y l (w_ib r) := ce_at h hw hy hG (L := fun _ => l) hl (of_ib hr) rfl
theorem ce_mp {y r : Nat} (h : CE Y W D n G) (hw : ∀ L, x_wf (sF Y W D L n) (fun _ => False)) (hy : y < n) (hG : ¬ G y r = 2) {g l : Nat} (hg : g < 8) (e : r = 128 + g) (hl : l ≤ 2) : ¬ Y y l (w_mp g) := ce_at h hw hy hG (L := fun _ => l) hl (e ▸ of_mp hg) rfl
theorem ce_ix {y r : Nat} (h : CE Y W D n G) (hw : ∀ L, x_wf (sF Y W D L n) (fun _ => False)) (hy : y < n) (hG : ¬ G y r = 2) {x l : Nat} (hr : r < 128) (hl : l ≤ 2) (ho : w_own (sF Y W D L n) r 24 x) : ¬ Y y l x := by
  refine ce_at h hw hy hG (L := lvl L y l) hl (of_own (p := 24) ⟨hr, by decide, ho.2.2.1, ?_⟩) lvl_s
  have := ho.2.2.2
  unfold w_pl at this ⊢
  rw [if_neg (by decide), if_pos rfl] at this ⊢
  rw [lv_w (L := L) (fun z hz => lvl_o hz) (fun l hl => ce_ib h hw hy hG hr hl)]
  exact this
theorem lv_pl {y r : Nat} (h : CE Y W D n G) (hw : ∀ L, x_wf (sF Y W D L n) (fun _ => False)) (hy : y < n) (hG : ¬ G y r = 2) {p : Nat} (hL : ∀ z, ¬ z = y → L' z = L z) (hr : r < 128) (hp : p < 25) : w_pl (sF Y W D L' n) r p = w_pl (sF Y W D L n) r p := by
  have e0 := fun i => lv_w (W := W) (D := D) (n := n) (L := L) (L' := L') hL (fun l hl => ce_ib h hw hy hG hr hl) i
  unfold w_pl
  rw [e0 11]
  by_cases h8 : p < 8
  · rw [if_pos h8, if_pos h8, e0]
  · rw [if_neg h8, if_neg h8]
    by_cases e : p = 24
    · rw [if_pos e, if_pos e]
    · rw [if_neg e, if_neg e]
      by_cases ez : sF Y W D L n (w_ib r) 11 = nI 0
      · rw [if_pos ez, if_pos ez]
      · rw [if_neg ez, if_neg ez]
        obtain ⟨x, x1, x2, x3⟩ := w_ix (hw L).1.1 hr ez
        rw [x1, nI_clamp (w_Dlt x2)]
        exact lv_w hL (fun l hl => ce_ix h hw hy hG hr hl x3) _
theorem lv_own {y r : Nat} (h : CE Y W D n G) (hw : ∀ L, x_wf (sF Y W D L n) (fun _ => False)) (hy : y < n) (hG : ¬ G y r = 2) {p b : Nat} (hL : ∀ z, ¬ z = y → L' z = L z) : w_own (sF Y W D L' n) r p b ↔ w_own (sF Y W D L n) r p b := by
  constructor
  · rintro ⟨q1, q2, q3, q4⟩
    exact ⟨q1, q2, q3, by rw [← lv_pl h hw hy hG hL q1 q2]; exact q4⟩
  · rintro ⟨q1, q2, q3, q4⟩
    exact ⟨q1, q2, q3, by rw [lv_pl h hw hy hG hL q1 q2]; exact q4⟩
theorem lv_of {y r : Nat} (h : CE Y W D n G) (hw : ∀ L, x_wf (sF Y W D L n) (fun _ => False)) (hy : y < n) (hG : ¬ G y r = 2) {b : Nat} (hL : ∀ z, ¬ z = y → L' z = L z) : w_of (sF Y W D L' n) b r ↔ w_of (sF Y W D L n) b r := by
  unfold w_of
  have : (∃ p, w_own (sF Y W D L' n) r p b) ↔ ∃ p, w_own (sF Y W D L n) r p b := ⟨fun ⟨p, q⟩ => ⟨p, (lv_own h hw hy hG hL).mp q⟩, fun ⟨p, q⟩ => ⟨p, (lv_own h hw hy hG hL).mpr q⟩⟩
  rw [this]
/-- y has no block of a resource that it hasn't alone -/
theorem ce_of {y r : Nat} (h : CE Y W D n G) (hw : ∀ L, x_wf (sF Y W D L n) (fun _ => False)) (hy : y < n) (hG : ¬ G y r = 2) {b l : Nat} (hl : l ≤ 2) (ho : w_of (sF Y W D L n) b r) : ¬ Y y l b :=
  ce_at h hw hy hG (L := lvl L y l) hl ((lv_of h hw hy hG (L := L) (fun z hz => lvl_o hz)).mpr ho) lvl_s
theorem ce_no {y r : Nat} (h : CE Y W D n G) (hw : ∀ L, x_wf (sF Y W D L n) (fun _ => False)) (hy : y < n) (hG : ¬ G y r = 2) {b l : Nat} (ho : w_of (sF Y W D L n) b r) : ¬ nd Y y l b := fun q => by
  obtain ⟨l', a1, -, a2⟩ := nd_Y q
  exact ce_of h hw hy hG a1 ho a2
/-- where y's level doesn't matter: resources that y hasn't alone -/
theorem lv_s {y r : Nat} (h : CE Y W D n G) (hw : ∀ L, x_wf (sF Y W D L n) (fun _ => False)) (hy : y < n) (hG : ¬ G y r = 2) {b : Nat} (hL : ∀ z, ¬ z = y → L' z = L z) (ho : w_of (sF Y W D L n) b r) (i : Nat) : sF Y W D L' n b i = sF Y W D L n b i :=
  lv_w hL (fun l hl => ce_of h hw hy hG hl ho) i
end LAY
