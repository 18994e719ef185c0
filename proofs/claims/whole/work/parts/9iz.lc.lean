
/-- entry w of directory d names t -/
def v_en (V : wS) (d w t : Nat) : Bool := decide (V (w_ib d) 0 = nI 2 ∧ 2 * w < (V (w_ib d) 2).toNatClampNeg ∧ ¬ w_pl V d (w / 8) = nI 0 ∧ ¬ V (w_pl V d (w / 8)).toNatClampNeg (2 * w % 16) = nI 0 ∧ V (w_pl V d (w / 8)).toNatClampNeg (2 * w % 16 + 1) = nI t)
/-- the name at a word -/
def v_nm (V : wS) (d w : Nat) : Int32 := if w_pl V d (w / 16) = nI 0 then nI 0 else V (w_pl V d (w / 16)).toNatClampNeg (w % 16)
def v_sum (f : Nat → Nat) : Nat → Nat
  | 0 => 0
  | m + 1 => v_sum f m + f m
theorem v_sum_cg {f g : Nat → Nat} : ∀ m, (∀ i, i < m → f i = g i) → v_sum f m = v_sum g m
  | 0, _ => rfl
  | m + 1, h => by
    rw [v_sum, v_sum, v_sum_cg m (fun i hi => h i (by omega)), h m (by omega)]
theorem v_sum_one {f g : Nat → Nat} {a : Nat} : ∀ m, a < m → (∀ i, i < m → ¬ i = a → f i = g i) → v_sum f m + g a = v_sum g m + f a
  | 0, h, _ => absurd h (Nat.not_lt_zero _)
  | m + 1, ha, h => by
    rw [v_sum, v_sum]
    by_cases e : a = m
    · subst e
      rw [v_sum_cg a (fun i hi => h i (by omega) (by omega))]
      omega
    · have := v_sum_one m (by omega) (fun i hi hne => h i (by omega) hne)
      rw [h m (by omega) (by omega)]
      omega
theorem v_sum_ge {f : Nat → Nat} {a : Nat} : ∀ m, a < m → f a ≤ v_sum f m
  | 0, h => absurd h (Nat.not_lt_zero _)
  | m + 1, h => by
    rw [v_sum]
    by_cases e : a = m
    · subst e
      omega
    · have := v_sum_ge (f := f) m (by omega : a < m)
      omega
theorem v_sum_le {f : Nat → Nat} {c : Nat} : ∀ m, (∀ i, i < m → f i ≤ c) → v_sum f m ≤ c * m
  | 0, _ => Nat.zero_le _
  | m + 1, h => by
    have h1 := v_sum_le m (fun i hi => h i (by omega))
    have h2 := h m (by omega)
    rw [v_sum, Nat.mul_succ]
    omega
def v_c1 (V : wS) (d t : Nat) : Nat := v_sum (fun w => if v_en V d w t = true then 1 else 0) 192
def v_cn (V : wS) (t : Nat) : Nat := v_sum (fun d => v_c1 V d t) 128
def v_r (t : Nat) : Nat := if t = 0 then 1 else 0
/-- every inode's links are the entries that name it -/
def v_LC (S : wS) : Prop := ∀ t, t < 128 → S (w_ib t) 1 = nI (v_cn S t + v_r t)
theorem v_r_le (t : Nat) : v_r t ≤ 1 := by
  unfold v_r
  split <;> omega
theorem v_c1_le (V : wS) (d t : Nat) : v_c1 V d t ≤ 192 := by
  have := v_sum_le (f := fun w => if v_en V d w t = true then 1 else 0) (c := 1) 192 (fun i _ => by
    show (if v_en V d i t = true then 1 else 0) ≤ 1
    split <;> omega)
  unfold v_c1
  omega
theorem v_cn_le (V : wS) (t : Nat) : v_cn V t ≤ 24576 := by
  have := v_sum_le (f := fun d => v_c1 V d t) (c := 192) 128 (fun i _ => v_c1_le V i t)
  unfold v_cn
  omega
theorem v_cn_ge {V : wS} {d w t : Nat} (hd : d < 128) (hw : w < 192) (he : v_en V d w t = true) : 1 ≤ v_cn V t := by
  have a1 : 1 ≤ v_c1 V d t := by
    have := v_sum_ge (f := fun w => if v_en V d w t = true then 1 else 0) 192 hw
    simp only [he, if_true] at this
    exact this
  have a2 : v_c1 V d t ≤ v_cn V t := v_sum_ge (f := fun d => v_c1 V d t) 128 hd
  omega
/-- what an entry names is there -/
theorem v_used {S : wS} {d w t : Nat} (hZ : w_Z S) (h : v_LC S) (hd : d < 128) (hw : w < 192) (ht : t < 128) (he : v_en S d w t = true) : ¬ S (w_ib t) 0 = nI 0 := fun h0 => by
  have h1 := hZ t ht h0 1 (by decide)
  rw [h t ht] at h1
  have a1 := v_cn_ge hd hw he
  have a3 := v_cn_le S t
  have a4 := v_r_le t
  have := w_nI (by omega) (by decide) h1
  omega
/-- one entry more or less -/
theorem cn_one {s s' : wS} {d w0 t : Nat} (hd : d < 128) (hw : w0 < 192) (h : ∀ d' w, d' < 128 → w < 192 → ¬ (d' = d ∧ w = w0) → v_en s' d' w t = v_en s d' w t) : v_cn s' t + (if v_en s d w0 t = true then 1 else 0) = v_cn s t + (if v_en s' d w0 t = true then 1 else 0) := by
  have a := v_sum_one (f := fun w => if v_en s' d w t = true then 1 else 0) (g := fun w => if v_en s d w t = true then 1 else 0) (a := w0) 192 hw (fun i hi hne => by
    show (if v_en s' d i t = true then 1 else 0) = (if v_en s d i t = true then 1 else 0)
    rw [h d i hd hi (fun q => hne q.2)])
  have b := v_sum_one (f := fun d => v_c1 s' d t) (g := fun d => v_c1 s d t) (a := d) 128 hd (fun i hi hne => v_sum_cg 192 (fun w hw' => by
    show (if v_en s' i w t = true then 1 else 0) = (if v_en s i w t = true then 1 else 0)
    rw [h i w hi hw' (fun q => hne q.1)]))
  have a' : v_c1 s' d t + (if v_en s d w0 t = true then 1 else 0) = v_c1 s d t + (if v_en s' d w0 t = true then 1 else 0) := a
  have b' : v_cn s' t + v_c1 s d t = v_cn s t + v_c1 s' d t := b
  omega
/-- what is a directory behind was one before, of the same size -/
def SZ (s s' : wS) : Prop := ∀ d, d < 128 → s' (w_ib d) 0 = nI 2 → s (w_ib d) 0 = nI 2 ∧ s' (w_ib d) 2 = s (w_ib d) 2
/-- .. of a size that has grown by an entry at most -/
def SP (s s' : wS) : Prop := ∀ d, d < 128 → s' (w_ib d) 0 = nI 2 → s (w_ib d) 0 = nI 2 ∧ (s' (w_ib d) 2).toNatClampNeg ≤ (s (w_ib d) 2).toNatClampNeg + 2
/-- no directory has more than z places -/
def v_SB (z : Nat) (S : wS) : Prop := ∀ d, d < 128 → S (w_ib d) 0 = nI 2 → (S (w_ib d) 2).toNatClampNeg ≤ 2 * z
/-- links and sizes, from one try to the next -/
def LR (s s' : wS) : Prop := (v_LC s → v_LC s') ∧ ∀ z, v_SB z s → v_SB (z + 1) s'
theorem SZ.rf {s : wS} : SZ s s := fun _ _ h => ⟨h, rfl⟩
theorem SZ.tr {s s' s'' : wS} (h : SZ s s') (h' : SZ s' s'') : SZ s s'' := fun d hd hk => by
  obtain ⟨a, b⟩ := h' d hd hk
  obtain ⟨a', b'⟩ := h d hd a
  exact ⟨a', b.trans b'⟩
theorem SZ.sp {s s' s'' : wS} (h : SZ s s') (h' : SP s' s'') : SP s s'' := fun d hd hk => by
  obtain ⟨a, b⟩ := h' d hd hk
  obtain ⟨a', b'⟩ := h d hd a
  exact ⟨a', by rw [b'] at b; exact b⟩
theorem SZ.p {s s' : wS} (h : SZ s s') : SP s s' := fun d hd hk => by
  obtain ⟨a, b⟩ := h d hd hk
  exact ⟨a, by rw [b]; omega⟩
theorem SZ.i {s s' : wS} (h0 : ∀ d, d < 128 → s' (w_ib d) 0 = s (w_ib d) 0) (h2 : ∀ d, d < 128 → s' (w_ib d) 2 = s (w_ib d) 2) : SZ s s' := fun d hd hk => ⟨by rw [← h0 d hd]; exact hk, h2 d hd⟩
theorem w_up_j (s : wS) (b b' : Nat) {i i' : Nat} (v : Int32) (h : ¬ i' = i) : w_up s b i v b' i' = s b' i' := if_neg (fun h2 => h h2.2)
/-- a word that is neither kind nor size -/
theorem SZ.up {s : wS} {b i : Nat} {v : Int32} (h0 : ¬ i = 0) (h2 : ¬ i = 2) : SZ s (w_up s b i v) := SZ.i (fun d _ => w_up_j s _ _ _ (fun e => h0 e.symm)) (fun d _ => w_up_j s _ _ _ (fun e => h2 e.symm))
theorem SP.sb {s s' : wS} {z : Nat} (h : SP s s') (hz : v_SB z s) : v_SB (z + 1) s' := fun d hd hk => by
  obtain ⟨a, b⟩ := h d hd hk
  have := hz d hd a
  omega
theorem v_SB.up {s : wS} {z z' : Nat} (h : v_SB z s) (hz : z ≤ z') : v_SB z' s := fun d hd hk => by
  have := h d hd hk
  omega
theorem LR.rf {s : wS} : LR s s := ⟨fun q => q, fun _ q => q.up (by omega)⟩
/-- the entries, links and directories' sizes are the same -/
def ES (s s' : wS) : Prop := (∀ d w t, d < 128 → w < 192 → v_en s' d w t = v_en s d w t) ∧ (∀ t, t < 128 → s' (w_ib t) 1 = s (w_ib t) 1) ∧ SZ s s'
theorem ES.rf {s : wS} : ES s s := ⟨fun _ _ _ _ _ => rfl, fun _ _ => rfl, SZ.rf⟩
theorem ES.tr {s s' s'' : wS} (h : ES s s') (h' : ES s' s'') : ES s s'' := ⟨fun d w t a b => (h'.1 d w t a b).trans (h.1 d w t a b), fun t a => (h'.2.1 t a).trans (h.2.1 t a), h.2.2.tr h'.2.2⟩
theorem ES.cn {s s' : wS} (h : ES s s') (t : Nat) : v_cn s' t = v_cn s t := v_sum_cg 128 (fun d hd => v_sum_cg 192 (fun w hw => by
  show (if v_en s' d w t = true then 1 else 0) = (if v_en s d w t = true then 1 else 0)
  rw [h.1 d w t hd hw]))
theorem ES.lc {s s' : wS} (h : ES s s') (hl : v_LC s) : v_LC s' := fun t ht => by
  rw [h.2.1 t ht, h.cn]
  exact hl t ht
theorem ES.lr {s s' : wS} (h : ES s s') : LR s s' := ⟨fun q => h.lc q, fun _ q => h.2.2.p.sb q⟩
theorem v_en_cg {V V' : wS} {d w t : Nat} (h0 : V' (w_ib d) 0 = V (w_ib d) 0) (h2 : V' (w_ib d) 2 = V (w_ib d) 2) (hp : w_pl V' d (w / 8) = w_pl V d (w / 8)) (hb : ¬ w_pl V d (w / 8) = nI 0 → V' (w_pl V d (w / 8)).toNatClampNeg (2 * w % 16) = V (w_pl V d (w / 8)).toNatClampNeg (2 * w % 16) ∧ V' (w_pl V d (w / 8)).toNatClampNeg (2 * w % 16 + 1) = V (w_pl V d (w / 8)).toNatClampNeg (2 * w % 16 + 1)) : v_en V' d w t = v_en V d w t := by
  unfold v_en
  rw [h0, h2, hp]
  by_cases e : w_pl V d (w / 8) = nI 0
  · exact decide_eq_decide.mpr ⟨fun q => absurd e q.2.2.1, fun q => absurd e q.2.2.1⟩
  · rw [(hb e).1, (hb e).2]
theorem v_en_no {V : wS} {d w t : Nat} (h : ¬ V (w_ib d) 0 = nI 2 ∨ (V (w_ib d) 2).toNatClampNeg ≤ 2 * w ∨ w_pl V d (w / 8) = nI 0 ∨ V (w_pl V d (w / 8)).toNatClampNeg (2 * w % 16) = nI 0) : v_en V d w t = false := by
  unfold v_en
  refine decide_eq_false (fun q => ?_)
  rcases h with h | h | h | h
  · exact h q.1
  · have := q.2.1
    omega
  · exact q.2.2.1 h
  · exact q.2.2.2.1 h
theorem v_en_at {V : wS} {d w t b z : Nat} (h0 : V (w_ib d) 0 = nI 2) (h2 : V (w_ib d) 2 = nI z) (hz : z < 2 ^ 31) (hw : 2 * w < z) (hp : w_pl V d (w / 8) = nI b) (hb : w_D b) (hn : ¬ V b (2 * w % 16) = nI 0) : v_en V d w t = decide (V b (2 * w % 16 + 1) = nI t) := by
  unfold v_en
  refine decide_eq_decide.mpr ?_
  rw [h0, h2, nI_clamp hz, hp, nI_clamp (w_Dlt hb)]
  exact ⟨fun q => q.2.2.2.2, fun q => ⟨rfl, hw, w_D0 hb, hn, q⟩⟩
theorem D_mp {b : Nat} (h : w_D b) (g : Nat) : ¬ b = w_mp g := fun e => w_mp_D g (e ▸ h)
theorem D_ib' {b k : Nat} (h : w_D b) (hk : k < 128) : ¬ b = w_ib k := fun e => w_ib_D hk (e ▸ h)
/-- inodes and what they own are the same -/
theorem es_cg {s s' : wS} (hA : w_A s) (hi : ∀ k i, k < 128 → s' (w_ib k) i = s (w_ib k) i) (ho : ∀ k p b i, w_own s k p b → s' b i = s b i) : ES s s' := by
  obtain ⟨e1, -⟩ := w_own_cg hA hi (fun k b i q => ho k 24 b i q)
  refine ⟨fun d w t hd hw => v_en_cg (hi d 0 hd) (hi d 2 hd) (e1 d _ hd) (fun h0 => ?_), fun t ht => hi t 1 ht, SZ.i (fun d hd => hi d 0 hd) (fun d hd => hi d 2 hd)⟩
  rcases hA d (w / 8) hd (by omega) with q | ⟨b, b1, b2⟩
  · exact absurd q h0
  · rw [b1, nI_clamp (w_Dlt b2)]
    exact ⟨ho d (w / 8) b _ ⟨hd, by omega, b2, b1⟩, ho d (w / 8) b _ ⟨hd, by omega, b2, b1⟩⟩
theorem es_map {s s' : wS} (hA : w_A s) (h : ∀ c i, (∀ g, ¬ c = w_mp g) → s' c i = s c i) : ES s s' ∧ ∀ k p b, w_own s' k p b ↔ w_own s k p b :=
  ⟨es_cg hA (fun k i hk => h _ _ (fun g => w_ib_mp hk)) (fun k p b i ho => h _ _ (D_mp ho.2.2.1)), (w_own_cg hA (fun k i hk => h _ _ (fun g => w_ib_mp hk)) (fun k b i ho => h _ _ (D_mp ho.2.2.1))).2⟩
/-- a free block is taken -/
theorem es_tk {s s1 : wS} {b : Nat} (hA : w_A s) (hb : w_D b) (h : ∀ c i, ¬ c = b → (∀ g, ¬ c = w_mp g) → s1 c i = s c i) (hno : ∀ k p, ¬ w_own s1 k p b) : ES s s1 := by
  have hi : ∀ k i, k < 128 → s1 (w_ib k) i = s (w_ib k) i := fun k i hk => h _ _ (fun e => w_ib_D hk (e ▸ hb)) (fun g => w_ib_mp hk)
  have n24 : ∀ k, ¬ w_own s k 24 b := fun k ho => hno k 24 ⟨ho.1, ho.2.1, hb, (hi k 11 ho.1).trans ho.2.2.2⟩
  have e2 := (w_own_cg hA hi (fun k x i hx => h x i (fun e => n24 k (e ▸ hx)) (D_mp hx.2.2.1))).2
  exact es_cg hA hi (fun k p c i ho => h c i (fun e => hno k p ((e2 k p b).mpr (e ▸ ho))) (D_mp ho.2.2.1))
/-- it gets a place -/
theorem es_setD {s : wS} {k p b : Nat} (hA : w_A s) (hk : k < 128) (hp : p < 8) (hb : w_D b) (h0 : s (w_ib k) (3 + p) = nI 0) (hz : ∀ i, i < 16 → s b i = nI 0) : ES s (w_up s (w_ib k) (3 + p) (nI b)) := by
  refine ⟨fun d w t hd hw => ?_, fun t ht => ?_, SZ.up (by omega) (by omega)⟩
  · by_cases e : d = k
    · subst e
      have e0 : w_up s (w_ib d) (3 + p) (nI b) (w_ib d) 0 = s (w_ib d) 0 := w_up_i s _ _ (by omega)
      have e2 : w_up s (w_ib d) (3 + p) (nI b) (w_ib d) 2 = s (w_ib d) 2 := w_up_i s _ _ (by omega)
      have ep := p_ibd (p := w / 8) (v := nI b) hA hd hp
      by_cases eq : w / 8 = p
      · rw [if_pos eq] at ep
        rw [v_en_no (V := s) (Or.inr (Or.inr (Or.inl ?_))), v_en_no (Or.inr (Or.inr (Or.inr ?_)))]
        · rw [ep, nI_clamp (w_Dlt hb), w_up_b _ _ _ _ (D_ib' hb hd)]
          exact hz _ (by omega)
        · unfold w_pl
          rw [if_pos (by omega), eq]
          exact h0
      · rw [if_neg eq] at ep
        refine v_en_cg e0 e2 ep (fun hn => ?_)
        rcases hA d (w / 8) hd (by omega) with q | ⟨c, c1, c2⟩
        · exact absurd q hn
        · rw [c1, nI_clamp (w_Dlt c2), w_up_b _ _ _ _ (D_ib' c2 hd), w_up_b _ _ _ _ (D_ib' c2 hd)]
          exact ⟨rfl, rfl⟩
    · have hne : ¬ w_ib d = w_ib k := fun e2 => e (w_ib_inj hd hk e2)
      refine v_en_cg (w_up_b _ _ _ _ hne) (w_up_b _ _ _ _ hne) (p_up hA hd hne (fun ho => w_ib_D hk ho.2.2.1)) (fun hn => ?_)
      rcases hA d (w / 8) hd (by omega) with q | ⟨c, c1, c2⟩
      · exact absurd q hn
      · rw [c1, nI_clamp (w_Dlt c2), w_up_b _ _ _ _ (D_ib' c2 hk), w_up_b _ _ _ _ (D_ib' c2 hk)]
        exact ⟨rfl, rfl⟩
  · exact if_neg (fun q => by have := q.2; omega)
theorem es_setX {s : wS} {k b : Nat} (hA : w_A s) (hk : k < 128) (hb : w_D b) (h0 : s (w_ib k) 11 = nI 0) (hz : ∀ i, i < 16 → s b i = nI 0) : ES s (w_up s (w_ib k) 11 (nI b)) := by
  refine ⟨fun d w t hd hw => ?_, fun t ht => if_neg (fun q => by have := q.2; omega), SZ.up (by omega) (by omega)⟩
  have hc : ∀ c, w_D c → ∀ i, w_up s (w_ib k) 11 (nI b) c i = s c i := fun c hc i => w_up_b _ _ _ _ (D_ib' hc hk)
  have hpl : w_pl (w_up s (w_ib k) 11 (nI b)) d (w / 8) = w_pl s d (w / 8) := by
    by_cases e : d = k
    · subst e
      rw [p_ibx hd hb]
      by_cases h8 : w / 8 < 8
      · rw [if_pos h8]
      · rw [if_neg h8, if_neg (by omega), hz _ (by omega)]
        unfold w_pl
        rw [if_neg h8, if_neg (by omega), if_pos h0]
    · have hne : ¬ w_ib d = w_ib k := fun e2 => e (w_ib_inj hd hk e2)
      exact p_up hA hd hne (fun ho => w_ib_D hk ho.2.2.1)
  refine v_en_cg (if_neg (fun q => by have := q.2; omega)) (if_neg (fun q => by have := q.2; omega)) hpl (fun hn => ?_)
  rcases hA d (w / 8) hd (by omega) with q | ⟨c, c1, c2⟩
  · exact absurd q hn
  · rw [c1, nI_clamp (w_Dlt c2), hc c c2, hc c c2]
    exact ⟨rfl, rfl⟩
theorem es_setI {s : wS} {k x j b : Nat} (hA : w_A s) (hB : w_B s) (hx : w_own s k 24 x) (hj : j < 16) (hb : w_D b) (hno : ∀ k p, ¬ w_own s k p b) (h0 : s x j = nI 0) (hz : ∀ i, i < 16 → s b i = nI 0) : ES s (w_up s x j (nI b)) := by
  have hk := hx.1
  have hxD := hx.2.2.1
  have hbx : ¬ b = x := fun e => hno k 24 (e ▸ hx)
  have hi : ∀ d i, d < 128 → w_up s x j (nI b) (w_ib d) i = s (w_ib d) i := fun d i hd => w_up_b _ _ _ _ (fun e => w_ib_D hd (e ▸ hxD))
  refine ⟨fun d w t hd hw => ?_, fun t ht => hi t 1 ht, SZ.i (fun d hd => hi d 0 hd) (fun d hd => hi d 2 hd)⟩
  by_cases eq : d = k ∧ w / 8 = 8 + j
  · obtain ⟨rfl, eq⟩ := eq
    have ep := p_ixw (p := w / 8) (v := nI b) hd hx.2.2.2 hxD hj (by omega)
    rw [if_pos eq] at ep
    rw [v_en_no (V := s) (Or.inr (Or.inr (Or.inl ?_))), v_en_no (Or.inr (Or.inr (Or.inr ?_)))]
    · rw [ep, nI_clamp (w_Dlt hb), w_up_b _ _ _ _ hbx]
      exact hz _ (by omega)
    · have h11 : s (w_ib d) 11 = nI x := hx.2.2.2
      unfold w_pl
      rw [if_neg (by omega), if_neg (by omega), h11, if_neg (w_D0 hxD), nI_clamp (w_Dlt hxD), eq, show 8 + j - 8 = j from by omega]
      exact h0
  · have hpl : w_pl (w_up s x j (nI b)) d (w / 8) = w_pl s d (w / 8) := by
      by_cases e : d = k
      · subst e
        have ep := p_ixw (p := w / 8) (v := nI b) hd hx.2.2.2 hxD hj (by omega)
        rw [if_neg (fun q => eq ⟨rfl, q⟩)] at ep
        exact ep
      · exact p_up hA hd (fun e2 => w_ib_D hd (e2 ▸ hxD)) (fun ho => e (hB d 24 k 24 x ho hx).1)
    refine v_en_cg (hi d 0 hd) (hi d 2 hd) hpl (fun hn => ?_)
    rcases hA d (w / 8) hd (by omega) with q | ⟨c, c1, c2⟩
    · exact absurd q hn
    · have hcx : ¬ c = x := fun e => by
        have := (hB d (w / 8) k 24 x ⟨hd, by omega, e ▸ c2, by rw [c1, e]⟩ hx).2
        omega
      rw [c1, nI_clamp (w_Dlt c2), w_up_b _ _ _ _ hcx, w_up_b _ _ _ _ hcx]
      exact ⟨rfl, rfl⟩
/-- only what a file owns, and maps, are other -/
theorem es_file {s s' : wS} {k : Nat} (hA : w_A s) (hB : w_B s) (hk : k < 128) (h0 : ¬ s (w_ib k) 0 = nI 2) (h0' : ¬ s' (w_ib k) 0 = nI 2) (h1 : s' (w_ib k) 1 = s (w_ib k) 1) (h : ∀ c i, ¬ c = w_ib k → (∀ p, ¬ w_own s k p c) → (∀ g, ¬ c = w_mp g) → s' c i = s c i) : ES s s' := by
  have hi : ∀ d i, d < 128 → ¬ d = k → s' (w_ib d) i = s (w_ib d) i := fun d i hd hne => h _ _ (fun e => hne (w_ib_inj hd hk e)) (fun p ho => w_ib_D hd ho.2.2.1) (fun g => w_ib_mp hd)
  have ho : ∀ d p b i, w_own s d p b → ¬ d = k → s' b i = s b i := fun d p b i q hne => h _ _ (D_ib' q.2.2.1 hk) (fun p' q' => hne (hB d p k p' b q q').1) (D_mp q.2.2.1)
  refine ⟨fun d w t hd hw => ?_, fun t ht => ?_, fun d hd hk2 => ?_⟩
  · by_cases e : d = k
    · subst e
      rw [v_en_no (V := s) (Or.inl h0), v_en_no (Or.inl h0')]
    · refine v_en_cg (hi d 0 hd e) (hi d 2 hd e) (w_pl_cg (fun i => hi d i hd e) (fun i hn => ?_)) (fun hn => ?_)
      · obtain ⟨x, x1, x2, x3⟩ := w_ix hA hd hn
        rw [x1, nI_clamp (w_Dlt x2)]
        exact ho d 24 x i x3 e
      · rcases hA d (w / 8) hd (by omega) with q | ⟨b, b1, b2⟩
        · exact absurd q hn
        · rw [b1, nI_clamp (w_Dlt b2)]
          exact ⟨ho d (w / 8) b _ ⟨hd, by omega, b2, b1⟩ e, ho d (w / 8) b _ ⟨hd, by omega, b2, b1⟩ e⟩
  · by_cases e : t = k
    · rw [e]
      exact h1
    · exact hi t 1 ht e
  · by_cases e : d = k
    · rw [e] at hk2
      exact absurd hk2 h0'
    · exact ⟨by rw [← hi d 0 hd e]; exact hk2, hi d 2 hd e⟩
/-- links are set: entries stay -/
theorem en_link {s : wS} {k : Nat} {v : Int32} (hA : w_A s) (hk : k < 128) {d w t : Nat} (hd : d < 128) (hw : w < 192) : v_en (w_up s (w_ib k) 1 v) d w t = v_en s d w t := by
  have hpl : w_pl (w_up s (w_ib k) 1 v) d (w / 8) = w_pl s d (w / 8) := by
    by_cases e : d = k
    · subst e
      exact p_ibo hA hd (by omega)
    · exact p_up hA hd (fun e2 => e (w_ib_inj hd hk e2)) (fun ho => w_ib_D hk ho.2.2.1)
  refine v_en_cg (if_neg (fun q => by have := q.2; omega)) (if_neg (fun q => by have := q.2; omega)) hpl (fun hn => ?_)
  rcases hA d (w / 8) hd (by omega) with q | ⟨c, c1, c2⟩
  · exact absurd q hn
  · rw [c1, nI_clamp (w_Dlt c2), w_up_b _ _ _ _ (D_ib' c2 hk), w_up_b _ _ _ _ (D_ib' c2 hk)]
    exact ⟨rfl, rfl⟩
/-- both words of an entry -/
def w_up2 (s : wS) (b a : Nat) (v v' : Int32) : wS := w_up (w_up s b (a % 16) v) b (a % 16 + 1) v'
theorem up2_b {s : wS} {b a : Nat} {v v' : Int32} {c : Nat} (i : Nat) (h : ¬ c = b) : w_up2 s b a v v' c i = s c i := by
  unfold w_up2
  rw [w_up_b _ _ _ _ h, w_up_b _ _ _ _ h]
theorem up2_pl {s : wS} {d b a : Nat} {v v' : Int32} (hA : w_A s) (hB : w_B s) (ho : w_own s d (a / 16) b) (ha : a < 384) {k : Nat} (hk : k < 128) (p : Nat) : w_pl (w_up2 s b a v v') k p = w_pl s k p :=
  (w_own_cg hA (fun k i hk => up2_b i (fun e => w_ib_D hk (e ▸ ho.2.2.1))) (fun k x i hx => up2_b i (fun e => by
    have := (hB k 24 d (a / 16) b (e ▸ hx) ho).2
    omega))).1 k p hk
theorem up2_en {s : wS} {d b a : Nat} {v v' : Int32} (hA : w_A s) (hB : w_B s) (ho : w_own s d (a / 16) b) (ha : a < 384) (ha2 : a % 2 = 0) {d' w t : Nat} (hd : d' < 128) (hw : w < 192) (hne : ¬ (d' = d ∧ w = a / 2)) : v_en (w_up2 s b a v v') d' w t = v_en s d' w t := by
  have hi : ∀ i, w_up2 s b a v v' (w_ib d') i = s (w_ib d') i := fun i => up2_b i (fun e => w_ib_D hd (e ▸ ho.2.2.1))
  refine v_en_cg (hi 0) (hi 2) (up2_pl hA hB ho ha hd _) (fun hn => ?_)
  rcases hA d' (w / 8) hd (by omega) with q | ⟨c, c1, c2⟩
  · exact absurd q hn
  · rw [c1, nI_clamp (w_Dlt c2)]
    by_cases e : c = b
    · subst e
      obtain ⟨q1, q2⟩ := hB d' (w / 8) d (a / 16) c ⟨hd, by omega, c2, c1⟩ ho
      have hw2 : ¬ w = a / 2 := fun e => hne ⟨q1, e⟩
      unfold w_up2
      rw [w_up_i _ _ _ (by omega), w_up_i _ _ _ (by omega), w_up_i _ _ _ (by omega), w_up_i _ _ _ (by omega)]
      exact ⟨rfl, rfl⟩
    · exact ⟨up2_b _ e, up2_b _ e⟩
/-- an entry is put -/
def PE (s s' : wS) (d t0 : Nat) : Prop := ∃ w0, w0 < 192 ∧ (∀ d' w t, d' < 128 → w < 192 → ¬ (d' = d ∧ w = w0) → v_en s' d' w t = v_en s d' w t) ∧ (∀ t, v_en s d w0 t = false) ∧ (∀ t, t < 128 → v_en s' d w0 t = decide (t = t0)) ∧ (∀ t, t < 128 → s' (w_ib t) 1 = s (w_ib t) 1) ∧ SP s s'
/-- an entry goes -/
def EE (s s' : wS) (d t0 : Nat) : Prop := ∃ w0, w0 < 192 ∧ (∀ d' w t, d' < 128 → w < 192 → ¬ (d' = d ∧ w = w0) → v_en s' d' w t = v_en s d' w t) ∧ (∀ t, t < 128 → v_en s d w0 t = decide (t = t0)) ∧ (∀ t, v_en s' d w0 t = false) ∧ (∀ t, t < 128 → s' (w_ib t) 1 = s (w_ib t) 1) ∧ SZ s s'
theorem PE.cn {s s' : wS} {d t0 t : Nat} (h : PE s s' d t0) (hd : d < 128) (ht : t < 128) : v_cn s' t = v_cn s t + if t = t0 then 1 else 0 := by
  obtain ⟨w0, h0, h1, h2, h3, -⟩ := h
  have := cn_one (t := t) hd h0 (fun d' w a b c => h1 d' w t a b c)
  rw [h2 t, h3 t ht] at this
  simpa using this
theorem EE.cn {s s' : wS} {d t0 t : Nat} (h : EE s s' d t0) (hd : d < 128) (ht : t < 128) : v_cn s' t + (if t = t0 then 1 else 0) = v_cn s t := by
  obtain ⟨w0, h0, h1, h2, h3, -⟩ := h
  have := cn_one (t := t) hd h0 (fun d' w a b c => h1 d' w t a b c)
  rw [h3 t, h2 t ht] at this
  simpa using this
theorem PE.lk {s s' : wS} {d t0 : Nat} (h : PE s s' d t0) {t : Nat} (ht : t < 128) : s' (w_ib t) 1 = s (w_ib t) 1 := by
  obtain ⟨w0, -, -, -, -, h4, -⟩ := h
  exact h4 t ht
theorem EE.lk {s s' : wS} {d t0 : Nat} (h : EE s s' d t0) {t : Nat} (ht : t < 128) : s' (w_ib t) 1 = s (w_ib t) 1 := by
  obtain ⟨w0, -, -, -, -, h4, -⟩ := h
  exact h4 t ht
theorem PE.sp {s s' : wS} {d t0 : Nat} (h : PE s s' d t0) : SP s s' := by
  obtain ⟨w0, -, -, -, -, -, h5⟩ := h
  exact h5
theorem EE.sz {s s' : wS} {d t0 : Nat} (h : EE s s' d t0) : SZ s s' := by
  obtain ⟨w0, -, -, -, -, -, h5⟩ := h
  exact h5
theorem ES.pe {s s' s'' : wS} {d t0 : Nat} (hd : d < 128) (h : ES s s') (h' : PE s' s'' d t0) : PE s s'' d t0 := by
  obtain ⟨w0, h0, h1, h2, h3, h4, h5⟩ := h'
  exact ⟨w0, h0, fun d' w t a b c => (h1 d' w t a b c).trans (h.1 d' w t a b), fun t => by rw [← h.1 d w0 t hd h0]; exact h2 t, h3, fun t ht => (h4 t ht).trans (h.2.1 t ht), h.2.2.sp h5⟩
theorem z_dec {a b : Nat} (ha : a < 128) (hb : b < 128) : decide (nI a = nI b) = decide (b = a) := decide_eq_decide.mpr ⟨fun e => (w_nI (by omega) (by omega) e).symm, fun e => by rw [e]⟩
theorem up2_at {s : wS} {d b a z t t0 : Nat} {v : Int32} (hA : w_A s) (hB : w_B s) (ho : w_own s d (a / 16) b) (ha : a < 384) (ha2 : a % 2 = 0) (hd : d < 128) (h0 : s (w_ib d) 0 = nI 2) (h2 : s (w_ib d) 2 = nI z) (hz : z ≤ 384) (haz : a < z) (hv : ¬ v = nI 0) : v_en (w_up2 s b a v (nI t0)) d (a / 2) t = decide (nI t0 = nI t) := by
  have hbD := ho.2.2.1
  have e16 : 2 * (a / 2) % 16 = a % 16 := by omega
  have ew : w_up2 s b a v (nI t0) b (a % 16) = v := by
    unfold w_up2
    rw [w_up_i _ _ _ (by omega), w_up_at]
  have hbd : ¬ w_ib d = b := fun e => w_ib_D hd (e ▸ hbD)
  have := v_en_at (V := w_up2 s b a v (nI t0)) (d := d) (w := a / 2) (t := t) (b := b) (z := z) (by rw [up2_b _ hbd]; exact h0) (by rw [up2_b _ hbd]; exact h2) (by omega) (by omega) (by rw [up2_pl hA hB ho ha hd, show a / 2 / 8 = a / 16 from by omega]; exact ho.2.2.2) hbD (by rw [e16, ew]; exact hv)
  rw [this, e16]
  unfold w_up2
  rw [w_up_at]
theorem up2_sz {s : wS} {d p b a : Nat} {v v' : Int32} (ho : w_own s d p b) : SZ s (w_up2 s b a v v') := SZ.i (fun k hk => up2_b 0 (fun e => w_ib_D hk (e ▸ ho.2.2.1))) (fun k hk => up2_b 2 (fun e => w_ib_D hk (e ▸ ho.2.2.1)))
/-- put at a place below the size -/
theorem pe_putA {s : wS} {d b a z t0 : Nat} {v : Int32} (hA : w_A s) (hB : w_B s) (ho : w_own s d (a / 16) b) (ha : a < 384) (ha2 : a % 2 = 0) (hd : d < 128) (h0 : s (w_ib d) 0 = nI 2) (h2 : s (w_ib d) 2 = nI z) (hz : z ≤ 384) (haz : a < z) (hv : ¬ v = nI 0) (ht0 : t0 < 128) (hfr : ∀ t, v_en s d (a / 2) t = false) : PE s (w_up2 s b a v (nI t0)) d t0 :=
  ⟨a / 2, by omega, fun d' w t q1 q2 q3 => up2_en hA hB ho ha ha2 q1 q2 q3, hfr, fun t ht => (up2_at hA hB ho ha ha2 hd h0 h2 hz haz hv).trans (z_dec ht0 ht), fun t ht => up2_b 1 (fun e => w_ib_D ht (e ▸ ho.2.2.1)), (up2_sz ho).p⟩
/-- put at the size, which grows -/
theorem pe_putB {s : wS} {d b z t0 : Nat} {v : Int32} (hA : w_A s) (hB : w_B s) (ho : w_own s d (z / 16) b) (hz : z < 384) (hz2 : z % 2 = 0) (hd : d < 128) (h0 : s (w_ib d) 0 = nI 2) (h2 : s (w_ib d) 2 = nI z) (hv : ¬ v = nI 0) (ht0 : t0 < 128) : PE s (w_up (w_up2 s b z v (nI t0)) (w_ib d) 2 (nI (z + 2))) d t0 := by
  have hbD := ho.2.2.1
  have hbd : ¬ w_ib d = b := fun e => w_ib_D hd (e ▸ hbD)
  have hA2 : ∀ {k p}, k < 128 → w_pl (w_up (w_up2 s b z v (nI t0)) (w_ib d) 2 (nI (z + 2))) k p = w_pl s k p := fun {k p} hk => by
    rw [← up2_pl (v := v) (v' := nI t0) hA hB ho hz hk p]
    unfold w_pl
    have hx : ∀ j i, ¬ j = 2 → w_up (w_up2 s b z v (nI t0)) (w_ib d) 2 (nI (z + 2)) i j = w_up2 s b z v (nI t0) i j := fun j i hj => if_neg (fun q => hj q.2)
    rw [hx _ _ (by omega), hx _ _ (by omega)]
    by_cases h8 : p < 8
    · rw [if_pos h8, if_pos h8]
    · rw [if_neg h8, if_neg h8]
      by_cases h24 : p = 24
      · rw [if_pos h24, if_pos h24]
      · rw [if_neg h24, if_neg h24]
        by_cases hn : w_up2 s b z v (nI t0) (w_ib k) 11 = nI 0
        · rw [if_pos hn, if_pos hn]
        · rw [if_neg hn, if_neg hn]
          have e11 : w_up2 s b z v (nI t0) (w_ib k) 11 = s (w_ib k) 11 := up2_b 11 (fun e => w_ib_D hk (e ▸ hbD))
          rw [e11] at hn ⊢
          obtain ⟨x, x1, x2, x3⟩ := w_ix hA hk hn
          rw [x1, nI_clamp (w_Dlt x2), w_up_b _ _ _ _ (D_ib' x2 hd)]
  have hc : ∀ c, w_D c → ∀ i, w_up (w_up2 s b z v (nI t0)) (w_ib d) 2 (nI (z + 2)) c i = w_up2 s b z v (nI t0) c i := fun c hc i => w_up_b _ _ _ _ (D_ib' hc hd)
  refine ⟨z / 2, by omega, fun d' w t q1 q2 q3 => ?_, fun t => v_en_no (Or.inr (Or.inl ?_)), fun t ht => ?_, fun t ht => ?_, fun d' hd' hk' => ?_⟩
  · rw [← up2_en (v := v) (v' := nI t0) (t := t) hA hB ho hz hz2 q1 q2 q3]
    by_cases e : d' = d
    · subst e
      have hw : ¬ w = z / 2 := fun e => q3 ⟨rfl, e⟩
      by_cases hlt : 2 * w < z
      · unfold v_en
        rw [hA2 q1, up2_pl hA hB ho hz q1, w_up_i _ _ _ (by omega : ¬ 0 = 2), w_up_at, up2_b 2 hbd, h2, nI_clamp (by omega), nI_clamp (by omega)]
        refine decide_eq_decide.mpr ?_
        rcases hA d' (w / 8) q1 (by omega) with q | ⟨c, c1, c2⟩
        · exact ⟨fun h => absurd q h.2.2.1, fun h => absurd q h.2.2.1⟩
        · rw [c1, nI_clamp (w_Dlt c2), hc c c2, hc c c2]
          exact ⟨fun h => ⟨h.1, hlt, h.2.2⟩, fun h => ⟨h.1, by omega, h.2.2⟩⟩
      · rw [v_en_no (V := w_up2 s b z v (nI t0)) (Or.inr (Or.inl ?_)), v_en_no (Or.inr (Or.inl ?_))]
        · rw [w_up_at, nI_clamp (by omega)]
          omega
        · rw [up2_b 2 hbd, h2, nI_clamp (by omega)]
          omega
    · have hne : ¬ w_ib d' = w_ib d := fun e2 => e (w_ib_inj q1 hd e2)
      refine v_en_cg (w_up_b _ _ _ _ hne) (w_up_b _ _ _ _ hne) (by rw [hA2 q1, up2_pl hA hB ho hz q1]) (fun hn => ?_)
      rw [up2_pl hA hB ho hz q1] at hn ⊢
      rcases hA d' (w / 8) q1 (by omega) with q | ⟨c, c1, c2⟩
      · exact absurd q hn
      · rw [c1, nI_clamp (w_Dlt c2), hc c c2, hc c c2]
        exact ⟨rfl, rfl⟩
  · rw [h2, nI_clamp (by omega)]
    omega
  · have e16 : 2 * (z / 2) % 16 = z % 16 := by omega
    have ew : w_up2 s b z v (nI t0) b (z % 16) = v := by
      unfold w_up2
      rw [w_up_i _ _ _ (by omega), w_up_at]
    have := v_en_at (V := w_up (w_up2 s b z v (nI t0)) (w_ib d) 2 (nI (z + 2))) (d := d) (w := z / 2) (t := t) (b := b) (z := z + 2) (by rw [w_up_i _ _ _ (by omega : ¬ 0 = 2), up2_b _ hbd]; exact h0) (w_up_at _ _ _ _) (by omega) (by omega) (by rw [hA2 hd, show z / 2 / 8 = z / 16 from by omega]; exact ho.2.2.2) hbD (by rw [e16, hc b hbD, ew]; exact hv)
    rw [this, e16, hc b hbD]
    unfold w_up2
    rw [w_up_at]
    exact z_dec ht0 ht
  · rw [show w_up (w_up2 s b z v (nI t0)) (w_ib d) 2 (nI (z + 2)) (w_ib t) 1 = w_up2 s b z v (nI t0) (w_ib t) 1 from if_neg (fun q => by have := q.2; omega)]
    exact up2_b 1 (fun e => w_ib_D ht (e ▸ hbD))
  · have hdb : ¬ w_ib d' = b := fun e => w_ib_D hd' (e ▸ hbD)
    rw [w_up_j _ _ _ _ (by omega : ¬ 0 = 2), up2_b 0 hdb] at hk'
    refine ⟨hk', ?_⟩
    by_cases e : d' = d
    · rw [e, w_up_at, h2, nI_clamp (by omega), nI_clamp (by omega)]
      omega
    · rw [w_up_b _ _ _ _ (fun e2 => e (w_ib_inj hd' hd e2)), up2_b 2 hdb]
      omega
/-- an entry is erased -/
theorem ee_up2 {s : wS} {d b a z t0 : Nat} {v' : Int32} (hA : w_A s) (hB : w_B s) (ho : w_own s d (a / 16) b) (ha : a < 384) (ha2 : a % 2 = 0) (hd : d < 128) (h0 : s (w_ib d) 0 = nI 2) (h2 : s (w_ib d) 2 = nI z) (hz : z ≤ 384) (haz : a < z) (hv : ¬ s b (a % 16) = nI 0) (ht0 : t0 < 128) (hv2 : s b (a % 16 + 1) = nI t0) : EE s (w_up2 s b a (nI 0) v') d t0 := by
  have hbD := ho.2.2.1
  have e16 : 2 * (a / 2) % 16 = a % 16 := by omega
  have epl : w_pl s d (a / 2 / 8) = nI b := by
    rw [show a / 2 / 8 = a / 16 from by omega]
    exact ho.2.2.2
  refine ⟨a / 2, by omega, fun d' w t q1 q2 q3 => up2_en hA hB ho ha ha2 q1 q2 q3, fun t ht => ?_, fun t => v_en_no (Or.inr (Or.inr (Or.inr ?_))), fun t ht => up2_b 1 (fun e => w_ib_D ht (e ▸ hbD)), up2_sz ho⟩
  · rw [v_en_at (b := b) (z := z) h0 h2 (by omega) (by omega) epl hbD (by rw [e16]; exact hv), e16, hv2]
    exact z_dec ht0 ht
  · rw [up2_pl hA hB ho ha hd, epl, nI_clamp (w_Dlt hbD), e16]
    unfold w_up2
    rw [w_up_i _ _ _ (by omega), w_up_at]
/-- an inode goes: it has no entries, none names it -/
theorem lc_fin {s s' : wS} {t : Nat} (hA : w_A s) (hB : w_B s) (ht : t < 128) (h : ∀ c i, ¬ c = w_ib t → (∀ g, ¬ c = w_mp g) → s' c i = s c i) (h0 : ∀ i, i < 16 → s' (w_ib t) i = nI 0) (hn : ∀ w t', w < 192 → v_en s t w t' = false) (hc : v_cn s t + v_r t = 0) (hl : ∀ k, k < 128 → ¬ k = t → s (w_ib k) 1 = nI (v_cn s k + v_r k)) : v_LC s' := by
  have hi : ∀ d i, d < 128 → ¬ d = t → s' (w_ib d) i = s (w_ib d) i := fun d i hd hne => h _ _ (fun e => hne (w_ib_inj hd ht e)) (fun g => w_ib_mp hd)
  have hD : ∀ c i, w_D c → s' c i = s c i := fun c i hc => h _ _ (D_ib' hc ht) (D_mp hc)
  have hen : ∀ d w t', d < 128 → w < 192 → v_en s' d w t' = v_en s d w t' := fun d w t' hd hw => by
    by_cases e : d = t
    · subst e
      rw [hn w t' hw, v_en_no (Or.inl ?_)]
      rw [h0 0 (by decide)]
      decide
    · refine v_en_cg (hi d 0 hd e) (hi d 2 hd e) (w_pl_cg (fun i => hi d i hd e) (fun i hn => ?_)) (fun hn => ?_)
      · obtain ⟨x, x1, x2, x3⟩ := w_ix hA hd hn
        rw [x1, nI_clamp (w_Dlt x2)]
        exact hD x i x2
      · rcases hA d (w / 8) hd (by omega) with q | ⟨b, b1, b2⟩
        · exact absurd q hn
        · rw [b1, nI_clamp (w_Dlt b2)]
          exact ⟨hD b _ b2, hD b _ b2⟩
  have hcn : ∀ k, v_cn s' k = v_cn s k := fun k => v_sum_cg 128 (fun d hd => v_sum_cg 192 (fun w hw => by
    show (if v_en s' d w k = true then 1 else 0) = (if v_en s d w k = true then 1 else 0)
    rw [hen d w k hd hw]))
  intro k hk
  rw [hcn]
  by_cases e : k = t
  · subst e
    rw [h0 1 (by decide), hc]
  · rw [hi k 1 hk e]
    exact hl k hk e

theorem lc_link {s s' : wS} {d k : Nat} {v : Int32} (hA : w_A s) (hd : d < 128) (hk : k < 128) (hv : v = s (w_ib k) 1 + nI 1) (h : PE (w_up s (w_ib k) 1 v) s' d k) (hl : v_LC s) : v_LC s' := fun t ht => by
  have hcn : v_cn (w_up s (w_ib k) 1 v) t = v_cn s t := v_sum_cg 128 (fun d hd => v_sum_cg 192 (fun w hw => by
    show (if v_en (w_up s (w_ib k) 1 v) d w t = true then 1 else 0) = (if v_en s d w t = true then 1 else 0)
    rw [en_link hA hk hd hw]))
  rw [h.lk ht, h.cn hd ht, hcn]
  by_cases e : t = k
  · subst e
    rw [w_up_at, if_pos rfl, hv, hl t ht, nI_add]
    exact congrArg nI (by omega)
  · rw [w_up_b _ _ _ _ (fun e2 => e (w_ib_inj ht hk e2)), if_neg e, Nat.add_zero]
    exact hl t ht
theorem lc_make {s s1 s' : wS} {d t : Nat} {c : Int32} (hA : w_A s) (hA1 : w_A s1) (hd : d < 128) (ht : t < 128) (hm : ∀ c i, (∀ g, ¬ c = w_mp g) → s1 c i = s c i) (h0 : ∀ i, i < 16 → s1 (w_ib t) i = nI 0) (h : PE (w_up (w_up s1 (w_ib t) 0 c) (w_ib t) 1 (nI 1)) s' d t) (hl : v_LC s) : v_LC s' := by
  have hl1 : v_LC s1 := (es_map hA hm).1.lc hl
  have hp : ∀ k p, k < 128 → w_pl (w_up s1 (w_ib t) 0 c) k p = w_pl s1 k p := fun k p hk => by
    by_cases e : k = t
    · subst e
      exact p_ibo hA1 hk (by omega)
    · exact p_up hA1 hk (fun e2 => e (w_ib_inj hk ht e2)) (fun ho => w_ib_D ht ho.2.2.1)
  have hA2 : w_A (w_up s1 (w_ib t) 0 c) := fun k p hk hpp => by
    rw [hp k p hk]
    exact hA1 k p hk hpp
  have hen : ∀ d w t', d < 128 → w < 192 → v_en (w_up (w_up s1 (w_ib t) 0 c) (w_ib t) 1 (nI 1)) d w t' = v_en s1 d w t' := fun d w t' hd hw => by
    rw [en_link hA2 ht hd hw]
    by_cases e : d = t
    · subst e
      rw [v_en_no (V := s1) (Or.inr (Or.inl ?_)), v_en_no (Or.inr (Or.inl ?_))]
      · rw [w_up_i _ _ _ (by omega : ¬ 2 = 0), h0 2 (by omega), nI_clamp (by decide)]
        omega
      · rw [h0 2 (by omega), nI_clamp (by decide)]
        omega
    · have hne : ¬ w_ib d = w_ib t := fun e2 => e (w_ib_inj hd ht e2)
      refine v_en_cg (w_up_b _ _ _ _ hne) (w_up_b _ _ _ _ hne) (hp d _ hd) (fun hn => ?_)
      rcases hA1 d (w / 8) hd (by omega) with q | ⟨b, b1, b2⟩
      · exact absurd q hn
      · rw [b1, nI_clamp (w_Dlt b2), w_up_b _ _ _ _ (D_ib' b2 ht), w_up_b _ _ _ _ (D_ib' b2 ht)]
        exact ⟨rfl, rfl⟩
  intro k hk
  have hcn : v_cn (w_up (w_up s1 (w_ib t) 0 c) (w_ib t) 1 (nI 1)) k = v_cn s1 k := v_sum_cg 128 (fun d hd => v_sum_cg 192 (fun w hw => by
    show (if v_en (w_up (w_up s1 (w_ib t) 0 c) (w_ib t) 1 (nI 1)) d w k = true then 1 else 0) = (if v_en s1 d w k = true then 1 else 0)
    rw [hen d w k hd hw]))
  rw [h.lk hk, h.cn hd hk, hcn]
  by_cases e : k = t
  · subst e
    have q := hl1 k hk
    rw [h0 1 (by omega)] at q
    have a3 := v_cn_le s1 k
    have a4 := v_r_le k
    have q2 := w_nI (by decide) (by omega) q
    rw [w_up_at, if_pos rfl]
    exact congrArg nI (by omega)
  · have hne : ¬ w_ib k = w_ib t := fun e2 => e (w_ib_inj hk ht e2)
    rw [w_up_b _ _ _ _ hne, w_up_b _ _ _ _ hne, if_neg e, Nat.add_zero]
    exact hl1 k hk
theorem lc_ren {s s1 s' : wS} {d e t : Nat} (hd : d < 128) (he : e < 128) (h1 : EE s s1 d t) (h2 : PE s1 s' e t) (hl : v_LC s) : v_LC s' := fun k hk => by
  have a := h1.cn (t := k) hd hk
  have b := h2.cn (t := k) he hk
  rw [h2.lk hk, h1.lk hk, hl k hk, b, a]
theorem lc_rem {s s1 : wS} {d t : Nat} {v : Int32} (hA1 : w_A s1) (hd : d < 128) (ht : t < 128) (h1 : EE s s1 d t) (hv : v = s1 (w_ib t) 1 - nI 1) (hl : v_LC s) : v_LC (w_up s1 (w_ib t) 1 v) := fun k hk => by
  have hcn : v_cn (w_up s1 (w_ib t) 1 v) k = v_cn s1 k := v_sum_cg 128 (fun d hd => v_sum_cg 192 (fun w hw => by
    show (if v_en (w_up s1 (w_ib t) 1 v) d w k = true then 1 else 0) = (if v_en s1 d w k = true then 1 else 0)
    rw [en_link hA1 ht hd hw]))
  have a := h1.cn (t := k) hd hk
  rw [hcn]
  by_cases e : k = t
  · subst e
    rw [if_pos rfl] at a
    rw [w_up_at, hv, h1.lk hk, hl k hk, ← a, show v_cn s1 k + 1 + v_r k = (v_cn s1 k + v_r k) + 1 from by omega, pk_sub (by omega)]
    exact congrArg nI (by omega)
  · rw [if_neg e, Nat.add_zero] at a
    rw [w_up_b _ _ _ _ (fun e2 => e (w_ib_inj hk ht e2)), h1.lk hk, hl k hk, a]
/-- directories' sizes where an inode goes -/
theorem sb_fin {s s' : wS} {t z : Nat} (ht : t < 128) (h : ∀ c i, ¬ c = w_ib t → (∀ g, ¬ c = w_mp g) → s' c i = s c i) (h0 : s' (w_ib t) 0 = nI 0) (hz : v_SB z s) : v_SB z s' := fun d hd hk => by
  by_cases e : d = t
  · rw [e, h0] at hk
    exact absurd hk (by decide)
  · have hi : ∀ i, s' (w_ib d) i = s (w_ib d) i := fun i => h _ _ (fun e2 => e (w_ib_inj hd ht e2)) (fun g => w_ib_mp hd)
    rw [hi] at hk ⊢
    exact hz d hd hk
theorem lr_link {s s' : wS} {d k : Nat} {v : Int32} (hA : w_A s) (hd : d < 128) (hk : k < 128) (hv : v = s (w_ib k) 1 + nI 1) (h : PE (w_up s (w_ib k) 1 v) s' d k) : LR s s' :=
  ⟨fun hl => lc_link hA hd hk hv h hl, fun _ q => ((SZ.up (by omega) (by omega)).sp h.sp).sb q⟩
theorem lr_make {s s1 s' : wS} {d t : Nat} {c : Int32} (hA : w_A s) (hA1 : w_A s1) (hd : d < 128) (ht : t < 128) (hm : ∀ c i, (∀ g, ¬ c = w_mp g) → s1 c i = s c i) (h0 : ∀ i, i < 16 → s1 (w_ib t) i = nI 0) (h : PE (w_up (w_up s1 (w_ib t) 0 c) (w_ib t) 1 (nI 1)) s' d t) : LR s s' :=
  ⟨fun hl => lc_make hA hA1 hd ht hm h0 h hl, fun z q k hk hk2 => by
    obtain ⟨a, b⟩ := h.sp k hk hk2
    rw [w_up_j _ _ _ _ (by omega : ¬ 2 = 1), w_up_j _ _ _ _ (by omega : ¬ 2 = 0)] at b
    by_cases e : k = t
    · rw [e, h0 2 (by omega), nI_clamp (by decide)] at b
      rw [e]
      omega
    · rw [w_up_j _ _ _ _ (by omega : ¬ 0 = 1), w_up_b _ _ _ _ (fun e2 => e (w_ib_inj hk ht e2)), hm _ _ (fun g => w_ib_mp hk)] at a
      rw [hm _ _ (fun g => w_ib_mp hk)] at b
      have := q k hk a
      omega⟩
theorem lr_ren {s s1 s' : wS} {d e t : Nat} (hd : d < 128) (he : e < 128) (h1 : EE s s1 d t) (h2 : PE s1 s' e t) : LR s s' :=
  ⟨fun hl => lc_ren hd he h1 h2 hl, fun _ q => (h1.sz.sp h2.sp).sb q⟩
theorem lr_rem {s s1 : wS} {d t : Nat} {v : Int32} (hA1 : w_A s1) (hd : d < 128) (ht : t < 128) (h1 : EE s s1 d t) (hv : v = s1 (w_ib t) 1 - nI 1) : LR s (w_up s1 (w_ib t) 1 v) :=
  ⟨fun hl => lc_rem hA1 hd ht h1 hv hl, fun _ q => (h1.sz.tr (SZ.up (by omega) (by omega))).p.sb q⟩
section LCT
variable {n y : Nat} {Hd : Nat → Int} {F0 F F' : (Nat → Nat) → wS} {I0 J0 I J : am_I} {X : List Nat} {E : Nat → Prop} {gn : List Nat} {gp gp' pd pd' : Nat → Prop}
theorem tr_en {d w t : Nat} {L : Nat → Nat} (h : TR y Hd F0 I0 J0 X E F gn gp pd I J) (hL : L y = 2) (hd : d < 128) (hH : 0 < Hd d) (hw : w < 192) : v_en (F L) d w t = v_en (vw y J) d w t := by
  refine v_en_cg (tr_vw h hL (of_ib hd) hH (by decide)).symm (tr_vw h hL (of_ib hd) hH (by decide)).symm (tr_pl h hL hd hH (by omega)).symm (fun hn => ?_)
  rcases tr_P (p := w / 8) h hd hH (by omega) with q | ⟨b, b1, b2⟩
  · exact absurd q hn
  · have ho : w_own (F L) d (w / 8) b := (tr_own h hL hH).mpr ⟨hd, by omega, b2, b1⟩
    rw [b1, nI_clamp (w_Dlt b2)]
    exact ⟨(tr_vw h hL (of_own ho) hH (by omega)).symm, (tr_vw h hL (of_own ho) hH (by omega)).symm⟩
end LCT
