
theorem of_pos {s : wS} {b r : Nat} (h : w_of s b r) : 128 ≤ b := by
  rcases h with ⟨h1, rfl⟩ | ⟨p, h1⟩ | ⟨g, h1, -, rfl⟩
  · unfold w_ib; omega
  · exact h1.2.2.1.1
  · unfold w_mp; omega
/-- a node's log and flush stay as they are -/
theorem jn_cg {x : Nat} {I J I' J' : am_I} {lg fb : List Nat} {fq mk : Nat} (h : JNr x I J lg fb fq mk) (h4 : I' x 44 = I x 44) (h5 : I' x 45 = I x 45) (h6 : I' x 46 = I x 46) (h7 : I' x 47 = I x 47) (k9 : ∀ b, b < 640 → J' 0 69 (640 * x + b) = J 0 69 (640 * x + b)) (k0 : J' 0 70 x = J 0 70 x) (k1 : J' 0 71 x = J 0 71 x) (k2 : J' 0 72 x = J 0 72 x) (k3 : J' 0 73 x = J 0 73 x) (k4 : J' 0 74 = J 0 74) (k5 : J' 0 75 = J 0 75) : JNr x I' J' lg fb fq mk := by
  obtain ⟨a1, a2, a3, a4, a5, a6, a7, a8, a9, a10, a11⟩ := h
  refine ⟨⟨a1.1, a1.2.1, a1.2.2.1, fun b hb => by rw [k9 b hb]; exact a1.2.2.2 b hb⟩, by rw [k0]; exact a2, by rw [h4]; exact a3, by rw [h5]; exact a4, by rw [h4]; exact a5, by rw [h4, k1]; exact a6, by rw [h4]; exact a7, a8, a9, by rw [k2, k3]; exact a10, fun q => ?_⟩
  obtain ⟨b1, b2, b3, b4, b5, b6⟩ := a11 q
  refine ⟨b1, by rw [h4]; exact b2, by rw [k3]; exact b3, by rw [h6]; exact b4, ?_, by rw [h4]; exact b6⟩
  unfold WR
  rw [k2, k4, k5, h7, k1]
  exact b5
section COMMIT
variable {n y : Nat} {Hd : Nat → Int} {F0 F : (Nat → Nat) → wS} {I0 J0 I J : am_I} {o : Int32} {lg fb : List Nat} {fq mk : Nat}
/-- what a done try leaves for the keeping: the lists, and the stores -/
def CM (y : Nat) (Hd : Nat → Int) (F0 : (Nat → Nat) → wS) (J0 : am_I) (sv gn : List Nat) (F : (Nat → Nat) → wS) (J : am_I) : Prop :=
  ∃ Bh : Nat → Prop, (∀ b, b ∈ gn → w_D b) ∧ sv.Nodup ∧ (∀ b, b ∈ sv → b < 640) ∧ (∀ L, L y = 2 → TI Hd (F0 L) (F L) (t_v y J) (fun b => b ∈ sv) (fun b => b ∈ gn) (fun _ => False) (tH y J) Bh) ∧ (∀ L, L y = 2 → ∀ b, b ∈ gn → ∀ k p, ¬ w_own (F L) k p b) ∧ (∀ L, L y = 2 → LR (F0 L) (F L)) ∧ (∀ b, tH y J0 b → tH y J b) ∧ ∀ b i, tH y J0 b → ¬ b ∈ sv → i < 16 → J 0 67 (16 * (640 * y + b) + i) = J0 0 67 (16 * (640 * y + b) + i)
def fKI (y : Nat) (I I' : am_I) : Prop := (∀ a b, ¬ (a = y ∧ (b = 41 ∨ b = 43 ∨ b = 44 ∨ b = 45)) → ¬ (a = 0 ∧ (b = 15 ∨ b = 19)) → I' a b = I a b) ∧ (∀ k, ¬ (k = 5 ∨ k = 7) → I' 0 15 k = I 0 15 k) ∧ ∀ k, ¬ k = 2 → I' y 44 k = I y 44 k ∧ I' y 41 k = I y 41 k
/-- both sides keep a try that is done, or both find it too much -/
theorem p_keep (hC : TC n y Hd I0 J0) (h : DN y Hd F0 I0 J0 o I J) (hJ : JNr y I0 J0 lg fb fq mk) : ∃ m sv gn F c, CM y Hd F0 J0 sv gn F J ∧ m ≤ 1000 ∧ c ≤ 32 ∧ gX9_isTooMuch n I = some (nI (if 16 < m then 1 else 0), I) ∧ (∃ f', bX11_isTriedAgain_133 n am_fu (nI y) (J 0 70 y) (nI 0) J = bX11_isTriedAgain_177 n (f' + 1) (nI y) (nI m) (J 0 60 61) J) ∧ I 0 15 5 = nI c ∧ J 0 60 56 = nI sv.length ∧ sv.length ≤ 32 ∧ (c = 0 ↔ sv.length = 0) ∧ (16 < m → ¬ lg = []) ∧ (m ≤ 16 → ∃ I' J' lg', gX9_settle n I = some I' ∧ gX11_keepAll n (nI y) J = some J' ∧ JNr y I' J' lg' fb fq mk ∧ (∀ b, b ∈ lg' ↔ (b ∈ lg ∨ b ∈ sv) ∧ ¬ b ∈ gn) ∧ CHr y I' J' ∧ (∀ b, b < 640 → J' 0 68 (640 * y + b) = if b ∈ gn then nI 0 else J 0 68 (640 * y + b)) ∧ (∀ b, b < 640 → J' 0 120 b = nI 0) ∧ (∀ b, b < 640 → I' 0 19 b = nI 0) ∧ J' 0 60 56 = nI 0 ∧ J' 0 60 61 = nI 0 ∧ I' 0 15 5 = nI 0 ∧ I' 0 15 7 = nI 0 ∧ fKI y I I' ∧ fKp y J J') := by
  have hn4 := hC.2.1
  have hyn := hC.1
  have hy4 : y < 4 := by omega
  obtain ⟨⟨X, E, F, gn, gp, hT, hX, hEg, hgp, hz, hlc⟩, o1, o2, o3, o4⟩ := h
  obtain ⟨B, sv, cv, p1, p2, p3, p4, p5, p6, p7, p8, p9, p10, p11, p12, p13, p14, p15⟩ := hT
  obtain rfl : gp = fun b => b ∈ gn := funext fun b => propext (hgp b)
  obtain ⟨a1, a2, a3, a4, a5, a6, a7, a8⟩ := p1
  obtain ⟨b1, b2, b3, b4, b5, b6, b7, b8, b9⟩ := p2
  obtain ⟨g1, g2, g3, g4, g5⟩ := p11
  have hTI := p14 (fun _ => 2) rfl
  have hgD : ∀ b, b ∈ gn → w_D b := fun b hb => (hTI.2.2.2.2.2.2.1 b hb).1
  have hg6 : ∀ b, b ∈ gn → b < 640 := fun b hb => w_D_lt (hgD b hb)
  have hsl := pigeon sv cv a3 p8
  have hcl := b2.2
  have hc16 : cv.length ≤ 16 := by have := tr_len b3 p10; omega
  -- the class's side
  have hG : GVc I gn := ⟨g2, fun k b hk => (g3 k b hk).2, g5, hg6⟩
  have hJ' : JNr y I J lg fb fq mk := jn_cg hJ (p12 y 44 (by omega) (by omega)) (p12 y 45 (by omega) (by omega)) (p12 y 46 (by omega) (by omega)) (p12 y 47 (by omega) (by omega)) (fun b _ => by rw [p13.1 0 69 (by omega)]) (by rw [p13.1 0 70 (by omega)]) (by rw [p13.1 0 71 (by omega)]) (by rw [p13.1 0 72 (by omega)]) (by rw [p13.1 0 73 (by omega)]) (p13.1 0 74 (by omega)) (p13.1 0 75 (by omega))
  obtain ⟨j1, j2, j3, j4, j5, j6, j7, j8, j9, j10, j11⟩ := hJ'
  have hlnd := nd_lt j1.1
  have hL : LCl y I lg := ⟨j3, j4⟩
  have hF : FLw y J lg := ⟨hlnd, j1.2.2.2, j2⟩
  have htoo := c_tooM (n := n) hyn hn4 hG b1 b2.1 hcl b4 (fun k b hk => (b6 k b hk).1) hL j1.2.2.1 j1.2.1
  have hmem : ∀ c, c ∈ tgt lg cv gn ↔ (c ∈ lg ∨ c ∈ sv) ∧ ¬ c ∈ gn := fun c => by
    rw [tgt_mem]
    exact ⟨fun q => ⟨q.1.imp id (fun q1 => (p9 c q1).resolve_right (fun e => q.2 (hEg c e))), q.2⟩, fun q => ⟨q.1.imp id (p8 c), q.2⟩⟩
  -- the numbers
  have hU : (lg ++ sv.filter (fun b => decide (¬ b ∈ lg))).Nodup := by
    rw [List.nodup_append]
    refine ⟨hlnd, a3.sublist List.filter_sublist, fun a ha b hb e => ?_⟩
    rw [List.mem_filter, decide_eq_true_iff] at hb
    exact hb.2 (e ▸ ha)
  have hV : (tgt lg cv gn ++ gn.filter (fun b => decide (b ∈ lg ∨ b ∈ sv))).Nodup := by
    rw [List.nodup_append]
    refine ⟨tgt_nd hlnd b3, g4.sublist List.filter_sublist, fun a ha b hb e => ?_⟩
    rw [List.mem_filter] at hb
    exact ((hmem a).mp ha).2 (e ▸ hb.1)
  have hlen := len_eq hV hU (fun c => by
    rw [List.mem_append, List.mem_append, hmem, List.mem_filter, List.mem_filter, decide_eq_true_iff, decide_eq_true_iff]
    by_cases e1 : c ∈ lg
    · by_cases e2 : c ∈ gn
      · exact ⟨fun _ => Or.inl e1, fun _ => Or.inr ⟨e2, Or.inl e1⟩⟩
      · exact ⟨fun _ => Or.inl e1, fun _ => Or.inl ⟨Or.inl e1, e2⟩⟩
    · by_cases e2 : c ∈ gn
      · exact ⟨fun q => q.elim (fun q => absurd e2 q.2) (fun q => Or.inr ⟨q.2.resolve_left e1, e1⟩), fun q => q.elim (fun q => absurd q e1) (fun q => Or.inr ⟨e2, Or.inr q.1⟩)⟩
      · exact ⟨fun q => q.elim (fun q => Or.inr ⟨q.1.resolve_left e1, e1⟩) (fun q => absurd q.1 e2), fun q => q.elim (fun q => absurd q e1) (fun q => Or.inl ⟨Or.inr q.1, e2⟩)⟩)
  rw [List.length_append, List.length_append] at hlen
  have htl : (tgt lg cv gn).length ≤ 1000 := by
    have := List.length_filter_le (fun b => decide (¬ b ∈ lg)) sv
    have := j1.2.2.1
    omega
  have hkd : cv.length = 0 ↔ sv.length = 0 := by
    constructor
    · intro e; omega
    · intro e
      rw [List.length_eq_zero_iff] at e ⊢
      match cv, p9, p4, b4 with
      | [], _, _, _ => rfl
      | b :: cv, p9, p4, b4 =>
        exfalso
        have hb := p9 b List.mem_cons_self
        rw [e] at hb
        have hg := hEg b (hb.resolve_left List.not_mem_nil)
        have hb6 := b4 b List.mem_cons_self
        have hh : tH y J b := ⟨hb6, by rw [← p6 b hb6]; exact p4 b List.mem_cons_self⟩
        have hB := ((hTI.2.2.2.2.2.2.2.2.1 b).mp hh).resolve_right (fun q => by rw [e] at q; exact absurd q List.not_mem_nil)
        obtain ⟨r, r1, r2, r3⟩ := hTI.2.2.2.2.2.2.2.1 b hB
        obtain ⟨p, hp⟩ := of_D r1 (hgD b hg)
        rcases hTI.2.2.2.2.2.1 r p b hp with q | q
        · have hs : F (fun _ => 2) = F0 (fun _ => 2) := funext fun b => funext fun i => hTI.2.2.1 b (fun q => by rw [e] at q; exact absurd q List.not_mem_nil) i
          exact hz (fun _ => 2) rfl b hg r p (hs ▸ hp)
        · exact hz (fun _ => 2) rfl b hg r p q
  have hgrow : ∀ b, tH y J0 b → tH y J b := fun b hb => by
    obtain ⟨q1, q2⟩ := hb
    by_cases e : b ∈ sv
    · exact ⟨q1, p3 b e⟩
    · exact ⟨q1, by rw [(a7 b q1 e).1]; exact ((p15 b q1).1 q2).1⟩
  have hsame : ∀ b i, tH y J0 b → ¬ b ∈ sv → i < 16 → J 0 67 (16 * (640 * y + b) + i) = J0 0 67 (16 * (640 * y + b) + i) := fun b i hb e hi => by
    obtain ⟨q1, q2⟩ := hb
    have hB := (p15 b q1).1 q2
    rw [(a7 b q1 e).2 hB.1 i hi, hB.2 i hi]
  refine ⟨(tgt lg cv gn).length, sv, gn, F, cv.length, ⟨_, hgD, a3, a4, p14, hz, hlc, hgrow, hsame⟩, htl, hcl, htoo, ?_, b2.1, a2, by omega, hkd, fun q e => ?_, fun hm => ?_⟩
  · -- the reference counts the same
    obtain ⟨f', q⟩ := tg2_lp (n := n) hy4 hF a5 gn (tgt lg cv gn).length 0 am_fu (fu_lt (by omega)) (by omega) hg6 (by rw [Nat.zero_add]; exact g1) (fun k c hk => by rw [Nat.zero_add]; exact (g3 k c hk).1)
    refine ⟨f', ?_⟩
    rw [j2, tg1_lp (n := n) hy4 hF sv lg.length 0 am_fu (fu_lt (by omega)) (by omega) a4 (by rw [Nat.zero_add]; exact a2) (fun k c hk => by rw [Nat.zero_add]; exact (a6 k c hk).1), ← hlen, q, Nat.zero_add, g1]
  · -- an empty log holds a try
    subst e
    have := pigeon (tgt [] cv gn) cv (tgt_nd hlnd b3) (fun a ha => ((tgt_mem a).mp ha).1.resolve_left List.not_mem_nil)
    omega
  · obtain ⟨I', lg', s1, s2, s3, s4, s5, s6, s7, s8, s9, s10, s11, s12⟩ := c_settle (n := n) (W := tgt lg cv gn) hyn hn4 hG b1 b2.1 hcl b3 b4 b5 (fun k b hk => (b6 k b hk).1) hL j1.2.2.1 j1.2.1 j1.1 b8 b9 hm tgt_mem
    obtain ⟨J', w', k1, k2, k3, k4, k5, k6, k7, k8⟩ := r_keep (n := n) hy4 (by omega) a3 a4 a2 (fun k c hk => (a6 k c hk).1) g5 hg6 g1 (fun k c hk => (g3 k c hk).1) hF j1.2.1 a5
    have hm' : ∀ b, b ∈ lg' ↔ (b ∈ lg ∨ b ∈ sv) ∧ ¬ b ∈ gn := fun b => by rw [s4 b, ← tgt_mem (gn := gn), hmem]
    have hlw : lg'.length = w'.length := len_eq (nd_lt s3) k2.1 (fun c => by rw [hm' c, k3 c])
    have hlt : lg'.length = (tgt lg cv gn).length := len_eq (nd_lt s3) (tgt_nd hlnd b3) (fun c => by rw [hm' c, hmem c])
    have h43 : ∀ b, b < 640 → I' y 43 b = J' 0 68 (640 * y + b) := fun b hb => by rw [s5 b, k4 b hb, p6 b hb]
    refine ⟨I', J', lg', s1, k1, ⟨⟨s3, fun b hb => ((hm' b).mp hb).1.elim (j1.2.1 b) (a4 b), by omega, fun b hb => ?_⟩, by rw [k2.2.2, hlw], s2.1, s2.2, by rw [(s11 0 (by decide)).1]; exact j5, by rw [(s11 7 (by decide)).1, k8.1 0 71 (by omega)]; exact j6, by rw [(s11 5 (by decide)).1]; exact j7, j8, j9, by rw [k8.1 0 72 (by omega), k8.1 0 73 (by omega)]; exact j10, fun q => ?_⟩, hm', ⟨fun b hb => ⟨h43 b hb, ?_⟩, s6, fun b i hb hi hq => ?_, ?_⟩, k4, k7, s7, k5, k6, s8, s9, ⟨s12, s10, s11⟩, k8⟩
    · rw [k2.2.1 b hb]
      by_cases e : b ∈ lg'
      · rw [if_pos e, if_pos ((k3 b).mpr ((hm' b).mp e))]
      · rw [if_neg e, if_neg (fun q => e ((hm' b).mpr ((k3 b).mp q)))]
    · obtain ⟨c1, c2, c3, c4, c5, c6⟩ := j11 q
      refine ⟨c1, by rw [(s11 6 (by decide)).1]; exact c2, by rw [k8.1 0 73 (by omega)]; exact c3, by rw [s12 y 46 (by omega) (by omega)]; exact c4, ?_, by rw [(s11 8 (by decide)).1]; exact c6⟩
      unfold WR
      rw [k8.1 0 72 (by omega), k8.1 0 74 (by omega), k8.1 0 75 (by omega), s12 y 47 (by omega) (by omega), k8.1 0 71 (by omega)]
      exact c5
    · rw [k4 b hb]
      by_cases e : b ∈ gn
      · rw [if_pos e]; exact Or.inl rfl
      · rw [if_neg e]; exact a8 b hb
    · rw [k4 b hb] at hq
      by_cases e : b ∈ gn
      · rw [if_pos e] at hq; exact absurd hq (by decide)
      · rw [if_neg e] at hq
        have := p7 b i hb hi (fun q => e (hEg b q))
        unfold c_v t_v at this
        rw [if_pos (by rw [p6 b hb]; exact hq), if_pos hq] at this
        rw [s12 y 42 (by omega) (by omega), k8.1 0 67 (by omega), Nat.mul_comm 16 b]
        exact this
    · have := k4 0 (by decide)
      rw [Nat.add_zero] at this
      rw [this, if_neg (fun q => by have := (hgD 0 q).1; omega)]
      rcases a8 0 (by decide) with q | q
      · exact q
      · exfalso
        rcases (hTI.2.2.2.2.2.2.2.2.1 0).mp ⟨by decide, q⟩ with q1 | q1
        · obtain ⟨r, r1, -⟩ := hTI.2.2.2.2.2.2.2.1 0 q1
          exact absurd (of_pos r1) (by decide)
        · rcases hTI.2.2.2.2.1 0 q1 with q2 | q2 | ⟨r, r1, -⟩
          · exact absurd (hgD 0 q2).1 (by decide)
          · exact q2
          · exact absurd (of_pos r1) (by decide)
end COMMIT
