theorem w_ib_lt {k : Nat} (h : k < 128) : w_ib k < 640 := by unfold w_ib; omega
theorem w_mp_lt {g : Nat} (h : g < 8) : w_mp g < 640 := by unfold w_mp; omega
theorem w_D_lt {b : Nat} (h : w_D b) : b < 640 := h.2.1
theorem of_lt {s : wS} {b r : Nat} (h : w_of s b r) : b < 640 := by
  rcases h with ⟨h1, rfl⟩ | ⟨p, h1⟩ | ⟨g, h1, -, rfl⟩
  · exact w_ib_lt h1
  · exact w_D_lt h1.2.2.1
  · exact w_mp_lt h1
theorem ti_cg {Hd : Nat → Int} {s0 s V V' : wS} {sv gn pd hs Bh sv' gn' hs' Bh' : Nat → Prop} (h : TI Hd s0 s V sv gn pd hs Bh) (hV : ∀ b i, b < 640 → i < 16 → V' b i = V b i) (h1 : ∀ b, sv' b ↔ sv b) (h2 : ∀ b, gn' b ↔ gn b) (h3 : ∀ b, hs' b ↔ hs b) (h4 : ∀ b, Bh' b ↔ Bh b) : TI Hd s0 s V' sv' gn' pd hs' Bh' := by
  obtain rfl : sv' = sv := funext fun b => propext (h1 b)
  obtain rfl : gn' = gn := funext fun b => propext (h2 b)
  obtain rfl : hs' = hs := funext fun b => propext (h3 b)
  obtain rfl : Bh' = Bh := funext fun b => propext (h4 b)
  obtain ⟨a1, a2, a3, a4, a5, a6, a7, a8, a9, a10, a11, a12, a13⟩ := h
  refine ⟨a1, fun b r ho hr i hi => ?_, a3, a4, a5, a6, a7, a8, a9, a10, a11, fun b hb => ?_, a13⟩
  · rw [hV b i (of_lt ho) hi]
    exact a2 b r ho hr i hi
  · obtain ⟨p1, p2, p3, p4, p5⟩ := a12 b hb
    refine ⟨p1, p2, p3, p4, fun i hi => ?_⟩
    rw [hV b i (w_D_lt p1) hi]
    exact p5 i hi
theorem pigeon : ∀ (l m : List Nat), l.Nodup → (∀ a, a ∈ l → a ∈ m) → l.length ≤ m.length
  | [], _, _, _ => Nat.zero_le _
  | a :: l, m, hn, h => by
    have hm : a ∈ m := h a (List.mem_cons_self)
    have hn2 := List.nodup_cons.mp hn
    have := pigeon l (m.erase a) hn2.2 (fun c hc => by
      refine (List.mem_erase_of_ne ?_).mpr (h c (List.mem_cons_of_mem _ hc))
      intro e
      exact hn2.1 (e ▸ hc))
    rw [List.length_erase_of_mem hm] at this
    have := List.length_pos_of_mem hm
    rw [List.length_cons]
    omega
def w_mps : List Nat := [128, 192, 256, 320, 384, 448, 512, 576]
theorem w_mps_mem {g : Nat} (h : g < 8) : w_mp g ∈ w_mps := by
  unfold w_mp w_mps
  have : g = 0 ∨ g = 1 ∨ g = 2 ∨ g = 3 ∨ g = 4 ∨ g = 5 ∨ g = 6 ∨ g = 7 := by omega
  rcases this with rfl | rfl | rfl | rfl | rfl | rfl | rfl | rfl <;> decide
/-- a block is in the node's cache -/
def tH (y : Nat) (J : am_I) (b : Nat) : Prop := b < 640 ∧ J 0 68 (640 * y + b) = nI 1
/-- what doesn't change while a node tries -/
def TC (n y : Nat) (Hd : Nat → Int) (I0 J0 : am_I) : Prop := y < n ∧ n ≤ 4 ∧ ∀ r, r < 136 → I0 y 49 r = J0 0 76 (136 * y + r) ∧ I0 y 52 r = J0 0 79 (136 * y + r) ∧ (J0 0 76 (136 * y + r)).toInt = Hd r ∧ (J0 0 79 (136 * y + r) = nI 0 ∨ J0 0 79 (136 * y + r) = nI 1)
/-- what an undone try leaves: as it was, and what was read -/
def BI (y : Nat) (J0 : am_I) (B : wS) : Prop := ∀ b, b < 640 → (J0 0 68 (640 * y + b) = nI 1 → B b 16 = nI 1 ∧ ∀ i, i < 16 → B b i = J0 0 67 (16 * (640 * y + b) + i)) ∧ (¬ J0 0 68 (640 * y + b) = nI 1 → B b 16 = nI 1 → ∀ i, i < 16 → B b i = J0 0 64 (16 * b + i)) ∧ (B b 16 = nI 0 ∨ B b 16 = nI 1)
theorem bi_bm {y b : Nat} {J0 J : am_I} {B : wS} {sv : List Nat} (h : BI y J0 B) (hp : pr_ref y B sv J) (hsv : ∀ b, b ∈ sv → J 0 68 (640 * y + b) = nI 1) (hf : fJ y J0 J) (hb : b < 640) : BI y J0 (Bm (J 0 68 (640 * y + b)) (J 0 64) B b) := by
  unfold Bm
  by_cases h1 : J 0 68 (640 * y + b) = nI 1
  · rw [if_pos h1]; exact h
  · rw [if_neg h1]
    intro c hc
    by_cases e : c = b
    · subst e
      have hns : c ∉ sv := fun q => h1 (hsv c q)
      have hB := (hp.2.2.2.2.2.2.1 c hc hns).1
      refine ⟨fun q => absurd (hB.trans ((h c hc).1 q).1) h1, fun _ _ i hi => ?_, Or.inr ?_⟩
      · unfold Bf
        rw [if_pos rfl, if_neg (by omega), hf.1 0 64 (by omega)]
      · unfold Bf
        rw [if_pos rfl, if_pos rfl]
    · have e2 : ∀ i, Bf (J 0 64) B b c i = B c i := fun i => if_neg e
      refine ⟨fun q => ⟨by rw [e2]; exact ((h c hc).1 q).1, fun i hi => by rw [e2]; exact ((h c hc).1 q).2 i hi⟩, fun q q2 i hi => ?_, by rw [e2]; exact (h c hc).2.2⟩
      rw [e2] at q2 ⊢
      exact (h c hc).2.1 q q2 i hi
/-- BOTH SIDES OF A TRY, and the stores at each choice of levels -/
def TR (y : Nat) (Hd : Nat → Int) (F0 : (Nat → Nat) → wS) (I0 J0 : am_I) (X : List Nat) (E : Nat → Prop) (F : (Nat → Nat) → wS) (gn : List Nat) (gp pd : Nat → Prop) (I J : am_I) : Prop :=
  ∃ (B : wS) (sv cv : List Nat), pr_ref y B sv J ∧ pr_cls y B cv I ∧ (∀ b, b ∈ sv → J 0 68 (640 * y + b) = nI 1) ∧ (∀ b, b ∈ cv → I y 43 b = nI 1)
  ∧ (∀ k, k < 10240 → I 0 1 k = J 0 64 k) ∧ (∀ b, b < 640 → I y 43 b = J 0 68 (640 * y + b)) ∧ (∀ b i, b < 640 → i < 16 → ¬ E b → c_v y I b i = t_v y J b i)
  ∧ (∀ b, b ∈ sv → b ∈ cv) ∧ (∀ b, b ∈ cv → b ∈ sv ∨ E b) ∧ (∀ b, b ∈ cv → b ∈ X ∨ ∃ g, g < 8 ∧ b = w_mp g)
  ∧ (J 0 60 61 = nI gn.length ∧ I 0 15 7 = nI gn.length ∧ (∀ k b, gn[k]? = some b → J 0 123 k = nI b ∧ I 0 20 k = nI b) ∧ gn.Nodup ∧ gn.length ≤ 32)
  ∧ fI y I0 I ∧ fJ y J0 J
  ∧ (∀ L, L y = 2 → TI Hd (F0 L) (F L) (t_v y J) (fun b => b ∈ sv) gp pd (tH y J) (fun b => b < 640 ∧ B b 16 = nI 1))
  ∧ BI y J0 B
theorem tr_len {X cv : List Nat} (h : cv.Nodup) (hX : ∀ b, b ∈ cv → b ∈ X ∨ ∃ g, g < 8 ∧ b = w_mp g) : cv.length ≤ X.length + 8 := by
  have := pigeon cv (X ++ w_mps) h (fun a ha => by
    rw [List.mem_append]
    rcases hX a ha with h | ⟨g, hg, rfl⟩
    · exact Or.inl h
    · exact Or.inr (w_mps_mem hg))
  rw [List.length_append] at this
  exact this
/-- a block may be read -/
def rdc (y : Nat) (Hd : Nat → Int) (F : (Nat → Nat) → wS) (J : am_I) (b : Nat) : Prop :=
  tH y J b ∨ (∃ k, k < 128 ∧ b = w_ib k ∧ 0 < Hd k) ∨ (∃ g, g < 8 ∧ b = w_mp g ∧ 0 < Hd (128 + g)) ∨ ∃ k p, 0 < Hd k ∧ tH y J (w_ib k) ∧ ∀ L, L y = 2 → w_own (F L) k p b ∧ (8 ≤ p → p < 24 → tH y J (F L (w_ib k) 11).toNatClampNeg)
theorem tr_bm {y b : Nat} {D : Nat → Int32} {J : am_I} {B : wS} (hb : b < 640) (h01 : ∀ c, c < 640 → J 0 68 (640 * y + c) = nI 0 ∨ J 0 68 (640 * y + c) = nI 1) (hB : J 0 68 (640 * y + b) = nI 1 → True) (c : Nat) : (c < 640 ∧ Bm (J 0 68 (640 * y + b)) D B b c 16 = nI 1) ↔ ((c < 640 ∧ B c 16 = nI 1) ∨ (c = b ∧ ¬ J 0 68 (640 * y + b) = nI 1)) := by
  unfold Bm
  by_cases h : J 0 68 (640 * y + b) = nI 1
  · rw [if_pos h]
    exact ⟨Or.inl, fun q => q.elim id (fun q => absurd h q.2)⟩
  · rw [if_neg h]
    unfold Bf
    by_cases e : c = b
    · subst e
      rw [if_pos rfl, if_pos rfl]
      exact ⟨fun _ => Or.inr ⟨rfl, h⟩, fun _ => ⟨hb, rfl⟩⟩
    · rw [if_neg e]
      exact ⟨Or.inl, fun q => q.elim id (fun q => absurd q.1 e)⟩
/-- the store's side of reading a block -/
theorem tr_tird {y b : Nat} {Hd : Nat → Int} {F0 F : (Nat → Nat) → wS} {J : am_I} {B : wS} {sv : List Nat} {gp pd : Nat → Prop} (hb : b < 640) (h : pr_ref y B sv J) (hsv : ∀ b, b ∈ sv → J 0 68 (640 * y + b) = nI 1) (hr : rdc y Hd F J b) {L : Nat → Nat} (hL : L y = 2) (hT : TI Hd (F0 L) (F L) (t_v y J) (fun b => b ∈ sv) gp pd (tH y J) (fun b => b < 640 ∧ B b 16 = nI 1)) : TI Hd (F0 L) (F L) (t_v y J) (fun b => b ∈ sv) gp pd (fun c => tH y J c ∨ c = b) (fun c => c < 640 ∧ Bm (J 0 68 (640 * y + b)) (J 0 64) B b c 16 = nI 1) := by
  have hBm := tr_bm (y := y) (D := J 0 64) (J := J) (B := B) hb h.2.2.2.2.2.2.2 (fun _ => trivial)
  by_cases h1 : J 0 68 (640 * y + b) = nI 1
  · refine ti_cg hT (fun _ _ _ _ => rfl) (fun _ => Iff.rfl) (fun _ => Iff.rfl) (fun c => ⟨fun q => q.elim id (fun e => e ▸ ⟨hb, h1⟩), Or.inl⟩) (fun c => ?_)
    rw [hBm c]
    exact ⟨fun q => q.elim id (fun q => absurd h1 q.2), Or.inl⟩
  · have hns : ¬ b ∈ sv := fun hm => h1 (hsv b hm)
    have hx : ∃ r, w_of (F0 L) b r ∧ 0 < Hd r ∧ t_in (F0 L) (fun b => b < 640 ∧ B b 16 = nI 1) b r := by
      rcases hr with h2 | ⟨k, hk, rfl, hH⟩ | ⟨g, hg, rfl, hH⟩ | ⟨k, p, hH, hk, ho⟩
      · exact absurd h2.2 h1
      · exact ⟨k, of_ib hk, hH, t_in_ib hk⟩
      · exact ⟨128 + g, of_mp hg, hH, t_in_mp⟩
      · obtain ⟨o1, o2⟩ := ho L hL
        obtain ⟨q1, q2⟩ := ti_rdo hT o1 hH hk o2 hns
        exact ⟨k, q1, hH, q2⟩
    obtain ⟨r, x1, x2, x3⟩ := hx
    refine ti_cg (ti_rd hT x1 x2 x3) (fun _ _ _ _ => rfl) (fun _ => Iff.rfl) (fun _ => Iff.rfl) (fun c => Iff.rfl) (fun c => ?_)
    rw [hBm c]
    exact ⟨fun q => q.imp id (fun q => q.1), fun q => q.imp id (fun q => ⟨q, h1⟩)⟩
section TR
variable {n y : Nat} {Hd : Nat → Int} {F0 F F' : (Nat → Nat) → wS} {I0 J0 I J : am_I} {X : List Nat} {E : Nat → Prop} {gn : List Nat} {gp gp' pd pd' : Nat → Prop}
theorem tr_rd {b i : Nat} (hC : TC n y Hd I0 J0) (h : TR y Hd F0 I0 J0 X E F gn gp pd I J) (hb : b < 640) (hi : i < 16) (hE : ¬ E b) (hr : rdc y Hd F J b) : ∃ I' J', gX9_read n (nI b) (nI i) I = some (t_v y J b i, I') ∧ gX11_get n (nI b) (nI i) J = some (t_v y J b i, J') ∧ TR y Hd F0 I0 J0 X E F gn gp pd I' J' ∧ (∀ c j, c < 640 → j < 16 → t_v y J' c j = t_v y J c j) ∧ (∀ c, tH y J' c ↔ tH y J c ∨ c = b) ∧ I' 0 15 = I 0 15 ∧ J' 0 60 = J 0 60 := by
  obtain ⟨B, sv, cv, p1, p2, p3, p4, p5, p6, p7, p8, p9, p10, p11, p12, p13, p14, p15⟩ := h
  obtain ⟨J', e1, e2, e3, e4, e5⟩ := r_get (n := n) (by have := hC.1; have := hC.2.1; omega) hb hi p1 p3
  obtain ⟨I', f1, f2, f3, f4, f5⟩ := c_read (n := n) (D := J 0 64) (by have := hC.1; have := hC.2.1; omega) hC.1 hb hi p2 p4 p5
  rw [p7 b i hb hi hE] at f1
  rw [p6 b hb] at f2
  have ht : ∀ c, tH y J' c ↔ tH y J c ∨ c = b := fun c => by
    unfold tH
    constructor
    · rintro ⟨q1, q2⟩
      rw [e4 c q1] at q2
      by_cases e : c = b
      · exact Or.inr e
      · rw [if_neg e] at q2
        exact Or.inl ⟨q1, q2⟩
    · rintro (⟨q1, q2⟩ | rfl)
      · refine ⟨q1, ?_⟩
        rw [e4 c q1]
        split
        · rfl
        · exact q2
      · exact ⟨hb, by rw [e4 c hb, if_pos rfl]⟩
  refine ⟨I', J', f1, e1, ⟨_, sv, cv, e2, f2, fun c hc => ?_, fun c hc => ?_, fun k hk => ?_, fun c hc => ?_, fun c j hc hj hE' => ?_, p8, p9, p10, ?_, ?_, p13.tr (fJ_67 e5), fun L hL => ?_, bi_bm p15 p1 p3 p13 hb⟩, e3, ht, f5 0 15 (by omega), e5.1 0 60 (by decide)⟩
  · rw [e4 c (p1.2.2.2.1 c hc)]
    split
    · rfl
    · exact p3 c hc
  · rw [f4 c (p2.2.2.2.1 c hc)]
    split
    · rfl
    · exact p4 c hc
  · rw [f5 0 1 (by omega), e5.1 0 64 (by decide)]
    exact p5 k hk
  · rw [f4 c hc, e4 c hc, p6 c hc]
  · rw [f3 c j hc hj, e3 c j hc hj]
    exact p7 c j hc hj hE'
  · rw [e5.1 0 60 (by decide), e5.1 0 123 (by decide), f5 0 15 (by omega), f5 0 20 (by omega)]
    exact p11
  · exact p12.tr (fun i j q1 _ => f5 i j q1)
  · refine ti_cg (tr_tird hb p1 p3 hr hL (p14 L hL)) e3 (fun _ => Iff.rfl) (fun _ => Iff.rfl) ht (fun c => Iff.rfl)
theorem tr_set {b i : Nat} {v : Int32} (hC : TC n y Hd I0 J0) (h : TR y Hd F0 I0 J0 X E F gn gp pd I J) (hb : b < 640) (hi : i < 16) (hE : ¬ E b) (hr : rdc y Hd F J b) (hX : b ∈ X ∨ ∃ g, g < 8 ∧ b = w_mp g) (hX2 : X.length ≤ 20)
    (hT : ∀ (L : Nat → Nat) (sv hs Bh : Nat → Prop), L y = 2 → TI Hd (F0 L) (F L) (t_v y J) sv gp pd hs Bh → hs b → (∀ c, tH y J c → hs c) → TI Hd (F0 L) (F' L) (w_up (t_v y J) b i v) (fun c => sv c ∨ c = b) gp' pd' hs Bh) :
    ∃ I' J', gX9_set n (nI b) (nI i) v I = some I' ∧ gX11_set n (nI b) (nI i) v J = some J' ∧ TR y Hd F0 I0 J0 X E F' gn gp' pd' I' J' ∧ (∀ c j, c < 640 → j < 16 → t_v y J' c j = w_up (t_v y J) b i v c j) ∧ (∀ c, tH y J' c ↔ tH y J c ∨ c = b) ∧ (∀ k, ¬ k = 5 → I' 0 15 k = I 0 15 k) ∧ (∀ k, ¬ k = 56 → J' 0 60 k = J 0 60 k) := by
  obtain ⟨B, sv, cv, p1, p2, p3, p4, p5, p6, p7, p8, p9, p10, p11, p12, p13, p14, p15⟩ := h
  have hl := tr_len p2.2.2.1 p10
  have hl2 := pigeon sv cv p1.2.2.1 p8
  obtain ⟨J', e1, e2, e3, e4, e5, e6, e7⟩ := r_set (n := n) (v := v) (by have := hC.1; have := hC.2.1; omega) hb hi p1 p3 (by omega)
  obtain ⟨I', f1, f2, f3, f4, f5, f6, f7⟩ := c_set (n := n) (v := v) (D := J 0 64) (by have := hC.1; have := hC.2.1; omega) hC.1 hb hi p2 p4 p5 (Or.inr (by omega))
  rw [p6 b hb] at f2
  have ht : ∀ c, tH y J' c ↔ tH y J c ∨ c = b := fun c => by
    unfold tH
    constructor
    · rintro ⟨q1, q2⟩
      rw [e4 c q1] at q2
      by_cases e : c = b
      · exact Or.inr e
      · rw [if_neg e] at q2
        exact Or.inl ⟨q1, q2⟩
    · rintro (⟨q1, q2⟩ | rfl)
      · refine ⟨q1, ?_⟩
        rw [e4 c q1]
        split
        · rfl
        · exact q2
      · exact ⟨hb, by rw [e4 c hb, if_pos rfl]⟩
  refine ⟨I', J', f1, e1, ⟨_, svp sv b, svp cv b, e2, f2, fun c hc => ?_, fun c hc => ?_, fun k hk => ?_, fun c hc => ?_, fun c j hc hj hE' => ?_, fun c hc => ?_, fun c hc => ?_, fun c hc => ?_, ?_, p12.tr f5, p13.tr e5, fun L hL => ?_, bi_bm p15 p1 p3 p13 hb⟩, e3, ht, f6, e6⟩
  · rw [e4 c (e2.2.2.2.1 c hc)]
    split
    · rfl
    · exact p3 c ((svp_mem.mp hc).resolve_right (by assumption))
  · rw [f4 c (f2.2.2.2.1 c hc)]
    split
    · rfl
    · exact p4 c ((svp_mem.mp hc).resolve_right (by assumption))
  · rw [f5 0 1 (by omega) (by omega), e5.1 0 64 (by omega)]
    exact p5 k hk
  · rw [f4 c hc, e4 c hc, p6 c hc]
  · rw [f3 c j hc hj, e3 c j hc hj]
    unfold w_up
    rw [p7 c j hc hj hE']
  · exact svp_mem.mpr ((svp_mem.mp hc).imp (p8 c) id)
  · rcases svp_mem.mp hc with h | h
    · exact (p9 c h).imp (fun h => svp_mem.mpr (Or.inl h)) id
    · exact Or.inl (svp_mem.mpr (Or.inr h))
  · rcases svp_mem.mp hc with h | h
    · exact p10 c h
    · rw [h]; exact hX
  · rw [e6 61 (by decide), e7, f6 7 (by decide), f7]
    exact p11
  · exact ti_cg (hT L _ _ _ hL (tr_tird hb p1 p3 hr hL (p14 L hL)) (Or.inr rfl) (fun c hc => Or.inl hc)) e3 (fun c => svp_mem) (fun _ => Iff.rfl) ht (fun c => Iff.rfl)
theorem tr_clear {b : Nat} (hC : TC n y Hd I0 J0) (h : TR y Hd F0 I0 J0 X E F gn gp pd I J) (hb : b < 640) (hX : b ∈ X ∨ ∃ g, g < 8 ∧ b = w_mp g) (hX2 : X.length ≤ 20)
    (hT : ∀ (L : Nat → Nat) (sv hs Bh : Nat → Prop), L y = 2 → TI Hd (F0 L) (F L) (t_v y J) sv gp pd hs Bh → (∀ c, tH y J c ↔ hs c) → TI Hd (F0 L) (F' L) (w_cl (t_v y J) b) (fun c => sv c ∨ c = b) gp' pd' (fun c => hs c ∨ c = b) Bh) :
    ∃ I' J', gX9_clear n (nI b) I = some I' ∧ gX11_clear n (nI b) J = some J' ∧ TR y Hd F0 I0 J0 X E F' gn gp' pd' I' J' ∧ (∀ c j, c < 640 → j < 16 → t_v y J' c j = w_cl (t_v y J) b c j) ∧ (∀ c, tH y J' c ↔ tH y J c ∨ c = b) ∧ (∀ k, ¬ k = 5 → I' 0 15 k = I 0 15 k) ∧ (∀ k, ¬ k = 56 → J' 0 60 k = J 0 60 k) := by
  obtain ⟨B, sv, cv, p1, p2, p3, p4, p5, p6, p7, p8, p9, p10, p11, p12, p13, p14, p15⟩ := h
  have hl := tr_len p2.2.2.1 p10
  have hl2 := pigeon sv cv p1.2.2.1 p8
  obtain ⟨J', e1, e2, e3, e4, e5, e6, e7⟩ := r_clear (n := n) (by have := hC.1; have := hC.2.1; omega) hb p1 (by omega)
  obtain ⟨I', f1, f2, f3, f4, f5, f6, f7⟩ := c_clear (n := n) (by have := hC.1; have := hC.2.1; omega) hC.1 hb p2 (Or.inr (by omega))
  have ht : ∀ c, tH y J' c ↔ tH y J c ∨ c = b := fun c => by
    unfold tH
    constructor
    · rintro ⟨q1, q2⟩
      rw [e4 c q1] at q2
      by_cases e : c = b
      · exact Or.inr e
      · rw [if_neg e] at q2
        exact Or.inl ⟨q1, q2⟩
    · rintro (⟨q1, q2⟩ | rfl)
      · refine ⟨q1, ?_⟩
        rw [e4 c q1]
        split
        · rfl
        · exact q2
      · exact ⟨hb, by rw [e4 c hb, if_pos rfl]⟩
  refine ⟨I', J', f1, e1, ⟨_, svp sv b, svp cv b, e2, f2, fun c hc => ?_, fun c hc => ?_, fun k hk => ?_, fun c hc => ?_, fun c j hc hj hE' => ?_, fun c hc => ?_, fun c hc => ?_, fun c hc => ?_, ?_, p12.tr f5, p13.tr e5, fun L hL => ?_, p15⟩, e3, ht, f6, e6⟩
  · rw [e4 c (e2.2.2.2.1 c hc)]
    split
    · rfl
    · exact p3 c ((svp_mem.mp hc).resolve_right (by assumption))
  · rw [f4 c (f2.2.2.2.1 c hc)]
    split
    · rfl
    · exact p4 c ((svp_mem.mp hc).resolve_right (by assumption))
  · rw [f5 0 1 (by omega) (by omega), e5.1 0 64 (by omega)]
    exact p5 k hk
  · rw [f4 c hc, e4 c hc, p6 c hc]
  · rw [f3 c j hc hj, e3 c j hc hj]
    unfold w_cl
    rw [p7 c j hc hj hE']
  · exact svp_mem.mpr ((svp_mem.mp hc).imp (p8 c) id)
  · rcases svp_mem.mp hc with h | h
    · exact (p9 c h).imp (fun h => svp_mem.mpr (Or.inl h)) id
    · exact Or.inl (svp_mem.mpr (Or.inr h))
  · rcases svp_mem.mp hc with h | h
    · exact p10 c h
    · rw [h]; exact hX
  · rw [e6 61 (by decide), e7, f6 7 (by decide), f7]
    exact p11
  · exact ti_cg (hT L _ _ _ hL (p14 L hL) (fun c => Iff.rfl)) e3 (fun c => svp_mem) (fun _ => Iff.rfl) ht (fun c => Iff.rfl)
end TR
