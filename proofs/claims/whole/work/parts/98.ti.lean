section TI
variable {Hd : Nat → Int} {s0 s s' V V' : wS} {sv gn gn' pd pd' hs Bh : Nat → Prop}
theorem ti_init (h : x_wf s (fun _ => False)) (h2 : ∀ b r, w_of s b r → 0 < Hd r → ∀ i, i < 16 → V b i = s b i) (h3 : ∀ b, hs b → ∃ r, w_of s b r ∧ 0 < Hd r ∧ t_in s hs b r) : TI Hd s s V (fun _ => False) (fun _ => False) (fun _ => False) hs hs :=
  ⟨h, h2, fun _ _ _ => rfl, fun _ h => h.elim, fun _ h => h.elim, fun _ _ _ h => Or.inr h, fun _ h => h.elim, h3, fun b => ⟨Or.inl, fun h => h.elim id False.elim⟩, fun _ _ _ h => Or.inl h, fun _ h => h.elim, fun _ h => h.elim, h⟩
/-- a place that is empty was empty -/
theorem ti_pl0 {k p : Nat} (h : TI Hd s0 s V sv gn pd hs Bh) (hg : ∀ c, ¬ gn c) (hk : k < 128) (hp : p < 25) (h0 : w_pl s k p = nI 0) : w_pl s0 k p = nI 0 := by
  obtain ⟨a1, a2, a3, a4, a5, a6, a7, a8, a9, a10, a11, a12, a13⟩ := h
  rcases a13.1.1 k p hk hp with h | ⟨b, h1, h2⟩
  · exact h
  · rcases a6 k p b ⟨hk, hp, h2, h1⟩ with h | h
    · exact absurd h (hg b)
    · exact absurd (h.2.2.2.symm.trans h0) (w_D0 h2)
/-- a block whose bit isn't set is nobody's -/
theorem ti_free {b : Nat} (h : TI Hd s0 s V sv gn pd hs Bh) (hb : w_D b) (hbit : w_bit s b = false) (hg : ¬ gn b) : (∀ k p, ¬ w_own s k p b) ∧ (∀ k p, ¬ w_own s0 k p b) ∧ ¬ pd b ∧ ¬ sv b ∧ ¬ hs b ∧ ¬ Bh b := by
  obtain ⟨a1, a2, a3, a4, a5, a6, a7, a8, a9, a10, a11, a12, a13⟩ := h
  have n1 : ∀ k p, ¬ w_own s k p b := fun k p ho => by
    rcases a1.1.2.2.1 k p b ho with h | h
    · rw [hbit] at h; cases h
    · exact hg h
  have n2 : ∀ k p, ¬ w_own s0 k p b := fun k p ho => (a6 k p b ho).elim hg (n1 k p)
  have n3 : ¬ pd b := fun h => by
    have := (a12 b h).2.2.1
    rw [hbit] at this; cases this
  have n4 : ¬ sv b := fun h => by
    rcases a5 b h with h | h | ⟨r, h, -⟩
    · exact hg h
    · exact n3 h
    · obtain ⟨p, hp⟩ := of_D h hb
      exact n1 r p hp
  have n5 : ¬ Bh b := fun h => by
    obtain ⟨r, h, -⟩ := a8 b h
    obtain ⟨p, hp⟩ := of_D h hb
    exact n2 r p hp
  exact ⟨n1, n2, n3, n4, fun h => ((a9 b).mp h).elim n5 n4, n5⟩
theorem own_of_pl (h : ∀ k p, k < 128 → w_pl s' k p = w_pl s k p) (k p b : Nat) : w_own s' k p b ↔ w_own s k p b := by
  unfold w_own
  constructor
  · rintro ⟨q1, q2, q3, q4⟩
    exact ⟨q1, q2, q3, by rw [← h k p q1]; exact q4⟩
  · rintro ⟨q1, q2, q3, q4⟩
    exact ⟨q1, q2, q3, by rw [h k p q1]; exact q4⟩
/-- a block that is taken is cleared -/
theorem ti_clr {b : Nat} (h : TI Hd s0 s V sv gn pd hs Bh) (hb : w_D b) (hbit : w_bit s b = true) (n1 : ∀ k p, ¬ w_own s k p b) (n2 : ∀ k p, ¬ w_own s0 k p b) : TI Hd s0 (w_cl s b) (w_cl V b) (fun c => sv c ∨ c = b) gn (fun c => pd c ∨ c = b) (fun c => hs c ∨ c = b) Bh := by
  obtain ⟨a1, a2, a3, a4, a5, a6, a7, a8, a9, a10, a11, a12, a13⟩ := h
  have hne : ∀ c i, ¬ c = b → w_cl s b c i = s c i := fun c i h => if_neg h
  have hneV : ∀ c i, ¬ c = b → w_cl V b c i = V c i := fun c i h => if_neg h
  have hib : ∀ k, k < 128 → ¬ w_ib k = b := fun k hk e => w_ib_D hk (e ▸ hb)
  have ho := own_of_pl (s := s) (s' := w_cl s b) (fun k p hk => w_pl_cg (fun i => hne _ i (hib k hk)) (fun i h0 => by
    obtain ⟨x, x1, x2, x3⟩ := w_ix a1.1.1 hk h0
    rw [x1, nI_clamp (w_Dlt x2)]
    exact hne _ _ (fun e => n1 k 24 (e ▸ x3))))
  have hof : ∀ c r, w_of (w_cl s b) c r → w_of s c r := fun c r h => of_mono h (fun p hp => (ho r p c).mp hp)
  have hofb : ∀ r, ¬ w_of s b r := fun r h => by
    obtain ⟨p, hp⟩ := of_D h hb
    exact n1 r p hp
  have hin : ∀ c r, t_in s hs c r → t_in (w_cl s b) (fun c => hs c ∨ c = b) c r := fun c r hi p hp => by
    have hp2 := (ho r p c).mp hp
    rw [hne _ _ (hib r hp2.1)]
    exact ⟨Or.inl (hi p hp2).1, fun q1 q2 => Or.inl ((hi p hp2).2 q1 q2)⟩
  refine ⟨x_clrD a1 hb n1, fun c r h hr i hi => ?_, fun c hc i => ?_, fun c hc => ?_, fun c hc => ?_, fun k p c h => ?_, a7, a8, fun c => ?_, fun k p c h => ?_, fun c hc hB => ?_, fun c hc => ?_, a13⟩
  · have e : ¬ c = b := fun e => hofb r (e ▸ hof c r h)
    rw [hne _ _ e, hneV _ _ e]
    exact a2 c r (hof c r h) hr i hi
  · rw [hne _ _ (fun e => hc (Or.inr e))]
    exact a3 c (fun h => hc (Or.inl h)) i
  · rcases hc with hc | rfl
    · exact a4 c hc
    · exact Or.inr (fun r h => by
        obtain ⟨p, hp⟩ := of_D h hb
        exact n2 r p hp)
  · rcases hc with hc | hc
    · rcases a5 c hc with h | h | ⟨r, h1, h2, h3⟩
      · exact Or.inl h
      · exact Or.inr (Or.inl (Or.inl h))
      · exact Or.inr (Or.inr ⟨r, of_mono h1 (fun p hp => (ho r p c).mpr hp), h2, hin c r h3⟩)
    · exact Or.inr (Or.inl (Or.inr hc))
  · exact (a6 k p c h).imp id (ho k p c).mpr
  · show (hs c ∨ c = b) ↔ (Bh c ∨ (sv c ∨ c = b))
    rw [a9 c]
    constructor
    · rintro ((h | h) | h)
      · exact Or.inl h
      · exact Or.inr (Or.inl h)
      · exact Or.inr (Or.inr h)
    · rintro (h | h | h)
      · exact Or.inl (Or.inl h)
      · exact Or.inl (Or.inr h)
      · exact Or.inr h
  · exact (a10 k p c ((ho k p c).mp h)).imp id (fun h => ⟨Or.inl h.1, h.2⟩)
  · rcases hc with hc | rfl
    · exact a11 c hc hB
    · exact Or.inl ⟨hb, n2⟩
  · have hbc : ∀ d, w_bit (w_cl s b) d = w_bit s d := fun d => by
      unfold w_bit
      rw [hne _ _ (fun e => w_mp_D _ (e ▸ hb))]
    by_cases e : c = b
    · subst e
      exact ⟨hb, fun k p h => n1 k p ((ho k p c).mp h), by rw [hbc]; exact hbit, Or.inr rfl, fun i _ => ⟨if_pos rfl, if_pos rfl⟩⟩
    · obtain ⟨p1, p2, p3, p4, p5⟩ := a12 c (hc.resolve_right e)
      refine ⟨p1, fun k p h => p2 k p ((ho k p c).mp h), by rw [hbc]; exact p3, Or.inl p4, fun i hi => ?_⟩
      rw [hne _ _ e, hneV _ _ e]
      exact p5 i hi
/-- a new inode: its block is cleared -/
theorem ti_new {t : Nat} (h : TI Hd s0 s V sv gn pd hs Bh) (ht : t < 128) (hH : Hd t = 2) (h0 : ∀ i, i < 16 → s (w_ib t) i = nI 0) : TI Hd s0 s (w_cl V (w_ib t)) (fun c => sv c ∨ c = w_ib t) gn pd (fun c => hs c ∨ c = w_ib t) Bh := by
  obtain ⟨a1, a2, a3, a4, a5, a6, a7, a8, a9, a10, a11, a12, a13⟩ := h
  have hneV : ∀ c i, ¬ c = w_ib t → w_cl V (w_ib t) c i = V c i := fun c i h => if_neg h
  have hin : ∀ c r, t_in s hs c r → t_in s (fun c => hs c ∨ c = w_ib t) c r := fun c r hi p hp => ⟨Or.inl (hi p hp).1, fun q1 q2 => Or.inl ((hi p hp).2 q1 q2)⟩
  refine ⟨a1, fun c r h hr i hi => ?_, fun c hc i => a3 c (fun h => hc (Or.inl h)) i, fun c hc => ?_, fun c hc => ?_, a6, a7, a8, fun c => ?_, fun k p c h => (a10 k p c h).imp id (fun h => ⟨Or.inl h.1, h.2⟩), fun c hc hB => ?_, fun c hc => ?_, a13⟩
  · by_cases e : c = w_ib t
    · subst e
      rw [h0 i hi]
      exact if_pos rfl
    · rw [hneV _ _ e]
      exact a2 c r h hr i hi
  · rcases hc with hc | rfl
    · exact a4 c hc
    · exact Or.inl ⟨t, of_ib ht, hH⟩
  · rcases hc with hc | rfl
    · rcases a5 c hc with h | h | ⟨r, h1, h2, h3⟩
      · exact Or.inl h
      · exact Or.inr (Or.inl h)
      · exact Or.inr (Or.inr ⟨r, h1, h2, hin c r h3⟩)
    · exact Or.inr (Or.inr ⟨t, of_ib ht, hH, t_in_ib ht⟩)
  · show (hs c ∨ c = w_ib t) ↔ (Bh c ∨ (sv c ∨ c = w_ib t))
    rw [a9 c]
    constructor
    · rintro ((h | h) | h)
      · exact Or.inl h
      · exact Or.inr (Or.inl h)
      · exact Or.inr (Or.inr h)
    · rintro (h | h | h)
      · exact Or.inl (Or.inl h)
      · exact Or.inl (Or.inr h)
      · exact Or.inr h
  · by_cases hs2 : sv c
    · exact a11 c hs2 hB
    · have e := hc.resolve_left hs2
      subst e
      exact Or.inr ⟨t, ht, rfl, fun i hi => by rw [← a3 _ hs2 i]; exact h0 i hi⟩
  · obtain ⟨p1, p2, p3, p4, p5⟩ := a12 c hc
    refine ⟨p1, p2, p3, Or.inl p4, fun i hi => ?_⟩
    rw [hneV _ _ (fun e => w_ib_D ht (e ▸ p1))]
    exact p5 i hi
/-- a block that was taken gets its place -/
theorem ti_add {k p b c i : Nat} (h : TI Hd s0 s V sv gn pd hs Bh) (hg : ∀ c, ¬ gn c) (hk : k < 128) (hp : p < 25) (hH : Hd k = 2) (hpd : pd b) (h1 : x_wf (w_up s c i (nI b)) gn) (hpl0 : w_pl s k p = nI 0)
    (hpl : ∀ k' p', k' < 128 → p' < 25 → w_pl (w_up s c i (nI b)) k' p' = if k' = k ∧ p' = p then nI b else w_pl s k' p')
    (h6 : w_of s c k) (h6' : t_in s hs c k) (h7 : hs c) (hib : hs (w_ib k)) (hix : 8 ≤ p → p < 24 → hs (s (w_ib k) 11).toNatClampNeg) (hc : c = w_ib k ∨ w_D c) (h11 : c = w_ib k → i = 11 → p = 24 ∧ s (w_ib k) 11 = nI 0) : TI Hd s0 (w_up s c i (nI b)) (w_up V c i (nI b)) (fun d => sv d ∨ d = c) gn (fun d => pd d ∧ ¬ d = b) hs Bh := by
  obtain ⟨b1, b2, b3, b4, b5⟩ := ti_pd h b hpd
  have p00 := ti_pl0 h hg hk hp hpl0
  have ho : ∀ k' p' d, w_own (w_up s c i (nI b)) k' p' d → w_own s k' p' d ∨ (k' = k ∧ p' = p ∧ d = b) := fun k' p' d q => by
    obtain ⟨q1, q2, q3, q4⟩ := q
    rw [hpl k' p' q1 q2] at q4
    by_cases e : k' = k ∧ p' = p
    · rw [if_pos e] at q4
      exact Or.inr ⟨e.1, e.2, (w_nI (w_Dlt b1) (w_Dlt q3) q4).symm⟩
    · rw [if_neg e] at q4
      exact Or.inl ⟨q1, q2, q3, q4⟩
  have ho' : ∀ k' p' d, w_own s k' p' d → w_own (w_up s c i (nI b)) k' p' d := fun k' p' d q => by
    obtain ⟨q1, q2, q3, q4⟩ := q
    refine ⟨q1, q2, q3, ?_⟩
    rw [hpl k' p' q1 q2, if_neg (fun e => ?_)]
    · exact q4
    · rw [e.1, e.2, hpl0] at q4
      exact w_D0 q3 q4.symm
  have hob : w_own (w_up s c i (nI b)) k p b := ⟨hk, hp, b1, by rw [hpl k p hk hp, if_pos ⟨rfl, rfl⟩]⟩
  have e11 : ∀ k', k' < 128 → ¬ (c = w_ib k ∧ i = 11 ∧ k' = k) → w_up s c i (nI b) (w_ib k') 11 = s (w_ib k') 11 := fun k' hk' hn => by
    refine if_neg (fun e => ?_)
    rcases hc with hc | hc
    · exact hn ⟨hc, e.2.symm, w_ib_inj hk' hk (e.1.trans hc)⟩
    · exact w_ib_D hk' (e.1 ▸ hc)
  have cb : ¬ c = b := fun e => by
    rcases h6 with h | ⟨q, h⟩ | ⟨g, -, -, h⟩
    · exact w_ib_D h.1 (h.2 ▸ e ▸ b1)
    · exact b2 k q (e ▸ h)
    · exact w_mp_D g (h ▸ e ▸ b1)
  have hbits : ∀ d, w_bit (w_up s c i (nI b)) d = w_bit s d := fun d => by
    refine w_bit_up (fun ⟨g, e⟩ => ?_)
    rcases hc with hc | hc
    · exact w_ib_mp hk (hc ▸ e)
    · exact w_mp_D g (e ▸ hc)
  refine ti_step (C := fun d => d = c) h h1 (fun d hd j => w_up_b s i j _ hd) (fun k' p' d q => ?_) (fun k' p' d q => Or.inr (ho' k' p' d q)) (fun d hd => hd) (fun d hd => Or.inl hd) (fun c' e => ?_) (fun c' e => e ▸ h7) (fun k' p' d q q1 q2 q3 => ?_) (fun d hd => hd.1) (fun d hd => ?_) (fun d hd => by rw [hbits]; exact (ti_pd h d hd).2.2.1) (fun d hd k' p' q => ?_) (fun d hd j => w_up_b V i j _ hd) (fun c' e j hj => ?_)
  · rcases ho k' p' d q with q | ⟨rfl, rfl, rfl⟩
    · exact Or.inl q
    · refine Or.inr ⟨hpd, fun h => h.2 rfl, p00, hH, hib, fun q1 q2 => ?_⟩
      rw [e11 k' hk (fun e => by have := (h11 e.1 e.2.1).1; omega)]
      exact hix q1 q2
  · subst e
    refine ⟨k, h6, of_mono h6 (fun q hq => ho' k q c' hq), hH, fun q hq => ?_⟩
    rcases ho k q c' hq with hq | ⟨-, -, e⟩
    · refine ⟨(h6' q hq).1, fun q1 q2 => ?_⟩
      rw [e11 k hk (fun e => w_ib_D hk (e.1 ▸ hq.2.2.1))]
      exact (h6' q hq).2 q1 q2
    · exact absurd e cb
  · by_cases e : c = w_ib k ∧ i = 11 ∧ k' = k
    · obtain ⟨e1, e2, rfl⟩ := e
      have h0 := q3.2.2.2
      unfold w_pl at h0
      rw [if_neg (by omega), if_neg (by omega), if_pos (h11 e1 e2).2] at h0
      exact absurd h0.symm (w_D0 q3.2.2.1)
    · exact e11 k' q.1 e
  · by_cases e : d = b
    · subst e
      exact Or.inr ⟨k, p, hob⟩
    · exact Or.inl ⟨hd, e⟩
  · rcases ho k' p' d q with q | ⟨-, -, e⟩
    · exact (ti_pd h d hd.1).2.1 k' p' q
    · exact hd.2 e
  · subst e
    by_cases e : j = i
    · subst e
      rw [w_up_at, w_up_at]
    · rw [w_up_i V c' _ e, w_up_i s c' _ e]
      exact h.2.1 c' k h6 (by omega) j hj
end TI
