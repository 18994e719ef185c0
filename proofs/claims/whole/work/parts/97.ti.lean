/-- a block is of a resource -/
def w_of (s : wS) (b r : Nat) : Prop := (r < 128 ∧ b = w_ib r) ∨ (∃ p, w_own s r p b) ∨ (∃ g, g < 8 ∧ r = 128 + g ∧ b = w_mp g)
theorem of_ib {s : wS} {k : Nat} (hk : k < 128) : w_of s (w_ib k) k := Or.inl ⟨hk, rfl⟩
theorem of_mp {s : wS} {g : Nat} (hg : g < 8) : w_of s (w_mp g) (128 + g) := Or.inr (Or.inr ⟨g, hg, rfl, rfl⟩)
theorem of_own {s : wS} {k p b : Nat} (h : w_own s k p b) : w_of s b k := Or.inr (Or.inl ⟨p, h⟩)
theorem of_D {s : wS} {b r : Nat} (h : w_of s b r) (hD : w_D b) : ∃ p, w_own s r p b := by
  rcases h with ⟨h1, rfl⟩ | h1 | ⟨g, h1, h2, rfl⟩
  · exact absurd hD (w_ib_D h1)
  · exact h1
  · exact absurd hD (w_mp_D g)
theorem of_eq {s : wS} {gone : Nat → Prop} {b r r' : Nat} (hw : x_wf s gone) (h : w_of s b r) (h' : w_of s b r') : r = r' := by
  rcases h with ⟨h1, rfl⟩ | ⟨p, h1⟩ | ⟨g, h1, rfl, rfl⟩
  · rcases h' with ⟨h2, h3⟩ | ⟨p', h2⟩ | ⟨g', h2, rfl, h3⟩
    · exact w_ib_inj h1 h2 h3
    · exact absurd h2.2.2.1 (w_ib_D h1)
    · exact absurd h3 (w_ib_mp h1)
  · rcases h' with ⟨h2, rfl⟩ | ⟨p', h2⟩ | ⟨g', h2, rfl, rfl⟩
    · exact absurd h1.2.2.1 (w_ib_D h2)
    · exact (hw.1.2.1 r p r' p' b h1 h2).1
    · exact absurd h1.2.2.1 (w_mp_D g')
  · rcases h' with ⟨h2, h3⟩ | ⟨p', h2⟩ | ⟨g', h2, rfl, h3⟩
    · exact absurd h3.symm (w_ib_mp h2)
    · exact absurd h2.2.2.1 (w_mp_D g)
    · rw [w_mp_inj h3]
theorem of_mono {s s' : wS} {b r : Nat} (h : w_of s b r) (ho : ∀ p, w_own s r p b → w_own s' r p b) : w_of s' b r :=
  h.imp id (Or.imp (fun ⟨p, hp⟩ => ⟨p, ho p hp⟩) id)
def t_c (Hd : Nat → Int) (s0 : wS) (b : Nat) : Prop := (∃ r, w_of s0 b r ∧ Hd r = 2) ∨ ∀ r, ¬ w_of s0 b r
def t_in (s : wS) (hs : Nat → Prop) (b r : Nat) : Prop := ∀ p, w_own s r p b → hs (w_ib r) ∧ (8 ≤ p → p < 24 → hs (s (w_ib r) 11).toNatClampNeg)
/-- A TRY ON A STORE: s0 as it was, s as it is, V what the node sees; sv changed, gn given back, pd taken and not yet placed, hs cached, Bh cached when undone -/
def TI (Hd : Nat → Int) (s0 s V : wS) (sv gn pd hs Bh : Nat → Prop) : Prop :=
  x_wf s gn
  ∧ (∀ b r, w_of s b r → 0 < Hd r → ∀ i, i < 16 → V b i = s b i)
  ∧ (∀ b, ¬ sv b → ∀ i, s b i = s0 b i)
  ∧ (∀ b, sv b → t_c Hd s0 b)
  ∧ (∀ b, sv b → gn b ∨ pd b ∨ ∃ r, w_of s b r ∧ Hd r = 2 ∧ t_in s hs b r)
  ∧ (∀ k p b, w_own s0 k p b → gn b ∨ w_own s k p b)
  ∧ (∀ b, gn b → w_D b ∧ t_c Hd s0 b)
  ∧ (∀ b, Bh b → ∃ r, w_of s0 b r ∧ 0 < Hd r ∧ t_in s0 Bh b r)
  ∧ (∀ b, hs b ↔ Bh b ∨ sv b)
  ∧ (∀ k p b, w_own s k p b → w_own s0 k p b ∨ (sv b ∧ w_pl s0 k p = nI 0))
  ∧ (∀ b, sv b → ¬ Bh b → (w_D b ∧ ∀ k p, ¬ w_own s0 k p b) ∨ ∃ t, t < 128 ∧ b = w_ib t ∧ ∀ i, i < 16 → s0 b i = nI 0)
  ∧ (∀ b, pd b → w_D b ∧ (∀ k p, ¬ w_own s k p b) ∧ w_bit s b = true ∧ sv b ∧ (∀ i, i < 16 → s b i = nI 0 ∧ V b i = nI 0))
  ∧ x_wf s0 (fun _ => False)
section TI
variable {Hd : Nat → Int} {s0 s s' V V' : wS} {sv gn gn' pd pd' hs Bh : Nat → Prop}
theorem ti_pd (h : TI Hd s0 s V sv gn pd hs Bh) : ∀ b, pd b → w_D b ∧ (∀ k p, ¬ w_own s k p b) ∧ w_bit s b = true ∧ sv b ∧ (∀ i, i < 16 → s b i = nI 0 ∧ V b i = nI 0) := h.2.2.2.2.2.2.2.2.2.2.2.1
/-- a block of the store is changed -/
theorem ti_step {C : Nat → Prop} (h : TI Hd s0 s V sv gn pd hs Bh) (h1 : x_wf s' gn') (h2 : ∀ b, ¬ C b → ∀ i, s' b i = s b i)
    (h3 : ∀ k p b, w_own s' k p b → w_own s k p b ∨ (pd b ∧ ¬ pd' b ∧ w_pl s0 k p = nI 0 ∧ Hd k = 2 ∧ hs (w_ib k) ∧ (8 ≤ p → p < 24 → hs (s' (w_ib k) 11).toNatClampNeg)))
    (h4 : ∀ k p b, w_own s k p b → gn' b ∨ w_own s' k p b) (h5 : ∀ b, gn b → gn' b) (h5' : ∀ b, gn' b → gn b ∨ ∃ k p, w_own s k p b ∧ Hd k = 2)
    (h6 : ∀ c, C c → ∃ r, w_of s c r ∧ w_of s' c r ∧ Hd r = 2 ∧ t_in s' hs c r) (h7 : ∀ c, C c → hs c)
    (h8 : ∀ k p b, w_own s' k p b → 8 ≤ p → p < 24 → w_own s k p b → s' (w_ib k) 11 = s (w_ib k) 11)
    (h9 : ∀ b, pd' b → pd b) (h9' : ∀ b, pd b → pd' b ∨ ∃ k p, w_own s' k p b) (h10 : ∀ b, pd b → w_bit s' b = true) (h10' : ∀ b, pd' b → ∀ k p, ¬ w_own s' k p b)
    (hV : ∀ b, ¬ C b → ∀ i, V' b i = V b i) (hVc : ∀ c, C c → ∀ i, i < 16 → V' c i = s' c i) : TI Hd s0 s' V' (fun b => sv b ∨ C b) gn' pd' hs Bh := by
  obtain ⟨a1, a2, a3, a4, a5, a6, a7, a8, a9, a10, a11, a12, a13⟩ := h
  have hcp : ∀ b, pd b → ¬ C b := fun b hb e => by
    obtain ⟨rc, c1, c2, c3, c4⟩ := h6 b e
    obtain ⟨p, hp⟩ := of_D c1 (a12 b hb).1
    exact (a12 b hb).2.1 rc p hp
  have tc : ∀ c, C c → ¬ sv c → t_c Hd s0 c := fun c hc hn => by
    obtain ⟨rc, c1, c2, c3, c4⟩ := h6 c hc
    refine Or.inl ⟨rc, of_mono c1 (fun p hp => ?_), c3⟩
    rcases a10 rc p c hp with h | h
    · exact h
    · exact absurd h.1 hn
  refine ⟨h1, fun b r ho hr i hi => ?_, fun b hb i => ?_, fun b hb => ?_, fun b hb => ?_, fun k p b ho => ?_, fun b hb => ?_, a8, fun b => ?_, fun k p b ho => ?_, fun b hb hB => ?_, fun b hb => ?_, a13⟩
  · by_cases e : C b
    · exact hVc b e i hi
    · rw [hV b e, h2 b e]
      rcases ho with ho | ⟨p, ho⟩ | ho
      · exact a2 b r (Or.inl ho) hr i hi
      · rcases h3 r p b ho with h | h
        · exact a2 b r (of_own h) hr i hi
        · rw [((a12 b h.1).2.2.2.2 i hi).1, ((a12 b h.1).2.2.2.2 i hi).2]
      · exact a2 b r (Or.inr (Or.inr ho)) hr i hi
  · rw [h2 b (fun e => hb (Or.inr e))]
    exact a3 b (fun h => hb (Or.inl h)) i
  · rcases hb with hb | hb
    · exact a4 b hb
    · by_cases hs2 : sv b
      · exact a4 b hs2
      · exact tc b hb hs2
  · by_cases e : C b
    · obtain ⟨rc, c1, c2, c3, c4⟩ := h6 b e
      exact Or.inr (Or.inr ⟨rc, c2, c3, c4⟩)
    · have hb2 : sv b := hb.resolve_right e
      rcases a5 b hb2 with h | h | ⟨r, h, hr, hi⟩
      · exact Or.inl (h5 b h)
      · rcases h9' b h with h' | ⟨k, p, h'⟩
        · exact Or.inr (Or.inl h')
        · rcases h3 k p b h' with h3' | h3'
          · exact absurd h3' ((a12 b h).2.1 k p)
          · refine Or.inr (Or.inr ⟨k, of_own h', h3'.2.2.2.1, fun q hq => ?_⟩)
            obtain ⟨-, rfl⟩ := h1.1.2.1 k q k p b hq h'
            exact h3'.2.2.2.2
      · rcases h with h | ⟨p, ho⟩ | h
        · refine Or.inr (Or.inr ⟨r, Or.inl h, hr, fun q hq => ?_⟩)
          rw [h.2] at hq
          exact absurd hq.2.2.1 (w_ib_D h.1)
        · rcases h4 r p b ho with h' | h'
          · exact Or.inl h'
          · refine Or.inr (Or.inr ⟨r, of_own h', hr, fun q hq => ?_⟩)
            obtain ⟨-, rfl⟩ := h1.1.2.1 r q r p b hq h'
            refine ⟨(hi q ho).1, fun q1 q2 => ?_⟩
            rw [h8 r q b hq q1 q2 ho]
            exact (hi q ho).2 q1 q2
        · refine Or.inr (Or.inr ⟨r, Or.inr (Or.inr h), hr, fun q hq => ?_⟩)
          obtain ⟨g, -, -, e2⟩ := h
          rw [e2] at hq
          exact absurd hq.2.2.1 (w_mp_D g)
  · rcases a6 k p b ho with h | h
    · exact Or.inl (h5 b h)
    · exact h4 k p b h
  · rcases h5' b hb with h | ⟨k, p, ho, hk⟩
    · exact a7 b h
    · refine ⟨ho.2.2.1, ?_⟩
      rcases a10 k p b ho with h | h
      · exact Or.inl ⟨k, of_own h, hk⟩
      · exact a4 b h.1
  · rw [a9 b]
    constructor
    · rintro (h | h)
      · exact Or.inl h
      · exact Or.inr (Or.inl h)
    · rintro (h | h | h)
      · exact Or.inl h
      · exact Or.inr h
      · exact (a9 b).mp (h7 b h)
  · rcases h3 k p b ho with h | h
    · exact (a10 k p b h).imp id (fun h => ⟨Or.inl h.1, h.2⟩)
    · exact Or.inr ⟨Or.inl (a12 b h.1).2.2.2.1, h.2.2.1⟩
  · by_cases hs2 : sv b
    · exact a11 b hs2 hB
    · exact absurd ((a9 b).mp (h7 b (hb.resolve_left hs2))) (fun h => h.elim hB hs2)
  · have hp := h9 b hb
    obtain ⟨p1, p2, p3, p4, p5⟩ := a12 b hp
    have e := hcp b hp
    refine ⟨p1, h10' b hb, h10 b hp, Or.inl p4, fun i hi => ?_⟩
    rw [h2 b e, hV b e]
    exact p5 i hi
/-- places stay -/
theorem ti_keep {c i : Nat} {v : Int32} (h : TI Hd s0 s V sv gn pd hs Bh) (h1 : x_wf (w_up s c i v) gn') (ho : ∀ k p b, w_own (w_up s c i v) k p b ↔ w_own s k p b) (h5 : ∀ b, gn b → gn' b) (h5' : ∀ b, gn' b → gn b ∨ ∃ k p, w_own s k p b ∧ Hd k = 2)
    (h6 : ∃ r, w_of s c r ∧ Hd r = 2 ∧ t_in s hs c r) (h7 : hs c) (h8 : ∀ k, k < 128 → w_up s c i v (w_ib k) 11 = s (w_ib k) 11) (h10 : ∀ b, pd b → w_bit (w_up s c i v) b = true) : TI Hd s0 (w_up s c i v) (w_up V c i v) (fun b => sv b ∨ b = c) gn' pd hs Bh := by
  obtain ⟨rc, c1, c3, c4⟩ := h6
  refine ti_step (C := fun b => b = c) h h1 (fun b hb j => w_up_b s i j v hb) (fun k p b hb => Or.inl ((ho k p b).mp hb)) (fun k p b hb => Or.inr ((ho k p b).mpr hb)) h5 h5' (fun c' e => by subst e; exact ⟨rc, c1, of_mono c1 (fun p hp => (ho rc p c').mpr hp), c3, fun p hp => by rw [h8 rc hp.1]; exact c4 p ((ho rc p c').mp hp)⟩) (fun c' e => e ▸ h7) (fun k p b hb _ _ _ => h8 k hb.1) (fun b hb => hb) (fun b hb => Or.inl hb) h10 (fun b hb k p hq => (ti_pd h b hb).2.1 k p ((ho k p b).mp hq)) (fun b hb j => w_up_b V i j v hb) (fun c' e j hj => ?_)
  subst e
  by_cases e : j = i
  · subst e
    rw [w_up_at, w_up_at]
  · rw [w_up_i V c' v e, w_up_i s c' v e]
    exact h.2.1 c' rc c1 (by omega) j hj
/-- a word of a data block -/
theorem ti_word {k p c i : Nat} {v : Int32} (h : TI Hd s0 s V sv gn pd hs Bh) (hk : Hd k = 2) (ho : w_own s k p c) (hp : p < 24) (hv : s (w_ib k) 0 = nI 2 → i % 2 = 1 → ∃ t : Nat, t < 128 ∧ v = nI t) (h7 : hs c) (hin : t_in s hs c k) : TI Hd s0 (w_up s c i v) (w_up V c i v) (fun b => sv b ∨ b = c) gn pd hs Bh := by
  have hD := ho.2.2.1
  have hA := h.1.1.1
  have hpl : ∀ k' p', k' < 128 → w_pl (w_up s c i v) k' p' = w_pl s k' p' := fun k' p' hk' => p_up hA hk' (fun e => w_ib_D hk' (e ▸ hD)) (fun ho' => by have := (h.1.1.2.1 k' 24 k p c ho' ho).2; omega)
  refine ti_keep h (x_word h.1 ho hp hv) (fun k' p' b => ?_) (fun b hb => hb) (fun b hb => Or.inl hb) ⟨k, of_own ho, hk, hin⟩ h7 (fun k' hk' => w_up_b s i 11 v (fun e => w_ib_D hk' (e ▸ hD))) (fun b hb => by rw [w_bit_up (w_D_mp hD)]; exact (ti_pd h b hb).2.2.1)
  unfold w_own
  constructor
  · rintro ⟨q1, q2, q3, q4⟩
    exact ⟨q1, q2, q3, by rw [← hpl k' p' q1]; exact q4⟩
  · rintro ⟨q1, q2, q3, q4⟩
    exact ⟨q1, q2, q3, by rw [hpl k' p' q1]; exact q4⟩
theorem t_in_ib {k : Nat} (hk : k < 128) : t_in s hs (w_ib k) k := fun _ hp => absurd hp.2.2.1 (w_ib_D hk)
theorem t_in_mp {g r : Nat} : t_in s hs (w_mp g) r := fun _ hp => absurd hp.2.2.1 (w_mp_D g)
/-- kind, links, size -/
theorem ti_ibw {k i : Nat} {v : Int32} (h : TI Hd s0 s V sv gn pd hs Bh) (hk : k < 128) (hH : Hd k = 2) (hi : i < 3) (h1 : x_wf (w_up s (w_ib k) i v) gn) (h7 : hs (w_ib k)) : TI Hd s0 (w_up s (w_ib k) i v) (w_up V (w_ib k) i v) (fun b => sv b ∨ b = w_ib k) gn pd hs Bh := by
  have hA := h.1.1.1
  have hpl : ∀ k' p', k' < 128 → w_pl (w_up s (w_ib k) i v) k' p' = w_pl s k' p' := fun k' p' hk' => by
    by_cases e : k' = k
    · subst e
      exact p_ibo hA hk hi
    · exact p_up hA hk' (fun e2 => e (w_ib_inj hk' hk e2)) (fun ho => w_ib_D hk ho.2.2.1)
  refine ti_keep h h1 (fun k' p' b => ?_) (fun b hb => hb) (fun b hb => Or.inl hb) ⟨k, of_ib hk, hH, t_in_ib hk⟩ h7 (fun k' hk' => ?_) (fun b hb => by rw [w_bit_up (w_ib_nmp hk)]; exact (ti_pd h b hb).2.2.1)
  · unfold w_own
    constructor
    · rintro ⟨q1, q2, q3, q4⟩
      exact ⟨q1, q2, q3, by rw [← hpl k' p' q1]; exact q4⟩
    · rintro ⟨q1, q2, q3, q4⟩
      exact ⟨q1, q2, q3, by rw [hpl k' p' q1]; exact q4⟩
  · show (if _ then _ else _) = _
    rw [if_neg (by omega)]
/-- a word of a map -/
theorem ti_map {g i : Nat} {v : Int32} (h : TI Hd s0 s V sv gn pd hs Bh) (hg : g < 8) (hH : Hd (128 + g) = 2) (h1 : x_wf (w_up s (w_mp g) i v) gn') (h7 : hs (w_mp g)) (h5 : ∀ b, gn b → gn' b) (h5' : ∀ b, gn' b → gn b ∨ ∃ k p, w_own s k p b ∧ Hd k = 2) (h10 : ∀ b, pd b → w_bit (w_up s (w_mp g) i v) b = true) : TI Hd s0 (w_up s (w_mp g) i v) (w_up V (w_mp g) i v) (fun b => sv b ∨ b = w_mp g) gn' pd hs Bh := by
  have hA := h.1.1.1
  have hpl : ∀ k' p', k' < 128 → w_pl (w_up s (w_mp g) i v) k' p' = w_pl s k' p' := fun k' p' hk' => p_up hA hk' (w_ib_mp hk') (fun ho => w_mp_D g ho.2.2.1)
  refine ti_keep h h1 (fun k' p' b => ?_) h5 h5' ⟨128 + g, of_mp hg, hH, t_in_mp⟩ h7 (fun k' hk' => w_up_b s i 11 v (w_ib_mp hk')) h10
  unfold w_own
  constructor
  · rintro ⟨q1, q2, q3, q4⟩
    exact ⟨q1, q2, q3, by rw [← hpl k' p' q1]; exact q4⟩
  · rintro ⟨q1, q2, q3, q4⟩
    exact ⟨q1, q2, q3, by rw [hpl k' p' q1]; exact q4⟩
/-- a block that is read comes into the cache -/
theorem ti_rd {b : Nat} {r : Nat} (h : TI Hd s0 s V sv gn pd hs Bh) (hr : w_of s0 b r) (hH : 0 < Hd r) (hin : t_in s0 Bh b r) : TI Hd s0 s V sv gn pd (fun c => hs c ∨ c = b) (fun c => Bh c ∨ c = b) := by
  obtain ⟨a1, a2, a3, a4, a5, a6, a7, a8, a9, a10, a11, a12, a13⟩ := h
  have up : ∀ {st : wS} {X : Nat → Prop} {c q : Nat}, t_in st X c q → t_in st (fun c => X c ∨ c = b) c q := fun hx p hp => ⟨Or.inl (hx p hp).1, fun q1 q2 => Or.inl ((hx p hp).2 q1 q2)⟩
  refine ⟨a1, a2, a3, a4, fun c hc => ?_, a6, a7, fun c hc => ?_, fun c => ?_, a10, fun c hc hB => a11 c hc (fun h => hB (Or.inl h)), a12, a13⟩
  · rcases a5 c hc with h | h | ⟨q, h1, h2, h3⟩
    · exact Or.inl h
    · exact Or.inr (Or.inl h)
    · exact Or.inr (Or.inr ⟨q, h1, h2, up h3⟩)
  · rcases hc with hc | rfl
    · obtain ⟨q, h1, h2, h3⟩ := a8 c hc
      exact ⟨q, h1, h2, up h3⟩
    · exact ⟨r, hr, hH, up hin⟩
  · show (hs c ∨ c = b) ↔ ((Bh c ∨ c = b) ∨ sv c)
    rw [a9 c]
    constructor
    · rintro ((h | h) | h)
      · exact Or.inl (Or.inl h)
      · exact Or.inr h
      · exact Or.inl (Or.inr h)
    · rintro ((h | h) | h)
      · exact Or.inl (Or.inl h)
      · exact Or.inr h
      · exact Or.inl (Or.inr h)
/-- an inode's block, or a block of an inode that is cached, may be read -/
theorem ti_rdo {k p b : Nat} (h : TI Hd s0 s V sv gn pd hs Bh) (ho : w_own s k p b) (hH : 0 < Hd k) (h1 : hs (w_ib k)) (h2 : 8 ≤ p → p < 24 → hs (s (w_ib k) 11).toNatClampNeg) (hn : ¬ sv b) : w_of s0 b k ∧ t_in s0 Bh b k := by
  obtain ⟨a1, a2, a3, a4, a5, a6, a7, a8, a9, a10, a11, a12, a13⟩ := h
  have o0 : w_own s0 k p b := by
    rcases a10 k p b ho with h | h
    · exact h
    · exact absurd h.1 hn
  have hk := ho.1
  have nz : ∃ i, i < 16 ∧ ¬ s0 (w_ib k) i = nI 0 := by
    have h0 := o0.2.2.2
    unfold w_pl at h0
    by_cases h8 : p < 8
    · rw [if_pos h8] at h0
      exact ⟨3 + p, by omega, by rw [h0]; exact w_D0 ho.2.2.1⟩
    · rw [if_neg h8] at h0
      by_cases h24 : p = 24
      · rw [if_pos h24] at h0
        exact ⟨11, by omega, by rw [h0]; exact w_D0 ho.2.2.1⟩
      · rw [if_neg h24] at h0
        by_cases e : s0 (w_ib k) 11 = nI 0
        · rw [if_pos e] at h0
          exact absurd h0.symm (w_D0 ho.2.2.1)
        · exact ⟨11, by omega, e⟩
  have B1 : Bh (w_ib k) := by
    rcases (a9 _).mp h1 with h | h
    · exact h
    · refine Classical.byContradiction (fun hB => ?_)
      rcases a11 _ h hB with h3 | ⟨t, ht, e, h3⟩
      · exact w_ib_D hk h3.1
      · obtain ⟨i, hi, hne⟩ := nz
        exact hne (h3 i hi)
  refine ⟨of_own o0, fun q hq => ?_⟩
  refine ⟨B1, fun q1 q2 => ?_⟩
  have hne : ¬ s0 (w_ib k) 11 = nI 0 := by
    intro e
    have h0 := hq.2.2.2
    unfold w_pl at h0
    rw [if_neg (by omega), if_neg (by omega), if_pos e] at h0
    exact w_D0 ho.2.2.1 h0.symm
  obtain ⟨x0, x1, x2, x3⟩ := w_ix a13.1.1 hk hne
  obtain ⟨-, rfl⟩ := a13.1.2.1 k q k p b hq o0
  have hne2 : ¬ s (w_ib k) 11 = nI 0 := by
    intro e
    have h0 := ho.2.2.2
    unfold w_pl at h0
    rw [if_neg (by omega), if_neg (by omega), if_pos e] at h0
    exact w_D0 ho.2.2.1 h0.symm
  obtain ⟨x, y1, y2, y3⟩ := w_ix a1.1.1 hk hne2
  have ex : x = x0 := by
    rcases a10 k 24 x y3 with h | h
    · exact w_nI (w_Dlt y2) (w_Dlt x2) (h.2.2.2.symm.trans x1)
    · exact absurd h.2 hne
  subst ex
  have hx := h2 q1 q2
  rw [y1, nI_clamp (w_Dlt y2)] at hx
  rw [x1, nI_clamp (w_Dlt x2)]
  rcases (a9 _).mp hx with h | h
  · exact h
  · refine Classical.byContradiction (fun hB => ?_)
    rcases a11 _ h hB with h3 | ⟨t, ht, e, -⟩
    · exact h3.2 k 24 x3
    · exact w_ib_D ht (e ▸ x2)
end TI
