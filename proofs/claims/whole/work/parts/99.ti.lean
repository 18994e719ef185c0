section TI
variable {Hd : Nat → Int} {s0 s s' V V' : wS} {sv gn gn' pd pd' hs Bh : Nat → Prop}
theorem ti_setD {k p b : Nat} (h : TI Hd s0 s V sv gn pd hs Bh) (hg : ∀ c, ¬ gn c) (hk : k < 128) (hp : p < 8) (hH : Hd k = 2) (hz : ¬ s (w_ib k) 0 = nI 0) (hpd : pd b) (hpl0 : s (w_ib k) (3 + p) = nI 0) (hib : hs (w_ib k)) : TI Hd s0 (w_up s (w_ib k) (3 + p) (nI b)) (w_up V (w_ib k) (3 + p) (nI b)) (fun d => sv d ∨ d = w_ib k) gn (fun d => pd d ∧ ¬ d = b) hs Bh := by
  obtain ⟨b1, b2, b3, b4, b5⟩ := ti_pd h b hpd
  refine ti_add (k := k) (p := p) h hg hk (by omega) hH hpd (x_setD h.1 hk hz hp b1 b2 b3 (fun i hi => (b5 i hi).1)) (by unfold w_pl; rw [if_pos hp]; exact hpl0) (fun k' p' hk' hp' => ?_) (of_ib hk) (t_in_ib hk) hib hib (fun q => by omega) (Or.inl rfl) (fun _ e => by omega)
  by_cases e : k' = k
  · subst e
    rw [p_ibd h.1.1.1 hk hp]
    by_cases e2 : p' = p
    · rw [if_pos e2, if_pos ⟨rfl, e2⟩]
    · rw [if_neg e2, if_neg (fun e => e2 e.2)]
  · rw [if_neg (fun h => e h.1)]
    exact p_up h.1.1.1 hk' (fun e2 => e (w_ib_inj hk' hk e2)) (fun ho => w_ib_D hk ho.2.2.1)
theorem ti_setX {k b : Nat} (h : TI Hd s0 s V sv gn pd hs Bh) (hg : ∀ c, ¬ gn c) (hk : k < 128) (hH : Hd k = 2) (hz : ¬ s (w_ib k) 0 = nI 0) (hpd : pd b) (h11 : s (w_ib k) 11 = nI 0) (hib : hs (w_ib k)) : TI Hd s0 (w_up s (w_ib k) 11 (nI b)) (w_up V (w_ib k) 11 (nI b)) (fun d => sv d ∨ d = w_ib k) gn (fun d => pd d ∧ ¬ d = b) hs Bh := by
  obtain ⟨b1, b2, b3, b4, b5⟩ := ti_pd h b hpd
  have hpl : ∀ k' p', k' < 128 → p' < 25 → w_pl (w_up s (w_ib k) 11 (nI b)) k' p' = if k' = k ∧ p' = 24 then nI b else w_pl s k' p' := fun k' p' hk' hp' => by
    by_cases e : k' = k
    · subst e
      rw [p_ibx hk b1]
      by_cases h8 : p' < 8
      · rw [if_pos h8, if_neg (by omega)]
      · rw [if_neg h8]
        by_cases h24 : p' = 24
        · rw [if_pos h24, if_pos ⟨rfl, h24⟩]
        · rw [if_neg h24, if_neg (fun h => h24 h.2), (b5 _ (by omega)).1]
          unfold w_pl
          rw [if_neg h8, if_neg h24, if_pos h11]
    · rw [if_neg (fun h => e h.1)]
      exact p_up h.1.1.1 hk' (fun e2 => e (w_ib_inj hk' hk e2)) (fun ho => w_ib_D hk ho.2.2.1)
  exact ti_add (k := k) (p := 24) h hg hk (by omega) hH hpd (x_setX h.1 hk hz h11 b1 b2 b3 (fun i hi => (b5 i hi).1)) (by unfold w_pl; rw [if_neg (by omega), if_pos rfl]; exact h11) hpl (of_ib hk) (t_in_ib hk) hib hib (fun _ q => by omega) (Or.inl rfl) (fun _ _ => ⟨rfl, h11⟩)
theorem ti_setI {k x j b : Nat} (h : TI Hd s0 s V sv gn pd hs Bh) (hg : ∀ c, ¬ gn c) (hk : k < 128) (hH : Hd k = 2) (hx : w_own s k 24 x) (hj : j < 16) (hpd : pd b) (hpl0 : s x j = nI 0) (hib : hs (w_ib k)) (hsx : hs x) : TI Hd s0 (w_up s x j (nI b)) (w_up V x j (nI b)) (fun d => sv d ∨ d = x) gn (fun d => pd d ∧ ¬ d = b) hs Bh := by
  obtain ⟨b1, b2, b3, b4, b5⟩ := ti_pd h b hpd
  have hxD := hx.2.2.1
  have h11 : s (w_ib k) 11 = nI x := hx.2.2.2
  refine ti_add (k := k) (p := 8 + j) h hg hk (by omega) hH hpd (x_setI h.1 hk hx hj b1 b2 b3 (fun i hi => (b5 i hi).1)) ?_ (fun k' p' hk' hp' => ?_) (of_own hx) (fun q hq => ⟨hib, fun q1 q2 => ?_⟩) hsx hib (fun _ _ => by rw [h11, nI_clamp (w_Dlt hxD)]; exact hsx) (Or.inr hxD) (fun e => absurd e (fun e => w_ib_D hk (e ▸ hxD)))
  · unfold w_pl
    rw [if_neg (by omega), if_neg (by omega), h11, if_neg (w_D0 hxD), nI_clamp (w_Dlt hxD), show 8 + j - 8 = j from by omega]
    exact hpl0
  · by_cases e : k' = k
    · subst e
      rw [p_ixw hk h11 hxD hj hp']
      by_cases e2 : p' = 8 + j
      · rw [if_pos e2, if_pos ⟨rfl, e2⟩]
      · rw [if_neg e2, if_neg (fun h => e2 h.2)]
    · rw [if_neg (fun h => e h.1)]
      exact p_up h.1.1.1 hk' (fun e2 => w_ib_D hk' (e2 ▸ hxD)) (fun ho => e (h.1.1.2.1 k' 24 k 24 x ho hx).1)
  · have := (h.1.1.2.1 k q k 24 x hq hx).2
    omega
/-- places go whose blocks were given back -/
theorem ti_del {C : Nat → Prop} (h : TI Hd s0 s V sv gn pd hs Bh) (h1 : x_wf s' gn) (h2 : ∀ b, ¬ C b → ∀ i, s' b i = s b i) (h3 : ∀ k p b, w_own s' k p b → w_own s k p b) (h4 : ∀ k p b, w_own s k p b → gn b ∨ w_own s' k p b)
    (h6 : ∀ c, C c → ∃ r, w_of s c r ∧ w_of s' c r ∧ Hd r = 2 ∧ t_in s hs c r) (h7 : ∀ c, C c → hs c) (h8 : ∀ k p b, w_own s' k p b → 8 ≤ p → p < 24 → s' (w_ib k) 11 = s (w_ib k) 11) (hb : ∀ b, pd b → w_bit s' b = w_bit s b)
    (hV : ∀ b, ¬ C b → ∀ i, V' b i = V b i) (hVc : ∀ c, C c → ∀ i, i < 16 → V' c i = s' c i) : TI Hd s0 s' V' (fun b => sv b ∨ C b) gn pd hs Bh := by
  refine ti_step h h1 h2 (fun k p b q => Or.inl (h3 k p b q)) h4 (fun _ h => h) (fun _ h => Or.inl h) (fun c hc => ?_) h7 (fun k p b q q1 q2 _ => h8 k p b q q1 q2) (fun _ h => h) (fun _ h => Or.inl h) (fun b hp => by rw [hb b hp]; exact (ti_pd h b hp).2.2.1) (fun b hp k p q => (ti_pd h b hp).2.1 k p (h3 k p b q)) hV hVc
  obtain ⟨r, c1, c2, c3, c4⟩ := h6 c hc
  refine ⟨r, c1, c2, c3, fun p q => ⟨(c4 p (h3 r p c q)).1, fun q1 q2 => ?_⟩⟩
  rw [h8 r p c q q1 q2]
  exact (c4 p (h3 r p c q)).2 q1 q2
theorem own_del (h : ∀ k p, k < 128 → p < 25 → w_pl s' k p = nI 0 ∨ w_pl s' k p = w_pl s k p) (k p b : Nat) (q : w_own s' k p b) : w_own s k p b := by
  obtain ⟨q1, q2, q3, q4⟩ := q
  rcases h k p q1 q2 with e | e
  · exact absurd (q4.symm.trans e) (w_D0 q3)
  · exact ⟨q1, q2, q3, by rw [← e]; exact q4⟩
theorem ti_delD {k p b : Nat} (h : TI Hd s0 s V sv gn pd hs Bh) (hk : k < 128) (hp : p < 8) (hH : Hd k = 2) (hz : ¬ s (w_ib k) 0 = nI 0) (hb : s (w_ib k) (3 + p) = nI b) (hgb : gn b) (hib : hs (w_ib k)) : TI Hd s0 (w_up s (w_ib k) (3 + p) (nI 0)) (w_up V (w_ib k) (3 + p) (nI 0)) (fun d => sv d ∨ d = w_ib k) gn pd hs Bh := by
  have hA := h.1.1.1
  have hpl : ∀ k' p', k' < 128 → p' < 25 → w_pl (w_up s (w_ib k) (3 + p) (nI 0)) k' p' = if k' = k ∧ p' = p then nI 0 else w_pl s k' p' := fun k' p' hk' hp' => by
    by_cases e : k' = k
    · subst e
      rw [p_ibd hA hk hp]
      by_cases e2 : p' = p
      · rw [if_pos e2, if_pos ⟨rfl, e2⟩]
      · rw [if_neg e2, if_neg (fun e => e2 e.2)]
    · rw [if_neg (fun h => e h.1)]
      exact p_up hA hk' (fun e2 => e (w_ib_inj hk' hk e2)) (fun ho => w_ib_D hk ho.2.2.1)
  have h3 := own_del (s := s) (s' := w_up s (w_ib k) (3 + p) (nI 0)) (fun k' p' q1 q2 => by rw [hpl k' p' q1 q2]; split; exact Or.inl rfl; exact Or.inr rfl)
  have e11 : ∀ k', k' < 128 → w_up s (w_ib k) (3 + p) (nI 0) (w_ib k') 11 = s (w_ib k') 11 := fun k' _ => if_neg (by omega)
  refine ti_del (C := fun d => d = w_ib k) h (x_delD h.1 hk hz hp) (fun d hd j => w_up_b s _ j _ hd) h3 (fun k' p' d q => ?_) (fun c e => by have e : c = w_ib k := e; subst e; exact ⟨k, of_ib hk, of_ib hk, hH, t_in_ib hk⟩) (fun c e => e ▸ hib) (fun k' p' d q _ _ => e11 k' q.1) (fun d _ => w_bit_up (w_ib_nmp hk)) (fun d hd j => w_up_b V _ j _ hd) (fun c e j hj => ?_)
  · by_cases e : k' = k ∧ p' = p
    · obtain ⟨rfl, rfl⟩ := e
      refine Or.inl ?_
      have q4 := q.2.2.2
      unfold w_pl at q4
      rw [if_pos hp, hb] at q4
      have hbD : w_D b := (h.2.2.2.2.2.2.1 b hgb).1
      rw [← w_nI (w_Dlt hbD) (w_Dlt q.2.2.1) q4]
      exact hgb
    · exact Or.inr ⟨q.1, q.2.1, q.2.2.1, by rw [hpl k' p' q.1 q.2.1, if_neg e]; exact q.2.2.2⟩
  · subst e
    by_cases e : j = 3 + p
    · subst e
      rw [w_up_at, w_up_at]
    · rw [w_up_i V _ _ e, w_up_i s _ _ e]
      exact h.2.1 _ k (of_ib hk) (by omega) j hj
theorem ti_delI {k x j b : Nat} (h : TI Hd s0 s V sv gn pd hs Bh) (hk : k < 128) (hH : Hd k = 2) (hx : w_own s k 24 x) (hj : j < 16) (hb : s x j = nI b) (hgb : gn b) (hib : hs (w_ib k)) (hsx : hs x) : TI Hd s0 (w_up s x j (nI 0)) (w_up V x j (nI 0)) (fun d => sv d ∨ d = x) gn pd hs Bh := by
  have hA := h.1.1.1
  have hxD := hx.2.2.1
  have h11 : s (w_ib k) 11 = nI x := hx.2.2.2
  have hpl : ∀ k' p', k' < 128 → p' < 25 → w_pl (w_up s x j (nI 0)) k' p' = if k' = k ∧ p' = 8 + j then nI 0 else w_pl s k' p' := fun k' p' hk' hp' => by
    by_cases e : k' = k
    · subst e
      rw [p_ixw hk h11 hxD hj hp']
      by_cases e2 : p' = 8 + j
      · rw [if_pos e2, if_pos ⟨rfl, e2⟩]
      · rw [if_neg e2, if_neg (fun h => e2 h.2)]
    · rw [if_neg (fun h => e h.1)]
      exact p_up hA hk' (fun e2 => w_ib_D hk' (e2 ▸ hxD)) (fun ho => e (h.1.1.2.1 k' 24 k 24 x ho hx).1)
  have h3 := own_del (s := s) (s' := w_up s x j (nI 0)) (fun k' p' q1 q2 => by rw [hpl k' p' q1 q2]; split; exact Or.inl rfl; exact Or.inr rfl)
  have e11 : ∀ k', k' < 128 → w_up s x j (nI 0) (w_ib k') 11 = s (w_ib k') 11 := fun k' hk' => w_up_b s _ _ _ (fun e => w_ib_D hk' (e ▸ hxD))
  have hx' : w_own (w_up s x j (nI 0)) k 24 x := ⟨hk, by omega, hxD, by rw [hpl k 24 hk (by omega), if_neg (by omega)]; exact hx.2.2.2⟩
  refine ti_del (C := fun d => d = x) h (x_delI h.1 hk hx hj) (fun d hd j' => w_up_b s _ j' _ hd) h3 (fun k' p' d q => ?_) (fun c e => by have e : c = x := e; subst e; exact ⟨k, of_own hx, of_own hx', hH, fun q hq => ⟨hib, fun q1 q2 => absurd (h.1.1.2.1 k q k 24 c hq hx).2 (by omega)⟩⟩) (fun c e => e ▸ hsx) (fun k' p' d q _ _ => e11 k' q.1) (fun d _ => w_bit_up (w_D_mp hxD)) (fun d hd j' => w_up_b V _ j' _ hd) (fun c e j' hj' => ?_)
  · by_cases e : k' = k ∧ p' = 8 + j
    · obtain ⟨rfl, rfl⟩ := e
      refine Or.inl ?_
      have q4 := q.2.2.2
      unfold w_pl at q4
      rw [if_neg (by omega), if_neg (by omega), h11, if_neg (w_D0 hxD), nI_clamp (w_Dlt hxD), show 8 + j - 8 = j from by omega, hb] at q4
      have hbD : w_D b := (h.2.2.2.2.2.2.1 b hgb).1
      rw [← w_nI (w_Dlt hbD) (w_Dlt q.2.2.1) q4]
      exact hgb
    · exact Or.inr ⟨q.1, q.2.1, q.2.2.1, by rw [hpl k' p' q.1 q.2.1, if_neg e]; exact q.2.2.2⟩
  · subst e
    by_cases e : j' = j
    · subst e
      rw [w_up_at, w_up_at]
    · rw [w_up_i V _ _ e, w_up_i s _ _ e]
      exact h.2.1 _ k (of_own hx) (by omega) j' hj'
theorem ti_delX {k : Nat} (h : TI Hd s0 s V sv gn pd hs Bh) (hk : k < 128) (hH : Hd k = 2) (hz : ¬ s (w_ib k) 0 = nI 0) (hgb : ∀ p b, 8 ≤ p → w_own s k p b → gn b) (hib : hs (w_ib k)) : TI Hd s0 (w_up s (w_ib k) 11 (nI 0)) (w_up V (w_ib k) 11 (nI 0)) (fun d => sv d ∨ d = w_ib k) gn pd hs Bh := by
  have hA := h.1.1.1
  have hpl : ∀ k' p', k' < 128 → p' < 25 → w_pl (w_up s (w_ib k) 11 (nI 0)) k' p' = if k' = k ∧ 8 ≤ p' then nI 0 else w_pl s k' p' := fun k' p' hk' hp' => by
    by_cases e : k' = k
    · subst e
      rw [p_ibx0]
      by_cases e2 : p' < 8
      · rw [if_pos e2, if_neg (by omega)]
      · rw [if_neg e2, if_pos ⟨rfl, by omega⟩]
    · rw [if_neg (fun h => e h.1)]
      exact p_up hA hk' (fun e2 => e (w_ib_inj hk' hk e2)) (fun ho => w_ib_D hk ho.2.2.1)
  have h3 := own_del (s := s) (s' := w_up s (w_ib k) 11 (nI 0)) (fun k' p' q1 q2 => by rw [hpl k' p' q1 q2]; split; exact Or.inl rfl; exact Or.inr rfl)
  refine ti_del (C := fun d => d = w_ib k) h (x_delX h.1 hk hz) (fun d hd j => w_up_b s _ j _ hd) h3 (fun k' p' d q => ?_) (fun c e => by have e : c = w_ib k := e; subst e; exact ⟨k, of_ib hk, of_ib hk, hH, t_in_ib hk⟩) (fun c e => e ▸ hib) (fun k' p' d q q1 q2 => ?_) (fun d _ => w_bit_up (w_ib_nmp hk)) (fun d hd j => w_up_b V _ j _ hd) (fun c e j hj => ?_)
  · by_cases e : k' = k ∧ 8 ≤ p'
    · obtain ⟨rfl, e2⟩ := e
      exact Or.inl (hgb p' d e2 q)
    · exact Or.inr ⟨q.1, q.2.1, q.2.2.1, by rw [hpl k' p' q.1 q.2.1, if_neg e]; exact q.2.2.2⟩
  · by_cases e : k' = k
    · have q4 := q.2.2.2
      rw [hpl k' p' q.1 q.2.1, if_pos ⟨e, q1⟩] at q4
      exact absurd q4.symm (w_D0 q.2.2.1)
    · exact w_up_b s _ _ _ (fun e2 => e (w_ib_inj q.1 hk e2))
  · subst e
    by_cases e : j = 11
    · subst e
      rw [w_up_at, w_up_at]
    · rw [w_up_i V _ _ e, w_up_i s _ _ e]
      exact h.2.1 _ k (of_ib hk) (by omega) j hj
/-- an inode goes -/
theorem ti_fin {t : Nat} {v : Int32} (h : TI Hd s0 s V sv gn pd hs Bh) (ht : t < 128) (hH : Hd t = 2) (hM : Hd (128 + t / 16) = 2) (hgb : ∀ p b, w_own s t p b → gn b) (hib : hs (w_ib t)) (hmp : hs (w_mp (t / 16))) (hv : ∀ i, i < 32 → bt v i = (bt (s (w_mp (t / 16)) 0) i && !decide (i = t % 16)))
    (hV : ∀ b, ¬ (b = w_mp (t / 16) ∨ b = w_ib t) → ∀ i, V' b i = V b i) (hV1 : ∀ i, i < 16 → V' (w_mp (t / 16)) i = if i = 0 then v else V (w_mp (t / 16)) i) (hV2 : ∀ i, i < 16 → V' (w_ib t) i = nI 0) : TI Hd s0 (w_cl (w_up s (w_mp (t / 16)) 0 v) (w_ib t)) V' (fun b => sv b ∨ (b = w_mp (t / 16) ∨ b = w_ib t)) gn pd hs Bh := by
  have hA := h.1.1.1
  have e1 : ∀ b j, ¬ (b = w_mp (t / 16) ∨ b = w_ib t) → w_cl (w_up s (w_mp (t / 16)) 0 v) (w_ib t) b j = s b j := fun b j hb => (if_neg (fun e => hb (Or.inr e))).trans (w_up_b s _ _ v (fun e => hb (Or.inl e)))
  have e2 : ∀ j, w_cl (w_up s (w_mp (t / 16)) 0 v) (w_ib t) (w_ib t) j = nI 0 := fun j => if_pos rfl
  have nib : ∀ k, k < 128 → ¬ k = t → ¬ (w_ib k = w_mp (t / 16) ∨ w_ib k = w_ib t) := fun k hk hne e => e.elim (fun e => w_ib_mp hk e) (fun e => hne (w_ib_inj hk ht e))
  have nD : ∀ b, w_D b → ¬ (b = w_mp (t / 16) ∨ b = w_ib t) := fun b hb e => e.elim (fun e => w_mp_D _ (e ▸ hb)) (fun e => w_ib_D ht (e ▸ hb))
  have hpl : ∀ k p, k < 128 → p < 25 → w_pl (w_cl (w_up s (w_mp (t / 16)) 0 v) (w_ib t)) k p = if k = t then nI 0 else w_pl s k p := fun k p hk hp => by
    by_cases e : k = t
    · subst e
      rw [if_pos rfl]
      unfold w_pl
      rw [e2, e2, if_pos rfl]
      split
      · rfl
      · split <;> rfl
    · rw [if_neg e]
      refine w_pl_cg (fun j => e1 _ j (nib k hk e)) (fun j h0 => ?_)
      obtain ⟨x, x1, x2, -⟩ := w_ix hA hk h0
      rw [x1, nI_clamp (w_Dlt x2)]
      exact e1 x j (nD x x2)
  have h3 := own_del (s := s) (s' := w_cl (w_up s (w_mp (t / 16)) 0 v) (w_ib t)) (fun k' p' q1 q2 => by rw [hpl k' p' q1 q2]; split; exact Or.inl rfl; exact Or.inr rfl)
  have hne : ¬ w_mp (t / 16) = w_ib t := fun e => w_ib_mp ht e.symm
  refine ti_del (C := fun b => b = w_mp (t / 16) ∨ b = w_ib t) h (x_fin h.1 ht hv) (fun b hb j => e1 b j hb) h3 (fun k p b q => ?_) (fun c e => ?_) (fun c e => ?_) (fun k p b q q1 q2 => ?_) (fun b hp => ?_) hV (fun c e i hi => ?_)
  · by_cases e : k = t
    · subst e
      exact Or.inl (hgb p b q)
    · exact Or.inr ⟨q.1, q.2.1, q.2.2.1, by rw [hpl k p q.1 q.2.1, if_neg e]; exact q.2.2.2⟩
  · rcases e with rfl | rfl
    · exact ⟨128 + t / 16, of_mp (by omega), of_mp (by omega), hM, t_in_mp⟩
    · exact ⟨t, of_ib ht, of_ib ht, hH, t_in_ib ht⟩
  · rcases e with rfl | rfl
    · exact hmp
    · exact hib
  · by_cases e : k = t
    · have q4 := q.2.2.2
      rw [hpl k p q.1 q.2.1, if_pos e] at q4
      exact absurd q4.symm (w_D0 q.2.2.1)
    · exact e1 _ _ (nib k q.1 e)
  · unfold w_bit
    rw [show w_cl (w_up s (w_mp (t / 16)) 0 v) (w_ib t) (w_mp ((b - 128) / 64)) (1 + ((b - 128) % 64 - 17) / 32) = s (w_mp ((b - 128) / 64)) (1 + ((b - 128) % 64 - 17) / 32) from (if_neg (fun e => w_ib_mp ht e.symm)).trans (if_neg (by omega))]
  · rcases e with rfl | rfl
    · rw [hV1 i hi, show w_cl (w_up s (w_mp (t / 16)) 0 v) (w_ib t) (w_mp (t / 16)) i = w_up s (w_mp (t / 16)) 0 v (w_mp (t / 16)) i from if_neg hne]
      by_cases e : i = 0
      · subst e
        rw [if_pos rfl, w_up_at]
      · rw [if_neg e, w_up_i s _ v e]
        exact h.2.1 _ _ (of_mp (by omega)) (by omega) i hi
    · rw [hV2 i hi, e2]
/-- a block is given back -/
theorem ti_give {k p b : Nat} {v : Int32} (h : TI Hd s0 s V sv gn pd hs Bh) (ho : w_own s k p b) (hH : Hd k = 2) (hM : Hd (128 + (b - 128) / 64) = 2) (hmp : hs (w_mp ((b - 128) / 64))) (hpd : ∀ c, ¬ pd c) (hv : ∀ i, i < 32 → bt v i = (bt (s (w_mp ((b - 128) / 64)) (1 + ((b - 128) % 64 - 17) / 32)) i && !decide (i = ((b - 128) % 64 - 17) % 32))) : TI Hd s0 (w_up s (w_mp ((b - 128) / 64)) (1 + ((b - 128) % 64 - 17) / 32) v) (w_up V (w_mp ((b - 128) / 64)) (1 + ((b - 128) % 64 - 17) / 32) v) (fun c => sv c ∨ c = w_mp ((b - 128) / 64)) (fun c => gn c ∨ c = b) pd hs Bh := by
  have hD := ho.2.2.1
  have hD2 := hD
  unfold w_D at hD2
  exact ti_map h (by omega) hM (x_bclr h.1 hD hv) hmp (fun c hc => Or.inl hc) (fun c (hc : gn c ∨ c = b) => hc.imp id (fun e => ⟨k, p, by rw [e]; exact ho, hH⟩)) (fun c hc => absurd hc (hpd c))
end TI
