theorem x_setD {s : wS} {gone : Nat → Prop} {k p b : Nat} (h : x_wf s gone) (hk : k < 128) (hz : ¬ s (w_ib k) 0 = nI 0) (hp : p < 8) (hb : w_D b) (hno : ∀ k p, ¬ w_own s k p b) (hbit : w_bit s b = true) (h0 : ∀ i, i < 16 → s b i = nI 0) : x_wf (w_up s (w_ib k) (3 + p) (nI b)) gone :=
  ⟨w_setD h.1 hk hp hb hno hbit (fun _ i hi => ⟨0, by decide, h0 _ (by omega)⟩), x_restI hk h.2 (by rw [w_up_i s _ _ (by omega)]; exact hz) (x_bit h hk hz)⟩
theorem x_setX {s : wS} {gone : Nat → Prop} {k b : Nat} (h : x_wf s gone) (hk : k < 128) (hz : ¬ s (w_ib k) 0 = nI 0) (h11 : s (w_ib k) 11 = nI 0) (hb : w_D b) (hno : ∀ k p, ¬ w_own s k p b) (hbit : w_bit s b = true) (h0 : ∀ i, i < 16 → s b i = nI 0) : x_wf (w_up s (w_ib k) 11 (nI b)) gone := by
  refine ⟨?_, x_restI hk h.2 (by rw [w_up_i s _ _ (by omega)]; exact hz) (x_bit h hk hz)⟩
  refine w_add (k := k) (p := 24) h.1 hb hno (fun k' p' hk' hp' => ?_) (fun k' hk' => ?_) (fun k' p' b' i ho _ => w_up_b s _ _ _ (fun e => w_ib_D hk (e ▸ ho.2.2.1))) (fun h24 => absurd h24 (by decide)) hbit (fun c => w_bit_up (w_ib_nmp hk))
  · by_cases e : k' = k
    · subst e
      rw [p_ibx hk hb]
      by_cases h8 : p' < 8
      · rw [if_pos h8, if_neg (by omega)]
      · rw [if_neg h8]
        by_cases h24 : p' = 24
        · rw [if_pos h24, if_pos ⟨rfl, h24⟩]
        · rw [if_neg h24, if_neg (fun h => h24 h.2), h0 _ (by omega)]
          unfold w_pl
          rw [if_neg h8, if_neg h24, if_pos h11]
    · rw [if_neg (fun h => e h.1)]
      exact p_up h.1.1 hk' (fun e2 => e (w_ib_inj hk' hk e2)) (fun ho => w_ib_D hk ho.2.2.1)
  · by_cases e : k' = k
    · subst e
      exact ⟨w_up_i s _ _ (by omega), w_up_i s _ _ (by omega)⟩
    · exact ⟨w_up_b s _ _ _ (fun e2 => e (w_ib_inj hk' hk e2)), w_up_b s _ _ _ (fun e2 => e (w_ib_inj hk' hk e2))⟩
theorem x_setI {s : wS} {gone : Nat → Prop} {k x j b : Nat} (h : x_wf s gone) (hk : k < 128) (hx : w_own s k 24 x) (hj : j < 16) (hb : w_D b) (hno : ∀ k p, ¬ w_own s k p b) (hbit : w_bit s b = true) (h0 : ∀ i, i < 16 → s b i = nI 0) : x_wf (w_up s x j (nI b)) gone := by
  have hbx : ¬ b = x := fun e => hno k 24 (e ▸ hx)
  have hxD := hx.2.2.1
  refine ⟨?_, x_rest hxD h.2⟩
  refine w_add (k := k) (p := 8 + j) h.1 hb hno (fun k' p' hk' hp' => ?_) (fun k' hk' => ?_) (fun k' p' b' i ho hp' => w_up_b s _ _ _ (fun e => ?_)) (fun _ _ i hi => ⟨0, by decide, ?_⟩) hbit (fun c => w_bit_up (w_D_mp hxD))
  · by_cases e : k' = k
    · subst e
      have h11 : s (w_ib k') 11 = nI x := hx.2.2.2
      rw [p_ixw hk h11 hxD hj hp']
      by_cases e2 : p' = 8 + j
      · rw [if_pos e2, if_pos ⟨rfl, e2⟩]
      · rw [if_neg e2, if_neg (fun h => e2 h.2)]
    · rw [if_neg (fun h => e h.1)]
      exact p_up h.1.1 hk' (fun e2 => w_ib_D hk' (e2 ▸ hxD)) (fun ho => e (h.1.2.1 k' 24 k 24 x ho hx).1)
  · exact ⟨w_up_b s _ _ _ (fun e2 => w_ib_D hk' (e2 ▸ hxD)), w_up_b s _ _ _ (fun e2 => w_ib_D hk' (e2 ▸ hxD))⟩
  · subst e
    have := (h.1.2.1 k' p' k 24 b' ho hx).2
    omega
  · rw [w_up_b s _ _ _ hbx]
    exact h0 _ (by omega)
theorem x_delD {s : wS} {gone : Nat → Prop} {k p : Nat} (h : x_wf s gone) (hk : k < 128) (hz : ¬ s (w_ib k) 0 = nI 0) (hp : p < 8) : x_wf (w_up s (w_ib k) (3 + p) (nI 0)) gone := by
  have e0 : ∀ k', k' < 128 → w_up s (w_ib k) (3 + p) (nI 0) (w_ib k') 0 = s (w_ib k') 0 := fun k' hk' => by
    by_cases e : k' = k
    · subst e
      exact w_up_i s _ _ (by omega)
    · exact w_up_b s _ _ _ (fun e2 => e (w_ib_inj hk' hk e2))
  have e2 : ∀ k', k' < 128 → w_up s (w_ib k) (3 + p) (nI 0) (w_ib k') 2 = s (w_ib k') 2 := fun k' hk' => by
    by_cases e : k' = k
    · subst e
      exact w_up_i s _ _ (by omega)
    · exact w_up_b s _ _ _ (fun e2 => e (w_ib_inj hk' hk e2))
  refine ⟨?_, x_restI hk h.2 (by rw [e0 k hk]; exact hz) (x_bit h hk hz)⟩
  refine w_del h.1 (fun k' p' hk' hp' => ?_) (fun k' hk' => by unfold w_K; rw [e0 k' hk', e2 k' hk']; exact h.1.2.2.2.1 k' hk') (fun k' p' b ho h2 => by rw [← e0 k' ho.1]; exact h2) (fun k' p' b i ho _ => w_up_b s _ _ _ (fun e => w_ib_D hk (e ▸ ho.2.2.1))) (fun k' p' b _ hc => by rw [w_bit_up (w_ib_nmp hk)]; exact hc)
  by_cases e : k' = k
  · subst e
    rw [p_ibd h.1.1 hk hp]
    split
    · exact Or.inl rfl
    · exact Or.inr rfl
  · exact Or.inr (p_up h.1.1 hk' (fun e2 => e (w_ib_inj hk' hk e2)) (fun ho => w_ib_D hk ho.2.2.1))
theorem x_delX {s : wS} {gone : Nat → Prop} {k : Nat} (h : x_wf s gone) (hk : k < 128) (hz : ¬ s (w_ib k) 0 = nI 0) : x_wf (w_up s (w_ib k) 11 (nI 0)) gone := by
  have e0 : ∀ k', k' < 128 → w_up s (w_ib k) 11 (nI 0) (w_ib k') 0 = s (w_ib k') 0 := fun k' hk' => by
    by_cases e : k' = k
    · subst e
      exact w_up_i s _ _ (by omega)
    · exact w_up_b s _ _ _ (fun e2 => e (w_ib_inj hk' hk e2))
  have e2 : ∀ k', k' < 128 → w_up s (w_ib k) 11 (nI 0) (w_ib k') 2 = s (w_ib k') 2 := fun k' hk' => by
    by_cases e : k' = k
    · subst e
      exact w_up_i s _ _ (by omega)
    · exact w_up_b s _ _ _ (fun e2 => e (w_ib_inj hk' hk e2))
  refine ⟨?_, x_restI hk h.2 (by rw [e0 k hk]; exact hz) (x_bit h hk hz)⟩
  refine w_del h.1 (fun k' p' hk' hp' => ?_) (fun k' hk' => by unfold w_K; rw [e0 k' hk', e2 k' hk']; exact h.1.2.2.2.1 k' hk') (fun k' p' b ho h2 => by rw [← e0 k' ho.1]; exact h2) (fun k' p' b i ho _ => w_up_b s _ _ _ (fun e => w_ib_D hk (e ▸ ho.2.2.1))) (fun k' p' b _ hc => by rw [w_bit_up (w_ib_nmp hk)]; exact hc)
  by_cases e : k' = k
  · subst e
    rw [p_ibx0]
    split
    · exact Or.inr rfl
    · exact Or.inl rfl
  · exact Or.inr (p_up h.1.1 hk' (fun e2 => e (w_ib_inj hk' hk e2)) (fun ho => w_ib_D hk ho.2.2.1))
theorem x_delI {s : wS} {gone : Nat → Prop} {k x j : Nat} (h : x_wf s gone) (hk : k < 128) (hx : w_own s k 24 x) (hj : j < 16) : x_wf (w_up s x j (nI 0)) gone := by
  have hxD := hx.2.2.1
  have e1 : ∀ k' i, k' < 128 → w_up s x j (nI 0) (w_ib k') i = s (w_ib k') i := fun k' i hk' => w_up_b s _ _ _ (fun e2 => w_ib_D hk' (e2 ▸ hxD))
  have hpl : ∀ k' p', k' < 128 → p' < 25 → w_pl (w_up s x j (nI 0)) k' p' = nI 0 ∨ w_pl (w_up s x j (nI 0)) k' p' = w_pl s k' p' := fun k' p' hk' hp' => by
    by_cases e : k' = k
    · subst e
      rw [p_ixw hk hx.2.2.2 hxD hj hp']
      split
      · exact Or.inl rfl
      · exact Or.inr rfl
    · exact Or.inr (p_up h.1.1 hk' (fun e2 => w_ib_D hk' (e2 ▸ hxD)) (fun ho => e (h.1.2.1 k' 24 k 24 x ho hx).1))
  refine ⟨?_, x_rest hxD h.2⟩
  refine w_del h.1 hpl (fun k' hk' => by unfold w_K; rw [e1 k' _ hk', e1 k' _ hk']; exact h.1.2.2.2.1 k' hk') (fun k' p' b ho h2 => by rw [← e1 k' 0 ho.1]; exact h2) (fun k' p' b i ho hp' => w_up_b s _ _ _ (fun e => ?_)) (fun k' p' b _ hc => by rw [w_bit_up (w_D_mp hxD)]; exact hc)
  subst e
  rcases hpl k' p' ho.1 ho.2.1 with e2 | e2
  · exact w_D0 ho.2.2.1 (ho.2.2.2.symm.trans e2)
  · have h3 : w_own s k' p' b := ⟨ho.1, ho.2.1, ho.2.2.1, by rw [← e2]; exact ho.2.2.2⟩
    have := (h.1.2.1 k' p' k 24 b h3 hx).2
    omega
/-- a word of a map: what else it keeps -/
theorem x_restM {s : wS} {g i : Nat} {v : Int32} (h : w_Z s ∧ w_N s ∧ w_T s) (hn : i = 0 → ∀ k, k < 128 → k / 16 = g → w_ibit s k = true → bt v (k % 16) = true) (ht0 : i = 0 → ∀ j, 16 ≤ j → j < 32 → bt v j = false) (ht2 : i = 2 → ∀ j, 15 ≤ j → j < 32 → bt v j = false) (hi : i < 3) : w_Z (w_up s (w_mp g) i v) ∧ w_N (w_up s (w_mp g) i v) ∧ w_T (w_up s (w_mp g) i v) := by
  have e1 : ∀ k j, k < 128 → w_up s (w_mp g) i v (w_ib k) j = s (w_ib k) j := fun k j hk => w_up_b s i j v (w_ib_mp hk)
  refine ⟨fun k hk h0 j hj => ?_, fun k hk h0 => ?_, fun g' hg => ?_⟩
  · rw [e1 k _ hk] at h0 ⊢
    exact h.1 k hk h0 j hj
  · rw [e1 k _ hk] at h0
    have hb := h.2.1 k hk h0
    unfold w_ibit
    by_cases e : k / 16 = g
    · subst e
      by_cases e2 : i = 0
      · subst e2
        rw [w_up_at]
        exact hn rfl k hk rfl hb
      · rw [w_up_i s _ v (by omega)]
        exact hb
    · rw [w_up_b s i 0 v (fun e2 => e (w_mp_inj e2))]
      exact hb
  · by_cases e : g' = g
    · subst e
      refine ⟨fun j h1 h2 => ?_, fun j h1 h2 => ?_, fun j h1 h2 => ?_⟩
      · by_cases e2 : i = 0
        · subst e2
          rw [w_up_at]
          exact ht0 rfl j h1 h2
        · rw [w_up_i s _ v (by omega)]
          exact (h.2.2 g' hg).1 j h1 h2
      · by_cases e2 : i = 2
        · subst e2
          rw [w_up_at]
          exact ht2 rfl j h1 h2
        · rw [w_up_i s _ v (by omega)]
          exact (h.2.2 g' hg).2.1 j h1 h2
      · rw [w_up_i s _ v (by omega)]
        exact (h.2.2 g' hg).2.2 j h1 h2
    · have e3 : ∀ j, w_up s (w_mp g) i v (w_mp g') j = s (w_mp g') j := fun j => w_up_b s i j v (fun e2 => e (w_mp_inj e2))
      rw [e3, e3]
      refine ⟨(h.2.2 g' hg).1, (h.2.2 g' hg).2.1, fun j h1 h2 => ?_⟩
      rw [e3]
      exact (h.2.2 g' hg).2.2 j h1 h2
/-- a data block's bit is set -/
theorem x_bset {s : wS} {gone : Nat → Prop} {g w m : Nat} {v : Int32} (h : x_wf s gone) (hw : w = 1 ∨ w = 2) (hm : w = 2 → m < 15) (hv : ∀ i, i < 32 → bt v i = (bt (s (w_mp g) w) i || decide (i = m))) (hg : g < 8) : x_wf (w_up s (w_mp g) w v) gone ∧ ∀ c, w_D c → w_bit (w_up s (w_mp g) w v) c = (w_bit s c || decide (c = 145 + 64 * g + 32 * (w - 1) + m ∧ m < 32)) := by
  have hb : ∀ c, w_D c → w_bit (w_up s (w_mp g) w v) c = (w_bit s c || decide (c = 145 + 64 * g + 32 * (w - 1) + m ∧ m < 32)) := fun c hc => by
    unfold w_D at hc
    unfold w_bit
    by_cases e : (c - 128) / 64 = g ∧ 1 + ((c - 128) % 64 - 17) / 32 = w
    · obtain ⟨rfl, rfl⟩ := e
      rw [w_up_at, hv _ (by omega)]
      have e3 : decide ((c - 128) % 64 - 17 - 32 * (((c - 128) % 64 - 17) / 32) = m) = decide (c = 145 + 64 * ((c - 128) / 64) + 32 * (1 + ((c - 128) % 64 - 17) / 32 - 1) + m ∧ m < 32) := decide_eq_decide.mpr ⟨by omega, by omega⟩
      rw [← e3, show ((c - 128) % 64 - 17) % 32 = (c - 128) % 64 - 17 - 32 * (((c - 128) % 64 - 17) / 32) from by omega]
    · rw [show w_up s (w_mp g) w v (w_mp ((c - 128) / 64)) (1 + ((c - 128) % 64 - 17) / 32) = s (w_mp ((c - 128) / 64)) (1 + ((c - 128) % 64 - 17) / 32) from if_neg (fun h2 => e ⟨w_mp_inj h2.1, h2.2⟩), decide_eq_false (by omega), Bool.or_false]
  refine ⟨⟨w_map h.1 (fun k p b ho hc => ?_), x_restM h.2 (fun e => by omega) (fun e => by omega) (fun e j h1 h2 => ?_) (by omega)⟩, hb⟩
  · rw [hb b ho.2.2.1]
    rcases hc with hc | hc
    · exact Or.inl (by rw [hc, Bool.true_or])
    · exact Or.inr hc
  · subst e
    rw [hv j h2, ((h.2.2.2 g hg).2.1 j h1 h2), decide_eq_false (by have := hm rfl; omega)]
    rfl
/-- a data block's bit goes -/
theorem x_bclr {s : wS} {gone : Nat → Prop} {b : Nat} {v : Int32} (h : x_wf s gone) (hD : w_D b) (hv : ∀ i, i < 32 → bt v i = (bt (s (w_mp ((b - 128) / 64)) (1 + ((b - 128) % 64 - 17) / 32)) i && !decide (i = ((b - 128) % 64 - 17) % 32))) : x_wf (w_up s (w_mp ((b - 128) / 64)) (1 + ((b - 128) % 64 - 17) / 32) v) (fun c => gone c ∨ c = b) := by
  unfold w_D at hD
  refine ⟨w_map h.1 (fun k p c ho hc => ?_), x_restM h.2 (fun e => by omega) (fun e => by omega) (fun e j h1 h2 => ?_) (by omega)⟩
  · by_cases ecb : c = b
    · exact Or.inr (Or.inr ecb)
    · have hcD := ho.2.2.1
      unfold w_D at hcD
      have e4 : w_bit (w_up s (w_mp ((b - 128) / 64)) (1 + ((b - 128) % 64 - 17) / 32) v) c = w_bit s c := by
        unfold w_bit
        by_cases e : (c - 128) / 64 = (b - 128) / 64 ∧ 1 + ((c - 128) % 64 - 17) / 32 = 1 + ((b - 128) % 64 - 17) / 32
        · rw [e.1, e.2, w_up_at, hv _ (by omega), decide_eq_false (by omega)]
          simp
        · exact congrArg (fun z => bt z _) (if_neg (fun h2 => e ⟨w_mp_inj h2.1, h2.2⟩))
      rw [e4]
      exact hc.imp id Or.inl
  · rw [hv j h2]
    have e2 : 1 + ((b - 128) % 64 - 17) / 32 = 2 := e
    rw [e2, (h.2.2.2 _ (by omega)).2.1 j h1 h2]
    rfl
/-- an inode's bit is set -/
theorem x_iset {s : wS} {gone : Nat → Prop} {g m : Nat} {v : Int32} (h : x_wf s gone) (hm : m < 16) (hv : ∀ i, i < 32 → bt v i = (bt (s (w_mp g) 0) i || decide (i = m))) (hg : g < 8) : x_wf (w_up s (w_mp g) 0 v) gone ∧ w_ibit (w_up s (w_mp g) 0 v) (16 * g + m) = true := by
  refine ⟨⟨w_map h.1 (fun k p c ho hc => ?_), x_restM h.2 (fun _ k hk e hb => ?_) (fun _ j h1 h2 => ?_) (fun e => by omega) (by omega)⟩, ?_⟩
  · have e4 : w_bit (w_up s (w_mp g) 0 v) c = w_bit s c := congrArg (fun z => bt z _) (if_neg (fun h2 => by have := h2.2; omega))
    rw [e4]
    exact hc
  · subst e
    have hb2 : bt (s (w_mp (k / 16)) 0) (k % 16) = true := hb
    rw [hv _ (by omega), hb2]
    rfl
  · rw [hv j h2, (h.2.2.2 g hg).1 j h1 h2, decide_eq_false (by omega)]
    rfl
  · unfold w_ibit
    rw [show (16 * g + m) / 16 = g from by omega, show (16 * g + m) % 16 = m from by omega, w_up_at, hv m (by omega), decide_eq_true rfl, Bool.or_true]
theorem x_clrD {s : wS} {gone : Nat → Prop} {b : Nat} (h : x_wf s gone) (hb : w_D b) (hno : ∀ k p, ¬ w_own s k p b) : x_wf (w_cl s b) gone := by
  have e1 : ∀ k j, k < 128 → w_cl s b (w_ib k) j = s (w_ib k) j := fun k j hk => if_neg (fun e : w_ib k = b => w_ib_D hk (e ▸ hb))
  have e2 : ∀ g j, w_cl s b (w_mp g) j = s (w_mp g) j := fun g j => if_neg (fun e : w_mp g = b => w_mp_D g (e ▸ hb))
  refine ⟨w_clrD h.1 hb hno, fun k hk h0 j hj => ?_, fun k hk h0 => ?_, fun g hg => ?_⟩
  · rw [e1 k _ hk] at h0 ⊢
    exact h.2.1 k hk h0 j hj
  · rw [e1 k _ hk] at h0
    unfold w_ibit
    rw [e2]
    exact h.2.2.1 k hk h0
  · rw [e2, e2]
    refine ⟨(h.2.2.2 g hg).1, (h.2.2.2 g hg).2.1, fun j h1 h2 => ?_⟩
    rw [e2]
    exact (h.2.2.2 g hg).2.2 j h1 h2
/-- an inode goes, its blocks having been given back -/
theorem x_fin {s : wS} {gone : Nat → Prop} {t : Nat} {v : Int32} (h : x_wf s gone) (ht : t < 128) (hv : ∀ i, i < 32 → bt v i = (bt (s (w_mp (t / 16)) 0) i && !decide (i = t % 16))) : x_wf (w_cl (w_up s (w_mp (t / 16)) 0 v) (w_ib t)) gone := by
  have e1 : ∀ k j, k < 128 → ¬ k = t → w_cl (w_up s (w_mp (t / 16)) 0 v) (w_ib t) (w_ib k) j = s (w_ib k) j := fun k j hk hne => (if_neg (fun e => hne (w_ib_inj hk ht e))).trans (w_up_b s _ _ v (w_ib_mp hk))
  have e2 : ∀ j, w_cl (w_up s (w_mp (t / 16)) 0 v) (w_ib t) (w_ib t) j = nI 0 := fun j => if_pos rfl
  have e3 : ∀ g j, w_cl (w_up s (w_mp (t / 16)) 0 v) (w_ib t) (w_mp g) j = w_up s (w_mp (t / 16)) 0 v (w_mp g) j := fun g j => if_neg (fun e => w_ib_mp ht e.symm)
  have e4 : ∀ b j, w_D b → w_cl (w_up s (w_mp (t / 16)) 0 v) (w_ib t) b j = s b j := fun b j hb => (if_neg (fun e : b = w_ib t => w_ib_D ht (e ▸ hb))).trans (w_up_b s _ _ v (fun e => w_mp_D _ (e ▸ hb)))
  have hpl : ∀ k p, k < 128 → p < 25 → w_pl (w_cl (w_up s (w_mp (t / 16)) 0 v) (w_ib t)) k p = nI 0 ∨ w_pl (w_cl (w_up s (w_mp (t / 16)) 0 v) (w_ib t)) k p = w_pl s k p := fun k p hk hp => by
    by_cases e : k = t
    · subst e
      refine Or.inl ?_
      unfold w_pl
      rw [e2, e2, if_pos rfl]
      split
      · rfl
      · split <;> rfl
    · refine Or.inr (w_pl_cg (fun j => e1 k j hk e) (fun j h0 => ?_))
      obtain ⟨x, x1, x2, -⟩ := w_ix h.1.1 hk h0
      rw [x1, nI_clamp (w_Dlt x2)]
      exact e4 x j x2
  refine ⟨w_del h.1 hpl (fun k hk => ?_) (fun k p b ho h2 => ?_) (fun k p b i ho _ => e4 b i ho.2.2.1) (fun k p c ho hc => ?_), fun k hk h0 j hj => ?_, fun k hk h0 => ?_, fun g hg => ?_⟩
  · by_cases e : k = t
    · subst e
      unfold w_K
      rw [e2, e2]
      exact ⟨Or.inl rfl, 0, rfl, by omega, fun _ => rfl⟩
    · unfold w_K
      rw [e1 k _ hk e, e1 k _ hk e]
      exact h.1.2.2.2.1 k hk
  · by_cases e : k = t
    · subst e
      rw [e2] at h2
      exact absurd h2 (by decide)
    · rw [e1 k _ ho.1 e] at h2
      exact h2
  · have e5 : w_bit (w_cl (w_up s (w_mp (t / 16)) 0 v) (w_ib t)) c = w_bit s c := by
      unfold w_bit
      rw [e3]
      exact congrArg (fun z => bt z _) (if_neg (fun h2 => by have := h2.2; omega))
    rw [e5]
    exact hc
  · by_cases e : k = t
    · subst e
      exact e2 j
    · rw [e1 k _ hk e] at h0 ⊢
      exact h.2.1 k hk h0 j hj
  · by_cases e : k = t
    · subst e
      exact absurd (e2 0) h0
    · rw [e1 k _ hk e] at h0
      have hb := h.2.2.1 k hk h0
      unfold w_ibit at hb ⊢
      rw [e3]
      by_cases e6 : k / 16 = t / 16
      · rw [e6] at hb
        rw [e6, w_up_at, hv _ (by omega), hb, decide_eq_false (by omega)]
        rfl
      · rw [w_up_b s _ _ v (fun e7 => e6 (w_mp_inj e7))]
        exact hb
  · rw [e3, e3]
    have hT := h.2.2.2 g hg
    by_cases e6 : g = t / 16
    · subst e6
      refine ⟨fun j h1 h2 => ?_, fun j h1 h2 => ?_, fun j h1 h2 => ?_⟩
      · rw [w_up_at, hv _ h2, hT.1 j h1 h2]
        rfl
      · rw [w_up_i s _ v (by omega)]
        exact hT.2.1 j h1 h2
      · rw [e3, w_up_i s _ v (by omega)]
        exact hT.2.2 j h1 h2
    · have e7 : ∀ j, w_up s (w_mp (t / 16)) 0 v (w_mp g) j = s (w_mp g) j := fun j => w_up_b s _ _ v (fun e => e6 (w_mp_inj e))
      rw [e7, e7]
      refine ⟨hT.1, hT.2.1, fun j h1 h2 => ?_⟩
      rw [e3, e7]
      exact hT.2.2 j h1 h2
