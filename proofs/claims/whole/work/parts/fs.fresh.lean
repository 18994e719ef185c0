
section FRESH
variable {n : Nat}
theorem dk_0 {k : Nat} (h : ¬ (k = 0 ∨ k = 1 ∨ k = 2048 ∨ k = 2064 ∨ k = 2065)) : am_dk n k = nI 0 := by
  unfold am_dk
  rw [if_neg (by omega), if_neg (by omega), if_neg (by omega), if_neg (by omega), if_neg (by omega)]
theorem dD_fr {b i : Nat} : dD (am_fr n) b i = am_dk n (16 * b + i) := rfl
theorem f_ib {k i : Nat} (hk : k < 128) (h : ¬ (k = 0 ∧ i < 2)) (hi : i < 16) : dD (am_fr n) (w_ib k) i = nI 0 := by
  rw [dD_fr]
  refine dk_0 ?_
  unfold w_ib
  omega
theorem f_ib00 : dD (am_fr n) (w_ib 0) 0 = nI 2 := by
  show am_dk n 2064 = nI 2
  unfold am_dk
  rw [if_neg (by omega), if_neg (by omega), if_neg (by omega), if_pos rfl]
theorem f_ib01 : dD (am_fr n) (w_ib 0) 1 = nI 1 := by
  show am_dk n 2065 = nI 1
  unfold am_dk
  rw [if_neg (by omega), if_neg (by omega), if_neg (by omega), if_neg (by omega), if_pos rfl]
theorem f_mp {g i : Nat} (h : ¬ (g = 0 ∧ i = 0)) (hi : i < 16) : dD (am_fr n) (w_mp g) i = nI 0 := by
  rw [dD_fr]
  refine dk_0 ?_
  unfold w_mp
  omega
theorem f_mp00 : dD (am_fr n) (w_mp 0) 0 = nI 1 := by
  show am_dk n 2048 = nI 1
  unfold am_dk
  rw [if_neg (by omega), if_neg (by omega), if_pos rfl]
theorem f_pl {k p : Nat} (hk : k < 128) (hp : p < 25) : w_pl (dD (am_fr n)) k p = nI 0 := by
  unfold w_pl
  by_cases h8 : p < 8
  · rw [if_pos h8]; exact f_ib hk (by omega) (by omega)
  · rw [if_neg h8]
    by_cases e : p = 24
    · rw [if_pos e]; exact f_ib hk (by omega) (by omega)
    · rw [if_neg e, if_pos (f_ib hk (by omega) (by omega))]
theorem f_own {k p b : Nat} : ¬ w_own (dD (am_fr n)) k p b := fun h => by
  obtain ⟨h1, h2, h3, h4⟩ := h
  rw [f_pl h1 h2] at h4
  exact w_D0 h3 h4.symm
theorem f_b0 {i : Nat} : bt (nI 0) i = false := b_0 i
theorem f_wf : x_wf (dD (am_fr n)) (fun _ => False) := by
  refine ⟨⟨fun k p hk hp => Or.inl (f_pl hk hp), fun k p k' p' b h => absurd h f_own, fun k p b h => absurd h f_own, fun k hk => ⟨?_, 0, f_ib hk (by omega) (by omega), by omega, fun _ => rfl⟩, fun k p b h => absurd h f_own⟩, fun k hk h0 i hi => ?_, fun k hk h0 => ?_, fun g hg => ⟨fun i h1 h2 => ?_, fun i h1 h2 => ?_, fun i h1 h2 => f_mp (by omega) h2⟩⟩
  · by_cases c : k = 0
    · subst c; exact Or.inr (Or.inr f_ib00)
    · exact Or.inl (f_ib hk (by omega) (by omega))
  · by_cases c : k = 0
    · subst c
      rw [f_ib00] at h0
      exact absurd h0 (by decide)
    · exact f_ib hk (by omega) hi
  · by_cases c : k = 0
    · subst c
      unfold w_ibit
      show bt (dD (am_fr n) (w_mp 0) 0) 0 = true
      rw [f_mp00, b_1]
      rfl
    · exact absurd (f_ib hk (by omega) (by omega)) h0
  · by_cases c : g = 0
    · subst c
      rw [f_mp00, b_1]
      exact decide_eq_false (by omega)
    · rw [f_mp (by omega) (by omega)]; exact f_b0
  · rw [f_mp (by omega) (by omega)]; exact f_b0
theorem vs_0 {f : Nat → Nat} : ∀ m, (∀ i, i < m → f i = 0) → v_sum f m = 0
  | 0, _ => rfl
  | m + 1, h => by
    rw [v_sum, vs_0 m (fun i hi => h i (by omega)), h m (by omega)]
theorem f_LC : v_LC (dD (am_fr n)) := fun t ht => by
  have h0 : v_cn (dD (am_fr n)) t = 0 := by
    unfold v_cn
    refine vs_0 128 (fun d hd => ?_)
    unfold v_c1
    refine vs_0 192 (fun w hw => ?_)
    rw [if_neg]
    unfold v_en
    rw [decide_eq_true_eq]
    rintro ⟨-, h2, -⟩
    rw [f_ib hd (by omega) (by omega), z_clamp (by omega)] at h2
    omega
  rw [h0]
  by_cases c : t = 0
  · subst c
    rw [f_ib01]
    rfl
  · rw [f_ib ht (by omega) (by omega)]
    unfold v_r
    rw [if_neg c]
theorem cnt_z {f : Nat → Int32} (h : ∀ i, f i = nI 0) : ∀ m, cnt f m = 0
  | 0 => rfl
  | m + 1 => by
    show cnt f m + (if f m = nI 1 then 1 else 0) = 0
    rw [cnt_z h m, h m, if_neg (by decide)]
theorem f_mst {x r : Nat} (hx : x < n) : am_fr n 0 65 x = nI 1 := if_pos hx
theorem f_mrr (hn : 0 < n) (hn4 : n ≤ 4) (r : Nat) : am_fr n 0 65 (mrr n (am_fr n) r) = nI 1 := if_pos (mst_ok (J := am_fr n) (r := r) hn hn4 hn (show ¬ (if 0 < n then nI 1 else nI 0) = nI 0 by rw [if_pos hn]; decide)).1
/-- A NEW OBJECT of the class and one of the reference -/
theorem inv_fr (h2 : 2 ≤ n) (h4 : n ≤ 4) : Inv n 64 (am_fr n) (am_fr n) := by
  have cs0 : ∀ k, cs k (am_fr n) = 0 := fun k => by
    induction k with
    | zero => rfl
    | succ k ih =>
      show cs k (am_fr n) + cal (am_fr n) k = 0
      rw [ih]
      unfold cal
      rw [if_neg (show ¬ am_fr n 0 87 k = nI 1 from fun q => absurd (show nI 0 = nI 1 from q) (by decide))]
  refine ⟨0, 0, fun _ => 0, ?_, rfl, by omega, by rw [cs0]; omega⟩
  have hU : ∀ x, x < n → am_fr n 0 65 x = nI 1 := fun x hx => if_pos hx
  have hJ : ∀ x, x < n → am_fr n 0 66 x = nI 1 := fun x hx => if_pos hx
  have n1 : ¬ nI 0 = nI 1 := by decide
  refine ⟨fun _ => [], fun _ _ => 0, fun _ _ => 0, fun _ _ => 0, fun _ => [], ⟨[], fun _ _ => 0, fun _ _ => 0, fun _ _ => 0, fun _ => [], fun _ => [], fun _ => 0, fun _ => 0, ?_⟩, rfl, fun z hz => ?_, ?_⟩
  · refine ⟨⟨by omega, h4⟩, ?_, fun r hr => ?_, ?_, fun x hx => ?_, fun x hx => ?_, ?_, fun k hk => rfl, ?_, ?_, fun z hz => ?_, fun x hx => ?_, ?_⟩
    · refine ⟨⟨rfl, fun m hm => absurd hm List.not_mem_nil, fun k m hm => by simp [lat] at hm⟩, ⟨rfl, fun m hm => absurd hm List.not_mem_nil, fun k m hm => by simp at hm⟩, rfl, rfl, rfl, by omega, fun w hw => ⟨1, by omega, by omega, rfl, rfl⟩, fun f t hf ht => ⟨0, rfl, by exact Nat.le_refl 0, by omega⟩, fun m hm => absurd hm List.not_mem_nil, fun x hx => ⟨(hU x hx).symm, Or.inr (hU x hx)⟩, rfl⟩
    · exact ⟨by simp, rfl, rfl, fun i e he => by simp at he, fun x hx => ⟨Nat.zero_le 2, rfl, rfl, Nat.zero_le 2, rfl, rfl⟩⟩
    · exact ⟨by omega, rfl, rfl, rfl, fun k hk => absurd hk (by omega), fun k hk => absurd hk (by omega)⟩
    · refine ⟨rfl, (hJ x hx).symm, ⟨⟨List.Pairwise.nil, fun b hb => absurd hb List.not_mem_nil, by simp, fun b hb => by rw [if_neg List.not_mem_nil]; rfl⟩, rfl, rfl, fun k b hb => by simp at hb, rfl, rfl, rfl, by simp, fun b hb => absurd hb List.not_mem_nil, fun _ => ⟨rfl, rfl⟩, fun q => absurd rfl q⟩, ⟨fun b hb => ⟨rfl, Or.inl rfl⟩, ?_, fun b i hb hi q => absurd q n1, rfl⟩, fun r hr => ⟨rfl, rfl, rfl⟩, fun r hr => ⟨⟨Nat.zero_le 2, rfl⟩, rfl, ⟨Nat.zero_le 2, rfl⟩, fun q => absurd rfl q⟩⟩
      rw [cnt_z (f := am_fr n x 43) (fun i => rfl)]
      rfl
    · exact ⟨Or.inr (hJ x hx), fun _ => ⟨hJ x hx, fun r hr => rfl, fun _ => rfl⟩, fun q => absurd (hU x hx) q, fun q => absurd (hJ x hx) q, fun q => absurd (hU x hx) q⟩
    · have nr : ∀ x r, ¬ rl [] x r := fun x r ⟨m, hm, _⟩ => absurd hm List.not_mem_nil
      have ng : ∀ x r, ¬ gr [] x r := fun x r ⟨m, hm, _⟩ => absurd hm List.not_mem_nil
      refine ⟨fun m hm => absurd hm List.not_mem_nil, fun x r _ _ _ _ => ⟨rfl, fun m hm => absurd hm List.not_mem_nil⟩, fun x r _ _ _ _ => ⟨rfl, fun q => absurd rfl q, fun q => absurd q (nr x r), fun q => absurd rfl q⟩, fun x r _ _ _ _ => ⟨Nat.le_refl 0, fun _ q => absurd q (ng x r), fun _ _ => rfl⟩, ⟨fun x r r' m m' _ _ hm => absurd hm List.not_mem_nil, fun x r _ => Nat.zero_le 1, fun x r r' _ _ _ _ q => absurd rfl q, fun r e _ hm => absurd hm List.not_mem_nil, fun x r _ _ => Nat.zero_le 2⟩, fun r x y _ _ _ _ _ => rfl, fun r hr q => absurd (f_mrr (by omega) h4 r) q, List.Pairwise.nil⟩
    · exact ⟨fun b hb => rfl, fun b hb => rfl, rfl, rfl⟩
    · have yno : ∀ z l b, ¬ yY (fun _ => []) (fun _ => []) (fun _ => []) z l b := fun z l b q => by
        rcases q with q | q | q <;> exact absurd q.2 List.not_mem_nil
      have nno : ∀ z l b, ¬ nd (yY (fun _ => []) (fun _ => []) (fun _ => [])) z l b := fun z l b q => by
        obtain ⟨l', -, -, h⟩ := nd_Y q
        exact yno _ _ _ h
      have es : ∀ L, sF (yY (fun _ => []) (fun _ => []) (fun _ => [])) (wW (cC (am_fr n)) (fwI (am_fr n)) (dD (am_fr n)) (fun _ => []) (fun _ => [])) (dD (am_fr n)) L n = dD (am_fr n) := fun L => funext fun b => funext fun i => sF_no n (fun z _ => nno z _ b) i
      refine ⟨fun L => by rw [es L]; exact ⟨f_wf, f_LC, fun d hd _ => by rw [f_ib hd (by omega) (by omega), z_clamp (by omega)]; omega⟩, fun L z l b _ _ h => absurd h (yno z l b), fun r z z' _ _ _ q => absurd (show (0 : Int) = 2 from q) (by decide), fun z hz _ L hL => ⟨fun b r _ q => absurd (show (0 : Int) < 0 from q) (by decide), fun b q => absurd q.2 n1⟩, fun z b _ q => absurd q (yno z 2 b)⟩
    · refine ⟨⟨List.nodup_nil, by simp, fun b hb => absurd hb List.not_mem_nil⟩, ⟨List.nodup_nil, by simp, fun b hb => absurd hb List.not_mem_nil⟩, ?_, fun q => absurd rfl q, fun q => absurd rfl q⟩
      have e : dD (am_fr n) (1 + 24 * z) 2 = nI 0 := by
        rw [dD_fr]
        exact dk_0 (by omega)
      rw [e]
      exact ⟨fun q => absurd q n1, fun q => absurd rfl q⟩
    · exact ⟨fun q => absurd rfl q, fun k hk => absurd hk (by omega), fun q => absurd rfl q⟩
    · exact ⟨fun k m hm => by simp [due] at hm, rfl, by simp, fun k m hm => by simp at hm⟩
  · refine ⟨fun r hr => ⟨rfl, Or.inr ⟨rfl, Or.inl ⟨rfl, rfl⟩⟩⟩, ⟨fun c hc => ?_, rfl, rfl, rfl, rfl, rfl, ?_, 0, by omega, rfl⟩, Or.inr ⟨n1, rfl, rfl, fun c hc => rfl, fun r hr => ⟨rfl, rfl⟩⟩⟩
    · have : c = 0 ∨ c = 1 ∨ c = 2 ∨ c = 3 ∨ c = 4 := by omega
      rcases this with rfl | rfl | rfl | rfl | rfl <;> rfl
    · refine (if_neg ?_).symm
      rintro (q | q)
      · exact absurd (show nI 0 = nI 2 from q) (by decide)
      · exact absurd (show nI 0 = nI 3 from q) (by decide)
  · exact ⟨rfl, rfl, fun z hz => Or.inl (dk_0 (by omega))⟩
end FRESH
/-- ALL STEPS OF THE LAW -/
theorem l_whole {n : Nat} {G G' : am_G} (hl : G.1.1.stackTraces = false) (hG : am_ok G) (hG' : am_okM G') (hn : G.2.2.2.1 = n) (hn' : G'.2.2.2.1 = n) : l_all G G' (Inv n) :=
  ⟨fun _ _ _ h => inv_m h, lf_call hl hG hG' hn hn' (fun k I J a b c d e f h => pr_call k I J a b c d e f h), lf_delay hl hG hG' hn hn' (fun k I J a b c h => pr_delay k I J a b c h), lf_tick hl hG hG' hn hn' (fun k I J a h => pr_tick k I J a h), lf_crash hl hG hG' hn hn' (fun k I J a b h => pr_crash k I J a b h), lf_recover hl hG hG' hn hn' (fun k I J a h => pr_recover k I J a h), lf_start hl hG hG' hn hn' (fun k I J a h => pr_start k I J a h), lf_result hl hG hG' hn hn' (fun k I J a b h => pr_result k I J a b h), lf_history hl hG hG' hn hn' (fun k I J a b h => pr_history k I J a b h), lf_word hl hG hG' hn hn' (fun k I J a b h => pr_word k I J a b h), lf_cached hl hG hG' hn hn' (fun k I J a b c h => pr_cached k I J a b c h), lf_lock hl hG hG' hn hn' (fun k I J a b c h => pr_lock k I J a b c h), lf_row hl hG hG' hn hn' (fun k I J a b h => pr_row k I J a b h), lf_message hl hG hG' hn hn' (fun k I J a b h => pr_message k I J a b h), lf_node hl hG hG' hn hn' (fun k I J a b h => pr_node k I J a b h), lf_about hl hG hG' hn hn' (fun k I J a h => pr_about k I J a h)⟩
