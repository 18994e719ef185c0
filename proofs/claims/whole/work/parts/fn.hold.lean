
/-- the places of an inode in the order in which both look -/
def pp (s : Nat) : Nat := if s < 8 then s else if s = 8 then 24 else s - 1
/-- a block that some place looked at so far has -/
def MB (S : wS) (k s b : Nat) : Prop := ∃ k' s', s' < 25 ∧ (k' < k ∨ (k' = k ∧ s' < s)) ∧ w_own S k' (pp s') b
section HOLD
variable {n : Nat} {S : wS} {I J : am_I} {k s b : Nat}
theorem pp_lt (h : s < 25) : pp s < 25 := by unfold pp; split <;> (try split) <;> omega
theorem pp_inj {s' : Nat} (h : s < 25) (h' : s' < 25) (e : pp s = pp s') : s = s' := by
  unfold pp at e
  split at e <;> split at e <;> (try split at e) <;> (try split at e) <;> omega
theorem mb_s (hs : s < 25) : MB S k (s + 1) b ↔ MB S k s b ∨ w_own S k (pp s) b := by
  constructor
  · rintro ⟨k', s', h1, h2, h3⟩
    by_cases c : k' = k ∧ s' = s
    · right
      rw [c.1, c.2] at h3
      exact h3
    · exact Or.inl ⟨k', s', h1, by omega, h3⟩
  · rintro (⟨k', s', h1, h2, h3⟩ | h)
    · exact ⟨k', s', h1, by omega, h3⟩
    · exact ⟨k, s, hs, Or.inr ⟨rfl, by omega⟩, h⟩
theorem mb_k : MB S (k + 1) 0 b ↔ MB S k 25 b := by
  constructor
  · rintro ⟨k', s', h1, h2, h3⟩
    exact ⟨k', s', h1, by omega, h3⟩
  · rintro ⟨k', s', h1, h2, h3⟩
    exact ⟨k', s', h1, by omega, h3⟩
theorem mb_0 : ¬ MB S 0 0 b := fun ⟨k', s', h1, h2, h3⟩ => by omega
theorem mb_fresh (hB : w_B S) (hs : s < 25) (h : w_own S k (pp s) b) : ¬ MB S k s b := fun ⟨k', s', h1, h2, h3⟩ => by
  obtain ⟨e1, e2⟩ := hB _ _ _ _ _ h h3
  have := pp_inj hs h1 e2
  omega
theorem mb_z (hZ : w_Z S) (hk : k < 128) (h0 : S (w_ib k) 0 = nI 0) : MB S (k + 1) 0 b ↔ MB S k 0 b := by
  rw [mb_k]
  constructor
  · rintro ⟨k', s', h1, h2, h3⟩
    refine ⟨k', s', h1, ?_, h3⟩
    rcases h2 with q | ⟨q, -⟩
    · exact Or.inl q
    · rw [q] at h3
      exact absurd h3 (x_nowned hk (hZ k hk h0) _ _)
  · rintro ⟨k', s', h1, h2, h3⟩
    exact ⟨k', s', h1, by omega, h3⟩
theorem mb_x (h0 : S (w_ib k) 11 = nI 0) : MB S k 25 b ↔ MB S k 9 b := by
  constructor
  · rintro ⟨k', s', h1, h2, h3⟩
    by_cases c : k' = k ∧ 9 ≤ s'
    · exfalso
      rw [c.1] at h3
      obtain ⟨a1, a2, a3, a4⟩ := h3
      have ep : pp s' = s' - 1 := by unfold pp; rw [if_neg (by omega), if_neg (by omega)]
      unfold w_pl at a4
      rw [ep, if_neg (by omega), if_neg (by omega), if_pos h0] at a4
      exact w_D0 a3 a4.symm
    · exact ⟨k', s', h1, by omega, h3⟩
  · rintro ⟨k', s', h1, h2, h3⟩
    exact ⟨k', s', h1, by omega, h3⟩
theorem mb_D (h : MB S k s b) : w_D b := by
  obtain ⟨k', s', h1, h2, h3⟩ := h
  exact h3.2.2.1
/-- the places of the inode and of the index -/
theorem pl_h {i : Nat} (h3 : 3 ≤ i) (hi : i < 12) : w_pl S k (pp (i - 3)) = S (w_ib k) i := by
  unfold pp
  by_cases c : i - 3 < 8
  · rw [if_pos c]
    unfold w_pl
    rw [if_pos c]
    exact congrArg (S (w_ib k)) (by omega)
  · rw [if_neg c, if_pos (by omega)]
    unfold w_pl
    rw [if_neg (by decide), if_pos rfl]
    exact congrArg (S (w_ib k)) (by omega)
theorem pl_x {i x : Nat} (hi : i < 16) (hx : w_D x) (h11 : S (w_ib k) 11 = nI x) : w_pl S k (pp (9 + i)) = S x i := by
  have := w_D640 hx
  unfold pp
  rw [if_neg (by omega), if_neg (by omega)]
  unfold w_pl
  rw [if_neg (by omega), if_neg (by omega), h11, if_neg (w_D0 hx), z_clamp (by omega)]
  exact congrArg (S x) (by omega)
/-- the reference's holders -/
def HV (S : wS) (J : am_I) (k s : Nat) : Prop := ∀ b, b < 640 → J 0 131 b = cif (MB S k s b) (nI 1) (nI 0)
def f131 (J J' : am_I) : Prop := ∀ a b, ¬ (a = 0 ∧ b = 131) → J' a b = J a b
theorem hv_eq {k' s' : Nat} (h : HV S J k s) (e : ∀ b, MB S k' s' b ↔ MB S k s b) : HV S J k' s' := fun b hb => by
  rw [h b hb]
  by_cases c : MB S k s b
  · rw [cif_pos c, cif_pos ((e b).mpr c)]
  · rw [cif_neg c, cif_neg (fun q => c ((e b).mp q))]
theorem hv_st (hw : w_wf S (fun _ => False)) (hk : k < 128) (hs : s < 25) (h : HV S J k s) : ∃ J', gX11_hold n (w_pl S k (pp s)) J = some J' ∧ HV S J' k (s + 1) ∧ f131 J J' := by
  obtain ⟨hA, hB, -⟩ := hw
  rcases hA k (pp s) hk (pp_lt hs) with q | ⟨x, q, hx⟩
  · refine ⟨J, ?_, hv_eq h (fun b => ?_), fun _ _ _ => rfl⟩
    · rw [q, gX11_hold, bX11_hold_0, a_isd0, Option.bind_some]
      dsimp only
      rw [if_pos n00, if_pos n00]
      rfl
    · rw [mb_s hs]
      refine ⟨fun w => w.resolve_right (fun w => ?_), Or.inl⟩
      have := w.2.2.2
      rw [q] at this
      exact w_D0 w.2.2.1 this.symm
  · have ho : w_own S k (pp s) x := ⟨hk, pp_lt hs, hx, q⟩
    have hx6 := w_D640 hx
    have ga : am_inb (nI x) 640 = true := by rw [z_inb (by omega)]; exact decide_eq_true hx6
    have e0 : J 0 131 x = nI 0 := by rw [h x hx6, cif_neg (mb_fresh hB hs ho)]
    refine ⟨am_up J 0 131 x (nI 1), ?_, fun b hb => ?_, fun a b w => z_upj _ _ _ _ _ _ _ w⟩
    · rw [q, gX11_hold, bX11_hold_0, a_isd1 hx, Option.bind_some]
      dsimp only
      rw [if_neg n10, am_gd_of ga, am_gd_of ga, am_lt, z_clamp (by omega), e0, nI_add]
      rfl
    · rw [z_upk]
      by_cases c : b = x
      · rw [if_pos c, c, cif_pos ((mb_s hs).mpr (Or.inr ho))]
      · rw [if_neg c, h b hb]
        by_cases d : MB S k s b
        · rw [cif_pos d, cif_pos ((mb_s hs).mpr (Or.inl d))]
        · rw [cif_neg d, cif_neg (fun w => ((mb_s hs).mp w).elim d (fun w => c ?_))]
          have := w.2.2.2
          rw [q] at this
          have hb6 := w_D640 w.2.2.1
          exact (w_nI (by omega) (by omega) this).symm
theorem sv_131 {J' : am_I} (h : SV S I J) (f : f131 J J') : SV S I J' := sv_fr h rfl rfl (f 0 127 (by omega))
theorem f131.tr {J J' J'' : am_I} (h : f131 J J') (h' : f131 J' J'') : f131 J J'' := fun a b q => (h' a b q).trans (h a b q)
theorem r_77 {k24 : Int32 → am_I → Option am_I} {x : Nat} (hw : w_wf S (fun _ => False)) (hk : k < 128) (hx : w_D x) (h11 : S (w_ib k) 11 = nI x) : ∀ (m i fu : Nat) (J : am_I), i + m = 16 → m < fu → SV S I J → HV S J k (9 + i) → ∃ J', bX11_findHolders_77 n k24 fu (nI k) (nI x) (nI i) J = k24 (nI (k + 1)) J' ∧ HV S J' k 25 ∧ f131 J J' := by
  have hx6 := w_D640 hx
  intro m
  induction m with
  | zero =>
    intro i fu J hi hfu hs h
    obtain ⟨fu, rfl⟩ : ∃ f, fu = f + 1 := ⟨fu - 1, by omega⟩
    refine ⟨J, ?_, by rw [show 25 = 9 + i by omega]; exact h, fun _ _ _ => rfl⟩
    unfold bX11_findHolders_77
    dsimp only
    rw [a_isd1 hx, Option.bind_some]
    dsimp only
    rw [if_neg n10, if_pos (by rw [z_le (by omega) (by omega)]; omega), bX11_findHolders_111, nI_add]
  | succ m ih =>
    intro i fu J hi hfu hs h
    obtain ⟨fu, rfl⟩ : ∃ f, fu = f + 1 := ⟨fu - 1, by omega⟩
    obtain ⟨J1, h1, h2, h3⟩ := hv_st (n := n) hw hk (show 9 + i < 25 by omega) h
    obtain ⟨J', g1, g2, g3⟩ := ih (i + 1) fu J1 (by omega) (by omega) (sv_131 hs h3) h2
    refine ⟨J', ?_, g2, h3.tr g3⟩
    conv => lhs; unfold bX11_findHolders_77
    dsimp only
    rw [a_isd1 hx, Option.bind_some]
    dsimp only
    rw [if_neg n10, if_neg (by rw [z_le (by omega) (by omega)]; omega), pk_mul, nI_add, am_gd_of (by rw [z_inb (by omega)]; exact decide_eq_true (by omega)), z_clamp (by omega), hs.2 x i hx6 (by omega), ← pl_x (by omega) hx h11, h1, Option.bind_some, nI_add]
    exact g1
theorem r_45 {k24 : Int32 → am_I → Option am_I} (hw : w_wf S (fun _ => False)) (hk : k < 128) : ∀ (m i fu : Nat) (J : am_I), i + m = 12 → 3 ≤ i → m < fu → SV S I J → HV S J k (i - 3) → ∃ J', bX11_findHolders_45 n k24 fu (nI k) (nI i) J = k24 (nI (k + 1)) J' ∧ HV S J' (k + 1) 0 ∧ f131 J J' := by
  intro m
  induction m with
  | zero =>
    intro i fu J hi hi3 hfu hs h
    obtain ⟨fu, rfl⟩ : ∃ f, fu = f + 1 := ⟨fu - 1, by omega⟩
    obtain ⟨f, hf, hf1⟩ := fu_ex
    have h9 : HV S J k 9 := by rw [show 9 = i - 3 by omega]; exact h
    unfold bX11_findHolders_45
    dsimp only
    rw [if_pos (by rw [z_lt (by omega) (by omega)]; omega), sv_ai hs hk (by omega), Option.bind_some]
    dsimp only
    by_cases c : S (w_ib k) 11 = nI 0
    · refine ⟨J, ?_, hv_eq h9 (fun b => mb_k.trans (mb_x c)), fun _ _ _ => rfl⟩
      rw [hf]
      unfold bX11_findHolders_77
      dsimp only
      rw [c, a_isd0, Option.bind_some]
      dsimp only
      rw [if_pos n00, bX11_findHolders_111, nI_add]
    · obtain ⟨x, x1, x2, -⟩ := w_ix hw.1 hk c
      obtain ⟨J', g1, g2, g3⟩ := r_77 (n := n) (k24 := k24) hw hk x2 x1 16 0 am_fu J (by omega) (by rw [hf]; omega) hs h9
      exact ⟨J', by rw [x1]; exact g1, hv_eq g2 (fun b => mb_k), g3⟩
  | succ m ih =>
    intro i fu J hi hi3 hfu hs h
    obtain ⟨fu, rfl⟩ : ∃ f, fu = f + 1 := ⟨fu - 1, by omega⟩
    obtain ⟨J1, h1, h2, h3⟩ := hv_st (n := n) hw hk (show i - 3 < 25 by omega) h
    obtain ⟨J', g1, g2, g3⟩ := ih (i + 1) fu J1 (by omega) (by omega) (by omega) (sv_131 hs h3) (by rw [show i + 1 - 3 = i - 3 + 1 by omega]; exact h2)
    refine ⟨J', ?_, g2, h3.tr g3⟩
    conv => lhs; unfold bX11_findHolders_45
    dsimp only
    rw [if_neg (by rw [z_lt (by omega) (by omega)]; omega), sv_ai hs hk (by omega), Option.bind_some]
    dsimp only
    rw [← pl_h (S := S) (k := k) hi3 (by omega), h1, Option.bind_some, nI_add]
    exact g1
theorem r_24 (hx : x_wf S (fun _ => False)) : ∀ (m k fu : Nat) (J : am_I), k + m = 128 → m < fu → SV S I J → HV S J k 0 → ∃ J', bX11_findHolders_24 n fu (nI k) J = some J' ∧ HV S J' 128 0 ∧ f131 J J' := by
  intro m
  induction m with
  | zero =>
    intro k fu J hk hfu hs h
    obtain ⟨fu, rfl⟩ : ∃ f, fu = f + 1 := ⟨fu - 1, by omega⟩
    refine ⟨J, ?_, by rw [show 128 = k by omega]; exact h, fun _ _ _ => rfl⟩
    unfold bX11_findHolders_24
    dsimp only
    rw [if_pos (by rw [z_le (by omega) (by omega)]; omega)]
  | succ m ih =>
    intro k fu J hk hfu hs h
    obtain ⟨fu, rfl⟩ : ∃ f, fu = f + 1 := ⟨fu - 1, by omega⟩
    obtain ⟨f, hf, hf1⟩ := fu_ex
    by_cases c : S (w_ib k) 0 = nI 0
    · obtain ⟨J', g1, g2, g3⟩ := ih (k + 1) fu J (by omega) (by omega) hs (hv_eq h (fun b => mb_z hx.2.1 (by omega) c))
      refine ⟨J', ?_, g2, g3⟩
      conv => lhs; unfold bX11_findHolders_24
      dsimp only
      rw [if_neg (by rw [z_le (by omega) (by omega)]; omega), sv_ai hs (by omega) (by omega), Option.bind_some]
      dsimp only
      rw [if_pos (show S (w_ib k) 0 = 0 from c), bX11_findHolders_111, nI_add]
      exact g1
    · obtain ⟨J1, h1, h2, h3⟩ := r_45 (n := n) (k24 := bX11_findHolders_24 n fu) hx.1 (show k < 128 by omega) 9 3 am_fu J (by omega) (by omega) (by rw [hf]; omega) hs h
      obtain ⟨J', g1, g2, g3⟩ := ih (k + 1) fu J1 (by omega) (by omega) (sv_131 hs h3) h2
      refine ⟨J', ?_, g2, h3.tr g3⟩
      conv => lhs; unfold bX11_findHolders_24
      dsimp only
      rw [if_neg (by rw [z_le (by omega) (by omega)]; omega), sv_ai hs (by omega) (by omega), Option.bind_some]
      dsimp only
      rw [if_neg (show ¬ S (w_ib k) 0 = 0 from c), h1]
      exact g1
theorem r_2 : ∀ (m i fu : Nat) (J : am_I), i + m = 640 → m < fu → ∃ J', bX11_findHolders_2 n fu (nI i) J = bX11_findHolders_24 n am_fu (nI 0) J' ∧ (∀ k, J' 0 131 k = if i ≤ k ∧ k < 640 then nI 0 else J 0 131 k) ∧ f131 J J' := by
  intro m
  induction m with
  | zero =>
    intro i fu J hi hfu
    obtain ⟨fu, rfl⟩ : ∃ f, fu = f + 1 := ⟨fu - 1, by omega⟩
    refine ⟨J, ?_, fun k => by rw [if_neg (by omega)], fun _ _ _ => rfl⟩
    unfold bX11_findHolders_2
    dsimp only
    rw [if_pos (by rw [z_le (by omega) (by omega)]; omega)]
  | succ m ih =>
    intro i fu J hi hfu
    obtain ⟨fu, rfl⟩ : ∃ f, fu = f + 1 := ⟨fu - 1, by omega⟩
    obtain ⟨J', h1, h2, h3⟩ := ih (i + 1) fu (am_up J 0 131 i (nI 0)) (by omega) (by omega)
    refine ⟨J', ?_, fun k => ?_, fun a b q => (h3 a b q).trans (z_upj _ _ _ _ _ _ _ q)⟩
    · conv => lhs; unfold bX11_findHolders_2
      dsimp only
      rw [if_neg (by rw [z_le (by omega) (by omega)]; omega), am_gd_of (by rw [z_inb (by omega)]; exact decide_eq_true (by omega)), z_clamp (by omega), am_lt, nI_add]
      exact h1
    · rw [h2 k, z_upk]
      by_cases c : i + 1 ≤ k ∧ k < 640
      · rw [if_pos c, if_pos (by omega)]
      · rw [if_neg c]
        by_cases d : k = i
        · rw [if_pos d, if_pos (by omega)]
        · rw [if_neg d, if_neg (by omega)]
theorem r_hold (hx : x_wf S (fun _ => False)) (hs : SV S I J) : ∃ J', gX11_findHolders n J = some J' ∧ HV S J' 128 0 ∧ f131 J J' := by
  obtain ⟨f, hf, hf1⟩ := fu_ex
  obtain ⟨J1, h1, h2, h3⟩ := r_2 (n := n) 640 0 am_fu J (by omega) (by rw [hf]; omega)
  obtain ⟨J', g1, g2, g3⟩ := r_24 (n := n) hx 128 0 am_fu J1 (by omega) (by rw [hf]; omega) (sv_131 hs h3) (fun b hb => by rw [h2 b, if_pos ⟨by omega, hb⟩, cif_neg mb_0])
  exact ⟨J', by rw [gX11_findHolders, bX11_findHolders_0, h1, g1], g2, h3.tr g3⟩
end HOLD
