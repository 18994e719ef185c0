
def pT (S : wS) (J : am_I) (j : Nat) : Prop := S (w_ib j) 0 = nI 2 ∧ ¬ J 0 129 j ≤ nI 1
def pA (S : wS) (J : am_I) (j : Nat) : Prop := ¬ S (w_ib j) 0 = nI 0 ∧ J 0 128 j = nI 0
def pL (S : wS) (J : am_I) (j : Nat) : Prop := ¬ S (w_ib j) 0 = nI 0 ∧ ¬ S (w_ib j) 1 = J 0 129 j
/-- the end of the reference's first loop -/
def wEnd (n : Nat) (l1 l2 l3 : Int32) (J : am_I) : Option (Int32 × am_I) := if l1 = 0 then (if l2 = 0 then (if l3 = 0 then ((gX11_findHolders n J).bind (fun q1 => am_gd (am_inb (nI 0) 640) (if (q1 0 131 ((nI 0).toNatClampNeg)) ≤ 0 then (bX11_whole_210 n (nI 0) q1) else (bX11_whole_210 n (nI 1) q1)))) else (bX11_whole_174 n l1 l2 J)) else (bX11_whole_174 n l1 l2 J)) else (bX11_whole_174 n l1 l2 J)
section TREE
variable {n : Nat} {S : wS} {I J : am_I} {Q : List Nat} {b : Nat}
theorem ni_f {a : Nat} (h : a = 1) : ¬ nI a = (0 : Int32) := by rw [h]; decide
theorem m_118 {k49 : Int32 → Int32 → Int32 → Int32 → am_I → Option (Int32 × am_I)} {l1 l2 : Int32} {c k : Nat} (hs : SV S I J) (hk : k < 128) (hc : c ≤ 1) : ∃ c', c' ≤ 1 ∧ (c' = 1 ↔ c = 1 ∨ pL S J k) ∧ bX11_whole_118 n k49 l1 (nI c) (nI k) l2 J = k49 l1 l2 (nI c') (nI (k + 1)) J := by
  have ga : am_inb (nI k) 128 = true := by rw [z_inb (by omega)]; exact decide_eq_true hk
  rw [bX11_whole_118]
  rcases Nat.le_one_iff_eq_zero_or_eq_one.mp hc with rfl | rfl
  · rw [if_pos n00, sv_ai hs hk (by omega), Option.bind_some]
    dsimp only
    by_cases c0 : S (w_ib k) 0 = nI 0
    · refine ⟨0, by omega, ⟨fun q => absurd q (by omega), fun q => ?_⟩, ?_⟩
      · rcases q with q | q
        · exact q
        · exact absurd c0 q.1
      · rw [if_pos (show S (w_ib k) 0 = 0 from c0), bX11_whole_154, bX11_whole_155, nI_add]
    · rw [if_neg (show ¬ S (w_ib k) 0 = 0 from c0), sv_ai hs hk (by omega), Option.bind_some, am_gd_of ga]
      dsimp only
      rw [z_clamp (by omega)]
      by_cases c1 : S (w_ib k) 1 = J 0 129 k
      · refine ⟨0, by omega, ⟨fun q => absurd q (by omega), fun q => ?_⟩, ?_⟩
        · rcases q with q | q
          · exact q
          · exact absurd c1 q.2
        · rw [if_pos c1, bX11_whole_154, bX11_whole_155, nI_add]
      · exact ⟨1, by omega, ⟨fun _ => Or.inr ⟨c0, c1⟩, fun _ => rfl⟩, by rw [if_neg c1, bX11_whole_150, bX11_whole_155, nI_add]⟩
  · exact ⟨1, by omega, ⟨fun _ => Or.inl rfl, fun _ => rfl⟩, by rw [if_neg n10, bX11_whole_150, bX11_whole_155, nI_add]⟩
theorem m_88 {k49 : Int32 → Int32 → Int32 → Int32 → am_I → Option (Int32 × am_I)} {l1 l3 : Int32} {c k : Nat} (hs : SV S I J) (hk : k < 128) (hc : c ≤ 1) : ∃ c', c' ≤ 1 ∧ (c' = 1 ↔ c = 1 ∨ pA S J k) ∧ bX11_whole_88 n k49 (nI c) l3 (nI k) l1 J = bX11_whole_118 n k49 l1 l3 (nI k) (nI c') J := by
  have ga : am_inb (nI k) 128 = true := by rw [z_inb (by omega)]; exact decide_eq_true hk
  rw [bX11_whole_88]
  rcases Nat.le_one_iff_eq_zero_or_eq_one.mp hc with rfl | rfl
  · rw [if_pos n00, sv_ai hs hk (by omega), Option.bind_some]
    dsimp only
    by_cases c0 : S (w_ib k) 0 = nI 0
    · refine ⟨0, by omega, ⟨fun q => absurd q (by omega), fun q => ?_⟩, ?_⟩
      · rcases q with q | q
        · exact q
        · exact absurd c0 q.1
      · rw [if_pos (show S (w_ib k) 0 = 0 from c0), bX11_whole_117]
    · rw [if_neg (show ¬ S (w_ib k) 0 = 0 from c0), am_gd_of ga, z_clamp (by omega)]
      by_cases c1 : J 0 128 k = nI 0
      · exact ⟨1, by omega, ⟨fun _ => Or.inr ⟨c0, c1⟩, fun _ => rfl⟩, by rw [if_pos (show J 0 128 k = 0 from c1), bX11_whole_113]⟩
      · refine ⟨0, by omega, ⟨fun q => absurd q (by omega), fun q => ?_⟩, ?_⟩
        · rcases q with q | q
          · exact q
          · exact absurd q.2 c1
        · rw [if_neg (show ¬ J 0 128 k = 0 from c1), bX11_whole_117]
  · exact ⟨1, by omega, ⟨fun _ => Or.inl rfl, fun _ => rfl⟩, by rw [if_neg n10, bX11_whole_113]⟩
theorem m_49 {fu a b c k : Nat} (hs : SV S I J) (hk : k < 128) (ha : a ≤ 1) (hb : b ≤ 1) (hc : c ≤ 1) : ∃ a' b' c', a' ≤ 1 ∧ b' ≤ 1 ∧ c' ≤ 1 ∧ (a' = 1 ↔ a = 1 ∨ pT S J k) ∧ (b' = 1 ↔ b = 1 ∨ pA S J k) ∧ (c' = 1 ↔ c = 1 ∨ pL S J k) ∧ bX11_whole_49 n (fu + 1) (nI a) (nI b) (nI c) (nI k) J = bX11_whole_49 n fu (nI a') (nI b') (nI c') (nI (k + 1)) J := by
  have ga : am_inb (nI k) 128 = true := by rw [z_inb (by omega)]; exact decide_eq_true hk
  obtain ⟨a', a1, a2, a3⟩ : ∃ a', a' ≤ 1 ∧ (a' = 1 ↔ a = 1 ∨ pT S J k) ∧ bX11_whole_49 n (fu + 1) (nI a) (nI b) (nI c) (nI k) J = bX11_whole_88 n (bX11_whole_49 n fu) (nI b) (nI c) (nI k) (nI a') J := by
    conv => enter [1, a', 2, 2, 1]; unfold bX11_whole_49
    dsimp only
    rw [if_neg (by rw [z_le (by omega) (by omega)]; omega)]
    rcases Nat.le_one_iff_eq_zero_or_eq_one.mp ha with rfl | rfl
    · rw [if_pos n00, sv_ai hs hk (by omega), Option.bind_some]
      dsimp only
      by_cases c0 : S (w_ib k) 0 = nI 2
      · rw [if_pos c0, am_gd_of ga, z_clamp (by omega)]
        by_cases c1 : J 0 129 k ≤ nI 1
        · refine ⟨0, by omega, ⟨fun q => absurd q (by omega), fun q => ?_⟩, ?_⟩
          · rcases q with q | q
            · exact q
            · exact absurd c1 q.2
          · rw [if_pos c1, bX11_whole_87]
        · exact ⟨1, by omega, ⟨fun _ => Or.inr ⟨c0, c1⟩, fun _ => rfl⟩, by rw [if_neg c1, bX11_whole_83]⟩
      · refine ⟨0, by omega, ⟨fun q => absurd q (by omega), fun q => ?_⟩, ?_⟩
        · rcases q with q | q
          · exact q
          · exact absurd q.1 c0
        · rw [if_neg c0, bX11_whole_87]
    · exact ⟨1, by omega, ⟨fun _ => Or.inl rfl, fun _ => rfl⟩, by rw [if_neg n10, bX11_whole_83]⟩
  obtain ⟨b', b1, b2, b3⟩ := m_88 (n := n) (k49 := bX11_whole_49 n fu) (l1 := nI a') (l3 := nI c) hs hk hb
  obtain ⟨c', c1, c2, c3⟩ := m_118 (n := n) (k49 := bX11_whole_49 n fu) (l1 := nI a') (l2 := nI b') hs hk hc
  exact ⟨a', b', c', a1, b1, c1, a2, b2, c2, by rw [a3, b3, c3]⟩
theorem ex_s {p : Nat → Prop} {k : Nat} (hk : k < 128) : (p k ∨ ∃ j, k + 1 ≤ j ∧ j < 128 ∧ p j) ↔ ∃ j, k ≤ j ∧ j < 128 ∧ p j := by
  constructor
  · rintro (q | ⟨j, h1, h2, h3⟩)
    · exact ⟨k, by omega, hk, q⟩
    · exact ⟨j, by omega, h2, h3⟩
  · rintro ⟨j, h1, h2, h3⟩
    by_cases c : j = k
    · exact Or.inl (c ▸ h3)
    · exact Or.inr ⟨j, by omega, h2, h3⟩
theorem m_lp (hs : SV S I J) : ∀ (m k fu a b c : Nat), k + m = 128 → m < fu → a ≤ 1 → b ≤ 1 → c ≤ 1 → ∃ a' b' c', a' ≤ 1 ∧ b' ≤ 1 ∧ c' ≤ 1 ∧ (a' = 1 ↔ a = 1 ∨ ∃ j, k ≤ j ∧ j < 128 ∧ pT S J j) ∧ (b' = 1 ↔ b = 1 ∨ ∃ j, k ≤ j ∧ j < 128 ∧ pA S J j) ∧ (c' = 1 ↔ c = 1 ∨ ∃ j, k ≤ j ∧ j < 128 ∧ pL S J j) ∧ bX11_whole_49 n fu (nI a) (nI b) (nI c) (nI k) J = wEnd n (nI a') (nI b') (nI c') J := by
  intro m
  induction m with
  | zero =>
    intro k fu a b c hk hfu ha hb hc
    obtain ⟨fu, rfl⟩ : ∃ f, fu = f + 1 := ⟨fu - 1, by omega⟩
    have no : ∀ p : Nat → Prop, ¬ ∃ j, k ≤ j ∧ j < 128 ∧ p j := fun p ⟨j, h1, h2, _⟩ => by omega
    refine ⟨a, b, c, ha, hb, hc, ⟨Or.inl, fun q => q.resolve_right (no _)⟩, ⟨Or.inl, fun q => q.resolve_right (no _)⟩, ⟨Or.inl, fun q => q.resolve_right (no _)⟩, ?_⟩
    unfold bX11_whole_49
    dsimp only
    rw [if_pos (by rw [z_le (by omega) (by omega)]; omega)]
    rfl
  | succ m ih =>
    intro k fu a b c hk hfu ha hb hc
    obtain ⟨fu, rfl⟩ : ∃ f, fu = f + 1 := ⟨fu - 1, by omega⟩
    obtain ⟨a', b', c', h1, h2, h3, h4, h5, h6, h7⟩ := m_49 (n := n) (fu := fu) (k := k) hs (by omega) ha hb hc
    obtain ⟨a2, b2, c2, g1, g2, g3, g4, g5, g6, g7⟩ := ih (k + 1) fu a' b' c' (by omega) (by omega) h1 h2 h3
    refine ⟨a2, b2, c2, g1, g2, g3, ?_, ?_, ?_, by rw [h7, g7]⟩
    · rw [g4, h4, or_assoc, ex_s (by omega)]
    · rw [g5, h5, or_assoc, ex_s (by omega)]
    · rw [g6, h6, or_assoc, ex_s (by omega)]
/-- the class's three looks -/
theorem k_tw (hs : SV S I J) (h : WK S I J Q b) : ∀ (m k fu : Nat), k + m = 128 → m < fu → ∃ r, r ≤ 1 ∧ bX2_isNamedTwice_2 n fu (nI k) I = some (nI r, I) ∧ (r = 1 ↔ ¬ J 0 129 0 ≤ nI 0 ∨ ∃ j, k ≤ j ∧ j < 128 ∧ pT S J j) := by
  intro m
  induction m with
  | zero =>
    intro k fu hk hfu
    obtain ⟨fu, rfl⟩ : ∃ f, fu = f + 1 := ⟨fu - 1, by omega⟩
    have no : ∀ p : Nat → Prop, ¬ ∃ j, k ≤ j ∧ j < 128 ∧ p j := fun p ⟨j, h1, h2, _⟩ => by omega
    have e0 := (h.2.2.1 0 (by omega)).1
    unfold bX2_isNamedTwice_2
    dsimp only
    rw [if_pos (by rw [z_le (by omega) (by omega)]; omega), am_gd_of (by decide), show (nI 0).toNatClampNeg = 0 from rfl, e0]
    by_cases c : J 0 129 0 ≤ nI 0
    · exact ⟨0, by omega, by rw [if_pos (show J 0 129 0 ≤ 0 from c)]; rfl, ⟨fun q => absurd q (by omega), fun q => q.elim (fun q => absurd c q) (fun q => absurd q (no _))⟩⟩
    · exact ⟨1, by omega, by rw [if_neg (show ¬ J 0 129 0 ≤ 0 from c)]; rfl, ⟨fun _ => Or.inl c, fun _ => rfl⟩⟩
  | succ m ih =>
    intro k fu hk hfu
    obtain ⟨fu, rfl⟩ : ∃ f, fu = f + 1 := ⟨fu - 1, by omega⟩
    obtain ⟨r, h1, h2, h3⟩ := ih (k + 1) fu (by omega) (by omega)
    have e0 := (h.2.2.1 k (by omega)).1
    have next : ¬ pT S J k → (r = 1 ↔ ¬ J 0 129 0 ≤ nI 0 ∨ ∃ j, k ≤ j ∧ j < 128 ∧ pT S J j) := fun hn => by
      rw [h3, ← ex_s (show k < 128 by omega)]
      constructor
      · rintro (q | q)
        · exact Or.inl q
        · exact Or.inr (Or.inr q)
      · rintro (q | q | q)
        · exact Or.inl q
        · exact absurd q hn
        · exact Or.inr q
    conv => enter [1, r, 2, 1, 1]; unfold bX2_isNamedTwice_2
    dsimp only
    rw [if_neg (by rw [z_le (by omega) (by omega)]; omega), am_gd_of (by rw [z_inb (by omega)]; exact decide_eq_true (by omega)), z_clamp (by omega), e0]
    by_cases c : J 0 129 k ≤ nI 1
    · exact ⟨r, h1, by rw [if_pos c, bX2_isNamedTwice_30, nI_add]; exact h2, next (fun q => q.2 c)⟩
    · rw [if_neg c, sv_kind hs (by omega), Option.bind_some]
      dsimp only
      by_cases d : S (w_ib k) 0 = nI 2
      · exact ⟨1, by omega, by rw [if_pos d], ⟨fun _ => Or.inr ⟨k, by omega, by omega, d, c⟩, fun _ => rfl⟩⟩
      · exact ⟨r, h1, by rw [if_neg d, bX2_isNamedTwice_30, nI_add]; exact h2, next (fun q => d q.1)⟩
theorem k_la (hs : SV S I J) (h : WK S I J Q b) : ∀ (m k fu : Nat), k + m = 128 → m < fu → ∃ r, r ≤ 1 ∧ bX2_isLeftAlone_2 n fu (nI k) I = some (nI r, I) ∧ (r = 1 ↔ ∃ j, k ≤ j ∧ j < 128 ∧ pA S J j) := by
  intro m
  induction m with
  | zero =>
    intro k fu hk hfu
    obtain ⟨fu, rfl⟩ : ∃ f, fu = f + 1 := ⟨fu - 1, by omega⟩
    refine ⟨0, by omega, ?_, ⟨fun q => absurd q (by omega), fun ⟨j, h1, h2, _⟩ => by omega⟩⟩
    unfold bX2_isLeftAlone_2
    dsimp only
    rw [if_pos (by rw [z_le (by omega) (by omega)]; omega)]
  | succ m ih =>
    intro k fu hk hfu
    obtain ⟨fu, rfl⟩ : ∃ f, fu = f + 1 := ⟨fu - 1, by omega⟩
    obtain ⟨r, h1, h2, h3⟩ := ih (k + 1) fu (by omega) (by omega)
    have e0 := (h.2.2.2.1 k (by omega)).1
    have next : ¬ pA S J k → (r = 1 ↔ ∃ j, k ≤ j ∧ j < 128 ∧ pA S J j) := fun hn => by
      rw [h3, ← ex_s (show k < 128 by omega)]
      exact ⟨Or.inr, fun q => q.resolve_left hn⟩
    conv => enter [1, r, 2, 1, 1]; unfold bX2_isLeftAlone_2
    dsimp only
    rw [if_neg (by rw [z_le (by omega) (by omega)]; omega), am_gd_of (by rw [z_inb (by omega)]; exact decide_eq_true (by omega)), z_clamp (by omega), e0]
    by_cases c : J 0 128 k = nI 0
    · rw [if_pos (show J 0 128 k = 0 from c), sv_kind hs (by omega), Option.bind_some]
      dsimp only
      by_cases d : S (w_ib k) 0 = nI 0
      · exact ⟨r, h1, by rw [if_pos (show S (w_ib k) 0 = 0 from d), bX2_isLeftAlone_28, nI_add]; exact h2, next (fun q => q.1 d)⟩
      · exact ⟨1, by omega, by rw [if_neg (show ¬ S (w_ib k) 0 = 0 from d)], ⟨fun _ => ⟨k, by omega, by omega, d, c⟩, fun _ => rfl⟩⟩
    · exact ⟨r, h1, by rw [if_neg (show ¬ J 0 128 k = 0 from c), bX2_isLeftAlone_28, nI_add]; exact h2, next (fun q => c q.2)⟩
theorem k_wl (hZ : w_Z S) (hs : SV S I J) (h : WK S I J Q b) : ∀ (m k fu : Nat), k + m = 128 → 1 ≤ k → m < fu → ∃ r, r ≤ 1 ∧ bX2_hasWrongLinks_2 n fu (nI k) I = some (nI r, I) ∧ (r = 1 ↔ ∃ j, k ≤ j ∧ j < 128 ∧ pL S J j) := by
  intro m
  induction m with
  | zero =>
    intro k fu hk hk1 hfu
    obtain ⟨fu, rfl⟩ : ∃ f, fu = f + 1 := ⟨fu - 1, by omega⟩
    refine ⟨0, by omega, ?_, ⟨fun q => absurd q (by omega), fun ⟨j, h1, h2, _⟩ => by omega⟩⟩
    unfold bX2_hasWrongLinks_2
    dsimp only
    rw [if_pos (by rw [z_le (by omega) (by omega)]; omega)]
  | succ m ih =>
    intro k fu hk hk1 hfu
    obtain ⟨fu, rfl⟩ : ∃ f, fu = f + 1 := ⟨fu - 1, by omega⟩
    obtain ⟨r, h1, h2, h3⟩ := ih (k + 1) fu (by omega) (by omega) (by omega)
    obtain ⟨e0, e1⟩ := h.2.2.1 k (by omega)
    have next : ¬ pL S J k → (r = 1 ↔ ∃ j, k ≤ j ∧ j < 128 ∧ pL S J j) := fun hn => by
      rw [h3, ← ex_s (show k < 128 by omega)]
      exact ⟨Or.inr, fun q => q.resolve_left hn⟩
    have hib := w_ib_lt (show k < 128 by omega)
    conv => enter [1, r, 2, 1, 1]; unfold bX2_hasWrongLinks_2
    dsimp only
    rw [if_neg (by rw [z_le (by omega) (by omega)]; omega), c_ib n k I (by omega), Option.bind_some]
    dsimp only
    rw [sv_at hs hib (by omega), Option.bind_some]
    dsimp only
    rw [if_neg (show ¬ nI k = 0 from fun q => by
      have := (z_eq (a := k) (b := 0) (by omega) (by omega)).mp q
      omega), am_gd_of (by rw [z_inb (by omega)]; exact decide_eq_true (by omega)), z_clamp (by omega), e0, bX2_hasWrongLinks_32]
    by_cases c : S (w_ib k) 1 = J 0 129 k
    · exact ⟨r, h1, by rw [if_pos c, nI_add]; exact h2, next (fun q => q.2 c)⟩
    · refine ⟨1, by omega, by rw [if_neg c], ⟨fun _ => ⟨k, by omega, by omega, fun q => c ?_, c⟩, fun _ => rfl⟩⟩
      rw [e1 q, hZ k (by omega) q 1 (by omega)]
theorem k_wl0 (hZ : w_Z S) (hs : SV S I J) (h : WK S I J Q b) : ∃ r, r ≤ 1 ∧ gX2_hasWrongLinks n I = some (nI r, I) ∧ (r = 1 ↔ ¬ S (w_ib 0) 1 = nI 1 ∨ ∃ j, 1 ≤ j ∧ j < 128 ∧ pL S J j) := by
  obtain ⟨f, hf, hf1⟩ := fu_ex
  obtain ⟨r, h1, h2, h3⟩ := k_wl (n := n) hZ hs h 127 1 f (by omega) (by omega) (by omega)
  have hib := w_ib_lt (show 0 < 128 by omega)
  rw [gX2_hasWrongLinks, bX2_hasWrongLinks_0, hf]
  conv => enter [1, r, 2, 1, 1]; unfold bX2_hasWrongLinks_2
  dsimp only
  rw [if_neg (by decide), c_ib n 0 I (by omega), Option.bind_some]
  dsimp only
  rw [sv_at hs hib (by omega), Option.bind_some]
  dsimp only
  rw [if_pos n00, bX2_hasWrongLinks_32]
  by_cases c : S (w_ib 0) 1 = nI 1
  · exact ⟨r, h1, by rw [if_pos c, nI_add]; exact h2, by rw [h3]; exact ⟨Or.inr, fun q => q.resolve_left (fun w => w c)⟩⟩
  · exact ⟨1, by omega, by rw [if_neg c], ⟨fun _ => Or.inl c, fun _ => rfl⟩⟩
end TREE
