
/-- the class's list of logged blocks -/
def LCl (x : Nat) (I : am_I) (lg : List Nat) : Prop := I x 44 2 = nI lg.length ∧ ∀ k b, lg[k]? = some b → I x 45 k = nI b
def fLg (x : Nat) (I I' : am_I) : Prop := (∀ a b, ¬ (a = x ∧ (b = 44 ∨ b = 45)) → I' a b = I a b) ∧ ∀ k, ¬ k = 2 → I' x 44 k = I x 44 k
theorem fLg.rf {x : Nat} {I : am_I} : fLg x I I := ⟨fun _ _ _ => rfl, fun _ _ => rfl⟩
theorem fLg.tr {x : Nat} {I I' I'' : am_I} (h : fLg x I I') (h' : fLg x I' I'') : fLg x I I'' := ⟨fun a b q => (h'.1 a b q).trans (h.1 a b q), fun k q => (h'.2 k q).trans (h.2 k q)⟩
theorem get_app {l m : List Nat} {k b : Nat} (h : (l ++ m)[k]? = some b) : (k < l.length ∧ l[k]? = some b) ∨ (l.length ≤ k ∧ m[k - l.length]? = some b) := by
  rcases Nat.lt_or_ge k l.length with q | q
  · rw [List.getElem?_append_left q] at h
    exact Or.inl ⟨q, h⟩
  · rw [List.getElem?_append_right q] at h
    exact Or.inr ⟨q, h⟩
theorem get_one {k b c : Nat} (h : [c][k]? = some b) : k = 0 ∧ b = c := by
  cases k with
  | zero => exact ⟨rfl, (Option.some.inj h).symm⟩
  | succ k => simp at h
section LOG
variable {n x : Nat}
theorem rv_lp {b : Nat} (hb : b < 640) : ∀ (suf pre : List Nat) (j fu : Nat) (I : am_I), suf.length < fu → pre.length ≤ j → j + suf.length ≤ 16 → (∀ c, c ∈ suf → c < 640) → I x 44 2 = nI (j + suf.length) → (∀ k c, pre[k]? = some c → I x 45 k = nI c) → (∀ k c, suf[k]? = some c → I x 45 (j + k) = nI c) → ∃ I', bX3_remove_4 n fu x (nI b) (nI pre.length) (nI j) I = some I' ∧ LCl x I' (pre ++ suf.filter (fun c => decide (¬ c = b))) ∧ fLg x I I' := by
  intro suf
  induction suf with
  | nil =>
    intro pre j fu I hf hp hj h640 h2 h3 h4
    obtain ⟨fu, rfl⟩ : ∃ f, fu = f + 1 := ⟨fu - 1, by omega⟩
    refine ⟨am_up I x 44 2 (nI pre.length), ?_, ⟨?_, fun k c hk => ?_⟩, fun a c q => z_upj _ _ _ _ _ _ _ (by omega), fun k q => by rw [z_upk, if_neg q]⟩
    · conv => lhs; unfold bX3_remove_4
      dsimp only
      have : I x 44 2 ≤ nI j := by rw [h2, z_le (by simp at hj ⊢; omega) (by omega)]; simp
      rw [if_pos this, am_lt]
    · rw [z_upk, if_pos rfl, List.filter_nil, List.append_nil]
    · rw [List.filter_nil, List.append_nil] at hk
      rw [z_upj _ _ _ _ _ _ _ (by omega)]
      exact h3 k c hk
  | cons d suf ih =>
    intro pre j fu I hf hp hj h640 h2 h3 h4
    obtain ⟨fu, rfl⟩ : ∃ f, fu = f + 1 := ⟨fu - 1, by omega⟩
    rw [List.length_cons] at hf hj h2
    have hd := h640 d List.mem_cons_self
    have h45 : I x 45 j = nI d := h4 0 d rfl
    have hle : ¬ I x 44 2 ≤ nI j := by rw [h2, z_le (by omega) (by omega)]; omega
    have g1 : j < 16 := by omega
    have g2 : pre.length < 16 := by omega
    by_cases e : d = b
    · have e2 : I x 45 (nI j).toNatClampNeg = nI b := by rw [z_clamp (by omega), h45, e]
      obtain ⟨I', r1, r2, r3⟩ := ih pre (j + 1) fu I (by omega) (by omega) (by omega) (fun c hc => h640 c (List.mem_cons_of_mem _ hc)) (by rw [h2]; exact congrArg nI (by omega)) h3 (fun k c hk => by
        have := h4 (k + 1) c hk
        rw [← this]
        exact congrArg _ (by omega))
      refine ⟨I', ?_, ?_, r3⟩
      · rw [← r1]
        conv => lhs; unfold bX3_remove_4
        dsimp only
        rw [if_neg hle, z_inb (by omega), decide_eq_true g1, z_gdt, if_pos e2, bX3_remove_37, nI_add]
      · rw [List.filter_cons, if_neg (by simp [e])]
        exact r2
    · have e2 : ¬ I x 45 (nI j).toNatClampNeg = nI b := by
        rw [z_clamp (by omega), h45]
        exact fun q => e (w_nI (by omega) (by omega) q)
      obtain ⟨I', r1, r2, r3⟩ := ih (pre ++ [d]) (j + 1) fu (am_up I x 45 pre.length (nI d)) (by omega) (by rw [List.length_append]; simp; omega) (by omega) (fun c hc => h640 c (List.mem_cons_of_mem _ hc)) (by rw [z_upj _ _ _ _ _ _ _ (by omega), h2]; exact congrArg nI (by omega)) (fun k c hk => by
        rw [z_upk]
        rcases get_app hk with ⟨q1, q2⟩ | ⟨q1, q2⟩
        · rw [if_neg (by omega)]
          exact h3 k c q2
        · obtain ⟨a1, a2⟩ := get_one q2
          rw [if_pos (by omega), a2]) (fun k c hk => by
        have := h4 (k + 1) c hk
        rw [z_upk, if_neg (by omega), ← this]
        exact congrArg _ (by omega))
      refine ⟨I', ?_, ?_, ?_⟩
      · rw [← r1]
        conv => lhs; unfold bX3_remove_4
        dsimp only
        rw [if_neg hle, z_inb (by omega), decide_eq_true g1, z_gdt, if_neg e2, z_gdt, z_inb (by omega), decide_eq_true g2, z_gdt, am_lt, bX3_remove_37, nI_add, nI_add, z_clamp (by omega), z_clamp (by omega), h45, List.length_append]
        rfl
      · rw [List.filter_cons, if_pos (by simp [e])]
        rw [List.append_assoc] at r2
        exact r2
      · exact fLg.tr ⟨fun a c q => z_upj _ _ _ _ _ _ _ (by omega), fun k q => by rw [z_upj _ _ _ _ _ _ _ (by omega)]⟩ r3
theorem c_rmv {b : Nat} {lg : List Nat} {I : am_I} (hb : b < 640) (hl : lg.length ≤ 16) (h640 : ∀ c, c ∈ lg → c < 640) (h : LCl x I lg) : ∃ I', gX3_remove n x (nI b) I = some I' ∧ LCl x I' (lg.filter (fun c => decide (¬ c = b))) ∧ fLg x I I' := by
  rw [gX3_remove, bX3_remove_0]
  obtain ⟨I', r1, r2, r3⟩ := rv_lp (n := n) (x := x) hb lg [] 0 am_fu I (fu_lt (by omega)) (Nat.zero_le _) (by omega) h640 (by rw [Nat.zero_add]; exact h.1) (fun k c hk => by simp at hk) (fun k c hk => by rw [Nat.zero_add]; exact h.2 k c hk)
  exact ⟨I', r1, r2, r3⟩
theorem hl_lp {b : Nat} {I : am_I} (hb : b < 640) : ∀ (suf : List Nat) (j fu : Nat), suf.length < fu → j + suf.length ≤ 16 → (∀ c, c ∈ suf → c < 640) → I x 44 2 = nI (j + suf.length) → (∀ k c, suf[k]? = some c → I x 45 (j + k) = nI c) → bX3_hasLogged_2 n fu x (nI b) (nI j) I = some (nI (if b ∈ suf then 1 else 0), I) := by
  intro suf
  induction suf with
  | nil =>
    intro j fu hf hj h640 h2 h4
    obtain ⟨fu, rfl⟩ : ∃ f, fu = f + 1 := ⟨fu - 1, by omega⟩
    conv => lhs; unfold bX3_hasLogged_2
    dsimp only
    have : I x 44 2 ≤ nI j := by rw [h2, z_le (by simp at hj ⊢; omega) (by omega)]; simp
    rw [if_pos this, if_neg List.not_mem_nil]
  | cons d suf ih =>
    intro j fu hf hj h640 h2 h4
    obtain ⟨fu, rfl⟩ : ∃ f, fu = f + 1 := ⟨fu - 1, by omega⟩
    rw [List.length_cons] at hf hj h2
    have hd := h640 d List.mem_cons_self
    have h45 : I x 45 j = nI d := h4 0 d rfl
    have hle : ¬ I x 44 2 ≤ nI j := by rw [h2, z_le (by omega) (by omega)]; omega
    have g1 : j < 16 := by omega
    conv => lhs; unfold bX3_hasLogged_2
    dsimp only
    rw [if_neg hle, z_inb (by omega), decide_eq_true g1, z_gdt, z_clamp (by omega), h45]
    by_cases e : d = b
    · rw [if_pos (congrArg nI e), if_pos (by rw [e]; exact List.mem_cons_self)]
    · rw [if_neg (fun q => e (w_nI (by omega) (by omega) q)), nI_add, ih (j + 1) fu (by omega) (by omega) (fun c hc => h640 c (List.mem_cons_of_mem _ hc)) (by rw [h2]; exact congrArg nI (by omega)) (fun k c hk => by
        have := h4 (k + 1) c hk
        rw [← this]
        exact congrArg _ (by omega))]
      by_cases e2 : b ∈ suf
      · rw [if_pos e2, if_pos (List.mem_cons_of_mem _ e2)]
      · rw [if_neg e2, if_neg (fun q => (List.mem_cons.mp q).elim (fun q => e q.symm) e2)]
theorem c_hasL {b : Nat} {lg : List Nat} {I : am_I} (hb : b < 640) (hl : lg.length ≤ 16) (h640 : ∀ c, c ∈ lg → c < 640) (h : LCl x I lg) : gX3_hasLogged n x (nI b) I = some (nI (if b ∈ lg then 1 else 0), I) := by
  rw [gX3_hasLogged, bX3_hasLogged_0]
  exact hl_lp (n := n) (x := x) hb lg 0 am_fu (fu_lt (by omega)) (by omega) h640 (by rw [Nat.zero_add]; exact h.1) (fun k c hk => by rw [Nat.zero_add]; exact h.2 k c hk)
theorem gv_lp {b : Nat} {I : am_I} (hb : b < 640) : ∀ (suf : List Nat) (j fu : Nat), suf.length < fu → j + suf.length ≤ 32 → (∀ c, c ∈ suf → c < 640) → I 0 15 7 = nI (j + suf.length) → (∀ k c, suf[k]? = some c → I 0 20 (j + k) = nI c) → bX9_isGiven_2 n fu (nI b) (nI j) I = some (nI (if b ∈ suf then 1 else 0), I) := by
  intro suf
  induction suf with
  | nil =>
    intro j fu hf hj h640 h2 h4
    obtain ⟨fu, rfl⟩ : ∃ f, fu = f + 1 := ⟨fu - 1, by omega⟩
    conv => lhs; unfold bX9_isGiven_2
    dsimp only
    have : I 0 15 7 ≤ nI j := by rw [h2, z_le (by simp at hj ⊢; omega) (by omega)]; simp
    rw [if_pos this, if_neg List.not_mem_nil]
  | cons d suf ih =>
    intro j fu hf hj h640 h2 h4
    obtain ⟨fu, rfl⟩ : ∃ f, fu = f + 1 := ⟨fu - 1, by omega⟩
    rw [List.length_cons] at hf hj h2
    have hd := h640 d List.mem_cons_self
    have h45 : I 0 20 j = nI d := h4 0 d rfl
    have hle : ¬ I 0 15 7 ≤ nI j := by rw [h2, z_le (by omega) (by omega)]; omega
    have g1 : j < 32 := by omega
    conv => lhs; unfold bX9_isGiven_2
    dsimp only
    rw [if_neg hle, z_inb (by omega), decide_eq_true g1, z_gdt, z_clamp (by omega), h45]
    by_cases e : d = b
    · rw [if_pos (congrArg nI e), if_pos (by rw [e]; exact List.mem_cons_self)]
    · rw [if_neg (fun q => e (w_nI (by omega) (by omega) q)), nI_add, ih (j + 1) fu (by omega) (by omega) (fun c hc => h640 c (List.mem_cons_of_mem _ hc)) (by rw [h2]; exact congrArg nI (by omega)) (fun k c hk => by
        have := h4 (k + 1) c hk
        rw [← this]
        exact congrArg _ (by omega))]
      by_cases e2 : b ∈ suf
      · rw [if_pos e2, if_pos (List.mem_cons_of_mem _ e2)]
      · rw [if_neg e2, if_neg (fun q => (List.mem_cons.mp q).elim (fun q => e q.symm) e2)]
/-- what the try has given back, as the class has it -/
def GVc (I : am_I) (gn : List Nat) : Prop := I 0 15 7 = nI gn.length ∧ (∀ k b, gn[k]? = some b → I 0 20 k = nI b) ∧ gn.length ≤ 32 ∧ ∀ b, b ∈ gn → b < 640
theorem c_isG {b : Nat} {gn : List Nat} {I : am_I} (hb : b < 640) (h : GVc I gn) : gX9_isGiven n (nI b) I = some (nI (if b ∈ gn then 1 else 0), I) := by
  rw [gX9_isGiven, bX9_isGiven_0]
  exact gv_lp (n := n) hb gn 0 am_fu (fu_lt (by have := h.2.2.1; omega)) (by have := h.2.2.1; omega) h.2.2.2 (by rw [Nat.zero_add]; exact h.1) (fun k c hk => by rw [Nat.zero_add]; exact h.2.1 k c hk)
/-- a block gets its place among the logged ones -/
theorem ad_lp {b : Nat} (hb : b < 640) : ∀ (m : Nat) (pre suf : List Nat) (fu : Nat) (I : am_I), pre.length = m → m < fu → pre.length + suf.length < 16 → (∀ c, c ∈ pre → c < 640) → (pre ++ suf).Pairwise (· < ·) → (∀ c, c ∈ suf → b < c) → b ∉ pre → I x 44 2 = nI (pre.length + suf.length) → (∀ k c, pre[k]? = some c → I x 45 k = nI c) → (∀ k c, suf[k]? = some c → I x 45 (pre.length + 1 + k) = nI c) → ∃ I' lg', bX3_add_23 n fu x (nI b) (nI pre.length) I = some I' ∧ LCl x I' lg' ∧ lg'.Pairwise (· < ·) ∧ (∀ c, c ∈ lg' ↔ c ∈ pre ∨ c ∈ suf ∨ c = b) ∧ fLg x I I' := by
  intro m
  induction m with
  | zero =>
    intro pre suf fu I hp hf hl h640 hs hbs hbp h2 h3 h4
    obtain ⟨fu, rfl⟩ : ∃ f, fu = f + 1 := ⟨fu - 1, by omega⟩
    obtain rfl := List.length_eq_zero_iff.mp hp
    simp only [List.length_nil, Nat.zero_add, List.nil_append] at hl hs h2 h4 ⊢
    refine ⟨am_up (am_up I x 45 0 (nI b)) x 44 2 (nI (suf.length + 1)), b :: suf, ?_, ⟨?_, fun k c hk => ?_⟩, List.Pairwise.cons hbs hs, fun c => ?_, fun a c q => ?_, fun k q => ?_⟩
    · conv => lhs; unfold bX3_add_23
      dsimp only
      rw [if_pos (by decide), bX3_add_59, z_inb (by decide), decide_eq_true (by decide), z_gdt, am_lt, am_lt, z_upj _ _ _ _ _ _ _ (by omega), h2, nI_add, z_clamp (by decide)]
    · rw [z_upk, if_pos rfl]; rfl
    · rw [z_upj _ _ _ _ _ _ _ (by omega), z_upk]
      cases k with
      | zero => rw [if_pos rfl, Option.some.inj hk]
      | succ k =>
        rw [if_neg (by omega), Nat.add_comm]
        exact h4 k c hk
    · rw [List.mem_cons]
      exact ⟨fun q => q.elim (fun q => Or.inr (Or.inr q)) (fun q => Or.inr (Or.inl q)), fun q => q.elim (fun q => absurd q List.not_mem_nil) (fun q => q.elim Or.inr Or.inl)⟩
    · rw [z_upj _ _ _ _ _ _ _ (by omega), z_upj _ _ _ _ _ _ _ (by omega)]
    · rw [z_upk, if_neg q, z_upj _ _ _ _ _ _ _ (by omega)]
  | succ m ih =>
    intro pre suf fu I hp hf hl h640 hs hbs hbp h2 h3 h4
    obtain ⟨fu, rfl⟩ : ∃ f, fu = f + 1 := ⟨fu - 1, by omega⟩
    have hne : ¬ pre = [] := fun e => by rw [e] at hp; simp at hp
    obtain ⟨p, d, rfl⟩ : ∃ p d, pre = p ++ [d] := ⟨pre.dropLast, pre.getLast hne, (List.dropLast_concat_getLast hne).symm⟩
    have hpl : p.length = m := by rw [List.length_append] at hp; simpa using hp
    have hL : (p ++ [d]).length = p.length + 1 := List.length_append
    rw [hL] at hl h2 h4 ⊢
    have hd : d < 640 := h640 d (List.mem_append_right _ List.mem_cons_self)
    have h45 : I x 45 p.length = nI d := h3 p.length d (by rw [List.getElem?_append_right (Nat.le_refl _), Nat.sub_self]; rfl)
    have hn0 : ¬ nI (p.length + 1) ≤ 0 := by rw [z_0, z_le (by omega) (by decide)]; omega
    have hsub : nI (p.length + 1) - nI 1 = nI p.length := by rw [pk_sub (by omega)]; rfl
    have g1 : p.length < 16 := by omega
    have g2 : p.length + 1 < 16 := by omega
    have hdb : ¬ d = b := fun e => hbp (by rw [e]; exact List.mem_append_right _ List.mem_cons_self)
    by_cases e : d ≤ b
    · refine ⟨am_up (am_up I x 45 (p.length + 1) (nI b)) x 44 2 (nI (p.length + 1 + suf.length + 1)), (p ++ [d]) ++ (b :: suf), ?_, ⟨?_, fun k c hk => ?_⟩, ?_, fun c => ?_, fun a c q => ?_, fun k q => ?_⟩
      · conv => lhs; unfold bX3_add_23
        dsimp only
        rw [if_neg hn0, hsub, z_inb (by omega), decide_eq_true g1, z_gdt, z_clamp (by omega), h45, if_pos (by rw [z_le (by omega) (by omega)]; exact e), bX3_add_59, z_inb (by omega), decide_eq_true g2, z_gdt, am_lt, am_lt, z_upj _ _ _ _ _ _ _ (by omega), h2, nI_add, z_clamp (by omega)]
      · rw [z_upk, if_pos rfl, List.length_append, hL, List.length_cons]
        exact congrArg nI (by omega)
      · rw [z_upj _ _ _ _ _ _ _ (by omega), z_upk]
        rcases get_app hk with ⟨q1, q2⟩ | ⟨q1, q2⟩
        · rw [hL] at q1
          rw [if_neg (by omega)]
          exact h3 k c q2
        · rw [hL] at q1 q2
          by_cases ek : k = p.length + 1
          · rw [if_pos ek]
            rw [ek, Nat.sub_self] at q2
            rw [Option.some.inj q2]
          · rw [if_neg ek]
            obtain ⟨k', rfl⟩ : ∃ k', k = p.length + 1 + 1 + k' := ⟨k - (p.length + 2), by omega⟩
            rw [show p.length + 1 + 1 + k' - (p.length + 1) = k' + 1 from by omega] at q2
            exact h4 k' c q2
      · rw [List.pairwise_append] at hs ⊢
        refine ⟨hs.1, List.Pairwise.cons hbs hs.2.1, fun a ha c hc => ?_⟩
        rcases List.mem_cons.mp hc with rfl | hc
        · rcases List.mem_append.mp ha with ha | ha
          · have := (List.pairwise_append.mp hs.1).2.2 a ha d List.mem_cons_self
            omega
          · rw [List.mem_singleton.mp ha]; omega
        · exact hs.2.2 a ha c hc
      · rw [List.mem_append, List.mem_cons]
        exact ⟨fun q => q.imp id (fun q => q.symm), fun q => q.imp id (fun q => q.symm)⟩
      · rw [z_upj _ _ _ _ _ _ _ (by omega), z_upj _ _ _ _ _ _ _ (by omega)]
      · rw [z_upk, if_neg q, z_upj _ _ _ _ _ _ _ (by omega)]
    · obtain ⟨I', lg', r1, r2, r3, r4, r5⟩ := ih p (d :: suf) fu (am_up I x 45 (p.length + 1) (nI d)) hpl (by omega) (by rw [List.length_cons]; omega) (fun c hc => h640 c (List.mem_append_left _ hc)) (by rw [List.append_assoc] at hs; exact hs) (fun c hc => by
        rcases List.mem_cons.mp hc with rfl | hc
        · omega
        · exact hbs c hc) (fun q => hbp (List.mem_append_left _ q)) (by rw [z_upj _ _ _ _ _ _ _ (by omega), h2, List.length_cons]; exact congrArg nI (by omega)) (fun k c hk => by
        rw [z_upk, if_neg (by have := get_lt hk; omega)]
        exact h3 k c (by rw [List.getElem?_append_left (get_lt hk)]; exact hk)) (fun k c hk => by
        rw [z_upk]
        cases k with
        | zero => rw [if_pos rfl, Option.some.inj hk]
        | succ k =>
          rw [if_neg (by omega), show p.length + 1 + (k + 1) = p.length + 1 + 1 + k from by omega]
          exact h4 k c hk)
      refine ⟨I', lg', ?_, r2, r3, fun c => ?_, fLg.tr ⟨fun a c q => z_upj _ _ _ _ _ _ _ (by omega), fun k q => by rw [z_upj _ _ _ _ _ _ _ (by omega)]⟩ r5⟩
      · rw [← r1]
        conv => lhs; unfold bX3_add_23
        dsimp only
        rw [if_neg hn0, hsub, z_inb (by omega), decide_eq_true g1, z_gdt, z_clamp (by omega), h45, if_neg (by rw [z_le (by omega) (by omega)]; exact e), z_gdt, z_inb (by omega), decide_eq_true g2, z_gdt, am_lt, z_clamp (by omega)]
        have : nI (p.length + 1) + (-1 : Int32) = nI p.length := by
          rw [← hsub, Int32.sub_eq_add_neg]
          rfl
        rw [this]
      · rw [r4 c, List.mem_append, List.mem_cons, List.mem_singleton]
        constructor
        · rintro (q | (q | q) | q)
          · exact Or.inl (Or.inl q)
          · exact Or.inl (Or.inr q)
          · exact Or.inr (Or.inl q)
          · exact Or.inr (Or.inr q)
        · rintro ((q | q) | q | q)
          · exact Or.inl q
          · exact Or.inr (Or.inl (Or.inl q))
          · exact Or.inr (Or.inl (Or.inr q))
          · exact Or.inr (Or.inr q)
theorem c_addL {b : Nat} {lg : List Nat} {I : am_I} (hb : b < 640) (hl : lg.length ≤ 16) (hs : lg.Pairwise (· < ·)) (h640 : ∀ c, c ∈ lg → c < 640) (h : LCl x I lg) (hr : b ∈ lg ∨ lg.length < 16) : ∃ I' lg', gX3_add n x (nI b) I = some I' ∧ LCl x I' lg' ∧ lg'.Pairwise (· < ·) ∧ (∀ c, c ∈ lg' ↔ c ∈ lg ∨ c = b) ∧ fLg x I I' := by
  rw [gX3_add, bX3_add_0, h.1]
  by_cases h16 : 16 ≤ lg.length
  · rw [if_pos (by rw [z_le (by decide) (by omega)]; exact h16)]
    have hm : b ∈ lg := hr.resolve_right (by omega)
    exact ⟨I, lg, rfl, h, hs, fun c => ⟨Or.inl, fun q => q.elim id (fun q => q ▸ hm)⟩, fLg.rf⟩
  · rw [if_neg (by rw [z_le (by decide) (by omega)]; exact h16), c_hasL (n := n) hb hl h640 h, Option.bind_some]
    by_cases hm : b ∈ lg
    · rw [if_pos hm]
      exact ⟨I, lg, if_neg (show ¬ nI 1 = (0 : Int32) from by decide), h, hs, fun c => ⟨Or.inl, fun q => q.elim id (fun q => q ▸ hm)⟩, fLg.rf⟩
    · rw [if_neg hm]
      show ∃ I' lg', (if nI 0 = (0 : Int32) then bX3_add_23 n am_fu x (nI b) (I x 44 2) I else _) = some I' ∧ _
      rw [if_pos (show nI 0 = (0 : Int32) from rfl), h.1]
      obtain ⟨I', lg', r1, r2, r3, r4, r5⟩ := ad_lp (n := n) (x := x) hb lg.length lg [] am_fu I rfl (fu_lt (by omega)) (by simp; omega) h640 (by rw [List.append_nil]; exact hs) (fun c hc => absurd hc List.not_mem_nil) hm h.1 h.2 (fun k c hk => by simp at hk)
      refine ⟨I', lg', r1, r2, r3, fun c => ?_, r5⟩
      rw [r4 c]
      exact ⟨fun q => q.imp id (fun q => q.resolve_left List.not_mem_nil), fun q => q.imp id Or.inr⟩
/-- the class alone drops a block -/
theorem c_drp {b : Nat} {I : am_I} (hb : b < 640) (h01 : I x 43 b = nI 0 ∨ I x 43 b = nI 1) (hc : I x 41 2 = nI (cnt (I x 43) 640)) : ∃ I', gX1_drop n x (nI b) I = some I' ∧ (∀ c, I' x 43 c = if c = b then nI 0 else I x 43 c) ∧ I' x 41 2 = nI (cnt (I' x 43) 640) ∧ (∀ k, ¬ k = 2 → I' x 41 k = I x 41 k) ∧ fDI x I I' := by
  have b1 : ¬ 640 ≤ b := by omega
  rcases h01 with h | h
  · have hI : I x 43 b = 0 := h
    refine ⟨I, ?_, fun c => ?_, hc, fun _ _ => rfl, fDI.rf⟩
    · simp (disch := omega) only [gX1_drop, bX1_drop_0, bX1_drop_37, z_ni0, z_le, b1, if_false, z_inb, hb, decide_true, z_gdt, z_clamp, hI, if_true]
    · by_cases e : c = b
      · rw [if_pos e, e, h]
      · rw [if_neg e]
  · have hI0 : ¬ I x 43 b = 0 := by rw [h]; decide
    have hcu := cnt_up (f := am_up I x 43 b (nI 0) x 43) (g := I x 43) (b := b) 640 hb (fun c _ hne => by rw [z_upk, if_neg hne]) (by rw [z_upk, if_pos rfl]; decide) h
    refine ⟨am_up (am_up I x 43 b (nI 0)) x 41 2 (I x 41 2 - nI 1), ?_, fun c => ?_, ?_, fun k q => ?_, fun a c q => ?_⟩
    · simp (disch := omega) only [gX1_drop, bX1_drop_0, bX1_drop_37, z_ni0, z_le, b1, if_false, z_inb, hb, decide_true, z_gdt, z_clamp, hI0, am_lt, z_upj]
    · rw [z_upj _ _ _ _ _ _ _ (by omega), z_upk]
    · rw [z_upk, if_pos rfl, z_upj _ _ _ _ _ _ _ (by omega), hc, hcu, pk_sub (by omega), Nat.add_sub_cancel]
    · rw [z_upk, if_neg q, z_upj _ _ _ _ _ _ _ (by omega)]
    · rw [z_upj _ _ _ _ _ _ _ (by omega), z_upj _ _ _ _ _ _ _ (by omega)]
end LOG
