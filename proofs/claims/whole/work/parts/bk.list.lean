
section LIST
variable {n x : Nat}
def fLi (x : Nat) (I I' : am_I) : Prop := (∀ a b, ¬ (a = x ∧ (b = 48 ∨ b = 53 ∨ b = 54)) → I' a b = I a b) ∧ ∀ k, ¬ k = 6 → I' x 48 k = I x 48 k
theorem c_l77 {r : Nat} {m : Int32} {I : am_I} (hr : r < 136) : bX4_list_77 n x (nI r) m I = some (am_up I x 54 r m) := by
  rw [bX4_list_77, z_inb (by omega), decide_eq_true hr, z_gdt, am_lt, z_clamp (by omega)]
/-- a resource gets its place in the list -/
theorem li_lp {b : Nat} {mo : Int32} (hb : b < 136) : ∀ (m : Nat) (pre suf : List Nat) (fu : Nat) (I : am_I), pre.length = m → m < fu → pre.length + suf.length < 136 → (∀ c, c ∈ pre → c < 136) → (pre ++ suf).Pairwise (· < ·) → (∀ c, c ∈ suf → b < c) → b ∉ pre → I x 48 6 = nI (pre.length + suf.length) → (∀ k c, pre[k]? = some c → I x 53 k = nI c) → (∀ k c, suf[k]? = some c → I x 53 (pre.length + 1 + k) = nI c) → ∃ (I' : am_I) (ls : List Nat), bX4_list_24 n fu x (nI b) mo (nI pre.length) I = some (am_up I' x 54 b mo) ∧ I' x 48 6 = nI ls.length ∧ (∀ k c, ls[k]? = some c → I' x 53 k = nI c) ∧ ls.Pairwise (· < ·) ∧ (∀ c, c ∈ ls ↔ c ∈ pre ∨ c ∈ suf ∨ c = b) ∧ (∀ a c, ¬ (a = x ∧ (c = 48 ∨ c = 53)) → I' a c = I a c) ∧ ∀ k, ¬ k = 6 → I' x 48 k = I x 48 k := by
  intro m
  induction m with
  | zero =>
    intro pre suf fu I hp hf hl h640 hs hbs hbp h2 h3 h4
    obtain ⟨fu, rfl⟩ : ∃ f, fu = f + 1 := ⟨fu - 1, by omega⟩
    obtain rfl := List.length_eq_zero_iff.mp hp
    simp only [List.length_nil, Nat.zero_add, List.nil_append] at hl hs h2 h4 ⊢
    refine ⟨am_up (am_up I x 53 0 (nI b)) x 48 6 (nI (suf.length + 1)), b :: suf, ?_, ?_, fun k c hk => ?_, List.Pairwise.cons hbs hs, fun c => ?_, fun a c q => ?_, fun k q => ?_⟩
    · conv => lhs; unfold bX4_list_24
      dsimp only
      rw [if_pos (by decide), bX4_list_60, z_inb (by decide), decide_eq_true (by decide), z_gdt, am_lt, am_lt, z_upj _ _ _ _ _ _ _ (by omega), h2, nI_add, z_clamp (by decide), c_l77 hb]
    · rw [z_upk, if_pos rfl]; rfl
    · rw [z_upj _ _ _ _ _ _ _ (by omega), z_upk]
      cases k with
      | zero => rw [if_pos rfl, Option.some.inj hk]
      | succ k =>
        rw [if_neg (by omega), Nat.add_comm]
        exact h4 k c hk
    · rw [List.mem_cons]
      exact ⟨fun q => q.elim (fun q => Or.inr (Or.inr q)) (fun q => Or.inr (Or.inl q)), fun q => q.elim (fun q => absurd q List.not_mem_nil) (fun q => q.elim Or.inr Or.inl)⟩
    · rw [z_upj _ _ _ _ _ _ _ (by omega), z_upj _ _ _ _ _ _ _ (by omega)]
    · rw [z_upk, if_neg q, z_upj _ _ _ _ _ _ _ (by omega)]
  | succ m ih =>
    intro pre suf fu I hp hf hl h640 hs hbs hbp h2 h3 h4
    obtain ⟨fu, rfl⟩ : ∃ f, fu = f + 1 := ⟨fu - 1, by omega⟩
    have hne : ¬ pre = [] := fun e => by rw [e] at hp; simp at hp
    obtain ⟨p, d, rfl⟩ : ∃ p d, pre = p ++ [d] := ⟨pre.dropLast, pre.getLast hne, (List.dropLast_concat_getLast hne).symm⟩
    have hpl : p.length = m := by rw [List.length_append] at hp; simpa using hp
    have hL : (p ++ [d]).length = p.length + 1 := List.length_append
    rw [hL] at hl h2 h4 ⊢
    have hd : d < 136 := h640 d (List.mem_append_right _ List.mem_cons_self)
    have h45 : I x 53 p.length = nI d := h3 p.length d (by rw [List.getElem?_append_right (Nat.le_refl _), Nat.sub_self]; rfl)
    have hn0 : ¬ nI (p.length + 1) ≤ 0 := by rw [z_0, z_le (by omega) (by decide)]; omega
    have hsub : nI (p.length + 1) - nI 1 = nI p.length := by rw [pk_sub (by omega)]; rfl
    have g1 : p.length < 136 := by omega
    have g2 : p.length + 1 < 136 := by omega
    have hdb : ¬ d = b := fun e => hbp (by rw [e]; exact List.mem_append_right _ List.mem_cons_self)
    by_cases e : d ≤ b
    · refine ⟨am_up (am_up I x 53 (p.length + 1) (nI b)) x 48 6 (nI (p.length + 1 + suf.length + 1)), (p ++ [d]) ++ (b :: suf), ?_, ?_, fun k c hk => ?_, ?_, fun c => ?_, fun a c q => ?_, fun k q => ?_⟩
      · conv => lhs; unfold bX4_list_24
        dsimp only
        rw [if_neg hn0, hsub, z_inb (by omega), decide_eq_true g1, z_gdt, z_clamp (by omega), h45, if_pos (by rw [z_le (by omega) (by omega)]; exact e), bX4_list_60, z_inb (by omega), decide_eq_true g2, z_gdt, am_lt, am_lt, z_upj _ _ _ _ _ _ _ (by omega), h2, nI_add, z_clamp (by omega), c_l77 hb]
      · rw [z_upk, if_pos rfl, List.length_append, hL, List.length_cons]
        exact congrArg nI (by omega)
      · rw [z_upj _ _ _ _ _ _ _ (by omega), z_upk]
        rcases get_app hk with ⟨q1, q2⟩ | ⟨q1, q2⟩
        · rw [hL] at q1
          rw [if_neg (by omega)]
          exact h3 k c q2
        · rw [hL] at q1 q2
          by_cases ek : k = p.length + 1
          · rw [if_pos ek]
            rw [ek, Nat.sub_self] at q2
            rw [Option.some.inj q2]
          · rw [if_neg ek]
            obtain ⟨k', rfl⟩ : ∃ k', k = p.length + 1 + 1 + k' := ⟨k - (p.length + 2), by omega⟩
            rw [show p.length + 1 + 1 + k' - (p.length + 1) = k' + 1 from by omega] at q2
            exact h4 k' c q2
      · rw [List.pairwise_append] at hs ⊢
        refine ⟨hs.1, List.Pairwise.cons hbs hs.2.1, fun a ha c hc => ?_⟩
        rcases List.mem_cons.mp hc with rfl | hc
        · rcases List.mem_append.mp ha with ha | ha
          · have := (List.pairwise_append.mp hs.1).2.2 a ha d List.mem_cons_self
            omega
          · rw [List.mem_singleton.mp ha]; omega
        · exact hs.2.2 a ha c hc
      · rw [List.mem_append, List.mem_cons]
        exact ⟨fun q => q.imp id (fun q => q.symm), fun q => q.imp id (fun q => q.symm)⟩
      · rw [z_upj _ _ _ _ _ _ _ (by omega), z_upj _ _ _ _ _ _ _ (by omega)]
      · rw [z_upk, if_neg q, z_upj _ _ _ _ _ _ _ (by omega)]
    · obtain ⟨I', ls, r1, r2, r3, r4, r5, r6, r7⟩ := ih p (d :: suf) fu (am_up I x 53 (p.length + 1) (nI d)) hpl (by omega) (by rw [List.length_cons]; omega) (fun c hc => h640 c (List.mem_append_left _ hc)) (by rw [List.append_assoc] at hs; exact hs) (fun c hc => by
        rcases List.mem_cons.mp hc with rfl | hc
        · omega
        · exact hbs c hc) (fun q => hbp (List.mem_append_left _ q)) (by rw [z_upj _ _ _ _ _ _ _ (by omega), h2, List.length_cons]; exact congrArg nI (by omega)) (fun k c hk => by
        rw [z_upk, if_neg (by have := get_lt hk; omega)]
        exact h3 k c (by rw [List.getElem?_append_left (get_lt hk)]; exact hk)) (fun k c hk => by
        rw [z_upk]
        cases k with
        | zero => rw [if_pos rfl, Option.some.inj hk]
        | succ k =>
          rw [if_neg (by omega), show p.length + 1 + (k + 1) = p.length + 1 + 1 + k from by omega]
          exact h4 k c hk)
      refine ⟨I', ls, ?_, r2, r3, r4, fun c => ?_, fun a c q => by rw [r6 a c q, z_upj _ _ _ _ _ _ _ (by omega)], fun k q => by rw [r7 k q, z_upj _ _ _ _ _ _ _ (by omega)]⟩
      · rw [← r1]
        conv => lhs; unfold bX4_list_24
        dsimp only
        rw [if_neg hn0, hsub, z_inb (by omega), decide_eq_true g1, z_gdt, z_clamp (by omega), h45, if_neg (by rw [z_le (by omega) (by omega)]; exact e), z_gdt, z_inb (by omega), decide_eq_true g2, z_gdt, am_lt, z_clamp (by omega)]
        have : nI (p.length + 1) + (-1 : Int32) = nI p.length := by
          rw [← hsub, Int32.sub_eq_add_neg]
          rfl
        rw [this]
      · rw [r5 c, List.mem_append, List.mem_cons, List.mem_singleton]
        constructor
        · rintro (q | (q | q) | q)
          · exact Or.inl (Or.inl q)
          · exact Or.inl (Or.inr q)
          · exact Or.inr (Or.inl q)
          · exact Or.inr (Or.inr q)
        · rintro ((q | q) | q | q)
          · exact Or.inl q
          · exact Or.inr (Or.inl (Or.inl q))
          · exact Or.inr (Or.inl (Or.inr q))
          · exact Or.inr (Or.inr q)
/-- a resource is listed: both sides (the reference sets one word) -/
theorem p_list {ls : List Nat} {I J : am_I} {r m : Nat} (hx : x < 4) (hr : r < 136) (hm : m = 1 ∨ m = 2) (h : LSr x I J ls) : ∃ I' ls', gX4_list n x (nI r) (nI m) I = some I' ∧ LSr x I' (am_up J 0 81 (136 * x + r) (nI m)) ls' ∧ (∀ c, c ∈ ls' ↔ c ∈ ls ∨ c = r) ∧ (ls'.length = if J 0 81 (136 * x + r) = nI 0 then ls.length + 1 else ls.length) ∧ fLi x I I' := by
  obtain ⟨⟨l1, l2, l3, l4⟩, l5⟩ := h
  obtain ⟨m1, m2, m3⟩ := l5 r hr
  have hll := ls_len l1 l2
  have hm0 : ¬ nI m = nI 0 := fun q => by have := w_nI (b := 0) (by omega) (by decide) q; omega
  have fin : ∀ (I1 : am_I) (ls' : List Nat), I1 x 48 6 = nI ls'.length → (∀ k c, ls'[k]? = some c → I1 x 53 k = nI c) → ls'.Pairwise (· < ·) → (∀ c, c ∈ ls' ↔ c ∈ ls ∨ c = r) → I1 x 54 = I x 54 → LSr x (am_up I1 x 54 r (nI m)) (am_up J 0 81 (136 * x + r) (nI m)) ls' := fun I1 ls' a1 a2 a3 a4 a5 => by
    refine ⟨⟨a3, fun c hc => ((a4 c).mp hc).elim (l2 c) (fun e => e ▸ hr), by rw [z_upj _ _ _ _ _ _ _ (by omega)]; exact a1, fun k c hk => by rw [z_upj _ _ _ _ _ _ _ (by omega)]; exact a2 k c hk⟩, fun c hc => ?_⟩
    rw [z_upk, z_upk, a4 c]
    obtain ⟨q1, q2, q3⟩ := l5 c hc
    by_cases e : c = r
    · rw [if_pos (by omega), if_pos e]
      exact ⟨⟨fun _ => hm0, fun _ => Or.inr e⟩, rfl, m, by omega, rfl⟩
    · rw [if_neg (by omega), if_neg e, a5]
      exact ⟨⟨fun q => q1.mp (q.resolve_right e), fun q => Or.inl (q1.mpr q)⟩, q2, q3⟩
  rw [gX4_list, bX4_list_0, z_inb (by omega), decide_eq_true hr, z_gdt, z_clamp (by omega), m2]
  by_cases e : J 0 81 (136 * x + r) = nI 0
  · have hnm : ¬ r ∈ ls := fun q => m1.mp q e
    have hlt : ls.length < 136 := by
      have := pigeon (r :: ls) (List.range 136) (List.nodup_cons.mpr ⟨hnm, nd_lt l1⟩) (fun c hc => List.mem_range.mpr ((List.mem_cons.mp hc).elim (fun e => e ▸ hr) (l2 c)))
      rw [List.length_range, List.length_cons] at this
      omega
    rw [if_pos (show J 0 81 (136 * x + r) = 0 from e), l3, if_neg (by rw [z_le (by decide) (by omega)]; omega)]
    obtain ⟨I', ls', r1, r2, r3, r4, r5, r6, r7⟩ := li_lp (n := n) (x := x) (mo := nI m) hr ls.length ls [] am_fu I rfl (fu_lt (by omega)) (by simpa using hlt) l2 (by rw [List.append_nil]; exact l1) (fun c hc => absurd hc List.not_mem_nil) hnm l3 l4 (fun k c hk => by simp at hk)
    have hmem : ∀ c, c ∈ ls' ↔ c ∈ ls ∨ c = r := fun c => by
      rw [r5 c]
      exact ⟨fun q => q.imp id (fun q => q.resolve_left List.not_mem_nil), fun q => q.imp id Or.inr⟩
    refine ⟨_, ls', r1, fin I' ls' r2 r3 r4 hmem (r6 x 54 (by omega)), hmem, ?_, fun a b q => by rw [z_upj _ _ _ _ _ _ _ (by omega), r6 a b (by omega)], fun k q => by rw [z_upj _ _ _ _ _ _ _ (by omega), r7 k q]⟩
    rw [if_pos e]
    have := len_eq (nd_lt r4) (List.nodup_cons.mpr ⟨hnm, nd_lt l1⟩) (fun c => by rw [hmem c, List.mem_cons]; exact Or.comm)
    rw [this, List.length_cons]
  · rw [if_neg (show ¬ J 0 81 (136 * x + r) = 0 from e), c_l77 hr]
    have hmem : ∀ c, c ∈ ls ↔ c ∈ ls ∨ c = r := fun c => ⟨Or.inl, fun q => q.elim id (fun q => q ▸ m1.mpr e)⟩
    exact ⟨_, ls, rfl, fin I ls l3 l4 l1 hmem rfl, hmem, by rw [if_neg e], fun a b q => z_upj _ _ _ _ _ _ _ (by omega), fun k q => by rw [z_upj _ _ _ _ _ _ _ (by omega)]⟩
end LIST
