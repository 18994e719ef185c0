
/-- which blocks the reference has logged, and how many -/
def FLw (y : Nat) (J : am_I) (w : List Nat) : Prop := w.Nodup ∧ (∀ b, b < 640 → J 0 69 (640 * y + b) = nI (if b ∈ w then 1 else 0)) ∧ J 0 70 y = nI w.length
def fKp (y : Nat) (J J' : am_I) : Prop := (∀ a b, ¬ (a = 0 ∧ (b = 60 ∨ b = 68 ∨ b = 69 ∨ b = 70 ∨ b = 120)) → J' a b = J a b) ∧ (∀ k, ¬ (k = 56 ∨ k = 61) → J' 0 60 k = J 0 60 k) ∧ (∀ k, ¬ (640 * y ≤ k ∧ k < 640 * y + 640) → J' 0 68 k = J 0 68 k ∧ J' 0 69 k = J 0 69 k) ∧ ∀ k, ¬ k = y → J' 0 70 k = J 0 70 k
theorem fKp.rf {y : Nat} {J : am_I} : fKp y J J := ⟨fun _ _ _ => rfl, fun _ _ => rfl, fun _ _ => ⟨rfl, rfl⟩, fun _ _ => rfl⟩
theorem fKp.tr {y : Nat} {J J' J'' : am_I} (h : fKp y J J') (h' : fKp y J' J'') : fKp y J J'' := ⟨fun a b q => (h'.1 a b q).trans (h.1 a b q), fun k q => (h'.2.1 k q).trans (h.2.1 k q), fun k q => ⟨((h'.2.2.1 k q).1).trans (h.2.2.1 k q).1, ((h'.2.2.1 k q).2).trans (h.2.2.1 k q).2⟩, fun k q => (h'.2.2.2 k q).trans (h.2.2.2 k q)⟩
theorem z_if1 {p : Prop} [Decidable p] (h : p) : ¬ nI (if p then 1 else 0) = (0 : Int32) := by rw [if_pos h]; decide
theorem z_if0 {p : Prop} [Decidable p] (h : ¬ p) : nI (if p then 1 else 0) = (0 : Int32) := by rw [if_neg h]; rfl
section KEEP
variable {n y : Nat}
theorem z_640 {b : Nat} : nI 640 * nI y + nI b = nI (640 * y + b) := by rw [pk_mul, nI_add]
/-- the changed blocks are logged -/
theorem kp1_lp (hy : y < 4) : ∀ (suf : List Nat) (j fu : Nat) (w : List Nat) (J : am_I), suf.length < fu → j + suf.length ≤ 640 → suf.Nodup → (∀ c, c ∈ suf → c < 640) → J 0 60 56 = nI (j + suf.length) → (∀ k c, suf[k]? = some c → J 0 118 (j + k) = nI c) → FLw y J w → ∃ J' w', bX11_keepAll_2 n fu (nI y) (nI j) J = bX11_keepAll_88 n am_fu (nI y) (nI 0) J' ∧ FLw y J' w' ∧ (∀ c, c ∈ w' ↔ c ∈ w ∨ c ∈ suf) ∧ (∀ b, b < 640 → J' 0 120 b = if b ∈ suf then nI 0 else J 0 120 b) ∧ J' 0 60 56 = nI 0 ∧ J' 0 60 61 = J 0 60 61 ∧ J' 0 68 = J 0 68 ∧ fKp y J J' := by
  intro suf
  induction suf with
  | nil =>
    intro j fu w J hf hj hnd h640 h56 h118 hF
    obtain ⟨fu, rfl⟩ : ∃ f, fu = f + 1 := ⟨fu - 1, by omega⟩
    refine ⟨am_up J 0 60 56 (nI 0), w, ?_, ⟨hF.1, fun b hb => by rw [z_upj _ _ _ _ _ _ _ (by omega)]; exact hF.2.1 b hb, by rw [z_upj _ _ _ _ _ _ _ (by omega)]; exact hF.2.2⟩, fun c => ⟨Or.inl, fun q => q.elim id (fun q => absurd q List.not_mem_nil)⟩, fun b hb => by rw [z_upj _ _ _ _ _ _ _ (by omega), if_neg List.not_mem_nil], by rw [z_upk, if_pos rfl], by rw [z_upk, if_neg (by decide)], z_upj _ _ _ _ _ _ _ (by omega), fun a b q => z_upj _ _ _ _ _ _ _ (by omega), fun k q => by rw [z_upk, if_neg (by omega)], fun k q => by rw [z_upj _ _ _ _ _ _ _ (by omega), z_upj _ _ _ _ _ _ _ (by omega)]; exact ⟨rfl, rfl⟩, fun k q => by rw [z_upj _ _ _ _ _ _ _ (by omega)]⟩
    conv => lhs; unfold bX11_keepAll_2
    dsimp only
    have : J 0 60 56 ≤ nI j := by rw [h56, z_le (by simp at hj ⊢; omega) (by omega)]; simp
    rw [if_pos this, am_lt]
  | cons d suf ih =>
    intro j fu w J hf hj hnd h640 h56 h118 hF
    obtain ⟨fu, rfl⟩ : ∃ f, fu = f + 1 := ⟨fu - 1, by omega⟩
    rw [List.length_cons] at hf hj h56
    have hd := h640 d List.mem_cons_self
    obtain ⟨h118j, h118'⟩ := shf h118
    have hle : ¬ J 0 60 56 ≤ nI j := by rw [h56, z_le (by omega) (by omega)]; omega
    have g1 : j < 640 := by omega
    have g2 : 640 * y + d < 2560 := by omega
    have hnd' := List.nodup_cons.mp hnd
    -- one turn
    have turn : ∀ (w1 : List Nat) (J1 : am_I), J1 = am_up (am_up (am_up J 0 120 d (nI 0)) 0 70 y (nI w1.length)) 0 69 (640 * y + d) (nI 1) → w1.Nodup → (∀ c, c ∈ w1 ↔ c ∈ w ∨ c = d) → ∃ J' w', bX11_keepAll_2 n fu (nI y) (nI (j + 1)) J1 = bX11_keepAll_88 n am_fu (nI y) (nI 0) J' ∧ FLw y J' w' ∧ (∀ c, c ∈ w' ↔ c ∈ w ∨ c ∈ d :: suf) ∧ (∀ b, b < 640 → J' 0 120 b = if b ∈ d :: suf then nI 0 else J 0 120 b) ∧ J' 0 60 56 = nI 0 ∧ J' 0 60 61 = J 0 60 61 ∧ J' 0 68 = J 0 68 ∧ fKp y J J' := by
      intro w1 J1 e1 hn1 hm1
      have x60 : J1 0 60 = J 0 60 := by rw [e1, z_upj _ _ _ _ _ _ _ (by omega), z_upj _ _ _ _ _ _ _ (by omega), z_upj _ _ _ _ _ _ _ (by omega)]
      have x118 : J1 0 118 = J 0 118 := by rw [e1, z_upj _ _ _ _ _ _ _ (by omega), z_upj _ _ _ _ _ _ _ (by omega), z_upj _ _ _ _ _ _ _ (by omega)]
      have x68 : J1 0 68 = J 0 68 := by rw [e1, z_upj _ _ _ _ _ _ _ (by omega), z_upj _ _ _ _ _ _ _ (by omega), z_upj _ _ _ _ _ _ _ (by omega)]
      have x120 : ∀ b, J1 0 120 b = if b = d then nI 0 else J 0 120 b := fun b => by rw [e1, z_upj _ _ _ _ _ _ _ (by omega), z_upj _ _ _ _ _ _ _ (by omega), z_upk]
      have x70 : ∀ k, J1 0 70 k = if k = y then nI w1.length else J 0 70 k := fun k => by rw [e1, z_upj _ _ _ _ _ _ _ (by omega), z_upk, z_upj _ _ _ _ _ _ _ (by omega)]
      have x69 : ∀ k, J1 0 69 k = if k = 640 * y + d then nI 1 else J 0 69 k := fun k => by rw [e1, z_upk, z_upj _ _ _ _ _ _ _ (by omega), z_upj _ _ _ _ _ _ _ (by omega)]
      have fr : fKp y J J1 := ⟨fun a b q => by rw [e1, z_upj _ _ _ _ _ _ _ (by omega), z_upj _ _ _ _ _ _ _ (by omega), z_upj _ _ _ _ _ _ _ (by omega)], fun k q => by rw [x60], fun k q => ⟨by rw [x68], by rw [x69 k, if_neg (by omega)]⟩, fun k q => by rw [x70 k, if_neg q]⟩
      obtain ⟨J', w', r1, r2, r3, r4, r5, r6, r7, r8⟩ := ih (j + 1) fu w1 J1 (by omega) (by omega) hnd'.2 (fun c hc => h640 c (List.mem_cons_of_mem _ hc)) (by rw [x60, h56]; exact congrArg nI (by omega)) (by rw [x118]; exact h118') ⟨hn1, fun b hb => by
        rw [x69]
        by_cases e : b = d
        · rw [if_pos (by omega), if_pos ((hm1 b).mpr (Or.inr e))]
        · rw [if_neg (by omega), hF.2.1 b hb]
          by_cases e2 : b ∈ w
          · rw [if_pos e2, if_pos ((hm1 b).mpr (Or.inl e2))]
          · rw [if_neg e2, if_neg (fun q => ((hm1 b).mp q).elim e2 e)], by rw [x70, if_pos rfl]⟩
      refine ⟨J', w', r1, r2, fun c => ?_, fun b hb => ?_, r5, by rw [r6, x60], by rw [r7, x68], fr.tr r8⟩
      · rw [r3 c, hm1 c, List.mem_cons]
        exact ⟨fun q => q.elim (fun q => q.imp id Or.inl) (fun q => Or.inr (Or.inr q)), fun q => q.elim (fun q => Or.inl (Or.inl q)) (fun q => q.elim (fun q => Or.inl (Or.inr q)) Or.inr)⟩
      · rw [r4 b hb, x120 b]
        by_cases e : b ∈ suf
        · rw [if_pos e, if_pos (List.mem_cons_of_mem _ e)]
        · rw [if_neg e]
          by_cases e2 : b = d
          · rw [if_pos e2, if_pos (by rw [e2]; exact List.mem_cons_self)]
          · rw [if_neg e2, if_neg (fun q => (List.mem_cons.mp q).elim e2 e)]
    have gn4 : am_inb (nI y) 4 = true := r_g4 hy
    by_cases hm : d ∈ w
    · obtain ⟨J', w', r1, rest⟩ := turn w _ rfl hF.1 (fun c => ⟨Or.inl, fun q => q.elim id (fun e => e ▸ hm)⟩)
      refine ⟨J', w', ?_, rest⟩
      rw [← r1]
      conv => lhs; unfold bX11_keepAll_2
      dsimp only
      rw [if_neg hle, z_inb (by omega), decide_eq_true g1, z_gdt, z_clamp (by omega), h118j, z_inb (by omega), decide_eq_true hd, z_gdt, am_lt, z_640, z_inb (by omega), decide_eq_true g2, z_gdt, z_clamp (by omega), z_clamp (by omega), z_upj _ _ _ _ _ _ _ (by omega), hF.2.1 d hd, if_neg (z_if1 hm), gn4, z_gdt, bX11_keepAll_61, gn4, z_gdt, am_lt, z_640, z_inb (by omega), decide_eq_true g2, z_gdt, am_lt, nI_add, z_clamp (by omega), z_clamp (by omega), z_upj _ _ _ _ _ _ _ (by omega), hF.2.2]
    · obtain ⟨J', w', r1, rest⟩ := turn (d :: w) _ rfl (List.nodup_cons.mpr ⟨hm, hF.1⟩) (fun c => by rw [List.mem_cons]; exact Or.comm)
      refine ⟨J', w', ?_, rest⟩
      rw [← r1]
      conv => lhs; unfold bX11_keepAll_2
      dsimp only
      rw [if_neg hle, z_inb (by omega), decide_eq_true g1, z_gdt, z_clamp (by omega), h118j, z_inb (by omega), decide_eq_true hd, z_gdt, am_lt, z_640, z_inb (by omega), decide_eq_true g2, z_gdt, z_clamp (by omega), z_clamp (by omega), z_upj _ _ _ _ _ _ _ (by omega), hF.2.1 d hd, if_pos (z_if0 hm), gn4, z_gdt, bX11_keepAll_61, gn4, z_gdt, am_lt, z_640, z_inb (by omega), decide_eq_true g2, z_gdt, am_lt, nI_add, z_clamp (by omega), z_clamp (by omega), z_upj _ _ _ _ _ _ _ (by omega), hF.2.2, nI_add, List.length_cons]
/-- those given back leave -/
theorem kp2_lp (hy : y < 4) : ∀ (suf : List Nat) (j fu : Nat) (w : List Nat) (J : am_I), suf.length < fu → j + suf.length ≤ 32 → (∀ c, c ∈ suf → c < 640) → J 0 60 61 = nI (j + suf.length) → (∀ k c, suf[k]? = some c → J 0 123 (j + k) = nI c) → FLw y J w → (∀ c, c ∈ w → c < 640) → ∃ J' w', bX11_keepAll_88 n fu (nI y) (nI j) J = some J' ∧ FLw y J' w' ∧ (∀ c, c ∈ w' ↔ c ∈ w ∧ ¬ c ∈ suf) ∧ (∀ b, b < 640 → J' 0 68 (640 * y + b) = if b ∈ suf then nI 0 else J 0 68 (640 * y + b)) ∧ J' 0 60 61 = nI 0 ∧ J' 0 60 56 = J 0 60 56 ∧ J' 0 120 = J 0 120 ∧ fKp y J J' := by
  intro suf
  induction suf with
  | nil =>
    intro j fu w J hf hj h640 h61 h123 hF hw6
    obtain ⟨fu, rfl⟩ : ∃ f, fu = f + 1 := ⟨fu - 1, by omega⟩
    refine ⟨am_up J 0 60 61 (nI 0), w, ?_, ⟨hF.1, fun b hb => by rw [z_upj _ _ _ _ _ _ _ (by omega)]; exact hF.2.1 b hb, by rw [z_upj _ _ _ _ _ _ _ (by omega)]; exact hF.2.2⟩, fun c => ⟨fun q => ⟨q, List.not_mem_nil⟩, fun q => q.1⟩, fun b hb => by rw [z_upj _ _ _ _ _ _ _ (by omega), if_neg List.not_mem_nil], by rw [z_upk, if_pos rfl], by rw [z_upk, if_neg (by decide)], z_upj _ _ _ _ _ _ _ (by omega), fun a b q => z_upj _ _ _ _ _ _ _ (by omega), fun k q => by rw [z_upk, if_neg (by omega)], fun k q => by rw [z_upj _ _ _ _ _ _ _ (by omega), z_upj _ _ _ _ _ _ _ (by omega)]; exact ⟨rfl, rfl⟩, fun k q => by rw [z_upj _ _ _ _ _ _ _ (by omega)]⟩
    conv => lhs; unfold bX11_keepAll_88
    dsimp only
    have : J 0 60 61 ≤ nI j := by rw [h61, z_le (by simp at hj ⊢; omega) (by omega)]; simp
    rw [if_pos this, am_lt]
  | cons d suf ih =>
    intro j fu w J hf hj h640 h61 h123 hF hw6
    obtain ⟨fu, rfl⟩ : ∃ f, fu = f + 1 := ⟨fu - 1, by omega⟩
    rw [List.length_cons] at hf hj h61
    have hd := h640 d List.mem_cons_self
    obtain ⟨h123j, h123'⟩ := shf h123
    have hle : ¬ J 0 60 61 ≤ nI j := by rw [h61, z_le (by omega) (by omega)]; omega
    have g1 : j < 64 := by omega
    have g2 : 640 * y + d < 2560 := by omega
    have hwl : w.length ≤ 640 := by
      have := pigeon w (List.range 640) hF.1 (fun c hc => List.mem_range.mpr (hw6 c hc))
      rwa [List.length_range] at this
    have turn : ∀ (w1 : List Nat) (J1 : am_I), J1 = am_up (am_up (am_up J 0 68 (640 * y + d) (nI 0)) 0 70 y (nI w1.length)) 0 69 (640 * y + d) (nI 0) → w1.Nodup → (∀ c, c ∈ w1 ↔ c ∈ w ∧ ¬ c = d) → ∃ J' w', bX11_keepAll_88 n fu (nI y) (nI (j + 1)) J1 = some J' ∧ FLw y J' w' ∧ (∀ c, c ∈ w' ↔ c ∈ w ∧ ¬ c ∈ d :: suf) ∧ (∀ b, b < 640 → J' 0 68 (640 * y + b) = if b ∈ d :: suf then nI 0 else J 0 68 (640 * y + b)) ∧ J' 0 60 61 = nI 0 ∧ J' 0 60 56 = J 0 60 56 ∧ J' 0 120 = J 0 120 ∧ fKp y J J' := by
      intro w1 J1 e1 hn1 hm1
      have x60 : J1 0 60 = J 0 60 := by rw [e1, z_upj _ _ _ _ _ _ _ (by omega), z_upj _ _ _ _ _ _ _ (by omega), z_upj _ _ _ _ _ _ _ (by omega)]
      have x123 : J1 0 123 = J 0 123 := by rw [e1, z_upj _ _ _ _ _ _ _ (by omega), z_upj _ _ _ _ _ _ _ (by omega), z_upj _ _ _ _ _ _ _ (by omega)]
      have x120 : J1 0 120 = J 0 120 := by rw [e1, z_upj _ _ _ _ _ _ _ (by omega), z_upj _ _ _ _ _ _ _ (by omega), z_upj _ _ _ _ _ _ _ (by omega)]
      have x68 : ∀ b, J1 0 68 b = if b = 640 * y + d then nI 0 else J 0 68 b := fun b => by rw [e1, z_upj _ _ _ _ _ _ _ (by omega), z_upj _ _ _ _ _ _ _ (by omega), z_upk]
      have x70 : ∀ k, J1 0 70 k = if k = y then nI w1.length else J 0 70 k := fun k => by rw [e1, z_upj _ _ _ _ _ _ _ (by omega), z_upk, z_upj _ _ _ _ _ _ _ (by omega)]
      have x69 : ∀ k, J1 0 69 k = if k = 640 * y + d then nI 0 else J 0 69 k := fun k => by rw [e1, z_upk, z_upj _ _ _ _ _ _ _ (by omega), z_upj _ _ _ _ _ _ _ (by omega)]
      have fr : fKp y J J1 := ⟨fun a b q => by rw [e1, z_upj _ _ _ _ _ _ _ (by omega), z_upj _ _ _ _ _ _ _ (by omega), z_upj _ _ _ _ _ _ _ (by omega)], fun k q => by rw [x60], fun k q => ⟨by rw [x68 k, if_neg (by omega)], by rw [x69 k, if_neg (by omega)]⟩, fun k q => by rw [x70 k, if_neg q]⟩
      obtain ⟨J', w', r1, r2, r3, r4, r5, r6, r7, r8⟩ := ih (j + 1) fu w1 J1 (by omega) (by omega) (fun c hc => h640 c (List.mem_cons_of_mem _ hc)) (by rw [x60, h61]; exact congrArg nI (by omega)) (by rw [x123]; exact h123') ⟨hn1, fun b hb => by
        rw [x69]
        by_cases e : b = d
        · rw [if_pos (by omega), if_neg (fun q => ((hm1 b).mp q).2 e)]
        · rw [if_neg (by omega), hF.2.1 b hb]
          by_cases e2 : b ∈ w
          · rw [if_pos e2, if_pos ((hm1 b).mpr ⟨e2, e⟩)]
          · rw [if_neg e2, if_neg (fun q => e2 ((hm1 b).mp q).1)], by rw [x70, if_pos rfl]⟩ (fun c hc => hw6 c ((hm1 c).mp hc).1)
      refine ⟨J', w', r1, r2, fun c => ?_, fun b hb => ?_, r5, by rw [r6, x60], by rw [r7, x120], fr.tr r8⟩
      · rw [r3 c, hm1 c, List.mem_cons]
        exact ⟨fun q => ⟨q.1.1, fun q2 => q2.elim q.1.2 q.2⟩, fun q => ⟨⟨q.1, fun e => q.2 (Or.inl e)⟩, fun e => q.2 (Or.inr e)⟩⟩
      · rw [r4 b hb, x68]
        by_cases e : b ∈ suf
        · rw [if_pos e, if_pos (List.mem_cons_of_mem _ e)]
        · rw [if_neg e]
          by_cases e2 : b = d
          · rw [if_pos (by omega), if_pos (by rw [e2]; exact List.mem_cons_self)]
          · rw [if_neg (by omega), if_neg (fun q => (List.mem_cons.mp q).elim e2 e)]
    have gn4 : am_inb (nI y) 4 = true := r_g4 hy
    by_cases hm : d ∈ w
    · obtain ⟨J', w', r1, rest⟩ := turn (w.erase d) _ rfl (hF.1.erase d) (fun c => by
        rw [hF.1.mem_erase_iff]
        exact And.comm)
      refine ⟨J', w', ?_, rest⟩
      have hpos := List.length_pos_of_mem hm
      rw [← r1]
      conv => lhs; unfold bX11_keepAll_88
      dsimp only
      rw [if_neg hle, z_inb (by omega), decide_eq_true g1, z_gdt, z_clamp (by omega), h123j, z_640, z_inb (by omega), decide_eq_true g2, z_gdt, am_lt, z_gdt, z_clamp (by omega), z_upj _ _ _ _ _ _ _ (by omega), hF.2.1 d hd, if_neg (z_if1 hm), gn4, z_gdt, bX11_keepAll_153, gn4, z_gdt, am_lt, z_640, z_inb (by omega), decide_eq_true g2, z_gdt, am_lt, nI_add, z_clamp (by omega), z_clamp (by omega), z_upj _ _ _ _ _ _ _ (by omega), hF.2.2, pk_sub (by omega), List.length_erase_of_mem hm]
    · obtain ⟨J', w', r1, rest⟩ := turn w _ rfl hF.1 (fun c => ⟨fun q => ⟨q, fun e => hm (e ▸ q)⟩, fun q => q.1⟩)
      refine ⟨J', w', ?_, rest⟩
      rw [← r1]
      conv => lhs; unfold bX11_keepAll_88
      dsimp only
      rw [if_neg hle, z_inb (by omega), decide_eq_true g1, z_gdt, z_clamp (by omega), h123j, z_640, z_inb (by omega), decide_eq_true g2, z_gdt, am_lt, z_gdt, z_clamp (by omega), z_upj _ _ _ _ _ _ _ (by omega), hF.2.1 d hd, if_pos (z_if0 hm), gn4, z_gdt, bX11_keepAll_153, gn4, z_gdt, am_lt, z_640, z_inb (by omega), decide_eq_true g2, z_gdt, am_lt, nI_add, z_clamp (by omega), z_clamp (by omega), z_upj _ _ _ _ _ _ _ (by omega), hF.2.2]
theorem r_keep {sv gn lg : List Nat} {J : am_I} (hy : y < 4) (hl : sv.length ≤ 640) (hnd : sv.Nodup) (hs6 : ∀ c, c ∈ sv → c < 640) (h56 : J 0 60 56 = nI sv.length) (h118 : ∀ k c, sv[k]? = some c → J 0 118 k = nI c) (hg : gn.length ≤ 32) (hg6 : ∀ c, c ∈ gn → c < 640) (h61 : J 0 60 61 = nI gn.length) (h123 : ∀ k c, gn[k]? = some c → J 0 123 k = nI c) (hF : FLw y J lg) (hl6 : ∀ c, c ∈ lg → c < 640) (h120 : ∀ b, b < 640 → J 0 120 b = if b ∈ sv then nI 1 else nI 0) : ∃ J' w', gX11_keepAll n (nI y) J = some J' ∧ FLw y J' w' ∧ (∀ c, c ∈ w' ↔ (c ∈ lg ∨ c ∈ sv) ∧ ¬ c ∈ gn) ∧ (∀ b, b < 640 → J' 0 68 (640 * y + b) = if b ∈ gn then nI 0 else J 0 68 (640 * y + b)) ∧ J' 0 60 56 = nI 0 ∧ J' 0 60 61 = nI 0 ∧ (∀ b, b < 640 → J' 0 120 b = nI 0) ∧ fKp y J J' := by
  obtain ⟨J1, w1, a1, a2, a3, a4, a5, a6, a7, a8⟩ := kp1_lp (n := n) hy sv 0 am_fu lg J (fu_lt (by omega)) (by omega) hnd hs6 (by rw [Nat.zero_add]; exact h56) (fun k c hk => by rw [Nat.zero_add]; exact h118 k c hk) hF
  obtain ⟨J2, w2, b1, b2, b3, b4, b5, b6, b7, b8⟩ := kp2_lp (n := n) hy gn 0 am_fu w1 J1 (fu_lt (by omega)) (by omega) hg6 (by rw [Nat.zero_add, a6]; exact h61) (fun k c hk => by rw [Nat.zero_add, a8.1 0 123 (by omega)]; exact h123 k c hk) a2 (fun c hc => ((a3 c).mp hc).elim (hl6 c) (hs6 c))
  refine ⟨J2, w2, ?_, b2, fun c => by rw [b3 c, a3 c], fun b hb => by rw [b4 b hb, a7], b6.trans a5, b5, fun b hb => ?_, a8.tr b8⟩
  · rw [gX11_keepAll, bX11_keepAll_0, a1, b1]
  · rw [b7, a4 b hb]
    by_cases e : b ∈ sv
    · rw [if_pos e]
    · rw [if_neg e, h120 b hb, if_neg e]
/-- how many would be logged: the reference -/
theorem tg1_lp {lg : List Nat} {J : am_I} (hy : y < 4) (hF : FLw y J lg) : ∀ (suf : List Nat) (c j fu : Nat), suf.length < fu → j + suf.length ≤ 640 → (∀ c, c ∈ suf → c < 640) → J 0 60 56 = nI (j + suf.length) → (∀ k c, suf[k]? = some c → J 0 118 (j + k) = nI c) → bX11_isTriedAgain_133 n fu (nI y) (nI c) (nI j) J = bX11_isTriedAgain_177 n am_fu (nI y) (nI (c + (suf.filter (fun b => decide (¬ b ∈ lg))).length)) (nI 0) J := by
  intro suf
  induction suf with
  | nil =>
    intro c j fu hf hj h640 h56 h118
    obtain ⟨fu, rfl⟩ : ∃ f, fu = f + 1 := ⟨fu - 1, by omega⟩
    conv => lhs; unfold bX11_isTriedAgain_133
    dsimp only
    have : J 0 60 56 ≤ nI j := by rw [h56, z_le (by simp at hj ⊢; omega) (by omega)]; simp
    rw [if_pos this, List.filter_nil]
    rfl
  | cons d suf ih =>
    intro c j fu hf hj h640 h56 h118
    obtain ⟨fu, rfl⟩ : ∃ f, fu = f + 1 := ⟨fu - 1, by omega⟩
    rw [List.length_cons] at hf hj h56
    have hd := h640 d List.mem_cons_self
    obtain ⟨h118j, h118'⟩ := shf h118
    have hle : ¬ J 0 60 56 ≤ nI j := by rw [h56, z_le (by omega) (by omega)]; omega
    have g1 : j < 640 := by omega
    have g2 : 640 * y + d < 2560 := by omega
    have i1 := fun c' => ih c' (j + 1) fu (by omega) (by omega) (fun c hc => h640 c (List.mem_cons_of_mem _ hc)) (by rw [h56]; exact congrArg nI (by omega)) h118'
    conv => lhs; unfold bX11_isTriedAgain_133
    dsimp only
    rw [if_neg hle, z_inb (by omega), decide_eq_true g1, z_gdt, z_clamp (by omega), h118j, z_640, z_inb (by omega), decide_eq_true g2, z_gdt, z_clamp (by omega), hF.2.1 d hd, List.filter_cons]
    by_cases hm : d ∈ lg
    · rw [if_neg (z_if1 hm), if_neg (c := decide _ = true) (by simp [hm]), bX11_isTriedAgain_168, nI_add, i1 c]
    · rw [if_pos (z_if0 hm), if_pos (c := decide _ = true) (by simp [hm]), bX11_isTriedAgain_168, nI_add, nI_add, i1 (c + 1), List.length_cons]
      rw [show c + 1 + (suf.filter (fun b => decide (¬ b ∈ lg))).length = c + ((suf.filter (fun b => decide (¬ b ∈ lg))).length + 1) from by omega]
theorem tg2_lp {lg sv : List Nat} {J : am_I} (hy : y < 4) (hF : FLw y J lg) (h120 : ∀ b, b < 640 → J 0 120 b = if b ∈ sv then nI 1 else nI 0) : ∀ (suf : List Nat) (c j fu : Nat), suf.length < fu → j + suf.length ≤ 32 → (∀ c, c ∈ suf → c < 640) → J 0 60 61 = nI (j + suf.length) → (∀ k c, suf[k]? = some c → J 0 123 (j + k) = nI c) → ∃ f', bX11_isTriedAgain_177 n fu (nI y) (nI (c + (suf.filter (fun b => decide (b ∈ lg ∨ b ∈ sv))).length)) (nI j) J = bX11_isTriedAgain_177 n (f' + 1) (nI y) (nI c) (nI (j + suf.length)) J := by
  intro suf
  induction suf with
  | nil =>
    intro c j fu hf hj h640 h61 h123
    obtain ⟨fu, rfl⟩ : ∃ f, fu = f + 1 := ⟨fu - 1, by omega⟩
    exact ⟨fu, rfl⟩
  | cons d suf ih =>
    intro c j fu hf hj h640 h61 h123
    obtain ⟨fu, rfl⟩ : ∃ f, fu = f + 1 := ⟨fu - 1, by omega⟩
    rw [List.length_cons] at hf hj h61
    have hd := h640 d List.mem_cons_self
    obtain ⟨h123j, h123'⟩ := shf h123
    have hle : ¬ J 0 60 61 ≤ nI j := by rw [h61, z_le (by omega) (by omega)]; omega
    have g1 : j < 64 := by omega
    have g2 : 640 * y + d < 2560 := by omega
    obtain ⟨f', i1⟩ := ih c (j + 1) fu (by omega) (by omega) (fun c hc => h640 c (List.mem_cons_of_mem _ hc)) (by rw [h61]; exact congrArg nI (by omega)) h123'
    refine ⟨f', ?_⟩
    rw [List.length_cons, show j + (suf.length + 1) = j + 1 + suf.length from by omega, ← i1]
    conv => lhs; unfold bX11_isTriedAgain_177
    dsimp only
    rw [if_neg hle, z_inb (by omega), decide_eq_true g1, z_gdt, z_clamp (by omega), h123j, z_640, z_inb (by omega), decide_eq_true g2, z_gdt, z_clamp (by omega), hF.2.1 d hd, z_gdt, z_inb (by omega), decide_eq_true hd, z_gdt, z_clamp (by omega), h120 d hd, List.filter_cons]
    by_cases hm : d ∈ lg
    · rw [if_neg (z_if1 hm), if_pos (c := decide _ = true) (by simp [hm]), bX11_isTriedAgain_219, bX11_isTriedAgain_226, List.length_cons, nI_add, pk_sub (by omega)]
      rfl
    · rw [if_pos (z_if0 hm)]
      by_cases hm2 : d ∈ sv
      · rw [if_pos (c := decide _ = true) (by simp [hm2]), if_pos hm2, if_neg (show ¬ nI 1 = (0 : Int32) from by decide), bX11_isTriedAgain_219, bX11_isTriedAgain_226, List.length_cons, nI_add, pk_sub (by omega)]
        rfl
      · rw [if_neg (c := decide _ = true) (by simp [hm, hm2]), if_neg hm2, if_pos (show nI 0 = (0 : Int32) from rfl), bX11_isTriedAgain_226, nI_add]
end KEEP
