/-- what a node sees -/
def t_v (y : Nat) (J : am_I) : wS := fun b i => if J 0 68 (640 * y + b) = nI 1 then J 0 67 (16 * (640 * y + b) + i) else J 0 64 (16 * b + i)
/-- a block as it was, now read -/
def Bf (D : Nat → Int32) (B : wS) (b : Nat) : wS := fun c i => if c = b then (if i = 16 then nI 1 else D (16 * b + i)) else B c i
def Bm (h : Int32) (D : Nat → Int32) (B : wS) (b : Nat) : wS := if h = nI 1 then B else Bf D B b
def svp (sv : List Nat) (b : Nat) : List Nat := if b ∈ sv then sv else sv ++ [b]
theorem svp_mem {sv : List Nat} {b c : Nat} : c ∈ svp sv b ↔ c ∈ sv ∨ c = b := by
  unfold svp
  by_cases h : b ∈ sv
  · rw [if_pos h]
    constructor
    · exact Or.inl
    · rintro (h1 | rfl)
      · exact h1
      · exact h
  · rw [if_neg h, List.mem_append, List.mem_singleton]
theorem svp_nd {sv : List Nat} {b : Nat} (h : sv.Nodup) : (svp sv b).Nodup := by
  unfold svp
  by_cases hb : b ∈ sv
  · rw [if_pos hb]; exact h
  · rw [if_neg hb, List.nodup_append]
    refine ⟨h, List.nodup_cons.mpr ⟨List.not_mem_nil, List.nodup_nil⟩, fun a ha c hc e => hb ?_⟩
    rw [List.mem_singleton] at hc
    rw [← hc, ← e]
    exact ha
/-- the reference's side of a try -/
def pr_ref (y : Nat) (B : wS) (sv : List Nat) (J : am_I) : Prop :=
  J 0 60 51 = nI y ∧ J 0 60 56 = nI sv.length ∧ sv.Nodup ∧ (∀ b, b ∈ sv → b < 640)
  ∧ (∀ b, b < 640 → J 0 120 b = if b ∈ sv then nI 1 else nI 0)
  ∧ (∀ k b, sv[k]? = some b → J 0 118 k = nI b ∧ J 0 119 k = B b 16 ∧ (B b 16 = nI 1 → ∀ i, i < 16 → J 0 121 (16 * k + i) = B b i))
  ∧ (∀ b, b < 640 → b ∉ sv → J 0 68 (640 * y + b) = B b 16 ∧ (B b 16 = nI 1 → ∀ i, i < 16 → J 0 67 (16 * (640 * y + b) + i) = B b i))
  ∧ (∀ b, b < 640 → J 0 68 (640 * y + b) = nI 0 ∨ J 0 68 (640 * y + b) = nI 1)
/-- only the node's own cache changes -/
def f67 (y : Nat) (J J' : am_I) : Prop := (∀ i j, ¬ (i = 0 ∧ (j = 67 ∨ j = 68)) → J' i j = J i j) ∧ (∀ k, ¬ (640 * y ≤ k ∧ k < 640 * y + 640) → J' 0 68 k = J 0 68 k) ∧ ∀ k, ¬ (16 * (640 * y) ≤ k ∧ k < 16 * (640 * y + 640)) → J' 0 67 k = J 0 67 k
/-- what a try of the reference leaves as it is -/
def fJ (y : Nat) (J J' : am_I) : Prop := (∀ i j, ¬ (i = 0 ∧ (j = 60 ∨ j = 67 ∨ j = 68 ∨ (118 ≤ j ∧ j ≤ 123))) → J' i j = J i j) ∧ (∀ k, ¬ ((51 ≤ k ∧ k ≤ 56) ∨ k = 61) → J' 0 60 k = J 0 60 k) ∧ (∀ k, ¬ (640 * y ≤ k ∧ k < 640 * y + 640) → J' 0 68 k = J 0 68 k) ∧ ∀ k, ¬ (16 * (640 * y) ≤ k ∧ k < 16 * (640 * y + 640)) → J' 0 67 k = J 0 67 k
theorem fJ.rf {y : Nat} {J : am_I} : fJ y J J := ⟨fun _ _ _ => rfl, fun _ _ => rfl, fun _ _ => rfl, fun _ _ => rfl⟩
theorem fJ.tr {y : Nat} {J J' J'' : am_I} (h : fJ y J J') (h' : fJ y J' J'') : fJ y J J'' := ⟨fun i j e => (h'.1 i j e).trans (h.1 i j e), fun k e => (h'.2.1 k e).trans (h.2.1 k e), fun k e => (h'.2.2.1 k e).trans (h.2.2.1 k e), fun k e => (h'.2.2.2 k e).trans (h.2.2.2 k e)⟩
theorem z_n10 : ¬ nI 1 = nI 0 := by decide
theorem z_n01 : ¬ nI 0 = nI 1 := by decide
theorem r_fetch {n y b : Nat} {B : wS} {sv : List Nat} {J : am_I} (hy : y < 4) (hb : b < 640) (h : pr_ref y B sv J) (hsv : ∀ c, c ∈ sv → J 0 68 (640 * y + c) = nI 1) : ∃ J', gX11_fetch n (nI b) J = some J' ∧ pr_ref y (Bm (J 0 68 (640 * y + b)) (J 0 64) B b) sv J' ∧ (∀ c i, c < 640 → i < 16 → t_v y J' c i = t_v y J c i) ∧ (∀ c, c < 640 → J' 0 68 (640 * y + c) = if c = b then nI 1 else J 0 68 (640 * y + c)) ∧ f67 y J J' := by
  obtain ⟨a1, a2, a3, a4, a5, a6, a7, a8⟩ := h
  have g1 : 640 * y + b < 2560 := by omega
  rcases a8 b hb with h0 | h0
  · obtain ⟨J', e1, e2, e3⟩ := lp_fetch (n := n) hy hb 16 0 am_fu (am_up J 0 68 (640 * y + b) (nI 1)) rfl (by decide) (by rw [z_upj _ _ _ _ _ _ _ (by decide)]; exact a1)
    have f68 : ∀ k, J' 0 68 k = if k = 640 * y + b then nI 1 else J 0 68 k := fun k => by rw [e2 0 68 (by decide), z_upk]
    have q67 : ∀ k, J' 0 67 k = if 16 * (640 * y + b) + 0 ≤ k ∧ k < 16 * (640 * y + b) + 16 then J 0 64 (16 * b + (k - 16 * (640 * y + b))) else J 0 67 k := fun k => by rw [e3 k, z_upj _ _ _ _ _ _ _ (by decide), z_upj _ _ _ _ _ _ _ (by decide)]
    have fr : ∀ i j, ¬ (i = 0 ∧ (j = 67 ∨ j = 68)) → J' i j = J i j := fun i j hij => by
      rw [e2 i j (fun e => hij ⟨e.1, Or.inl e.2⟩), z_upj _ _ _ _ _ _ _ (fun e => hij ⟨e.1, Or.inr e.2⟩)]
    have hbs : b ∉ sv := fun hm => by
      have := hsv b hm
      rw [h0] at this
      exact z_n01 this
    have w67 : ∀ c i, i < 16 → J' 0 67 (16 * (640 * y + c) + i) = if c = b then J 0 64 (16 * b + i) else J 0 67 (16 * (640 * y + c) + i) := fun c i hi => by
      rw [q67]
      by_cases e : c = b
      · subst e
        rw [if_pos (by omega), if_pos rfl, show 16 * (640 * y + c) + i - 16 * (640 * y + c) = i from by omega]
      · rw [if_neg (by omega), if_neg e]
    have w68 : ∀ c, J' 0 68 (640 * y + c) = if c = b then nI 1 else J 0 68 (640 * y + c) := fun c => by
      rw [f68]
      by_cases e : c = b
      · rw [if_pos (by omega), if_pos e]
      · rw [if_neg (by omega), if_neg e]
    refine ⟨J', ?_, ?_, fun c i hc hi => ?_, fun c _ => w68 c, fr, fun k hk => by rw [f68, if_neg (by omega)], fun k hk => by rw [q67, if_neg (by omega)]⟩
    · rw [← e1]
      simp (disch := omega) only [gX11_fetch, bX11_fetch_0, a1, pk_mul, nI_add, z_inb, z_clamp, g1, decide_true, z_gdt, h0, z_00, if_true, am_lt]
    · have eB : Bm (J 0 68 (640 * y + b)) (J 0 64) B b = Bf (J 0 64) B b := by
        unfold Bm
        rw [h0, if_neg z_n01]
      have eBo : ∀ c i, ¬ c = b → Bf (J 0 64) B b c i = B c i := fun c i e => if_neg e
      rw [eB]
      refine ⟨by rw [fr 0 60 (by decide)]; exact a1, by rw [fr 0 60 (by decide)]; exact a2, a3, a4, fun c hc => by rw [fr 0 120 (by decide)]; exact a5 c hc, fun k c hk => ?_, fun c hc hn => ?_, fun c hc => ?_⟩
      · have e : ¬ c = b := fun e => hbs (e ▸ List.mem_of_getElem? hk)
        rw [fr 0 118 (by decide), fr 0 119 (by decide), fr 0 121 (by decide), eBo c 16 e]
        refine ⟨(a6 k c hk).1, (a6 k c hk).2.1, fun hB i hi => ?_⟩
        rw [eBo c i e]
        exact (a6 k c hk).2.2 hB i hi
      · rw [w68 c]
        by_cases e : c = b
        · subst e
          rw [if_pos rfl]
          refine ⟨by unfold Bf; rw [if_pos rfl, if_pos rfl], fun _ i hi => ?_⟩
          rw [w67 c i hi, if_pos rfl]
          unfold Bf
          rw [if_pos rfl, if_neg (by omega)]
        · rw [if_neg e, eBo c 16 e]
          refine ⟨(a7 c hc hn).1, fun hB i hi => ?_⟩
          rw [w67 c i hi, if_neg e, eBo c i e]
          exact (a7 c hc hn).2 hB i hi
      · rw [w68 c]
        by_cases e : c = b
        · rw [if_pos e]; exact Or.inr rfl
        · rw [if_neg e]; exact a8 c hc
    · unfold t_v
      rw [w68 c, w67 c i hi, fr 0 64 (by decide)]
      by_cases e : c = b
      · subst e
        rw [if_pos rfl, if_pos rfl, if_pos rfl, h0, if_neg z_n01]
      · rw [if_neg e, if_neg e]
  · refine ⟨J, ?_, ?_, fun _ _ _ _ => rfl, fun c hc => ?_, fun _ _ _ => rfl, fun _ _ => rfl, fun _ _ => rfl⟩
    · simp (disch := omega) only [gX11_fetch, bX11_fetch_0, a1, pk_mul, nI_add, z_inb, z_clamp, g1, decide_true, z_gdt, h0, z_10, if_false]
    · unfold Bm
      rw [h0, if_pos rfl]
      exact ⟨a1, a2, a3, a4, a5, a6, a7, a8⟩
    · by_cases e : c = b
      · rw [if_pos e, e]; exact h0
      · rw [if_neg e]
theorem r_get {n y b i : Nat} {B : wS} {sv : List Nat} {J : am_I} (hy : y < 4) (hb : b < 640) (hi : i < 16) (h : pr_ref y B sv J) (hsv : ∀ c, c ∈ sv → J 0 68 (640 * y + c) = nI 1) : ∃ J', gX11_get n (nI b) (nI i) J = some (t_v y J b i, J') ∧ pr_ref y (Bm (J 0 68 (640 * y + b)) (J 0 64) B b) sv J' ∧ (∀ c i, c < 640 → i < 16 → t_v y J' c i = t_v y J c i) ∧ (∀ c, c < 640 → J' 0 68 (640 * y + c) = if c = b then nI 1 else J 0 68 (640 * y + c)) ∧ f67 y J J' := by
  obtain ⟨J', e1, e2, e3, e4, e5⟩ := r_fetch (n := n) hy hb h hsv
  refine ⟨J', ?_, e2, e3, e4, e5⟩
  have hv : t_v y J b i = J' 0 67 (16 * (640 * y + b) + i) := by
    rw [← e3 b i hb hi]
    unfold t_v
    rw [e4 b hb, if_pos rfl, if_pos rfl]
  have g2 : 16 * (640 * y + b) + i < 40960 := by omega
  rw [hv]
  simp (disch := omega) only [gX11_get, bX11_get_0, e1, Option.bind_some, e2.1, pk_mul, nI_add, z_inb, z_clamp, g2, decide_true, z_gdt]
theorem r_save {n y b : Nat} {B : wS} {sv : List Nat} {J : am_I} (hy : y < 4) (hb : b < 640) (h : pr_ref y B sv J) (hl : sv.length < 640) : ∃ J', gX11_save n (nI b) J = some J' ∧ pr_ref y B (svp sv b) J' ∧ (∀ i j, ¬ (i = 0 ∧ (j = 60 ∨ (118 ≤ j ∧ j ≤ 121))) → J' i j = J i j) ∧ ∀ k, ¬ k = 56 → J' 0 60 k = J 0 60 k := by
  obtain ⟨a1, a2, a3, a4, a5, a6, a7, a8⟩ := h
  have g1 : 640 * y + b < 2560 := by omega
  by_cases hm : b ∈ sv
  · have h5 := a5 b hb
    rw [if_pos hm] at h5
    have es : svp sv b = sv := by unfold svp; rw [if_pos hm]
    refine ⟨J, ?_, ?_, fun _ _ _ => rfl, fun _ _ => rfl⟩
    · simp (disch := omega) only [gX11_save, bX11_save_0, z_inb, z_clamp, hb, decide_true, z_gdt, h5, z_10, if_false]
    · rw [es]
      exact ⟨a1, a2, a3, a4, a5, a6, a7, a8⟩
  · have h5 := a5 b hb
    rw [if_neg hm] at h5
    have es : svp sv b = sv ++ [b] := by unfold svp; rw [if_neg hm]
    have h01 : am_01 (J 0 68 (640 * y + b)) = true := decide_eq_true (a8 b hb)
    obtain ⟨J', e1, e2, e3⟩ := lp_save (n := n) hy hb hl 16 0 am_fu (am_up (am_up (am_up J 0 120 b (nI 1)) 0 118 sv.length (nI b)) 0 119 sv.length (J 0 68 (640 * y + b))) rfl (by decide) (by simp (disch := omega) only [z_upj]; exact a1) (by simp (disch := omega) only [z_upj]; exact a2)
    have hJ56 : J' 0 60 56 = nI sv.length := by rw [e2 0 60 (by decide)]; simp (disch := omega) only [z_upj]; exact a2
    have fr : ∀ i j, ¬ (i = 0 ∧ (j = 60 ∨ (118 ≤ j ∧ j ≤ 121))) → am_up J' 0 60 56 (nI sv.length + nI 1) i j = J i j := fun i j hij => by
      rw [z_upj _ _ _ _ _ _ _ (by omega), e2 i j (by omega)]
      simp (disch := omega) only [z_upj]
    have q60 : ∀ k, ¬ k = 56 → am_up J' 0 60 56 (nI sv.length + nI 1) 0 60 k = J 0 60 k := fun k hk => by
      rw [z_upk, if_neg hk, e2 0 60 (by decide)]
      simp (disch := omega) only [z_upj]
    have q118 : ∀ k, am_up J' 0 60 56 (nI sv.length + nI 1) 0 118 k = if k = sv.length then nI b else J 0 118 k := fun k => by
      rw [z_upj _ _ _ _ _ _ _ (by decide), e2 0 118 (by decide)]
      simp (disch := omega) only [z_upj, z_upk]
    have q119 : ∀ k, am_up J' 0 60 56 (nI sv.length + nI 1) 0 119 k = if k = sv.length then J 0 68 (640 * y + b) else J 0 119 k := fun k => by
      rw [z_upj _ _ _ _ _ _ _ (by decide), e2 0 119 (by decide)]
      simp (disch := omega) only [z_upj, z_upk]
    have q120 : ∀ k, am_up J' 0 60 56 (nI sv.length + nI 1) 0 120 k = if k = b then nI 1 else J 0 120 k := fun k => by
      rw [z_upj _ _ _ _ _ _ _ (by decide), e2 0 120 (by decide)]
      simp (disch := omega) only [z_upj, z_upk]
    have q121 : ∀ k, am_up J' 0 60 56 (nI sv.length + nI 1) 0 121 k = if 16 * sv.length + 0 ≤ k ∧ k < 16 * sv.length + 16 then J 0 67 (16 * (640 * y + b) + (k - (16 * sv.length))) else J 0 121 k := fun k => by
      rw [z_upj _ _ _ _ _ _ _ (by decide), e3 k]
      simp (disch := omega) only [z_upj]
    refine ⟨am_up J' 0 60 56 (nI sv.length + nI 1), ?_, ?_, fr, q60⟩
    · rw [← hJ56, ← e1]
      simp (disch := omega) only [gX11_save, bX11_save_0, z_inb, z_clamp, hb, decide_true, z_gdt, h5, z_00, if_true, am_lt, z_upj, a2, hl, a1, pk_mul, nI_add, g1, h01]
    · rw [es]
      refine ⟨by rw [q60 51 (by decide)]; exact a1, by rw [z_upk, if_pos rfl, List.length_append, nI_add]; rfl, es ▸ svp_nd a3, fun c hc => ?_, fun c hc => ?_, fun k c hk => ?_, fun c hc hn => ?_, fun c hc => by rw [fr 0 68 (by decide)]; exact a8 c hc⟩
      · rcases List.mem_append.mp hc with h | h
        · exact a4 c h
        · rw [List.mem_singleton.mp h]; exact hb
      · rw [q120]
        by_cases e : c = b
        · rw [if_pos e, if_pos (List.mem_append.mpr (Or.inr (List.mem_singleton.mpr e)))]
        · rw [if_neg e, a5 c hc]
          by_cases h : c ∈ sv
          · rw [if_pos h, if_pos (List.mem_append.mpr (Or.inl h))]
          · rw [if_neg h, if_neg (fun h2 => (List.mem_append.mp h2).elim h (fun h3 => e (List.mem_singleton.mp h3)))]
      · rw [q118, q119]
        by_cases e : k < sv.length
        · rw [List.getElem?_append_left e] at hk
          rw [if_neg (by omega), if_neg (by omega)]
          refine ⟨(a6 k c hk).1, (a6 k c hk).2.1, fun hB i hi => ?_⟩
          rw [q121, if_neg (by omega)]
          exact (a6 k c hk).2.2 hB i hi
        · rw [List.getElem?_append_right (by omega)] at hk
          have ek : k = sv.length := by
            rcases Nat.lt_or_ge (k - sv.length) 1 with h | h
            · omega
            · rw [List.getElem?_eq_none (by simpa using h)] at hk; cases hk
          subst ek
          rw [Nat.sub_self] at hk
          obtain rfl : b = c := by simpa using hk
          rw [if_pos rfl, if_pos rfl]
          refine ⟨rfl, (a7 b hb hm).1, fun hB i hi => ?_⟩
          rw [q121, if_pos (by omega), show 16 * sv.length + i - (16 * sv.length) = i from by omega]
          exact (a7 b hb hm).2 hB i hi
      · rw [fr 0 68 (by decide), fr 0 67 (by decide)]
        exact a7 c hc (fun h => hn (List.mem_append.mpr (Or.inl h)))
