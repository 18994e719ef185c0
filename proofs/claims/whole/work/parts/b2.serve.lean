
/-- a mode, or none -/
def nO (k : Nat) : Int32 := if k = 0 then (-1 : Int32) else nI (k - 1)
theorem nO_0 : nO 0 = (-1 : Int32) := rfl
theorem nO_s (k : Nat) : nO (k + 1) = nI k := rfl
theorem nO_m1 {k : Nat} (h : k < 2 ^ 20) : (nO k = (-1 : Int32)) = (k = 0) := by
  cases k with
  | zero => exact propext ⟨fun _ => rfl, fun _ => rfl⟩
  | succ k =>
    rw [nO_s]
    exact propext ⟨fun e => absurd e (z_m1n (by omega)), fun e => by omega⟩
/-- one resource's master, both sides -/
def MS1 (n : Nat) (I J : am_I) (row : List (Nat × Nat)) (gv cl : Nat → Nat) (r : Nat) : Prop :=
  row.length ≤ 4 ∧ I 0 8 r = nI row.length ∧ J 0 96 r = nI row.length
  ∧ (∀ i e, row[i]? = some e → e.1 < n ∧ (e.2 = 1 ∨ e.2 = 2) ∧ I 0 6 (4 * r + i) = nI e.1 ∧ I 0 7 (4 * r + i) = nI e.2 ∧ J 0 97 (16 * r + i) = nI e.1 ∧ J 0 98 (16 * r + i) = nI e.2)
  ∧ ∀ x, x < 4 → gv x ≤ 2 ∧ I 0 4 (4 * r + x) = nI (gv x) ∧ J 0 94 (4 * r + x) = nI (gv x) ∧ cl x ≤ 2 ∧ I 0 5 (4 * r + x) = nO (cl x) ∧ J 0 95 (4 * r + x) = nO (cl x)
def MSr (n : Nat) (I J : am_I) (rw : Nat → List (Nat × Nat)) (gv cl : Nat → Nat → Nat) : Prop := ∀ r, r < 136 → MS1 n I J (rw r) (gv r) (cl r) r
def up1 {α : Type} (f : Nat → α) (r : Nat) (v : α) : Nat → α := fun k => if k = r then v else f k
def up2 (f : Nat → Nat → Nat) (r x v : Nat) : Nat → Nat → Nat := fun k y => if k = r ∧ y = x then v else f k y
theorem up1_at {α : Type} {f : Nat → α} {r : Nat} {v : α} : up1 f r v r = v := if_pos rfl
theorem up1_ne {α : Type} {f : Nat → α} {r k : Nat} {v : α} (h : ¬ k = r) : up1 f r v k = f k := if_neg h
theorem up2_r {f : Nat → Nat → Nat} {r x v k : Nat} (h : ¬ k = r) : up2 f r x v k = f k := funext fun y => if_neg (fun q => h q.1)
theorem up2_a {f : Nat → Nat → Nat} {r x v : Nat} : up2 f r x v r x = v := if_pos ⟨rfl, rfl⟩
theorem up2_x {f : Nat → Nat → Nat} {r x v y : Nat} (h : ¬ y = x) : up2 f r x v r y = f r y := if_neg (fun q => h q.2)
/-- what a master's work leaves as it is -/
def fSI (I I' : am_I) : Prop := (∀ i j, ¬ (i = 0 ∧ ((4 ≤ j ∧ j ≤ 8) ∨ j = 9 ∨ j = 11)) → I' i j = I i j) ∧ ∀ k, ¬ (k = 3 ∨ k = 4) → I' 0 9 k = I 0 9 k
def fSJ (J J' : am_I) : Prop := (∀ i j, ¬ (i = 0 ∧ (j = 60 ∨ (94 ≤ j ∧ j ≤ 98) ∨ (101 ≤ j ∧ j ≤ 106) ∨ j = 108)) → J' i j = J i j) ∧ ∀ k, ¬ (k = 38 ∨ k = 39) → J' 0 60 k = J 0 60 k
theorem fSI.rf {J : am_I} : fSI J J := ⟨fun _ _ _ => rfl, fun _ _ => rfl⟩
theorem fSI.tr {J J' J'' : am_I} (h : fSI J J') (h' : fSI J' J'') : fSI J J'' := ⟨fun i j q => (h'.1 i j q).trans (h.1 i j q), fun k q => (h'.2 k q).trans (h.2 k q)⟩
theorem fSJ.rf {J : am_I} : fSJ J J := ⟨fun _ _ _ => rfl, fun _ _ => rfl⟩
theorem fSJ.tr {J J' J'' : am_I} (h : fSJ J J') (h' : fSJ J' J'') : fSJ J J'' := ⟨fun i j q => (h'.1 i j q).trans (h.1 i j q), fun k q => (h'.2 k q).trans (h.2 k q)⟩
theorem fMI.s {I I' : am_I} (h : fMI I I') : fSI I I' := ⟨fun i j q => h.1 i j (by omega), h.2⟩
theorem fMJ.s {J J' : am_I} (h : fMJ J J') : fSJ J J' := ⟨fun i j q => h.1 i j (by omega), h.2⟩
theorem ms_mail {n : Nat} {I J I' J' : am_I} {rw : Nat → List (Nat × Nat)} {gv cl : Nat → Nat → Nat} (h : MSr n I J rw gv cl) (hI : fMI I I') (hJ : fMJ J J') : MSr n I' J' rw gv cl := fun r hr => by
  unfold MS1
  rw [hI.1 0 8 (by omega), hI.1 0 6 (by omega), hI.1 0 7 (by omega), hI.1 0 4 (by omega), hI.1 0 5 (by omega), hJ.1 0 96 (by omega), hJ.1 0 97 (by omega), hJ.1 0 98 (by omega), hJ.1 0 94 (by omega), hJ.1 0 95 (by omega)]
  exact h r hr
theorem ml_ms {n T : Nat} {I J I' J' : am_I} {ms : List (Nat → Nat)} (h : MLr n T I J ms) (hI : ∀ i j, ¬ (i = 0 ∧ (4 ≤ j ∧ j ≤ 8)) → I' i j = I i j) (hJ : ∀ i j, ¬ (i = 0 ∧ (94 ≤ j ∧ j ≤ 98)) → J' i j = J i j) : MLr n T I' J' ms := by
  unfold MLr mC mR
  have e : ∀ c, c < 6 → J' 0 (101 + c) = J 0 (101 + c) := fun c hc => hJ 0 _ (by omega)
  rw [hI 0 9 (by omega), hI 0 11 (by omega), hI 0 0 (by omega), hI 0 10 (by omega), hJ 0 60 (by omega), hJ 0 107 (by omega), hJ 0 108 (by omega), hJ 0 65 (by omega)]
  obtain ⟨h1, h2, h3, h4, h5, h6, h7, h8, h9, h10, h11⟩ := h
  exact ⟨h1, ⟨h2.1, h2.2.1, fun k m hk c hc => by rw [e c hc]; exact h2.2.2 k m hk c hc⟩, h3, h4, h5, h6, h7, h8, h9, fun x hx => by rw [hI x 40 (by omega)]; exact h10 x hx, h11⟩
def agt (g m : Nat) : Bool := if m = 2 then decide (0 < g) else decide (g = 2)
def flr (m : Nat) : Nat := if m = 2 then 0 else 1
theorem agt_fl {g m : Nat} (hg : g ≤ 2) (hm : m = 1 ∨ m = 2) : agt g m = decide (flr m < g) := by
  unfold agt flr
  rcases hm with rfl | rfl
  · rw [if_neg (by decide), if_neg (by decide)]
    exact decide_eq_decide.mpr (by omega)
  · rw [if_pos rfl, if_pos rfl]
section SERVE
variable {n T : Nat} {I J : am_I} {ms : List (Nat → Nat)} {rw : Nat → List (Nat × Nat)} {gv cl : Nat → Nat → Nat}
theorem r_agt {r y m g : Nat} (hr : r < 136) (hy : y < 4) (hg : g ≤ 2) (hm : m = 1 ∨ m = 2) (h : J 0 94 (4 * r + y) = nI g) : gX11_against n (nI r) (nI y) (nI m) J = some (nI (if agt g m = true then 1 else 0), J) := by
  have g1 : 4 * r + y < 544 := by omega
  rw [agt_fl hg hm]
  rcases hm with rfl | rfl
  · have e : ¬ nI 1 = nI 2 := by decide
    rw [show flr 1 = 1 from rfl]
    simp (disch := omega) only [gX11_against, bX11_against_0, bX11_against_45, e, if_false, pk_mul, nI_add, z_inb, g1, decide_true, z_gdt, z_clamp, h, z_eq, decide_eq_true_eq]
    by_cases e2 : g = 2
    · rw [if_pos e2, if_pos (by omega), z_011]
      rfl
    · rw [if_neg e2, if_neg (by omega), z_01]
      rfl
  · rw [show flr 2 = 0 from rfl]
    simp (disch := omega) only [gX11_against, bX11_against_0, bX11_against_45, if_true, pk_mul, nI_add, z_inb, g1, decide_true, z_gdt, z_clamp, h, z_0, z_le, decide_eq_true_eq]
    by_cases e2 : g ≤ 0
    · rw [if_pos e2, if_neg (by omega), z_01]
      rfl
    · rw [if_neg e2, if_pos (by omega), z_011]
      rfl
/-- the reference looks whether a request stands against somebody: nobody -/
theorem sv_free {r z m M : Nat} {k0 : Int32 → am_I → Option am_I} (hn : n ≤ 4) (h1 : J 0 60 1 = nI n) (hr : r < 136) (hz : z < n) (hm : m = 1 ∨ m = 2) (hM : MS1 n I J (rw r) (gv r) (cl r) r) : ∀ (q i fu : Nat), i + q = n → q < fu → (∀ y, i ≤ y → y < n → y = z ∨ agt (gv r y) m = false) → bX11_serve_35 n k0 fu (nI r) (nI z) (nI m) (nI 1) (nI i) J = bX11_serve_129 n k0 (nI r) (nI z) (nI m) (nI (max (gv r z) m)) (nI (4 * r + z)) J := by
  intro q
  induction q with
  | zero =>
    intro i fu hi hf hfr
    obtain ⟨fu, rfl⟩ : ∃ f, fu = f + 1 := ⟨fu - 1, by omega⟩
    obtain rfl : i = n := by omega
    have g1 : 4 * r + z < 544 := by omega
    obtain ⟨v1, -, v2, -⟩ := hM.2.2.2.2 z (by omega)
    conv => lhs; unfold bX11_serve_35
    simp (disch := omega) only [h1, z_le, Nat.le_refl, if_true, z_10, if_false, pk_mul, nI_add, z_inb, g1, decide_true, z_gdt, z_clamp, v2]
    by_cases e : gv r z ≤ m
    · rw [if_pos e, Nat.max_eq_right e]
    · rw [if_neg e, Nat.max_eq_left (by omega)]
  | succ q ih =>
    intro i fu hi hf hfr
    obtain ⟨fu, rfl⟩ : ∃ f, fu = f + 1 := ⟨fu - 1, by omega⟩
    have hle : ¬ n ≤ i := by omega
    have hrec := ih (i + 1) fu (by omega) (by omega) (fun y a b => hfr y (by omega) b)
    conv => lhs; unfold bX11_serve_35
    simp (disch := omega) only [h1, z_le, hle, if_false, z_10, z_eq]
    by_cases e : i = z
    · rw [if_pos e, bX11_serve_66, bX11_serve_71, nI_add]
      exact hrec
    · obtain ⟨v1, -, v2, -⟩ := hM.2.2.2.2 i (by omega)
      have ha := (hfr i (Nat.le_refl _) (by omega)).resolve_left e
      have hag := r_agt (n := n) (r := r) (y := i) hr (by omega) v1 hm v2
      rw [ha] at hag
      rw [if_neg e, hag, Option.bind_some]
      show (if nI 0 = (0 : Int32) then bX11_serve_66 n k0 (bX11_serve_35 n k0 fu) (nI r) (nI z) (nI m) (nI i) J else _) = _
      rw [if_pos (show nI 0 = (0 : Int32) from rfl), bX11_serve_66, bX11_serve_71, nI_add]
      exact hrec
theorem sv_zero {r z m : Nat} {k0 : Int32 → am_I → Option am_I} (hn : n ≤ 4) (h1 : J 0 60 1 = nI n) : ∀ (q i fu : Nat), i + q = n → q < fu → bX11_serve_35 n k0 fu (nI r) (nI z) (nI m) (nI 0) (nI i) J = gX11_askBack n (nI r) (nI z) (nI m) J := by
  intro q
  induction q with
  | zero =>
    intro i fu hi hf
    obtain ⟨fu, rfl⟩ : ∃ f, fu = f + 1 := ⟨fu - 1, by omega⟩
    obtain rfl : i = n := by omega
    conv => lhs; unfold bX11_serve_35
    simp (disch := omega) only [h1, z_le, Nat.le_refl, if_true, z_00, z_bs]
  | succ q ih =>
    intro i fu hi hf
    obtain ⟨fu, rfl⟩ : ∃ f, fu = f + 1 := ⟨fu - 1, by omega⟩
    have hle : ¬ n ≤ i := by omega
    conv => lhs; unfold bX11_serve_35
    simp (disch := omega) only [h1, z_le, hle, if_false, z_00, if_true, bX11_serve_70, bX11_serve_71, nI_add]
    exact ih (i + 1) fu (by omega) (by omega)
theorem sv_not {r z m : Nat} {k0 : Int32 → am_I → Option am_I} (hn : n ≤ 4) (h1 : J 0 60 1 = nI n) (hr : r < 136) (hz : z < n) (hm : m = 1 ∨ m = 2) (hM : MS1 n I J (rw r) (gv r) (cl r) r) : ∀ (q i fu : Nat), i + q = n → q < fu → (∃ y, i ≤ y ∧ y < n ∧ ¬ y = z ∧ agt (gv r y) m = true) → bX11_serve_35 n k0 fu (nI r) (nI z) (nI m) (nI 1) (nI i) J = gX11_askBack n (nI r) (nI z) (nI m) J := by
  intro q
  induction q with
  | zero =>
    intro i fu hi hf hfr
    obtain ⟨y, y1, y2, -⟩ := hfr
    omega
  | succ q ih =>
    intro i fu hi hf hfr
    obtain ⟨fu, rfl⟩ : ∃ f, fu = f + 1 := ⟨fu - 1, by omega⟩
    have hle : ¬ n ≤ i := by omega
    conv => lhs; unfold bX11_serve_35
    simp (disch := omega) only [h1, z_le, hle, if_false, z_10, z_eq]
    by_cases e : i = z
    · rw [if_pos e, bX11_serve_66, bX11_serve_71, nI_add]
      refine ih (i + 1) fu (by omega) (by omega) ?_
      obtain ⟨y, y1, y2, y3, y4⟩ := hfr
      exact ⟨y, by omega, y2, y3, y4⟩
    · obtain ⟨v1, -, v2, -⟩ := hM.2.2.2.2 i (by omega)
      have hag := r_agt (n := n) (r := r) (y := i) hr (by omega) v1 hm v2
      rw [if_neg e, hag, Option.bind_some]
      by_cases ha : agt (gv r i) m = true
      · rw [ha]
        show (if nI 1 = (0 : Int32) then _ else bX11_serve_70 n k0 (bX11_serve_35 n k0 fu) (nI r) (nI z) (nI m) (nI i) J) = _
        rw [if_neg (by decide), bX11_serve_70, bX11_serve_71, nI_add]
        exact sv_zero hn h1 q (i + 1) fu (by omega) (by omega)
      · rw [if_neg ha]
        show (if nI 0 = (0 : Int32) then bX11_serve_66 n k0 (bX11_serve_35 n k0 fu) (nI r) (nI z) (nI m) (nI i) J else _) = _
        rw [if_pos (show nI 0 = (0 : Int32) from rfl), bX11_serve_66, bX11_serve_71, nI_add]
        refine ih (i + 1) fu (by omega) (by omega) ?_
        obtain ⟨y, y1, y2, y3, y4⟩ := hfr
        refine ⟨y, ?_, y2, y3, y4⟩
        by_cases e2 : y = i
        · rw [e2] at y4
          exact absurd y4 ha
        · omega
/-- the class: nobody is called back -/
theorem cb_free {r z m M : Nat} (hn : n ≤ 4) (hr : r < 136) (hz : z < n) (hm : m = 1 ∨ m = 2) (hM : MS1 n I J (rw r) (gv r) (cl r) r) : ∀ (q i fu : Nat), i + q = n → q < fu → (∀ y, i ≤ y → y < n → y = z ∨ agt (gv r y) m = false) → bX10_callOthersBack_18 n fu (nI r) (nI z) (nI M) (nI (flr m)) (nI 0) (nI i) I = some (nI 0, I) := by
  intro q
  induction q with
  | zero =>
    intro i fu hi hf hfr
    obtain ⟨fu, rfl⟩ : ∃ f, fu = f + 1 := ⟨fu - 1, by omega⟩
    obtain rfl : i = n := by omega
    conv => lhs; unfold bX10_callOthersBack_18
    simp (disch := omega) only [z_le, Nat.le_refl, if_true, z_01, z_gdt]
  | succ q ih =>
    intro i fu hi hf hfr
    obtain ⟨fu, rfl⟩ : ∃ f, fu = f + 1 := ⟨fu - 1, by omega⟩
    have hle : ¬ n ≤ i := by omega
    have hrec := ih (i + 1) fu (by omega) (by omega) (fun y a b => hfr y (by omega) b)
    have hfl : flr m ≤ 1 := by unfold flr; split <;> omega
    conv => lhs; unfold bX10_callOthersBack_18
    simp (disch := omega) only [z_le, hle, if_false, z_eq]
    by_cases e : i = z
    · rw [if_pos e, bX10_callOthersBack_116, nI_add]
      exact hrec
    · obtain ⟨v1, v2, -⟩ := hM.2.2.2.2 i (by omega)
      have ha := (hfr i (Nat.le_refl _) (by omega)).resolve_left e
      rw [agt_fl v1 hm] at ha
      have ha2 : ¬ flr m < gv r i := of_decide_eq_false ha
      have g1 : r * 4 + i < 544 := by omega
      have v2' : I 0 4 (r * 4 + i) = nI (gv r i) := by rw [Nat.mul_comm]; exact v2
      rw [if_neg e]
      simp (disch := omega) only [pk_mul, nI_add, z_inb, g1, decide_true, z_gdt, z_clamp, v2', z_lt, ha2, if_false, bX10_callOthersBack_116]
      exact hrec
end SERVE
