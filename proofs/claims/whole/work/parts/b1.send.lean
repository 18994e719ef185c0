
theorem mxd_app {f t : Nat} {x : Nat → Nat} : ∀ l : List (Nat → Nat), mxd f t (l ++ [x]) = if x 0 = f ∧ x 1 = t then max (mxd f t l) (x 5) else mxd f t l
  | [] => by
    show (if x 0 = f ∧ x 1 = t then max (x 5) 0 else 0) = _
    by_cases e : x 0 = f ∧ x 1 = t
    · rw [if_pos e, if_pos e, Nat.max_comm]
      rfl
    · rw [if_neg e, if_neg e]
      rfl
  | m :: l => by
    show (if m 0 = f ∧ m 1 = t then max (m 5) (mxd f t (l ++ [x])) else mxd f t (l ++ [x])) = if x 0 = f ∧ x 1 = t then max (if m 0 = f ∧ m 1 = t then max (m 5) (mxd f t l) else mxd f t l) (x 5) else (if m 0 = f ∧ m 1 = t then max (m 5) (mxd f t l) else mxd f t l)
    rw [mxd_app l]
    by_cases e : x 0 = f ∧ x 1 = t
    · rw [if_pos e, if_pos e]
      by_cases e2 : m 0 = f ∧ m 1 = t
      · rw [if_pos e2, if_pos e2]
        omega
      · rw [if_neg e2, if_neg e2]
    · rw [if_neg e, if_neg e]
theorem mxd_le {f t c : Nat} : ∀ l : List (Nat → Nat), (∀ m, m ∈ l → m 5 ≤ c) → mxd f t l ≤ c
  | [], _ => Nat.zero_le _
  | m :: l, h => by
    have h1 := h m List.mem_cons_self
    have h2 := mxd_le (f := f) (t := t) l (fun x hx => h x (List.mem_cons_of_mem _ hx))
    show (if m 0 = f ∧ m 1 = t then max (m 5) (mxd f t l) else mxd f t l) ≤ c
    split <;> omega
theorem mxd_ge {f t : Nat} {m : Nat → Nat} : ∀ l : List (Nat → Nat), m ∈ l → m 0 = f → m 1 = t → m 5 ≤ mxd f t l
  | [], h, _, _ => absurd h List.not_mem_nil
  | x :: l, h, e0, e1 => by
    show m 5 ≤ if x 0 = f ∧ x 1 = t then max (x 5) (mxd f t l) else mxd f t l
    rcases List.mem_cons.mp h with rfl | h
    · rw [if_pos ⟨e0, e1⟩]
      omega
    · have := mxd_ge l h e0 e1
      split <;> omega
/-- messages that come later -/
def lat (T : Nat) (ms : List (Nat → Nat)) : List (Nat → Nat) := ms.filter (fun m => decide (T < m 5))
theorem mxd_lat {f t T : Nat} : ∀ l : List (Nat → Nat), max T (mxd f t (lat T l)) = max T (mxd f t l)
  | [] => rfl
  | m :: l => by
    have ih := mxd_lat (f := f) (t := t) (T := T) l
    unfold lat at ih ⊢
    rw [List.filter_cons]
    by_cases e : T < m 5
    · rw [if_pos (decide_eq_true e)]
      show max T (if m 0 = f ∧ m 1 = t then max (m 5) (mxd f t (List.filter (fun m => decide (T < m 5)) l)) else mxd f t (List.filter (fun m => decide (T < m 5)) l)) = max T (if m 0 = f ∧ m 1 = t then max (m 5) (mxd f t l) else mxd f t l)
      split <;> omega
    · rw [if_neg (by rw [decide_eq_false e]; decide)]
      show max T (mxd f t (List.filter (fun m => decide (T < m 5)) l)) = max T (if m 0 = f ∧ m 1 = t then max (m 5) (mxd f t l) else mxd f t l)
      split <;> omega
theorem lat_app {T : Nat} {x : Nat → Nat} {ms : List (Nat → Nat)} (h : T < x 5) : lat T (ms ++ [x]) = lat T ms ++ [x] := by
  unfold lat
  rw [List.filter_append, List.filter_cons, if_pos (decide_eq_true h), List.filter_nil]
theorem lat_len {T : Nat} {ms : List (Nat → Nat)} : (lat T ms).length ≤ ms.length := List.length_filter_le _ _
/-- BOTH SIDES' MAIL -/
def MLr (n T : Nat) (I J : am_I) (ms : List (Nat → Nat)) : Prop :=
  mC I (lat T ms) ∧ mR J ms ∧ I 0 9 4 = J 0 60 39 ∧ I 0 0 7 = nI T ∧ J 0 60 2 = nI T ∧ T ≤ 100000
  ∧ (∀ w, w < 16 → ∃ d : Nat, 1 ≤ d ∧ d ≤ 20 ∧ I 0 10 w = nI d ∧ J 0 107 w = nI d)
  ∧ (∀ f t, f < 4 → t < 4 → ∃ ld : Nat, J 0 108 (4 * f + t) = nI ld ∧ mxd f t ms ≤ ld ∧ ld ≤ max T (mxd f t ms))
  ∧ (∀ m, m ∈ ms → m 5 ≤ T + 20) ∧ (∀ x, x < n → I x 40 5 = J 0 65 x ∧ (J 0 65 x = nI 0 ∨ J 0 65 x = nI 1)) ∧ J 0 60 1 = nI n
section SEND
variable {n T : Nat} {I J : am_I} {ms : List (Nat → Nat)}
/-- what a sending does to the messages -/
def snd (U : Nat → Int32) (T : Nat) (f t k r md : Nat) (ms ms' : List (Nat → Nat)) : Prop := (U t = nI 1 ∧ ∃ du, T < du ∧ mxd f t ms ≤ du ∧ ms' = ms ++ [nm f t k r md du]) ∨ (U t = nI 0 ∧ ms' = ms)
theorem p_send {f t k r md : Nat} (hn : n ≤ 4) (h : MLr n T I J ms) (hl : ms.length < 128) (hf : f < n) (ht : t < n) (hx : k < 2 ^ 20 ∧ r < 2 ^ 20 ∧ md < 2 ^ 20) : ∃ I' J' ms', gX10_post n (nI f) (nI t) (nI k) (nI r) (nI md) I = some I' ∧ gX11_send n (nI f) (nI t) (nI k) (nI r) (nI md) J = some J' ∧ MLr n T I' J' ms' ∧ fMI I I' ∧ fMJ J J' ∧ snd (J 0 65) T f t k r md ms ms' := by
  obtain ⟨h1, h2, h3, h4, h5, h6, h7, h8, h9, h10, h11⟩ := h
  obtain ⟨u1, u2⟩ := h10 t ht
  rcases u2 with u | u
  · have hu : I t 40 5 = nI 0 := u1.trans u
    refine ⟨_, _, ms, c_post0 hn ht hu, r_send0 (by omega) u, ⟨⟨?_, h1.2.1, fun k' m hk c hc => ?_⟩, ⟨?_, h2.2.1, fun k' m hk c hc => ?_⟩, ?_, ?_, ?_, h6, fun w hw => ?_, fun f t hf ht => ?_, h9, fun x hx => ?_, ?_⟩, ⟨fun i j q => z_upj _ _ _ _ _ _ _ (by omega), fun k q => by rw [z_upk, if_neg (by omega)]⟩, ⟨fun i j q => z_upj _ _ _ _ _ _ _ (by omega), fun k q => by rw [z_upk, if_neg (by omega)]⟩, Or.inr ⟨u, rfl⟩⟩
    · rw [z_upk, if_neg (by decide)]; exact h1.1
    · rw [z_upj _ _ _ _ _ _ _ (by omega)]; exact h1.2.2 k' m hk c hc
    · rw [z_upk, if_neg (by decide)]; exact h2.1
    · rw [z_upj _ _ _ _ _ _ _ (by omega)]; exact h2.2.2 k' m hk c hc
    · rw [z_upk, if_pos rfl, z_upk, if_pos rfl, h3]
    · rw [z_upj _ _ _ _ _ _ _ (by omega)]; exact h4
    · rw [z_upk, if_neg (by decide)]; exact h5
    · rw [z_upj _ _ _ _ _ _ _ (by omega), z_upj _ _ _ _ _ _ _ (by omega)]; exact h7 w hw
    · rw [z_upj _ _ _ _ _ _ _ (by omega)]; exact h8 f t hf ht
    · rw [z_upj _ _ _ _ _ _ _ (by omega), z_upj _ _ _ _ _ _ _ (by omega)]; exact h10 x hx
    · rw [z_upk, if_neg (by decide)]; exact h11
  · have hu : I t 40 5 = nI 1 := u1.trans u
    obtain ⟨dl, d1, d2, d3, d4⟩ := h7 (4 * f + t) (by omega)
    obtain ⟨ld, l1, l2, l3⟩ := h8 f t (by omega) (by omega)
    have hmx := mxd_le (f := f) (t := t) ms h9
    obtain ⟨J', e1, e2, e3, e4, e5⟩ := r_send (n := n) (T := T) (dl := dl) (ld := ld) h2 (by omega) (by omega : f < 4) (by omega) u h5 d4 l1 (by omega) (by omega) hx
    obtain ⟨I', f1, f2, f3, f4⟩ := c_post (n := n) (T := T) (dl := dl) hn h1 (by have := lat_len (T := T) (ms := ms); omega) (by omega : f < 4) ht hu h4 d3 (by omega) hx
    have hlat := mxd_lat (f := f) (t := t) (T := T) ms
    have edu : max (T + dl) (mxd f t (lat T ms)) = max (T + dl) ld := by omega
    rw [edu] at f2
    have hlt : T < nm f t k r md (max (T + dl) ld) 5 := by
      show T < max (T + dl) ld
      omega
    refine ⟨I', J', ms ++ [nm f t k r md (max (T + dl) ld)], f1, e1, ⟨by rw [lat_app hlt]; exact f2, e2, by rw [f3, e4, h3], by rw [f4.1 0 0 (by omega)]; exact h4, by rw [e5.2 2 (by decide)]; exact h5, h6, fun w hw => by rw [f4.1 0 10 (by omega), e5.1 0 107 (by omega)]; exact h7 w hw, fun f' t' hf' ht' => ?_, fun m hm => ?_, fun x hx => by rw [f4.1 x 40 (by omega), e5.1 0 65 (by omega)]; exact h10 x hx, by rw [e5.2 1 (by decide)]; exact h11⟩, f4, e5, Or.inl ⟨u, _, hlt, (show mxd f t ms ≤ max (T + dl) ld by omega), rfl⟩⟩
    · rw [e3, mxd_app]
      by_cases e : f = f' ∧ t = t'
      · obtain ⟨rfl, rfl⟩ := e
        refine ⟨max (T + dl) ld, if_pos rfl, ?_, ?_⟩
        · rw [if_pos ⟨rfl, rfl⟩]
          show max (mxd f t ms) (max (T + dl) ld) ≤ _
          omega
        · rw [if_pos ⟨rfl, rfl⟩]
          show max (T + dl) ld ≤ max T (max (mxd f t ms) (max (T + dl) ld))
          omega
      · rw [if_neg (by omega), if_neg (show ¬ (nm f t k r md (max (T + dl) ld) 0 = f' ∧ nm f t k r md (max (T + dl) ld) 1 = t') from fun q => e q)]
        exact h8 f' t' hf' ht'
    · rcases List.mem_append.mp hm with q | q
      · exact h9 m q
      · rw [List.mem_singleton.mp q]
        show max (T + dl) ld ≤ T + 20
        omega
/-- the master of a resource -/
def mst (n : Nat) (jn : Nat → Int32) (r : Nat) : Nat → Nat → Int32
  | 0, _ => (-1 : Int32)
  | m + 1, i => if jn ((r + i) % n) = nI 0 then mst n jn r m (i + 1) else nI ((r + i) % n)
theorem z_mod {a b : Nat} (ha : a < 2 ^ 20) (hb : 0 < b) (hb2 : b < 2 ^ 20) : nI a - nI a / nI b * nI b = nI (a % b) := by
  have := Nat.div_add_mod a b
  have h2 : b * (a / b) = a / b * b := Nat.mul_comm _ _
  rw [pk_div (by omega) (by omega) (by omega), pk_mul, pk_sub (by omega)]
  exact congrArg nI (by omega)
theorem r_mst {r : Nat} (hn : 0 < n) (hn4 : n ≤ 4) (hr : r < 136) (h1 : J 0 60 1 = nI n) : ∀ (m i fu : Nat), i + m = n → m < fu → bX11_masterOf_2 n fu (nI r) (nI i) J = some (mst n (J 0 66) r m i, J) := by
  intro m
  induction m with
  | zero =>
    intro i fu hi hf
    obtain ⟨fu, rfl⟩ : ∃ f, fu = f + 1 := ⟨fu - 1, by omega⟩
    obtain rfl : i = n := by omega
    conv => lhs; unfold bX11_masterOf_2
    simp (disch := omega) only [h1, z_le, Nat.le_refl, if_true]
    rfl
  | succ m ih =>
    intro i fu hi hf
    obtain ⟨fu, rfl⟩ : ∃ f, fu = f + 1 := ⟨fu - 1, by omega⟩
    have hle : ¬ n ≤ i := by omega
    have h0 : ¬ nI n = (0 : Int32) := fun e => by have := w_nI (a := n) (b := 0) (by omega) (by decide) e; omega
    have hm := Nat.mod_lt (r + i) hn
    have hm4 : (r + i) % n < 4 := by omega
    conv => lhs; unfold bX11_masterOf_2
    simp (disch := omega) only [h1, z_le, hle, if_false, h0, not_false_eq_true, decide_true, z_gdt, nI_add, z_mod, z_inb, hm4, z_clamp]
    rw [ih (i + 1) fu (by omega) (by omega)]
    show _ = some (if J 0 66 ((r + i) % n) = nI 0 then mst n (J 0 66) r m (i + 1) else nI ((r + i) % n), J)
    by_cases e : J 0 66 ((r + i) % n) = nI 0
    · rw [if_pos e, if_pos (show J 0 66 ((r + i) % n) = 0 from e)]
    · rw [if_neg e, if_neg (show ¬ J 0 66 ((r + i) % n) = 0 from e)]
theorem c_mst {r : Nat} (hn : 0 < n) (hn4 : n ≤ 4) (hr : r < 136) (hj : ∀ x, x < n → I x 40 6 = J 0 66 x) : ∀ (m i fu : Nat), i + m = n → m < fu → bX10_masterOf_14 n fu (nI r) (nI n) (nI i) I = some (mst n (J 0 66) r m i, I) := by
  intro m
  induction m with
  | zero =>
    intro i fu hi hf
    obtain ⟨fu, rfl⟩ : ∃ f, fu = f + 1 := ⟨fu - 1, by omega⟩
    obtain rfl : i = n := by omega
    conv => lhs; unfold bX10_masterOf_14
    simp (disch := omega) only [z_le, Nat.le_refl, if_true]
    rfl
  | succ m ih =>
    intro i fu hi hf
    obtain ⟨fu, rfl⟩ : ∃ f, fu = f + 1 := ⟨fu - 1, by omega⟩
    have hle : ¬ n ≤ i := by omega
    have h0 : ¬ nI n = (0 : Int32) := fun e => by have := w_nI (a := n) (b := 0) (by omega) (by decide) e; omega
    have hm := Nat.mod_lt (r + i) hn
    conv => lhs; unfold bX10_masterOf_14
    simp (disch := omega) only [z_le, hle, if_false, h0, not_false_eq_true, decide_true, z_gdt, nI_add, z_mod, z_inb, hm, z_clamp, hj]
    rw [ih (i + 1) fu (by omega) (by omega)]
    show _ = some (if J 0 66 ((r + i) % n) = nI 0 then mst n (J 0 66) r m (i + 1) else nI ((r + i) % n), I)
    by_cases e : J 0 66 ((r + i) % n) = nI 0
    · rw [if_pos e, if_pos (show J 0 66 ((r + i) % n) = 0 from e)]
    · rw [if_neg e, if_neg (show ¬ J 0 66 ((r + i) % n) = 0 from e)]
theorem p_mst {r : Nat} (hn : 0 < n) (hn4 : n ≤ 4) (hr : r < 136) (h1 : J 0 60 1 = nI n) (hj : ∀ x, x < n → I x 40 6 = J 0 66 x) : gX10_masterOf n (nI r) I = some (mst n (J 0 66) r n 0, I) ∧ gX11_masterOf n (nI r) J = some (mst n (J 0 66) r n 0, J) := by
  have h0 : ¬ nI n = (0 : Int32) := fun e => by have := w_nI (a := n) (b := 0) (by omega) (by decide) e; omega
  refine ⟨?_, ?_⟩
  · rw [gX10_masterOf, bX10_masterOf_0, if_neg h0]
    exact c_mst hn hn4 hr hj n 0 am_fu (by omega) (fu_lt (by omega))
  · rw [gX11_masterOf, bX11_masterOf_0]
    exact r_mst hn hn4 hr h1 n 0 am_fu (by omega) (fu_lt (by omega))
theorem mst_c {jn : Nat → Int32} {r : Nat} (hn : 0 < n) : ∀ m i, (mst n jn r m i = (-1 : Int32) ∧ ∀ k, i ≤ k → k < i + m → jn ((r + k) % n) = nI 0) ∨ ∃ M, M < n ∧ mst n jn r m i = nI M ∧ ¬ jn M = nI 0
  | 0, i => Or.inl ⟨rfl, fun k h1 h2 => by omega⟩
  | m + 1, i => by
    show ((if jn ((r + i) % n) = nI 0 then mst n jn r m (i + 1) else nI ((r + i) % n)) = (-1 : Int32) ∧ _) ∨ ∃ M, M < n ∧ (if jn ((r + i) % n) = nI 0 then mst n jn r m (i + 1) else nI ((r + i) % n)) = nI M ∧ _
    by_cases e : jn ((r + i) % n) = nI 0
    · rw [if_pos e]
      rcases mst_c (jn := jn) (r := r) hn m (i + 1) with ⟨q1, q2⟩ | q
      · refine Or.inl ⟨q1, fun k h1 h2 => ?_⟩
        by_cases e2 : k = i
        · rw [e2]; exact e
        · exact q2 k (by omega) (by omega)
      · exact Or.inr q
    · rw [if_neg e]
      exact Or.inr ⟨_, Nat.mod_lt _ hn, rfl, e⟩
end SEND
