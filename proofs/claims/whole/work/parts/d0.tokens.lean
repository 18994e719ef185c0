
/-- a message, its six numbers alone -/
def nz (m : Nat → Nat) : Nat → Nat := nm (m 0) (m 1) (m 2) (m 3) (m 4) (m 5)
/-- what a node asked for is under way -/
def tA (x r : Nat) (m : Nat → Nat) : Bool := decide (m 3 = r ∧ ((m 2 = 0 ∧ m 0 = x) ∨ (m 2 = 1 ∧ m 1 = x)))
/-- what is called back of a node is under way -/
def tB (x r : Nat) (m : Nat → Nat) : Bool := decide (m 3 = r ∧ ((m 2 = 2 ∧ m 1 = x) ∨ (m 2 = 3 ∧ m 0 = x)))
def gr (ms : List (Nat → Nat)) (x r : Nat) : Prop := ∃ m, m ∈ ms ∧ m 2 = 1 ∧ m 1 = x ∧ m 3 = r
def rl (ms : List (Nat → Nat)) (x r : Nat) : Prop := ∃ m, m ∈ ms ∧ m 2 = 3 ∧ m 0 = x ∧ m 3 = r
def rwc (row : List (Nat × Nat)) (x : Nat) : Nat := row.countP (fun e => decide (e.1 = x))
def nz1 (a : Nat) : Nat := if a = 0 then 0 else 1
def PLm (n : Nat) (U : Nat → Int32) (mr : Nat → Nat) (ms : List (Nat → Nat)) (cl H A : Nat → Nat → Nat) : Prop := ∀ m, m ∈ ms → nz m = m ∧ m 0 < n ∧ m 1 < n ∧ U (m 0) = nI 1 ∧ U (m 1) = nI 1 ∧ m 3 < 136 ∧ ((m 2 = 0 ∧ m 1 = mr (m 3) ∧ m 4 = A (m 0) (m 3)) ∨ (m 2 = 1 ∧ m 0 = mr (m 3) ∧ m 4 = A (m 1) (m 3)) ∨ (m 2 = 2 ∧ m 0 = mr (m 3) ∧ m 4 + 1 = cl (m 3) (m 1)) ∨ (m 2 = 3 ∧ m 1 = mr (m 3) ∧ m 4 + 1 = cl (m 3) (m 0) ∧ m 4 = H (m 0) (m 3)))
def PLa (n : Nat) (U : Nat → Int32) (mr : Nat → Nat) (ms : List (Nat → Nat)) (rw : Nat → List (Nat × Nat)) (A : Nat → Nat → Nat) : Prop := ∀ x r, x < n → r < 136 → U x = nI 1 → U (mr r) = nI 1 → ms.countP (tA x r) + rwc (rw r) x = nz1 (A x r) ∧ ∀ m, (x, m) ∈ rw r → m = A x r
def PLb (n : Nat) (U : Nat → Int32) (mr : Nat → Nat) (ms : List (Nat → Nat)) (rw : Nat → List (Nat × Nat)) (gv cl B : Nat → Nat → Nat) : Prop := ∀ x r, x < n → r < 136 → U x = nI 1 → U (mr r) = nI 1 → ms.countP (tB x r) + nz1 (B x r) = nz1 (cl r x) ∧ (¬ B x r = 0 → B x r = cl r x ∧ ¬ gr ms x r) ∧ (rl ms x r → ¬ gr ms x r) ∧ (¬ cl r x = 0 → ∃ z m rest, rw r = (z, m) :: rest ∧ ¬ z = x ∧ agt (gv r x) m = true ∧ cl r x = flr m + 1)
def PLv (n : Nat) (U : Nat → Int32) (mr : Nat → Nat) (ms : List (Nat → Nat)) (gv H A : Nat → Nat → Nat) : Prop := ∀ x r, x < n → r < 136 → U x = nI 1 → U (mr r) = nI 1 → H x r ≤ gv r x ∧ (¬ rl ms x r → gr ms x r → gv r x = max (H x r) (A x r)) ∧ (¬ rl ms x r → ¬ gr ms x r → gv r x = H x r)
def PLr (n : Nat) (U : Nat → Int32) (rw : Nat → List (Nat × Nat)) (A : Nat → Nat → Nat) : Prop := (∀ x r r' m m', r < 136 → r' < 136 → (x, m) ∈ rw r → (x, m') ∈ rw r' → r = r') ∧ (∀ x r, r < 136 → rwc (rw r) x ≤ 1) ∧ (∀ x r r', x < n → r < 136 → r' < 136 → U x = nI 1 → ¬ A x r = 0 → ¬ A x r' = 0 → r = r') ∧ (∀ r e, r < 136 → e ∈ rw r → e.1 < n ∧ (e.2 = 1 ∨ e.2 = 2)) ∧ ∀ x r, x < n → r < 136 → A x r ≤ 2
def PLg (n : Nat) (gv : Nat → Nat → Nat) : Prop := ∀ r x y, r < 136 → x < n → y < n → ¬ x = y → gv r x = 2 → gv r y = 0
def PLd (n : Nat) (U : Nat → Int32) (mr : Nat → Nat) (rw : Nat → List (Nat × Nat)) (gv cl : Nat → Nat → Nat) : Prop := ∀ r, r < 136 → ¬ U (mr r) = nI 1 → rw r = [] ∧ ∀ x, x < n → gv r x = 0 ∧ cl r x = 0
def pO (a b : Nat → Nat) : Prop := (a 0 = b 0 → a 1 = b 1 → a 5 ≤ b 5) ∧ ¬ (a 2 = 2 ∧ b 2 = 1 ∧ a 1 = b 1 ∧ a 3 = b 3)
/-- how locks stand, with all that is under way -/
def PL (n : Nat) (U : Nat → Int32) (mr : Nat → Nat) (ms : List (Nat → Nat)) (rw : Nat → List (Nat × Nat)) (gv cl H A B : Nat → Nat → Nat) : Prop :=
  PLm n U mr ms cl H A ∧ PLa n U mr ms rw A ∧ PLb n U mr ms rw gv cl B ∧ PLv n U mr ms gv H A ∧ PLr n U rw A ∧ PLg n gv ∧ PLd n U mr rw gv cl ∧ ms.Pairwise pO
section TOK
variable {n T : Nat} {U : Nat → Int32} {mr : Nat → Nat} {ms ms' : List (Nat → Nat)} {rw : Nat → List (Nat × Nat)} {gv cl H A B : Nat → Nat → Nat}
theorem nz1_le {a : Nat} : nz1 a ≤ 1 := by unfold nz1; split <;> omega
theorem nz1_0 : nz1 0 = 0 := rfl
theorem nz1_p {a : Nat} (h : ¬ a = 0) : nz1 a = 1 := if_neg h
theorem nz1_z {a : Nat} (h : nz1 a = 0) : a = 0 := by unfold nz1 at h; split at h <;> omega
theorem nz1_1 {a : Nat} (h : 0 < nz1 a) : ¬ a = 0 := by unfold nz1 at h; split at h <;> omega
theorem cnt_p {α : Type} {p : α → Bool} {l : List α} {a : α} (h : a ∈ l) (hp : p a = true) : 0 < l.countP p := List.countP_pos_iff.mpr ⟨a, h, hp⟩
theorem tA_0 {x r : Nat} {m : Nat → Nat} : tA x r m = true ↔ m 3 = r ∧ ((m 2 = 0 ∧ m 0 = x) ∨ (m 2 = 1 ∧ m 1 = x)) := by unfold tA; exact decide_eq_true_iff
theorem tB_0 {x r : Nat} {m : Nat → Nat} : tB x r m = true ↔ m 3 = r ∧ ((m 2 = 2 ∧ m 1 = x) ∨ (m 2 = 3 ∧ m 0 = x)) := by unfold tB; exact decide_eq_true_iff
/-- a message's key -/
def mky (rw : Nat → List (Nat × Nat)) (m : Nat → Nat) : Nat := if m 2 = 0 then m 0 else if m 2 = 1 then m 1 else 4 + 4 * ((rw (m 3)).headD (0, 0)).1 + (if m 2 = 2 then m 1 else m 0)
theorem cnt_2 {α : Type} {p : α → Bool} {l : List α} {a b : α} (h : List.Sublist [a, b] l) (ha : p a = true) (hb : p b = true) : 2 ≤ l.countP p := by
  have := List.Sublist.countP_le (p := p) h
  simp only [List.countP_cons, ha, hb, List.countP_nil, if_true] at this
  omega
theorem hd_mem {α : Type} {l : List α} {a : α} {rest : List α} {d : α} (h : l = a :: rest) : l.headD d = a := by rw [h]; rfl
/-- few messages are under way -/
theorem pl_len (h : PL n U mr ms rw gv cl H A B) (hn : n ≤ 4) : ms.length ≤ 20 := by
  obtain ⟨h1, h2, h3, h4, h5, h6, h7, h8⟩ := h
  -- of each message: who, and a master that is up
  have hU : ∀ m, m ∈ ms → U (mr (m 3)) = nI 1 := fun m hm => by
    obtain ⟨-, -, -, u1, u2, -, q⟩ := h1 m hm
    rcases q with q | q | q | q
    · rw [← q.2.1]; exact u2
    · rw [← q.2.1]; exact u1
    · rw [← q.2.1]; exact u1
    · rw [← q.2.1]; exact u2
  have hA : ∀ m x, m ∈ ms → tA x (m 3) m = true → x < n ∧ U x = nI 1 ∧ ¬ A x (m 3) = 0 ∧ ms.countP (tA x (m 3)) ≤ 1 := fun m x hm ht => by
    obtain ⟨-, m0, m1, u1, u2, m3, -⟩ := h1 m hm
    have hx : x < n ∧ U x = nI 1 := by
      rcases (tA_0.mp ht).2 with q | q
      · rw [← q.2]; exact ⟨m0, u1⟩
      · rw [← q.2]; exact ⟨m1, u2⟩
    have := (h2 x (m 3) hx.1 m3 hx.2 (hU m hm)).1
    have c1 := cnt_p hm ht
    have c2 := nz1_le (a := A x (m 3))
    exact ⟨hx.1, hx.2, nz1_1 (by omega), by omega⟩
  have hB : ∀ m x, m ∈ ms → tB x (m 3) m = true → x < n ∧ U x = nI 1 ∧ (∃ z k rest, rw (m 3) = (z, k) :: rest) ∧ ms.countP (tB x (m 3)) ≤ 1 := fun m x hm ht => by
    obtain ⟨-, m0, m1, u1, u2, m3, -⟩ := h1 m hm
    have hx : x < n ∧ U x = nI 1 := by
      rcases (tB_0.mp ht).2 with q | q
      · rw [← q.2]; exact ⟨m1, u2⟩
      · rw [← q.2]; exact ⟨m0, u1⟩
    obtain ⟨g1, -, -, g4⟩ := h3 x (m 3) hx.1 m3 hx.2 (hU m hm)
    have c1 := cnt_p hm ht
    have c2 := nz1_le (a := cl (m 3) x)
    obtain ⟨z, k, rest, e, -⟩ := g4 (nz1_1 (by omega))
    exact ⟨hx.1, hx.2, ⟨z, k, rest, e⟩, by omega⟩
  -- which token a message is
  have hk : ∀ m, m ∈ ms → (∃ x, mky rw m = x ∧ x < n ∧ tA x (m 3) m = true) ∨ (∃ x z k rest, x < n ∧ z < n ∧ mky rw m = 4 + 4 * z + x ∧ rw (m 3) = (z, k) :: rest ∧ tB x (m 3) m = true) := fun m hm => by
    obtain ⟨-, m0, m1, u1, u2, m3, q⟩ := h1 m hm
    rcases q with q | q | q | q
    · exact Or.inl ⟨m 0, if_pos q.1, m0, tA_0.mpr ⟨rfl, Or.inl ⟨q.1, rfl⟩⟩⟩
    · refine Or.inl ⟨m 1, ?_, m1, tA_0.mpr ⟨rfl, Or.inr ⟨q.1, rfl⟩⟩⟩
      unfold mky
      rw [if_neg (by omega), if_pos q.1]
    · have ht : tB (m 1) (m 3) m = true := tB_0.mpr ⟨rfl, Or.inl ⟨q.1, rfl⟩⟩
      obtain ⟨-, -, ⟨z, k, rest, e⟩, -⟩ := hB m (m 1) hm ht
      refine Or.inr ⟨m 1, z, k, rest, m1, (h5.2.2.2.1 (m 3) (z, k) m3 (by rw [e]; exact List.mem_cons_self)).1, ?_, e, ht⟩
      unfold mky
      rw [if_neg (by omega), if_neg (by omega), if_pos q.1, hd_mem e]
    · have ht : tB (m 0) (m 3) m = true := tB_0.mpr ⟨rfl, Or.inr ⟨q.1, rfl⟩⟩
      obtain ⟨-, -, ⟨z, k, rest, e⟩, -⟩ := hB m (m 0) hm ht
      refine Or.inr ⟨m 0, z, k, rest, m0, (h5.2.2.2.1 (m 3) (z, k) m3 (by rw [e]; exact List.mem_cons_self)).1, ?_, e, ht⟩
      unfold mky
      rw [if_neg (by omega), if_neg (by omega), if_neg (by omega), hd_mem e]
  have hnd : (ms.map (mky rw)).Nodup := by
    unfold List.Nodup
    rw [List.pairwise_map, List.pairwise_iff_forall_sublist]
    intro a b hab e
    have ha : a ∈ ms := hab.subset (by simp)
    have hb : b ∈ ms := hab.subset (by simp)
    have a3 := (h1 a ha).2.2.2.2.2.1
    have b3 := (h1 b hb).2.2.2.2.2.1
    rcases hk a ha with ⟨x, x1, x2, x3⟩ | ⟨x, z, k, rest, x2, z2, x1, xe, x3⟩ <;> rcases hk b hb with ⟨y, y1, y2, y3⟩ | ⟨y, w, k', rest', y2, w2, y1, ye, y3⟩
    · obtain rfl : x = y := by omega
      obtain ⟨p1, p2, p3, p4⟩ := hA a x ha x3
      obtain ⟨q1, q2, q3, q4⟩ := hA b x hb y3
      have er := h5.2.2.1 x (a 3) (b 3) p1 a3 b3 p2 p3 q3
      rw [← er] at y3
      have := cnt_2 hab x3 y3
      omega
    · omega
    · omega
    · obtain ⟨rfl, rfl⟩ : z = w ∧ x = y := by omega
      have er := h5.1 z (a 3) (b 3) k k' a3 b3 (by rw [xe]; exact List.mem_cons_self) (by rw [ye]; exact List.mem_cons_self)
      obtain ⟨p1, p2, p3, p4⟩ := hB a x ha x3
      rw [← er] at y3
      have := cnt_2 hab x3 y3
      omega
  have := pigeon (ms.map (mky rw)) (List.range 20) hnd (fun a ha => by
    obtain ⟨m, hm, rfl⟩ := List.mem_map.mp ha
    rw [List.mem_range]
    rcases hk m hm with ⟨x, x1, x2, x3⟩ | ⟨x, z, k, rest, x2, z2, x1, xe, x3⟩ <;> omega)
  rw [List.length_map, List.length_range] at this
  exact this
end TOK
