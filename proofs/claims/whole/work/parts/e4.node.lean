
/-- a node's pins -/
def PW (x : Nat) (I J : am_I) : Prop := ∀ r, r < 136 → I x 52 r = J 0 79 (136 * x + r) ∧ WP x J r
/-- some ghosts that change when a node goes down -/
def COg (n T e : Nat) (rw : Nat → List (Nat × Nat)) (gv cl A : Nat → Nat → Nat) (jl : Nat → List Nat) (I J : am_I) : Prop := ∃ ms H B K lg fb fq mk, CO n T e I J ms rw gv cl H A B K lg fb jl fq mk
/-- what a node's going on changes -/
def FOI (x : Nat) (I I' : am_I) : Prop := ∀ a b, ¬ (a = x ∧ 41 ≤ b ∧ b ≤ 55) → ¬ (a = 0 ∧ (b = 9 ∨ b = 11 ∨ (13 ≤ b ∧ b ≤ 20))) → I' a b = I a b
def FOJ (x : Nat) (J J' : am_I) : Prop := (∀ a b, ¬ (a = 0 ∧ (b = 60 ∨ (67 ≤ b ∧ b ≤ 81) ∨ (87 ≤ b ∧ b ≤ 93) ∨ (101 ≤ b ∧ b ≤ 106) ∨ b = 108 ∨ (118 ≤ b ∧ b ≤ 123) ∨ b = 125 ∨ b = 126)) → J' a b = J a b) ∧ (∀ k, ¬ (k = 38 ∨ k = 39 ∨ k = 49 ∨ (51 ≤ k ∧ k ≤ 56) ∨ k = 61 ∨ k = 63) → J' 0 60 k = J 0 60 k) ∧ (∀ j k, 76 ≤ j → j ≤ 81 → ¬ (136 * x ≤ k ∧ k < 136 * x + 136) → J' 0 j k = J 0 j k) ∧ ∀ j k, j = 72 ∨ (87 ≤ j ∧ j ≤ 93) → ¬ k = x → J' 0 j k = J 0 j k
theorem FOI.rf {x : Nat} {I : am_I} : FOI x I I := fun _ _ _ _ => rfl
theorem FOI.tr {x : Nat} {I I' I'' : am_I} (h : FOI x I I') (h' : FOI x I' I'') : FOI x I I'' := fun a b p q => (h' a b p q).trans (h a b p q)
theorem FOJ.rf {x : Nat} {J : am_I} : FOJ x J J := ⟨fun _ _ _ => rfl, fun _ _ => rfl, fun _ _ _ _ _ => rfl, fun _ _ _ _ => rfl⟩
theorem FOJ.tr {x : Nat} {J J' J'' : am_I} (h : FOJ x J J') (h' : FOJ x J' J'') : FOJ x J J'' := ⟨fun a b q => (h'.1 a b q).trans (h.1 a b q), fun k q => (h'.2.1 k q).trans (h.2.1 k q), fun j k q1 q2 q3 => (h'.2.2.1 j k q1 q2 q3).trans (h.2.2.1 j k q1 q2 q3), fun j k q1 q2 => (h'.2.2.2 j k q1 q2).trans (h.2.2.2 j k q1 q2)⟩
theorem FGI.o {x : Nat} {I I' : am_I} (h : FGI x I I') : FOI x I I' := fun a b p q => h a b (by omega) (by omega)
theorem FGJ.o {x : Nat} {J J' : am_I} (h : FGJ x J J') : FOJ x J J' := ⟨fun a b q => h.1 a b (by omega), fun k q => h.2.1 k (by omega), fun j k q1 q2 q3 => by
  obtain ⟨g1, g2, g3, g4⟩ := h.2.2.1 k q3
  have : j = 76 ∨ j = 77 ∨ j = 78 ∨ j = 79 ∨ j = 80 ∨ j = 81 := by omega
  rcases this with rfl | rfl | rfl | rfl | rfl | rfl
  · exact g1
  · rw [h.1 0 77 (by omega)]
  · exact g2
  · exact g3
  · exact g4
  · rw [h.1 0 81 (by omega)], fun j k q1 q2 => by
  rcases q1 with rfl | q1
  · exact h.2.2.2.1 k q2
  · rw [h.1 0 j (by omega)]⟩
section NODE
variable {n T e x : Nat} {I J I' J' : am_I} {rw : Nat → List (Nat × Nat)} {gv cl A : Nat → Nat → Nat} {jl : Nat → List Nat}
theorem FGJ.p {k : Nat} (hk : k < 136) (h : FGJ x J J') : FGJ x J (am_up J' 0 79 (136 * x + k) (nI 0)) := by
  have o : ∀ j, ¬ j = 79 → am_up J' 0 79 (136 * x + k) (nI 0) 0 j = J' 0 j := fun j q => z_upj _ _ _ _ _ _ _ (by omega)
  obtain ⟨a1, a2, a3, a4, a5, a6, a7⟩ := h
  refine ⟨fun a b q => (z_upj _ _ _ _ _ _ _ (by omega)).trans (a1 a b q), fun k q => by rw [o 60 (by omega)]; exact a2 k q, fun k' q => ?_, fun k q => by rw [o 72 (by omega)]; exact a4 k q, by rw [o 76 (by omega)]; exact a5, by rw [o 72 (by omega)]; exact a6, by rw [o 72 (by omega), o 70 (by omega)]; exact a7⟩
  rw [o 76 (by omega), o 78 (by omega), o 80 (by omega), z_upk, if_neg (by omega)]
  exact a3 k' q
theorem cog_irr (h : COg n T e rw gv cl A jl I J) (hI : irI I I') (hJ : irJ J J') : COg n T e rw gv cl A jl I' J' := by
  obtain ⟨ms, H, B, K, lg, fb, fq, mk, h⟩ := h
  exact ⟨ms, H, B, K, lg, fb, fq, mk, co_irr h hI hJ⟩
theorem irI.rf : irI I I := ⟨fun _ _ _ _ => rfl, rfl, rfl, rfl⟩
theorem irJ.rf : irJ J J := ⟨fun _ _ _ => rfl, fun _ _ => rfl⟩
theorem irJ_up {j k : Nat} {v : Int32} (hj : (79 ≤ j ∧ j ≤ 93) ∨ j = 118 ∨ j = 119 ∨ (121 ≤ j ∧ j ≤ 123)) : irJ J (am_up J 0 j k v) := ⟨fun a b q => z_upj _ _ _ _ _ _ _ (by omega), fun k _ => by rw [z_upj _ _ _ _ _ _ _ (by omega)]⟩
theorem irI_up {j k : Nat} {v : Int32} (hj : j = 48 ∨ (52 ≤ j ∧ j ≤ 55)) : irI I (am_up I x j k v) := ⟨fun a b q _ => z_upj _ _ _ _ _ _ _ (by omega), by rw [z_upj _ _ _ _ _ _ _ (by omega)], by rw [z_upj _ _ _ _ _ _ _ (by omega)], by rw [z_upj _ _ _ _ _ _ _ (by omega)]⟩
theorem irI.tr {I'' : am_I} (h : irI I I') (h' : irI I' I'') : irI I I'' := ⟨fun a b p q => (h'.1 a b p q).trans (h.1 a b p q), h'.2.1.trans h.2.1, h'.2.2.1.trans h.2.2.1, h'.2.2.2.trans h.2.2.2⟩
theorem irJ.tr {J'' : am_I} (h : irJ J J') (h' : irJ J' J'') : irJ J J'' := ⟨fun a b q => (h'.1 a b q).trans (h.1 a b q), fun k q => (h'.2 k q).trans (h.2 k q)⟩
/-- all is unpinned, both sides -/
theorem co_unp {ls : List Nat} (h : COg n T e rw gv cl A jl I J) (hx : x < n) (hU : J 0 65 x = nI 1) (hP : PW x I J) (hls : LSc x I ls) (hpl : ∀ r, r < 136 → J 0 79 (136 * x + r) = nI 1 → r ∈ ls) : ∃ I' J', gX10_unpinAll n x I = some I' ∧ gX11_unpin n (nI x) J = some J' ∧ COg n T e rw gv cl A jl I' J' ∧ FGI x I I' ∧ FGJ x J J' ∧ (∀ r, r < 136 → I' x 52 r = nI 0 ∧ J' 0 79 (136 * x + r) = nI 0 ∧ WT x J' r) := by
  obtain ⟨ms, H, B, K, lg, fb, fq, mk, h0⟩ := h
  have hn := h0.1.2
  obtain ⟨I', J', p1, p2, p3, p4, -⟩ := p_unp (n := n) (T := T) (x := x) (t := e) (ed := e) (I := I) (J := J) (Q := fun I1 J1 => COg n T e rw gv cl A jl I1 J1 ∧ FGI x I I1 ∧ FGJ x J J1 ∧ J1 0 65 x = nI 1) (ls := ls) hn hx (fun I1 J1 q => by
    obtain ⟨⟨ms, H, B, K, lg, fb, fq, mk, h1⟩, -, -, q4⟩ := q
    exact ⟨lg x, fb x, fq x, mk x, ms, co_gbr h1 hx q4⟩) (fun I1 J1 I2 J2 r q hr hg => by
    obtain ⟨⟨ms, H, B, K, lg, fb, fq, mk, h1⟩, q2, q3, q4⟩ := q
    obtain ⟨ms', H', B', K', lg', fb', fq', mk', g1, g2, g3, g4, g5⟩ := co_gds h1 hx hr q4 hg
    exact ⟨⟨ms', H', B', K', lg', fb', fq', mk', g1⟩, q2.tr g2, q3.tr g3, by rw [g3.1 0 65 (by omega)]; exact q4⟩) (fun I1 J1 k q hk => ⟨cog_irr q.1 irI.rf (irJ_up (by omega)), q.2.1, FGJ.p hk q.2.2.1, by rw [z_upj _ _ _ _ _ _ _ (by omega)]; exact q.2.2.2⟩) (fun I1 J1 k q hk => ⟨cog_irr q.1 (irI_up (by omega)) irJ.rf, fun a b c1 c2 => (z_upj _ _ _ _ _ _ _ (by omega)).trans (q.2.1 a b c1 c2), q.2.2.1, q.2.2.2⟩) hls (fun r hr => (hP r hr).1) hpl (fun r hr => (hP r hr).2) ⟨⟨ms, H, B, K, lg, fb, fq, mk, h0⟩, FGI.rf, co_fgr h0 hx, hU⟩
  exact ⟨I', J', p1, p2, p3.1, p3.2.1, p3.2.2.1, p4⟩
end NODE
