
/-- THE INVARIANT between two calls of the law: k calls are left -/
def Inv (n k : Nat) (I J : am_I) : Prop := ∃ T e g, GS n T e g I J ∧ g 0 = g 1 ∧ T + 100 * k ≤ 7000 ∧ e + cs n J + k ≤ 64
theorem inv_m {n k : Nat} {I J : am_I} (h : Inv n (k + 1) I J) : Inv n k I J := by
  obtain ⟨T, e, g, h1, h2, h3, h4⟩ := h
  exact ⟨T, e, g, h1, h2, by omega, by omega⟩
/-- a call that only looks, or is refused -/
theorem inv_60 {n k : Nat} {I J : am_I} {v : Int32} (h : Inv n (k + 1) I J) : Inv n k I (am_up J 0 60 0 v) := by
  obtain ⟨T, e, g, h1, h2, h3, h4⟩ := h
  obtain ⟨q1, q2⟩ := gs_60 (v := v) h1
  exact ⟨T, e, g, q1, h2, by omega, by rw [q2]; omega⟩
theorem am_Jm {G : am_G} {d : Nat} {M : am_M} {TH TH' : Nat → List (Option am_V) → List am_V → am_I → Prop} {Q Q' : Option Int32 → am_I → Prop} {pc : Nat} {lo : List (Option am_V)} {st : List am_V} {I : am_I} (h : am_J G d M TH Q pc lo st I) (h1 : ∀ pc lo st I, TH pc lo st I → TH' pc lo st I) (h2 : ∀ r I, Q r I → Q' r I) : am_J G d M TH' Q' pc lo st I := fun p e R s m args below meth c A Z cells slots H locs ls X hH hL => h p e R s m args below meth c A Z cells slots H locs ls ⟨X.1, X.2.1, X.2.2.1, fun r I' H' locs' g a b => X.2.2.2.1 r I' H' locs' g a (h2 r I' b), fun pc lo st I' H' locs' ls a => X.2.2.2.2 pc lo st I' H' locs' ls (h1 pc lo st I' a)⟩ hH hL
theorem fx_ret {G : am_G} {M : am_M} {as : List am_V} {I I' : am_I} {q0 : Option Int32} (hl : G.1.1.stackTraces = false) (hM : M.1.cls = RX10) (hn : G.2.2.2.2.Nodup) (hlen : as.length ≤ M.2.2.1) (hj : am_J G 14 M (fun pc _ st J => st = [] ∧ ((.inl q0, I') : (Option Int32 ⊕ Nat) × am_I) = (.inr pc, J)) (fun q J => ((.inl q0, I') : (Option Int32 ⊕ Nat) × am_I) = (.inl q, J)) 0 (as.map some ++ List.replicate (M.2.2.1 - as.length) none) [] I) : am_CX G 14 M as I (fun q J => q = q0 ∧ J = I') (fun _ _ => False) := am_ofX hl hM (by decide) hn hlen (am_Jm hj (fun _ _ _ _ q => by cases q.2) (fun r J q => by cases q; exact ⟨rfl, rfl⟩))
theorem fx_thr {G : am_G} {M : am_M} {as : List am_V} {I I' : am_I} {pc0 : Nat} {E : String} (hts : am_ts M pc0 E) (hl : G.1.1.stackTraces = false) (hM : M.1.cls = RX10) (hn : G.2.2.2.2.Nodup) (hlen : as.length ≤ M.2.2.1) (hj : am_J G 14 M (fun pc _ st J => st = [] ∧ ((.inr pc0, I') : (Option Int32 ⊕ Nat) × am_I) = (.inr pc, J)) (fun q J => ((.inr pc0, I') : (Option Int32 ⊕ Nat) × am_I) = (.inl q, J)) 0 (as.map some ++ List.replicate (M.2.2.1 - as.length) none) [] I) : am_CX G 14 M as I (fun _ _ => False) (fun Ex J => Ex = E ∧ J = I') := am_ofX hl hM (by decide) hn hlen (am_Jm hj (fun pc _ st J q => by
    obtain ⟨q1, q2⟩ := q
    cases q2
    exact ⟨q1, E, hts, rfl, rfl⟩) (fun r J q => by cases q))
section FACE
variable {n : Nat} {G G' : am_G}
def PR_call (n k : Nat) (I J : am_I) (p0 p1 p2 p3 p4 p5 : Int32) : Prop := (∃ r I' J', gX10_call n p0 p1 p2 p3 p4 p5 I = some (.inl (some r), I') ∧ gX11_call n p0 p1 p2 p3 p4 p5 J = some (r, J') ∧ J' 0 60 0 = nI 0 ∧ Inv n k I' J') ∨ (∃ q J', gX10_call n p0 p1 p2 p3 p4 p5 I = some (.inr 22, I) ∧ gX11_call n p0 p1 p2 p3 p4 p5 J = some (q, J') ∧ J' 0 60 0 = nI 1 ∧ Inv n k I J') ∨ (∃ q J', gX10_call n p0 p1 p2 p3 p4 p5 I = some (.inr 60, I) ∧ gX11_call n p0 p1 p2 p3 p4 p5 J = some (q, J') ∧ J' 0 60 0 = nI 2 ∧ Inv n k I J')
theorem lf_call (hl : G.1.1.stackTraces = false) (hG : am_ok G) (hG' : am_okM G') (hn : G.2.2.2.1 = n) (hn' : G'.2.2.2.1 = n) (hP : ∀ (k : Nat) (I J : am_I) (p0 p1 p2 p3 p4 p5 : Int32), Inv n (k + 1) I J → PR_call n k I J p0 p1 p2 p3 p4 p5) : ls_call G G' (Inv n) := by
  intro k I J p0 p1 p2 p3 p4 p5 hI
  rcases hP k I J p0 p1 p2 p3 p4 p5 hI with ⟨r, I', J', g1, g2, g3, g4⟩ | ⟨q, J', g1, g2, g3, g4⟩ | ⟨q, J', g1, g2, g3, g4⟩
  · refine ⟨_, _, fx_ret hl rfl hG.nd (Nat.le_of_ble_eq_true rfl) (sX10_call (d := 7) hG (by rw [hn]; exact g1)), fun _ _ h => h.elim, fun r' I2 h => ?_, fun _ h => h.elim, fun _ h => h.elim⟩
    obtain ⟨h1, h2⟩ := h
    cases h1
    cases h2
    exact am_Cw (fun q J2 h => by obtain ⟨h1, h2⟩ := h; rw [h1, h2]; exact ⟨g3, rfl, g4⟩) (sX11_call (d := 4) hG' (r := (r, J')) (by rw [hn']; exact g2))
  · exact ⟨_, _, fx_thr ts_call_22 hl rfl hG.nd (Nat.le_of_ble_eq_true rfl) (sX10_call (d := 7) hG (by rw [hn]; exact g1)), fun Ex _ h => Or.inl h.1, fun _ _ h => h.elim, fun I2 h => by
      obtain ⟨-, h2⟩ := h
      cases h2
      exact am_Cw (fun q J2 h => by obtain ⟨h1, h2⟩ := h; rw [h2]; exact ⟨g3, g4⟩) (sX11_call (d := 4) hG' (r := (q, J')) (by rw [hn']; exact g2)), fun _ h => absurd h.1 (by decide)⟩
  · exact ⟨_, _, fx_thr ts_call_60 hl rfl hG.nd (Nat.le_of_ble_eq_true rfl) (sX10_call (d := 7) hG (by rw [hn]; exact g1)), fun Ex _ h => Or.inr (h.1), fun _ _ h => h.elim, fun _ h => absurd h.1 (by decide), fun I2 h => by
      obtain ⟨-, h2⟩ := h
      cases h2
      exact am_Cw (fun q J2 h => by obtain ⟨h1, h2⟩ := h; rw [h2]; exact ⟨g3, g4⟩) (sX11_call (d := 4) hG' (r := (q, J')) (by rw [hn']; exact g2))⟩
def PR_delay (n k : Nat) (I J : am_I) (p0 p1 p2 : Int32) : Prop := (∃ I' J', gX10_delay n p0 p1 p2 I = some (.inl none, I') ∧ gX11_delay n p0 p1 p2 J = some J' ∧ J' 0 60 0 = nI 0 ∧ Inv n k I' J') ∨ (∃ J', gX10_delay n p0 p1 p2 I = some (.inr 27, I) ∧ gX11_delay n p0 p1 p2 J = some J' ∧ J' 0 60 0 = nI 1 ∧ Inv n k I J')
theorem lf_delay (hl : G.1.1.stackTraces = false) (hG : am_ok G) (hG' : am_okM G') (hn : G.2.2.2.1 = n) (hn' : G'.2.2.2.1 = n) (hP : ∀ (k : Nat) (I J : am_I) (p0 p1 p2 : Int32), Inv n (k + 1) I J → PR_delay n k I J p0 p1 p2) : ls_delay G G' (Inv n) := by
  intro k I J p0 p1 p2 hI
  rcases hP k I J p0 p1 p2 hI with ⟨I', J', g1, g2, g3, g4⟩ | ⟨J', g1, g2, g3, g4⟩
  · refine ⟨_, _, fx_ret hl rfl hG.nd (Nat.le_of_ble_eq_true rfl) (sX10_delay (d := 13) hG (by rw [hn]; exact g1)), fun _ _ h => h.elim, fun I2 h => ?_, fun _ h => h.elim⟩
    obtain ⟨-, h2⟩ := h
    cases h2
    exact am_Cw (fun q J2 h => by obtain ⟨h1, h2⟩ := h; rw [h2]; exact ⟨g3, g4⟩) (sX11_delay (d := 13) hG' (r := J') (by rw [hn']; exact g2))
  · exact ⟨_, _, fx_thr ts_delay_27 hl rfl hG.nd (Nat.le_of_ble_eq_true rfl) (sX10_delay (d := 13) hG (by rw [hn]; exact g1)), fun Ex _ h => h.1, fun _ h => h.elim, fun I2 h => by
      obtain ⟨-, h2⟩ := h
      cases h2
      exact am_Cw (fun q J2 h => by obtain ⟨h1, h2⟩ := h; rw [h2]; exact ⟨g3, g4⟩) (sX11_delay (d := 13) hG' (r := J') (by rw [hn']; exact g2))⟩
def PR_tick (n k : Nat) (I J : am_I) (p0 : Int32) : Prop := (∃ r I' J', gX10_tick n p0 I = some (.inl (some r), I') ∧ gX11_tick n p0 J = some (r, J') ∧ J' 0 60 0 = nI 0 ∧ Inv n k I' J') ∨ (∃ q J', gX10_tick n p0 I = some (.inr 10, I) ∧ gX11_tick n p0 J = some (q, J') ∧ J' 0 60 0 = nI 1 ∧ Inv n k I J')
theorem lf_tick (hl : G.1.1.stackTraces = false) (hG : am_ok G) (hG' : am_okM G') (hn : G.2.2.2.1 = n) (hn' : G'.2.2.2.1 = n) (hP : ∀ (k : Nat) (I J : am_I) (p0 : Int32), Inv n (k + 1) I J → PR_tick n k I J p0) : ls_tick G G' (Inv n) := by
  intro k I J p0 hI
  rcases hP k I J p0 hI with ⟨r, I', J', g1, g2, g3, g4⟩ | ⟨q, J', g1, g2, g3, g4⟩
  · refine ⟨_, _, fx_ret hl rfl hG.nd (Nat.le_of_ble_eq_true rfl) (sX10_tick (d := 7) hG (by rw [hn]; exact g1)), fun _ _ h => h.elim, fun r' I2 h => ?_, fun _ h => h.elim⟩
    obtain ⟨h1, h2⟩ := h
    cases h1
    cases h2
    exact am_Cw (fun q J2 h => by obtain ⟨h1, h2⟩ := h; rw [h1, h2]; exact ⟨g3, rfl, g4⟩) (sX11_tick (d := 2) hG' (r := (r, J')) (by rw [hn']; exact g2))
  · exact ⟨_, _, fx_thr ts_tick_10 hl rfl hG.nd (Nat.le_of_ble_eq_true rfl) (sX10_tick (d := 7) hG (by rw [hn]; exact g1)), fun Ex _ h => h.1, fun _ _ h => h.elim, fun I2 h => by
      obtain ⟨-, h2⟩ := h
      cases h2
      exact am_Cw (fun q J2 h => by obtain ⟨h1, h2⟩ := h; rw [h2]; exact ⟨g3, g4⟩) (sX11_tick (d := 2) hG' (r := (q, J')) (by rw [hn']; exact g2))⟩
def PR_crash (n k : Nat) (I J : am_I) (p0 p1 : Int32) : Prop := (∃ I' J', gX10_crash n p0 p1 I = some (.inl none, I') ∧ gX11_crash n p0 p1 J = some J' ∧ J' 0 60 0 = nI 0 ∧ Inv n k I' J') ∨ (∃ J', gX10_crash n p0 p1 I = some (.inr 18, I) ∧ gX11_crash n p0 p1 J = some J' ∧ J' 0 60 0 = nI 1 ∧ Inv n k I J') ∨ (∃ J', gX10_crash n p0 p1 I = some (.inr 42, I) ∧ gX11_crash n p0 p1 J = some J' ∧ J' 0 60 0 = nI 2 ∧ Inv n k I J')
theorem lf_crash (hl : G.1.1.stackTraces = false) (hG : am_ok G) (hG' : am_okM G') (hn : G.2.2.2.1 = n) (hn' : G'.2.2.2.1 = n) (hP : ∀ (k : Nat) (I J : am_I) (p0 p1 : Int32), Inv n (k + 1) I J → PR_crash n k I J p0 p1) : ls_crash G G' (Inv n) := by
  intro k I J p0 p1 hI
  rcases hP k I J p0 p1 hI with ⟨I', J', g1, g2, g3, g4⟩ | ⟨J', g1, g2, g3, g4⟩ | ⟨J', g1, g2, g3, g4⟩
  · refine ⟨_, _, fx_ret hl rfl hG.nd (Nat.le_of_ble_eq_true rfl) (sX10_crash (d := 10) hG (by rw [hn]; exact g1)), fun _ _ h => h.elim, fun I2 h => ?_, fun _ h => h.elim, fun _ h => h.elim⟩
    obtain ⟨-, h2⟩ := h
    cases h2
    exact am_Cw (fun q J2 h => by obtain ⟨h1, h2⟩ := h; rw [h2]; exact ⟨g3, g4⟩) (sX11_crash (d := 13) hG' (r := J') (by rw [hn']; exact g2))
  · exact ⟨_, _, fx_thr ts_crash_18 hl rfl hG.nd (Nat.le_of_ble_eq_true rfl) (sX10_crash (d := 10) hG (by rw [hn]; exact g1)), fun Ex _ h => Or.inl h.1, fun _ h => h.elim, fun I2 h => by
      obtain ⟨-, h2⟩ := h
      cases h2
      exact am_Cw (fun q J2 h => by obtain ⟨h1, h2⟩ := h; rw [h2]; exact ⟨g3, g4⟩) (sX11_crash (d := 13) hG' (r := J') (by rw [hn']; exact g2)), fun _ h => absurd h.1 (by decide)⟩
  · exact ⟨_, _, fx_thr ts_crash_42 hl rfl hG.nd (Nat.le_of_ble_eq_true rfl) (sX10_crash (d := 10) hG (by rw [hn]; exact g1)), fun Ex _ h => Or.inr (h.1), fun _ h => h.elim, fun _ h => absurd h.1 (by decide), fun I2 h => by
      obtain ⟨-, h2⟩ := h
      cases h2
      exact am_Cw (fun q J2 h => by obtain ⟨h1, h2⟩ := h; rw [h2]; exact ⟨g3, g4⟩) (sX11_crash (d := 13) hG' (r := J') (by rw [hn']; exact g2))⟩
def PR_recover (n k : Nat) (I J : am_I) (p0 : Int32) : Prop := (∃ r I' J', gX10_recover n p0 I = some (.inl (some r), I') ∧ gX11_recover n p0 J = some (r, J') ∧ J' 0 60 0 = nI 0 ∧ Inv n k I' J') ∨ (∃ q J', gX10_recover n p0 I = some (.inr 8, I) ∧ gX11_recover n p0 J = some (q, J') ∧ J' 0 60 0 = nI 1 ∧ Inv n k I J') ∨ (∃ q J', gX10_recover n p0 I = some (.inr 42, I) ∧ gX11_recover n p0 J = some (q, J') ∧ J' 0 60 0 = nI 2 ∧ Inv n k I J')
theorem lf_recover (hl : G.1.1.stackTraces = false) (hG : am_ok G) (hG' : am_okM G') (hn : G.2.2.2.1 = n) (hn' : G'.2.2.2.1 = n) (hP : ∀ (k : Nat) (I J : am_I) (p0 : Int32), Inv n (k + 1) I J → PR_recover n k I J p0) : ls_recover G G' (Inv n) := by
  intro k I J p0 hI
  rcases hP k I J p0 hI with ⟨r, I', J', g1, g2, g3, g4⟩ | ⟨q, J', g1, g2, g3, g4⟩ | ⟨q, J', g1, g2, g3, g4⟩
  · refine ⟨_, _, fx_ret hl rfl hG.nd (Nat.le_of_ble_eq_true rfl) (sX10_recover (d := 7) hG (by rw [hn]; exact g1)), fun _ _ h => h.elim, fun r' I2 h => ?_, fun _ h => h.elim, fun _ h => h.elim⟩
    obtain ⟨h1, h2⟩ := h
    cases h1
    cases h2
    exact am_Cw (fun q J2 h => by obtain ⟨h1, h2⟩ := h; rw [h1, h2]; exact ⟨g3, rfl, g4⟩) (sX11_recover (d := 3) hG' (r := (r, J')) (by rw [hn']; exact g2))
  · exact ⟨_, _, fx_thr ts_recover_8 hl rfl hG.nd (Nat.le_of_ble_eq_true rfl) (sX10_recover (d := 7) hG (by rw [hn]; exact g1)), fun Ex _ h => Or.inl h.1, fun _ _ h => h.elim, fun I2 h => by
      obtain ⟨-, h2⟩ := h
      cases h2
      exact am_Cw (fun q J2 h => by obtain ⟨h1, h2⟩ := h; rw [h2]; exact ⟨g3, g4⟩) (sX11_recover (d := 3) hG' (r := (q, J')) (by rw [hn']; exact g2)), fun _ h => absurd h.1 (by decide)⟩
  · exact ⟨_, _, fx_thr ts_recover_42 hl rfl hG.nd (Nat.le_of_ble_eq_true rfl) (sX10_recover (d := 7) hG (by rw [hn]; exact g1)), fun Ex _ h => Or.inr (h.1), fun _ _ h => h.elim, fun _ h => absurd h.1 (by decide), fun I2 h => by
      obtain ⟨-, h2⟩ := h
      cases h2
      exact am_Cw (fun q J2 h => by obtain ⟨h1, h2⟩ := h; rw [h2]; exact ⟨g3, g4⟩) (sX11_recover (d := 3) hG' (r := (q, J')) (by rw [hn']; exact g2))⟩
def PR_start (n k : Nat) (I J : am_I) (p0 : Int32) : Prop := (∃ I' J', gX10_start n p0 I = some (.inl none, I') ∧ gX11_start n p0 J = some J' ∧ J' 0 60 0 = nI 0 ∧ Inv n k I' J') ∨ (∃ J', gX10_start n p0 I = some (.inr 8, I) ∧ gX11_start n p0 J = some J' ∧ J' 0 60 0 = nI 1 ∧ Inv n k I J') ∨ (∃ J', gX10_start n p0 I = some (.inr 46, I) ∧ gX11_start n p0 J = some J' ∧ J' 0 60 0 = nI 2 ∧ Inv n k I J')
theorem lf_start (hl : G.1.1.stackTraces = false) (hG : am_ok G) (hG' : am_okM G') (hn : G.2.2.2.1 = n) (hn' : G'.2.2.2.1 = n) (hP : ∀ (k : Nat) (I J : am_I) (p0 : Int32), Inv n (k + 1) I J → PR_start n k I J p0) : ls_start G G' (Inv n) := by
  intro k I J p0 hI
  rcases hP k I J p0 hI with ⟨I', J', g1, g2, g3, g4⟩ | ⟨J', g1, g2, g3, g4⟩ | ⟨J', g1, g2, g3, g4⟩
  · refine ⟨_, _, fx_ret hl rfl hG.nd (Nat.le_of_ble_eq_true rfl) (sX10_start (d := 7) hG (by rw [hn]; exact g1)), fun _ _ h => h.elim, fun I2 h => ?_, fun _ h => h.elim, fun _ h => h.elim⟩
    obtain ⟨-, h2⟩ := h
    cases h2
    exact am_Cw (fun q J2 h => by obtain ⟨h1, h2⟩ := h; rw [h2]; exact ⟨g3, g4⟩) (sX11_start (d := 3) hG' (r := J') (by rw [hn']; exact g2))
  · exact ⟨_, _, fx_thr ts_start_8 hl rfl hG.nd (Nat.le_of_ble_eq_true rfl) (sX10_start (d := 7) hG (by rw [hn]; exact g1)), fun Ex _ h => Or.inl h.1, fun _ h => h.elim, fun I2 h => by
      obtain ⟨-, h2⟩ := h
      cases h2
      exact am_Cw (fun q J2 h => by obtain ⟨h1, h2⟩ := h; rw [h2]; exact ⟨g3, g4⟩) (sX11_start (d := 3) hG' (r := J') (by rw [hn']; exact g2)), fun _ h => absurd h.1 (by decide)⟩
  · exact ⟨_, _, fx_thr ts_start_46 hl rfl hG.nd (Nat.le_of_ble_eq_true rfl) (sX10_start (d := 7) hG (by rw [hn]; exact g1)), fun Ex _ h => Or.inr (h.1), fun _ h => h.elim, fun _ h => absurd h.1 (by decide), fun I2 h => by
      obtain ⟨-, h2⟩ := h
      cases h2
      exact am_Cw (fun q J2 h => by obtain ⟨h1, h2⟩ := h; rw [h2]; exact ⟨g3, g4⟩) (sX11_start (d := 3) hG' (r := J') (by rw [hn']; exact g2))⟩
def PR_result (n k : Nat) (I J : am_I) (p0 p1 : Int32) : Prop := (∃ r I' J', gX10_result n p0 p1 I = some (.inl (some r), I') ∧ gX11_result n p0 p1 J = some (r, J') ∧ J' 0 60 0 = nI 0 ∧ Inv n k I' J') ∨ (∃ q J', gX10_result n p0 p1 I = some (.inr 17, I) ∧ gX11_result n p0 p1 J = some (q, J') ∧ J' 0 60 0 = nI 1 ∧ Inv n k I J')
theorem lf_result (hl : G.1.1.stackTraces = false) (hG : am_ok G) (hG' : am_okM G') (hn : G.2.2.2.1 = n) (hn' : G'.2.2.2.1 = n) (hP : ∀ (k : Nat) (I J : am_I) (p0 p1 : Int32), Inv n (k + 1) I J → PR_result n k I J p0 p1) : ls_result G G' (Inv n) := by
  intro k I J p0 p1 hI
  rcases hP k I J p0 p1 hI with ⟨r, I', J', g1, g2, g3, g4⟩ | ⟨q, J', g1, g2, g3, g4⟩
  · refine ⟨_, _, fx_ret hl rfl hG.nd (Nat.le_of_ble_eq_true rfl) (sX10_result (d := 13) hG (by rw [hn]; exact g1)), fun _ _ h => h.elim, fun r' I2 h => ?_, fun _ h => h.elim⟩
    obtain ⟨h1, h2⟩ := h
    cases h1
    cases h2
    exact am_Cw (fun q J2 h => by obtain ⟨h1, h2⟩ := h; rw [h1, h2]; exact ⟨g3, rfl, g4⟩) (sX11_result (d := 13) hG' (r := (r, J')) (by rw [hn']; exact g2))
  · exact ⟨_, _, fx_thr ts_result_17 hl rfl hG.nd (Nat.le_of_ble_eq_true rfl) (sX10_result (d := 13) hG (by rw [hn]; exact g1)), fun Ex _ h => h.1, fun _ _ h => h.elim, fun I2 h => by
      obtain ⟨-, h2⟩ := h
      cases h2
      exact am_Cw (fun q J2 h => by obtain ⟨h1, h2⟩ := h; rw [h2]; exact ⟨g3, g4⟩) (sX11_result (d := 13) hG' (r := (q, J')) (by rw [hn']; exact g2))⟩
def PR_history (n k : Nat) (I J : am_I) (p0 p1 : Int32) : Prop := (∃ r I' J', gX10_history n p0 p1 I = some (.inl (some r), I') ∧ gX11_history n p0 p1 J = some (r, J') ∧ J' 0 60 0 = nI 0 ∧ Inv n k I' J') ∨ (∃ q J', gX10_history n p0 p1 I = some (.inr 15, I) ∧ gX11_history n p0 p1 J = some (q, J') ∧ J' 0 60 0 = nI 1 ∧ Inv n k I J') ∨ (∃ q J', gX10_history n p0 p1 I = some (.inr 35, I) ∧ gX11_history n p0 p1 J = some (q, J') ∧ J' 0 60 0 = nI 2 ∧ Inv n k I J')
theorem lf_history (hl : G.1.1.stackTraces = false) (hG : am_ok G) (hG' : am_okM G') (hn : G.2.2.2.1 = n) (hn' : G'.2.2.2.1 = n) (hP : ∀ (k : Nat) (I J : am_I) (p0 p1 : Int32), Inv n (k + 1) I J → PR_history n k I J p0 p1) : ls_history G G' (Inv n) := by
  intro k I J p0 p1 hI
  rcases hP k I J p0 p1 hI with ⟨r, I', J', g1, g2, g3, g4⟩ | ⟨q, J', g1, g2, g3, g4⟩ | ⟨q, J', g1, g2, g3, g4⟩
  · refine ⟨_, _, fx_ret hl rfl hG.nd (Nat.le_of_ble_eq_true rfl) (sX10_history (d := 12) hG (by rw [hn]; exact g1)), fun _ _ h => h.elim, fun r' I2 h => ?_, fun _ h => h.elim, fun _ h => h.elim⟩
    obtain ⟨h1, h2⟩ := h
    cases h1
    cases h2
    exact am_Cw (fun q J2 h => by obtain ⟨h1, h2⟩ := h; rw [h1, h2]; exact ⟨g3, rfl, g4⟩) (sX11_history (d := 14) hG' (r := (r, J')) (by rw [hn']; exact g2))
  · exact ⟨_, _, fx_thr ts_history_15 hl rfl hG.nd (Nat.le_of_ble_eq_true rfl) (sX10_history (d := 12) hG (by rw [hn]; exact g1)), fun Ex _ h => Or.inl h.1, fun _ _ h => h.elim, fun I2 h => by
      obtain ⟨-, h2⟩ := h
      cases h2
      exact am_Cw (fun q J2 h => by obtain ⟨h1, h2⟩ := h; rw [h2]; exact ⟨g3, g4⟩) (sX11_history (d := 14) hG' (r := (q, J')) (by rw [hn']; exact g2)), fun _ h => absurd h.1 (by decide)⟩
  · exact ⟨_, _, fx_thr ts_history_35 hl rfl hG.nd (Nat.le_of_ble_eq_true rfl) (sX10_history (d := 12) hG (by rw [hn]; exact g1)), fun Ex _ h => Or.inr (h.1), fun _ _ h => h.elim, fun _ h => absurd h.1 (by decide), fun I2 h => by
      obtain ⟨-, h2⟩ := h
      cases h2
      exact am_Cw (fun q J2 h => by obtain ⟨h1, h2⟩ := h; rw [h2]; exact ⟨g3, g4⟩) (sX11_history (d := 14) hG' (r := (q, J')) (by rw [hn']; exact g2))⟩
def PR_word (n k : Nat) (I J : am_I) (p0 p1 : Int32) : Prop := (∃ r I' J', gX10_word n p0 p1 I = some (.inl (some r), I') ∧ gX11_word n p0 p1 J = some (r, J') ∧ J' 0 60 0 = nI 0 ∧ Inv n k I' J') ∨ (∃ q J', gX10_word n p0 p1 I = some (.inr 8, I) ∧ gX11_word n p0 p1 J = some (q, J') ∧ J' 0 60 0 = nI 1 ∧ Inv n k I J')
theorem lf_word (hl : G.1.1.stackTraces = false) (hG : am_ok G) (hG' : am_okM G') (hn : G.2.2.2.1 = n) (hn' : G'.2.2.2.1 = n) (hP : ∀ (k : Nat) (I J : am_I) (p0 p1 : Int32), Inv n (k + 1) I J → PR_word n k I J p0 p1) : ls_word G G' (Inv n) := by
  intro k I J p0 p1 hI
  rcases hP k I J p0 p1 hI with ⟨r, I', J', g1, g2, g3, g4⟩ | ⟨q, J', g1, g2, g3, g4⟩
  · refine ⟨_, _, fx_ret hl rfl hG.nd (Nat.le_of_ble_eq_true rfl) (sX10_word (d := 13) hG (by rw [hn]; exact g1)), fun _ _ h => h.elim, fun r' I2 h => ?_, fun _ h => h.elim⟩
    obtain ⟨h1, h2⟩ := h
    cases h1
    cases h2
    exact am_Cw (fun q J2 h => by obtain ⟨h1, h2⟩ := h; rw [h1, h2]; exact ⟨g3, rfl, g4⟩) (sX11_word (d := 13) hG' (r := (r, J')) (by rw [hn']; exact g2))
  · exact ⟨_, _, fx_thr ts_word_8 hl rfl hG.nd (Nat.le_of_ble_eq_true rfl) (sX10_word (d := 13) hG (by rw [hn]; exact g1)), fun Ex _ h => h.1, fun _ _ h => h.elim, fun I2 h => by
      obtain ⟨-, h2⟩ := h
      cases h2
      exact am_Cw (fun q J2 h => by obtain ⟨h1, h2⟩ := h; rw [h2]; exact ⟨g3, g4⟩) (sX11_word (d := 13) hG' (r := (q, J')) (by rw [hn']; exact g2))⟩
def PR_cached (n k : Nat) (I J : am_I) (p0 p1 p2 : Int32) : Prop := (∃ r I' J', gX10_cached n p0 p1 p2 I = some (.inl (some r), I') ∧ gX11_cached n p0 p1 p2 J = some (r, J') ∧ J' 0 60 0 = nI 0 ∧ Inv n k I' J') ∨ (∃ q J', gX10_cached n p0 p1 p2 I = some (.inr 8, I) ∧ gX11_cached n p0 p1 p2 J = some (q, J') ∧ J' 0 60 0 = nI 1 ∧ Inv n k I J') ∨ (∃ q J', gX10_cached n p0 p1 p2 I = some (.inr 26, I) ∧ gX11_cached n p0 p1 p2 J = some (q, J') ∧ J' 0 60 0 = nI 2 ∧ Inv n k I J') ∨ (∃ q J', gX10_cached n p0 p1 p2 I = some (.inr 57, I) ∧ gX11_cached n p0 p1 p2 J = some (q, J') ∧ J' 0 60 0 = nI 3 ∧ Inv n k I J')
theorem lf_cached (hl : G.1.1.stackTraces = false) (hG : am_ok G) (hG' : am_okM G') (hn : G.2.2.2.1 = n) (hn' : G'.2.2.2.1 = n) (hP : ∀ (k : Nat) (I J : am_I) (p0 p1 p2 : Int32), Inv n (k + 1) I J → PR_cached n k I J p0 p1 p2) : ls_cached G G' (Inv n) := by
  intro k I J p0 p1 p2 hI
  rcases hP k I J p0 p1 p2 hI with ⟨r, I', J', g1, g2, g3, g4⟩ | ⟨q, J', g1, g2, g3, g4⟩ | ⟨q, J', g1, g2, g3, g4⟩ | ⟨q, J', g1, g2, g3, g4⟩
  · refine ⟨_, _, fx_ret hl rfl hG.nd (Nat.le_of_ble_eq_true rfl) (sX10_cached (d := 13) hG (by rw [hn]; exact g1)), fun _ _ h => h.elim, fun r' I2 h => ?_, fun _ h => h.elim, fun _ h => h.elim, fun _ h => h.elim⟩
    obtain ⟨h1, h2⟩ := h
    cases h1
    cases h2
    exact am_Cw (fun q J2 h => by obtain ⟨h1, h2⟩ := h; rw [h1, h2]; exact ⟨g3, rfl, g4⟩) (sX11_cached (d := 13) hG' (r := (r, J')) (by rw [hn']; exact g2))
  · exact ⟨_, _, fx_thr ts_cached_8 hl rfl hG.nd (Nat.le_of_ble_eq_true rfl) (sX10_cached (d := 13) hG (by rw [hn]; exact g1)), fun Ex _ h => Or.inl h.1, fun _ _ h => h.elim, fun I2 h => by
      obtain ⟨-, h2⟩ := h
      cases h2
      exact am_Cw (fun q J2 h => by obtain ⟨h1, h2⟩ := h; rw [h2]; exact ⟨g3, g4⟩) (sX11_cached (d := 13) hG' (r := (q, J')) (by rw [hn']; exact g2)), fun _ h => absurd h.1 (by decide), fun _ h => absurd h.1 (by decide)⟩
  · exact ⟨_, _, fx_thr ts_cached_26 hl rfl hG.nd (Nat.le_of_ble_eq_true rfl) (sX10_cached (d := 13) hG (by rw [hn]; exact g1)), fun Ex _ h => Or.inr (Or.inl h.1), fun _ _ h => h.elim, fun _ h => absurd h.1 (by decide), fun I2 h => by
      obtain ⟨-, h2⟩ := h
      cases h2
      exact am_Cw (fun q J2 h => by obtain ⟨h1, h2⟩ := h; rw [h2]; exact ⟨g3, g4⟩) (sX11_cached (d := 13) hG' (r := (q, J')) (by rw [hn']; exact g2)), fun _ h => absurd h.1 (by decide)⟩
  · exact ⟨_, _, fx_thr ts_cached_57 hl rfl hG.nd (Nat.le_of_ble_eq_true rfl) (sX10_cached (d := 13) hG (by rw [hn]; exact g1)), fun Ex _ h => Or.inr (Or.inr (h.1)), fun _ _ h => h.elim, fun _ h => absurd h.1 (by decide), fun _ h => absurd h.1 (by decide), fun I2 h => by
      obtain ⟨-, h2⟩ := h
      cases h2
      exact am_Cw (fun q J2 h => by obtain ⟨h1, h2⟩ := h; rw [h2]; exact ⟨g3, g4⟩) (sX11_cached (d := 13) hG' (r := (q, J')) (by rw [hn']; exact g2))⟩
def PR_lock (n k : Nat) (I J : am_I) (p0 p1 p2 : Int32) : Prop := (∃ r I' J', gX10_lock n p0 p1 p2 I = some (.inl (some r), I') ∧ gX11_lock n p0 p1 p2 J = some (r, J') ∧ J' 0 60 0 = nI 0 ∧ Inv n k I' J') ∨ (∃ q J', gX10_lock n p0 p1 p2 I = some (.inr 24, I) ∧ gX11_lock n p0 p1 p2 J = some (q, J') ∧ J' 0 60 0 = nI 1 ∧ Inv n k I J')
theorem lf_lock (hl : G.1.1.stackTraces = false) (hG : am_ok G) (hG' : am_okM G') (hn : G.2.2.2.1 = n) (hn' : G'.2.2.2.1 = n) (hP : ∀ (k : Nat) (I J : am_I) (p0 p1 p2 : Int32), Inv n (k + 1) I J → PR_lock n k I J p0 p1 p2) : ls_lock G G' (Inv n) := by
  intro k I J p0 p1 p2 hI
  rcases hP k I J p0 p1 p2 hI with ⟨r, I', J', g1, g2, g3, g4⟩ | ⟨q, J', g1, g2, g3, g4⟩
  · refine ⟨_, _, fx_ret hl rfl hG.nd (Nat.le_of_ble_eq_true rfl) (sX10_lock (d := 13) hG (by rw [hn]; exact g1)), fun _ _ h => h.elim, fun r' I2 h => ?_, fun _ h => h.elim⟩
    obtain ⟨h1, h2⟩ := h
    cases h1
    cases h2
    exact am_Cw (fun q J2 h => by obtain ⟨h1, h2⟩ := h; rw [h1, h2]; exact ⟨g3, rfl, g4⟩) (sX11_lock (d := 13) hG' (r := (r, J')) (by rw [hn']; exact g2))
  · exact ⟨_, _, fx_thr ts_lock_24 hl rfl hG.nd (Nat.le_of_ble_eq_true rfl) (sX10_lock (d := 13) hG (by rw [hn]; exact g1)), fun Ex _ h => h.1, fun _ _ h => h.elim, fun I2 h => by
      obtain ⟨-, h2⟩ := h
      cases h2
      exact am_Cw (fun q J2 h => by obtain ⟨h1, h2⟩ := h; rw [h2]; exact ⟨g3, g4⟩) (sX11_lock (d := 13) hG' (r := (q, J')) (by rw [hn']; exact g2))⟩
def PR_row (n k : Nat) (I J : am_I) (p0 p1 : Int32) : Prop := (∃ r I' J', gX10_row n p0 p1 I = some (.inl (some r), I') ∧ gX11_row n p0 p1 J = some (r, J') ∧ J' 0 60 0 = nI 0 ∧ Inv n k I' J') ∨ (∃ q J', gX10_row n p0 p1 I = some (.inr 11, I) ∧ gX11_row n p0 p1 J = some (q, J') ∧ J' 0 60 0 = nI 1 ∧ Inv n k I J')
theorem lf_row (hl : G.1.1.stackTraces = false) (hG : am_ok G) (hG' : am_okM G') (hn : G.2.2.2.1 = n) (hn' : G'.2.2.2.1 = n) (hP : ∀ (k : Nat) (I J : am_I) (p0 p1 : Int32), Inv n (k + 1) I J → PR_row n k I J p0 p1) : ls_row G G' (Inv n) := by
  intro k I J p0 p1 hI
  rcases hP k I J p0 p1 hI with ⟨r, I', J', g1, g2, g3, g4⟩ | ⟨q, J', g1, g2, g3, g4⟩
  · refine ⟨_, _, fx_ret hl rfl hG.nd (Nat.le_of_ble_eq_true rfl) (sX10_row (d := 13) hG (by rw [hn]; exact g1)), fun _ _ h => h.elim, fun r' I2 h => ?_, fun _ h => h.elim⟩
    obtain ⟨h1, h2⟩ := h
    cases h1
    cases h2
    exact am_Cw (fun q J2 h => by obtain ⟨h1, h2⟩ := h; rw [h1, h2]; exact ⟨g3, rfl, g4⟩) (sX11_row (d := 14) hG' (r := (r, J')) (by rw [hn']; exact g2))
  · exact ⟨_, _, fx_thr ts_row_11 hl rfl hG.nd (Nat.le_of_ble_eq_true rfl) (sX10_row (d := 13) hG (by rw [hn]; exact g1)), fun Ex _ h => h.1, fun _ _ h => h.elim, fun I2 h => by
      obtain ⟨-, h2⟩ := h
      cases h2
      exact am_Cw (fun q J2 h => by obtain ⟨h1, h2⟩ := h; rw [h2]; exact ⟨g3, g4⟩) (sX11_row (d := 14) hG' (r := (q, J')) (by rw [hn']; exact g2))⟩
def PR_message (n k : Nat) (I J : am_I) (p0 p1 : Int32) : Prop := (∃ r I' J', gX10_message n p0 p1 I = some (.inl (some r), I') ∧ gX11_message n p0 p1 J = some (r, J') ∧ J' 0 60 0 = nI 0 ∧ Inv n k I' J') ∨ (∃ q J', gX10_message n p0 p1 I = some (.inr 15, I) ∧ gX11_message n p0 p1 J = some (q, J') ∧ J' 0 60 0 = nI 1 ∧ Inv n k I J') ∨ (∃ q J', gX10_message n p0 p1 I = some (.inr 36, I) ∧ gX11_message n p0 p1 J = some (q, J') ∧ J' 0 60 0 = nI 2 ∧ Inv n k I J')
theorem lf_message (hl : G.1.1.stackTraces = false) (hG : am_ok G) (hG' : am_okM G') (hn : G.2.2.2.1 = n) (hn' : G'.2.2.2.1 = n) (hP : ∀ (k : Nat) (I J : am_I) (p0 p1 : Int32), Inv n (k + 1) I J → PR_message n k I J p0 p1) : ls_message G G' (Inv n) := by
  intro k I J p0 p1 hI
  rcases hP k I J p0 p1 hI with ⟨r, I', J', g1, g2, g3, g4⟩ | ⟨q, J', g1, g2, g3, g4⟩ | ⟨q, J', g1, g2, g3, g4⟩
  · refine ⟨_, _, fx_ret hl rfl hG.nd (Nat.le_of_ble_eq_true rfl) (sX10_message (d := 14) hG (by rw [hn]; exact g1)), fun _ _ h => h.elim, fun r' I2 h => ?_, fun _ h => h.elim, fun _ h => h.elim⟩
    obtain ⟨h1, h2⟩ := h
    cases h1
    cases h2
    exact am_Cw (fun q J2 h => by obtain ⟨h1, h2⟩ := h; rw [h1, h2]; exact ⟨g3, rfl, g4⟩) (sX11_message (d := 14) hG' (r := (r, J')) (by rw [hn']; exact g2))
  · exact ⟨_, _, fx_thr ts_message_15 hl rfl hG.nd (Nat.le_of_ble_eq_true rfl) (sX10_message (d := 14) hG (by rw [hn]; exact g1)), fun Ex _ h => Or.inl h.1, fun _ _ h => h.elim, fun I2 h => by
      obtain ⟨-, h2⟩ := h
      cases h2
      exact am_Cw (fun q J2 h => by obtain ⟨h1, h2⟩ := h; rw [h2]; exact ⟨g3, g4⟩) (sX11_message (d := 14) hG' (r := (q, J')) (by rw [hn']; exact g2)), fun _ h => absurd h.1 (by decide)⟩
  · exact ⟨_, _, fx_thr ts_message_36 hl rfl hG.nd (Nat.le_of_ble_eq_true rfl) (sX10_message (d := 14) hG (by rw [hn]; exact g1)), fun Ex _ h => Or.inr (h.1), fun _ _ h => h.elim, fun _ h => absurd h.1 (by decide), fun I2 h => by
      obtain ⟨-, h2⟩ := h
      cases h2
      exact am_Cw (fun q J2 h => by obtain ⟨h1, h2⟩ := h; rw [h2]; exact ⟨g3, g4⟩) (sX11_message (d := 14) hG' (r := (q, J')) (by rw [hn']; exact g2))⟩
def PR_node (n k : Nat) (I J : am_I) (p0 p1 : Int32) : Prop := (∃ r I' J', gX10_node n p0 p1 I = some (.inl (some r), I') ∧ gX11_node n p0 p1 J = some (r, J') ∧ J' 0 60 0 = nI 0 ∧ Inv n k I' J') ∨ (∃ q J', gX10_node n p0 p1 I = some (.inr 18, I) ∧ gX11_node n p0 p1 J = some (q, J') ∧ J' 0 60 0 = nI 1 ∧ Inv n k I J')
theorem lf_node (hl : G.1.1.stackTraces = false) (hG : am_ok G) (hG' : am_okM G') (hn : G.2.2.2.1 = n) (hn' : G'.2.2.2.1 = n) (hP : ∀ (k : Nat) (I J : am_I) (p0 p1 : Int32), Inv n (k + 1) I J → PR_node n k I J p0 p1) : ls_node G G' (Inv n) := by
  intro k I J p0 p1 hI
  rcases hP k I J p0 p1 hI with ⟨r, I', J', g1, g2, g3, g4⟩ | ⟨q, J', g1, g2, g3, g4⟩
  · refine ⟨_, _, fx_ret hl rfl hG.nd (Nat.le_of_ble_eq_true rfl) (sX10_node (d := 13) hG (by rw [hn]; exact g1)), fun _ _ h => h.elim, fun r' I2 h => ?_, fun _ h => h.elim⟩
    obtain ⟨h1, h2⟩ := h
    cases h1
    cases h2
    exact am_Cw (fun q J2 h => by obtain ⟨h1, h2⟩ := h; rw [h1, h2]; exact ⟨g3, rfl, g4⟩) (sX11_node (d := 13) hG' (r := (r, J')) (by rw [hn']; exact g2))
  · exact ⟨_, _, fx_thr ts_node_18 hl rfl hG.nd (Nat.le_of_ble_eq_true rfl) (sX10_node (d := 13) hG (by rw [hn]; exact g1)), fun Ex _ h => h.1, fun _ _ h => h.elim, fun I2 h => by
      obtain ⟨-, h2⟩ := h
      cases h2
      exact am_Cw (fun q J2 h => by obtain ⟨h1, h2⟩ := h; rw [h2]; exact ⟨g3, g4⟩) (sX11_node (d := 13) hG' (r := (q, J')) (by rw [hn']; exact g2))⟩
def PR_about (n k : Nat) (I J : am_I) (p0 : Int32) : Prop := (∃ r I' J', gX10_about n p0 I = some (.inl (some r), I') ∧ gX11_about n p0 J = some (r, J') ∧ J' 0 60 0 = nI 0 ∧ Inv n k I' J') ∨ (∃ q J', gX10_about n p0 I = some (.inr 125, I) ∧ gX11_about n p0 J = some (q, J') ∧ J' 0 60 0 = nI 1 ∧ Inv n k I J')
theorem lf_about (hl : G.1.1.stackTraces = false) (hG : am_ok G) (hG' : am_okM G') (hn : G.2.2.2.1 = n) (hn' : G'.2.2.2.1 = n) (hP : ∀ (k : Nat) (I J : am_I) (p0 : Int32), Inv n (k + 1) I J → PR_about n k I J p0) : ls_about G G' (Inv n) := by
  intro k I J p0 hI
  rcases hP k I J p0 hI with ⟨r, I', J', g1, g2, g3, g4⟩ | ⟨q, J', g1, g2, g3, g4⟩
  · refine ⟨_, _, fx_ret hl rfl hG.nd (Nat.le_of_ble_eq_true rfl) (sX10_about (d := 7) hG (by rw [hn]; exact g1)), fun _ _ h => h.elim, fun r' I2 h => ?_, fun _ h => h.elim⟩
    obtain ⟨h1, h2⟩ := h
    cases h1
    cases h2
    exact am_Cw (fun q J2 h => by obtain ⟨h1, h2⟩ := h; rw [h1, h2]; exact ⟨g3, rfl, g4⟩) (sX11_about (d := 10) hG' (r := (r, J')) (by rw [hn']; exact g2))
  · exact ⟨_, _, fx_thr ts_about_125 hl rfl hG.nd (Nat.le_of_ble_eq_true rfl) (sX10_about (d := 7) hG (by rw [hn]; exact g1)), fun Ex _ h => h.1, fun _ _ h => h.elim, fun I2 h => by
      obtain ⟨-, h2⟩ := h
      cases h2
      exact am_Cw (fun q J2 h => by obtain ⟨h1, h2⟩ := h; rw [h2]; exact ⟨g3, g4⟩) (sX11_about (d := 10) hG' (r := (q, J')) (by rw [hn']; exact g2))⟩
end FACE
