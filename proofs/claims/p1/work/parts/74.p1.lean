theorem p1_nat (x : Int32) (h : 0 ≤ x.toInt) : ∃ i : Nat, x = nI i ∧ (i : Int) = x.toInt ∧ i < 2 ^ 31 := by
  have hlt : x.toInt < 2 ^ 31 := by
    have := Int32.toInt_lt x
    simpa using this
  refine ⟨x.toInt.toNat, ?_, by omega, by omega⟩
  apply Int32.toInt_inj.mp
  rw [nI_toInt (by omega)]
  omega
/-- one call is left on a new object, or none -/
def p1_Inv (n k : Nat) (I J : am_I) : Prop := k = 0 ∨ (k = 1 ∧ I = am_fr n ∧ J = am_fr n)
def p1S_call (G G' : am_G) (n : Nat) (I J : am_I) (p0 p1 p2 p3 p4 p5 : Int32) : Prop := ∃ (Q : Option Int32 → am_I → Prop) (X : String → am_I → Prop), am_CX G 14 mX10_call [.inr (0, 0), .inl p0, .inl p1, .inl p2, .inl p3, .inl p4, .inl p5] I Q X ∧ (∀ Ex I', X Ex I' → Ex = "java/lang/IllegalArgumentException" ∨ Ex = "java/lang/IllegalStateException") ∧ (∀ (r : Int32) (I' : am_I), Q (some r) I' → am_C G' 15 mX11_call [.inr (0, 60), .inl p0, .inl p1, .inl p2, .inl p3, .inl p4, .inl p5] J (fun q J' => J' 0 60 0 = nI 0 ∧ q = some r ∧ p1_Inv n 0 I' J')) ∧ (∀ (I' : am_I), X "java/lang/IllegalArgumentException" I' → am_C G' 15 mX11_call [.inr (0, 60), .inl p0, .inl p1, .inl p2, .inl p3, .inl p4, .inl p5] J (fun _ J' => J' 0 60 0 = nI 1 ∧ p1_Inv n 0 I' J')) ∧ (∀ (I' : am_I), X "java/lang/IllegalStateException" I' → am_C G' 15 mX11_call [.inr (0, 60), .inl p0, .inl p1, .inl p2, .inl p3, .inl p4, .inl p5] J (fun _ J' => J' 0 60 0 = nI 2 ∧ p1_Inv n 0 I' J'))
theorem p1R_call {G G' : am_G} {n : Nat} {I J : am_I} {p0 p1 p2 p3 p4 p5 : Int32} {r : Int32} (hc : am_CX G 14 mX10_call [.inr (0, 0), .inl p0, .inl p1, .inl p2, .inl p3, .inl p4, .inl p5] I (fun q _ => q = some r) (fun _ _ => False)) (hm : am_C G' 15 mX11_call [.inr (0, 60), .inl p0, .inl p1, .inl p2, .inl p3, .inl p4, .inl p5] J (fun rr J' => rr = some r ∧ J' 0 60 0 = nI 0)) : p1S_call G G' n I J p0 p1 p2 p3 p4 p5 := by
  refine ⟨_, _, hc, fun _ _ h => h.elim, fun r' I' h => ?_, fun _ h => h.elim, fun _ h => h.elim⟩
  cases h
  exact am_Cw (fun q J' h => ⟨h.2, h.1, Or.inl rfl⟩) hm
theorem p1E_call_IA {G G' : am_G} {n : Nat} {I J : am_I} {p0 p1 p2 p3 p4 p5 : Int32} {r : Option Int32} (hc : am_CX G 14 mX10_call [.inr (0, 0), .inl p0, .inl p1, .inl p2, .inl p3, .inl p4, .inl p5] I (fun _ _ => False) (fun Ex _ => Ex = "java/lang/IllegalArgumentException")) (hm : am_C G' 15 mX11_call [.inr (0, 60), .inl p0, .inl p1, .inl p2, .inl p3, .inl p4, .inl p5] J (fun rr J' => rr = r ∧ J' 0 60 0 = nI 1)) : p1S_call G G' n I J p0 p1 p2 p3 p4 p5 :=
  ⟨_, _, hc, fun Ex _ h => Or.inl h, fun _ _ h => h.elim, fun I' h => am_Cw (fun q J' h => ⟨h.2, Or.inl rfl⟩) hm, fun _ h => absurd h (by decide)⟩
theorem p1E_call_IS {G G' : am_G} {n : Nat} {I J : am_I} {p0 p1 p2 p3 p4 p5 : Int32} {r : Option Int32} (hc : am_CX G 14 mX10_call [.inr (0, 0), .inl p0, .inl p1, .inl p2, .inl p3, .inl p4, .inl p5] I (fun _ _ => False) (fun Ex _ => Ex = "java/lang/IllegalStateException")) (hm : am_C G' 15 mX11_call [.inr (0, 60), .inl p0, .inl p1, .inl p2, .inl p3, .inl p4, .inl p5] J (fun rr J' => rr = r ∧ J' 0 60 0 = nI 2)) : p1S_call G G' n I J p0 p1 p2 p3 p4 p5 :=
  ⟨_, _, hc, fun Ex _ h => Or.inr (h), fun _ _ h => h.elim, fun _ h => absurd h (by decide), fun I' h => am_Cw (fun q J' h => ⟨h.2, Or.inl rfl⟩) hm⟩
def p1S_delay (G G' : am_G) (n : Nat) (I J : am_I) (p0 p1 p2 : Int32) : Prop := ∃ (Q : Option Int32 → am_I → Prop) (X : String → am_I → Prop), am_CX G 14 mX10_delay [.inr (0, 0), .inl p0, .inl p1, .inl p2] I Q X ∧ (∀ Ex I', X Ex I' → Ex = "java/lang/IllegalArgumentException") ∧ (∀ (I' : am_I), Q none I' → am_C G' 15 mX11_delay [.inr (0, 60), .inl p0, .inl p1, .inl p2] J (fun _ J' => J' 0 60 0 = nI 0 ∧ p1_Inv n 0 I' J')) ∧ (∀ (I' : am_I), X "java/lang/IllegalArgumentException" I' → am_C G' 15 mX11_delay [.inr (0, 60), .inl p0, .inl p1, .inl p2] J (fun _ J' => J' 0 60 0 = nI 1 ∧ p1_Inv n 0 I' J'))
theorem p1R_delay {G G' : am_G} {n : Nat} {I J : am_I} {p0 p1 p2 : Int32} (hc : am_CX G 14 mX10_delay [.inr (0, 0), .inl p0, .inl p1, .inl p2] I (fun q _ => q = none) (fun _ _ => False)) (hm : am_C G' 15 mX11_delay [.inr (0, 60), .inl p0, .inl p1, .inl p2] J (fun rr J' => rr = none ∧ J' 0 60 0 = nI 0)) : p1S_delay G G' n I J p0 p1 p2 :=
  ⟨_, _, hc, fun _ _ h => h.elim, fun I' h => am_Cw (fun q J' h => ⟨h.2, Or.inl rfl⟩) hm, fun _ h => h.elim⟩
theorem p1E_delay_IA {G G' : am_G} {n : Nat} {I J : am_I} {p0 p1 p2 : Int32} {r : Option Int32} (hc : am_CX G 14 mX10_delay [.inr (0, 0), .inl p0, .inl p1, .inl p2] I (fun _ _ => False) (fun Ex _ => Ex = "java/lang/IllegalArgumentException")) (hm : am_C G' 15 mX11_delay [.inr (0, 60), .inl p0, .inl p1, .inl p2] J (fun rr J' => rr = r ∧ J' 0 60 0 = nI 1)) : p1S_delay G G' n I J p0 p1 p2 :=
  ⟨_, _, hc, fun Ex _ h => h, fun _ h => h.elim, fun I' h => am_Cw (fun q J' h => ⟨h.2, Or.inl rfl⟩) hm⟩
def p1S_tick (G G' : am_G) (n : Nat) (I J : am_I) (p0 : Int32) : Prop := ∃ (Q : Option Int32 → am_I → Prop) (X : String → am_I → Prop), am_CX G 14 mX10_tick [.inr (0, 0), .inl p0] I Q X ∧ (∀ Ex I', X Ex I' → Ex = "java/lang/IllegalArgumentException") ∧ (∀ (r : Int32) (I' : am_I), Q (some r) I' → am_C G' 15 mX11_tick [.inr (0, 60), .inl p0] J (fun q J' => J' 0 60 0 = nI 0 ∧ q = some r ∧ p1_Inv n 0 I' J')) ∧ (∀ (I' : am_I), X "java/lang/IllegalArgumentException" I' → am_C G' 15 mX11_tick [.inr (0, 60), .inl p0] J (fun _ J' => J' 0 60 0 = nI 1 ∧ p1_Inv n 0 I' J'))
theorem p1R_tick {G G' : am_G} {n : Nat} {I J : am_I} {p0 : Int32} {r : Int32} (hc : am_CX G 14 mX10_tick [.inr (0, 0), .inl p0] I (fun q _ => q = some r) (fun _ _ => False)) (hm : am_C G' 15 mX11_tick [.inr (0, 60), .inl p0] J (fun rr J' => rr = some r ∧ J' 0 60 0 = nI 0)) : p1S_tick G G' n I J p0 := by
  refine ⟨_, _, hc, fun _ _ h => h.elim, fun r' I' h => ?_, fun _ h => h.elim⟩
  cases h
  exact am_Cw (fun q J' h => ⟨h.2, h.1, Or.inl rfl⟩) hm
theorem p1E_tick_IA {G G' : am_G} {n : Nat} {I J : am_I} {p0 : Int32} {r : Option Int32} (hc : am_CX G 14 mX10_tick [.inr (0, 0), .inl p0] I (fun _ _ => False) (fun Ex _ => Ex = "java/lang/IllegalArgumentException")) (hm : am_C G' 15 mX11_tick [.inr (0, 60), .inl p0] J (fun rr J' => rr = r ∧ J' 0 60 0 = nI 1)) : p1S_tick G G' n I J p0 :=
  ⟨_, _, hc, fun Ex _ h => h, fun _ _ h => h.elim, fun I' h => am_Cw (fun q J' h => ⟨h.2, Or.inl rfl⟩) hm⟩
def p1S_crash (G G' : am_G) (n : Nat) (I J : am_I) (p0 p1 : Int32) : Prop := ∃ (Q : Option Int32 → am_I → Prop) (X : String → am_I → Prop), am_CX G 14 mX10_crash [.inr (0, 0), .inl p0, .inl p1] I Q X ∧ (∀ Ex I', X Ex I' → Ex = "java/lang/IllegalArgumentException" ∨ Ex = "java/lang/IllegalStateException") ∧ (∀ (I' : am_I), Q none I' → am_C G' 15 mX11_crash [.inr (0, 60), .inl p0, .inl p1] J (fun _ J' => J' 0 60 0 = nI 0 ∧ p1_Inv n 0 I' J')) ∧ (∀ (I' : am_I), X "java/lang/IllegalArgumentException" I' → am_C G' 15 mX11_crash [.inr (0, 60), .inl p0, .inl p1] J (fun _ J' => J' 0 60 0 = nI 1 ∧ p1_Inv n 0 I' J')) ∧ (∀ (I' : am_I), X "java/lang/IllegalStateException" I' → am_C G' 15 mX11_crash [.inr (0, 60), .inl p0, .inl p1] J (fun _ J' => J' 0 60 0 = nI 2 ∧ p1_Inv n 0 I' J'))
theorem p1R_crash {G G' : am_G} {n : Nat} {I J : am_I} {p0 p1 : Int32} (hc : am_CX G 14 mX10_crash [.inr (0, 0), .inl p0, .inl p1] I (fun q _ => q = none) (fun _ _ => False)) (hm : am_C G' 15 mX11_crash [.inr (0, 60), .inl p0, .inl p1] J (fun rr J' => rr = none ∧ J' 0 60 0 = nI 0)) : p1S_crash G G' n I J p0 p1 :=
  ⟨_, _, hc, fun _ _ h => h.elim, fun I' h => am_Cw (fun q J' h => ⟨h.2, Or.inl rfl⟩) hm, fun _ h => h.elim, fun _ h => h.elim⟩
theorem p1E_crash_IA {G G' : am_G} {n : Nat} {I J : am_I} {p0 p1 : Int32} {r : Option Int32} (hc : am_CX G 14 mX10_crash [.inr (0, 0), .inl p0, .inl p1] I (fun _ _ => False) (fun Ex _ => Ex = "java/lang/IllegalArgumentException")) (hm : am_C G' 15 mX11_crash [.inr (0, 60), .inl p0, .inl p1] J (fun rr J' => rr = r ∧ J' 0 60 0 = nI 1)) : p1S_crash G G' n I J p0 p1 :=
  ⟨_, _, hc, fun Ex _ h => Or.inl h, fun _ h => h.elim, fun I' h => am_Cw (fun q J' h => ⟨h.2, Or.inl rfl⟩) hm, fun _ h => absurd h (by decide)⟩
theorem p1E_crash_IS {G G' : am_G} {n : Nat} {I J : am_I} {p0 p1 : Int32} {r : Option Int32} (hc : am_CX G 14 mX10_crash [.inr (0, 0), .inl p0, .inl p1] I (fun _ _ => False) (fun Ex _ => Ex = "java/lang/IllegalStateException")) (hm : am_C G' 15 mX11_crash [.inr (0, 60), .inl p0, .inl p1] J (fun rr J' => rr = r ∧ J' 0 60 0 = nI 2)) : p1S_crash G G' n I J p0 p1 :=
  ⟨_, _, hc, fun Ex _ h => Or.inr (h), fun _ h => h.elim, fun _ h => absurd h (by decide), fun I' h => am_Cw (fun q J' h => ⟨h.2, Or.inl rfl⟩) hm⟩
def p1S_recover (G G' : am_G) (n : Nat) (I J : am_I) (p0 : Int32) : Prop := ∃ (Q : Option Int32 → am_I → Prop) (X : String → am_I → Prop), am_CX G 14 mX10_recover [.inr (0, 0), .inl p0] I Q X ∧ (∀ Ex I', X Ex I' → Ex = "java/lang/IllegalArgumentException" ∨ Ex = "java/lang/IllegalStateException") ∧ (∀ (r : Int32) (I' : am_I), Q (some r) I' → am_C G' 15 mX11_recover [.inr (0, 60), .inl p0] J (fun q J' => J' 0 60 0 = nI 0 ∧ q = some r ∧ p1_Inv n 0 I' J')) ∧ (∀ (I' : am_I), X "java/lang/IllegalArgumentException" I' → am_C G' 15 mX11_recover [.inr (0, 60), .inl p0] J (fun _ J' => J' 0 60 0 = nI 1 ∧ p1_Inv n 0 I' J')) ∧ (∀ (I' : am_I), X "java/lang/IllegalStateException" I' → am_C G' 15 mX11_recover [.inr (0, 60), .inl p0] J (fun _ J' => J' 0 60 0 = nI 2 ∧ p1_Inv n 0 I' J'))
theorem p1R_recover {G G' : am_G} {n : Nat} {I J : am_I} {p0 : Int32} {r : Int32} (hc : am_CX G 14 mX10_recover [.inr (0, 0), .inl p0] I (fun q _ => q = some r) (fun _ _ => False)) (hm : am_C G' 15 mX11_recover [.inr (0, 60), .inl p0] J (fun rr J' => rr = some r ∧ J' 0 60 0 = nI 0)) : p1S_recover G G' n I J p0 := by
  refine ⟨_, _, hc, fun _ _ h => h.elim, fun r' I' h => ?_, fun _ h => h.elim, fun _ h => h.elim⟩
  cases h
  exact am_Cw (fun q J' h => ⟨h.2, h.1, Or.inl rfl⟩) hm
theorem p1E_recover_IA {G G' : am_G} {n : Nat} {I J : am_I} {p0 : Int32} {r : Option Int32} (hc : am_CX G 14 mX10_recover [.inr (0, 0), .inl p0] I (fun _ _ => False) (fun Ex _ => Ex = "java/lang/IllegalArgumentException")) (hm : am_C G' 15 mX11_recover [.inr (0, 60), .inl p0] J (fun rr J' => rr = r ∧ J' 0 60 0 = nI 1)) : p1S_recover G G' n I J p0 :=
  ⟨_, _, hc, fun Ex _ h => Or.inl h, fun _ _ h => h.elim, fun I' h => am_Cw (fun q J' h => ⟨h.2, Or.inl rfl⟩) hm, fun _ h => absurd h (by decide)⟩
theorem p1E_recover_IS {G G' : am_G} {n : Nat} {I J : am_I} {p0 : Int32} {r : Option Int32} (hc : am_CX G 14 mX10_recover [.inr (0, 0), .inl p0] I (fun _ _ => False) (fun Ex _ => Ex = "java/lang/IllegalStateException")) (hm : am_C G' 15 mX11_recover [.inr (0, 60), .inl p0] J (fun rr J' => rr = r ∧ J' 0 60 0 = nI 2)) : p1S_recover G G' n I J p0 :=
  ⟨_, _, hc, fun Ex _ h => Or.inr (h), fun _ _ h => h.elim, fun _ h => absurd h (by decide), fun I' h => am_Cw (fun q J' h => ⟨h.2, Or.inl rfl⟩) hm⟩
def p1S_start (G G' : am_G) (n : Nat) (I J : am_I) (p0 : Int32) : Prop := ∃ (Q : Option Int32 → am_I → Prop) (X : String → am_I → Prop), am_CX G 14 mX10_start [.inr (0, 0), .inl p0] I Q X ∧ (∀ Ex I', X Ex I' → Ex = "java/lang/IllegalArgumentException" ∨ Ex = "java/lang/IllegalStateException") ∧ (∀ (I' : am_I), Q none I' → am_C G' 15 mX11_start [.inr (0, 60), .inl p0] J (fun _ J' => J' 0 60 0 = nI 0 ∧ p1_Inv n 0 I' J')) ∧ (∀ (I' : am_I), X "java/lang/IllegalArgumentException" I' → am_C G' 15 mX11_start [.inr (0, 60), .inl p0] J (fun _ J' => J' 0 60 0 = nI 1 ∧ p1_Inv n 0 I' J')) ∧ (∀ (I' : am_I), X "java/lang/IllegalStateException" I' → am_C G' 15 mX11_start [.inr (0, 60), .inl p0] J (fun _ J' => J' 0 60 0 = nI 2 ∧ p1_Inv n 0 I' J'))
theorem p1R_start {G G' : am_G} {n : Nat} {I J : am_I} {p0 : Int32} (hc : am_CX G 14 mX10_start [.inr (0, 0), .inl p0] I (fun q _ => q = none) (fun _ _ => False)) (hm : am_C G' 15 mX11_start [.inr (0, 60), .inl p0] J (fun rr J' => rr = none ∧ J' 0 60 0 = nI 0)) : p1S_start G G' n I J p0 :=
  ⟨_, _, hc, fun _ _ h => h.elim, fun I' h => am_Cw (fun q J' h => ⟨h.2, Or.inl rfl⟩) hm, fun _ h => h.elim, fun _ h => h.elim⟩
theorem p1E_start_IA {G G' : am_G} {n : Nat} {I J : am_I} {p0 : Int32} {r : Option Int32} (hc : am_CX G 14 mX10_start [.inr (0, 0), .inl p0] I (fun _ _ => False) (fun Ex _ => Ex = "java/lang/IllegalArgumentException")) (hm : am_C G' 15 mX11_start [.inr (0, 60), .inl p0] J (fun rr J' => rr = r ∧ J' 0 60 0 = nI 1)) : p1S_start G G' n I J p0 :=
  ⟨_, _, hc, fun Ex _ h => Or.inl h, fun _ h => h.elim, fun I' h => am_Cw (fun q J' h => ⟨h.2, Or.inl rfl⟩) hm, fun _ h => absurd h (by decide)⟩
theorem p1E_start_IS {G G' : am_G} {n : Nat} {I J : am_I} {p0 : Int32} {r : Option Int32} (hc : am_CX G 14 mX10_start [.inr (0, 0), .inl p0] I (fun _ _ => False) (fun Ex _ => Ex = "java/lang/IllegalStateException")) (hm : am_C G' 15 mX11_start [.inr (0, 60), .inl p0] J (fun rr J' => rr = r ∧ J' 0 60 0 = nI 2)) : p1S_start G G' n I J p0 :=
  ⟨_, _, hc, fun Ex _ h => Or.inr (h), fun _ h => h.elim, fun _ h => absurd h (by decide), fun I' h => am_Cw (fun q J' h => ⟨h.2, Or.inl rfl⟩) hm⟩
def p1S_result (G G' : am_G) (n : Nat) (I J : am_I) (p0 p1 : Int32) : Prop := ∃ (Q : Option Int32 → am_I → Prop) (X : String → am_I → Prop), am_CX G 14 mX10_result [.inr (0, 0), .inl p0, .inl p1] I Q X ∧ (∀ Ex I', X Ex I' → Ex = "java/lang/IllegalArgumentException") ∧ (∀ (r : Int32) (I' : am_I), Q (some r) I' → am_C G' 15 mX11_result [.inr (0, 60), .inl p0, .inl p1] J (fun q J' => J' 0 60 0 = nI 0 ∧ q = some r ∧ p1_Inv n 0 I' J')) ∧ (∀ (I' : am_I), X "java/lang/IllegalArgumentException" I' → am_C G' 15 mX11_result [.inr (0, 60), .inl p0, .inl p1] J (fun _ J' => J' 0 60 0 = nI 1 ∧ p1_Inv n 0 I' J'))
theorem p1R_result {G G' : am_G} {n : Nat} {I J : am_I} {p0 p1 : Int32} {r : Int32} (hc : am_CX G 14 mX10_result [.inr (0, 0), .inl p0, .inl p1] I (fun q _ => q = some r) (fun _ _ => False)) (hm : am_C G' 15 mX11_result [.inr (0, 60), .inl p0, .inl p1] J (fun rr J' => rr = some r ∧ J' 0 60 0 = nI 0)) : p1S_result G G' n I J p0 p1 := by
  refine ⟨_, _, hc, fun _ _ h => h.elim, fun r' I' h => ?_, fun _ h => h.elim⟩
  cases h
  exact am_Cw (fun q J' h => ⟨h.2, h.1, Or.inl rfl⟩) hm
theorem p1E_result_IA {G G' : am_G} {n : Nat} {I J : am_I} {p0 p1 : Int32} {r : Option Int32} (hc : am_CX G 14 mX10_result [.inr (0, 0), .inl p0, .inl p1] I (fun _ _ => False) (fun Ex _ => Ex = "java/lang/IllegalArgumentException")) (hm : am_C G' 15 mX11_result [.inr (0, 60), .inl p0, .inl p1] J (fun rr J' => rr = r ∧ J' 0 60 0 = nI 1)) : p1S_result G G' n I J p0 p1 :=
  ⟨_, _, hc, fun Ex _ h => h, fun _ _ h => h.elim, fun I' h => am_Cw (fun q J' h => ⟨h.2, Or.inl rfl⟩) hm⟩
def p1S_history (G G' : am_G) (n : Nat) (I J : am_I) (p0 p1 : Int32) : Prop := ∃ (Q : Option Int32 → am_I → Prop) (X : String → am_I → Prop), am_CX G 14 mX10_history [.inr (0, 0), .inl p0, .inl p1] I Q X ∧ (∀ Ex I', X Ex I' → Ex = "java/lang/IndexOutOfBoundsException" ∨ Ex = "java/lang/IllegalArgumentException") ∧ (∀ (r : Int32) (I' : am_I), Q (some r) I' → am_C G' 15 mX11_history [.inr (0, 60), .inl p0, .inl p1] J (fun q J' => J' 0 60 0 = nI 0 ∧ q = some r ∧ p1_Inv n 0 I' J')) ∧ (∀ (I' : am_I), X "java/lang/IndexOutOfBoundsException" I' → am_C G' 15 mX11_history [.inr (0, 60), .inl p0, .inl p1] J (fun _ J' => J' 0 60 0 = nI 1 ∧ p1_Inv n 0 I' J')) ∧ (∀ (I' : am_I), X "java/lang/IllegalArgumentException" I' → am_C G' 15 mX11_history [.inr (0, 60), .inl p0, .inl p1] J (fun _ J' => J' 0 60 0 = nI 2 ∧ p1_Inv n 0 I' J'))
theorem p1R_history {G G' : am_G} {n : Nat} {I J : am_I} {p0 p1 : Int32} {r : Int32} (hc : am_CX G 14 mX10_history [.inr (0, 0), .inl p0, .inl p1] I (fun q _ => q = some r) (fun _ _ => False)) (hm : am_C G' 15 mX11_history [.inr (0, 60), .inl p0, .inl p1] J (fun rr J' => rr = some r ∧ J' 0 60 0 = nI 0)) : p1S_history G G' n I J p0 p1 := by
  refine ⟨_, _, hc, fun _ _ h => h.elim, fun r' I' h => ?_, fun _ h => h.elim, fun _ h => h.elim⟩
  cases h
  exact am_Cw (fun q J' h => ⟨h.2, h.1, Or.inl rfl⟩) hm
theorem p1E_history_IX {G G' : am_G} {n : Nat} {I J : am_I} {p0 p1 : Int32} {r : Option Int32} (hc : am_CX G 14 mX10_history [.inr (0, 0), .inl p0, .inl p1] I (fun _ _ => False) (fun Ex _ => Ex = "java/lang/IndexOutOfBoundsException")) (hm : am_C G' 15 mX11_history [.inr (0, 60), .inl p0, .inl p1] J (fun rr J' => rr = r ∧ J' 0 60 0 = nI 1)) : p1S_history G G' n I J p0 p1 :=
  ⟨_, _, hc, fun Ex _ h => Or.inl h, fun _ _ h => h.elim, fun I' h => am_Cw (fun q J' h => ⟨h.2, Or.inl rfl⟩) hm, fun _ h => absurd h (by decide)⟩
theorem p1E_history_IA {G G' : am_G} {n : Nat} {I J : am_I} {p0 p1 : Int32} {r : Option Int32} (hc : am_CX G 14 mX10_history [.inr (0, 0), .inl p0, .inl p1] I (fun _ _ => False) (fun Ex _ => Ex = "java/lang/IllegalArgumentException")) (hm : am_C G' 15 mX11_history [.inr (0, 60), .inl p0, .inl p1] J (fun rr J' => rr = r ∧ J' 0 60 0 = nI 2)) : p1S_history G G' n I J p0 p1 :=
  ⟨_, _, hc, fun Ex _ h => Or.inr (h), fun _ _ h => h.elim, fun _ h => absurd h (by decide), fun I' h => am_Cw (fun q J' h => ⟨h.2, Or.inl rfl⟩) hm⟩
def p1S_word (G G' : am_G) (n : Nat) (I J : am_I) (p0 p1 : Int32) : Prop := ∃ (Q : Option Int32 → am_I → Prop) (X : String → am_I → Prop), am_CX G 14 mX10_word [.inr (0, 0), .inl p0, .inl p1] I Q X ∧ (∀ Ex I', X Ex I' → Ex = "java/lang/IndexOutOfBoundsException") ∧ (∀ (r : Int32) (I' : am_I), Q (some r) I' → am_C G' 15 mX11_word [.inr (0, 60), .inl p0, .inl p1] J (fun q J' => J' 0 60 0 = nI 0 ∧ q = some r ∧ p1_Inv n 0 I' J')) ∧ (∀ (I' : am_I), X "java/lang/IndexOutOfBoundsException" I' → am_C G' 15 mX11_word [.inr (0, 60), .inl p0, .inl p1] J (fun _ J' => J' 0 60 0 = nI 1 ∧ p1_Inv n 0 I' J'))
theorem p1R_word {G G' : am_G} {n : Nat} {I J : am_I} {p0 p1 : Int32} {r : Int32} (hc : am_CX G 14 mX10_word [.inr (0, 0), .inl p0, .inl p1] I (fun q _ => q = some r) (fun _ _ => False)) (hm : am_C G' 15 mX11_word [.inr (0, 60), .inl p0, .inl p1] J (fun rr J' => rr = some r ∧ J' 0 60 0 = nI 0)) : p1S_word G G' n I J p0 p1 := by
  refine ⟨_, _, hc, fun _ _ h => h.elim, fun r' I' h => ?_, fun _ h => h.elim⟩
  cases h
  exact am_Cw (fun q J' h => ⟨h.2, h.1, Or.inl rfl⟩) hm
theorem p1E_word_IX {G G' : am_G} {n : Nat} {I J : am_I} {p0 p1 : Int32} {r : Option Int32} (hc : am_CX G 14 mX10_word [.inr (0, 0), .inl p0, .inl p1] I (fun _ _ => False) (fun Ex _ => Ex = "java/lang/IndexOutOfBoundsException")) (hm : am_C G' 15 mX11_word [.inr (0, 60), .inl p0, .inl p1] J (fun rr J' => rr = r ∧ J' 0 60 0 = nI 1)) : p1S_word G G' n I J p0 p1 :=
  ⟨_, _, hc, fun Ex _ h => h, fun _ _ h => h.elim, fun I' h => am_Cw (fun q J' h => ⟨h.2, Or.inl rfl⟩) hm⟩
def p1S_cached (G G' : am_G) (n : Nat) (I J : am_I) (p0 p1 p2 : Int32) : Prop := ∃ (Q : Option Int32 → am_I → Prop) (X : String → am_I → Prop), am_CX G 14 mX10_cached [.inr (0, 0), .inl p0, .inl p1, .inl p2] I Q X ∧ (∀ Ex I', X Ex I' → Ex = "java/lang/IllegalArgumentException" ∨ Ex = "java/lang/IndexOutOfBoundsException" ∨ Ex = "java/util/NoSuchElementException") ∧ (∀ (r : Int32) (I' : am_I), Q (some r) I' → am_C G' 15 mX11_cached [.inr (0, 60), .inl p0, .inl p1, .inl p2] J (fun q J' => J' 0 60 0 = nI 0 ∧ q = some r ∧ p1_Inv n 0 I' J')) ∧ (∀ (I' : am_I), X "java/lang/IllegalArgumentException" I' → am_C G' 15 mX11_cached [.inr (0, 60), .inl p0, .inl p1, .inl p2] J (fun _ J' => J' 0 60 0 = nI 1 ∧ p1_Inv n 0 I' J')) ∧ (∀ (I' : am_I), X "java/lang/IndexOutOfBoundsException" I' → am_C G' 15 mX11_cached [.inr (0, 60), .inl p0, .inl p1, .inl p2] J (fun _ J' => J' 0 60 0 = nI 2 ∧ p1_Inv n 0 I' J')) ∧ (∀ (I' : am_I), X "java/util/NoSuchElementException" I' → am_C G' 15 mX11_cached [.inr (0, 60), .inl p0, .inl p1, .inl p2] J (fun _ J' => J' 0 60 0 = nI 3 ∧ p1_Inv n 0 I' J'))
theorem p1R_cached {G G' : am_G} {n : Nat} {I J : am_I} {p0 p1 p2 : Int32} {r : Int32} (hc : am_CX G 14 mX10_cached [.inr (0, 0), .inl p0, .inl p1, .inl p2] I (fun q _ => q = some r) (fun _ _ => False)) (hm : am_C G' 15 mX11_cached [.inr (0, 60), .inl p0, .inl p1, .inl p2] J (fun rr J' => rr = some r ∧ J' 0 60 0 = nI 0)) : p1S_cached G G' n I J p0 p1 p2 := by
  refine ⟨_, _, hc, fun _ _ h => h.elim, fun r' I' h => ?_, fun _ h => h.elim, fun _ h => h.elim, fun _ h => h.elim⟩
  cases h
  exact am_Cw (fun q J' h => ⟨h.2, h.1, Or.inl rfl⟩) hm
theorem p1E_cached_IA {G G' : am_G} {n : Nat} {I J : am_I} {p0 p1 p2 : Int32} {r : Option Int32} (hc : am_CX G 14 mX10_cached [.inr (0, 0), .inl p0, .inl p1, .inl p2] I (fun _ _ => False) (fun Ex _ => Ex = "java/lang/IllegalArgumentException")) (hm : am_C G' 15 mX11_cached [.inr (0, 60), .inl p0, .inl p1, .inl p2] J (fun rr J' => rr = r ∧ J' 0 60 0 = nI 1)) : p1S_cached G G' n I J p0 p1 p2 :=
  ⟨_, _, hc, fun Ex _ h => Or.inl h, fun _ _ h => h.elim, fun I' h => am_Cw (fun q J' h => ⟨h.2, Or.inl rfl⟩) hm, fun _ h => absurd h (by decide), fun _ h => absurd h (by decide)⟩
theorem p1E_cached_IX {G G' : am_G} {n : Nat} {I J : am_I} {p0 p1 p2 : Int32} {r : Option Int32} (hc : am_CX G 14 mX10_cached [.inr (0, 0), .inl p0, .inl p1, .inl p2] I (fun _ _ => False) (fun Ex _ => Ex = "java/lang/IndexOutOfBoundsException")) (hm : am_C G' 15 mX11_cached [.inr (0, 60), .inl p0, .inl p1, .inl p2] J (fun rr J' => rr = r ∧ J' 0 60 0 = nI 2)) : p1S_cached G G' n I J p0 p1 p2 :=
  ⟨_, _, hc, fun Ex _ h => Or.inr (Or.inl h), fun _ _ h => h.elim, fun _ h => absurd h (by decide), fun I' h => am_Cw (fun q J' h => ⟨h.2, Or.inl rfl⟩) hm, fun _ h => absurd h (by decide)⟩
theorem p1E_cached_NS {G G' : am_G} {n : Nat} {I J : am_I} {p0 p1 p2 : Int32} {r : Option Int32} (hc : am_CX G 14 mX10_cached [.inr (0, 0), .inl p0, .inl p1, .inl p2] I (fun _ _ => False) (fun Ex _ => Ex = "java/util/NoSuchElementException")) (hm : am_C G' 15 mX11_cached [.inr (0, 60), .inl p0, .inl p1, .inl p2] J (fun rr J' => rr = r ∧ J' 0 60 0 = nI 3)) : p1S_cached G G' n I J p0 p1 p2 :=
  ⟨_, _, hc, fun Ex _ h => Or.inr (Or.inr (h)), fun _ _ h => h.elim, fun _ h => absurd h (by decide), fun _ h => absurd h (by decide), fun I' h => am_Cw (fun q J' h => ⟨h.2, Or.inl rfl⟩) hm⟩
def p1S_lock (G G' : am_G) (n : Nat) (I J : am_I) (p0 p1 p2 : Int32) : Prop := ∃ (Q : Option Int32 → am_I → Prop) (X : String → am_I → Prop), am_CX G 14 mX10_lock [.inr (0, 0), .inl p0, .inl p1, .inl p2] I Q X ∧ (∀ Ex I', X Ex I' → Ex = "java/lang/IllegalArgumentException") ∧ (∀ (r : Int32) (I' : am_I), Q (some r) I' → am_C G' 15 mX11_lock [.inr (0, 60), .inl p0, .inl p1, .inl p2] J (fun q J' => J' 0 60 0 = nI 0 ∧ q = some r ∧ p1_Inv n 0 I' J')) ∧ (∀ (I' : am_I), X "java/lang/IllegalArgumentException" I' → am_C G' 15 mX11_lock [.inr (0, 60), .inl p0, .inl p1, .inl p2] J (fun _ J' => J' 0 60 0 = nI 1 ∧ p1_Inv n 0 I' J'))
theorem p1R_lock {G G' : am_G} {n : Nat} {I J : am_I} {p0 p1 p2 : Int32} {r : Int32} (hc : am_CX G 14 mX10_lock [.inr (0, 0), .inl p0, .inl p1, .inl p2] I (fun q _ => q = some r) (fun _ _ => False)) (hm : am_C G' 15 mX11_lock [.inr (0, 60), .inl p0, .inl p1, .inl p2] J (fun rr J' => rr = some r ∧ J' 0 60 0 = nI 0)) : p1S_lock G G' n I J p0 p1 p2 := by
  refine ⟨_, _, hc, fun _ _ h => h.elim, fun r' I' h => ?_, fun _ h => h.elim⟩
  cases h
  exact am_Cw (fun q J' h => ⟨h.2, h.1, Or.inl rfl⟩) hm
theorem p1E_lock_IA {G G' : am_G} {n : Nat} {I J : am_I} {p0 p1 p2 : Int32} {r : Option Int32} (hc : am_CX G 14 mX10_lock [.inr (0, 0), .inl p0, .inl p1, .inl p2] I (fun _ _ => False) (fun Ex _ => Ex = "java/lang/IllegalArgumentException")) (hm : am_C G' 15 mX11_lock [.inr (0, 60), .inl p0, .inl p1, .inl p2] J (fun rr J' => rr = r ∧ J' 0 60 0 = nI 1)) : p1S_lock G G' n I J p0 p1 p2 :=
  ⟨_, _, hc, fun Ex _ h => h, fun _ _ h => h.elim, fun I' h => am_Cw (fun q J' h => ⟨h.2, Or.inl rfl⟩) hm⟩
def p1S_row (G G' : am_G) (n : Nat) (I J : am_I) (p0 p1 : Int32) : Prop := ∃ (Q : Option Int32 → am_I → Prop) (X : String → am_I → Prop), am_CX G 14 mX10_row [.inr (0, 0), .inl p0, .inl p1] I Q X ∧ (∀ Ex I', X Ex I' → Ex = "java/lang/IllegalArgumentException") ∧ (∀ (r : Int32) (I' : am_I), Q (some r) I' → am_C G' 15 mX11_row [.inr (0, 60), .inl p0, .inl p1] J (fun q J' => J' 0 60 0 = nI 0 ∧ q = some r ∧ p1_Inv n 0 I' J')) ∧ (∀ (I' : am_I), X "java/lang/IllegalArgumentException" I' → am_C G' 15 mX11_row [.inr (0, 60), .inl p0, .inl p1] J (fun _ J' => J' 0 60 0 = nI 1 ∧ p1_Inv n 0 I' J'))
theorem p1R_row {G G' : am_G} {n : Nat} {I J : am_I} {p0 p1 : Int32} {r : Int32} (hc : am_CX G 14 mX10_row [.inr (0, 0), .inl p0, .inl p1] I (fun q _ => q = some r) (fun _ _ => False)) (hm : am_C G' 15 mX11_row [.inr (0, 60), .inl p0, .inl p1] J (fun rr J' => rr = some r ∧ J' 0 60 0 = nI 0)) : p1S_row G G' n I J p0 p1 := by
  refine ⟨_, _, hc, fun _ _ h => h.elim, fun r' I' h => ?_, fun _ h => h.elim⟩
  cases h
  exact am_Cw (fun q J' h => ⟨h.2, h.1, Or.inl rfl⟩) hm
theorem p1E_row_IA {G G' : am_G} {n : Nat} {I J : am_I} {p0 p1 : Int32} {r : Option Int32} (hc : am_CX G 14 mX10_row [.inr (0, 0), .inl p0, .inl p1] I (fun _ _ => False) (fun Ex _ => Ex = "java/lang/IllegalArgumentException")) (hm : am_C G' 15 mX11_row [.inr (0, 60), .inl p0, .inl p1] J (fun rr J' => rr = r ∧ J' 0 60 0 = nI 1)) : p1S_row G G' n I J p0 p1 :=
  ⟨_, _, hc, fun Ex _ h => h, fun _ _ h => h.elim, fun I' h => am_Cw (fun q J' h => ⟨h.2, Or.inl rfl⟩) hm⟩
def p1S_message (G G' : am_G) (n : Nat) (I J : am_I) (p0 p1 : Int32) : Prop := ∃ (Q : Option Int32 → am_I → Prop) (X : String → am_I → Prop), am_CX G 14 mX10_message [.inr (0, 0), .inl p0, .inl p1] I Q X ∧ (∀ Ex I', X Ex I' → Ex = "java/lang/IndexOutOfBoundsException" ∨ Ex = "java/lang/IllegalArgumentException") ∧ (∀ (r : Int32) (I' : am_I), Q (some r) I' → am_C G' 15 mX11_message [.inr (0, 60), .inl p0, .inl p1] J (fun q J' => J' 0 60 0 = nI 0 ∧ q = some r ∧ p1_Inv n 0 I' J')) ∧ (∀ (I' : am_I), X "java/lang/IndexOutOfBoundsException" I' → am_C G' 15 mX11_message [.inr (0, 60), .inl p0, .inl p1] J (fun _ J' => J' 0 60 0 = nI 1 ∧ p1_Inv n 0 I' J')) ∧ (∀ (I' : am_I), X "java/lang/IllegalArgumentException" I' → am_C G' 15 mX11_message [.inr (0, 60), .inl p0, .inl p1] J (fun _ J' => J' 0 60 0 = nI 2 ∧ p1_Inv n 0 I' J'))
theorem p1R_message {G G' : am_G} {n : Nat} {I J : am_I} {p0 p1 : Int32} {r : Int32} (hc : am_CX G 14 mX10_message [.inr (0, 0), .inl p0, .inl p1] I (fun q _ => q = some r) (fun _ _ => False)) (hm : am_C G' 15 mX11_message [.inr (0, 60), .inl p0, .inl p1] J (fun rr J' => rr = some r ∧ J' 0 60 0 = nI 0)) : p1S_message G G' n I J p0 p1 := by
  refine ⟨_, _, hc, fun _ _ h => h.elim, fun r' I' h => ?_, fun _ h => h.elim, fun _ h => h.elim⟩
  cases h
  exact am_Cw (fun q J' h => ⟨h.2, h.1, Or.inl rfl⟩) hm
theorem p1E_message_IX {G G' : am_G} {n : Nat} {I J : am_I} {p0 p1 : Int32} {r : Option Int32} (hc : am_CX G 14 mX10_message [.inr (0, 0), .inl p0, .inl p1] I (fun _ _ => False) (fun Ex _ => Ex = "java/lang/IndexOutOfBoundsException")) (hm : am_C G' 15 mX11_message [.inr (0, 60), .inl p0, .inl p1] J (fun rr J' => rr = r ∧ J' 0 60 0 = nI 1)) : p1S_message G G' n I J p0 p1 :=
  ⟨_, _, hc, fun Ex _ h => Or.inl h, fun _ _ h => h.elim, fun I' h => am_Cw (fun q J' h => ⟨h.2, Or.inl rfl⟩) hm, fun _ h => absurd h (by decide)⟩
theorem p1E_message_IA {G G' : am_G} {n : Nat} {I J : am_I} {p0 p1 : Int32} {r : Option Int32} (hc : am_CX G 14 mX10_message [.inr (0, 0), .inl p0, .inl p1] I (fun _ _ => False) (fun Ex _ => Ex = "java/lang/IllegalArgumentException")) (hm : am_C G' 15 mX11_message [.inr (0, 60), .inl p0, .inl p1] J (fun rr J' => rr = r ∧ J' 0 60 0 = nI 2)) : p1S_message G G' n I J p0 p1 :=
  ⟨_, _, hc, fun Ex _ h => Or.inr (h), fun _ _ h => h.elim, fun _ h => absurd h (by decide), fun I' h => am_Cw (fun q J' h => ⟨h.2, Or.inl rfl⟩) hm⟩
def p1S_node (G G' : am_G) (n : Nat) (I J : am_I) (p0 p1 : Int32) : Prop := ∃ (Q : Option Int32 → am_I → Prop) (X : String → am_I → Prop), am_CX G 14 mX10_node [.inr (0, 0), .inl p0, .inl p1] I Q X ∧ (∀ Ex I', X Ex I' → Ex = "java/lang/IllegalArgumentException") ∧ (∀ (r : Int32) (I' : am_I), Q (some r) I' → am_C G' 15 mX11_node [.inr (0, 60), .inl p0, .inl p1] J (fun q J' => J' 0 60 0 = nI 0 ∧ q = some r ∧ p1_Inv n 0 I' J')) ∧ (∀ (I' : am_I), X "java/lang/IllegalArgumentException" I' → am_C G' 15 mX11_node [.inr (0, 60), .inl p0, .inl p1] J (fun _ J' => J' 0 60 0 = nI 1 ∧ p1_Inv n 0 I' J'))
theorem p1R_node {G G' : am_G} {n : Nat} {I J : am_I} {p0 p1 : Int32} {r : Int32} (hc : am_CX G 14 mX10_node [.inr (0, 0), .inl p0, .inl p1] I (fun q _ => q = some r) (fun _ _ => False)) (hm : am_C G' 15 mX11_node [.inr (0, 60), .inl p0, .inl p1] J (fun rr J' => rr = some r ∧ J' 0 60 0 = nI 0)) : p1S_node G G' n I J p0 p1 := by
  refine ⟨_, _, hc, fun _ _ h => h.elim, fun r' I' h => ?_, fun _ h => h.elim⟩
  cases h
  exact am_Cw (fun q J' h => ⟨h.2, h.1, Or.inl rfl⟩) hm
theorem p1E_node_IA {G G' : am_G} {n : Nat} {I J : am_I} {p0 p1 : Int32} {r : Option Int32} (hc : am_CX G 14 mX10_node [.inr (0, 0), .inl p0, .inl p1] I (fun _ _ => False) (fun Ex _ => Ex = "java/lang/IllegalArgumentException")) (hm : am_C G' 15 mX11_node [.inr (0, 60), .inl p0, .inl p1] J (fun rr J' => rr = r ∧ J' 0 60 0 = nI 1)) : p1S_node G G' n I J p0 p1 :=
  ⟨_, _, hc, fun Ex _ h => h, fun _ _ h => h.elim, fun I' h => am_Cw (fun q J' h => ⟨h.2, Or.inl rfl⟩) hm⟩
def p1S_about (G G' : am_G) (n : Nat) (I J : am_I) (p0 : Int32) : Prop := ∃ (Q : Option Int32 → am_I → Prop) (X : String → am_I → Prop), am_CX G 14 mX10_about [.inr (0, 0), .inl p0] I Q X ∧ (∀ Ex I', X Ex I' → Ex = "java/lang/IllegalArgumentException") ∧ (∀ (r : Int32) (I' : am_I), Q (some r) I' → am_C G' 15 mX11_about [.inr (0, 60), .inl p0] J (fun q J' => J' 0 60 0 = nI 0 ∧ q = some r ∧ p1_Inv n 0 I' J')) ∧ (∀ (I' : am_I), X "java/lang/IllegalArgumentException" I' → am_C G' 15 mX11_about [.inr (0, 60), .inl p0] J (fun _ J' => J' 0 60 0 = nI 1 ∧ p1_Inv n 0 I' J'))
theorem p1R_about {G G' : am_G} {n : Nat} {I J : am_I} {p0 : Int32} {r : Int32} (hc : am_CX G 14 mX10_about [.inr (0, 0), .inl p0] I (fun q _ => q = some r) (fun _ _ => False)) (hm : am_C G' 15 mX11_about [.inr (0, 60), .inl p0] J (fun rr J' => rr = some r ∧ J' 0 60 0 = nI 0)) : p1S_about G G' n I J p0 := by
  refine ⟨_, _, hc, fun _ _ h => h.elim, fun r' I' h => ?_, fun _ h => h.elim⟩
  cases h
  exact am_Cw (fun q J' h => ⟨h.2, h.1, Or.inl rfl⟩) hm
theorem p1E_about_IA {G G' : am_G} {n : Nat} {I J : am_I} {p0 : Int32} {r : Option Int32} (hc : am_CX G 14 mX10_about [.inr (0, 0), .inl p0] I (fun _ _ => False) (fun Ex _ => Ex = "java/lang/IllegalArgumentException")) (hm : am_C G' 15 mX11_about [.inr (0, 60), .inl p0] J (fun rr J' => rr = r ∧ J' 0 60 0 = nI 1)) : p1S_about G G' n I J p0 :=
  ⟨_, _, hc, fun Ex _ h => h, fun _ _ h => h.elim, fun I' h => am_Cw (fun q J' h => ⟨h.2, Or.inl rfl⟩) hm⟩
theorem p1_call {n : Nat} {G G' : am_G} (hl : G.1.1.stackTraces = false) (hG : am_ok G) (hG' : am_okM G') (hn : G.2.2.2.1 = n) (hn' : G'.2.2.2.1 = n) : ls_call G G' (p1_Inv n) := by
  intro k I J p0 p1 p2 p3 p4 p5 hI
  obtain ⟨rfl, rfl, rfl⟩ : k = 0 ∧ I = am_fr n ∧ J = am_fr n := by
    rcases hI with h | ⟨h, h2, h3⟩
    · cases h
    · exact ⟨by omega, h2, h3⟩
  have hlo := hG.lo
  have hhi := hG.hi
  subst hn
  show p1S_call G G' _ _ _ p0 p1 p2 p3 p4 p5
  by_cases hx : 0 ≤ p0.toInt ∧ p0.toInt < (G.2.2.2.1 : Int)
  rotate_left
  · exact p1E_call_IA (am_ofX hl rfl (by decide) hG.nd (Nat.le_of_ble_eq_true rfl) (j_callN hG p0 p1 p2 p3 p4 p5 hx (fun _ => ⟨rfl, _, ts_call_22, rfl⟩))) (m_callN hG' p0 p1 p2 p3 p4 p5 (by rw [hn']; exact hx) (show am_fr G.2.2.2.1 = am_fr G'.2.2.2.1 by rw [hn']))
  obtain ⟨i, rfl, hi2, hi3⟩ := p1_nat p0 hx.1
  have hi : i < G.2.2.2.1 := by omega
  have hi' : i < G'.2.2.2.1 := by rw [hn']; exact hi
  by_cases hk : p1.toInt < 0 ∨ 14 < p1.toInt
  · exact p1E_call_IA (am_ofX hl rfl (by decide) hG.nd (Nat.le_of_ble_eq_true rfl) (j_callK hG hi p1 p2 p3 p4 p5 hk (fun _ => ⟨rfl, _, ts_call_22, rfl⟩))) (m_callK hG' hi' p1 p2 p3 p4 p5 hk (show am_fr G.2.2.2.1 = am_fr G'.2.2.2.1 by rw [hn']))
  obtain ⟨q, rfl, hq2, hq3⟩ := p1_nat p1 (by omega)
  have hq : q ≤ 14 := by omega
  match q, hq with
  | 0, _ =>
    by_cases hP : 0 ≤ p2.toInt ∧ p2.toInt < 128 ∧ ¬ p3.toInt = 0
    · obtain ⟨a, rfl, ha2, ha3⟩ := p1_nat p2 hP.1
      have ha : a < 128 := by have := hP.2.1; omega
      exact p1R_call (am_ofX hl rfl (by decide) hG.nd (Nat.le_of_ble_eq_true rfl) (j_call0 hG hi ha p3 p4 p5 rfl hP (fun _ => rfl))) (m_call0 hG' hi' ha p3 p4 p5 hP (show am_fr G.2.2.2.1 = am_fr G'.2.2.2.1 by rw [hn']))
    · exact p1E_call_IA (am_ofX hl rfl (by decide) hG.nd (Nat.le_of_ble_eq_true rfl) (j_callP0 hG hi p2 p3 p4 p5 hP (fun _ => ⟨rfl, _, ts_call_22, rfl⟩))) (m_callP0 hG' hi' p2 p3 p4 p5 hP (show am_fr G.2.2.2.1 = am_fr G'.2.2.2.1 by rw [hn']))
  | 1, _ =>
    by_cases hP : 0 ≤ p2.toInt ∧ p2.toInt < 128 ∧ ¬ p3.toInt = 0 ∧ 1 ≤ p4.toInt ∧ p4.toInt ≤ 2
    · obtain ⟨a, rfl, ha2, ha3⟩ := p1_nat p2 hP.1
      have ha : a < 128 := by have := hP.2.1; omega
      exact p1R_call (am_ofX hl rfl (by decide) hG.nd (Nat.le_of_ble_eq_true rfl) (j_call1 hG hi ha p3 p4 p5 rfl hP (fun _ => rfl))) (m_call1 hG' hi' ha p3 p4 p5 hP (show am_fr G.2.2.2.1 = am_fr G'.2.2.2.1 by rw [hn']))
    · exact p1E_call_IA (am_ofX hl rfl (by decide) hG.nd (Nat.le_of_ble_eq_true rfl) (j_callP1 hG hi p2 p3 p4 p5 hP (fun _ => ⟨rfl, _, ts_call_22, rfl⟩))) (m_callP1 hG' hi' p2 p3 p4 p5 hP (show am_fr G.2.2.2.1 = am_fr G'.2.2.2.1 by rw [hn']))
  | 2, _ =>
    by_cases hP : 0 ≤ p2.toInt ∧ p2.toInt < 128 ∧ ¬ p3.toInt = 0
    · obtain ⟨a, rfl, ha2, ha3⟩ := p1_nat p2 hP.1
      have ha : a < 128 := by have := hP.2.1; omega
      exact p1R_call (am_ofX hl rfl (by decide) hG.nd (Nat.le_of_ble_eq_true rfl) (j_call2 hG hi ha p3 p4 p5 rfl hP (fun _ => rfl))) (m_call2 hG' hi' ha p3 p4 p5 hP (show am_fr G.2.2.2.1 = am_fr G'.2.2.2.1 by rw [hn']))
    · exact p1E_call_IA (am_ofX hl rfl (by decide) hG.nd (Nat.le_of_ble_eq_true rfl) (j_callP2 hG hi p2 p3 p4 p5 hP (fun _ => ⟨rfl, _, ts_call_22, rfl⟩))) (m_callP2 hG' hi' p2 p3 p4 p5 hP (show am_fr G.2.2.2.1 = am_fr G'.2.2.2.1 by rw [hn']))
  | 3, _ =>
    by_cases hP : 0 ≤ p2.toInt ∧ p2.toInt < 128 ∧ ¬ p3.toInt = 0 ∧ 0 ≤ p4.toInt ∧ p4.toInt < 128
    · obtain ⟨a, rfl, ha2, ha3⟩ := p1_nat p2 hP.1
      have ha : a < 128 := by have := hP.2.1; omega
      exact p1R_call (am_ofX hl rfl (by decide) hG.nd (Nat.le_of_ble_eq_true rfl) (j_call3 hG hi ha p3 p4 p5 rfl hP (fun _ => rfl))) (m_call3 hG' hi' ha p3 p4 p5 hP (show am_fr G.2.2.2.1 = am_fr G'.2.2.2.1 by rw [hn']))
    · exact p1E_call_IA (am_ofX hl rfl (by decide) hG.nd (Nat.le_of_ble_eq_true rfl) (j_callP3 hG hi p2 p3 p4 p5 hP (fun _ => ⟨rfl, _, ts_call_22, rfl⟩))) (m_callP3 hG' hi' p2 p3 p4 p5 hP (show am_fr G.2.2.2.1 = am_fr G'.2.2.2.1 by rw [hn']))
  | 4, _ =>
    by_cases hP : 0 ≤ p2.toInt ∧ p2.toInt < 128 ∧ ¬ p3.toInt = 0 ∧ 0 ≤ p4.toInt ∧ p4.toInt < 128 ∧ ¬ p5.toInt = 0
    · obtain ⟨a, rfl, ha2, ha3⟩ := p1_nat p2 hP.1
      have ha : a < 128 := by have := hP.2.1; omega
      exact p1R_call (am_ofX hl rfl (by decide) hG.nd (Nat.le_of_ble_eq_true rfl) (j_call4 hG hi ha p3 p4 p5 rfl hP (fun _ => rfl))) (m_call4 hG' hi' ha p3 p4 p5 hP (show am_fr G.2.2.2.1 = am_fr G'.2.2.2.1 by rw [hn']))
    · exact p1E_call_IA (am_ofX hl rfl (by decide) hG.nd (Nat.le_of_ble_eq_true rfl) (j_callP4 hG hi p2 p3 p4 p5 hP (fun _ => ⟨rfl, _, ts_call_22, rfl⟩))) (m_callP4 hG' hi' p2 p3 p4 p5 hP (show am_fr G.2.2.2.1 = am_fr G'.2.2.2.1 by rw [hn']))
  | 5, _ =>
    by_cases hP : 0 ≤ p2.toInt ∧ p2.toInt < 128 ∧ 0 ≤ p3.toInt ∧ p3.toInt < 384
    · obtain ⟨a, rfl, ha2, ha3⟩ := p1_nat p2 hP.1
      have ha : a < 128 := by have := hP.2.1; omega
      exact p1R_call (am_ofX hl rfl (by decide) hG.nd (Nat.le_of_ble_eq_true rfl) (j_call5 hG hi ha p3 p4 p5 rfl hP (fun _ => rfl))) (m_call5 hG' hi' ha p3 p4 p5 hP (show am_fr G.2.2.2.1 = am_fr G'.2.2.2.1 by rw [hn']))
    · exact p1E_call_IA (am_ofX hl rfl (by decide) hG.nd (Nat.le_of_ble_eq_true rfl) (j_callP5 hG hi p2 p3 p4 p5 hP (fun _ => ⟨rfl, _, ts_call_22, rfl⟩))) (m_callP5 hG' hi' p2 p3 p4 p5 hP (show am_fr G.2.2.2.1 = am_fr G'.2.2.2.1 by rw [hn']))
  | 6, _ =>
    by_cases hP : 0 ≤ p2.toInt ∧ p2.toInt < 128 ∧ 0 ≤ p3.toInt ∧ p3.toInt < 384
    · obtain ⟨a, rfl, ha2, ha3⟩ := p1_nat p2 hP.1
      have ha : a < 128 := by have := hP.2.1; omega
      exact p1R_call (am_ofX hl rfl (by decide) hG.nd (Nat.le_of_ble_eq_true rfl) (j_call6 hG hi ha p3 p4 p5 rfl hP (fun _ => rfl))) (m_call6 hG' hi' ha p3 p4 p5 hP (show am_fr G.2.2.2.1 = am_fr G'.2.2.2.1 by rw [hn']))
    · exact p1E_call_IA (am_ofX hl rfl (by decide) hG.nd (Nat.le_of_ble_eq_true rfl) (j_callP6 hG hi p2 p3 p4 p5 hP (fun _ => ⟨rfl, _, ts_call_22, rfl⟩))) (m_callP6 hG' hi' p2 p3 p4 p5 hP (show am_fr G.2.2.2.1 = am_fr G'.2.2.2.1 by rw [hn']))
  | 7, _ =>
    by_cases hP : 0 ≤ p2.toInt ∧ p2.toInt < 128 ∧ 0 ≤ p3.toInt ∧ p3.toInt ≤ 384
    · obtain ⟨a, rfl, ha2, ha3⟩ := p1_nat p2 hP.1
      have ha : a < 128 := by have := hP.2.1; omega
      exact p1R_call (am_ofX hl rfl (by decide) hG.nd (Nat.le_of_ble_eq_true rfl) (j_call7 hG hi ha p3 p4 p5 rfl hP (fun _ => rfl))) (m_call7 hG' hi' ha p3 p4 p5 hP (show am_fr G.2.2.2.1 = am_fr G'.2.2.2.1 by rw [hn']))
    · exact p1E_call_IA (am_ofX hl rfl (by decide) hG.nd (Nat.le_of_ble_eq_true rfl) (j_callP7 hG hi p2 p3 p4 p5 hP (fun _ => ⟨rfl, _, ts_call_22, rfl⟩))) (m_callP7 hG' hi' p2 p3 p4 p5 hP (show am_fr G.2.2.2.1 = am_fr G'.2.2.2.1 by rw [hn']))
  | 8, _ =>
    by_cases hP : 0 ≤ p2.toInt ∧ p2.toInt < 128 ∧ 0 ≤ p3.toInt ∧ p3.toInt < 192
    · obtain ⟨a, rfl, ha2, ha3⟩ := p1_nat p2 hP.1
      have ha : a < 128 := by have := hP.2.1; omega
      exact p1R_call (am_ofX hl rfl (by decide) hG.nd (Nat.le_of_ble_eq_true rfl) (j_call8 hG hi ha p3 p4 p5 rfl hP (fun _ => rfl))) (m_call8 hG' hi' ha p3 p4 p5 hP (show am_fr G.2.2.2.1 = am_fr G'.2.2.2.1 by rw [hn']))
    · exact p1E_call_IA (am_ofX hl rfl (by decide) hG.nd (Nat.le_of_ble_eq_true rfl) (j_callP8 hG hi p2 p3 p4 p5 hP (fun _ => ⟨rfl, _, ts_call_22, rfl⟩))) (m_callP8 hG' hi' p2 p3 p4 p5 hP (show am_fr G.2.2.2.1 = am_fr G'.2.2.2.1 by rw [hn']))
  | 9, _ =>
    by_cases hP : 0 ≤ p2.toInt ∧ p2.toInt < 128 ∧ 0 ≤ p3.toInt ∧ p3.toInt ≤ 3
    · obtain ⟨a, rfl, ha2, ha3⟩ := p1_nat p2 hP.1
      have ha : a < 128 := by have := hP.2.1; omega
      exact p1R_call (am_ofX hl rfl (by decide) hG.nd (Nat.le_of_ble_eq_true rfl) (j_call9 hG hi ha p3 p4 p5 rfl hP (fun _ => rfl))) (m_call9 hG' hi' ha p3 p4 p5 hP (show am_fr G.2.2.2.1 = am_fr G'.2.2.2.1 by rw [hn']))
    · exact p1E_call_IA (am_ofX hl rfl (by decide) hG.nd (Nat.le_of_ble_eq_true rfl) (j_callP9 hG hi p2 p3 p4 p5 hP (fun _ => ⟨rfl, _, ts_call_22, rfl⟩))) (m_callP9 hG' hi' p2 p3 p4 p5 hP (show am_fr G.2.2.2.1 = am_fr G'.2.2.2.1 by rw [hn']))
  | 10, _ => exact p1R_call (am_ofX hl rfl (by decide) hG.nd (Nat.le_of_ble_eq_true rfl) (j_call10 hG hi p2 p3 p4 p5 rfl trivial (fun _ => rfl))) (m_call10 hG' hi' p2 p3 p4 p5 trivial (show am_fr G.2.2.2.1 = am_fr G'.2.2.2.1 by rw [hn']))
  | 11, _ =>
    by_cases hP : 0 ≤ p2.toInt ∧ p2.toInt < 128 ∧ 0 ≤ p3.toInt ∧ p3.toInt < 384
    · obtain ⟨a, rfl, ha2, ha3⟩ := p1_nat p2 hP.1
      have ha : a < 128 := by have := hP.2.1; omega
      exact p1R_call (am_ofX hl rfl (by decide) hG.nd (Nat.le_of_ble_eq_true rfl) (j_call11 hG hi ha p3 p4 p5 rfl hP (fun _ => rfl))) (m_call11 hG' hi' ha p3 p4 p5 hP (show am_fr G.2.2.2.1 = am_fr G'.2.2.2.1 by rw [hn']))
    · exact p1E_call_IA (am_ofX hl rfl (by decide) hG.nd (Nat.le_of_ble_eq_true rfl) (j_callP11 hG hi p2 p3 p4 p5 hP (fun _ => ⟨rfl, _, ts_call_22, rfl⟩))) (m_callP11 hG' hi' p2 p3 p4 p5 hP (show am_fr G.2.2.2.1 = am_fr G'.2.2.2.1 by rw [hn']))
  | 12, _ =>
    by_cases hP : 0 ≤ p2.toInt ∧ p2.toInt < 128
    · obtain ⟨a, rfl, ha2, ha3⟩ := p1_nat p2 hP.1
      have ha : a < 128 := by have := hP.2; omega
      exact p1R_call (am_ofX hl rfl (by decide) hG.nd (Nat.le_of_ble_eq_true rfl) (j_call12 hG hi ha p3 p4 p5 rfl hP (fun _ => rfl))) (m_call12 hG' hi' ha p3 p4 p5 hP (show am_fr G.2.2.2.1 = am_fr G'.2.2.2.1 by rw [hn']))
    · exact p1E_call_IA (am_ofX hl rfl (by decide) hG.nd (Nat.le_of_ble_eq_true rfl) (j_callP12 hG hi p2 p3 p4 p5 hP (fun _ => ⟨rfl, _, ts_call_22, rfl⟩))) (m_callP12 hG' hi' p2 p3 p4 p5 hP (show am_fr G.2.2.2.1 = am_fr G'.2.2.2.1 by rw [hn']))
  | 13, _ =>
    by_cases hP : 0 ≤ p2.toInt ∧ p2.toInt < 128
    · obtain ⟨a, rfl, ha2, ha3⟩ := p1_nat p2 hP.1
      have ha : a < 128 := by have := hP.2; omega
      exact p1R_call (am_ofX hl rfl (by decide) hG.nd (Nat.le_of_ble_eq_true rfl) (j_call13 hG hi ha p3 p4 p5 rfl hP (fun _ => rfl))) (m_call13 hG' hi' ha p3 p4 p5 hP (show am_fr G.2.2.2.1 = am_fr G'.2.2.2.1 by rw [hn']))
    · exact p1E_call_IA (am_ofX hl rfl (by decide) hG.nd (Nat.le_of_ble_eq_true rfl) (j_callP13 hG hi p2 p3 p4 p5 hP (fun _ => ⟨rfl, _, ts_call_22, rfl⟩))) (m_callP13 hG' hi' p2 p3 p4 p5 hP (show am_fr G.2.2.2.1 = am_fr G'.2.2.2.1 by rw [hn']))
  | 14, _ => exact p1R_call (am_ofX hl rfl (by decide) hG.nd (Nat.le_of_ble_eq_true rfl) (j_call14 hG hi p2 p3 p4 p5 rfl trivial (fun _ => rfl))) (m_call14 hG' hi' p2 p3 p4 p5 trivial (show am_fr G.2.2.2.1 = am_fr G'.2.2.2.1 by rw [hn']))
  | q + 15, h => exact absurd h (by omega)
theorem p1_delay {n : Nat} {G G' : am_G} (hl : G.1.1.stackTraces = false) (hG : am_ok G) (hG' : am_okM G') (hn : G.2.2.2.1 = n) (hn' : G'.2.2.2.1 = n) : ls_delay G G' (p1_Inv n) := by
  intro k I J p0 p1 p2 hI
  obtain ⟨rfl, rfl, rfl⟩ : k = 0 ∧ I = am_fr n ∧ J = am_fr n := by
    rcases hI with h | ⟨h, h2, h3⟩
    · cases h
    · exact ⟨by omega, h2, h3⟩
  have hlo := hG.lo
  have hhi := hG.hi
  subst hn
  show p1S_delay G G' _ _ _ p0 p1 p2
  by_cases hx : 0 ≤ p0.toInt ∧ p0.toInt < (G.2.2.2.1 : Int)
  rotate_left
  · exact p1E_delay_IA (am_ofX hl rfl (by decide) hG.nd (Nat.le_of_ble_eq_true rfl) (j_delayA hG p0 hx p1 p2 rfl (fun _ => ⟨rfl, _, ts_delay_27, rfl⟩))) (m_delayA hG' p0 (by rw [hn']; exact hx) p1 p2 (show am_fr G.2.2.2.1 = am_fr G'.2.2.2.1 by rw [hn']))
  obtain ⟨i, rfl, hi2, hi3⟩ := p1_nat p0 hx.1
  have hi : i < G.2.2.2.1 := by omega
  have hi' : i < G'.2.2.2.1 := by rw [hn']; exact hi
  by_cases hy : 0 ≤ p1.toInt ∧ p1.toInt < (G.2.2.2.1 : Int)
  rotate_left
  · exact p1E_delay_IA (am_ofX hl rfl (by decide) hG.nd (Nat.le_of_ble_eq_true rfl) (j_delayB hG hi p1 hy p2 rfl (fun _ => ⟨rfl, _, ts_delay_27, rfl⟩))) (m_delayB hG' hi' p1 (by rw [hn']; exact hy) p2 (show am_fr G.2.2.2.1 = am_fr G'.2.2.2.1 by rw [hn']))
  obtain ⟨u, rfl, hu2, hu3⟩ := p1_nat p1 hy.1
  have hu : u < G.2.2.2.1 := by omega
  have hu' : u < G'.2.2.2.1 := by rw [hn']; exact hu
  by_cases ht : 1 ≤ p2.toInt ∧ p2.toInt ≤ 20
  · exact p1R_delay (am_ofX hl rfl (by decide) hG.nd (Nat.le_of_ble_eq_true rfl) (j_delay hG hi hu p2 ht rfl (fun _ => rfl))) (m_delay hG' hi' hu' p2 ht (show am_fr G.2.2.2.1 = am_fr G'.2.2.2.1 by rw [hn']))
  · exact p1E_delay_IA (am_ofX hl rfl (by decide) hG.nd (Nat.le_of_ble_eq_true rfl) (j_delayC hG hi hu p2 ht rfl (fun _ => ⟨rfl, _, ts_delay_27, rfl⟩))) (m_delayC hG' hi' hu' p2 ht (show am_fr G.2.2.2.1 = am_fr G'.2.2.2.1 by rw [hn']))
theorem p1_tick {n : Nat} {G G' : am_G} (hl : G.1.1.stackTraces = false) (hG : am_ok G) (hG' : am_okM G') (hn : G.2.2.2.1 = n) (hn' : G'.2.2.2.1 = n) : ls_tick G G' (p1_Inv n) := by
  intro k I J p0 hI
  obtain ⟨rfl, rfl, rfl⟩ : k = 0 ∧ I = am_fr n ∧ J = am_fr n := by
    rcases hI with h | ⟨h, h2, h3⟩
    · cases h
    · exact ⟨by omega, h2, h3⟩
  have hlo := hG.lo
  have hhi := hG.hi
  subst hn
  show p1S_tick G G' _ _ _ p0
  by_cases hw : p0.toInt < 0 ∨ 100 < p0.toInt
  · exact p1E_tick_IA (am_ofX hl rfl (by decide) hG.nd (Nat.le_of_ble_eq_true rfl) (j_tickA hG p0 hw rfl (fun _ => ⟨rfl, _, ts_tick_10, rfl⟩))) (m_tickA hG' p0 hw (show am_fr G.2.2.2.1 = am_fr G'.2.2.2.1 by rw [hn']))
  obtain ⟨t, rfl, ht2, ht3⟩ := p1_nat p0 (by omega)
  exact p1R_tick (am_ofX hl rfl (by decide) hG.nd (Nat.le_of_ble_eq_true rfl) (j_tick hG (t := t) (by omega) rfl (fun _ => rfl))) (m_tick hG' (by omega) (show am_fr G.2.2.2.1 = am_fr G'.2.2.2.1 by rw [hn']))
theorem p1_crash {n : Nat} {G G' : am_G} (hl : G.1.1.stackTraces = false) (hG : am_ok G) (hG' : am_okM G') (hn : G.2.2.2.1 = n) (hn' : G'.2.2.2.1 = n) : ls_crash G G' (p1_Inv n) := by
  intro k I J p0 p1 hI
  obtain ⟨rfl, rfl, rfl⟩ : k = 0 ∧ I = am_fr n ∧ J = am_fr n := by
    rcases hI with h | ⟨h, h2, h3⟩
    · cases h
    · exact ⟨by omega, h2, h3⟩
  have hlo := hG.lo
  have hhi := hG.hi
  subst hn
  show p1S_crash G G' _ _ _ p0 p1
  by_cases hx : 0 ≤ p0.toInt ∧ p0.toInt < (G.2.2.2.1 : Int)
  rotate_left
  · exact p1E_crash_IA (am_ofX hl rfl (by decide) hG.nd (Nat.le_of_ble_eq_true rfl) (j_crashA hG p0 hx p1 rfl (fun _ => ⟨rfl, _, ts_crash_18, rfl⟩))) (m_crashA hG' p0 (by rw [hn']; exact hx) p1 (show am_fr G.2.2.2.1 = am_fr G'.2.2.2.1 by rw [hn']))
  obtain ⟨i, rfl, hi2, hi3⟩ := p1_nat p0 hx.1
  have hi : i < G.2.2.2.1 := by omega
  have hi' : i < G'.2.2.2.1 := by rw [hn']; exact hi
  by_cases hw : p1.toInt < 0 ∨ 15 < p1.toInt
  · exact p1E_crash_IA (am_ofX hl rfl (by decide) hG.nd (Nat.le_of_ble_eq_true rfl) (j_crashB hG hi p1 hw rfl (fun _ => ⟨rfl, _, ts_crash_18, rfl⟩))) (m_crashB hG' hi' p1 hw (show am_fr G.2.2.2.1 = am_fr G'.2.2.2.1 by rw [hn']))
  exact p1R_crash (am_ofX hl rfl (by decide) hG.nd (Nat.le_of_ble_eq_true rfl) (j_crash hG hi p1 (by omega) rfl (fun _ => rfl))) (m_crash hG' hi' p1 (by omega) (show am_fr G.2.2.2.1 = am_fr G'.2.2.2.1 by rw [hn']))
theorem p1_recover {n : Nat} {G G' : am_G} (hl : G.1.1.stackTraces = false) (hG : am_ok G) (hG' : am_okM G') (hn : G.2.2.2.1 = n) (hn' : G'.2.2.2.1 = n) : ls_recover G G' (p1_Inv n) := by
  intro k I J p0 hI
  obtain ⟨rfl, rfl, rfl⟩ : k = 0 ∧ I = am_fr n ∧ J = am_fr n := by
    rcases hI with h | ⟨h, h2, h3⟩
    · cases h
    · exact ⟨by omega, h2, h3⟩
  have hlo := hG.lo
  have hhi := hG.hi
  subst hn
  show p1S_recover G G' _ _ _ p0
  by_cases hx : 0 ≤ p0.toInt ∧ p0.toInt < (G.2.2.2.1 : Int)
  rotate_left
  · exact p1E_recover_IA (am_ofX hl rfl (by decide) hG.nd (Nat.le_of_ble_eq_true rfl) (j_recoverA hG p0 hx rfl (fun _ => ⟨rfl, _, ts_recover_8, rfl⟩))) (m_recoverA hG' p0 (by rw [hn']; exact hx) (show am_fr G.2.2.2.1 = am_fr G'.2.2.2.1 by rw [hn']))
  obtain ⟨i, rfl, hi2, hi3⟩ := p1_nat p0 hx.1
  have hi : i < G.2.2.2.1 := by omega
  have hi' : i < G'.2.2.2.1 := by rw [hn']; exact hi
  exact p1E_recover_IS (am_ofX hl rfl (by decide) hG.nd (Nat.le_of_ble_eq_true rfl) (j_recoverB hG hi rfl (fun _ => ⟨rfl, _, ts_recover_42, rfl⟩))) (m_recoverB hG' hi' (show am_fr G.2.2.2.1 = am_fr G'.2.2.2.1 by rw [hn']))
theorem p1_start {n : Nat} {G G' : am_G} (hl : G.1.1.stackTraces = false) (hG : am_ok G) (hG' : am_okM G') (hn : G.2.2.2.1 = n) (hn' : G'.2.2.2.1 = n) : ls_start G G' (p1_Inv n) := by
  intro k I J p0 hI
  obtain ⟨rfl, rfl, rfl⟩ : k = 0 ∧ I = am_fr n ∧ J = am_fr n := by
    rcases hI with h | ⟨h, h2, h3⟩
    · cases h
    · exact ⟨by omega, h2, h3⟩
  have hlo := hG.lo
  have hhi := hG.hi
  subst hn
  show p1S_start G G' _ _ _ p0
  by_cases hx : 0 ≤ p0.toInt ∧ p0.toInt < (G.2.2.2.1 : Int)
  rotate_left
  · exact p1E_start_IA (am_ofX hl rfl (by decide) hG.nd (Nat.le_of_ble_eq_true rfl) (j_startA hG p0 hx rfl (fun _ => ⟨rfl, _, ts_start_8, rfl⟩))) (m_startA hG' p0 (by rw [hn']; exact hx) (show am_fr G.2.2.2.1 = am_fr G'.2.2.2.1 by rw [hn']))
  obtain ⟨i, rfl, hi2, hi3⟩ := p1_nat p0 hx.1
  have hi : i < G.2.2.2.1 := by omega
  have hi' : i < G'.2.2.2.1 := by rw [hn']; exact hi
  exact p1E_start_IS (am_ofX hl rfl (by decide) hG.nd (Nat.le_of_ble_eq_true rfl) (j_startB hG hi rfl (fun _ => ⟨rfl, _, ts_start_46, rfl⟩))) (m_startB hG' hi' (show am_fr G.2.2.2.1 = am_fr G'.2.2.2.1 by rw [hn']))
theorem p1_result {n : Nat} {G G' : am_G} (hl : G.1.1.stackTraces = false) (hG : am_ok G) (hG' : am_okM G') (hn : G.2.2.2.1 = n) (hn' : G'.2.2.2.1 = n) : ls_result G G' (p1_Inv n) := by
  intro k I J p0 p1 hI
  obtain ⟨rfl, rfl, rfl⟩ : k = 0 ∧ I = am_fr n ∧ J = am_fr n := by
    rcases hI with h | ⟨h, h2, h3⟩
    · cases h
    · exact ⟨by omega, h2, h3⟩
  have hlo := hG.lo
  have hhi := hG.hi
  subst hn
  show p1S_result G G' _ _ _ p0 p1
  by_cases hx : 0 ≤ p0.toInt ∧ p0.toInt < (G.2.2.2.1 : Int)
  rotate_left
  · exact p1E_result_IA (am_ofX hl rfl (by decide) hG.nd (Nat.le_of_ble_eq_true rfl) (j_resultA hG p0 hx p1 rfl (fun _ => ⟨rfl, _, ts_result_17, rfl⟩))) (m_resultA hG' p0 (by rw [hn']; exact hx) p1 (show am_fr G.2.2.2.1 = am_fr G'.2.2.2.1 by rw [hn']))
  obtain ⟨i, rfl, hi2, hi3⟩ := p1_nat p0 hx.1
  have hi : i < G.2.2.2.1 := by omega
  have hi' : i < G'.2.2.2.1 := by rw [hn']; exact hi
  by_cases hw : p1.toInt < 0 ∨ 4 < p1.toInt
  · exact p1E_result_IA (am_ofX hl rfl (by decide) hG.nd (Nat.le_of_ble_eq_true rfl) (j_resultB hG hi p1 hw rfl (fun _ => ⟨rfl, _, ts_result_17, rfl⟩))) (m_resultB hG' hi' p1 hw (show am_fr G.2.2.2.1 = am_fr G'.2.2.2.1 by rw [hn']))
  obtain ⟨q, rfl, hq2, hq3⟩ := p1_nat p1 (by omega)
  have hq : q ≤ 4 := by omega
  match q, hq with
  | 0, _ => exact p1R_result (am_ofX hl rfl (by decide) hG.nd (Nat.le_of_ble_eq_true rfl) (j_result0 hG hi rfl (fun _ => rfl))) (m_result0 hG' hi' (show am_fr G.2.2.2.1 = am_fr G'.2.2.2.1 by rw [hn']))
  | 1, _ => exact p1R_result (am_ofX hl rfl (by decide) hG.nd (Nat.le_of_ble_eq_true rfl) (j_result1 hG hi rfl (fun _ => rfl))) (m_result1 hG' hi' (show am_fr G.2.2.2.1 = am_fr G'.2.2.2.1 by rw [hn']))
  | 2, _ => exact p1R_result (am_ofX hl rfl (by decide) hG.nd (Nat.le_of_ble_eq_true rfl) (j_result2 hG hi rfl (fun _ => rfl))) (m_result2 hG' hi' (show am_fr G.2.2.2.1 = am_fr G'.2.2.2.1 by rw [hn']))
  | 3, _ => exact p1R_result (am_ofX hl rfl (by decide) hG.nd (Nat.le_of_ble_eq_true rfl) (j_result3 hG hi rfl (fun _ => rfl))) (m_result3 hG' hi' (show am_fr G.2.2.2.1 = am_fr G'.2.2.2.1 by rw [hn']))
  | 4, _ => exact p1R_result (am_ofX hl rfl (by decide) hG.nd (Nat.le_of_ble_eq_true rfl) (j_result4 hG hi rfl (fun _ => rfl))) (m_result4 hG' hi' (show am_fr G.2.2.2.1 = am_fr G'.2.2.2.1 by rw [hn']))
  | q + 5, h => exact absurd h (by omega)
theorem p1_history {n : Nat} {G G' : am_G} (hl : G.1.1.stackTraces = false) (hG : am_ok G) (hG' : am_okM G') (hn : G.2.2.2.1 = n) (hn' : G'.2.2.2.1 = n) : ls_history G G' (p1_Inv n) := by
  intro k I J p0 p1 hI
  obtain ⟨rfl, rfl, rfl⟩ : k = 0 ∧ I = am_fr n ∧ J = am_fr n := by
    rcases hI with h | ⟨h, h2, h3⟩
    · cases h
    · exact ⟨by omega, h2, h3⟩
  have hlo := hG.lo
  have hhi := hG.hi
  subst hn
  show p1S_history G G' _ _ _ p0 p1
  exact p1E_history_IX (am_ofX hl rfl (by decide) hG.nd (Nat.le_of_ble_eq_true rfl) (j_history hG p0 p1 rfl (fun _ => ⟨rfl, _, ts_history_15, rfl⟩))) (m_history hG' p0 p1 (show am_fr G.2.2.2.1 = am_fr G'.2.2.2.1 by rw [hn']))
theorem p1_message {n : Nat} {G G' : am_G} (hl : G.1.1.stackTraces = false) (hG : am_ok G) (hG' : am_okM G') (hn : G.2.2.2.1 = n) (hn' : G'.2.2.2.1 = n) : ls_message G G' (p1_Inv n) := by
  intro k I J p0 p1 hI
  obtain ⟨rfl, rfl, rfl⟩ : k = 0 ∧ I = am_fr n ∧ J = am_fr n := by
    rcases hI with h | ⟨h, h2, h3⟩
    · cases h
    · exact ⟨by omega, h2, h3⟩
  have hlo := hG.lo
  have hhi := hG.hi
  subst hn
  show p1S_message G G' _ _ _ p0 p1
  exact p1E_message_IX (am_ofX hl rfl (by decide) hG.nd (Nat.le_of_ble_eq_true rfl) (j_message hG p0 p1 rfl (fun _ => ⟨rfl, _, ts_message_15, rfl⟩))) (m_message hG' p0 p1 (show am_fr G.2.2.2.1 = am_fr G'.2.2.2.1 by rw [hn']))
theorem p1_word {n : Nat} {G G' : am_G} (hl : G.1.1.stackTraces = false) (hG : am_ok G) (hG' : am_okM G') (hn : G.2.2.2.1 = n) (hn' : G'.2.2.2.1 = n) : ls_word G G' (p1_Inv n) := by
  intro k I J p0 p1 hI
  obtain ⟨rfl, rfl, rfl⟩ : k = 0 ∧ I = am_fr n ∧ J = am_fr n := by
    rcases hI with h | ⟨h, h2, h3⟩
    · cases h
    · exact ⟨by omega, h2, h3⟩
  have hlo := hG.lo
  have hhi := hG.hi
  subst hn
  show p1S_word G G' _ _ _ p0 p1
  by_cases hy : 0 ≤ p0.toInt ∧ p0.toInt < 640 ∧ 0 ≤ p1.toInt ∧ p1.toInt < 16
  rotate_left
  · exact p1E_word_IX (am_ofX hl rfl (by decide) hG.nd (Nat.le_of_ble_eq_true rfl) (j_wordA hG p0 p1 hy rfl (fun _ => ⟨rfl, _, ts_word_8, rfl⟩))) (m_wordA hG' p0 p1 hy (show am_fr G.2.2.2.1 = am_fr G'.2.2.2.1 by rw [hn']))
  obtain ⟨b, rfl, hb2, hb3⟩ := p1_nat p0 hy.1
  obtain ⟨k, rfl, hk2, hk3⟩ := p1_nat p1 hy.2.2.1
  have hm := m_word hG' (d := 12) (b := b) (k := k) (by omega) (by omega) (show am_fr G.2.2.2.1 = am_fr G'.2.2.2.1 by rw [hn'])
  rw [hn', show 16 * b + k = b * 16 + k by omega] at hm
  exact p1R_word (am_ofX hl rfl (by decide) hG.nd (Nat.le_of_ble_eq_true rfl) (j_word hG (b := b) (k := k) (by omega) (by omega) rfl (fun _ => rfl))) hm
theorem p1_cached {n : Nat} {G G' : am_G} (hl : G.1.1.stackTraces = false) (hG : am_ok G) (hG' : am_okM G') (hn : G.2.2.2.1 = n) (hn' : G'.2.2.2.1 = n) : ls_cached G G' (p1_Inv n) := by
  intro k I J p0 p1 p2 hI
  obtain ⟨rfl, rfl, rfl⟩ : k = 0 ∧ I = am_fr n ∧ J = am_fr n := by
    rcases hI with h | ⟨h, h2, h3⟩
    · cases h
    · exact ⟨by omega, h2, h3⟩
  have hlo := hG.lo
  have hhi := hG.hi
  subst hn
  show p1S_cached G G' _ _ _ p0 p1 p2
  by_cases hx : 0 ≤ p0.toInt ∧ p0.toInt < (G.2.2.2.1 : Int)
  rotate_left
  · by_cases hy : 0 ≤ p1.toInt ∧ p1.toInt < 640 ∧ 0 ≤ p2.toInt ∧ p2.toInt < 16
    · obtain ⟨b, rfl, hb2, hb3⟩ := p1_nat p1 hy.1
      obtain ⟨k, rfl, hk2, hk3⟩ := p1_nat p2 hy.2.2.1
      exact p1E_cached_IA (am_ofX hl rfl (by decide) hG.nd (Nat.le_of_ble_eq_true rfl) (j_cachedA hG p0 hx (nI b) (nI k) rfl (fun _ => ⟨rfl, _, ts_cached_8, rfl⟩))) (m_cachedA2 hG' p0 (by rw [hn']; exact hx) (by omega) (by omega) (show am_fr G.2.2.2.1 = am_fr G'.2.2.2.1 by rw [hn']))
    · exact p1E_cached_IA (am_ofX hl rfl (by decide) hG.nd (Nat.le_of_ble_eq_true rfl) (j_cachedA hG p0 hx p1 p2 rfl (fun _ => ⟨rfl, _, ts_cached_8, rfl⟩))) (m_cachedA hG' p0 (by rw [hn']; exact hx) p1 p2 hy (show am_fr G.2.2.2.1 = am_fr G'.2.2.2.1 by rw [hn']))
  obtain ⟨i, rfl, hi2, hi3⟩ := p1_nat p0 hx.1
  have hi : i < G.2.2.2.1 := by omega
  have hi' : i < G'.2.2.2.1 := by rw [hn']; exact hi
  by_cases hy : 0 ≤ p1.toInt ∧ p1.toInt < 640 ∧ 0 ≤ p2.toInt ∧ p2.toInt < 16
  rotate_left
  · exact p1E_cached_IX (am_ofX hl rfl (by decide) hG.nd (Nat.le_of_ble_eq_true rfl) (j_cachedB hG hi p1 p2 hy rfl (fun _ => ⟨rfl, _, ts_cached_26, rfl⟩))) (m_cachedB hG' hi' p1 p2 hy (show am_fr G.2.2.2.1 = am_fr G'.2.2.2.1 by rw [hn']))
  obtain ⟨b, rfl, hb2, hb3⟩ := p1_nat p1 hy.1
  obtain ⟨k, rfl, hk2, hk3⟩ := p1_nat p2 hy.2.2.1
  exact p1E_cached_NS (am_ofX hl rfl (by decide) hG.nd (Nat.le_of_ble_eq_true rfl) (j_cachedC hG hi (b := b) (k := k) (by omega) (by omega) rfl (fun _ => ⟨rfl, _, ts_cached_57, rfl⟩))) (m_cachedC hG' hi' (by omega) (by omega) (show am_fr G.2.2.2.1 = am_fr G'.2.2.2.1 by rw [hn']))
theorem p1_lock {n : Nat} {G G' : am_G} (hl : G.1.1.stackTraces = false) (hG : am_ok G) (hG' : am_okM G') (hn : G.2.2.2.1 = n) (hn' : G'.2.2.2.1 = n) : ls_lock G G' (p1_Inv n) := by
  intro k I J p0 p1 p2 hI
  obtain ⟨rfl, rfl, rfl⟩ : k = 0 ∧ I = am_fr n ∧ J = am_fr n := by
    rcases hI with h | ⟨h, h2, h3⟩
    · cases h
    · exact ⟨by omega, h2, h3⟩
  have hlo := hG.lo
  have hhi := hG.hi
  subst hn
  show p1S_lock G G' _ _ _ p0 p1 p2
  by_cases hx : 0 ≤ p0.toInt ∧ p0.toInt < (G.2.2.2.1 : Int)
  rotate_left
  · exact p1E_lock_IA (am_ofX hl rfl (by decide) hG.nd (Nat.le_of_ble_eq_true rfl) (j_lockA hG p0 hx p1 p2 rfl (fun _ => ⟨rfl, _, ts_lock_24, rfl⟩))) (m_lockA hG' p0 (by rw [hn']; exact hx) p1 p2 (show am_fr G.2.2.2.1 = am_fr G'.2.2.2.1 by rw [hn']))
  obtain ⟨i, rfl, hi2, hi3⟩ := p1_nat p0 hx.1
  have hi : i < G.2.2.2.1 := by omega
  have hi' : i < G'.2.2.2.1 := by rw [hn']; exact hi
  by_cases hy : 0 ≤ p1.toInt ∧ p1.toInt < 136
  rotate_left
  · exact p1E_lock_IA (am_ofX hl rfl (by decide) hG.nd (Nat.le_of_ble_eq_true rfl) (j_lockB hG hi p1 p2 hy rfl (fun _ => ⟨rfl, _, ts_lock_24, rfl⟩))) (m_lockB hG' hi' p1 p2 hy (show am_fr G.2.2.2.1 = am_fr G'.2.2.2.1 by rw [hn']))
  obtain ⟨r, rfl, hr2, hr3⟩ := p1_nat p1 hy.1
  have hr : r < 136 := by omega
  by_cases hw : p2.toInt < 0 ∨ 4 < p2.toInt
  · exact p1E_lock_IA (am_ofX hl rfl (by decide) hG.nd (Nat.le_of_ble_eq_true rfl) (j_lockC hG hi hr p2 hw rfl (fun _ => ⟨rfl, _, ts_lock_24, rfl⟩))) (m_lockC hG' hi' hr p2 hw (show am_fr G.2.2.2.1 = am_fr G'.2.2.2.1 by rw [hn']))
  obtain ⟨q, rfl, hq2, hq3⟩ := p1_nat p2 (by omega)
  have hq : q ≤ 4 := by omega
  match q, hq with
  | 0, _ => exact p1R_lock (am_ofX hl rfl (by decide) hG.nd (Nat.le_of_ble_eq_true rfl) (j_lock0 hG hi hr rfl (fun _ => rfl))) (m_lock0 hG' hi' hr (show am_fr G.2.2.2.1 = am_fr G'.2.2.2.1 by rw [hn']))
  | 1, _ => exact p1R_lock (am_ofX hl rfl (by decide) hG.nd (Nat.le_of_ble_eq_true rfl) (j_lock1 hG hi hr rfl (fun _ => rfl))) (m_lock1 hG' hi' hr (show am_fr G.2.2.2.1 = am_fr G'.2.2.2.1 by rw [hn']))
  | 2, _ => exact p1R_lock (am_ofX hl rfl (by decide) hG.nd (Nat.le_of_ble_eq_true rfl) (j_lock2 hG hi hr rfl (fun _ => rfl))) (m_lock2 hG' hi' hr (show am_fr G.2.2.2.1 = am_fr G'.2.2.2.1 by rw [hn']))
  | 3, _ => exact p1R_lock (am_ofX hl rfl (by decide) hG.nd (Nat.le_of_ble_eq_true rfl) (j_lock3 hG hi hr rfl (fun _ => rfl))) (m_lock3 hG' hi' hr (show am_fr G.2.2.2.1 = am_fr G'.2.2.2.1 by rw [hn']))
  | 4, _ => exact p1R_lock (am_ofX hl rfl (by decide) hG.nd (Nat.le_of_ble_eq_true rfl) (j_lock4 hG hi hr rfl (fun _ => rfl))) (m_lock4 hG' hi' hr (show am_fr G.2.2.2.1 = am_fr G'.2.2.2.1 by rw [hn']))
  | q + 5, h => exact absurd h (by omega)
theorem p1_row {n : Nat} {G G' : am_G} (hl : G.1.1.stackTraces = false) (hG : am_ok G) (hG' : am_okM G') (hn : G.2.2.2.1 = n) (hn' : G'.2.2.2.1 = n) : ls_row G G' (p1_Inv n) := by
  intro k I J p0 p1 hI
  obtain ⟨rfl, rfl, rfl⟩ : k = 0 ∧ I = am_fr n ∧ J = am_fr n := by
    rcases hI with h | ⟨h, h2, h3⟩
    · cases h
    · exact ⟨by omega, h2, h3⟩
  have hlo := hG.lo
  have hhi := hG.hi
  subst hn
  show p1S_row G G' _ _ _ p0 p1
  by_cases hy : 0 ≤ p0.toInt ∧ p0.toInt < 136
  rotate_left
  · exact p1E_row_IA (am_ofX hl rfl (by decide) hG.nd (Nat.le_of_ble_eq_true rfl) (j_rowA hG p0 p1 hy rfl (fun _ => ⟨rfl, _, ts_row_11, rfl⟩))) (m_rowA hG' p0 p1 hy (show am_fr G.2.2.2.1 = am_fr G'.2.2.2.1 by rw [hn']))
  obtain ⟨r, rfl, hr2, hr3⟩ := p1_nat p0 hy.1
  have hr : r < 136 := by omega
  by_cases hw : p1.toInt < 0
  · exact p1E_row_IA (am_ofX hl rfl (by decide) hG.nd (Nat.le_of_ble_eq_true rfl) (j_rowB hG hr p1 hw rfl (fun _ => ⟨rfl, _, ts_row_11, rfl⟩))) (m_rowB hG' hr p1 hw (show am_fr G.2.2.2.1 = am_fr G'.2.2.2.1 by rw [hn']))
  obtain ⟨q, rfl, hq2, hq3⟩ := p1_nat p1 (by omega)
  match q, hq3 with
  | 0, _ =>
    have hm := m_row0 hG' (d := 12) hr (show am_fr G.2.2.2.1 = am_fr G'.2.2.2.1 by rw [hn'])
    rw [hn'] at hm
    exact p1R_row (am_ofX hl rfl (by decide) hG.nd (Nat.le_of_ble_eq_true rfl) (j_row0 hG hr rfl (fun _ => rfl))) hm
  | 1, _ => exact p1R_row (am_ofX hl rfl (by decide) hG.nd (Nat.le_of_ble_eq_true rfl) (j_row1 hG hr rfl (fun _ => rfl))) (m_row1 hG' hr (show am_fr G.2.2.2.1 = am_fr G'.2.2.2.1 by rw [hn']))
  | q + 2, hq3 => exact p1R_row (am_ofX hl rfl (by decide) hG.nd (Nat.le_of_ble_eq_true rfl) (j_row2 hG hr (v := q + 2) (by omega) hq3 rfl (fun _ => rfl))) (m_row2 hG' hr (v := q + 2) (by omega) hq3 (show am_fr G.2.2.2.1 = am_fr G'.2.2.2.1 by rw [hn']))
theorem p1_node {n : Nat} {G G' : am_G} (hl : G.1.1.stackTraces = false) (hG : am_ok G) (hG' : am_okM G') (hn : G.2.2.2.1 = n) (hn' : G'.2.2.2.1 = n) : ls_node G G' (p1_Inv n) := by
  intro k I J p0 p1 hI
  obtain ⟨rfl, rfl, rfl⟩ : k = 0 ∧ I = am_fr n ∧ J = am_fr n := by
    rcases hI with h | ⟨h, h2, h3⟩
    · cases h
    · exact ⟨by omega, h2, h3⟩
  have hlo := hG.lo
  have hhi := hG.hi
  subst hn
  show p1S_node G G' _ _ _ p0 p1
  by_cases hx : 0 ≤ p0.toInt ∧ p0.toInt < (G.2.2.2.1 : Int)
  rotate_left
  · exact p1E_node_IA (am_ofX hl rfl (by decide) hG.nd (Nat.le_of_ble_eq_true rfl) (j_nodeA hG p0 hx p1 rfl (fun _ => ⟨rfl, _, ts_node_18, rfl⟩))) (m_nodeA hG' p0 (by rw [hn']; exact hx) p1 (show am_fr G.2.2.2.1 = am_fr G'.2.2.2.1 by rw [hn']))
  obtain ⟨i, rfl, hi2, hi3⟩ := p1_nat p0 hx.1
  have hi : i < G.2.2.2.1 := by omega
  have hi' : i < G'.2.2.2.1 := by rw [hn']; exact hi
  by_cases hw : p1.toInt < 0 ∨ 6 < p1.toInt
  · exact p1E_node_IA (am_ofX hl rfl (by decide) hG.nd (Nat.le_of_ble_eq_true rfl) (j_nodeB hG hi p1 hw rfl (fun _ => ⟨rfl, _, ts_node_18, rfl⟩))) (m_nodeB hG' hi' p1 hw (show am_fr G.2.2.2.1 = am_fr G'.2.2.2.1 by rw [hn']))
  obtain ⟨q, rfl, hq2, hq3⟩ := p1_nat p1 (by omega)
  have hq : q ≤ 6 := by omega
  match q, hq with
  | 0, _ => exact p1R_node (am_ofX hl rfl (by decide) hG.nd (Nat.le_of_ble_eq_true rfl) (j_node0 hG hi rfl (fun _ => rfl))) (m_node0 hG' hi' (show am_fr G.2.2.2.1 = am_fr G'.2.2.2.1 by rw [hn']))
  | 1, _ => exact p1R_node (am_ofX hl rfl (by decide) hG.nd (Nat.le_of_ble_eq_true rfl) (j_node1 hG hi rfl (fun _ => rfl))) (m_node1 hG' hi' (show am_fr G.2.2.2.1 = am_fr G'.2.2.2.1 by rw [hn']))
  | 2, _ => exact p1R_node (am_ofX hl rfl (by decide) hG.nd (Nat.le_of_ble_eq_true rfl) (j_node2 hG hi rfl (fun _ => rfl))) (m_node2 hG' hi' (show am_fr G.2.2.2.1 = am_fr G'.2.2.2.1 by rw [hn']))
  | 3, _ => exact p1R_node (am_ofX hl rfl (by decide) hG.nd (Nat.le_of_ble_eq_true rfl) (j_node3 hG hi rfl (fun _ => rfl))) (m_node3 hG' hi' (show am_fr G.2.2.2.1 = am_fr G'.2.2.2.1 by rw [hn']))
  | 4, _ => exact p1R_node (am_ofX hl rfl (by decide) hG.nd (Nat.le_of_ble_eq_true rfl) (j_node4 hG hi rfl (fun _ => rfl))) (m_node4 hG' hi' (show am_fr G.2.2.2.1 = am_fr G'.2.2.2.1 by rw [hn']))
  | 5, _ => exact p1R_node (am_ofX hl rfl (by decide) hG.nd (Nat.le_of_ble_eq_true rfl) (j_node5 hG hi rfl (fun _ => rfl))) (m_node5 hG' hi' (show am_fr G.2.2.2.1 = am_fr G'.2.2.2.1 by rw [hn']))
  | 6, _ => exact p1R_node (am_ofX hl rfl (by decide) hG.nd (Nat.le_of_ble_eq_true rfl) (j_node6 hG hi rfl (fun _ => rfl))) (m_node6 hG' hi' (show am_fr G.2.2.2.1 = am_fr G'.2.2.2.1 by rw [hn']))
  | q + 7, h => exact absurd h (by omega)
theorem p1_about {n : Nat} {G G' : am_G} (hl : G.1.1.stackTraces = false) (hG : am_ok G) (hG' : am_okM G') (hn : G.2.2.2.1 = n) (hn' : G'.2.2.2.1 = n) : ls_about G G' (p1_Inv n) := by
  intro k I J p0 hI
  obtain ⟨rfl, rfl, rfl⟩ : k = 0 ∧ I = am_fr n ∧ J = am_fr n := by
    rcases hI with h | ⟨h, h2, h3⟩
    · cases h
    · exact ⟨by omega, h2, h3⟩
  have hlo := hG.lo
  have hhi := hG.hi
  subst hn
  show p1S_about G G' _ _ _ p0
  by_cases hw : p0.toInt < 0 ∨ 9 < p0.toInt
  · exact p1E_about_IA (am_ofX hl rfl (by decide) hG.nd (Nat.le_of_ble_eq_true rfl) (j_aboutA hG p0 hw (fun _ => ⟨rfl, _, ts_about_125, rfl⟩))) (m_aboutA hG' p0 hw (show am_fr G.2.2.2.1 = am_fr G'.2.2.2.1 by rw [hn']))
  obtain ⟨q, rfl, hq2, hq3⟩ := p1_nat p0 (by omega)
  have hq : q ≤ 9 := by omega
  match q, hq with
  | 0, _ => exact p1R_about (am_ofX hl rfl (by decide) hG.nd (Nat.le_of_ble_eq_true rfl) (j_about0 hG rfl (fun _ => rfl))) (m_about0 hG' (show am_fr G.2.2.2.1 = am_fr G'.2.2.2.1 by rw [hn']))
  | 1, _ => exact p1R_about (am_ofX hl rfl (by decide) hG.nd (Nat.le_of_ble_eq_true rfl) (j_about1 hG rfl (fun _ => rfl))) (m_about1 hG' (show am_fr G.2.2.2.1 = am_fr G'.2.2.2.1 by rw [hn']))
  | 2, _ => exact p1R_about (am_ofX hl rfl (by decide) hG.nd (Nat.le_of_ble_eq_true rfl) (j_about2 hG rfl (fun _ => rfl))) (m_about2 hG' (show am_fr G.2.2.2.1 = am_fr G'.2.2.2.1 by rw [hn']))
  | 3, _ => exact p1R_about (am_ofX hl rfl (by decide) hG.nd (Nat.le_of_ble_eq_true rfl) (j_about3 hG rfl (fun _ => rfl))) (m_about3 hG' (show am_fr G.2.2.2.1 = am_fr G'.2.2.2.1 by rw [hn']))
  | 4, _ => exact p1R_about (am_ofX hl rfl (by decide) hG.nd (Nat.le_of_ble_eq_true rfl) (j_about4 hG rfl (fun _ => rfl))) (m_about4 hG' (show am_fr G.2.2.2.1 = am_fr G'.2.2.2.1 by rw [hn']))
  | 5, _ => exact p1R_about (am_ofX hl rfl (by decide) hG.nd (Nat.le_of_ble_eq_true rfl) (j_about5 hG rfl (fun _ => rfl))) (m_about5 hG' (show am_fr G.2.2.2.1 = am_fr G'.2.2.2.1 by rw [hn']))
  | 6, _ =>
    have hm := m_about6 hG' (d := 12) (show am_fr G.2.2.2.1 = am_fr G'.2.2.2.1 by rw [hn'])
    rw [hn'] at hm
    exact p1R_about (am_ofX hl rfl (by decide) hG.nd (Nat.le_of_ble_eq_true rfl) (j_about6 hG rfl (fun _ => rfl))) hm
  | 7, _ => exact p1R_about (am_ofX hl rfl (by decide) hG.nd (Nat.le_of_ble_eq_true rfl) (j_about7 hG rfl (fun _ => rfl))) (m_about7 hG' (show am_fr G.2.2.2.1 = am_fr G'.2.2.2.1 by rw [hn']))
  | 8, _ => exact p1R_about (am_ofX hl rfl (by decide) hG.nd (Nat.le_of_ble_eq_true rfl) (j_about8 hG rfl (fun _ => rfl))) (m_about8 hG' (show am_fr G.2.2.2.1 = am_fr G'.2.2.2.1 by rw [hn']))
  | 9, _ => exact p1R_about (am_ofX hl rfl (by decide) hG.nd (Nat.le_of_ble_eq_true rfl) (j_about9 hG rfl (fun _ => rfl))) (m_about9 hG' (show am_fr G.2.2.2.1 = am_fr G'.2.2.2.1 by rw [hn']))
  | q + 10, h => exact absurd h (by omega)
theorem p1_all {n : Nat} {G G' : am_G} (hl : G.1.1.stackTraces = false) (hG : am_ok G) (hG' : am_okM G') (hn : G.2.2.2.1 = n) (hn' : G'.2.2.2.1 = n) : l_all G G' (p1_Inv n) :=
  ⟨fun k I J h => by
    rcases h with h | ⟨h, -⟩
    · cases h
    · exact Or.inl (by omega), p1_call hl hG hG' hn hn', p1_delay hl hG hG' hn hn', p1_tick hl hG hG' hn hn', p1_crash hl hG hG' hn hn', p1_recover hl hG hG' hn hn', p1_start hl hG hG' hn hn', p1_result hl hG hG' hn hn', p1_history hl hG hG' hn hn', p1_word hl hG hG' hn hn', p1_cached hl hG hG' hn hn', p1_lock hl hG hG' hn hn', p1_row hl hG hG' hn hn', p1_message hl hG hG' hn hn', p1_node hl hG hG' hn hn', p1_about hl hG hG' hn hn'⟩
