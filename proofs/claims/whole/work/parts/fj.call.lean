
section CALL
variable {n T e x : Nat} {I J : am_I} {g : Nat → Nat} {v p1 p2 p3 p4 p5 : Int32}
/-- a call is begun: the class, the reference -/
def cBI (I : am_I) (x : Nat) (v p1 p2 p3 p4 p5 : Int32) : am_I := am_up (am_up (am_up (am_up (am_up (am_up (am_up (am_up (am_up (am_up (am_up (am_up I x 55 0 p1) x 55 5 (nI 1)) x 55 6 (nI 0)) x 55 7 v) x 55 8 (nI 0)) x 55 9 (nI 0)) x 55 10 (nI 0)) x 55 11 (nI 0)) x 55 1 p2) x 55 2 p3) x 55 3 p4) x 55 4 p5
def cBJ (J : am_I) (x : Nat) (v p1 p2 p3 p4 p5 : Int32) : am_I := am_up (am_up (am_up (am_up (am_up (am_up (am_up (am_up (am_up (am_up (am_up (am_up J 0 82 x p1) 0 83 x p2) 0 84 x p3) 0 85 x p4) 0 86 x p5) 0 87 x (nI 1)) 0 88 x (nI 0)) 0 89 x v) 0 90 x (nI 0)) 0 91 x (nI 0)) 0 92 x (nI 0)) 0 93 x (nI 0)
theorem cb_o {a b : Nat} (h : ¬ (a = x ∧ b = 55)) : cBI I x v p1 p2 p3 p4 p5 a b = I a b := by
  unfold cBI
  rw [z_upj _ _ _ _ _ _ _ h, z_upj _ _ _ _ _ _ _ h, z_upj _ _ _ _ _ _ _ h, z_upj _ _ _ _ _ _ _ h, z_upj _ _ _ _ _ _ _ h, z_upj _ _ _ _ _ _ _ h, z_upj _ _ _ _ _ _ _ h, z_upj _ _ _ _ _ _ _ h, z_upj _ _ _ _ _ _ _ h, z_upj _ _ _ _ _ _ _ h, z_upj _ _ _ _ _ _ _ h, z_upj _ _ _ _ _ _ _ h]
theorem cj_o {a b : Nat} (h : ¬ (a = 0 ∧ 82 ≤ b ∧ b ≤ 93)) : cBJ J x v p1 p2 p3 p4 p5 a b = J a b := by
  unfold cBJ
  rw [z_upj _ _ _ _ _ _ _ (by omega), z_upj _ _ _ _ _ _ _ (by omega), z_upj _ _ _ _ _ _ _ (by omega), z_upj _ _ _ _ _ _ _ (by omega), z_upj _ _ _ _ _ _ _ (by omega), z_upj _ _ _ _ _ _ _ (by omega), z_upj _ _ _ _ _ _ _ (by omega), z_upj _ _ _ _ _ _ _ (by omega), z_upj _ _ _ _ _ _ _ (by omega), z_upj _ _ _ _ _ _ _ (by omega), z_upj _ _ _ _ _ _ _ (by omega), z_upj _ _ _ _ _ _ _ (by omega)]
theorem cb_4 : cBI I x v p1 p2 p3 p4 p5 x 55 4 = p5 := by
  unfold cBI
  rw [z_upk, if_pos rfl]
theorem cb_3 : cBI I x v p1 p2 p3 p4 p5 x 55 3 = p4 := by
  unfold cBI
  rw [z_upk, if_neg (by omega), z_upk, if_pos rfl]
theorem cb_2 : cBI I x v p1 p2 p3 p4 p5 x 55 2 = p3 := by
  unfold cBI
  rw [z_upk, if_neg (by omega), z_upk, if_neg (by omega), z_upk, if_pos rfl]
theorem cb_1 : cBI I x v p1 p2 p3 p4 p5 x 55 1 = p2 := by
  unfold cBI
  rw [z_upk, if_neg (by omega), z_upk, if_neg (by omega), z_upk, if_neg (by omega), z_upk, if_pos rfl]
theorem cb_11 : cBI I x v p1 p2 p3 p4 p5 x 55 11 = (nI 0) := by
  unfold cBI
  rw [z_upk, if_neg (by omega), z_upk, if_neg (by omega), z_upk, if_neg (by omega), z_upk, if_neg (by omega), z_upk, if_pos rfl]
theorem cb_10 : cBI I x v p1 p2 p3 p4 p5 x 55 10 = (nI 0) := by
  unfold cBI
  rw [z_upk, if_neg (by omega), z_upk, if_neg (by omega), z_upk, if_neg (by omega), z_upk, if_neg (by omega), z_upk, if_neg (by omega), z_upk, if_pos rfl]
theorem cb_9 : cBI I x v p1 p2 p3 p4 p5 x 55 9 = (nI 0) := by
  unfold cBI
  rw [z_upk, if_neg (by omega), z_upk, if_neg (by omega), z_upk, if_neg (by omega), z_upk, if_neg (by omega), z_upk, if_neg (by omega), z_upk, if_neg (by omega), z_upk, if_pos rfl]
theorem cb_8 : cBI I x v p1 p2 p3 p4 p5 x 55 8 = (nI 0) := by
  unfold cBI
  rw [z_upk, if_neg (by omega), z_upk, if_neg (by omega), z_upk, if_neg (by omega), z_upk, if_neg (by omega), z_upk, if_neg (by omega), z_upk, if_neg (by omega), z_upk, if_neg (by omega), z_upk, if_pos rfl]
theorem cb_7 : cBI I x v p1 p2 p3 p4 p5 x 55 7 = v := by
  unfold cBI
  rw [z_upk, if_neg (by omega), z_upk, if_neg (by omega), z_upk, if_neg (by omega), z_upk, if_neg (by omega), z_upk, if_neg (by omega), z_upk, if_neg (by omega), z_upk, if_neg (by omega), z_upk, if_neg (by omega), z_upk, if_pos rfl]
theorem cb_6 : cBI I x v p1 p2 p3 p4 p5 x 55 6 = (nI 0) := by
  unfold cBI
  rw [z_upk, if_neg (by omega), z_upk, if_neg (by omega), z_upk, if_neg (by omega), z_upk, if_neg (by omega), z_upk, if_neg (by omega), z_upk, if_neg (by omega), z_upk, if_neg (by omega), z_upk, if_neg (by omega), z_upk, if_neg (by omega), z_upk, if_pos rfl]
theorem cb_5 : cBI I x v p1 p2 p3 p4 p5 x 55 5 = (nI 1) := by
  unfold cBI
  rw [z_upk, if_neg (by omega), z_upk, if_neg (by omega), z_upk, if_neg (by omega), z_upk, if_neg (by omega), z_upk, if_neg (by omega), z_upk, if_neg (by omega), z_upk, if_neg (by omega), z_upk, if_neg (by omega), z_upk, if_neg (by omega), z_upk, if_neg (by omega), z_upk, if_pos rfl]
theorem cb_0 : cBI I x v p1 p2 p3 p4 p5 x 55 0 = p1 := by
  unfold cBI
  rw [z_upk, if_neg (by omega), z_upk, if_neg (by omega), z_upk, if_neg (by omega), z_upk, if_neg (by omega), z_upk, if_neg (by omega), z_upk, if_neg (by omega), z_upk, if_neg (by omega), z_upk, if_neg (by omega), z_upk, if_neg (by omega), z_upk, if_neg (by omega), z_upk, if_neg (by omega), z_upk, if_pos rfl]
theorem cj_93 (k : Nat) : cBJ J x v p1 p2 p3 p4 p5 0 93 k = if k = x then (nI 0) else J 0 93 k := by
  unfold cBJ
  rw [z_upk, z_upj _ _ _ _ _ _ _ (by omega), z_upj _ _ _ _ _ _ _ (by omega), z_upj _ _ _ _ _ _ _ (by omega), z_upj _ _ _ _ _ _ _ (by omega), z_upj _ _ _ _ _ _ _ (by omega), z_upj _ _ _ _ _ _ _ (by omega), z_upj _ _ _ _ _ _ _ (by omega), z_upj _ _ _ _ _ _ _ (by omega), z_upj _ _ _ _ _ _ _ (by omega), z_upj _ _ _ _ _ _ _ (by omega), z_upj _ _ _ _ _ _ _ (by omega)]
theorem cj_92 (k : Nat) : cBJ J x v p1 p2 p3 p4 p5 0 92 k = if k = x then (nI 0) else J 0 92 k := by
  unfold cBJ
  rw [z_upj _ _ _ _ _ _ _ (by omega), z_upk, z_upj _ _ _ _ _ _ _ (by omega), z_upj _ _ _ _ _ _ _ (by omega), z_upj _ _ _ _ _ _ _ (by omega), z_upj _ _ _ _ _ _ _ (by omega), z_upj _ _ _ _ _ _ _ (by omega), z_upj _ _ _ _ _ _ _ (by omega), z_upj _ _ _ _ _ _ _ (by omega), z_upj _ _ _ _ _ _ _ (by omega), z_upj _ _ _ _ _ _ _ (by omega), z_upj _ _ _ _ _ _ _ (by omega)]
theorem cj_91 (k : Nat) : cBJ J x v p1 p2 p3 p4 p5 0 91 k = if k = x then (nI 0) else J 0 91 k := by
  unfold cBJ
  rw [z_upj _ _ _ _ _ _ _ (by omega), z_upj _ _ _ _ _ _ _ (by omega), z_upk, z_upj _ _ _ _ _ _ _ (by omega), z_upj _ _ _ _ _ _ _ (by omega), z_upj _ _ _ _ _ _ _ (by omega), z_upj _ _ _ _ _ _ _ (by omega), z_upj _ _ _ _ _ _ _ (by omega), z_upj _ _ _ _ _ _ _ (by omega), z_upj _ _ _ _ _ _ _ (by omega), z_upj _ _ _ _ _ _ _ (by omega), z_upj _ _ _ _ _ _ _ (by omega)]
theorem cj_90 (k : Nat) : cBJ J x v p1 p2 p3 p4 p5 0 90 k = if k = x then (nI 0) else J 0 90 k := by
  unfold cBJ
  rw [z_upj _ _ _ _ _ _ _ (by omega), z_upj _ _ _ _ _ _ _ (by omega), z_upj _ _ _ _ _ _ _ (by omega), z_upk, z_upj _ _ _ _ _ _ _ (by omega), z_upj _ _ _ _ _ _ _ (by omega), z_upj _ _ _ _ _ _ _ (by omega), z_upj _ _ _ _ _ _ _ (by omega), z_upj _ _ _ _ _ _ _ (by omega), z_upj _ _ _ _ _ _ _ (by omega), z_upj _ _ _ _ _ _ _ (by omega), z_upj _ _ _ _ _ _ _ (by omega)]
theorem cj_89 (k : Nat) : cBJ J x v p1 p2 p3 p4 p5 0 89 k = if k = x then v else J 0 89 k := by
  unfold cBJ
  rw [z_upj _ _ _ _ _ _ _ (by omega), z_upj _ _ _ _ _ _ _ (by omega), z_upj _ _ _ _ _ _ _ (by omega), z_upj _ _ _ _ _ _ _ (by omega), z_upk, z_upj _ _ _ _ _ _ _ (by omega), z_upj _ _ _ _ _ _ _ (by omega), z_upj _ _ _ _ _ _ _ (by omega), z_upj _ _ _ _ _ _ _ (by omega), z_upj _ _ _ _ _ _ _ (by omega), z_upj _ _ _ _ _ _ _ (by omega), z_upj _ _ _ _ _ _ _ (by omega)]
theorem cj_88 (k : Nat) : cBJ J x v p1 p2 p3 p4 p5 0 88 k = if k = x then (nI 0) else J 0 88 k := by
  unfold cBJ
  rw [z_upj _ _ _ _ _ _ _ (by omega), z_upj _ _ _ _ _ _ _ (by omega), z_upj _ _ _ _ _ _ _ (by omega), z_upj _ _ _ _ _ _ _ (by omega), z_upj _ _ _ _ _ _ _ (by omega), z_upk, z_upj _ _ _ _ _ _ _ (by omega), z_upj _ _ _ _ _ _ _ (by omega), z_upj _ _ _ _ _ _ _ (by omega), z_upj _ _ _ _ _ _ _ (by omega), z_upj _ _ _ _ _ _ _ (by omega), z_upj _ _ _ _ _ _ _ (by omega)]
theorem cj_87 (k : Nat) : cBJ J x v p1 p2 p3 p4 p5 0 87 k = if k = x then (nI 1) else J 0 87 k := by
  unfold cBJ
  rw [z_upj _ _ _ _ _ _ _ (by omega), z_upj _ _ _ _ _ _ _ (by omega), z_upj _ _ _ _ _ _ _ (by omega), z_upj _ _ _ _ _ _ _ (by omega), z_upj _ _ _ _ _ _ _ (by omega), z_upj _ _ _ _ _ _ _ (by omega), z_upk, z_upj _ _ _ _ _ _ _ (by omega), z_upj _ _ _ _ _ _ _ (by omega), z_upj _ _ _ _ _ _ _ (by omega), z_upj _ _ _ _ _ _ _ (by omega), z_upj _ _ _ _ _ _ _ (by omega)]
theorem cj_86 (k : Nat) : cBJ J x v p1 p2 p3 p4 p5 0 86 k = if k = x then p5 else J 0 86 k := by
  unfold cBJ
  rw [z_upj _ _ _ _ _ _ _ (by omega), z_upj _ _ _ _ _ _ _ (by omega), z_upj _ _ _ _ _ _ _ (by omega), z_upj _ _ _ _ _ _ _ (by omega), z_upj _ _ _ _ _ _ _ (by omega), z_upj _ _ _ _ _ _ _ (by omega), z_upj _ _ _ _ _ _ _ (by omega), z_upk, z_upj _ _ _ _ _ _ _ (by omega), z_upj _ _ _ _ _ _ _ (by omega), z_upj _ _ _ _ _ _ _ (by omega), z_upj _ _ _ _ _ _ _ (by omega)]
theorem cj_85 (k : Nat) : cBJ J x v p1 p2 p3 p4 p5 0 85 k = if k = x then p4 else J 0 85 k := by
  unfold cBJ
  rw [z_upj _ _ _ _ _ _ _ (by omega), z_upj _ _ _ _ _ _ _ (by omega), z_upj _ _ _ _ _ _ _ (by omega), z_upj _ _ _ _ _ _ _ (by omega), z_upj _ _ _ _ _ _ _ (by omega), z_upj _ _ _ _ _ _ _ (by omega), z_upj _ _ _ _ _ _ _ (by omega), z_upj _ _ _ _ _ _ _ (by omega), z_upk, z_upj _ _ _ _ _ _ _ (by omega), z_upj _ _ _ _ _ _ _ (by omega), z_upj _ _ _ _ _ _ _ (by omega)]
theorem cj_84 (k : Nat) : cBJ J x v p1 p2 p3 p4 p5 0 84 k = if k = x then p3 else J 0 84 k := by
  unfold cBJ
  rw [z_upj _ _ _ _ _ _ _ (by omega), z_upj _ _ _ _ _ _ _ (by omega), z_upj _ _ _ _ _ _ _ (by omega), z_upj _ _ _ _ _ _ _ (by omega), z_upj _ _ _ _ _ _ _ (by omega), z_upj _ _ _ _ _ _ _ (by omega), z_upj _ _ _ _ _ _ _ (by omega), z_upj _ _ _ _ _ _ _ (by omega), z_upj _ _ _ _ _ _ _ (by omega), z_upk, z_upj _ _ _ _ _ _ _ (by omega), z_upj _ _ _ _ _ _ _ (by omega)]
theorem cj_83 (k : Nat) : cBJ J x v p1 p2 p3 p4 p5 0 83 k = if k = x then p2 else J 0 83 k := by
  unfold cBJ
  rw [z_upj _ _ _ _ _ _ _ (by omega), z_upj _ _ _ _ _ _ _ (by omega), z_upj _ _ _ _ _ _ _ (by omega), z_upj _ _ _ _ _ _ _ (by omega), z_upj _ _ _ _ _ _ _ (by omega), z_upj _ _ _ _ _ _ _ (by omega), z_upj _ _ _ _ _ _ _ (by omega), z_upj _ _ _ _ _ _ _ (by omega), z_upj _ _ _ _ _ _ _ (by omega), z_upj _ _ _ _ _ _ _ (by omega), z_upk, z_upj _ _ _ _ _ _ _ (by omega)]
theorem cj_82 (k : Nat) : cBJ J x v p1 p2 p3 p4 p5 0 82 k = if k = x then p1 else J 0 82 k := by
  unfold cBJ
  rw [z_upj _ _ _ _ _ _ _ (by omega), z_upj _ _ _ _ _ _ _ (by omega), z_upj _ _ _ _ _ _ _ (by omega), z_upj _ _ _ _ _ _ _ (by omega), z_upj _ _ _ _ _ _ _ (by omega), z_upj _ _ _ _ _ _ _ (by omega), z_upj _ _ _ _ _ _ _ (by omega), z_upj _ _ _ _ _ _ _ (by omega), z_upj _ _ _ _ _ _ _ (by omega), z_upj _ _ _ _ _ _ _ (by omega), z_upj _ _ _ _ _ _ _ (by omega), z_upk]

theorem r_isc {x : Nat} (hx : x < 4) : gX11_isCalling n (nI x) J = some (nI (if J 0 87 x = nI 1 then 1 else 0), J) := by
  rw [gX11_isCalling, bX11_isCalling_0]
  refine (am_gd_of (by rw [z_inb (by omega)]; exact decide_eq_true hx)).trans ?_
  rw [z_clamp (by omega)]
  by_cases c : J 0 87 x = nI 1
  · rw [if_pos c, if_pos c]
    rfl
  · rw [if_neg c, if_neg c]
    rfl
/-- the reference empties the list, and goes on -/
theorem r_c169 (hx : x < 4) : ∀ (q i fu : Nat) (J : am_I), i + q = 136 → q < fu → ∃ J2, bX11_call_169 n fu (nI x) (nI i) J = (gX11_goOn n (nI x) J2).bind (fun q1 => if q1 0 87 x = nI 1 then some (nI 0, q1) else some (nI 1, q1)) ∧ (∀ a b, ¬ (a = 0 ∧ b = 81) → J2 a b = J a b) ∧ (∀ k, ¬ (136 * x + i ≤ k ∧ k < 136 * x + 136) → J2 0 81 k = J 0 81 k) ∧ ∀ c, i ≤ c → c < 136 → J2 0 81 (136 * x + c) = nI 0 := by
  have ga : am_inb (nI x) 4 = true := by rw [z_inb (by omega)]; exact decide_eq_true hx
  have ka : (nI x).toNatClampNeg = x := z_clamp (by omega)
  intro q
  induction q with
  | zero =>
    intro i fu J hi hfu
    obtain ⟨fu, rfl⟩ : ∃ f, fu = f + 1 := ⟨fu - 1, by omega⟩
    refine ⟨J, ?_, fun _ _ _ => rfl, fun _ _ => rfl, fun c h1 h2 => by omega⟩
    unfold bX11_call_169
    dsimp only
    rw [if_pos (by rw [z_le (by omega) (by omega)]; omega)]
    refine congrArg (Option.bind _) (funext fun q1 => ?_)
    rw [am_gd_of ga, ka]
    rfl
  | succ q ih =>
    intro i fu J hi hfu
    obtain ⟨fu, rfl⟩ : ∃ f, fu = f + 1 := ⟨fu - 1, by omega⟩
    obtain ⟨J2, h1, h2, h3, h4⟩ := ih (i + 1) fu (am_up J 0 81 (136 * x + i) (nI 0)) (by omega) (by omega)
    have at1 : ∀ Jx, gX11_at n (nI x) (nI i) Jx = some (nI (136 * x + i), Jx) := fun Jx => by simp (disch := omega) only [gX11_at, bX11_at_0, pk_mul, nI_add]
    refine ⟨J2, ?_, fun a b w => (h2 a b w).trans (z_upj _ _ _ _ _ _ _ w), fun k w => ?_, fun c w1 w2 => ?_⟩
    · conv => lhs; unfold bX11_call_169
      dsimp only
      rw [if_neg (by rw [z_le (by omega) (by omega)]; omega), at1, Option.bind_some, am_gd_of (by rw [z_inb (by omega)]; exact decide_eq_true (by omega))]
      dsimp only
      rw [am_lt, z_clamp (by omega), nI_add]
      exact h1
    · rw [h3 k (by omega), z_upk, if_neg (by omega)]
    · by_cases d : c = i
      · subst d
        rw [h3 _ (by omega), z_upk, if_pos rfl]
      · exact h4 c (by omega) w2
/-- a call is begun and goes on: all of both sides -/
theorem gs_call {J2 : am_I} (hx : x < n) (h : GS n T e g I J) (hU : J 0 65 x = nI 1) (hC : ¬ J 0 87 x = nI 1) (hV : VA p1 p2 p3 p4 p5) (he : e + cs n J ≤ 180) (j1 : ∀ a b, ¬ (a = 0 ∧ b = 81) → J2 a b = cBJ J x (nI T) p1 p2 p3 p4 p5 a b) (j2 : ∀ k, ¬ (136 * x ≤ k ∧ k < 136 * x + 136) → J2 0 81 k = J 0 81 k) (j3 : ∀ c, c < 136 → J2 0 81 (136 * x + c) = nI 0) :
    ∃ I' J' e', gX10_goOn n x (cBI I x (nI T) p1 p2 p3 p4 p5) = some I' ∧ gX11_goOn n (nI x) J2 = some J' ∧ GS n T e' g I' J' ∧ e' + cs n J' = e + cs n J + 1 ∧ J' 0 60 0 = J 0 60 0 := by
  obtain ⟨rw, gv, cl, A, jl, ⟨ms, H, B, K, lg, fb, fq, mk, hc⟩, hg, hns, hW⟩ := h
  have hn := hc.1.2
  obtain ⟨hP, hS, hst⟩ := hns x hx
  obtain ⟨h87, n1, n2, n3, n4⟩ : ¬ J 0 87 x = nI 1 ∧ NCx x I J := by
    rcases hst with ⟨c, -⟩ | c
    · exact absurd c hC
    · exact c
  have oI : ∀ a b, ¬ (a = x ∧ b = 55) → cBI I x (nI T) p1 p2 p3 p4 p5 a b = I a b := fun a b q => cb_o q
  have oJ : ∀ a b, ¬ (a = 0 ∧ 81 ≤ b ∧ b ≤ 93) → J2 a b = J a b := fun a b q => (j1 a b (by omega)).trans (cj_o (by omega))
  have hco : CO n T e (cBI I x (nI T) p1 p2 p3 p4 p5) J2 ms rw gv cl H A B K lg fb jl fq mk := co_irr hc ⟨fun a b q _ => oI a b (by omega), by rw [oI 0 0 (by omega)], by rw [oI 0 15 (by omega)], by rw [oI 0 15 (by omega)]⟩ ⟨fun a b q => oJ a b (by omega), fun k _ => by rw [oJ 0 60 (by omega)]⟩
  have v82 : J2 0 82 x = p1 := by rw [j1 0 82 (by omega), cj_82, if_pos rfl]
  have v83 : J2 0 83 x = p2 := by rw [j1 0 83 (by omega), cj_83, if_pos rfl]
  have v84 : J2 0 84 x = p3 := by rw [j1 0 84 (by omega), cj_84, if_pos rfl]
  have v85 : J2 0 85 x = p4 := by rw [j1 0 85 (by omega), cj_85, if_pos rfl]
  have v86 : J2 0 86 x = p5 := by rw [j1 0 86 (by omega), cj_86, if_pos rfl]
  have v87 : J2 0 87 x = nI 1 := by rw [j1 0 87 (by omega), cj_87, if_pos rfl]
  have v88 : J2 0 88 x = nI 0 := by rw [j1 0 88 (by omega), cj_88, if_pos rfl]
  have v89 : J2 0 89 x = nI T := by rw [j1 0 89 (by omega), cj_89, if_pos rfl]
  have v90 : J2 0 90 x = nI 0 := by rw [j1 0 90 (by omega), cj_90, if_pos rfl]
  have v91 : J2 0 91 x = nI 0 := by rw [j1 0 91 (by omega), cj_91, if_pos rfl]
  have v92 : J2 0 92 x = nI 0 := by rw [j1 0 92 (by omega), cj_92, if_pos rfl]
  have v93 : J2 0 93 x = nI 0 := by rw [j1 0 93 (by omega), cj_93, if_pos rfl]
  have hP2 : PW x (cBI I x (nI T) p1 p2 p3 p4 p5) J2 := fun r hr => by
    have := hP r hr
    unfold WP WT at this ⊢
    rw [oI x 52 (by omega), oJ 0 79 (by omega), oJ 0 80 (by omega), oJ 0 78 (by omega), oJ 0 76 (by omega), oJ 0 72 (by omega)]
    exact this
  have hS2 : TS x (cBI I x (nI T) p1 p2 p3 p4 p5) J2 := by
    refine ⟨fun c hc => ?_, by rw [cb_5, v87], by rw [cb_7, v89], by rw [cb_8, v90], by rw [cb_9, v91], by rw [cb_10, v92], by rw [cb_6, v87, if_neg (by decide)], 1, by omega, v87⟩
    have : c = 0 ∨ c = 1 ∨ c = 2 ∨ c = 3 ∨ c = 4 := by omega
    rcases this with rfl | rfl | rfl | rfl | rfl
    · rw [cb_0]; exact v82.symm
    · rw [cb_1]; exact v83.symm
    · rw [cb_2]; exact v84.symm
    · rw [cb_3]; exact v85.symm
    · rw [cb_4]; exact v86.symm
  have hLS : LSr x (cBI I x (nI T) p1 p2 p3 p4 p5) J2 [] := by
    refine ⟨⟨List.Pairwise.nil, fun c hc => absurd hc List.not_mem_nil, by rw [oI x 48 (by omega)]; exact n2, fun i c hc => by simp at hc⟩, fun c hc => ⟨⟨fun q => absurd q List.not_mem_nil, fun q => absurd (j3 c hc) q⟩, by rw [oI x 54 (by omega), n3 c hc, j3 c hc], 0, by omega, j3 c hc⟩⟩
  have hCG : CGx x (cBI I x (nI T) p1 p2 p3 p4 p5) J2 [] := by
    refine ⟨by rw [oJ 0 65 (by omega)]; exact hU, by rw [v82, v83, v84, v85, v86]; exact hV, hLS, cb_10, fun c hc q => ?_, fun c hc q => ?_, Or.inl cb_11, fun _ => by rw [cb_11, v93], fun _ => ⟨v93, rfl⟩⟩
    · rw [oJ 0 79 (by omega), (n4 c hc).1] at q
      exact absurd q (by decide)
    · rw [oJ 0 77 (by omega)] at q
      exact absurd (n4 c hc).2 q
  have hNS0 : NS0 x (cBI I x (nI T) p1 p2 p3 p4 p5) J2 := ⟨hP2, hS2, Or.inl ⟨v87, [], hCG⟩⟩
  have hj8 : ∀ z, ¬ z = x → ∀ j, j = 65 ∨ j = 72 ∨ (82 ≤ j ∧ j ≤ 93) → J2 0 j z = J 0 j z := fun z hne j hj => by
    by_cases c : 82 ≤ j ∧ j ≤ 93
    · rw [j1 0 j (by omega)]
      have : j = 82 ∨ j = 83 ∨ j = 84 ∨ j = 85 ∨ j = 86 ∨ j = 87 ∨ j = 88 ∨ j = 89 ∨ j = 90 ∨ j = 91 ∨ j = 92 ∨ j = 93 := by omega
      rcases this with rfl | rfl | rfl | rfl | rfl | rfl | rfl | rfl | rfl | rfl | rfl | rfl

      · rw [cj_82, if_neg hne]
      · rw [cj_83, if_neg hne]
      · rw [cj_84, if_neg hne]
      · rw [cj_85, if_neg hne]
      · rw [cj_86, if_neg hne]
      · rw [cj_87, if_neg hne]
      · rw [cj_88, if_neg hne]
      · rw [cj_89, if_neg hne]
      · rw [cj_90, if_neg hne]
      · rw [cj_91, if_neg hne]
      · rw [cj_92, if_neg hne]
      · rw [cj_93, if_neg hne]
    · rw [oJ 0 j (by omega)]
  have hoth : ∀ z, z < n → ¬ z = x → NS z (cBI I x (nI T) p1 p2 p3 p4 p5) J2 ∧ cal J2 z = cal J z := fun z hz hne => by
    refine ns_cg (fun b hb => oI z b (by omega)) (fun j r q1 q2 q3 => ?_) (hj8 z hne) (hns z hz)
    by_cases c : j = 81
    · subst c
      exact j2 _ (by omega)
    · rw [oJ 0 j (by omega)]
  have hW2 : WL (cBI I x (nI T) p1 p2 p3 p4 p5) J2 := by
    unfold WL at hW ⊢
    rw [oI 0 0 (by omega), oJ 0 60 (by omega), oJ 0 64 (by omega)]
    exact hW
  have hcs : 0 + cs n J2 = 1 + cs n J := cs_up (x := x) (by unfold cal; rw [if_pos v87, if_neg h87]) n hx (fun z hz hne => (hoth z hz hne).2)
  obtain ⟨I', J', e', q1, q2, q3, q4, q5⟩ := gs_go hx ⟨ms, H, B, K, lg, fb, fq, mk, hco⟩ hNS0 (fun z hz hne => (hoth z hz hne).1) hW2 (by omega)
  exact ⟨I', J', e', q1, q2, by rw [← hg]; exact q3, by omega, by rw [q5, oJ 0 60 (by omega)]⟩
/-- CALL -/
theorem pr_call (k : Nat) (I J : am_I) (p0 p1 p2 p3 p4 p5 : Int32) (h : Inv n (k + 1) I J) : PR_call n k I J p0 p1 p2 p3 p4 p5 := by
  unfold PR_call
  obtain ⟨T, e, g, h1, h2, h3, h4⟩ := id h
  obtain ⟨⟨hn, hn4⟩, j1⟩ := gs_1 h1
  have bad : gX11_call n p0 p1 p2 p3 p4 p5 J = bX11_call_26 n p0 p1 p2 p3 p4 p5 J → gX11_call n p0 p1 p2 p3 p4 p5 J = some (nI 0, am_up J 0 60 0 (nI 1)) := fun q1 => by
    rw [q1, bX11_call_26, bX11_call_27, if_pos n00, bX11_call_40, if_pos n00, bX11_call_66, bX11_call_67, r_ref1, Option.bind_some]
    dsimp only
    rw [if_neg n10]
  rcases x_node (I := I) hn hn4 j1 p0 with ⟨a, ha, rfl, s1, s2⟩ | ⟨s1, s2⟩
  · have ga : am_inb (nI a) n = true := by rw [z_inb (by omega)]; exact decide_eq_true ha
    have ga4 : am_inb (nI a) 4 = true := by rw [z_inb (by omega)]; exact decide_eq_true (by omega)
    have ka : (nI a).toNatClampNeg = a := z_clamp (by omega)
    rcases x_call (n := n) (I := I) (J := J) p1 p2 p3 p4 p5 with ⟨hV, t1, t2⟩ | ⟨t1, t2⟩
    · obtain ⟨u1, u2, -⟩ := gs_up ha h1
      obtain ⟨w1, w2, w3⟩ : I a 55 5 = J 0 87 a ∧ I 0 0 7 = nI T ∧ J 0 60 2 = nI T := by
        obtain ⟨rw, gv, cl, A, jl, ⟨ms, H, B, K, lg, fb, fq, mk, hc⟩, hg, hns, hW⟩ := h1
        exact ⟨(hns a ha).2.1.2.1, hc.2.1.2.2.2.1, hc.2.1.2.2.2.2.1⟩
      have c10 : gX10_call n (nI a) p1 p2 p3 p4 p5 I = if (I a 40 5) = 0 then some (.inr 60, I) else (if (I a 55 5) = (nI 1) then some (.inr 60, I) else ((gX10_goOn n a (cBI I a (I 0 0 7) p1 p2 p3 p4 p5)).bind (fun q6 => if (q6 a 55 5) = (nI 1) then some (.inl (some (nI 0)), q6) else some (.inl (some (nI 1)), q6)))) := by
        have eb : (gX8_begin n a p1 (I 0 0 7) I).bind (fun q4 => (gX8_take n a p2 p3 p4 p5 q4).bind (fun q5 => (gX10_goOn n a q5).bind (fun q6 => if (q6 a 55 5) = (nI 1) then (bX10_call_121 n (nI 0) q6) else (bX10_call_121 n (nI 1) q6)))) = (gX10_goOn n a (cBI I a (I 0 0 7) p1 p2 p3 p4 p5)).bind (fun q6 => if (q6 a 55 5) = (nI 1) then some (.inl (some (nI 0)), q6) else some (.inl (some (nI 1)), q6)) := rfl
        rw [gX10_call, bX10_call_0, s1, Option.bind_some]
        dsimp only
        rw [if_neg n10, t1, Option.bind_some]
        dsimp only
        rw [if_neg n10, am_gd_of ga, ka, eb]
        rfl
      have c11 : gX11_call n (nI a) p1 p2 p3 p4 p5 J = if J 0 65 a = 0 then bX11_call_67 n (nI a) p1 p2 p3 p4 p5 (nI 1) (nI 0) J else (if J 0 87 a = nI 1 then bX11_call_67 n (nI a) p1 p2 p3 p4 p5 (nI 1) (nI 0) J else bX11_call_67 n (nI a) p1 p2 p3 p4 p5 (nI 0) (nI 0) J) := by
        rw [gX11_call, bX11_call_0, s2, Option.bind_some]
        dsimp only
        rw [if_neg n10, t2, Option.bind_some]
        dsimp only
        rw [if_neg n10, bX11_call_27, if_neg n10, bX11_call_40, if_neg n10, am_gd_of ga4, ka, r_isc (by omega), Option.bind_some]
        dsimp only
        by_cases c : J 0 87 a = nI 1
        · rw [if_pos c, if_pos c, if_neg n10]
          rfl
        · rw [if_neg c, if_neg c, if_pos n00]
          rfl
      have ref : bX11_call_67 n (nI a) p1 p2 p3 p4 p5 (nI 1) (nI 0) J = some (nI 0, am_up J 0 60 0 (nI 2)) := by
        rw [bX11_call_67, r_ref2, Option.bind_some]
        dsimp only
        rw [if_neg n10]
      by_cases hU : J 0 65 a = nI 1
      · by_cases hC : J 0 87 a = nI 1
        · right; right
          refine ⟨nI 0, _, ?_, ?_, up60, inv_60 h⟩
          rotate_left
          · rw [c11, if_neg (by rw [hU]; decide), if_pos hC, ref]
          · rw [c10, if_neg (by rw [u1, hU]; decide), if_pos (by rw [w1, hC])]
        · left
          obtain ⟨q1, q2⟩ := gs_60 (v := nI 0) h1
          have o65 : am_up J 0 60 0 (nI 0) 0 65 = J 0 65 := z_upj _ _ _ _ _ _ _ (by omega)
          have o87 : am_up J 0 60 0 (nI 0) 0 87 = J 0 87 := z_upj _ _ _ _ _ _ _ (by omega)
          obtain ⟨f, hf, hf1⟩ := fu_ex
          obtain ⟨J2, r1, r2, r3, r4⟩ := r_c169 (n := n) (x := a) (by omega) 136 0 am_fu (cBJ (am_up J 0 60 0 (nI 0)) a (nI T) p1 p2 p3 p4 p5) (by omega) (by rw [hf]; omega)
          obtain ⟨I', J', e', y1, y2, y3, y4, y5⟩ := gs_call (p1 := p1) (p2 := p2) (p3 := p3) (p4 := p4) (p5 := p5) (J2 := J2) ha q1 (by rw [o65]; exact hU) (by rw [o87]; exact hC) hV (by omega) r2 (fun k hk => by rw [r3 k (by omega), cj_o (by omega)]) (fun c hc => r4 c (by omega) hc)
          have e5 : I' a 55 5 = J' 0 87 a := by
            obtain ⟨rw, gv, cl, A, jl, hc, hg, hns, hW⟩ := y3
            exact (hns a ha).2.1.2.1
          refine ⟨if J' 0 87 a = nI 1 then nI 0 else nI 1, I', J', ?_, ?_, by rw [y5]; exact up60, T, e', g, y3, h2, by omega, by omega⟩
          · rw [c10, if_neg (by rw [u1, hU]; decide), if_neg (by rw [w1]; exact hC), w2, y1, Option.bind_some, e5]
            by_cases c : J' 0 87 a = nI 1
            · rw [if_pos c, if_pos c]
            · rw [if_neg c, if_neg c]
          · have e67 : bX11_call_67 n (nI a) p1 p2 p3 p4 p5 (nI 0) (nI 0) J = bX11_call_169 n am_fu (nI a) (nI 0) (cBJ (am_up J 0 60 0 (nI 0)) a (nI T) p1 p2 p3 p4 p5) := by
              rw [bX11_call_67, r_ref0, Option.bind_some]
              dsimp only
              rw [if_pos n00]
              simp only [am_gd_of ga4, ka, am_lt]
              have e2 : am_up (am_up (am_up (am_up (am_up (am_up (am_up (am_up J 0 60 0 (nI 0)) 0 82 a p1) 0 83 a p2) 0 84 a p3) 0 85 a p4) 0 86 a p5) 0 87 a (nI 1)) 0 88 a (nI 0) 0 60 2 = nI T := by
                rw [z_upj _ _ _ _ _ _ _ (by omega), z_upj _ _ _ _ _ _ _ (by omega), z_upj _ _ _ _ _ _ _ (by omega), z_upj _ _ _ _ _ _ _ (by omega), z_upj _ _ _ _ _ _ _ (by omega), z_upj _ _ _ _ _ _ _ (by omega), z_upj _ _ _ _ _ _ _ (by omega), z_upk, if_neg (by omega)]
                exact w3
              rw [e2]
              rfl
            rw [c11, if_neg (by rw [hU]; decide), if_neg hC, e67, r1, y2, Option.bind_some]
            by_cases c : J' 0 87 a = nI 1
            · rw [if_pos c, if_pos c]
            · rw [if_neg c, if_neg c]
      · have h0 : J 0 65 a = nI 0 := u2.resolve_right hU
        right; right
        refine ⟨nI 0, _, ?_, ?_, up60, inv_60 h⟩
        rotate_left
        · rw [c11, if_pos (show J 0 65 a = 0 from h0), ref]
        · rw [c10, if_pos (show I a 40 5 = 0 by rw [u1, h0]; rfl)]
    · right; left
      refine ⟨nI 0, _, ?_, bad ?_, up60, inv_60 h⟩
      · rw [gX10_call, bX10_call_0, s1, Option.bind_some]
        dsimp only
        rw [if_neg n10, t1, Option.bind_some]
        dsimp only
        rw [if_pos n00]
        rfl
      · rw [gX11_call, bX11_call_0, s2, Option.bind_some]
        dsimp only
        rw [if_neg n10, t2, Option.bind_some]
        dsimp only
        rw [if_pos n00]
  · right; left
    refine ⟨nI 0, _, ?_, bad ?_, up60, inv_60 h⟩
    · rw [gX10_call, bX10_call_0, s1, Option.bind_some]
      dsimp only
      rw [if_pos n00]
      rfl
    · rw [gX11_call, bX11_call_0, s2, Option.bind_some]
      dsimp only
      rw [if_pos n00]
end CALL
