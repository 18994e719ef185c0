
/-- a node's call is under way -/
def cal (J : am_I) (x : Nat) : Nat := if J 0 87 x = nI 1 then 1 else 0
/-- a node, its call aside of where it waits -/
def NS0 (x : Nat) (I J : am_I) : Prop := PW x I J ∧ TS x I J ∧ ((J 0 87 x = nI 1 ∧ ∃ ls, CGx x I J ls) ∨ (¬ J 0 87 x = nI 1 ∧ NCx x I J))
/-- a node at rest -/
def NS (x : Nat) (I J : am_I) : Prop := PW x I J ∧ TS x I J ∧ ((J 0 87 x = nI 1 ∧ ∃ ls, CGx x I J ls ∧ WWx x I J ls) ∨ (¬ J 0 87 x = nI 1 ∧ NCx x I J))
theorem NS.n0 {x : Nat} {I J : am_I} (h : NS x I J) : NS0 x I J := ⟨h.1, h.2.1, h.2.2.imp (fun q => ⟨q.1, q.2.elim fun ls w => ⟨ls, w.1⟩⟩) id⟩
section SYNC
variable {n T e x : Nat} {I J I' J' : am_I} {rw : Nat → List (Nat × Nat)} {gv cl A : Nat → Nat → Nat} {jl : Nat → List Nat} {ls : List Nat}
theorem r_sync {g : Nat} (hx : x < 4) (hk : J 0 82 x = nI 10) (h : gX11_goOnSync n (nI x) J = some J') : bX11_goOn_6 n (g + 2) (nI x) (nI 1) J = some J' := by
  conv => lhs; unfold bX11_goOn_6
  dsimp only
  refine (if_neg (show ¬ nI 1 = 0 by decide)).trans ?_
  refine (am_gd_of (by rw [z_inb (by omega)]; exact decide_eq_true hx)).trans ?_
  rw [z_clamp (by omega), if_pos hk, h, Option.bind_some, r_off]
theorem r_sy46 (hx : x < 4) (h72 : ¬ J 0 72 x = nI 0) : bX11_goOnSync_46 n (nI x) J = some J := by
  unfold bX11_goOnSync_46
  refine (am_gd_of (by rw [z_inb (by omega)]; exact decide_eq_true hx)).trans ?_
  rw [z_clamp (by omega)]
  exact (if_neg (show ¬ J 0 72 x = 0 from h72)).trans rfl
theorem r_syf (hx : x < 4) (h72 : ¬ J 0 72 x = nI 0) : gX11_goOnSync n (nI x) J = some J := by
  rw [gX11_goOnSync, bX11_goOnSync_0]
  refine (am_gd_of (by rw [z_inb (by omega)]; exact decide_eq_true hx)).trans ?_
  rw [z_clamp (by omega)]
  exact (if_neg (show ¬ J 0 72 x = 0 from h72)).trans (r_sy46 hx h72)
theorem r_syb (hx : x < 4) (h72 : J 0 72 x = nI 0) (h70 : ¬ J 0 70 x = nI 0) (h : gX11_beginFlush n (nI x) J = some J') : gX11_goOnSync n (nI x) J = some J' := by
  rw [gX11_goOnSync, bX11_goOnSync_0]
  refine (am_gd_of (by rw [z_inb (by omega)]; exact decide_eq_true hx)).trans ?_
  rw [z_clamp (by omega)]
  refine (if_pos (show J 0 72 x = 0 from h72)).trans ?_
  refine (am_gd_of (by rw [z_inb (by omega)]; exact decide_eq_true hx)).trans ?_
  refine (if_neg (show ¬ J 0 70 x = 0 from h70)).trans ?_
  unfold bX11_goOnSync_46
  refine (am_gd_of (by rw [z_inb (by omega)]; exact decide_eq_true hx)).trans ?_
  rw [z_clamp (by omega)]
  refine (if_pos (show J 0 72 x = 0 from h72)).trans ?_
  rw [h, Option.bind_some]
  rfl
theorem r_sye {J2 : am_I} (hx : x < 4) (h72 : J 0 72 x = nI 0) (h70 : J 0 70 x = nI 0) (h : gX11_note n (nI x) (nI 2) (nI 0) (nI 0) (am_up J 0 91 x (J 0 91 x + nI 1)) = some J2) (h' : gX11_end n (nI x) (nI 2) (nI 0) J2 = some J') : gX11_goOnSync n (nI x) J = some J' := by
  rw [gX11_goOnSync, bX11_goOnSync_0]
  refine (am_gd_of (by rw [z_inb (by omega)]; exact decide_eq_true hx)).trans ?_
  rw [z_clamp (by omega)]
  refine (if_pos (show J 0 72 x = 0 from h72)).trans ?_
  refine (am_gd_of (by rw [z_inb (by omega)]; exact decide_eq_true hx)).trans ?_
  refine (if_pos (show J 0 70 x = 0 from h70)).trans ?_
  refine (am_gd_of (by rw [z_inb (by omega)]; exact decide_eq_true hx)).trans ?_
  refine (am_gd_of (by rw [z_inb (by omega)]; exact decide_eq_true hx)).trans ?_
  rw [am_lt, h, Option.bind_some, h', Option.bind_some]
  rfl
/-- the class: SYNC waits for the log -/
theorem c_sw {lg fb : List Nat} {fq mk : Nat} (h5 : I x 55 5 = nI 1) (hk : I x 55 0 = nI 10) (h11 : I x 55 11 = nI 0 ∨ fb = []) (hJ : JNr x I J lg fb fq mk) (hid : ¬ (lg = [] ∧ fb = [])) (hb : gX10_beginFlush n x (am_up (am_up I x 55 11 (nI 0)) x 55 11 (nI 1)) = some I') : gX10_mayGoOn n x I = some (nI 0, I') := by
  have hJ1 : JNr x (am_up I x 55 11 (nI 0)) J lg fb fq mk := by
    have o : ∀ j, ¬ j = 55 → am_up I x 55 11 (nI 0) x j = I x j := fun j q => z_upj _ _ _ _ _ _ _ (by omega)
    exact jn_cgz hJ (o 44 (by omega)) (o 45 (by omega)) (o 46 (by omega)) (o 47 (by omega)) (fun _ _ => rfl) rfl rfl rfl rfl (fun _ _ => rfl) (fun _ _ _ _ => rfl)
  have h32 : bX10_mayGoOn_32 n x x I = some (nI 0, I') := by
    rw [bX10_mayGoOn_32, am_lt]
    refine (if_pos (by rw [z_upk, if_neg (by omega)]; exact hk)).trans ?_
    rw [c_idle hJ1, if_neg hid, Option.bind_some]
    refine (if_pos (rfl : nI 0 = 0)).trans ?_
    rw [gX10_waitForLog, bX10_waitForLog_0, am_lt, hb, Option.bind_some, Option.bind_some]
  rw [gX10_mayGoOn, bX10_mayGoOn_0, if_pos h5]
  by_cases c : I x 55 11 = 0
  · rw [if_pos c, h32]
  · rw [if_neg c, c_flg hJ.2.2.2.2.2.2.1 hJ.2.2.2.2.2.2.2.1, Option.bind_some]
    have k0 : fb = [] := h11.elim (fun q => absurd q c) id
    rw [if_pos (show fb.length = 0 by rw [k0]; rfl)]
    exact (if_pos (rfl : nI 0 = 0)).trans h32
theorem c_si {fq mk : Nat} (h5 : I x 55 5 = nI 1) (hk : I x 55 0 = nI 10) (hJ : JNr x I J [] [] fq mk) : gX10_mayGoOn n x I = some (nI 1, am_up I x 55 11 (nI 0)) := by
  have hJ1 : JNr x (am_up I x 55 11 (nI 0)) J [] [] fq mk := by
    have o : ∀ j, ¬ j = 55 → am_up I x 55 11 (nI 0) x j = I x j := fun j q => z_upj _ _ _ _ _ _ _ (by omega)
    exact jn_cgz hJ (o 44 (by omega)) (o 45 (by omega)) (o 46 (by omega)) (o 47 (by omega)) (fun _ _ => rfl) rfl rfl rfl rfl (fun _ _ => rfl) (fun _ _ _ _ => rfl)
  have h32 : bX10_mayGoOn_32 n x x I = some (nI 1, am_up I x 55 11 (nI 0)) := by
    rw [bX10_mayGoOn_32, am_lt]
    refine (if_pos (by rw [z_upk, if_neg (by omega)]; exact hk)).trans ?_
    rw [c_idle hJ1, if_pos ⟨rfl, rfl⟩, Option.bind_some]
    exact (if_neg (show ¬ nI 1 = 0 by decide)).trans rfl
  rw [gX10_mayGoOn, bX10_mayGoOn_0, if_pos h5]
  by_cases c : I x 55 11 = 0
  · rw [if_pos c, h32]
  · rw [if_neg c, c_flg hJ.2.2.2.2.2.2.1 hJ.2.2.2.2.2.2.2.1, Option.bind_some, if_pos (show ([] : List Nat).length = 0 from rfl)]
    exact (if_pos (rfl : nI 0 = 0)).trans h32
theorem c_pin0 (h : I x 48 6 = nI 0) : gX10_pinAll n x I = some (nI 1, I) := by
  obtain ⟨f, hf, -⟩ := fu_ex
  rw [gX10_pinAll, bX10_pinAll_0, hf]
  show (if I x 48 6 ≤ nI 0 then some (nI 1, I) else _) = _
  rw [if_pos (by rw [h]; decide)]
/-- SYNC goes on, both sides -/
theorem go_sync {f g : Nat} (hx : x < n) (he : e < 190) (hco : COg n T e rw gv cl A jl I J) (hP : PW x I J) (hS : TS x I J) (hG : CGx x I J ls) (h87 : J 0 87 x = nI 1) (hN : J 0 82 x = nI 10) : ∃ I' J', bX10_goOn_2 n (f + 2) x (nI 0) I = some I' ∧ bX11_goOn_6 n (g + 2) (nI x) (nI 1) J = some J' ∧ GO n T x e rw gv cl jl I J I' J' := by
  obtain ⟨ms, H, B, K, lg, fb, fq, mk, h⟩ := hco
  have hn := h.1.2
  have hx4 : x < 4 := by omega
  have hJN := (h.2.2.2.2.1 x hx).2.2.1
  have hG' := hG
  obtain ⟨g1, g2, g3, g4, g5, g6, g7, g8, g9⟩ := hG
  obtain ⟨h93, els⟩ := g9 hN
  subst els
  have h5 : I x 55 5 = nI 1 := by rw [hS.2.1]; exact h87
  have h0 : I x 55 0 = nI 10 := by rw [hS.1 0 (by omega)]; exact hN
  have h77 : ∀ r, r < 136 → J 0 77 (136 * x + r) = nI 0 := fun r hr => Classical.byContradiction fun q => absurd (g6 r hr q).1 (by simp)
  have h79 : ∀ r, r < 136 → J 0 79 (136 * x + r) = nI 1 → r ∈ ([] : List Nat) := fun r hr q => (g5 r hr q).1
  by_cases hw : I x 55 11 = nI 1 ∧ ¬ fb x = []
  · have hk : ¬ (fb x).length = 0 := fun q => hw.2 (List.eq_nil_of_length_eq_zero q)
    have n72 : ¬ J 0 72 x = nI 0 := fun q => hw.2 ((jn_72z hJN).mp q)
    exact ⟨I, J, c_no (by omega) (c_mayA h5 hw.1 hJN.2.2.2.2.2.2.1 hJN.2.2.2.2.2.2.2.1 hk), r_sync hx4 hN (r_syf hx4 n72), FOI.rf, FOJ.rf, hP, hS, Or.inl ⟨⟨A, ms, H, B, K, lg, fb, fq, mk, h⟩, h87, [], hG', Or.inl ⟨hw.1, n72⟩⟩⟩
  · have hB11 : I x 55 11 = nI 0 ∨ fb x = [] := by
      rcases g7 with q | q
      · exact Or.inl q
      · exact Or.inr (Classical.not_not.mp (fun c => hw ⟨q, c⟩))
    by_cases hid : lg x = [] ∧ fb x = []
    · -- it is done
      have hJN' : JNr x I J [] [] (fq x) (mk x) := by
        have := hJN
        rw [hid.1, hid.2] at this
        exact this
      have n72 : J 0 72 x = nI 0 := (jn_72z hJN).mpr hid.2
      have n70 : J 0 70 x = nI 0 := (jn_70 hJN).mpr hid.1
      have h48 : I x 48 6 = nI 0 := g3.1.2.2.1
      let I1 : am_I := am_up I x 55 11 (nI 0)
      let I2 : am_I := am_up I1 x 55 9 (I1 x 55 9 + nI 1)
      let I3 : am_I := am_up (rI5 x I2) 0 15 9 (nI 1)
      let J3 : am_I := am_up J 0 91 x (J 0 91 x + nI 1)
      have o2 : ∀ a b, ¬ (a = x ∧ b = 55) → I2 a b = I a b := fun a b q => (z_upj _ _ _ _ _ _ _ q).trans (z_upj _ _ _ _ _ _ _ q)
      have o3 : ∀ a b, ¬ (a = x ∧ b = 55) → ¬ (a = 0 ∧ b = 15) → I3 a b = I a b := fun a b q q' => by
        show am_up (am_up (am_up (am_up (am_up (am_up I2 0 15 8 (nI x)) 0 15 9 (nI 0)) 0 15 10 (nI 0)) 0 15 13 (-1 : Int32)) 0 15 16 (-1 : Int32)) 0 15 9 (nI 1) a b = _
        rw [z_upj _ _ _ _ _ _ _ q', z_upj _ _ _ _ _ _ _ q', z_upj _ _ _ _ _ _ _ q', z_upj _ _ _ _ _ _ _ q', z_upj _ _ _ _ _ _ _ q', z_upj _ _ _ _ _ _ _ q', o2 a b q]
      have k3 : ∀ k, I3 x 55 k = if k = 9 then I x 55 9 + nI 1 else if k = 11 then nI 0 else I x 55 k := fun k => by
        show am_up (am_up (am_up (am_up (am_up (am_up I2 0 15 8 (nI x)) 0 15 9 (nI 0)) 0 15 10 (nI 0)) 0 15 13 (-1 : Int32)) 0 15 16 (-1 : Int32)) 0 15 9 (nI 1) x 55 k = _
        rw [z_upj _ _ _ _ _ _ _ (by omega), z_upj _ _ _ _ _ _ _ (by omega), z_upj _ _ _ _ _ _ _ (by omega), z_upj _ _ _ _ _ _ _ (by omega), z_upj _ _ _ _ _ _ _ (by omega), z_upj _ _ _ _ _ _ _ (by omega)]
        show am_up (am_up I x 55 11 (nI 0)) x 55 9 (am_up I x 55 11 (nI 0) x 55 9 + nI 1) x 55 k = _
        rw [z_upk, z_upk, z_upk, if_neg (show ¬ (9 : Nat) = 11 by omega)]
      have k15 : ∀ k, I3 0 15 k = if k = 9 then nI 1 else if k = 16 then (-1 : Int32) else if k = 13 then (-1 : Int32) else if k = 10 then nI 0 else if k = 8 then nI x else I 0 15 k := fun k => by
        show am_up (am_up (am_up (am_up (am_up (am_up I2 0 15 8 (nI x)) 0 15 9 (nI 0)) 0 15 10 (nI 0)) 0 15 13 (-1 : Int32)) 0 15 16 (-1 : Int32)) 0 15 9 (nI 1) 0 15 k = _
        rw [z_upk, z_upk, z_upk, z_upk, z_upk, z_upk, o2 0 15 (by omega)]
        by_cases c : k = 9
        · rw [if_pos c, if_pos c]
        · simp only [c, if_false]
      have oj : ∀ a b, ¬ (a = 0 ∧ b = 91) → J3 a b = J a b := fun a b q => z_upj _ _ _ _ _ _ _ q
      have t9 := h.2.2.2.2.2.2.2.2.1
      have i5 : I3 0 15 5 = nI 0 := by rw [k15, if_neg (by omega), if_neg (by omega), if_neg (by omega), if_neg (by omega), if_neg (by omega)]; exact t9.2.2.1
      have i7 : I3 0 15 7 = nI 0 := by rw [k15, if_neg (by omega), if_neg (by omega), if_neg (by omega), if_neg (by omega), if_neg (by omega)]; exact t9.2.2.2
      have i8 : I3 0 15 8 = nI x := by rw [k15, if_neg (by omega), if_neg (by omega), if_neg (by omega), if_neg (by omega), if_pos rfl]
      have i9 : I3 0 15 9 = nI 1 := by rw [k15, if_pos rfl]
      have i10 : I3 0 15 10 = nI 0 := by rw [k15, if_neg (by omega), if_neg (by omega), if_neg (by omega), if_pos rfl]
      have co3 : CO n T e I3 J3 ms rw gv cl H A B K lg fb jl fq mk := co_irr h ⟨fun a b q1 q2 => o3 a b (by omega) (by omega), by rw [o3 0 0 (by omega) (by omega)], by rw [i5]; exact t9.2.2.1.symm, by rw [i7]; exact t9.2.2.2.symm⟩ (irJ_up (by omega))
      have hP3 : PW x I3 J3 := fun r hr => by
        have := hP r hr
        unfold WP WT at this ⊢
        rw [o3 x 52 (by omega) (by omega), oj 0 79 (by omega), oj 0 80 (by omega), oj 0 78 (by omega), oj 0 76 (by omega), oj 0 72 (by omega)]
        exact this
      obtain ⟨s1, s2, s3, s4, s5, s6, s7, s8⟩ := hS
      have hT3 : I3 0 0 7 = nI T := co3.2.1.2.2.2.1
      obtain ⟨I', J', q1, ⟨J2, q2, q3, q4⟩, q5, q6, q7, q8, q9, q10, q11⟩ := co_end2 (z0 := e) (ls := []) (st := nI 2) (vl := nI 0) (ft := nI 0) ⟨ms, H, B, K, lg, fb, fq, mk, co3⟩ (by omega) hx (by rw [oj 0 65 (by omega)]; exact g1) hP3 (by
        have := g3.1
        unfold LSc at this ⊢
        rw [o3 x 48 (by omega) (by omega), o3 x 53 (by omega) (by omega)]
        exact this) (by rw [oj 0 79 (by omega)]; exact h79) he (fun c hc => by rw [k3, if_neg (by omega), if_neg (by omega), oj 0 (82 + c) (by omega)]; exact s1 c hc) (by rw [k3, if_neg (by omega), if_neg (by omega), oj 0 89 (by omega)]; exact s3) (by
        rw [k3, if_pos rfl]
        show _ = am_up J 0 91 x (J 0 91 x + nI 1) 0 91 x
        rw [z_upk, if_pos rfl, s5]) (by rw [k3, if_neg (by omega), if_neg (by omega), oj 0 92 (by omega)]; exact s6) (Or.inl rfl) (by rw [oj 0 77 (by omega)]; exact h77)
      have n87 : ¬ J' 0 87 x = nI 1 := by rw [q8]; decide
      have hJ3 := (co3.2.2.2.2.1 x hx).2.2.1
      have hmu := c_much0 (n := n) (lg := lg x) hx hn i8 i5 i7 ⟨hJ3.2.2.1, hJ3.2.2.2.1⟩ hJ3.1.2.2.1 hJ3.1.2.1
      refine ⟨I', J', ?_, r_sync hx4 hN (r_sye hx4 n72 n70 q2 q4), FOI.tr (fun a b c1 c2 => o3 a b (by omega) (by omega)) q6, FOJ.tr ⟨fun a b c => oj a b (by omega), fun k _ => by rw [oj 0 60 (by omega)], fun j k c1 c2 _ => by rw [oj 0 j (by omega)], fun j k c1 c2 => ?_⟩ q7, q9, q10, Or.inr ⟨⟨A, q5⟩, n87, q11⟩⟩
      · have hrun : gX9_run n x (am_up (am_up I x 55 11 (nI 0)) x 55 9 (am_up I x 55 11 (nI 0) x 55 9 + nI 1)) = some I3 := run_sync (by rw [z_upk, if_neg (by omega), z_upk, if_neg (by omega)]; exact h0)
        rw [c_try (by omega) (c_si h5 h0 hJN') (c_pin0 (by rw [z_upj _ _ _ _ _ _ _ (by omega)]; exact h48)) hrun, if_pos i9]
        unfold bX10_goOn_64 bX10_goOn_153
        rw [if_neg (by rw [i9]; decide), hmu, Option.bind_some]
        refine (if_pos (rfl : nI 0 = 0)).trans ?_
        have en : gX10_endCall n x I3 = some I' := by
          rw [gX10_endCall, bX10_endCall_0, if_pos (by rw [i5]; decide), c_ends (T := T) (st := nI 2) (ft := nI 0) (I := I3) (Or.inl i9) (by rw [if_neg (by rw [i9]; decide)]) (by decide) hT3 (c_set0 i5 i7), i10]
          exact q1
        dsimp only
        rw [en, Option.bind_some, nI_add]
        exact c_end1 (by omega) (by rw [q10.2.1]; exact n87)
      · by_cases d : j = 91
        · show am_up J 0 91 x (J 0 91 x + nI 1) 0 j k = _
          rw [d, z_upk, if_neg c2]
        · rw [oj 0 j (by omega)]
    · -- it waits for the log
      let I1 : am_I := am_up (am_up I x 55 11 (nI 0)) x 55 11 (nI 1)
      have o1 : ∀ a b, ¬ (a = x ∧ b = 55) → I1 a b = I a b := fun a b q => (z_upj _ _ _ _ _ _ _ q).trans (z_upj _ _ _ _ _ _ _ q)
      have k1 : ∀ k, I1 x 55 k = if k = 11 then nI 1 else I x 55 k := fun k => by
        show am_up (am_up I x 55 11 (nI 0)) x 55 11 (nI 1) x 55 k = _
        rw [z_upk, z_upk]
        by_cases c : k = 11
        · rw [if_pos c, if_pos c]
        · rw [if_neg c, if_neg c, if_neg c]
      have co1 : CO n T e I1 J ms rw gv cl H A B K lg fb jl fq mk := co_irr h ⟨fun a b q _ => o1 a b (by omega), by rw [o1 0 0 (by omega)], by rw [o1 0 15 (by omega)], by rw [o1 0 15 (by omega)]⟩ irJ.rf
      obtain ⟨I', J', lg', fb', fq', mk', w1, w2, w3, w4, w5, w6, w7, w8, w9, w10, w11⟩ := co_cbf co1 hx g1
      have hidJ : ¬ (J 0 70 x = nI 0 ∧ J 0 72 x = nI 0) := fun q => hid ⟨(jn_70 hJN).mp q.1, (jn_72z hJN).mp q.2⟩
      have n72 := w11 hidJ
      have k2 : ∀ k, I' x 55 k = if k = 11 then nI 1 else I x 55 k := fun k => by rw [w4 x 55 (by omega) (by omega)]; exact k1 k
      have i11 : I' x 55 11 = nI 1 := by rw [k2, if_pos rfl]
      refine ⟨I', J', c_no (by omega) (c_sw h5 h0 hB11 hJN hid w1), r_sync hx4 hN ?_, FOI.tr (fun a b q1 q2 => o1 a b (by omega)) w4.o, w5.o, fun r hr => ?_, ?_, Or.inl ⟨⟨A, ms, H, B, K, lg', fb', fq', mk', w3⟩, by rw [w5.1 0 87 (by omega)]; exact h87, [], ⟨by rw [w5.1 0 65 (by omega)]; exact g1, by rw [w5.1 0 82 (by omega), w5.1 0 83 (by omega), w5.1 0 84 (by omega), w5.1 0 85 (by omega), w5.1 0 86 (by omega)]; exact g2, ?_, by rw [k2, if_neg (by omega)]; exact g4, fun c hc q => ?_, fun c hc q => ?_, Or.inr i11, fun q => absurd (by rw [w5.1 0 82 (by omega)]; exact hN) q, fun _ => ⟨by rw [w5.1 0 93 (by omega)]; exact h93, rfl⟩⟩, Or.inl ⟨i11, n72⟩⟩⟩
      · by_cases c : J 0 72 x = nI 0
        · have c1 := (jn_72z hJN).mp c
          have c2 : ¬ lg x = [] := fun q => hid ⟨q, c1⟩
          rw [if_pos ⟨c1, c2⟩] at w2
          exact r_syb hx4 c (fun q => c2 ((jn_70 hJN).mp q)) w2
        · rw [if_neg (fun q => c ((jn_72z hJN).mpr q.1))] at w2
          rw [← Option.some.inj w2]
          exact r_syf hx4 c
      · have := hP r hr
        unfold WP WT at this ⊢
        rw [w10, o1 x 52 (by omega), w6, w7, w8, w9]
        exact ⟨this.1, this.2.imp id (fun q => ⟨q.1, q.2.imp id (fun w => ⟨w.1, w.2.1, w.2.2.1, n72⟩)⟩)⟩
      · obtain ⟨s1, s2, s3, s4, s5, s6, s7, s8⟩ := hS
        unfold TS
        rw [k2, if_neg (by omega), k2, if_neg (by omega), k2, if_neg (by omega), k2, if_neg (by omega), k2, if_neg (by omega), k2, if_neg (by omega), w5.1 0 87 (by omega), w5.1 0 88 (by omega), w5.1 0 89 (by omega), w5.1 0 90 (by omega), w5.1 0 91 (by omega), w5.1 0 92 (by omega)]
        exact ⟨fun c hc => by rw [k2, if_neg (by omega), w5.1 0 (82 + c) (by omega)]; exact s1 c hc, s2, s3, s4, s5, s6, s7, s8⟩
      · unfold LSr LSc at g3 ⊢
        rw [w4 x 48 (by omega) (by omega), w4 x 53 (by omega) (by omega), w4 x 54 (by omega) (by omega), o1 x 48 (by omega), o1 x 53 (by omega), o1 x 54 (by omega), w5.1 0 81 (by omega)]
        exact g3
      · rw [w8] at q; exact absurd (h79 c hc q) (by simp)
      · rw [w5.1 0 77 (by omega)] at q; exact absurd (h77 c hc) q
/-- A NODE'S CALL GOES ON, both sides -/
theorem p_go (hx : x < n) (hco : COg n T e rw gv cl A jl I J) (hN : NS0 x I J) (he : e + cal J x ≤ 190) : ∃ I' J' e', gX10_goOn n x I = some I' ∧ gX11_goOn n (nI x) J = some J' ∧ FOI x I I' ∧ FOJ x J J' ∧ (∃ A', COg n T e' rw gv cl A' jl I' J') ∧ NS x I' J' ∧ e' + cal J' x = e + cal J x := by
  obtain ⟨hP, hS, hst⟩ := hN
  have hx4 : x < 4 := by
    obtain ⟨ms, H, B, K, lg, fb, fq, mk, h⟩ := hco
    have := h.1.2
    omega
  obtain ⟨f, hf, hf1⟩ := fu_ex
  rcases hst with ⟨h87, ls, hG⟩ | ⟨h87, hC⟩
  · have hc : cal J x = 1 := if_pos h87
    rw [hc] at he ⊢
    have isc : gX11_isCalling n (nI x) J = some (nI 1, J) := by
      rw [gX11_isCalling, bX11_isCalling_0]
      refine (am_gd_of (by rw [z_inb (by omega)]; exact decide_eq_true hx4)).trans ?_
      rw [z_clamp (by omega), if_pos h87]
      rfl
    have key : ∃ I' J', bX10_goOn_2 n (f + 1) x (nI 0) I = some I' ∧ bX11_goOn_6 n (f + 1) (nI x) (nI 1) J = some J' ∧ GO n T x e rw gv cl jl I J I' J' := by
      by_cases hN : J 0 82 x = nI 10
      · obtain ⟨f, rfl⟩ : ∃ f', f = f' + 1 := ⟨f - 1, by omega⟩
        exact go_sync hx (by omega) hco hP hS hG h87 hN
      · exact go_lp hx (by omega) 273 (f + 1) (f + 1) 0 I J ls A (by omega) (by omega) (by omega) (by omega) hco hP hS hG h87 hN
    obtain ⟨I', J', k1, k2, k3, k4, k5, k6, k7⟩ := key
    have c1 : gX10_goOn n x I = some I' := by rw [gX10_goOn, bX10_goOn_0, hf]; exact k1
    have c2 : gX11_goOn n (nI x) J = some J' := by rw [gX11_goOn, bX11_goOn_0, isc, Option.bind_some, hf]; exact k2
    rcases k7 with ⟨w1, w2, ls', w3, w4⟩ | ⟨w1, w2, w3⟩
    · exact ⟨I', J', e, c1, c2, k3, k4, w1, ⟨k5, k6, Or.inl ⟨w2, ls', w3, w4⟩⟩, by rw [show cal J' x = 1 from if_pos w2]⟩
    · exact ⟨I', J', e + 1, c1, c2, k3, k4, w1, ⟨k5, k6, Or.inr ⟨w2, w3⟩⟩, by rw [show cal J' x = 0 from if_neg w2]⟩
  · refine ⟨I, J, e, ?_, ?_, FOI.rf, FOJ.rf, ⟨A, hco⟩, ⟨hP, hS, Or.inr ⟨h87, hC⟩⟩, rfl⟩
    · rw [gX10_goOn, bX10_goOn_0, hf]
      exact c_end1 (by omega) (by rw [hS.2.1]; exact h87)
    · rw [gX11_goOn, bX11_goOn_0, gX11_isCalling, bX11_isCalling_0]
      have : (am_gd (am_inb (nI x) 4) (if J 0 87 (nI x).toNatClampNeg = nI 1 then bX11_isCalling_15 n (nI 1) J else bX11_isCalling_15 n (nI 0) J)) = some (nI 0, J) := by
        refine (am_gd_of (by rw [z_inb (by omega)]; exact decide_eq_true hx4)).trans ?_
        rw [z_clamp (by omega), if_neg h87]
        rfl
      rw [this, Option.bind_some, hf]
      exact r_off
/-- other nodes stand as they stood -/
theorem ns_fr {z : Nat} (hz : z < 4) (hne : ¬ z = x) (hx : x < 4) (hI : FOI x I I') (hJ : FOJ x J J') (h : NS z I J) : NS z I' J' ∧ cal J' z = cal J z := by
  have oI : ∀ b, 41 ≤ b → b ≤ 55 → I' z b = I z b := fun b q1 q2 => hI z b (by omega) (by omega)
  have j7 : ∀ j r, 76 ≤ j → j ≤ 81 → r < 136 → J' 0 j (136 * z + r) = J 0 j (136 * z + r) := fun j r q1 q2 q3 => hJ.2.2.1 j _ q1 q2 (by omega)
  have j8 : ∀ j, j = 72 ∨ (87 ≤ j ∧ j ≤ 93) → J' 0 j z = J 0 j z := fun j q => hJ.2.2.2 j z q hne
  have j2 : ∀ j, 82 ≤ j → j ≤ 86 → J' 0 j = J 0 j := fun j q1 q2 => hJ.1 0 j (by omega)
  have e65 : J' 0 65 = J 0 65 := hJ.1 0 65 (by omega)
  obtain ⟨hP, hS, hst⟩ := h
  have hc : cal J' z = cal J z := by unfold cal; rw [j8 87 (by omega)]
  refine ⟨⟨fun r hr => ?_, ?_, ?_⟩, hc⟩
  · have := hP r hr
    unfold WP WT at this ⊢
    rw [oI 52 (by omega) (by omega), j7 79 r (by omega) (by omega) hr, j7 80 r (by omega) (by omega) hr, j7 78 r (by omega) (by omega) hr, j7 76 r (by omega) (by omega) hr, j8 72 (by omega)]
    exact this
  · unfold TS at hS ⊢
    rw [oI 55 (by omega) (by omega), j8 87 (by omega), j8 88 (by omega), j8 89 (by omega), j8 90 (by omega), j8 91 (by omega), j8 92 (by omega)]
    exact ⟨fun c hc => by rw [j2 (82 + c) (by omega) (by omega)]; exact hS.1 c hc, hS.2⟩
  · rw [j8 87 (by omega)]
    rcases hst with ⟨q1, ls, q2, q3⟩ | ⟨q1, q2⟩
    · obtain ⟨g1, g2, g3, g4, g5, g6, g7, g8, g9⟩ := q2
      refine Or.inl ⟨q1, ls, ⟨by rw [e65]; exact g1, by rw [j2 82 (by omega) (by omega), j2 83 (by omega) (by omega), j2 84 (by omega) (by omega), j2 85 (by omega) (by omega), j2 86 (by omega) (by omega)]; exact g2, ⟨?_, fun c hc => ?_⟩, by rw [oI 55 (by omega) (by omega)]; exact g4, fun c hc q => ?_, fun c hc q => ?_, by rw [oI 55 (by omega) (by omega)]; exact g7, by rw [j2 82 (by omega) (by omega), oI 55 (by omega) (by omega), j8 93 (by omega)]; exact g8, by rw [j2 82 (by omega) (by omega), j8 93 (by omega)]; exact g9⟩, ?_⟩
      · have := g3.1
        unfold LSc at this ⊢
        rw [oI 48 (by omega) (by omega), oI 53 (by omega) (by omega)]
        exact this
      · rw [oI 54 (by omega) (by omega), j7 81 c (by omega) (by omega) hc]
        exact g3.2 c hc
      · rw [j7 79 c (by omega) (by omega) hc] at q
        rw [j7 76 c (by omega) (by omega) hc, j7 81 c (by omega) (by omega) hc]
        exact g5 c hc q
      · rw [j7 77 c (by omega) (by omega) hc] at q
        rw [j7 76 c (by omega) (by omega) hc, j7 81 c (by omega) (by omega) hc, j7 79 c (by omega) (by omega) hc, oI 55 (by omega) (by omega)]
        obtain ⟨w1, w2, w3, w4, w5⟩ := g6 c hc q
        exact ⟨w1, w2, w3, fun c' h1 h2 => by rw [j7 79 c' (by omega) (by omega) (by omega)]; exact w4 c' h1 h2, w5⟩
      · rcases q3 with ⟨w1, w2⟩ | ⟨w1, w2, s, w3, w4, w5, w6, w7, w8⟩
        · exact Or.inl ⟨by rw [oI 55 (by omega) (by omega)]; exact w1, by rw [j8 72 (by omega)]; exact w2⟩
        · refine Or.inr ⟨by rw [oI 55 (by omega) (by omega)]; exact w1, by rw [j2 82 (by omega) (by omega)]; exact w2, s, w3, w4, ?_, fun c h1 h2 => ?_, ?_, ?_⟩
          · rw [j7 79 s (by omega) (by omega) w4]; exact w5
          · rw [j7 79 c (by omega) (by omega) (by omega)]; exact w6 c h1 h2
          · rw [j7 76 s (by omega) (by omega) w4, j7 81 s (by omega) (by omega) w4, j7 78 s (by omega) (by omega) w4]; exact w7
          · rw [j7 78 s (by omega) (by omega) w4, j7 77 s (by omega) (by omega) w4]; exact w8
    · obtain ⟨w1, w2, w3, w4⟩ := q2
      refine Or.inr ⟨q1, by rw [oI 55 (by omega) (by omega)]; exact w1, by rw [oI 48 (by omega) (by omega)]; exact w2, by rw [oI 54 (by omega) (by omega)]; exact w3, fun r hr => ?_⟩
      rw [j7 79 r (by omega) (by omega) hr, j7 77 r (by omega) (by omega) hr]
      exact w4 r hr
end SYNC
