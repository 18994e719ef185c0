
section OVER
variable {n T e x : Nat} {I J I' J' I0 J0 : am_I} {ms : List (Nat → Nat)} {rw : Nat → List (Nat × Nat)} {gv cl H A B : Nat → Nat → Nat} {K : Nat → Nat → Int} {lg fb jl : Nat → List Nat} {fq mk : Nat → Nat} {ls : List Nat}
theorem c_set0 (h5 : I 0 15 5 = nI 0) (h7 : I 0 15 7 = nI 0) : gX9_settle n I = some I := by
  obtain ⟨f, hf, -⟩ := fu_ex
  have e : am_up (am_up I 0 15 5 (nI 0)) 0 15 7 (nI 0) = I := by
    funext a b k
    by_cases q : a = 0 ∧ b = 15
    · obtain ⟨rfl, rfl⟩ := q
      rw [z_upk, z_upk]
      by_cases k7 : k = 7
      · rw [if_pos k7, k7, h7]
      · rw [if_neg k7]
        by_cases k5 : k = 5
        · rw [if_pos k5, k5, h5]
        · rw [if_neg k5]
    · rw [z_upj _ _ _ _ _ _ _ q, z_upj _ _ _ _ _ _ _ q]
  have l0 : nI 0 ≤ nI 0 := by rw [z_le (by omega) (by omega)]; exact Nat.le_refl _
  have fg : gX9_forget n I = some I := by
    rw [gX9_forget, bX9_forget_0, hf]
    show (if I 0 15 5 ≤ nI 0 then some (am_up (am_up I 0 15 5 (nI 0)) 0 15 7 (nI 0)) else _) = _
    rw [if_pos (by rw [h5]; exact l0), e]
  rw [gX9_settle, bX9_settle_0, hf]
  show (if I 0 15 7 ≤ nI 0 then bX9_settle_50 n am_fu (nI 0) I else _) = _
  rw [if_pos (by rw [h7]; exact l0), hf]
  show (if I 0 15 5 ≤ nI 0 then ((gX9_forget n I).bind (fun q1 => some q1)) else _) = _
  rw [if_pos (by rw [h5]; exact l0), fg, Option.bind_some]
/-- nothing is changed: it isn't too much -/
theorem c_much0 {lg : List Nat} (hy : x < n) (hn : n ≤ 4) (h8 : I 0 15 8 = nI x) (h5 : I 0 15 5 = nI 0) (h7 : I 0 15 7 = nI 0) (hL : LCl x I lg) (hlg : lg.length ≤ 16) (hl6 : ∀ c, c ∈ lg → c < 640) : gX9_isTooMuch n I = some (nI 0, I) := by
  have := c_tooM (gn := []) (cv := []) (lg := lg) hy hn ⟨h7, fun k b q => by simp at q, by simp, fun b q => by simp at q⟩ h8 h5 (by simp) (fun b q => by simp at q) (fun k b q => by simp at q) hL hlg hl6
  rw [this]
  have e : (tgt lg [] []).length ≤ 16 := by
    unfold tgt
    rw [List.filter_nil, List.append_nil]
    exact Nat.le_trans (List.length_filter_le _ _) hlg
  rw [if_neg (by omega)]
/-- a call ends, and what stands then -/
theorem co_end2 {z0 : Nat} {ls : List Nat} {st vl ft : Int32} (h : ∃ ms H B K lg fb fq mk, COz z0 n T e I J ms rw gv cl H A B K lg fb jl fq mk) (hz : z0 ≤ e + 1) (hx : x < n) (hU : J 0 65 x = nI 1) (hP : PW x I J) (hls : LSc x I ls) (hpl : ∀ r, r < 136 → J 0 79 (136 * x + r) = nI 1 → r ∈ ls) (he : e < 190) (hc : ∀ c, c < 5 → I x 55 c = J 0 (82 + c) x) (hb : I x 55 7 = J 0 89 x) (h9 : I x 55 9 = J 0 91 x) (h10 : I x 55 10 = J 0 92 x) (hst : st = nI 2 ∨ st = nI 3) (hA : ∀ r, r < 136 → J 0 77 (136 * x + r) = nI 0) : ∃ I' J', (gX8_end n x st vl (nI T) I).bind (fun q1 => bX10_endCall_75 n x ft (q1 0 0 7) x q1) = some I' ∧ (∃ J2, gX11_note n (nI x) st vl ft J = some J2 ∧ (∀ k, ¬ k = 63 → J2 0 60 k = J 0 60 k) ∧ gX11_end n (nI x) st vl J2 = some J') ∧ COg n T (e + 1) rw gv cl A jl I' J' ∧ FOI x I I' ∧ FOJ x J J' ∧ J' 0 87 x = st ∧ PW x I' J' ∧ TS x I' J' ∧ NCx x I' J' := by
  obtain ⟨I', J', g1, g2, g3, g4, g5, g6, g7, g8, g9, g10, g11, g12, g13, g14, g15, g16, g17, g18, g19, g20⟩ := co_end (ft := ft) (st := st) (vl := vl) h hz hx hU hP hls hpl he hc hb
  refine ⟨I', J', g1, g2, g3, g4, g5, g6, fun r hr => ⟨(g19 r hr).1.trans (g19 r hr).2.1.symm, Or.inr ⟨(g19 r hr).2.1, (g19 r hr).2.2⟩⟩, ⟨fun c hc' => ?_, by rw [g12, g6], ?_, g14, ?_, ?_, ?_, ?_⟩, g15, g17, g18, fun r hr => ⟨(g19 r hr).2.1, by rw [g20]; exact hA r hr⟩⟩
  · rw [g16 c (by omega), g5.1 0 (82 + c) (by omega)]
    exact hc c hc'
  · rw [g16 7 (by omega), g8]; exact hb
  · rw [g16 9 (by omega), g9]; exact h9
  · rw [g16 10 (by omega), g10]; exact h10
  · rw [g13, g6, if_pos hst, g7]
  · rcases hst with q | q
    · exact ⟨2, by omega, by rw [g6, q]⟩
    · exact ⟨3, by omega, by rw [g6, q]⟩
theorem c_ends {ft st : Int32} {l2 : Int32} (h9 : I 0 15 9 = nI 1 ∨ I 0 15 9 = nI 2) (hst : st = if I 0 15 9 = nI 2 then nI 3 else nI 2) (hft : ft = if l2 = 0 then nI 0 else nI 1) (hT : I 0 0 7 = nI T) (hs : gX9_settle n I0 = some I) : bX10_endCall_15 n x l2 I0 = (gX8_end n x st (I 0 15 10) (nI T) I).bind (fun q1 => bX10_endCall_75 n x ft (q1 0 0 7) x q1) := by
  unfold bX10_endCall_15
  rw [hs, Option.bind_some]
  have key : ∀ s, bX10_endCall_43 n x l2 s x I = (gX8_end n x s (I 0 15 10) (nI T) I).bind (fun q1 => bX10_endCall_75 n x ft (q1 0 0 7) x q1) := fun s => by
    unfold bX10_endCall_43
    rw [hT, hft]
    by_cases c : l2 = 0
    · rw [if_pos c]
      congr 1
      funext q1
      rw [if_pos c]
    · rw [if_neg c]
      congr 1
      funext q1
      rw [if_neg c]
  by_cases c : I 0 15 9 = nI 2
  · rw [if_pos c, key, hst, if_pos c]
  · rw [if_neg c, key, hst, if_neg c]
/-- a try with a fault: it is undone, the call ends -/
theorem go_fault (h : CO n T e I0 J0 ms rw gv cl H A B K lg fb jl fq mk) (hx : x < n) (hU : J0 0 65 x = nI 1) (hP : PW x I0 J0) (hls : LSc x I0 ls) (hpl : ∀ r, r < 136 → J0 0 79 (136 * x + r) = nI 1 → r ∈ ls) (he : e < 190) (hS : TS x I0 J0) (hA : ∀ r, r < 136 → J0 0 77 (136 * x + r) = nI 0) (hC : TC n x (K x) I0 J0) (hE : EN x (K x) (sST n lg fb jl I0 J0) I0 J0 I J) (h8 : I 0 15 8 = nI x) (h3 : I 0 15 9 = nI 2) {k2 : Nat → Int32 → am_I → Option am_I} {l2 : Nat} :
    ∃ I' J', (gX9_undo n I).bind (fun q5 => bX10_goOn_64 n k2 x (nI l2) q5) = k2 x (nI l2 + nI 1) I' ∧ J 0 60 52 = (-1 : Int32) ∧ ¬ J 0 60 54 = nI 0 ∧ ((gX11_undo n J).bind (fun q6 => (gX11_note n (nI x) (nI 3) (q6 0 60 54) (nI 0) q6).bind (fun q7 => (gX11_end n (nI x) (nI 3) (q7 0 60 54) q7).bind (fun q8 => some (nI 0, q8))))) = some (nI 0, J')
      ∧ COg n T (e + 1) rw gv cl A jl I' J' ∧ FOI x I0 I' ∧ FOJ x J0 J' ∧ J' 0 87 x = nI 3 ∧ PW x I' J' ∧ TS x I' J' ∧ NCx x I' J' := by
  have hn := h.1.2
  have hx4 : x < 4 := by omega
  obtain ⟨⟨X, E, F, gn, gp, pd, hT⟩, hen⟩ := hE
  obtain ⟨Bw, I3, J3, u1, u2, u3, u4, u5⟩ := tr_undo hC hT
  have hco := co_undo h hx hU u3
  have fi := u3.2.2.2.2.2.2.2.1
  have fj := u3.2.2.2.2.2.2.2.2.1
  rcases hen with ⟨q, -⟩ | ⟨-, w2, w3, w4⟩
  · rw [h3] at q; exact absurd q (by decide)
  · have oI : ∀ b, 44 ≤ b → b ≤ 55 → I3 x b = I0 x b := fun b q1 q2 => fi x b (by omega) (by omega)
    have oJ : ∀ b, (69 ≤ b ∧ b ≤ 93) → J3 0 b = J0 0 b := fun b q => fj.1 0 b (by omega)
    have i9 : I3 0 15 9 = nI 2 := by rw [u4 9 (by omega)]; exact h3
    have i8 : I3 0 15 8 = nI x := by rw [u4 8 (by omega)]; exact h8
    have i10 : I3 0 15 10 = J3 0 60 54 := by rw [u4 10 (by omega), u5 54 (by omega)]; exact w3
    have i5 := hco.2.2.2.2.2.2.2.2.1.2.2.1
    have i7 := hco.2.2.2.2.2.2.2.2.1.2.2.2
    have hTI : I3 0 0 7 = nI T := hco.2.1.2.2.2.1
    have hJN := (hco.2.2.2.2.1 x hx).2.2.1
    have hmu := c_much0 (n := n) (lg := lg x) hx hn i8 i5 i7 ⟨hJN.2.2.1, hJN.2.2.2.1⟩ hJN.1.2.2.1 hJN.1.2.1
    obtain ⟨s1, s2, s3, s4, s5, s6, s7, s8⟩ := hS
    obtain ⟨I', J', g1, ⟨J2, g2, g3, g4⟩, g5, g6, g7, g8, g9, g10, g11⟩ := co_end2 (z0 := e) (ls := ls) (st := nI 3) (vl := J3 0 60 54) (ft := nI 0) ⟨ms, H, B, K, lg, fb, fq, mk, hco⟩ (by omega) hx (by rw [fj.1 0 65 (by omega)]; exact hU) (fun r hr => by
      unfold WP WT
      rw [oI 52 (by omega) (by omega), oJ 79 (by omega), oJ 80 (by omega), oJ 78 (by omega), oJ 76 (by omega), oJ 72 (by omega)]
      exact hP r hr) (by
      unfold LSc at hls ⊢
      rw [oI 48 (by omega) (by omega), oI 53 (by omega) (by omega)]
      exact hls) (by rw [oJ 79 (by omega)]; exact hpl) he (fun c hc => by rw [oI 55 (by omega) (by omega), oJ (82 + c) (by omega)]; exact s1 c hc) (by rw [oI 55 (by omega) (by omega), oJ 89 (by omega)]; exact s3) (by rw [oI 55 (by omega) (by omega), oJ 91 (by omega)]; exact s5) (by rw [oI 55 (by omega) (by omega), oJ 92 (by omega)]; exact s6) (Or.inr rfl) (by rw [oJ 77 (by omega)]; exact hA)
    refine ⟨I', J', ?_, w2, w4, ?_, g5, (fI.o fi).tr g6, (fJ.o hx4 fj).tr g7, g8, g9, g10, g11⟩
    · rw [u1, Option.bind_some]
      unfold bX10_goOn_64 bX10_goOn_153
      rw [if_neg (by rw [i9]; decide), hmu, Option.bind_some]
      refine (if_pos (rfl : nI 0 = 0)).trans ?_
      have en : gX10_endCall n x I3 = some I' := by
        rw [gX10_endCall, bX10_endCall_0, if_pos (by rw [i5]; decide), c_ends (T := T) (st := nI 3) (ft := nI 0) (I := I3) (Or.inr i9) (by rw [if_pos i9]) (by decide) hTI (c_set0 i5 i7), i10]
        exact g1
      rw [en, Option.bind_some]
    · rw [u2, Option.bind_some, g2, Option.bind_some, g3 54 (by omega), g4, Option.bind_some]
end OVER
