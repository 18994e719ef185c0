
section ARR
variable {n T e x : Nat} {I J I' J' : am_I} {ms ms' l1 l2 : List (Nat → Nat)} {m : Nat → Nat} {rw rw' : Nat → List (Nat × Nat)} {gv cl gv' cl' H A B : Nat → Nat → Nat} {K : Nat → Nat → Int} {lg fb jl : Nat → List Nat} {fq mk : Nat → Nat}
/-- one that came is gone -/
def gvn (gv : Nat → Nat → Nat) : Nat → Nat → Nat := up2 gv 136 0 (gv 136 0 + 1)
theorem gvn_r {r : Nat} (h : ¬ r = 136) : gvn gv r = gv r := up2_r h
theorem gvn_0 : gvn gv 136 0 = gv 136 0 + 1 := up2_a
theorem gvn_k {k : Nat} (h : ¬ k = 0) : gvn gv 136 k = gv 136 k := up2_x h
theorem ms_gve (h : MSr n I J rw gv cl) (hg : ∀ r, r < 136 → gv' r = gv r) : MSr n I J rw gv' cl := fun r hr => by rw [hg r hr]; exact h r hr
theorem du_next (h : DUr gv I T (l1 ++ m :: l2)) (hl : gv 136 2 = l1.length) (hm : m 5 ≤ T) : DUr (gvn gv) I T (l1 ++ l2) := by
  obtain ⟨a1, a2, a3, a4⟩ := h
  have hlt : ∀ a, a ∈ l1 → T < a 5 := fun a ha => by
    obtain ⟨k, hk⟩ := List.mem_iff_getElem?.mp ha
    have hk1 := (List.getElem?_eq_some_iff.mp hk).1
    exact a4 k a (by rw [List.getElem?_append_left hk1]; exact hk) (by omega)
  rw [due_rem hm hlt] at a1 a2
  refine ⟨fun k a hk c hc => ?_, ?_, ?_, fun k a hk hk2 => ?_⟩
  · rw [gvn_0, show gv 136 0 + 1 + k = gv 136 0 + (k + 1) from by omega]
    exact a1 (k + 1) a (by rw [List.getElem?_cons_succ]; exact hk) c hc
  · rw [gvn_0, gvn_k (by omega)]
    rw [List.length_cons] at a2
    omega
  · rw [gvn_k (by omega), hl, List.length_append]; omega
  · rw [gvn_k (by omega), hl] at hk2
    rw [List.getElem?_append_left hk2] at hk
    exact hlt a (List.mem_of_getElem? hk)
/-- messages that are due come first on their way -/
theorem pl_first (h : PL n (J 0 65) (mrr n J) (l1 ++ m :: l2) rw gv cl H A B) (hm : m 5 ≤ T) (h1 : ∀ a, a ∈ l1 → T < a 5) : ∀ a, a ∈ l1 → ¬ (a 0 = m 0 ∧ a 1 = m 1) := fun a ha q => by
  have hp := h.2.2.2.2.2.2.2
  rw [List.pairwise_append] at hp
  have := (hp.2.2 a ha m List.mem_cons_self).1 q.1 q.2
  have := h1 a ha
  omega
theorem gv_c {K : Nat → Nat → Int} {U : Nat → Int32} {mr : Nat → Nat} (h : ∀ x r, x < n → ¬ U x = nI 1 → r < 136 → U (mr r) = nI 1 → K x r ≤ gv r x) : ∀ x r, x < n → ¬ U x = nI 1 → r < 136 → U (mr r) = nI 1 → K x r ≤ gvn gv r x := fun x r hx hd hr w => by
  rw [gvn_r (by omega)]; exact h x r hx hd hr w
theorem pl_gve (h : PL n (J 0 65) (mrr n J) ms rw gv cl H A B) (hg : ∀ r, r < 136 → gv' r = gv r) : PL n (J 0 65) (mrr n J) ms rw gv' cl H A B := by
  obtain ⟨a1, a2, a3, a4, a5, a6, a7, a8⟩ := h
  refine ⟨a1, a2, fun x r hx hr h1 h2 => ?_, fun x r hx hr h1 h2 => ?_, a5, fun r x y hr hx hy hne => ?_, fun r hr hd => ?_, a8⟩
  · rw [hg r hr]; exact a3 x r hx hr h1 h2
  · rw [hg r hr]; exact a4 x r hx hr h1 h2
  · rw [hg r hr]; exact a6 r x y hr hx hy hne
  · rw [hg r hr]; exact a7 r hr hd
theorem ms_row {r z md : Nat} (h : MSr n I J rw gv cl) (hr : r < 136) (hl : (rw r).length ≤ 3) (hz : z < n) (hm : md = 1 ∨ md = 2) : MSr n (am_up (am_up (am_up I 0 6 (4 * r + (rw r).length) (nI z)) 0 7 (4 * r + (rw r).length) (nI md)) 0 8 r (nI ((rw r).length + 1))) (am_up (am_up (am_up J 0 97 (16 * r + (rw r).length) (nI z)) 0 98 (16 * r + (rw r).length) (nI md)) 0 96 r (nI ((rw r).length + 1))) (up1 rw r (rw r ++ [(z, md)])) gv cl := fun s hs => by
  obtain ⟨a1, a2, a3, a4, a5⟩ := h s hs
  unfold MS1
  simp (disch := omega) only [z_upj, z_upk]
  by_cases es : s = r
  · subst es
    rw [up1_at, if_pos rfl, if_pos rfl]
    refine ⟨by rw [List.length_append]; simp only [List.length_cons, List.length_nil]; omega, by rw [List.length_append]; rfl, by rw [List.length_append]; rfl, fun i p hp => ?_, a5⟩
    rcases app_get hp with ⟨q1, q2⟩ | ⟨q1, q2⟩
    · rw [if_neg (by omega), if_neg (by omega), if_neg (by omega), if_neg (by omega)]
      exact a4 i p q2
    · subst q2
      rw [if_pos (by omega), if_pos (by omega), if_pos (by omega), if_pos (by omega)]
      exact ⟨hz, hm, rfl, rfl, rfl, rfl⟩
  · rw [up1_ne es, if_neg es, if_neg es]
    refine ⟨a1, a2, a3, fun i p hp => ?_, a5⟩
    have hi := (List.getElem?_eq_some_iff.mp hp).1
    rw [if_neg (by omega), if_neg (by omega), if_neg (by omega), if_neg (by omega)]
    exact a4 i p hp
/-- a request comes -/
theorem d_req (h : CO n T e I J (l1 ++ m :: l2) rw gv cl H A B K lg fb jl fq mk) (hl : gv 136 2 = l1.length) (hm : m 5 ≤ T) (hk : m 2 = 0) : ∃ I' J' J1 ms' rw' gv' cl', gX11_removeMessage n (nI l1.length) J = some J1 ∧ (gX6_ask n (nI (m 3)) (nI (m 0)) (nI (m 4)) I).bind (fun q8 => (gX10_serve n (nI (m 3)) q8).bind (fun q9 => some ((-1 : Int32), q9))) = some ((-1 : Int32), I') ∧ (gX11_addRequest n (nI (m 3)) (nI (m 0)) (nI (m 4)) J1).bind (fun q1 => (gX11_serve n (nI (m 3)) q1).bind (fun q2 => bX11_deliver_157 n q2)) = some J' ∧ CO n T e I' J' ms' rw' gv' cl' H A B K lg fb jl fq mk ∧ fSI I I' ∧ fSJ J J' ∧ gv' 136 = gvn gv 136 := by
  have hn := h.1.2
  have a7 := h.2.2.2.2.2.2.1
  obtain ⟨w1, w2, w3, w4, w5, w6, -⟩ := a7.1 m (List.mem_append_right _ List.mem_cons_self)
  obtain ⟨p1, p2, p3, p4⟩ := pl_rq a7 hn hk
  obtain ⟨J1, r1, r2, r3, r4⟩ := r_rem (n := n) h.2.1.2.1 (by have := pl_len a7 hn; omega)
  have hML := ml_rem h.2.1 hm r2 r3 r4
  have hMS1 : MSr n I J1 rw gv cl := ms_cg h.2.2.1 (fun _ _ _ => rfl) (fun j h4 h8 => r3 0 j (by omega))
  obtain ⟨c1, c2, c3, c4, c5⟩ := hMS1 (m 3) w6
  have hMS2 := ms_gve (gv' := gvn gv) (ms_row hMS1 w6 p2 w2 p3) (fun r hr => gvn_r (by omega))
  have g1 : 16 * m 3 + (rw (m 3)).length < 2176 := by omega
  have g2 : 4 * m 3 + (rw (m 3)).length < 544 := by omega
  have g3 : ¬ 4 ≤ (rw (m 3)).length := by omega
  have fI : fSI I (am_up (am_up (am_up I 0 6 (4 * m 3 + (rw (m 3)).length) (nI (m 0))) 0 7 (4 * m 3 + (rw (m 3)).length) (nI (m 4))) 0 8 (m 3) (nI ((rw (m 3)).length + 1))) := ⟨fun a b q => by simp (disch := omega) only [z_upj], fun k _ => by simp (disch := omega) only [z_upj]⟩
  have fJ' : fSJ J (am_up (am_up (am_up J1 0 97 (16 * m 3 + (rw (m 3)).length) (nI (m 0))) 0 98 (16 * m 3 + (rw (m 3)).length) (nI (m 4))) 0 96 (m 3) (nI ((rw (m 3)).length + 1))) := ⟨fun a b q => by simp (disch := omega) only [z_upj]; exact r3 a b (by omega), fun k q => by simp (disch := omega) only [z_upj]; exact r4 k (by omega)⟩
  have hCO := co_fs (gv' := gvn gv) h fI fJ' (ml_ms hML (fun a b q => by simp (disch := omega) only [z_upj]) (fun a b q => by simp (disch := omega) only [z_upj])) hMS2 (pl_gve p1 (fun r hr => gvn_r (by omega))) (gv_c (fun x r hx hd hr w => (((h.2.2.2.2.2.1 x hx).2.2.1 hd).2.2 r hr).2.2.2 w)) (du_cg (du_next h.2.2.2.2.2.2.2.2.2.2.2.2 hl hm) (by simp (disch := omega) only [z_upj]))
  have e66 := fJ'.1 0 66 (by omega)
  have e65 := fJ'.1 0 65 (by omega)
  have em := mrr_cg (n := n) e66
  have hj : J 0 66 (m 1) = nI 1 := ((h.2.2.2.2.2.1 (m 1) w3).2.1 w5).1
  have hmk := mst_ok (J := J) (r := m 3) h.1.1 hn w3 (by rw [hj]; decide)
  obtain ⟨I', J', ms', rw', gv', cl', s1, s2, s3, s4, s5, s6⟩ := co_srv hCO w6 (by rw [em, ← p4]; exact w3) (by rw [em, e66]; exact hmk.2) (by rw [em, e65, ← p4]; exact w5)
  refine ⟨I', J', J1, ms', rw', gv', cl', r1, ?_, ?_, s3, fI.tr s4, fJ'.tr s5, s6⟩
  · have ask : gX6_ask n (nI (m 3)) (nI (m 0)) (nI (m 4)) I = some (am_up (am_up (am_up I 0 6 (4 * m 3 + (rw (m 3)).length) (nI (m 0))) 0 7 (4 * m 3 + (rw (m 3)).length) (nI (m 4))) 0 8 (m 3) (nI ((rw (m 3)).length + 1))) := by
      simp (disch := omega) only [gX6_ask, bX6_ask_0, bX6_ask_48, z_inb, w6, decide_true, z_gdt, z_clamp, c2, z_le, g3, if_false, pk_mul, Nat.mul_comm (m 3) 4, nI_add, g2, am_lt, z_upj]
    rw [ask, Option.bind_some, s1, Option.bind_some]
  · have add : gX11_addRequest n (nI (m 3)) (nI (m 0)) (nI (m 4)) J1 = some (am_up (am_up (am_up J1 0 97 (16 * m 3 + (rw (m 3)).length) (nI (m 0))) 0 98 (16 * m 3 + (rw (m 3)).length) (nI (m 4))) 0 96 (m 3) (nI ((rw (m 3)).length + 1))) := by
      simp (disch := omega) only [gX11_addRequest, bX11_addRequest_0, z_inb, w6, decide_true, z_gdt, z_clamp, c3, pk_mul, nI_add, g1, am_lt, z_upj]
    rw [add, Option.bind_some, s2, Option.bind_some]
    rfl
/-- a release comes -/
theorem d_rel (h : CO n T e I J (l1 ++ m :: l2) rw gv cl H A B K lg fb jl fq mk) (hl : gv 136 2 = l1.length) (hm : m 5 ≤ T) (hk : m 2 = 3) : ∃ I' J' J1 ms' rw' gv' cl', gX11_removeMessage n (nI l1.length) J = some J1 ∧ (gX6_release n (nI (m 3)) (nI (m 0)) (nI (m 4)) I).bind (fun q8 => (gX10_serve n (nI (m 3)) q8).bind (fun q9 => some ((-1 : Int32), q9))) = some ((-1 : Int32), I') ∧ (gX11_serve n (nI (m 3)) (am_up (am_up J1 0 94 (4 * m 3 + m 0) (nI (m 4))) 0 95 (4 * m 3 + m 0) (-1 : Int32))).bind (fun q2 => bX11_deliver_157 n q2) = some J' ∧ CO n T e I' J' ms' rw' gv' cl' H A B K lg fb jl fq mk ∧ fSI I I' ∧ fSJ J J' ∧ gv' 136 = gvn gv 136 := by
  have hn := h.1.2
  have a7 := h.2.2.2.2.2.2.1
  obtain ⟨w1, w2, w3, w4, w5, w6, -⟩ := a7.1 m (List.mem_append_right _ List.mem_cons_self)
  obtain ⟨p1, p2, p3, p4⟩ := pl_rl a7 hk
  obtain ⟨J1, r1, r2, r3, r4⟩ := r_rem (n := n) h.2.1.2.1 (by have := pl_len a7 hn; omega)
  have hML := ml_rem h.2.1 hm r2 r3 r4
  have hMS1 : MSr n I J1 rw gv cl := ms_cg h.2.2.1 (fun _ _ _ => rfl) (fun j h4 h8 => r3 0 j (by omega))
  have hMS2 := ms_gve (gv' := gvn (up2 gv (m 3) (m 0) (m 4))) (ms_cl (y := m 0) (v := 0) (ms_gv (y := m 0) (v := m 4) hMS1 w6 (by omega) (by omega)) w6 (by omega) (by omega)) (fun r hr => gvn_r (by omega))
  have g2 : 4 * m 3 + m 0 < 544 := by omega
  have fI : fSI I (am_up (am_up I 0 4 (4 * m 3 + m 0) (nI (m 4))) 0 5 (4 * m 3 + m 0) (nO 0)) := ⟨fun a b q => by simp (disch := omega) only [z_upj], fun k _ => by simp (disch := omega) only [z_upj]⟩
  have fJ' : fSJ J (am_up (am_up J1 0 94 (4 * m 3 + m 0) (nI (m 4))) 0 95 (4 * m 3 + m 0) (nO 0)) := ⟨fun a b q => by simp (disch := omega) only [z_upj]; exact r3 a b (by omega), fun k q => by simp (disch := omega) only [z_upj]; exact r4 k (by omega)⟩
  have e136 : up2 gv (m 3) (m 0) (m 4) 136 = gv 136 := up2_r (by omega)
  have hdu : DUr (gvn (up2 gv (m 3) (m 0) (m 4))) I T (l1 ++ l2) := du_next (du_gv h.2.2.2.2.2.2.2.2.2.2.2.2 e136) (by rw [e136]; exact hl) hm
  have hCO := co_fs (gv' := gvn (up2 gv (m 3) (m 0) (m 4))) h fI fJ' (ml_ms hML (fun a b q => by simp (disch := omega) only [z_upj]) (fun a b q => by simp (disch := omega) only [z_upj])) hMS2 (pl_gve p1 (fun r hr => gvn_r (by omega))) (gv_c (fun x r hx hd hr w => by
    have := (((h.2.2.2.2.2.1 x hx).2.2.1 hd).2.2 r hr).2.2.2 w
    have e : up2 gv (m 3) (m 0) (m 4) r x = gv r x := if_neg (fun q => hd (by rw [q.2]; exact w4))
    rw [e]; exact this)) (du_cg hdu (by simp (disch := omega) only [z_upj]))
  have e66 := fJ'.1 0 66 (by omega)
  have e65 := fJ'.1 0 65 (by omega)
  have em := mrr_cg (n := n) e66
  have hj : J 0 66 (m 1) = nI 1 := ((h.2.2.2.2.2.1 (m 1) w3).2.1 w5).1
  have hmk := mst_ok (J := J) (r := m 3) h.1.1 hn w3 (by rw [hj]; decide)
  obtain ⟨I', J', ms', rw', gv', cl', s1, s2, s3, s4, s5, s6⟩ := co_srv hCO w6 (by rw [em, ← p4]; exact w3) (by rw [em, e66]; exact hmk.2) (by rw [em, e65, ← p4]; exact w5)
  refine ⟨I', J', J1, ms', rw', gv', cl', r1, ?_, ?_, s3, fI.tr s4, fJ'.tr s5, ?_⟩
  · have rel : gX6_release n (nI (m 3)) (nI (m 0)) (nI (m 4)) I = some (am_up (am_up I 0 4 (4 * m 3 + m 0) (nI (m 4))) 0 5 (4 * m 3 + m 0) (nO 0)) := by
      simp (disch := omega) only [gX6_release, bX6_release_0, z_inb, decide_true, z_gdt, z_clamp, pk_mul, Nat.mul_comm (m 3) 4, nI_add, g2, am_lt, nO_0]
    rw [rel, Option.bind_some, s1, Option.bind_some]
  · rw [show am_up (am_up J1 0 94 (4 * m 3 + m 0) (nI (m 4))) 0 95 (4 * m 3 + m 0) (-1 : Int32) = am_up (am_up J1 0 94 (4 * m 3 + m 0) (nI (m 4))) 0 95 (4 * m 3 + m 0) (nO 0) from rfl, s2, Option.bind_some]
    rfl
  · rw [s6]
    funext k
    by_cases c : k = 0
    · rw [c, gvn_0, gvn_0, e136]
    · rw [gvn_k c, gvn_k c, e136]
end ARR
