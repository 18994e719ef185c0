
/-- a node's call, both sides -/
def TS (x : Nat) (I J : am_I) : Prop := (∀ c, c < 5 → I x 55 c = J 0 (82 + c) x) ∧ I x 55 5 = J 0 87 x ∧ I x 55 7 = J 0 89 x ∧ I x 55 8 = J 0 90 x ∧ I x 55 9 = J 0 91 x ∧ I x 55 10 = J 0 92 x ∧ (I x 55 6 = if J 0 87 x = nI 2 ∨ J 0 87 x = nI 3 then J 0 88 x else nI 0) ∧ ∃ v : Nat, v ≤ 4 ∧ J 0 87 x = nI v
/-- no call is under way -/
def NCx (x : Nat) (I J : am_I) : Prop := I x 55 11 = nI 0 ∧ I x 48 6 = nI 0 ∧ (∀ c, c < 136 → I x 54 c = nI 0) ∧ ∀ r, r < 136 → J 0 79 (136 * x + r) = nI 0 ∧ J 0 77 (136 * x + r) = nI 0
/-- a call is under way -/
def CGx (x : Nat) (I J : am_I) (ls : List Nat) : Prop := J 0 65 x = nI 1 ∧ VA (J 0 82 x) (J 0 83 x) (J 0 84 x) (J 0 85 x) (J 0 86 x) ∧ LSr x I J ls ∧ I x 55 10 = nI ls.length
  ∧ (∀ c, c < 136 → J 0 79 (136 * x + c) = nI 1 → c ∈ ls ∧ ¬ J 0 76 (136 * x + c) < J 0 81 (136 * x + c))
  ∧ (∀ c, c < 136 → ¬ J 0 77 (136 * x + c) = nI 0 → c ∈ ls ∧ J 0 79 (136 * x + c) = nI 0 ∧ J 0 76 (136 * x + c) < J 0 81 (136 * x + c) ∧ (∀ c', c' ∈ ls → c' < c → J 0 79 (136 * x + c') = nI 1) ∧ I x 55 11 = nI 0)
  ∧ (I x 55 11 = nI 0 ∨ I x 55 11 = nI 1) ∧ (¬ J 0 82 x = nI 10 → I x 55 11 = J 0 93 x) ∧ (J 0 82 x = nI 10 → J 0 93 x = nI 0 ∧ ls = [])
/-- where a call waits -/
def WWx (x : Nat) (I J : am_I) (ls : List Nat) : Prop := (I x 55 11 = nI 1 ∧ ¬ J 0 72 x = nI 0) ∨ (I x 55 11 = nI 0 ∧ ¬ J 0 82 x = nI 10 ∧ ∃ s, s ∈ ls ∧ s < 136 ∧ J 0 79 (136 * x + s) = nI 0 ∧ (∀ c, c ∈ ls → c < s → J 0 79 (136 * x + c) = nI 1) ∧ (J 0 76 (136 * x + s) < J 0 81 (136 * x + s) ∨ ¬ J 0 78 (136 * x + s) = (-1 : Int32)) ∧ (¬ J 0 78 (136 * x + s) = (-1 : Int32) ∨ ¬ J 0 77 (136 * x + s) = nI 0))
/-- the sum of a list's modes -/
def smd (f : Nat → Int32) (x : Nat) : Nat → Nat
  | 0 => 0
  | k + 1 => smd f x k + (f (136 * x + k)).toNatClampNeg
theorem smd_le {f : Nat → Int32} {x : Nat} : ∀ k, (∀ c, c < k → (f (136 * x + c)).toNatClampNeg ≤ 2) → smd f x k ≤ 2 * k
  | 0, _ => Nat.le_refl _
  | k + 1, h => by
    have := smd_le k (fun c hc => h c (by omega))
    have := h k (by omega)
    show smd f x k + _ ≤ _
    omega
theorem smd_eq {f g : Nat → Int32} {x : Nat} : ∀ k, (∀ c, c < k → g (136 * x + c) = f (136 * x + c)) → smd g x k = smd f x k
  | 0, _ => rfl
  | k + 1, h => by
    show smd g x k + _ = smd f x k + _
    rw [smd_eq k (fun c hc => h c (by omega)), h k (by omega)]
theorem smd_up {f g : Nat → Int32} {x r : Nat} : ∀ k, r < k → (∀ c, c < k → ¬ c = r → g (136 * x + c) = f (136 * x + c)) → (f (136 * x + r)).toNatClampNeg < (g (136 * x + r)).toNatClampNeg → smd f x k < smd g x k
  | 0, h, _, _ => absurd h (by omega)
  | k + 1, hr, h, hl => by
    show smd f x k + _ < smd g x k + _
    by_cases e : r = k
    · subst e
      rw [smd_eq (f := f) (g := g) r (fun c hc => h c (by omega) (by omega))]
      omega
    · have := smd_up k (by omega) (fun c hc => h c (by omega)) hl
      rw [h k (by omega) (fun q => e q.symm)]
      omega
section TURN
variable {n T e x : Nat} {I J I' J' I0 J0 : am_I} {ms : List (Nat → Nat)} {rw : Nat → List (Nat × Nat)} {gv cl H A B : Nat → Nat → Nat} {K : Nat → Nat → Int} {lg fb jl : Nat → List Nat} {fq mk : Nat → Nat} {ls : List Nat}
theorem fI.o (h : fI x I I') : FOI x I I' := fun a b q1 q2 => h a b (by omega) (by omega)
theorem fJ.o (hx : x < 4) (h : fJ x J J') : FOJ x J J' := ⟨fun a b q => h.1 a b (by omega), fun k q => h.2.1 k (by omega), fun j k q1 q2 _ => by rw [h.1 0 j (by omega)], fun j k q1 _ => by rw [h.1 0 j (by omega)]⟩
theorem r_tri65 {r m k : Nat} (hx : x < 4) (hr : r < 136) (h52 : J 0 60 52 = nI r) (h53 : J 0 60 53 = nI m) : bX11_isTriedAgain_65 n (nI x) (nI k) (nI x) J = (gX11_unpin n (nI x) (am_up (am_up J 0 92 x (nI k)) 0 81 (136 * x + r) (nI m))).bind (fun q6 => some (nI 1, q6)) := by
  have hat2 : gX11_at n (nI x) (nI r) (am_up J 0 92 x (nI k)) = some (nI (136 * x + r), am_up J 0 92 x (nI k)) := by
    simp (disch := omega) only [gX11_at, bX11_at_0, pk_mul, nI_add]
  have o : am_up J 0 92 x (nI k) 0 60 = J 0 60 := z_upj _ _ _ _ _ _ _ (by omega)
  unfold bX11_isTriedAgain_65
  refine (am_gd_of (by rw [z_inb (by omega)]; exact decide_eq_true hx)).trans ?_
  rw [z_clamp (by omega), am_lt, o, h52, hat2, Option.bind_some]
  refine (am_gd_of (by rw [z_inb (by omega)]; exact decide_eq_true (by omega))).trans ?_
  dsimp only
  rw [am_lt, z_clamp (by omega), o, h53]
/-- a try that lacks a resource: it is undone, the resource is listed, all is unpinned -/
theorem go_miss (h : CO n T e I0 J0 ms rw gv cl H A B K lg fb jl fq mk) (hx : x < n) (hU : J0 0 65 x = nI 1) (hP : PW x I0 J0) (hls : LSr x I0 J0 ls) (h10 : I0 x 55 10 = nI ls.length) (h92 : J0 0 92 x = nI ls.length) (hpin : ∀ c, c < 136 → (J0 0 79 (136 * x + c) = nI 1 ↔ c ∈ ls)) (hge : ∀ c, c ∈ ls → ¬ J0 0 76 (136 * x + c) < J0 0 81 (136 * x + c)) (hC : TC n x (K x) I0 J0) (hE : EN x (K x) (sST n lg fb jl I0 J0) I0 J0 I J) (h3 : I 0 15 9 = nI 3) {k2 : Nat → Int32 → am_I → Option am_I} {l2 : Nat} :
    ∃ I' J' ls', (gX9_undo n I).bind (fun q5 => bX10_goOn_64 n k2 x (nI l2) q5) = k2 x (nI l2 + nI 1) I' ∧ (if (J 0 60 52) = (-1 : Int32) then none else ((gX11_undo n J).bind (fun q9 => (gX11_at n (nI x) (q9 0 60 52) q9).bind (fun q10 => am_gd (am_inb q10.1 544) (if (q10.2 0 81 q10.1.toNatClampNeg) = 0 then (am_gd (am_inb (nI x) 4) (bX11_isTriedAgain_65 n (nI x) ((q10.2 0 92 (nI x).toNatClampNeg) + (nI 1)) (nI x) q10.2)) else (am_gd (am_inb (nI x) 4) (bX11_isTriedAgain_65 n (nI x) (q10.2 0 92 (nI x).toNatClampNeg) (nI x) q10.2))))))) = some (nI 1, J') ∧ ¬ J 0 60 52 = (-1 : Int32)
      ∧ COg n T e rw gv cl A jl I' J' ∧ FOI x I0 I' ∧ FOJ x J0 J' ∧ (∀ r, r < 136 → I' x 52 r = nI 0 ∧ J' 0 79 (136 * x + r) = nI 0 ∧ WT x J' r) ∧ LSr x I' J' ls' ∧ I' x 55 10 = nI ls'.length ∧ J' 0 92 x = nI ls'.length ∧ (∀ k, ¬ k = 10 → I' x 55 k = I0 x 55 k) ∧ (∀ j, (87 ≤ j ∧ j ≤ 93 ∧ ¬ j = 92) ∨ j = 77 → J' 0 j = J0 0 j) ∧ smd (J0 0 81) x 136 < smd (J' 0 81) x 136 := by
  have hn := h.1.2
  have hx4 : x < 4 := by omega
  obtain ⟨⟨X, E, F, gn, gp, pd, hT⟩, hen⟩ := hE
  obtain ⟨Bw, I3, J3, u1, u2, u3, u4, u5⟩ := tr_undo hC hT
  have hco := co_undo h hx hU u3
  have fi := u3.2.2.2.2.2.2.2.1
  have fj := u3.2.2.2.2.2.2.2.2.1
  rcases hen with ⟨-, r, m, hr, hm, w1, w2, w3, w4, w5⟩ | ⟨q, -⟩
  · have nr : ¬ J 0 60 52 = (-1 : Int32) := by rw [w3]; exact z_m1n (by omega)
    have i11 : I3 0 15 11 = nI r := by rw [u4 11 (by omega)]; exact w1
    have i12 : I3 0 15 12 = nI m := by rw [u4 12 (by omega)]; exact w2
    have i9 : I3 0 15 9 = nI 3 := by rw [u4 9 (by omega)]; exact h3
    have j52 : J3 0 60 52 = nI r := by rw [u5 52 (by omega)]; exact w3
    have j53 : J3 0 60 53 = nI m := by rw [u5 53 (by omega)]; exact w4
    have oI : ∀ b, 44 ≤ b → b ≤ 55 → I3 x b = I0 x b := fun b q1 q2 => fi x b (by omega) (by omega)
    have oJ : ∀ b, (69 ≤ b ∧ b ≤ 93) → J3 0 b = J0 0 b := fun b q => fj.1 0 b (by omega)
    have hls3 : LSr x I3 J3 ls := by
      unfold LSr LSc at hls ⊢
      rw [oI 48 (by omega) (by omega), oI 53 (by omega) (by omega), oI 54 (by omega) (by omega), oJ 81 (by omega)]
      exact hls
    obtain ⟨I4, ls', p1, p2, p3, p4, p5⟩ := p_list (n := n) hx4 hr hm hls3
    obtain ⟨-, -, v, v1, v2⟩ := hls.2 r hr
    have hv3 : J3 0 81 (136 * x + r) = nI v := by rw [oJ 81 (by omega)]; exact v2
    -- the mode in the list grows
    have hvm : v < m := by
      by_cases hin : r ∈ ls
      · rcases w5 with c | c
        · rw [(hpin r hr).mpr hin] at c; exact absurd c (by decide)
        · have g := hge r hin
          obtain ⟨c1, c2, c3, c4, c5, c6⟩ := h.2.2.2.2.1 x hx
          obtain ⟨⟨q1, q2⟩, -⟩ := c6 r hr
          have hk := ((h.2.2.2.2.2.1 x hx).2.1 hU).2.1 r hr
          rw [q2, v2, z_lt (by omega) (by omega)] at g
          omega
      · have : J0 0 81 (136 * x + r) = nI 0 := Classical.byContradiction fun q => hin ((hls.2 r hr).1.mpr q)
        rw [v2, z_eq (by omega) (by omega)] at this
        omega
    have h92' : J3 0 92 x = nI ls.length := by rw [oJ 92 (by omega)]; exact h92
    have hlen : ls.length ≤ 136 := by
      have := pigeon ls (List.range 136) (hls.1.1.imp (fun h => Nat.ne_of_lt h)) (fun a ha => List.mem_range.mpr (hls.1.2.1 a ha))
      rw [List.length_range] at this
      exact this
    let I5 : am_I := am_up I4 x 55 10 (I4 x 48 6)
    let J5 : am_I := am_up (am_up J3 0 92 x (nI ls'.length)) 0 81 (136 * x + r) (nI m)
    have o5 : ∀ a b, ¬ (a = x ∧ b = 55) → I5 a b = I4 a b := fun a b q => z_upj _ _ _ _ _ _ _ q
    have oj5 : ∀ a b, ¬ (a = 0 ∧ (b = 92 ∨ b = 81)) → J5 a b = J3 a b := fun a b q => (z_upj _ _ _ _ _ _ _ (by omega)).trans (z_upj _ _ _ _ _ _ _ (by omega))
    have k81 : J5 0 81 = am_up J3 0 81 (136 * x + r) (nI m) 0 81 := by
      funext k
      show am_up (am_up J3 0 92 x (nI ls'.length)) 0 81 (136 * x + r) (nI m) 0 81 k = _
      rw [z_upk, z_upk, z_upj _ _ _ _ _ _ _ (by omega)]
    have k92 : J5 0 92 = am_up J3 0 92 x (nI ls'.length) 0 92 := z_upj _ _ _ _ _ _ _ (by omega)
    have hls5 : LSr x I5 J5 ls' := by
      unfold LSr LSc at p2 ⊢
      rw [o5 x 48 (by omega), o5 x 53 (by omega), o5 x 54 (by omega), k81]
      exact p2
    have co5 : CO n T e I5 J5 ms rw gv cl H A B K lg fb jl fq mk := co_irr hco ⟨fun a b q _ => (o5 a b (by omega)).trans (p5.1 a b (by omega)), by rw [o5 0 0 (by omega), p5.1 0 0 (by omega)], by rw [o5 0 15 (by omega), p5.1 0 15 (by omega)], by rw [o5 0 15 (by omega), p5.1 0 15 (by omega)]⟩ ⟨fun a b q => oj5 a b (by omega), fun k _ => by rw [oj5 0 60 (by omega)]⟩
    have hP5 : PW x I5 J5 := fun s hs => by
      unfold WP WT
      rw [o5 x 52 (by omega), p5.1 x 52 (by omega), oI 52 (by omega) (by omega), oj5 0 79 (by omega), oj5 0 80 (by omega), oj5 0 78 (by omega), oj5 0 76 (by omega), oj5 0 72 (by omega), oJ 79 (by omega), oJ 80 (by omega), oJ 78 (by omega), oJ 76 (by omega), oJ 72 (by omega)]
      exact hP s hs
    obtain ⟨I6, J6, g1, g2, g3, g4, g5, g6⟩ := co_unp (ls := ls') ⟨ms, H, B, K, lg, fb, fq, mk, co5⟩ hx (by rw [oj5 0 65 (by omega), fj.1 0 65 (by omega)]; exact hU) hP5 hls5.1 (fun s hs q => by
      rw [oj5 0 79 (by omega), oJ 79 (by omega)] at q
      exact (p3 s).mpr (Or.inl ((hpin s hs).mp q)))
    have o48 : I4 x 48 6 = nI ls'.length := p2.1.2.2.1
    have ls6 : LSr x I6 J6 ls' := by
      unfold LSr LSc at hls5 ⊢
      rw [g4 x 48 (by omega) (by omega), g4 x 53 (by omega) (by omega), g4 x 54 (by omega) (by omega), g5.1 0 81 (by omega)]
      exact hls5
    have k55 : ∀ k, I6 x 55 k = if k = 10 then nI ls'.length else I0 x 55 k := fun k => by
      rw [g4 x 55 (by omega) (by omega)]
      show am_up I4 x 55 10 (I4 x 48 6) x 55 k = _
      rw [z_upk, o48, p5.1 x 55 (by omega), oI 55 (by omega) (by omega)]
    refine ⟨I6, J6, ls', ?_, ?_, nr, g3, ?_, ?_, g6, ls6, by rw [k55, if_pos rfl], ?_, fun k q => by rw [k55, if_neg q], fun j q => ?_, ?_⟩
    · rw [u1, Option.bind_some]
      unfold bX10_goOn_64
      rw [if_pos i9, i11, i12, p1, Option.bind_some]
      unfold am_lt bX10_goOn_153
      dsimp only
      rw [show gX10_unpinAll n x (am_up I4 x 55 10 (I4 x 48 6)) = some I6 from g1, Option.bind_some]
    · rw [if_neg nr, u2, Option.bind_some, j52]
      have hat : gX11_at n (nI x) (nI r) J3 = some (nI (136 * x + r), J3) := by
        simp (disch := omega) only [gX11_at, bX11_at_0, pk_mul, nI_add]
      rw [hat, Option.bind_some]
      have e65 : bX11_isTriedAgain_65 n (nI x) (nI ls'.length) (nI x) J3 = some (nI 1, J6) := by
        rw [r_tri65 hx4 hr j52 j53]
        rw [show gX11_unpin n (nI x) (am_up (am_up J3 0 92 x (nI ls'.length)) 0 81 (136 * x + r) (nI m)) = some J6 from g2, Option.bind_some]
      refine (am_gd_of (by rw [z_inb (by omega)]; exact decide_eq_true (by omega))).trans ?_
      rw [p4, hv3] at e65
      dsimp only
      rw [z_clamp (by omega), z_clamp (by omega), h92']
      by_cases c : nI v = nI 0
      · rw [if_pos c] at e65
        refine (if_pos (show J3 0 81 (136 * x + r) = 0 from hv3.trans c)).trans ?_
        rw [nI_add]
        exact (am_gd_of (by rw [z_inb (by omega)]; exact decide_eq_true hx4)).trans e65
      · rw [if_neg c] at e65
        refine (if_neg (show ¬ J3 0 81 (136 * x + r) = 0 from fun q => c (hv3.symm.trans q))).trans ?_
        exact (am_gd_of (by rw [z_inb (by omega)]; exact decide_eq_true hx4)).trans e65
    · exact (fI.o fi).tr (FOI.tr (fun a b q1 q2 => (o5 a b (by omega)).trans (p5.1 a b (by omega))) g4.o)
    · refine (fJ.o hx4 fj).tr (FOJ.tr ⟨fun a b q => oj5 a b (by omega), fun k _ => by rw [oj5 0 60 (by omega)], fun j k q1 q2 q3 => ?_, fun j k q1 q2 => ?_⟩ g5.o)
      · by_cases c : j = 81
        · rw [c, k81, z_upk, if_neg (by omega)]
        · rw [oj5 0 j (by omega)]
      · by_cases c : j = 92
        · rw [c, k92, z_upk, if_neg q2]
        · rw [oj5 0 j (by omega)]
    · rw [g5.1 0 92 (by omega), k92, z_upk, if_pos rfl]
    · rw [g5.1 0 j (by omega), oj5 0 j (by omega), oJ j (by omega)]
    · rw [g5.1 0 81 (by omega), k81]
      refine smd_up (r := r) 136 hr (fun c hc hne => ?_) ?_
      · rw [z_upk, if_neg (by omega), oJ 81 (by omega)]
      · rw [z_upk, if_pos rfl, v2, z_clamp (by omega), z_clamp (by omega)]
        exact hvm
  · rw [h3] at q; exact absurd q (by decide)
end TURN
