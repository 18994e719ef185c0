
/-- calls under way -/
def cs : Nat → am_I → Nat
  | 0, _ => 0
  | k + 1, J => cs k J + cal J k
/-- writes and lost calls -/
def WL (I J : am_I) : Prop := I 0 0 8 = J 0 60 48 ∧ I 0 0 9 = J 0 60 50 ∧ ∀ z, z < 4 → (J 0 64 (16 * (1 + 24 * z) + 2) = nI 0 ∨ J 0 64 (16 * (1 + 24 * z) + 2) = nI 1)
/-- ALL OF BOTH SIDES, between two steps of a tick -/
def GS (n T e : Nat) (g : Nat → Nat) (I J : am_I) : Prop := ∃ rw gv cl A jl, COg n T e rw gv cl A jl I J ∧ gv 136 = g ∧ (∀ z, z < n → NS z I J) ∧ WL I J
theorem cs_le {J : am_I} : ∀ k, cs k J ≤ k
  | 0 => Nat.le_refl _
  | k + 1 => by
    have := cs_le (J := J) k
    have : cal J k ≤ 1 := by unfold cal; split <;> omega
    show cs k J + cal J k ≤ k + 1
    omega
theorem cs_eq {J J' : am_I} : ∀ k, (∀ z, z < k → cal J' z = cal J z) → cs k J' = cs k J
  | 0, _ => rfl
  | k + 1, h => by
    show cs k J' + cal J' k = cs k J + cal J k
    rw [cs_eq k (fun z hz => h z (by omega)), h k (by omega)]
theorem cs_up {J J' : am_I} {x e e' : Nat} (he : e' + cal J' x = e + cal J x) : ∀ k, x < k → (∀ z, z < k → ¬ z = x → cal J' z = cal J z) → e' + cs k J' = e + cs k J
  | 0, hx, _ => absurd hx (by omega)
  | k + 1, hx, h => by
    show e' + (cs k J' + cal J' k) = e + (cs k J + cal J k)
    by_cases c : x = k
    · subst c
      rw [cs_eq (J := J) x (fun z hz => h z (by omega) (by omega))]
      omega
    · have := cs_up he k (by omega) (fun z hz hne => h z (by omega) hne)
      rw [h k (by omega) (fun q => c q.symm)]
      omega
section STEP
variable {n T e x : Nat} {I J I' J' J1 : am_I} {ms ms' l1 l2 : List (Nat → Nat)} {m : Nat → Nat} {rw rw' : Nat → List (Nat × Nat)} {gv cl gv' cl' H A B H' A' B' : Nat → Nat → Nat} {K K' : Nat → Nat → Int} {lg fb jl : Nat → List Nat} {fq mk : Nat → Nat} {g : Nat → Nat}
theorem wl_fo (h : WL I J) (hI : FOI x I I') (hJ : FOJ x J J') : WL I' J' := by
  unfold WL at h ⊢
  rw [hI 0 0 (by omega) (by omega), hJ.2.1 48 (by omega), hJ.2.1 50 (by omega), hJ.1 0 64 (by omega)]
  exact h
theorem wl_fs (h : WL I J) (hI : fSI I I') (hJ : fSJ J J') : WL I' J' := by
  unfold WL at h ⊢
  rw [hI.1 0 0 (by omega), hJ.2 48 (by omega), hJ.2 50 (by omega), hJ.1 0 64 (by omega)]
  exact h
/-- a node's call goes on: all of both sides -/
theorem gs_go (hx : x < n) (hco : COg n T e rw gv cl A jl I J) (h0 : NS0 x I J) (ho : ∀ z, z < n → ¬ z = x → NS z I J) (hW : WL I J) (he : e + cs n J ≤ 190) : ∃ I' J' e', gX10_goOn n x I = some I' ∧ gX11_goOn n (nI x) J = some J' ∧ GS n T e' (gv 136) I' J' ∧ e' + cs n J' = e + cs n J ∧ J' 0 60 0 = J 0 60 0 := by
  have hn : n ≤ 4 := by
    obtain ⟨ms, H, B, K, lg, fb, fq, mk, h⟩ := hco
    exact h.1.2
  have hc1 : ∀ k, x < k → cal J x ≤ cs k J := by
    intro k
    induction k with
    | zero => intro h; omega
    | succ k ih =>
      intro h
      show cal J x ≤ cs k J + cal J k
      by_cases c : x = k
      · subst c; omega
      · have := ih (by omega); omega
  have := hc1 n hx
  obtain ⟨I', J', e', k1, k2, k3, k4, ⟨A', k5⟩, k6, k7⟩ := p_go hx hco h0 (by omega)
  refine ⟨I', J', e', k1, k2, ⟨rw, gv, cl, A', jl, k5, rfl, fun z hz => ?_, wl_fo hW k3 k4⟩, cs_up k7 n hx (fun z hz hne => (ns_fr (by omega) hne (by omega) k3 k4 (ho z hz hne)).2), k4.2.1 0 (by omega)⟩
  by_cases c : z = x
  · rw [c]; exact k6
  · exact (ns_fr (by omega) c (by omega) k3 k4 (ho z hz c)).1
theorem c_isn0 : gX10_isNode n (-1 : Int32) I = some (nI 0, I) := by
  rw [gX10_isNode, bX10_isNode_0, if_pos (by decide)]
  rfl
theorem c_isr {r : Nat} (hr : r < 136) : gX10_isResource n (nI r) I = some (nI 1, I) := by
  rw [gX10_isResource, bX10_isResource_0, if_neg (show ¬ nI r < 0 from fun q => absurd ((z_lt (a := r) (b := 0) (by omega) (by omega)).mp q) (by omega)), if_neg (by rw [z_le (by omega) (by omega)]; omega)]
  rfl
theorem c_dlv {d : Nat} (hd : d < 100) (h12 : ∀ c, c < 6 → I 0 12 (6 * d + c) = nI (m c)) (hn : n ≤ 4) (ht : m 1 < n) (hr : m 3 < 136) : gX10_deliver n (nI d) I = (if nI (m 2) = nI 0 then ((gX6_ask n (nI (m 3)) (nI (m 0)) (nI (m 4)) I).bind (fun q8 => (gX10_serve n (nI (m 3)) q8).bind (fun q9 => some ((-1 : Int32), q9)))) else (if nI (m 2) = nI 1 then ((gX4_grant n (m 1) (nI (m 3)) (nI (m 4)) I).bind (fun q11 => some (nI (m 1), q11))) else (if nI (m 2) = nI 2 then ((gX10_callBack n (m 1) (nI (m 3)) (nI (m 4)) (nI (m 0)) I).bind (fun q13 => if q13.1 = 0 then (bX10_deliver_205 n (-1 : Int32) q13.2) else (bX10_deliver_205 n (nI (m 1)) q13.2))) else (if nI (m 2) = nI 3 then ((gX6_release n (nI (m 3)) (nI (m 0)) (nI (m 4)) I).bind (fun q14 => (gX10_serve n (nI (m 3)) q14).bind (fun q15 => some ((-1 : Int32), q15)))) else ((gX10_callBack n (m 1) (nI (m 3)) (nI (m 4)) (nI (m 0)) I).bind (fun q17 => if q17.1 = 0 then (bX10_deliver_205 n (-1 : Int32) q17.2) else (bX10_deliver_205 n (nI (m 1)) q17.2))))))) := by
  have e0 : nI d * nI 6 = nI (6 * d) := by rw [pk_mul, Nat.mul_comm]
  have h0 : I 0 12 (6 * d) = nI (m 0) := h12 0 (by omega)
  have g0 : am_inb (nI (6 * d)) 768 = true := by rw [z_inb (by omega)]; exact decide_eq_true (by omega)
  have g1 : ∀ c, c < 6 → am_inb (nI (6 * d + c)) 768 = true := fun c hc => by rw [z_inb (by omega)]; exact decide_eq_true (by omega)
  have k0 : (nI (6 * d)).toNatClampNeg = 6 * d := z_clamp (by omega)
  have k1 : ∀ c, c < 6 → (nI (6 * d + c)).toNatClampNeg = 6 * d + c := fun c hc => z_clamp (by omega)
  have gt : am_inb (nI (m 1)) n = true := by rw [z_inb (by omega)]; exact decide_eq_true ht
  have kt : (nI (m 1)).toNatClampNeg = m 1 := z_clamp (by omega)
  rw [gX10_deliver, bX10_deliver_0, e0, nI_add, nI_add, nI_add, nI_add, am_gd_of g0, am_gd_of (g1 1 (by omega)), am_gd_of (g1 2 (by omega)), am_gd_of (g1 3 (by omega)), am_gd_of (g1 4 (by omega)), k0, k1 1 (by omega), k1 2 (by omega), k1 3 (by omega), k1 4 (by omega), h0, h12 1 (by omega), h12 2 (by omega), h12 3 (by omega), h12 4 (by omega), c_isn ht hn, Option.bind_some]
  refine (if_neg (show ¬ nI 1 = 0 by decide)).trans ?_
  dsimp only
  rw [c_isr hr, Option.bind_some]
  refine (if_neg (show ¬ nI 1 = 0 by decide)).trans ?_
  dsimp only
  rw [am_gd_of gt, am_gd_of gt, kt]
theorem t_61 {k30 : Int32 → Int32 → Int32 → am_I → Option ((Option Int32 ⊕ Nat) × am_I)} {fu c d : Nat} {a1 a2 a3 : Int32} (hc : c < 100) (hd : d < c) (h : gX10_deliver n (nI d) I = some ((-1 : Int32), I')) : bX10_tick_61 n k30 (fu + 1) a1 a2 a3 (nI c) (nI d) I = bX10_tick_61 n k30 fu a1 a2 a3 (nI c) (nI (d + 1)) I' := by
  conv => lhs; unfold bX10_tick_61
  dsimp only
  rw [if_neg (show ¬ nI c ≤ nI d by rw [z_le (by omega) (by omega)]; omega), h, Option.bind_some]
  dsimp only
  rw [c_isn0, Option.bind_some]
  refine (if_pos (rfl : nI 0 = 0)).trans ?_
  unfold bX10_tick_96
  rw [nI_add]
theorem t_61g {k30 : Int32 → Int32 → Int32 → am_I → Option ((Option Int32 ⊕ Nat) × am_I)} {fu c d : Nat} {a1 a2 a3 : Int32} {I1 : am_I} (hc : c < 100) (hd : d < c) (hn : n ≤ 4) (hx : x < n) (h : gX10_deliver n (nI d) I = some (nI x, I1)) (h2 : gX10_goOn n x I1 = some I') : bX10_tick_61 n k30 (fu + 1) a1 a2 a3 (nI c) (nI d) I = bX10_tick_61 n k30 fu a1 a2 a3 (nI c) (nI (d + 1)) I' := by
  conv => lhs; unfold bX10_tick_61
  dsimp only
  rw [if_neg (show ¬ nI c ≤ nI d by rw [z_le (by omega) (by omega)]; omega), h, Option.bind_some]
  dsimp only
  rw [c_isn hx hn, Option.bind_some]
  refine (if_neg (show ¬ nI 1 = 0 by decide)).trans ?_
  refine (am_gd_of (by rw [z_inb (by omega)]; exact decide_eq_true hx)).trans ?_
  dsimp only
  rw [z_clamp (by omega), h2, Option.bind_some]
  unfold bX10_tick_96
  rw [nI_add]
/-- the reference's turn -/
theorem r_12 {f i L T : Nat} (hL : L < 128) (hi : i < L) (h38 : J 0 60 38 = nI L) (hT : J 0 60 2 = nI T) (hT2 : T < 2 ^ 20) (hm : ∀ c, c < 6 → J 0 (101 + c) i = nI (m c)) (hd : m 5 ≤ T) (h1 : gX11_removeMessage n (nI i) J = some J1) (h2 : gX11_deliver n (nI (m 0)) (nI (m 1)) (nI (m 2)) (nI (m 3)) (nI (m 4)) J1 = some J') : bX11_oneTick_12 n (f + 1) (nI i) J = bX11_oneTick_12 n f (nI i) J' := by
  have g : am_inb (nI i) 4096 = true := by rw [z_inb (by omega)]; exact decide_eq_true (by omega)
  conv => lhs; unfold bX11_oneTick_12
  dsimp only
  rw [if_neg (show ¬ J 0 60 38 ≤ nI i by rw [h38, z_le (by omega) (by omega)]; omega), am_gd_of g, z_clamp (by omega), if_pos (show J 0 106 i ≤ J 0 60 2 by rw [show J 0 106 i = nI (m 5) from hm 5 (by omega), hT, z_le (by omega) (by omega)]; exact hd), am_gd_of g, am_gd_of g, am_gd_of g, am_gd_of g, am_gd_of g, h1, Option.bind_some, show J 0 101 i = nI (m 0) from hm 0 (by omega), show J 0 102 i = nI (m 1) from hm 1 (by omega), show J 0 103 i = nI (m 2) from hm 2 (by omega), show J 0 104 i = nI (m 3) from hm 3 (by omega), show J 0 105 i = nI (m 4) from hm 4 (by omega), h2, Option.bind_some]
theorem r_12s {f i L T : Nat} (hL : L < 128) (hi : i < L) (h38 : J 0 60 38 = nI L) (hT : J 0 60 2 = nI T) (hT2 : T < 2 ^ 20) (hm : ∀ c, c < 6 → J 0 (101 + c) i = nI (m c)) (hm5 : m 5 < 2 ^ 20) (hd : ¬ m 5 ≤ T) : bX11_oneTick_12 n (f + 1) (nI i) J = bX11_oneTick_12 n f (nI (i + 1)) J := by
  have g : am_inb (nI i) 4096 = true := by rw [z_inb (by omega)]; exact decide_eq_true (by omega)
  conv => lhs; unfold bX11_oneTick_12
  dsimp only
  rw [if_neg (show ¬ J 0 60 38 ≤ nI i by rw [h38, z_le (by omega) (by omega)]; omega), am_gd_of g, z_clamp (by omega), if_neg (show ¬ J 0 106 i ≤ J 0 60 2 by rw [show J 0 106 i = nI (m 5) from hm 5 (by omega), hT, z_le (by omega) (by omega)]; exact hd), nI_add]
/-- A MESSAGE COMES, both sides -/
theorem gs_dlv {k30 : Int32 → Int32 → Int32 → am_I → Option ((Option Int32 ⊕ Nat) × am_I)} {fu f : Nat} {a1 a2 a3 : Int32} (h : CO n T e I J (l1 ++ m :: l2) rw gv cl H A B K lg fb jl fq mk) (hl : gv 136 2 = l1.length) (hm : m 5 ≤ T) (hns : ∀ z, z < n → NS z I J) (hW : WL I J) (he : e + cs n J ≤ 190) (hc : gv 136 1 < 100) : ∃ I' J' e' g', bX10_tick_61 n k30 (fu + 1) a1 a2 a3 (nI (gv 136 1)) (nI (gv 136 0)) I = bX10_tick_61 n k30 fu a1 a2 a3 (nI (gv 136 1)) (nI (gv 136 0 + 1)) I' ∧ bX11_oneTick_12 n (f + 1) (nI (gv 136 2)) J = bX11_oneTick_12 n f (nI (gv 136 2)) J' ∧ GS n T e' g' I' J' ∧ g' 0 = gv 136 0 + 1 ∧ g' 1 = gv 136 1 ∧ g' 2 = gv 136 2 ∧ e' + cs n J' = e + cs n J ∧ J' 0 60 0 = J 0 60 0 := by
  have hn := h.1.2
  have a7 := h.2.2.2.2.2.2.1
  have hdu := h.2.2.2.2.2.2.2.2.2.2.2.2
  have hML := h.2.1
  obtain ⟨w1, w2, w3, w4, w5, w6, wk⟩ := a7.1 m (List.mem_append_right _ List.mem_cons_self)
  have hlen := pl_len a7 hn
  have hlt : ∀ a, a ∈ l1 → T < a 5 := fun a ha => by
    obtain ⟨k, hk⟩ := List.mem_iff_getElem?.mp ha
    have hk1 := (List.getElem?_eq_some_iff.mp hk).1
    exact hdu.2.2.2 k a (by rw [List.getElem?_append_left hk1]; exact hk) (by omega)
  have edue := due_rem (l2 := l2) hm hlt
  have h12 : ∀ c, c < 6 → I 0 12 (6 * gv 136 0 + c) = nI (m c) := fun c hc => hdu.1 0 m (by rw [edue]; rfl) c hc
  have hd1 : gv 136 0 < gv 136 1 := by
    have := hdu.2.1
    rw [edue, List.length_cons] at this
    omega
  have hdl := c_dlv (n := n) (d := gv 136 0) (by omega) h12 hn w3 w6
  have hget : (l1 ++ m :: l2)[l1.length]? = some m := by rw [List.getElem?_append_right (Nat.le_refl _), Nat.sub_self]; rfl
  have hmJ : ∀ c, c < 6 → J 0 (101 + c) l1.length = nI (m c) := hML.2.1.2.2 l1.length m hget
  have hi : l1.length < (l1 ++ m :: l2).length := by simp only [List.length_append, List.length_cons]; omega
  have hT2 : T < 2 ^ 20 := by have := hML.2.2.2.2.2.1; omega
  have g0 : gvn gv 136 0 = gv 136 0 + 1 := gvn_0
  have g1 : gvn gv 136 1 = gv 136 1 := gvn_k (by omega)
  have g2 : gvn gv 136 2 = gv 136 2 := gvn_k (by omega)
  rw [hl]
  have hk4 : m 2 = 0 ∨ m 2 = 1 ∨ m 2 = 2 ∨ m 2 = 3 := by omega
  rcases hk4 with hk | hk | hk | hk
  · obtain ⟨I', J', J1, ms', rw', gv', cl', k1, k2, k3, k4, k5, k6, k7⟩ := d_req h hl hm hk
    have e1 : gX10_deliver n (nI (gv 136 0)) I = some ((-1 : Int32), I') := by
      rw [hdl, hk, if_pos rfl]; exact k2
    have e2 : gX11_deliver n (nI (m 0)) (nI (m 1)) (nI (m 2)) (nI (m 3)) (nI (m 4)) J1 = some J' := by
      rw [gX11_deliver, bX11_deliver_0, hk, if_pos rfl]; exact k3
    refine ⟨I', J', e, gv' 136, t_61 hc hd1 e1, r_12 (by omega) hi hML.2.1.1 hML.2.2.2.2.1 hT2 hmJ hm k1 e2, ⟨rw', gv', cl', A, jl, ⟨_, _, _, _, _, _, _, _, k4⟩, rfl, fun z hz => (ns_s k5 k6 (hns z hz)).1, wl_fs hW k5 k6⟩, by rw [k7, g0], by rw [k7, g1], by rw [k7, g2, hl], ?_, k6.2 0 (by omega)⟩
    rw [cs_eq (J := J) n (fun z hz => (ns_s k5 k6 (hns z hz)).2)]
  · obtain ⟨v, J1, H', A', K', v2, k1, k2, k3, k4, k5, ⟨h0, k6, k7⟩, k8, k9⟩ := d_gt h hl hm hk
    have hNS0 := ns_gt w6 v2 k6 k7 k8 k2 (hns (m 1) w3)
    have oI : ∀ z b, ¬ (z = m 1 ∧ (b = 49 ∨ b = 50)) → am_up (am_up I (m 1) 49 (m 3) (nI v)) (m 1) 50 (m 3) (nI 0) z b = I z b := fun z b q => by rw [z_upj _ _ _ _ _ _ _ (by omega), z_upj _ _ _ _ _ _ _ (by omega)]
    have oJ : ∀ a b, ¬ (a = 0 ∧ (b = 60 ∨ b = 76 ∨ b = 77 ∨ (101 ≤ b ∧ b ≤ 106))) → am_up (am_up J1 0 76 (136 * m 1 + m 3) (nI v)) 0 77 (136 * m 1 + m 3) (nI 0) a b = J a b := fun a b q => by rw [z_upj _ _ _ _ _ _ _ (by omega), z_upj _ _ _ _ _ _ _ (by omega), k2 a b (by omega)]
    have o7 : ∀ j c, 76 ≤ j → j ≤ 81 → ¬ c = 136 * m 1 + m 3 → am_up (am_up J1 0 76 (136 * m 1 + m 3) (nI v)) 0 77 (136 * m 1 + m 3) (nI 0) 0 j c = J 0 j c := fun j c q1 q2 q3 => by
      by_cases c1 : j = 76
      · rw [c1, z_upj _ _ _ _ _ _ _ (by omega), z_upk, if_neg q3, k2 0 76 (by omega)]
      · by_cases c2 : j = 77
        · rw [c2, z_upk, if_neg q3, z_upj _ _ _ _ _ _ _ (by omega), k2 0 77 (by omega)]
        · rw [oJ 0 j (by omega)]
    have hoth : ∀ z, z < n → ¬ z = m 1 → NS z (am_up (am_up I (m 1) 49 (m 3) (nI v)) (m 1) 50 (m 3) (nI 0)) (am_up (am_up J1 0 76 (136 * m 1 + m 3) (nI v)) 0 77 (136 * m 1 + m 3) (nI 0)) := fun z hz hne => (ns_cg (fun b hb => oI z b (by omega)) (fun j c q1 q2 q3 => o7 j _ q1 q2 (by omega)) (fun j hj => by rw [oJ 0 j (by omega)]) (hns z hz)).1
    have hcs : cs n (am_up (am_up J1 0 76 (136 * m 1 + m 3) (nI v)) 0 77 (136 * m 1 + m 3) (nI 0)) = cs n J := cs_eq n (fun z _ => by unfold cal; rw [oJ 0 87 (by omega)])
    have hW1 : WL (am_up (am_up I (m 1) 49 (m 3) (nI v)) (m 1) 50 (m 3) (nI 0)) (am_up (am_up J1 0 76 (136 * m 1 + m 3) (nI v)) 0 77 (136 * m 1 + m 3) (nI 0)) := by
      unfold WL at hW ⊢
      rw [oJ 0 64 (by omega), oI 0 0 (by omega), z_upj _ _ _ _ _ _ _ (show ¬ (0 = 0 ∧ 60 = 77) by omega), z_upj _ _ _ _ _ _ _ (show ¬ (0 = 0 ∧ 60 = 76) by omega), k3 48 (by omega), k3 50 (by omega)]
      exact hW
    obtain ⟨I', J', e', q1, q2, q3, q4, q5⟩ := gs_go w3 ⟨_, _, _, _, _, _, _, _, k9⟩ hNS0 hoth hW1 (by rw [hcs]; exact he)
    have e1 : gX10_deliver n (nI (gv 136 0)) I = some (nI (m 1), am_up (am_up I (m 1) 49 (m 3) (nI v)) (m 1) 50 (m 3) (nI 0)) := by
      rw [hdl, hk, if_neg (by decide), if_pos rfl, k4, Option.bind_some]
    have e2 : gX11_deliver n (nI (m 0)) (nI (m 1)) (nI (m 2)) (nI (m 3)) (nI (m 4)) J1 = some J' := by
      have at1 : ∀ Jx, gX11_at n (nI (m 1)) (nI (m 3)) Jx = some (nI (136 * m 1 + m 3), Jx) := fun Jx => by simp (disch := omega) only [gX11_at, bX11_at_0, pk_mul, nI_add]
      have gk : am_inb (nI (136 * m 1 + m 3)) 544 = true := by rw [z_inb (by omega)]; exact decide_eq_true (by omega)
      have kk : (nI (136 * m 1 + m 3)).toNatClampNeg = 136 * m 1 + m 3 := z_clamp (by omega)
      have e126 : bX11_deliver_126 n (nI (m 1)) (nI (m 3)) (nI v) (nI (136 * m 1 + m 3)) J1 = some J' := by
        unfold bX11_deliver_126
        rw [am_gd_of gk, kk, am_lt, at1, Option.bind_some, am_gd_of gk, kk, am_lt, q2, Option.bind_some]
        rfl
      rw [gX11_deliver, bX11_deliver_0, hk, if_neg (by decide), if_pos rfl, at1, Option.bind_some]
      dsimp only
      rw [at1, Option.bind_some, am_gd_of gk]
      dsimp only
      rw [kk]
      by_cases c : nI (m 4) ≤ J1 0 76 (136 * m 1 + m 3)
      · rw [if_pos c] at k5
        rw [if_pos c, at1, Option.bind_some, am_gd_of gk]
        dsimp only
        rw [kk, k5]
        exact e126
      · rw [if_neg c] at k5
        rw [if_neg c, k5]
        exact e126
    exact ⟨I', J', e', gvn gv 136, t_61g hc hd1 hn w3 e1 q1, r_12 (by omega) hi hML.2.1.1 hML.2.2.2.2.1 hT2 hmJ hm k1 e2, q3, g0, g1, by rw [g2, hl], by rw [q4, hcs], by rw [q5, z_upj _ _ _ _ _ _ _ (by omega), z_upj _ _ _ _ _ _ _ (by omega), k3 0 (by omega)]⟩
  · obtain ⟨I1, J', J1, a, ha, k1, k2, k3, ⟨ms3, H3, B3, K3, lg3, fb3, fq3, mk3, k4⟩, k5, k6, k7, k8⟩ := d_bk h hl hm hk (hns (m 1) w3)
    have hcs : cs n J' = cs n J := cs_eq n (fun z _ => by unfold cal; rw [k8])
    have e2 : gX11_deliver n (nI (m 0)) (nI (m 1)) (nI (m 2)) (nI (m 3)) (nI (m 4)) J1 = some J' := by
      rw [gX11_deliver, bX11_deliver_0, hk, if_neg (by decide), if_neg (by decide), if_pos rfl, k3, Option.bind_some]
      rfl
    have hns1 : ∀ z, z < n → NS z I1 J' := fun z hz => by
      by_cases c : z = m 1
      · rw [c]; exact k5
      · exact (ns_fr (by omega) c (by omega) k6 k7 (hns z hz)).1
    have hW1 := wl_fo hW k6 k7
    have e0 : gX10_deliver n (nI (gv 136 0)) I = some (if nI a = 0 then (-1 : Int32) else nI (m 1), I1) := by
      rw [hdl, hk, if_neg (by decide), if_neg (by decide), if_pos rfl, k2, Option.bind_some]
      by_cases c : nI a = 0
      · rw [if_pos c, if_pos c]
        rfl
      · rw [if_neg c, if_neg c]
        rfl
    by_cases c : nI a = 0
    · rw [if_pos c] at e0
      exact ⟨I1, J', e, gvn gv 136, t_61 hc hd1 e0, r_12 (by omega) hi hML.2.1.1 hML.2.2.2.2.1 hT2 hmJ hm k1 e2, ⟨rw, gvn gv, cl, A, jl, ⟨_, _, _, _, _, _, _, _, k4⟩, rfl, hns1, hW1⟩, g0, g1, by rw [g2, hl], by rw [hcs], k7.2.1 0 (by omega)⟩
    · rw [if_neg c] at e0
      obtain ⟨I', n1, n2, n3⟩ := c_nop w3 k4 k5
      refine ⟨I', J', e, gvn gv 136, t_61g hc hd1 hn w3 e0 n1, r_12 (by omega) hi hML.2.1.1 hML.2.2.2.2.1 hT2 hmJ hm k1 e2, ⟨rw, gvn gv, cl, A, jl, ⟨_, _, _, _, _, _, _, _, co_irr k4 ⟨fun a b q _ => n2 a b (by omega), by rw [n2 0 0 (by omega)], by rw [n2 0 15 (by omega)], by rw [n2 0 15 (by omega)]⟩ irJ.rf⟩, rfl, fun z hz => ?_, ?_⟩, g0, g1, by rw [g2, hl], by rw [hcs], k7.2.1 0 (by omega)⟩
      · by_cases cz : z = m 1
        · rw [cz]; exact ns_52 n2 n3 k5
        · exact (ns_cg (fun b _ => n2 z b (by omega)) (fun _ _ _ _ _ => rfl) (fun _ _ => rfl) (hns1 z hz)).1
      · unfold WL at hW1 ⊢
        rw [n2 0 0 (by omega)]
        exact hW1
  · obtain ⟨I', J', J1, ms', rw', gv', cl', k1, k2, k3, k4, k5, k6, k7⟩ := d_rel h hl hm hk
    have e1 : gX10_deliver n (nI (gv 136 0)) I = some ((-1 : Int32), I') := by
      rw [hdl, hk, if_neg (by decide), if_neg (by decide), if_neg (by decide), if_pos rfl]; exact k2
    have e2 : gX11_deliver n (nI (m 0)) (nI (m 1)) (nI (m 2)) (nI (m 3)) (nI (m 4)) J1 = some J' := by
      have gk : am_inb (nI (4 * m 3 + m 0)) 544 = true := by rw [z_inb (by omega)]; exact decide_eq_true (by omega)
      rw [gX11_deliver, bX11_deliver_0, hk, if_neg (by decide), if_neg (by decide), if_neg (by decide), if_pos rfl, pk_mul, nI_add, am_gd_of gk, z_clamp (by omega), am_lt, am_gd_of gk, am_lt]
      exact k3
    refine ⟨I', J', e, gv' 136, t_61 hc hd1 e1, r_12 (by omega) hi hML.2.1.1 hML.2.2.2.2.1 hT2 hmJ hm k1 e2, ⟨rw', gv', cl', A, jl, ⟨_, _, _, _, _, _, _, _, k4⟩, rfl, fun z hz => (ns_s k5 k6 (hns z hz)).1, wl_fs hW k5 k6⟩, by rw [k7, g0], by rw [k7, g1], by rw [k7, g2, hl], ?_, k6.2 0 (by omega)⟩
    rw [cs_eq (J := J) n (fun z hz => (ns_s k5 k6 (hns z hz)).2)]
end STEP
