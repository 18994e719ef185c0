
section BACK
variable {n T x r t ed : Nat} {I J I' J' : am_I} {lg fb : List Nat} {fq mk : Nat} {ms : List (Nat → Nat)}
theorem up_lp {Q : am_I → Prop} (hQI : ∀ I k, Q I → k < 136 → Q (am_up I x 52 k (nI 0))) : ∀ (suf : List Nat) (j fu : Nat) (I : am_I), suf.length < fu → j + suf.length ≤ 136 → (∀ c, c ∈ suf → c < 136) → I x 48 6 = nI (j + suf.length) → (∀ i c, suf[i]? = some c → I x 53 (j + i) = nI c) → Q I → ∃ I', bX10_unpinAll_7 n fu x x (nI j) I = bX10_unpinAll_35 n am_fu x x (nI 0) I' ∧ Q I' ∧ (∀ r, I' x 52 r = if r ∈ suf then nI 0 else I x 52 r) ∧ ∀ a b, ¬ (a = x ∧ b = 52) → I' a b = I a b := by
  intro suf
  induction suf with
  | nil =>
    intro j fu I hf hj h6 h48 h53 hq
    obtain ⟨fu, rfl⟩ : ∃ f, fu = f + 1 := ⟨fu - 1, by omega⟩
    refine ⟨I, ?_, hq, fun r => by rw [if_neg List.not_mem_nil], fun _ _ _ => rfl⟩
    conv => lhs; unfold bX10_unpinAll_7
    dsimp only
    have : I x 48 6 ≤ nI j := by rw [h48, z_le (by simp at hj ⊢; omega) (by simp at hj; omega)]; simp
    rw [if_pos this]
  | cons d suf ih =>
    intro j fu I hf hj h6 h48 h53 hq
    obtain ⟨fu, rfl⟩ : ∃ f, fu = f + 1 := ⟨fu - 1, by omega⟩
    rw [List.length_cons] at hf hj h48
    have hd := h6 d List.mem_cons_self
    obtain ⟨h53j, h53'⟩ := shf h53
    obtain ⟨I', r1, r2, r3, r4⟩ := ih (j + 1) fu (am_up I x 52 d (nI 0)) (by omega) (by omega) (fun c hc => h6 c (List.mem_cons_of_mem _ hc)) (by rw [z_upj _ _ _ _ _ _ _ (by omega), h48]; exact congrArg nI (by omega)) (by rw [z_upj _ _ _ _ _ _ _ (by omega)]; exact h53') (hQI I d hq hd)
    refine ⟨I', ?_, r2, fun r => ?_, fun a b q => by rw [r4 a b q, z_upj _ _ _ _ _ _ _ (by omega)]⟩
    · rw [← r1]
      conv => lhs; unfold bX10_unpinAll_7
      dsimp only
      rw [if_neg (by rw [h48, z_le (by omega) (by omega)]; omega), z_inb (by omega), decide_eq_true (by omega), z_gdt, z_clamp (by omega), h53j, z_inb (by omega), decide_eq_true hd, z_gdt, am_lt, z_clamp (by omega), nI_add]
    · rw [r3 r, z_upk]
      by_cases e : r ∈ suf
      · rw [if_pos e, if_pos (List.mem_cons_of_mem _ e)]
      · rw [if_neg e]
        by_cases e2 : r = d
        · rw [if_pos e2, if_pos (by rw [e2]; exact List.mem_cons_self)]
        · rw [if_neg e2, if_neg (fun q => (List.mem_cons.mp q).elim e2 e)]
/-- the list of a call, as the class has it -/
def LSc (x : Nat) (I : am_I) (ls : List Nat) : Prop := ls.Pairwise (· < ·) ∧ (∀ c, c ∈ ls → c < 136) ∧ I x 48 6 = nI ls.length ∧ ∀ i c, ls[i]? = some c → I x 53 i = nI c
theorem ls_len {ls : List Nat} (h : ls.Pairwise (· < ·)) (h6 : ∀ c, c ∈ ls → c < 136) : ls.length ≤ 136 := by
  have := pigeon ls (List.range 136) (nd_lt h) (fun c hc => List.mem_range.mpr (h6 c hc))
  rwa [List.length_range] at this
/-- a call's pins go: both sides -/
theorem p_unp {Q : am_I → am_I → Prop} {ls : List Nat} (hn : n ≤ 4) (hx : x < n) (hQ : ∀ I J, Q I J → ∃ lg fb fq mk ms, GBr n T x t ed I J lg fb fq mk ms) (hst : ∀ I J I' J' r, Q I J → r < 136 → GDs n T x r t ed I J I' J' → Q I' J') (hQJ : ∀ I J k, Q I J → k < 136 → Q I (am_up J 0 79 (136 * x + k) (nI 0))) (hQI : ∀ I J k, Q I J → k < 136 → Q (am_up I x 52 k (nI 0)) J) (hls : LSc x I ls) (hpin : ∀ r, r < 136 → I x 52 r = J 0 79 (136 * x + r)) (hpl : ∀ r, r < 136 → J 0 79 (136 * x + r) = nI 1 → r ∈ ls) (hW : ∀ r, r < 136 → WP x J r) (hq : Q I J) : ∃ I' J', gX10_unpinAll n x I = some I' ∧ gX11_unpin n (nI x) J = some J' ∧ Q I' J' ∧ (∀ r, r < 136 → I' x 52 r = nI 0 ∧ J' 0 79 (136 * x + r) = nI 0 ∧ WT x J' r) ∧ I' x 53 = I x 53 ∧ I' x 48 = I x 48 ∧ I' x 54 = I x 54 ∧ J' 0 81 = J 0 81 ∧ (∀ k, ¬ (136 * x ≤ k ∧ k < 136 * x + 136) → J' 0 79 k = J 0 79 k) := by
  obtain ⟨l1, l2, l3, l4⟩ := hls
  have hll := ls_len l1 l2
  obtain ⟨I1, a1, a2, a3, a4⟩ := up_lp (n := n) (x := x) (Q := fun I => Q I J) (fun I k => hQI I J k) ls 0 am_fu I (fu_lt (by omega)) (by omega) l2 (by rw [Nat.zero_add]; exact l3) (fun i c hk => by rw [Nat.zero_add]; exact l4 i c hk) hq
  have h52 : ∀ c, c < 136 → I1 x 52 c = nI 0 := fun c hc => by
    rw [a3 c]
    by_cases e : c ∈ ls
    · rw [if_pos e]
    · rw [if_neg e, hpin c hc]
      rcases hW c hc with ⟨w, -⟩ | ⟨w, -⟩
      · exact absurd (hpl c hc w) e
      · exact w
  obtain ⟨I', J', r1, r2, r3, r4, r5, r6, r7, r8, r9, r10⟩ := un_lp (n := n) (T := T) (t := t) (ed := ed) hn hx hQ hst hQJ 136 0 am_fu am_fu 0 ls I1 J rfl (fu_lt (by decide)) (fu_lt (by omega)) (by omega) l1 (fun c hc => ⟨Nat.zero_le _, l2 c hc⟩) (by rw [Nat.zero_add, a4 x 48 (by omega)]; exact l3) (fun i c hk => by rw [Nat.zero_add, a4 x 53 (by omega)]; exact l4 i c hk) (fun c _ hc hp => hpl c hc hp) (fun c hc => by omega) (fun c _ hc => hW c hc) h52 a2
  refine ⟨I', J', ?_, ?_, r3, fun c hc => ⟨by rw [r5]; exact h52 c hc, r4 c hc⟩, r6.trans (a4 x 53 (by omega)), r7.trans (a4 x 48 (by omega)), r8.trans (a4 x 54 (by omega)), r9, r10⟩
  · rw [gX10_unpinAll, bX10_unpinAll_0, a1, r1]
  · rw [gX11_unpin, bX11_unpin_0]
    exact r2
/-- a flush is over: what waited goes down, both sides -/
def WQ (x : Nat) (J : am_I) (r : Nat) : Prop := (J 0 79 (136 * x + r) = nI 1 ∧ J 0 80 (136 * x + r) = nI 0) ∨ (J 0 79 (136 * x + r) = nI 0 ∧ ((J 0 78 (136 * x + r) = (-1 : Int32) ∧ J 0 80 (136 * x + r) = nI 0) ∨ (¬ J 0 78 (136 * x + r) = (-1 : Int32) ∧ J 0 80 (136 * x + r) = nI 1)))
theorem wq_of (h : WP x J r) : WQ x J r := h.imp id (fun q => ⟨q.1, q.2.imp id (fun q => ⟨q.1, q.2.1⟩)⟩)
theorem fo_lp {Q : am_I → am_I → Prop} (hn : n ≤ 4) (hx : x < n) (hQ : ∀ I J, Q I J → ∃ lg fb fq mk ms, GBr n T x t ed I J lg fb fq mk ms) (hst : ∀ I J I' J' r, Q I J → r < 136 → GDs n T x r t ed I J I' J' → Q I' J') : ∀ (m k fu fuc : Nat) (I J : am_I), k + m = 136 → m < fu → m < fuc → (∀ c, c < k → WP x J c) → (∀ c, k ≤ c → c < 136 → WQ x J c) → (∀ c, c < 136 → I x 52 c = J 0 79 (136 * x + c)) → Q I J → ∃ I' J', bX10_endFlush_66 n fuc x (nI k) I = some (nI 1, I') ∧ bX11_flushOver_107 n fu (nI x) (nI k) J = (gX11_goOn n (nI x) J').bind (fun q1 => some q1) ∧ Q I' J' ∧ (∀ c, c < 136 → WP x J' c) ∧ I' x 52 = I x 52 ∧ J' 0 79 = J 0 79 ∧ I' x 53 = I x 53 ∧ I' x 48 = I x 48 ∧ I' x 54 = I x 54 ∧ J' 0 81 = J 0 81 := by
  intro m
  induction m with
  | zero =>
    intro k fu fuc I J hk hf hfc hlo hhi h52 hq
    obtain ⟨fu, rfl⟩ : ∃ f, fu = f + 1 := ⟨fu - 1, by omega⟩
    obtain ⟨fuc, rfl⟩ : ∃ f, fuc = f + 1 := ⟨fuc - 1, by omega⟩
    refine ⟨I, J, ?_, ?_, hq, fun c hc => hlo c (by omega), rfl, rfl, rfl, rfl, rfl, rfl⟩
    · conv => lhs; unfold bX10_endFlush_66
      dsimp only
      rw [if_pos (by rw [z_le (by omega) (by omega)]; omega)]
    · conv => lhs; unfold bX11_flushOver_107
      dsimp only
      rw [if_pos (by rw [z_le (by omega) (by omega)]; omega)]
  | succ m ih =>
    intro k fu fuc I J hk hf hfc hlo hhi h52 hq
    obtain ⟨fu, rfl⟩ : ∃ f, fu = f + 1 := ⟨fu - 1, by omega⟩
    obtain ⟨fuc, rfl⟩ : ∃ f, fuc = f + 1 := ⟨fuc - 1, by omega⟩
    have hk6 : k < 136 := by omega
    have g1 : 136 * x + k < 544 := by omega
    have cs : bX10_endFlush_66 n (fuc + 1) x (nI k) I = (gX10_goDown n x (nI k) I).bind (fun q1 => bX10_endFlush_66 n fuc x (nI (k + 1)) q1) := by
      conv => lhs; unfold bX10_endFlush_66
      dsimp only
      rw [if_neg (by rw [z_le (by omega) (by omega)]; omega), nI_add]
    have rs : bX11_flushOver_107 n (fu + 1) (nI x) (nI k) J = if J 0 80 (136 * x + k) = 0 then bX11_flushOver_107 n fu (nI x) (nI (k + 1)) J else (gX11_goDown n (nI x) (nI k) J).bind (fun q4 => bX11_flushOver_107 n fu (nI x) (nI (k + 1)) q4) := by
      conv => lhs; unfold bX11_flushOver_107
      dsimp only
      rw [if_neg (by rw [z_le (by omega) (by omega)]; omega), gX11_at, bX11_at_0, Option.bind_some, pk_mul, nI_add]
      dsimp only
      rw [z_inb (by omega), decide_eq_true g1, z_gdt, z_clamp (by omega)]
      simp only [bX11_flushOver_133, nI_add]
    obtain ⟨lg, fb, fq, mk, ms, hG⟩ := hQ I J hq
    have hlo' : ∀ J1 : am_I, WP x J1 k → (∀ c, ¬ c = k → WP x J c → WP x J1 c) → ∀ c, c < k + 1 → WP x J1 c := fun J1 h1 h2 c hc => by
      by_cases e : c = k
      · rw [e]; exact h1
      · exact h2 c e (hlo c (by omega))
    by_cases hw : J 0 80 (136 * x + k) = nI 0
    · -- nothing
      have hnop : gX10_goDown n x (nI k) I = some I ∧ WP x J k := by
        rcases hhi k (Nat.le_refl _) hk6 with ⟨w1, w2⟩ | ⟨w1, ⟨w2, w3⟩ | ⟨w2, w3⟩⟩
        · exact ⟨c_gd0 (n := n) hk6 hG.1 (Or.inr (by rw [h52 k hk6]; exact w1)), Or.inl ⟨w1, w2⟩⟩
        · exact ⟨c_gd0 (n := n) hk6 hG.1 (Or.inl w2), Or.inr ⟨w1, Or.inl ⟨w2, w3⟩⟩⟩
        · rw [hw] at w3; exact absurd w3 (by decide)
      rw [cs, rs, if_pos (show J 0 80 (136 * x + k) = 0 from hw), hnop.1, Option.bind_some]
      exact ih (k + 1) fu fuc I J (by omega) (by omega) (by omega) (hlo' J hnop.2 (fun _ _ q => q)) (fun c hc hc6 => hhi c (by omega) hc6) h52 hq
    · -- it waits
      have w : J 0 79 (136 * x + k) = nI 0 ∧ ¬ J 0 78 (136 * x + k) = (-1 : Int32) := by
        rcases hhi k (Nat.le_refl _) hk6 with ⟨w1, w2⟩ | ⟨w1, ⟨w2, w3⟩ | ⟨w2, w3⟩⟩
        · exact absurd w2 hw
        · exact absurd w3 hw
        · exact ⟨w1, w2⟩
      obtain ⟨m', m1, m2, m3⟩ := (hG.2.2.2.2.2.2.2 k hk6).2.2.resolve_left w.2
      obtain ⟨I1, J1, d1, d2, d3⟩ := p_gd (n := n) hn hx hk6 hG m1 m2 (by rw [h52 k hk6]; exact w.1)
      obtain ⟨f1, f2, f3, f4, f5, f6, f7, f8, f9, f10⟩ := gds_fr (by omega) hk6 d3
      rw [cs, rs, if_neg (show ¬ J 0 80 (136 * x + k) = 0 from hw), d1, d2, Option.bind_some, Option.bind_some]
      obtain ⟨I', J', r1, r2, r3, r4, r5, r6, r7, r8, r9, r10⟩ := ih (k + 1) fu fuc I1 J1 (by omega) (by omega) (by omega) (hlo' J1 (Or.inr ⟨by rw [f2]; exact w.1, f7⟩) (fun c hc q => by
        obtain ⟨v1, v2, v3⟩ := f1 (136 * x + c) (by omega)
        unfold WP at q ⊢
        rw [f2, v3]
        exact q.imp id (fun q => ⟨q.1, wt_cg q.2 v1 v2 v3 f6⟩))) (fun c hc hc6 => by
        obtain ⟨v1, v2, v3⟩ := f1 (136 * x + c) (by omega)
        have := hhi c (by omega) hc6
        unfold WQ at this ⊢
        rw [f2, v3, v2]
        exact this) (fun c hc => by rw [f3, f2]; exact h52 c hc) (hst I J I1 J1 k hq hk6 d3)
      exact ⟨I', J', r1, r2, r3, r4, r5.trans f3, r6.trans f2, r7.trans f4, r8.trans f5, r9.trans f10, r10.trans f8⟩
/-- a calling back comes, both sides -/
def CBs (n T x r md t ed f : Nat) (I J I' J' : am_I) (ms : List (Nat → Nat)) (a : Nat) : Prop :=
  ∃ h : Nat, h ≤ 2 ∧ J 0 76 (136 * x + r) = nI h ∧ ((h ≤ md ∧ a = 0 ∧ ∃ ms', MLr n T I' J' ms' ∧ snd (J 0 65) T x f 3 r h ms ms' ∧ fMI I I' ∧ fMJ J J')
    ∨ (md < h ∧ ∃ b I1 J1, b ≤ md ∧ (J 0 78 (136 * x + r) = (-1 : Int32) → b = md) ∧ I1 = am_up I x 51 r (nI b) ∧ J1 = am_up J 0 78 (136 * x + r) (nI b) ∧ ((J 0 79 (136 * x + r) = nI 1 ∧ a = 0 ∧ I' = I1 ∧ J' = J1) ∨ (J 0 79 (136 * x + r) = nI 0 ∧ a = 1 ∧ GDs n T x r t ed I1 J1 I' J'))))
theorem p_cb {md f : Nat} (hn : n ≤ 4) (hx : x < n) (hr : r < 136) (hf : f < n) (hmd : md < 2) (h : GBr n T x t ed I J lg fb fq mk ms) (hptr : ¬ J 0 76 (136 * x + r) = nI 0 → PTR x r J) (hpin : I x 52 r = J 0 79 (136 * x + r)) (h01 : J 0 79 (136 * x + r) = nI 0 ∨ J 0 79 (136 * x + r) = nI 1) : ∃ I' J' a, gX10_callBack n x (nI r) (nI md) (nI f) I = some (nI a, I') ∧ gX11_callBack n (nI f) (nI x) (nI r) (nI md) J = some J' ∧ CBs n T x r md t ed f I J I' J' ms a := by
  obtain ⟨hL, hC, hJ, hM, ⟨k1, k2, k3, k4, k5⟩, hl, hlc, hr8⟩ := h
  obtain ⟨⟨M, M1, M2⟩, ⟨hh, H1, H2⟩, hbk⟩ := hr8 r hr
  obtain ⟨l1, l2, l3⟩ := hL r hr
  have g1 : 136 * x + r < 544 := by omega
  have cw : gX10_callBack n x (nI r) (nI md) (nI f) I = if nI md < nI hh then (if J 0 78 (136 * x + r) = (-1 : Int32) then bX10_callBack_70 n x (nI r) x (nI md) (nI r) x I else bX10_callBack_70 n x (nI r) x (if J 0 78 (136 * x + r) ≤ nI md then J 0 78 (136 * x + r) else nI md) (nI r) x I) else ((gX10_post n (nI x) (nI f) (nI 3) (nI r) (nI hh) I).bind (fun q5 => some (nI 0, q5))) := by
    rw [gX10_callBack, bX10_callBack_0, z_inb (by omega), decide_eq_true hr, z_gdt, z_gdt, z_gdt, z_gdt, z_clamp (by omega), l1, H2, l3, k1]
  have rw1 : gX11_callBack n (nI f) (nI x) (nI r) (nI md) J = if nI md < nI hh then (if J 0 78 (136 * x + r) = (-1 : Int32) then bX11_callBack_76 n (nI x) (nI r) (nI (136 * x + r)) (nI md) (nI (136 * x + r)) J else (if J 0 78 (136 * x + r) ≤ nI md then bX11_callBack_76 n (nI x) (nI r) (nI (136 * x + r)) (J 0 78 (136 * x + r)) (nI (136 * x + r)) J else bX11_callBack_76 n (nI x) (nI r) (nI (136 * x + r)) (nI md) (nI (136 * x + r)) J)) else ((gX11_send n (nI x) (nI f) (nI 3) (nI r) (nI hh) J).bind (fun q7 => some q7)) := by
    rw [gX11_callBack, bX11_callBack_0, gX11_at, bX11_at_0, Option.bind_some, pk_mul, nI_add]
    dsimp only
    rw [z_inb (by omega), decide_eq_true g1, z_gdt, z_gdt, z_gdt, z_gdt, z_gdt, z_clamp (by omega), ← H2]
    rfl
  by_cases hlt : md < hh
  · have hlt' : nI md < nI hh := by rw [z_lt (by omega) (by omega)]; exact hlt
    -- what back becomes
    obtain ⟨b, b1, b2, b3, b4⟩ : ∃ b : Nat, b ≤ md ∧ (J 0 78 (136 * x + r) = (-1 : Int32) → b = md) ∧ gX10_callBack n x (nI r) (nI md) (nI f) I = bX10_callBack_70 n x (nI r) x (nI b) (nI r) x I ∧ gX11_callBack n (nI f) (nI x) (nI r) (nI md) J = bX11_callBack_76 n (nI x) (nI r) (nI (136 * x + r)) (nI b) (nI (136 * x + r)) J := by
      rw [cw, rw1, if_pos hlt', if_pos hlt']
      rcases hbk with e | ⟨m, m1, m2, m3⟩
      · rw [if_pos e, if_pos e]
        exact ⟨md, Nat.le_refl _, fun _ => rfl, rfl, rfl⟩
      · have e : ¬ J 0 78 (136 * x + r) = (-1 : Int32) := by rw [m2]; exact z_m1n (by omega)
        rw [if_neg e, if_neg e, m2]
        by_cases c : m ≤ md
        · have c' : nI m ≤ nI md := by rw [z_le (by omega) (by omega)]; exact c
          rw [if_pos c', if_pos c']
          exact ⟨m, c, fun q => absurd q (z_m1n (by omega)), rfl, rfl⟩
        · have c' : ¬ nI m ≤ nI md := by rw [z_le (by omega) (by omega)]; exact c
          rw [if_neg c', if_neg c']
          exact ⟨md, Nat.le_refl _, fun _ => rfl, rfl, rfl⟩
    obtain ⟨I1, hI1⟩ : ∃ I1, I1 = am_up I x 51 r (nI b) := ⟨_, rfl⟩
    obtain ⟨J1, hJ1⟩ : ∃ J1, J1 = am_up J 0 78 (136 * x + r) (nI b) := ⟨_, rfl⟩
    have ii : ∀ a c, ¬ (a = x ∧ c = 51) → I1 a c = I a c := fun a c q => by rw [hI1, z_upj _ _ _ _ _ _ _ (by omega)]
    have jj : ∀ a c, ¬ (a = 0 ∧ c = 78) → J1 a c = J a c := fun a c q => by rw [hJ1, z_upj _ _ _ _ _ _ _ (by omega)]
    have i51 : ∀ k, I1 x 51 k = if k = r then nI b else I x 51 k := fun k => by rw [hI1, z_upk]
    have j78 : ∀ k, J1 0 78 k = if k = 136 * x + r then nI b else J 0 78 k := fun k => by rw [hJ1, z_upk]
    have hG1 : GBr n T x t ed I1 J1 lg fb fq mk ms := by
      refine ⟨fun k hk => ?_, ?_, ?_, ?_, ⟨by rw [ii x 40 (by omega)]; exact k1, fun z hz => by rw [ii z 40 (by omega), jj 0 66 (by omega)]; exact k2 z hz, k3, by rw [jj 0 60 (by omega)]; exact k4, by rw [ii 0 13 (by omega)]; exact k5⟩, hl, by rw [jj 0 68 (by omega)]; exact hlc, fun k hk => ?_⟩
      · rw [ii x 49 (by omega), ii x 50 (by omega), jj 0 76 (by omega), jj 0 77 (by omega), i51, j78]
        obtain ⟨q1, q2, q3⟩ := hL k hk
        by_cases e : k = r
        · rw [if_pos e, if_pos (by omega)]; exact ⟨q1, q2, rfl⟩
        · rw [if_neg e, if_neg (by omega)]; exact ⟨q1, q2, q3⟩
      · unfold CHr
        rw [ii x 43 (by omega), ii x 41 (by omega), ii x 42 (by omega), jj 0 68 (by omega), jj 0 67 (by omega)]
        exact hC
      · exact jn_cg hJ (ii x 44 (by omega)) (ii x 45 (by omega)) (ii x 46 (by omega)) (ii x 47 (by omega)) (fun b _ => by rw [jj 0 69 (by omega)]) (by rw [jj 0 70 (by omega)]) (by rw [jj 0 71 (by omega)]) (by rw [jj 0 72 (by omega)]) (by rw [jj 0 73 (by omega)]) (jj 0 74 (by omega)) (jj 0 75 (by omega))
      · unfold MLr mC mR
        have e101 : ∀ c, c < 6 → J1 0 (101 + c) = J 0 (101 + c) := fun c hc => jj 0 (101 + c) (by omega)
        rw [ii 0 9 (by omega), ii 0 11 (by omega), ii 0 0 (by omega), ii 0 10 (by omega), jj 0 60 (by omega), jj 0 107 (by omega), jj 0 108 (by omega), jj 0 65 (by omega)]
        obtain ⟨q1, q2, q3, q4, q5, q6, q7, q8, q9, q10, q11⟩ := hM
        exact ⟨q1, ⟨q2.1, q2.2.1, fun k mm hk c hc => by rw [e101 c hc]; exact q2.2.2 k mm hk c hc⟩, q3, q4, q5, q6, q7, q8, q9, fun z hz => by rw [ii z 40 (by omega)]; exact q10 z hz, q11⟩
      · obtain ⟨q1, q2, q3⟩ := hr8 k hk
        refine ⟨by rw [jj 0 66 (by omega)]; exact q1, by rw [jj 0 76 (by omega)]; exact q2, ?_⟩
        have hP : ∀ k, PTR x k J1 ↔ PTR x k J := fun k => by
          unfold PTR
          rw [jj 0 68 (by omega), jj 0 67 (by omega)]
        rw [j78]
        by_cases e : k = r
        · rw [if_pos (by omega)]
          refine Or.inr ⟨b, by omega, rfl, fun _ => ?_⟩
          rw [hP, e]
          exact hptr (by rw [H2]; exact fun q => by have := w_nI (b := 0) (by omega) (by decide) q; omega)
        · rw [if_neg (by omega)]
          exact q3.imp id (fun ⟨m, m1, m2, m3⟩ => ⟨m, m1, m2, fun q => (hP k).mpr (m3 q)⟩)
    have cs : gX10_callBack n x (nI r) (nI md) (nI f) I = (gX10_goDown n x (nI r) I1).bind (fun q3 => if q3 x 52 r = 0 then bX10_callBack_92 n (nI 1) q3 else bX10_callBack_92 n (nI 0) q3) := by
      rw [b3, bX10_callBack_70, z_inb (by omega), decide_eq_true hr, z_gdt, am_lt, z_clamp (by omega), ← hI1]
      rfl
    have rs : gX11_callBack n (nI f) (nI x) (nI r) (nI md) J = if J 0 79 (136 * x + r) = 0 then (gX11_goDown n (nI x) (nI r) J1).bind (fun q4 => bX11_callBack_93 n q4) else bX11_callBack_93 n J1 := by
      rw [b4, bX11_callBack_76, z_inb (by omega), decide_eq_true g1, z_gdt, am_lt, z_clamp (by omega), ← hJ1, z_gdt, jj 0 79 (by omega)]
    rcases h01 with hp | hp
    · obtain ⟨I', J', d1, d2, d3⟩ := p_gd (n := n) hn hx hr hG1 (m := b) (by omega) (by rw [j78, if_pos rfl]) (by rw [ii x 52 (by omega), hpin]; exact hp)
      obtain ⟨f1, f2, f3, -⟩ := gds_fr (by omega) hr d3
      refine ⟨I', J', 1, ?_, ?_, hh, H1, H2, Or.inr ⟨hlt, b, I1, J1, b1, b2, hI1, hJ1, Or.inr ⟨hp, rfl, d3⟩⟩⟩
      · rw [cs, d1, Option.bind_some, if_pos (by rw [f3, ii x 52 (by omega), hpin, hp]; rfl), bX10_callBack_92, z_011, z_gdt]
      · rw [rs, if_pos (show J 0 79 (136 * x + r) = 0 from hp), d2]
        rfl
    · refine ⟨I1, J1, 0, ?_, ?_, hh, H1, H2, Or.inr ⟨hlt, b, I1, J1, b1, b2, hI1, hJ1, Or.inl ⟨hp, rfl, rfl, rfl⟩⟩⟩
      · rw [cs, c_gd0 (n := n) hr hG1.1 (Or.inr (by rw [ii x 52 (by omega), hpin]; exact hp)), Option.bind_some, if_neg (by rw [ii x 52 (by omega), hpin, hp]; decide), bX10_callBack_92, z_01, z_gdt]
      · rw [rs, if_neg (show ¬ J 0 79 (136 * x + r) = 0 from by rw [hp]; decide)]
        rfl
  · have hlt' : ¬ nI md < nI hh := by rw [z_lt (by omega) (by omega)]; exact hlt
    obtain ⟨I', J', ms', s1, s2, s3, s4, s5, s6⟩ := p_send (n := n) (f := x) (t := f) (k := 3) (r := r) (md := hh) hn hM hl hx hf ⟨by decide, by omega, by omega⟩
    refine ⟨I', J', 0, ?_, ?_, hh, H1, H2, Or.inl ⟨by omega, rfl, ms', s3, s6, s4, s5⟩⟩
    · rw [cw, if_neg hlt', s1, Option.bind_some]
    · rw [rw1, if_neg hlt', s2, Option.bind_some]
end BACK
