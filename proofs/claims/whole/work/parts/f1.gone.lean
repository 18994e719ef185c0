
section GONE1
variable {n x : Nat}
def zr (g : Nat → Nat → Nat) (r : Nat) : Nat → Nat → Nat := fun s y => if s = r then 0 else g s y
theorem cwi_lp {r : Nat} (hr : r < 136) : ∀ (q k fu : Nat) (I : am_I), k + q = 4 → q < fu → ∃ I', bX6_wipe_2 n fu (nI r) (nI k) I = some I' ∧ (∀ p, I' 0 4 p = if 4 * r + k ≤ p ∧ p < 4 * r + 4 then nI 0 else I 0 4 p) ∧ (∀ p, I' 0 5 p = if 4 * r + k ≤ p ∧ p < 4 * r + 4 then (-1 : Int32) else I 0 5 p) ∧ (∀ p, I' 0 8 p = if p = r then nI 0 else I 0 8 p) ∧ ∀ a b, ¬ (a = 0 ∧ (b = 4 ∨ b = 5 ∨ b = 8)) → I' a b = I a b := by
  intro q
  induction q with
  | zero =>
    intro k fu I hk hf
    obtain ⟨fu, rfl⟩ : ∃ f, fu = f + 1 := ⟨fu - 1, by omega⟩
    refine ⟨am_up I 0 8 r (nI 0), ?_, fun p => by rw [if_neg (by omega), z_upj _ _ _ _ _ _ _ (by omega)], fun p => by rw [if_neg (by omega), z_upj _ _ _ _ _ _ _ (by omega)], fun p => z_upk _ _ _ _ _ _, fun a b q => z_upj _ _ _ _ _ _ _ (by omega)⟩
    conv => lhs; unfold bX6_wipe_2
    dsimp only
    rw [if_pos (by rw [z_le (by omega) (by omega)]; omega), am_gd_of (by rw [z_inb (by omega)]; exact decide_eq_true hr), am_lt, z_clamp (by omega)]
  | succ q ih =>
    intro k fu I hk hf
    obtain ⟨fu, rfl⟩ : ∃ f, fu = f + 1 := ⟨fu - 1, by omega⟩
    have g : am_inb (nI (4 * r + k)) 544 = true := by rw [z_inb (by omega)]; exact decide_eq_true (by omega)
    obtain ⟨I', e1, e2, e3, e4, e5⟩ := ih (k + 1) fu (am_up (am_up I 0 4 (4 * r + k) (nI 0)) 0 5 (4 * r + k) (-1 : Int32)) (by omega) (by omega)
    refine ⟨I', ?_, fun p => ?_, fun p => ?_, fun p => by rw [e4 p, z_upj _ _ _ _ _ _ _ (by omega), z_upj _ _ _ _ _ _ _ (by omega)], fun a b q => by rw [e5 a b q, z_upj _ _ _ _ _ _ _ (by omega), z_upj _ _ _ _ _ _ _ (by omega)]⟩
    · rw [← e1]
      conv => lhs; unfold bX6_wipe_2
      dsimp only
      rw [if_neg (by rw [z_le (by omega) (by omega)]; omega), pk_mul, Nat.mul_comm r 4, nI_add, am_gd_of g, am_lt, am_gd_of g, am_lt, z_clamp (by omega), nI_add]
    · rw [e2 p, z_upj _ _ _ _ _ _ _ (by omega), z_upk]
      by_cases e : 4 * r + (k + 1) ≤ p ∧ p < 4 * r + 4
      · rw [if_pos e, if_pos (by omega)]
      · rw [if_neg e]
        by_cases d : p = 4 * r + k
        · rw [if_pos d, if_pos (by omega)]
        · rw [if_neg d, if_neg (by omega)]
    · rw [e3 p, z_upk, z_upj _ _ _ _ _ _ _ (by omega)]
      by_cases e : 4 * r + (k + 1) ≤ p ∧ p < 4 * r + 4
      · rw [if_pos e, if_pos (by omega)]
      · rw [if_neg e]
        by_cases d : p = 4 * r + k
        · rw [if_pos d, if_pos (by omega)]
        · rw [if_neg d, if_neg (by omega)]
theorem rwi_lp {r : Nat} (hr : r < 136) : ∀ (q k fu : Nat) (J : am_I), k + q = 4 → q < fu → ∃ J', bX11_noMaster_9 n fu (nI r) (nI k) J = some J' ∧ (∀ p, J' 0 94 p = if 4 * r + k ≤ p ∧ p < 4 * r + 4 then nI 0 else J 0 94 p) ∧ (∀ p, J' 0 95 p = if 4 * r + k ≤ p ∧ p < 4 * r + 4 then (-1 : Int32) else J 0 95 p) ∧ ∀ a b, ¬ (a = 0 ∧ (b = 94 ∨ b = 95)) → J' a b = J a b := by
  intro q
  induction q with
  | zero =>
    intro k fu J hk hf
    obtain ⟨fu, rfl⟩ : ∃ f, fu = f + 1 := ⟨fu - 1, by omega⟩
    refine ⟨J, ?_, fun p => by rw [if_neg (by omega)], fun p => by rw [if_neg (by omega)], fun _ _ _ => rfl⟩
    conv => lhs; unfold bX11_noMaster_9
    dsimp only
    rw [if_pos (by rw [z_le (by omega) (by omega)]; omega)]
  | succ q ih =>
    intro k fu J hk hf
    obtain ⟨fu, rfl⟩ : ∃ f, fu = f + 1 := ⟨fu - 1, by omega⟩
    have g : am_inb (nI (4 * r + k)) 544 = true := by rw [z_inb (by omega)]; exact decide_eq_true (by omega)
    obtain ⟨J', e1, e2, e3, e5⟩ := ih (k + 1) fu (am_up (am_up J 0 94 (4 * r + k) (nI 0)) 0 95 (4 * r + k) (-1 : Int32)) (by omega) (by omega)
    refine ⟨J', ?_, fun p => ?_, fun p => ?_, fun a b q => by rw [e5 a b q, z_upj _ _ _ _ _ _ _ (by omega), z_upj _ _ _ _ _ _ _ (by omega)]⟩
    · rw [← e1]
      conv => lhs; unfold bX11_noMaster_9
      dsimp only
      rw [if_neg (by rw [z_le (by omega) (by omega)]; omega), pk_mul, nI_add, am_gd_of g, am_lt, am_gd_of g, am_lt, z_clamp (by omega), nI_add]
    · rw [e2 p, z_upj _ _ _ _ _ _ _ (by omega), z_upk]
      by_cases e : 4 * r + (k + 1) ≤ p ∧ p < 4 * r + 4
      · rw [if_pos e, if_pos (by omega)]
      · rw [if_neg e]
        by_cases d : p = 4 * r + k
        · rw [if_pos d, if_pos (by omega)]
        · rw [if_neg d, if_neg (by omega)]
    · rw [e3 p, z_upk, z_upj _ _ _ _ _ _ _ (by omega)]
      by_cases e : 4 * r + (k + 1) ≤ p ∧ p < 4 * r + 4
      · rw [if_pos e, if_pos (by omega)]
      · rw [if_neg e]
        by_cases d : p = 4 * r + k
        · rw [if_pos d, if_pos (by omega)]
        · rw [if_neg d, if_neg (by omega)]
/-- one side each: a resource's master has nothing -/
def wpI (r : Nat) (I I' : am_I) : Prop := (∀ p, I' 0 4 p = if 4 * r ≤ p ∧ p < 4 * r + 4 then nI 0 else I 0 4 p) ∧ (∀ p, I' 0 5 p = if 4 * r ≤ p ∧ p < 4 * r + 4 then (-1 : Int32) else I 0 5 p) ∧ (∀ p, I' 0 8 p = if p = r then nI 0 else I 0 8 p) ∧ ∀ a b, ¬ (a = 0 ∧ (b = 4 ∨ b = 5 ∨ b = 8)) → I' a b = I a b
def wpJ (r : Nat) (J J' : am_I) : Prop := (∀ p, J' 0 94 p = if 4 * r ≤ p ∧ p < 4 * r + 4 then nI 0 else J 0 94 p) ∧ (∀ p, J' 0 95 p = if 4 * r ≤ p ∧ p < 4 * r + 4 then (-1 : Int32) else J 0 95 p) ∧ (∀ p, J' 0 96 p = if p = r then nI 0 else J 0 96 p) ∧ ∀ a b, ¬ (a = 0 ∧ (b = 94 ∨ b = 95 ∨ b = 96)) → J' a b = J a b
theorem c_wipe {r : Nat} {I : am_I} (hr : r < 136) : ∃ I', gX6_wipe n (nI r) I = some I' ∧ wpI r I I' := by
  obtain ⟨f, hf, hf1⟩ := fu_ex
  obtain ⟨I', e1, e2, e3, e4, e5⟩ := cwi_lp (n := n) hr 4 0 am_fu I (by omega) (by rw [hf]; omega)
  rw [Nat.add_zero] at e2 e3
  exact ⟨I', by rw [gX6_wipe, bX6_wipe_0]; exact e1, e2, e3, e4, e5⟩
theorem r_wipe {r : Nat} {J : am_I} (hr : r < 136) : ∃ J', gX11_noMaster n (nI r) J = some J' ∧ wpJ r J J' := by
  obtain ⟨f, hf, hf1⟩ := fu_ex
  obtain ⟨J', e1, e2, e3, e5⟩ := rwi_lp (n := n) hr 4 0 am_fu (am_up J 0 96 r (nI 0)) (by omega) (by rw [hf]; omega)
  rw [Nat.add_zero] at e2 e3
  refine ⟨J', ?_, fun p => by rw [e2 p, z_upj _ _ _ _ _ _ _ (by omega)], fun p => by rw [e3 p, z_upj _ _ _ _ _ _ _ (by omega)], fun p => by rw [e5 0 96 (by omega), z_upk], fun a b q => by rw [e5 a b (by omega), z_upj _ _ _ _ _ _ _ (by omega)]⟩
  rw [gX11_noMaster, bX11_noMaster_0, am_gd_of (by rw [z_inb (by omega)]; exact decide_eq_true hr), am_lt, z_clamp (by omega)]
  exact e1
theorem ms_wipe {r : Nat} {I J I' J' : am_I} {rw : Nat → List (Nat × Nat)} {gv cl : Nat → Nat → Nat} (h : MSr n I J rw gv cl) (hI : wpI r I I') (hJ : wpJ r J J') : MSr n I' J' (up1 rw r []) (zr gv r) (zr cl r) := fun s hs => by
  obtain ⟨a1, a2, a3, a4, a5⟩ := h s hs
  obtain ⟨i1, i2, i3, i4⟩ := hI
  obtain ⟨j1, j2, j3, j4⟩ := hJ
  unfold MS1
  by_cases e : s = r
  · subst e
    rw [up1_at]
    refine ⟨Nat.zero_le _, by rw [i3, if_pos rfl]; rfl, by rw [j3, if_pos rfl]; rfl, fun i p hp => by simp at hp, fun y hy => ?_⟩
    have z0 : ∀ g : Nat → Nat → Nat, zr g s s y = 0 := fun g => if_pos rfl
    rw [i1, if_pos (by omega), i2, if_pos (by omega), j1, if_pos (by omega), j2, if_pos (by omega), z0, z0]
    exact ⟨by omega, rfl, rfl, by omega, rfl, rfl⟩
  · rw [up1_ne e]
    have z0 : ∀ g : Nat → Nat → Nat, zr g r s = g s := fun g => funext fun y => if_neg e
    refine ⟨a1, by rw [i3, if_neg e]; exact a2, by rw [j3, if_neg e]; exact a3, fun i p hp => ?_, fun y hy => ?_⟩
    · rw [i4 0 6 (by omega), i4 0 7 (by omega), j4 0 97 (by omega), j4 0 98 (by omega)]
      exact a4 i p hp
    · rw [i1, if_neg (by omega), i2, if_neg (by omega), j1, if_neg (by omega), j2, if_neg (by omega), z0, z0]
      exact a5 y hy
/-- the masters of a node that crashed have nothing -/
theorem mw_lp (hn0 : 0 < n) (hn : n ≤ 4) (hx : x < n) (jn : Nat → Int32) : ∀ (q r fu fur : Nat) (I J : am_I) (rw : Nat → List (Nat × Nat)) (gv cl : Nat → Nat → Nat), r + q = 136 → q < fu → q < fur → J 0 66 = jn → J 0 60 1 = nI n → (∀ z, z < n → I z 40 6 = J 0 66 z) → MSr n I J rw gv cl → ∃ I' J', bX10_crash_115 n fu (nI x) (nI r) I = some (.inl none, I') ∧ bX11_crash_193 n fur (nI x) (nI r) J = bX11_crash_226 n am_fu (nI x) (nI 0) J' ∧ MSr n I' J' (fun s => if r ≤ s ∧ mst n jn s n 0 = nI x then [] else rw s) (fun s y => if r ≤ s ∧ mst n jn s n 0 = nI x then 0 else gv s y) (fun s y => if r ≤ s ∧ mst n jn s n 0 = nI x then 0 else cl s y) ∧ (∀ a b, ¬ (a = 0 ∧ (b = 4 ∨ b = 5 ∨ b = 8)) → I' a b = I a b) ∧ ∀ a b, ¬ (a = 0 ∧ (b = 94 ∨ b = 95 ∨ b = 96)) → J' a b = J a b := by
  intro q
  induction q with
  | zero =>
    intro r fu fur I J rw gv cl hr hf hfr h66 h1 hj hM
    obtain ⟨fu, rfl⟩ : ∃ f, fu = f + 1 := ⟨fu - 1, by omega⟩
    obtain ⟨fur, rfl⟩ : ∃ f, fur = f + 1 := ⟨fur - 1, by omega⟩
    refine ⟨I, J, ?_, ?_, fun s hs => ?_, fun _ _ _ => rfl, fun _ _ _ => rfl⟩
    · conv => lhs; unfold bX10_crash_115
      dsimp only
      rw [if_pos (by rw [z_le (by omega) (by omega)]; omega)]
    · conv => lhs; unfold bX11_crash_193
      dsimp only
      rw [if_pos (by rw [z_le (by omega) (by omega)]; omega)]
    · have c : ¬ (r ≤ s ∧ mst n jn s n 0 = nI x) := fun q => by omega
      simp only [if_neg c]
      exact hM s hs
  | succ q ih =>
    intro r fu fur I J rw gv cl hr hf hfr h66 h1 hj hM
    obtain ⟨fu, rfl⟩ : ∃ f, fu = f + 1 := ⟨fu - 1, by omega⟩
    obtain ⟨fur, rfl⟩ : ∃ f, fur = f + 1 := ⟨fur - 1, by omega⟩
    have hr6 : r < 136 := by omega
    obtain ⟨m1, m2⟩ := p_mst (n := n) (r := r) hn0 hn hr6 h1 hj
    rw [h66] at m1 m2
    have c1 : bX10_crash_115 n (fu + 1) (nI x) (nI r) I = if mst n jn r n 0 = nI x then (gX6_wipe n (nI r) I).bind (fun q2 => bX10_crash_115 n fu (nI x) (nI (r + 1)) q2) else bX10_crash_115 n fu (nI x) (nI (r + 1)) I := by
      conv => lhs; unfold bX10_crash_115
      dsimp only
      rw [if_neg (by rw [z_le (by omega) (by omega)]; omega), m1, Option.bind_some]
      simp only [bX10_crash_142, nI_add]
    have r1 : bX11_crash_193 n (fur + 1) (nI x) (nI r) J = if mst n jn r n 0 = nI x then (gX11_noMaster n (nI r) J).bind (fun q2 => bX11_crash_193 n fur (nI x) (nI (r + 1)) q2) else bX11_crash_193 n fur (nI x) (nI (r + 1)) J := by
      conv => lhs; unfold bX11_crash_193
      dsimp only
      rw [if_neg (by rw [z_le (by omega) (by omega)]; omega), m2, Option.bind_some]
      simp only [bX11_crash_217, nI_add]
    by_cases c : mst n jn r n 0 = nI x
    · obtain ⟨I1, d1, d2⟩ := c_wipe (n := n) (I := I) hr6
      obtain ⟨J1, d3, d4⟩ := r_wipe (n := n) (J := J) hr6
      obtain ⟨I2, J2, k1, k2, k3, k4, k5⟩ := ih (r + 1) fu fur I1 J1 (up1 rw r []) (zr gv r) (zr cl r) (by omega) (by omega) (by omega) (by rw [d4.2.2.2 0 66 (by omega)]; exact h66) (by rw [d4.2.2.2 0 60 (by omega)]; exact h1) (fun z hz => by rw [d2.2.2.2 z 40 (by omega), d4.2.2.2 0 66 (by omega)]; exact hj z hz) (ms_wipe hM d2 d4)
      refine ⟨I2, J2, by rw [c1, if_pos c, d1, Option.bind_some]; exact k1, by rw [r1, if_pos c, d3, Option.bind_some]; exact k2, fun s hs => ?_, fun a b q => (k4 a b q).trans (d2.2.2.2 a b q), fun a b q => (k5 a b q).trans (d4.2.2.2 a b q)⟩
      have := k3 s hs
      by_cases e : s = r
      · subst e
        have n1 : ¬ (s + 1 ≤ s ∧ mst n jn s n 0 = nI x) := fun q => by omega
        have n2 : s ≤ s ∧ mst n jn s n 0 = nI x := ⟨Nat.le_refl _, c⟩
        simp only [if_neg n1, up1_at] at this
        simp only [if_pos n2]
        have z0 : ∀ g : Nat → Nat → Nat, zr g s s = fun _ => 0 := fun g => funext fun y => if_pos rfl
        rw [z0, z0] at this
        exact this
      · have z0 : ∀ g : Nat → Nat → Nat, zr g r s = g s := fun g => funext fun y => if_neg e
        have n1 : (r + 1 ≤ s ∧ mst n jn s n 0 = nI x) ↔ (r ≤ s ∧ mst n jn s n 0 = nI x) := ⟨fun q => ⟨by omega, q.2⟩, fun q => ⟨by omega, q.2⟩⟩
        simp only [n1, up1_ne e, z0] at this
        exact this
    · obtain ⟨I2, J2, k1, k2, k3, k4, k5⟩ := ih (r + 1) fu fur I J rw gv cl (by omega) (by omega) (by omega) h66 h1 hj hM
      refine ⟨I2, J2, by rw [c1, if_neg c]; exact k1, by rw [r1, if_neg c]; exact k2, fun s hs => ?_, k4, k5⟩
      have := k3 s hs
      have n1 : (r + 1 ≤ s ∧ mst n jn s n 0 = nI x) ↔ (r ≤ s ∧ mst n jn s n 0 = nI x) := ⟨fun q => ⟨by omega, q.2⟩, fun q => ⟨by
        by_cases e : s = r
        · rw [e] at q; exact absurd q.2 c
        · omega, q.2⟩⟩
      simp only [n1] at this
      exact this
/-- neither from nor to a node -/
def kp (x : Nat) (m : Nat → Nat) : Bool := decide (¬ m 0 = x ∧ ¬ m 1 = x)
theorem rf_lp (hx : x < 4) : ∀ (suf Kp : List (Nat → Nat)) (fu : Nat) (J : am_I), mR J (Kp ++ suf) → (Kp ++ suf).length < 128 → suf.length < fu → ∃ J', bX11_crash_226 n fu (nI x) (nI Kp.length) J = bX11_crash_275 n am_fu (nI x) (nI 0) J' ∧ mR J' (Kp ++ suf.filter (kp x)) ∧ (∀ a b, ¬ (a = 0 ∧ (b = 60 ∨ (101 ≤ b ∧ b ≤ 106))) → J' a b = J a b) ∧ ∀ k, ¬ k = 38 → J' 0 60 k = J 0 60 k := by
  intro suf
  induction suf with
  | nil =>
    intro Kp fu J hR hl hf
    obtain ⟨fu, rfl⟩ : ∃ f, fu = f + 1 := ⟨fu - 1, by omega⟩
    rw [List.append_nil] at hR hl
    refine ⟨J, ?_, by rw [List.filter_nil, List.append_nil]; exact hR, fun _ _ _ => rfl, fun _ _ => rfl⟩
    conv => lhs; unfold bX11_crash_226
    dsimp only
    rw [if_pos (by rw [hR.1, z_le (by omega) (by omega)]; exact Nat.le_refl _)]
  | cons m suf ih =>
    intro Kp fu J hR hl hf
    obtain ⟨fu, rfl⟩ : ∃ f, fu = f + 1 := ⟨fu - 1, by omega⟩
    rw [List.length_cons] at hf
    have hlen : (Kp ++ m :: suf).length = Kp.length + suf.length + 1 := by simp only [List.length_append, List.length_cons]; omega
    have hget : (Kp ++ m :: suf)[Kp.length]? = some m := by rw [List.getElem?_append_right (Nat.le_refl _), Nat.sub_self]; rfl
    have hw := hR.2.1 m (List.mem_append_right _ List.mem_cons_self)
    have h0 : J 0 101 Kp.length = nI (m 0) := hR.2.2 _ m hget 0 (by omega)
    have h1 : J 0 102 Kp.length = nI (m 1) := hR.2.2 _ m hget 1 (by omega)
    have g : am_inb (nI Kp.length) 4096 = true := by rw [z_inb (by omega)]; exact decide_eq_true (by omega)
    have q0 := hw 0 (by omega)
    have q1 := hw 1 (by omega)
    have st : bX11_crash_226 n (fu + 1) (nI x) (nI Kp.length) J = if m 0 = x ∨ m 1 = x then (gX11_removeMessage n (nI Kp.length) J).bind (fun q => bX11_crash_226 n fu (nI x) (nI Kp.length) q) else bX11_crash_226 n fu (nI x) (nI (Kp.length + 1)) J := by
      conv => lhs; unfold bX11_crash_226
      dsimp only
      rw [if_neg (by rw [hR.1, z_le (by omega) (by omega)]; omega), am_gd_of g, z_clamp (by omega), h0, h1, am_gd_of g, nI_add]
      unfold bX11_crash_257
      by_cases c0 : m 0 = x
      · rw [if_pos (by rw [c0]), if_pos (Or.inl c0)]
      · rw [if_neg (by rw [z_eq (by omega) (by omega)]; exact c0)]
        by_cases c1 : m 1 = x
        · rw [if_pos (by rw [c1]), if_pos (Or.inr c1)]
        · rw [if_neg (by rw [z_eq (by omega) (by omega)]; exact c1), if_neg (by omega)]
    by_cases c : m 0 = x ∨ m 1 = x
    · obtain ⟨J1, d1, d2, d3, d4⟩ := r_rem (n := n) hR hl
      obtain ⟨J2, e1, e2, e3, e4⟩ := ih Kp fu J1 d2 (by rw [hlen] at hl; rw [List.length_append]; omega) (by omega)
      have hk : ¬ kp x m = true := fun q => by
        have := of_decide_eq_true q
        omega
      rw [List.filter_cons_of_neg hk]
      exact ⟨J2, by rw [st, if_pos c, d1, Option.bind_some]; exact e1, e2, fun a b q => (e3 a b q).trans (d3 a b q), fun k q => (e4 k q).trans (d4 k q)⟩
    · have hk : kp x m = true := decide_eq_true ⟨fun q => c (Or.inl q), fun q => c (Or.inr q)⟩
      obtain ⟨J2, e1, e2, e3, e4⟩ := ih (Kp ++ [m]) fu J (by rw [List.append_assoc, List.singleton_append]; exact hR) (by rw [List.append_assoc, List.singleton_append]; exact hl) (by omega)
      rw [List.filter_cons_of_pos hk]
      rw [List.append_assoc, List.singleton_append] at e2
      rw [List.length_append] at e1
      exact ⟨J2, by rw [st, if_neg c]; exact e1, e2, e3, e4⟩
theorem ld_lp (hx : x < 4) : ∀ (q y fu : Nat) (J : am_I), y + q = 4 → q < fu → ∃ J', bX11_crash_275 n fu (nI x) (nI y) J = some J' ∧ (∀ f t, f < 4 → t < 4 → J' 0 108 (4 * f + t) = if (f = x ∧ y ≤ t) ∨ (t = x ∧ y ≤ f) then nI 0 else J 0 108 (4 * f + t)) ∧ ∀ a b, ¬ (a = 0 ∧ b = 108) → J' a b = J a b := by
  intro q
  induction q with
  | zero =>
    intro y fu J hy hf
    obtain ⟨fu, rfl⟩ : ∃ f, fu = f + 1 := ⟨fu - 1, by omega⟩
    refine ⟨J, ?_, fun f t hf ht => by rw [if_neg (by omega)], fun _ _ _ => rfl⟩
    conv => lhs; unfold bX11_crash_275
    dsimp only
    rw [if_pos (by rw [z_le (by omega) (by omega)]; omega)]
  | succ q ih =>
    intro y fu J hy hf
    obtain ⟨fu, rfl⟩ : ∃ f, fu = f + 1 := ⟨fu - 1, by omega⟩
    have g1 : am_inb (nI (4 * x + y)) 16 = true := by rw [z_inb (by omega)]; exact decide_eq_true (by omega)
    have g2 : am_inb (nI (4 * y + x)) 16 = true := by rw [z_inb (by omega)]; exact decide_eq_true (by omega)
    obtain ⟨J', e1, e2, e3⟩ := ih (y + 1) fu (am_up (am_up J 0 108 (4 * x + y) (nI 0)) 0 108 (4 * y + x) (nI 0)) (by omega) (by omega)
    refine ⟨J', ?_, fun f t hf ht => ?_, fun a b q => by rw [e3 a b q, z_upj _ _ _ _ _ _ _ (by omega), z_upj _ _ _ _ _ _ _ (by omega)]⟩
    · rw [← e1]
      conv => lhs; unfold bX11_crash_275
      dsimp only
      rw [if_neg (by rw [z_le (by omega) (by omega)]; omega), pk_mul, nI_add, am_gd_of g1, am_lt, pk_mul, nI_add, am_gd_of g2, am_lt, z_clamp (by omega), z_clamp (by omega), nI_add]
    · rw [e2 f t hf ht, z_upk, z_upk]
      by_cases e : (f = x ∧ y + 1 ≤ t) ∨ (t = x ∧ y + 1 ≤ f)
      · rw [if_pos e, if_pos (by omega)]
      · rw [if_neg e]
        by_cases d1 : 4 * f + t = 4 * y + x
        · rw [if_pos d1, if_pos (by omega)]
        · rw [if_neg d1]
          by_cases d2 : 4 * f + t = 4 * x + y
          · rw [if_pos d2, if_pos (by omega)]
          · rw [if_neg d2, if_neg (by omega)]
/-- the class forgets the messages of a node -/
theorem fgm_lp (hx : x < 4) : ∀ (suf Kp : List (Nat → Nat)) (i fu : Nat) (I : am_I), suf.length < fu → Kp.length ≤ i → i + suf.length ≤ 100 → I 0 9 3 = nI (i + suf.length) → (∀ k m, Kp[k]? = some m → ∀ c, c < 6 → I 0 11 (6 * k + c) = nI (m c)) → (∀ k m, suf[k]? = some m → ∀ c, c < 6 → I 0 11 (6 * (i + k) + c) = nI (m c)) → (∀ m, m ∈ suf → mw m) → ∃ I', bX5_forget_4 n fu (nI x) (nI Kp.length) (nI i) I = some I' ∧ (∀ k m, (Kp ++ suf.filter (kp x))[k]? = some m → ∀ c, c < 6 → I' 0 11 (6 * k + c) = nI (m c)) ∧ I' 0 9 3 = nI (Kp ++ suf.filter (kp x)).length ∧ (∀ a b, ¬ (a = 0 ∧ (b = 9 ∨ b = 11)) → I' a b = I a b) ∧ ∀ k, ¬ k = 3 → I' 0 9 k = I 0 9 k := by
  intro suf
  induction suf with
  | nil =>
    intro Kp i fu I hf hk hl h3 hK _ _
    obtain ⟨fu, rfl⟩ : ∃ f, fu = f + 1 := ⟨fu - 1, by omega⟩
    rw [List.filter_nil, List.append_nil]
    refine ⟨am_up I 0 9 3 (nI Kp.length), ?_, fun k m hk c hc => by rw [z_upj _ _ _ _ _ _ _ (by omega)]; exact hK k m hk c hc, by rw [z_upk, if_pos rfl], fun a b q => z_upj _ _ _ _ _ _ _ (by omega), fun k q => by rw [z_upk, if_neg q]⟩
    conv => lhs; unfold bX5_forget_4
    dsimp only
    rw [if_pos (by rw [h3, List.length_nil, Nat.add_zero]; rw [z_le (by omega) (by omega)]; exact Nat.le_refl _), am_lt]
  | cons m suf ih =>
    intro Kp i fu I hf hk hl h3 hK hs hw
    obtain ⟨fu, rfl⟩ : ∃ f, fu = f + 1 := ⟨fu - 1, by omega⟩
    rw [List.length_cons] at hf hl h3
    have hm := hw m List.mem_cons_self
    have hsm : ∀ c, c < 6 → I 0 11 (6 * i + c) = nI (m c) := hs 0 m rfl
    have q0 := hm 0 (by omega)
    have q1 := hm 1 (by omega)
    have e0 : nI i * nI 6 = nI (6 * i) := by rw [pk_mul, Nat.mul_comm]
    have e1 : nI Kp.length * nI 6 = nI (6 * Kp.length) := by rw [pk_mul, Nat.mul_comm]
    have g0 : am_inb (nI (6 * i)) 768 = true := by rw [z_inb (by omega)]; exact decide_eq_true (by omega)
    have g1 : am_inb (nI (6 * i + 1)) 768 = true := by rw [z_inb (by omega)]; exact decide_eq_true (by omega)
    have cpb : am_cpb (nI (6 * i)) (nI (6 * Kp.length)) (nI 6) 768 768 = true := by
      have z : ∀ k, k < 1000 → ¬ nI k < 0 := fun k hk q => absurd ((z_lt (a := k) (b := 0) (by omega) (by omega)).mp q) (by omega)
      unfold am_cpb
      exact decide_eq_true ⟨z _ (by omega), z _ (by omega), z 6 (by omega), by rw [z_clamp (by omega), z_clamp (by omega)]; omega, by rw [z_clamp (by omega), z_clamp (by omega)]; omega⟩
    have gl : ¬ I 0 9 3 ≤ nI i := by rw [h3, z_le (by omega) (by omega)]; omega
    let I1 : am_I := am_upf I 0 11 (va_cpy (I 0 11) (I 0 11) (6 * i) (6 * Kp.length) 6)
    have st : bX5_forget_4 n (fu + 1) (nI x) (nI Kp.length) (nI i) I = if m 0 = x ∨ m 1 = x then bX5_forget_4 n fu (nI x) (nI Kp.length) (nI (i + 1)) I else bX5_forget_4 n fu (nI x) (nI (Kp.length + 1)) (nI (i + 1)) I1 := by
      conv => lhs; unfold bX5_forget_4
      dsimp only
      rw [if_neg gl, e0, am_gd_of g0, z_clamp (by omega), show I 0 11 (6 * i) = nI (m 0) from hsm 0 (by omega), nI_add, am_gd_of g1, z_clamp (by omega), hsm 1 (by omega), e1, am_gd_of cpb, am_lt, z_clamp (by omega), z_clamp (by omega)]
      unfold bX5_forget_64
      rw [nI_add, nI_add]
      by_cases c0 : m 0 = x
      · rw [if_pos (by rw [c0]), if_pos (Or.inl c0)]
      · rw [if_neg (by rw [z_eq (by omega) (by omega)]; exact c0)]
        by_cases c1 : m 1 = x
        · rw [if_pos (by rw [c1]), if_pos (Or.inr c1)]
        · rw [if_neg (by rw [z_eq (by omega) (by omega)]; exact c1), if_neg (by omega)]
    by_cases c : m 0 = x ∨ m 1 = x
    · have hkp : ¬ kp x m = true := fun q => by
        have := of_decide_eq_true q
        omega
      rw [List.filter_cons_of_neg hkp, st, if_pos c]
      exact ih Kp (i + 1) fu I (by omega) (by omega) (by omega) (by rw [h3]; congr 1; omega) hK (fun k a hk c hc => by
        rw [show i + 1 + k = i + (k + 1) from by omega]
        exact hs (k + 1) a (by rw [List.getElem?_cons_succ]; exact hk) c hc) (fun a ha => hw a (List.mem_cons_of_mem _ ha))
    · have hkp : kp x m = true := decide_eq_true ⟨fun q => c (Or.inl q), fun q => c (Or.inr q)⟩
      have o1 : ∀ a b, ¬ (a = 0 ∧ b = 11) → I1 a b = I a b := fun a b q => z_upfj _ _ _ _ _ _ q
      have k1 : ∀ k c, c < 6 → I1 0 11 (6 * k + c) = if k = Kp.length then nI (m c) else I 0 11 (6 * k + c) := fun k c hc => by
        show am_upf I 0 11 (va_cpy (I 0 11) (I 0 11) (6 * i) (6 * Kp.length) 6) 0 11 (6 * k + c) = _
        rw [z_upfs]
        unfold va_cpy
        by_cases q : k = Kp.length
        · rw [if_pos (by omega), if_pos q, ← hsm c hc]
          congr 1
          omega
        · rw [if_neg (by omega), if_neg q]
      obtain ⟨I', r1, r3, r4, r5, r6⟩ := ih (Kp ++ [m]) (i + 1) fu I1 (by omega) (by rw [List.length_append]; simp only [List.length_cons, List.length_nil]; omega) (by omega) (by rw [o1 0 9 (by omega), h3]; congr 1; omega) (fun k a hk c hc => by
        rw [k1 k c hc]
        rcases app_get hk with ⟨q1, q2⟩ | ⟨q1, q2⟩
        · rw [if_neg (by omega)]; exact hK k a q2 c hc
        · rw [if_pos q1, q2]) (fun k a hk c hc => by
        rw [k1 _ c hc, if_neg (by omega), show i + 1 + k = i + (k + 1) from by omega]
        exact hs (k + 1) a (by rw [List.getElem?_cons_succ]; exact hk) c hc) (fun a ha => hw a (List.mem_cons_of_mem _ ha))
      rw [List.filter_cons_of_pos hkp, st, if_neg c]
      rw [List.append_assoc, List.singleton_append] at r3 r4
      rw [List.length_append] at r1
      exact ⟨I', r1, r3, r4, fun a b q => (r5 a b q).trans (o1 a b (by omega)), fun k q => by rw [r6 k q, o1 0 9 (by omega)]⟩
end GONE1
