section WRITE
variable {n y : Nat} {Hd : Nat → Int} {F0 F F' : (Nat → Nat) → wS} {I0 J0 I J : am_I} {X : List Nat} {E : Nat → Prop} {gn : List Nat} {gp gp' pd pd' : Nat → Prop}
/-- a word of a block that an inode owns -/
theorem tn_wset {k p b i : Nat} {v : Int32} (hC : TC n y Hd I0 J0) (h : TN y Hd F0 I0 J0 X E F gn gp pd I J) (hE : ∀ b, ¬ E b) (hH : Hd k = 2) (ho : w_own (vw y J) k p b) (hp : p < 24) (hib : tH y J (w_ib k)) (hix : 8 ≤ p → p < 24 → tH y J (vw y J (w_ib k) 11).toNatClampNeg) (hv : vw y J (w_ib k) 0 = nI 2 → i % 2 = 1 → ∃ t : Nat, t < 128 ∧ v = nI t) (hi : i < 16) (hbX : b ∈ X) (hX : X.length ≤ 18) : ∃ I' J', gX9_set n (nI b) (nI i) v I = some I' ∧ gX11_set n (nI b) (nI i) v J = some J' ∧ TN y Hd F0 I0 J0 X E (fun L => w_up (F L) b i v) gn gp pd I' J' ∧ vw y J' = w_up (vw y J) b i v ∧ (∀ c, tH y J' c ↔ tH y J c ∨ c = b) ∧ (∀ k, ¬ k = 5 → I' 0 15 k = I 0 15 k) ∧ (∀ k, ¬ k = 56 → J' 0 60 k = J 0 60 k) := by
  have hbD := ho.2.2.1
  refine tn_setv (F' := fun L => w_up (F L) b i v) (gp' := gp) (pd' := pd) (i := i) (v := v) hC h (w_D_lt hbD) hi (hE _) (tr_rdo h.1 (by omega) ho hib hix) (Or.inl hbX) (by omega) (fun L sv hs Bh hL hT hh hc => ?_)
  have hoL := (tr_own h.1 hL (by omega : 0 < Hd k)).mpr ho
  refine ti_word hT hH hoL hp (fun q => hv (by rw [tr_vw h.1 hL (of_ib ho.1) (by omega) (by omega)]; exact q)) hh (fun q hq => ?_)
  obtain ⟨-, rfl⟩ := hT.1.1.2.1 k q k p b hq hoL
  refine ⟨hc _ hib, fun q1 q2 => ?_⟩
  rw [← tr_vw h.1 hL (of_ib ho.1) (by omega) (by omega)]
  exact hc _ (hix q1 q2)
/-- an inode's size -/
theorem tn_zset {k z : Nat} (hC : TC n y Hd I0 J0) (h : TN y Hd F0 I0 J0 X E F gn gp pd I J) (hE : ∀ b, ¬ E b) (hk : k < 128) (hH : Hd k = 2) (hib : tH y J (w_ib k)) (hz : ¬ vw y J (w_ib k) 0 = nI 0) (hle : z ≤ 384) (he : vw y J (w_ib k) 0 = nI 2 → z % 2 = 0) (hbX : w_ib k ∈ X) (hX : X.length ≤ 18) : ∃ I' J', gX9_set n (nI (w_ib k)) (nI 2) (nI z) I = some I' ∧ gX11_set n (nI (w_ib k)) (nI 2) (nI z) J = some J' ∧ TN y Hd F0 I0 J0 X E (fun L => w_up (F L) (w_ib k) 2 (nI z)) gn gp pd I' J' ∧ vw y J' = w_up (vw y J) (w_ib k) 2 (nI z) ∧ (∀ c, tH y J' c ↔ tH y J c ∨ c = w_ib k) ∧ (∀ k, ¬ k = 5 → I' 0 15 k = I 0 15 k) ∧ (∀ k, ¬ k = 56 → J' 0 60 k = J 0 60 k) :=
  tn_setv (F' := fun L => w_up (F L) (w_ib k) 2 (nI z)) (gp' := gp) (pd' := pd) (i := 2) (v := nI z) hC h (w_ib_lt hk) (by omega) (hE _) (Or.inl hib) (Or.inl hbX) (by omega) (fun L sv hs Bh hL hT hh hc => ti_ibw hT hk hH (by omega) (x_size hT.1 hk (by rw [← tr_vw h.1 hL (of_ib hk) (by omega) (by omega)]; exact hz) hle (fun q => he (by rw [tr_vw h.1 hL (of_ib hk) (by omega) (by omega)]; exact q))) hh)
/-- an inode's links -/
theorem tn_lset {k : Nat} {v : Int32} (hC : TC n y Hd I0 J0) (h : TN y Hd F0 I0 J0 X E F gn gp pd I J) (hE : ∀ b, ¬ E b) (hk : k < 128) (hH : Hd k = 2) (hib : tH y J (w_ib k)) (hz : ¬ vw y J (w_ib k) 0 = nI 0) (hbX : w_ib k ∈ X) (hX : X.length ≤ 18) : ∃ I' J', gX9_set n (nI (w_ib k)) (nI 1) v I = some I' ∧ gX11_set n (nI (w_ib k)) (nI 1) v J = some J' ∧ TN y Hd F0 I0 J0 X E (fun L => w_up (F L) (w_ib k) 1 v) gn gp pd I' J' ∧ vw y J' = w_up (vw y J) (w_ib k) 1 v ∧ (∀ c, tH y J' c ↔ tH y J c ∨ c = w_ib k) ∧ (∀ k, ¬ k = 5 → I' 0 15 k = I 0 15 k) ∧ (∀ k, ¬ k = 56 → J' 0 60 k = J 0 60 k) :=
  tn_setv (F' := fun L => w_up (F L) (w_ib k) 1 v) (gp' := gp) (pd' := pd) (i := 1) (v := v) hC h (w_ib_lt hk) (by omega) (hE _) (Or.inl hib) (Or.inl hbX) (by omega) (fun L sv hs Bh hL hT hh hc => ti_ibw hT hk hH (by omega) (x_link hT.1 hk (by rw [← tr_vw h.1 hL (of_ib hk) (by omega) (by omega)]; exact hz)) hh)
/-- what WRITE does behind its lock, in the reference -/
def rW (n : Nat) (l1 l2 l3 l4 : Int32) (J : am_I) : Option am_I := (gX11_blockFor n l1 l2 J).bind (fun q2 => (gX11_isOver n q2.2).bind (fun q3 => if q3.1 = 0 then (if l4 = 0 then (bX11_tryWrite_50 n l1 l2 q2.1 l3 q3.2) else ((gX11_get n q2.1 (l2 - l2 / (nI 16) * (nI 16)) q3.2).bind (fun q4 => bX11_tryWrite_50 n l1 l2 q2.1 (q4.1 + l3) q4.2))) else (some q3.2)))
/-- .. in the class -/
def cW (n y c : Nat) (l2 l3 l4 : Int32) (I : am_I) : Option am_I := (gX9_reach n (I y 55 1) l4 I).bind (fun q1 => if q1.1 = 0 then (some q1.2) else (bX9_writeWord_113 n y l2 l3 l4 q1.1 (q1.2 y 55 c) q1.2))
theorem w_tail {k a z b p : Nat} {v l2 : Int32} (hC : TC n y Hd I0 J0) (h : TN y Hd F0 I0 J0 X (fun _ => False) F [] (fun _ => False) (fun _ => False) I J) (hX : X.length ≤ 8) (hX1 : b ∈ X) (hX2 : w_ib k ∈ X) (hk : k < 128) (hH : Hd k = 2) (ha : I0 y 55 1 = nI k) (hz1 : vw y J (w_ib k) 0 = nI 1) (hz2 : vw y J (w_ib k) 2 = nI z) (hz : z ≤ 384) (hib : tH y J (w_ib k)) (hix : 8 ≤ p → p < 24 → tH y J (vw y J (w_ib k) 11).toNatClampNeg) (ho : w_own (vw y J) k p b) (hp : p = a / 16) (ha3 : a < 384) :
    ∃ I1 J1 F', bX9_writeWord_140 n y l2 (nI z) (nI a) (nI b) v I = bX9_writeWord_175 n l2 (nI a) v I1 ∧ bX11_tryWrite_50 n (nI k) (nI a) (nI b) v J = bX11_tryWrite_83 n v J1 ∧ TN y Hd F0 I0 J0 X (fun _ => False) F' [] (fun _ => False) (fun _ => False) I1 J1 ∧ ∀ L, L y = 2 → ES (F L) (F' L) := by
  have hn4 := hC.2.1
  have hyn := hC.1
  have hbD := ho.2.2.1
  obtain ⟨I1, J1, e1, e2, e3, e4, e5, e6, e7⟩ := tn_wset (i := a % 16) (v := v) hC h (fun _ q => q) hH ho (by omega) hib hix (fun q => by rw [hz1] at q; exact absurd q (by decide)) (by omega) hX1 (by omega)
  have hv : ∀ i, vw y J1 (w_ib k) i = vw y J (w_ib k) i := fun i => by rw [e4, w_up_b _ _ _ _ (D_ib hbD hk)]
  have hib1 : tH y J1 (w_ib k) := (e5 _).mpr (Or.inl hib)
  have g2 := r_getc (n := n) (i := 2) (by omega) hib1 (by omega) (tn_c e3).2
  rw [hv 2, hz2] at g2
  have hes : ∀ L, L y = 2 → ∀ v2, ES (F L) (w_up (F L) b (a % 16) v) ∧ ES (F L) (w_up (w_up (F L) b (a % 16) v) (w_ib k) 2 v2) := fun L hL v2 => by
    have hoL := (tr_own h.1 hL (by omega : 0 < Hd k)).mpr ho
    have k1 : ¬ F L (w_ib k) 0 = nI 2 := by
      rw [← tr_vw h.1 hL (of_ib hk) (by omega) (by omega), hz1]
      decide
    have kb : ∀ i, w_up (F L) b (a % 16) v (w_ib k) i = F L (w_ib k) i := fun i => w_up_b _ _ _ _ (D_ib hbD hk)
    have kc : ∀ c i, (∀ p, ¬ w_own (F L) k p c) → w_up (F L) b (a % 16) v c i = F L c i := fun c i hc => w_up_b _ _ _ _ (fun e => hc p (e ▸ hoL))
    refine ⟨es_file (tr_wf h.1 hL).1.1 (tr_wf h.1 hL).1.2.1 hk k1 (by rw [kb]; exact k1) (kb 1) (fun c i _ h2 _ => kc c i h2), es_file (tr_wf h.1 hL).1.1 (tr_wf h.1 hL).1.2.1 hk k1 (by rw [w_up_i _ _ _ (by omega : ¬ 0 = 2), kb]; exact k1) (by rw [w_up_i _ _ _ (by omega : ¬ 1 = 2), kb]) (fun c i h1 h2 _ => by rw [w_up_b _ _ _ _ h1]; exact kc c i h2)⟩
  by_cases hlt : a < z
  · refine ⟨I1, J1, _, ?_, ?_, e3, fun L hL => (hes L hL (nI 0)).1⟩
    · simp (disch := omega) only [bX9_writeWord_140, pk_div, pk_mul, pk_sub, show a - a / 16 * 16 = a % 16 from by omega, e1, Option.bind_some, z_lt, hlt, if_true]
    · simp (disch := omega) only [bX11_tryWrite_50, pk_div, pk_mul, pk_sub, show a - a / 16 * 16 = a % 16 from by omega, e2, Option.bind_some, a_of hk, g2, z_lt, hlt, if_true]
  · obtain ⟨I2, J2, f1, f2, f3, f4, f5, f6, f7⟩ := tn_zset (z := a + 1) hC e3 (fun _ q => q) hk hH hib1 (by rw [hv, hz1]; decide) (by omega) (fun q => by rw [hv, hz1] at q; exact absurd q (by decide)) hX2 (by omega)
    refine ⟨I2, J2, _, ?_, ?_, f3, fun L hL => (hes L hL _).2⟩
    · simp (disch := omega) only [bX9_writeWord_140, pk_div, pk_mul, pk_sub, show a - a / 16 * 16 = a % 16 from by omega, e1, Option.bind_some, z_lt, hlt, if_false, tn_a e3, ha, c_ib n k I1 hk, nI_add, f1]
    · simp (disch := omega) only [bX11_tryWrite_50, pk_div, pk_mul, pk_sub, show a - a / 16 * 16 = a % 16 from by omega, e2, Option.bind_some, a_of hk, g2, z_lt, hlt, if_false, a_si hk, nI_add, f2]
theorem w_core {k a z c : Nat} {v l2 l4 : Int32} (hC : TC n y Hd I0 J0) (hM : ∀ r, r < 136 → Hd r ≤ 2) (h : TN0 y Hd F0 I0 J0 I J) (hk : k < 128) (hH : Hd k = 2) (ha : I0 y 55 1 = nI k) (hc : I0 y 55 c = v) (hkd : (I0 y 55 0 = nI 11 ∧ ¬ l4 = 0) ∨ (¬ I0 y 55 0 = nI 11 ∧ l4 = 0)) (hz1 : vw y J (w_ib k) 0 = nI 1) (hz2 : vw y J (w_ib k) 2 = nI z) (hz : z ≤ 384) (hib : tH y J (w_ib k)) (ha3 : a < 384) :
    (∃ v' I1 J1 X' F', cW n y c l2 (nI z) (nI a) I = bX9_writeWord_175 n l2 (nI a) v' I1 ∧ rW n (nI k) (nI a) v l4 J = bX11_tryWrite_83 n v' J1 ∧ TN y Hd F0 I0 J0 X' (fun _ => False) F' [] (fun _ => False) (fun _ => False) I1 J1 ∧ X'.length ≤ 8 ∧ ∀ L, L y = 2 → ES (F0 L) (F' L))
    ∨ (∃ I' J', cW n y c l2 (nI z) (nI a) I = some I' ∧ rW n (nI k) (nI a) v l4 J = some J' ∧ EN y Hd F0 I0 J0 I' J') := by
  have hn4 := hC.2.1
  have hyn := hC.1
  obtain ⟨xx, ⟨b, F1, I1, J1, s0, s1, s2, s3, s6, s7, s8, s9, s10, s11, s12, s13⟩ | ⟨I1, J1, s1, s2, s3⟩⟩ := tn_reach (n := n) (a := a) hC hM h (fun _ q => q) (fun _ q => q) (Nat.zero_le _) hk hH (by rw [hz1]; decide) hib ha3
  · have hb0 : ¬ nI b = (0 : Int32) := w_D0 s0
    have m1 : b ∈ [w_ib k, xx, b] := by simp
    have m2 : w_ib k ∈ [w_ib k, xx, b] := by simp
    have v0 : vw y J1 (w_ib k) 0 = nI 1 := by rw [s9 k 0 hk (Or.inr (by omega))]; exact hz1
    have v2 : vw y J1 (w_ib k) 2 = nI z := by rw [s9 k 2 hk (Or.inr (by omega))]; exact hz2
    have cI : cW n y c l2 (nI z) (nI a) I = bX9_writeWord_113 n y l2 (nI z) (nI a) (nI b) v I1 := by
      simp only [cW, tn_a h, ha, s1, Option.bind_some, hb0, if_false, tn_a s3, hc]
    rcases hkd with ⟨k1, k2⟩ | ⟨k1, k2⟩
    · obtain ⟨I2, J2, f1, f2, f3, f4, f5⟩ := tn_rdv (i := a % 16) hC s3 (w_D_lt s0) (by omega) (fun q => q) (tr_rdo s3.1 (by omega) s6 s7 s8)
      obtain ⟨I3, J3, F3, g1, g2, g3, g4⟩ := w_tail (v := v + vw y J1 b (a % 16)) (l2 := l2) (z := z) (a := a) hC f3 (Nat.le_of_ble_eq_true rfl) m1 m2 hk hH ha (by rw [f4.1]; exact v0) (by rw [f4.1]; exact v2) hz (f4.2.1 _ s7) (by rw [f4.1]; exact fun q1 q2 => f4.2.1 _ (s8 q1 q2)) (by rw [f4.1]; exact s6) rfl ha3
      refine Or.inl ⟨v + vw y J1 b (a % 16), I3, J3, _, F3, ?_, ?_, g3, Nat.le_of_ble_eq_true rfl, fun L hL => (s13 L hL).tr (g4 L hL)⟩
      · rw [cI, ← g1]
        simp (disch := omega) only [bX9_writeWord_113, tn_a s3, k1, if_true, pk_div, pk_mul, pk_sub, show a - a / 16 * 16 = a % 16 from by omega, f1, Option.bind_some]
      · rw [← g2]
        simp (disch := omega) only [rW, s2, Option.bind_some, ov_rn s3.2, z_00, if_true, k2, if_false, pk_div, pk_mul, pk_sub, show a - a / 16 * 16 = a % 16 from by omega, f2, Int32.add_comm _ v]
    · obtain ⟨I3, J3, F3, g1, g2, g3, g4⟩ := w_tail (v := v) (l2 := l2) (z := z) (a := a) hC s3 (Nat.le_of_ble_eq_true rfl) m1 m2 hk hH ha v0 v2 hz s7 s8 s6 rfl ha3
      refine Or.inl ⟨v, I3, J3, _, F3, ?_, ?_, g3, Nat.le_of_ble_eq_true rfl, fun L hL => (s13 L hL).tr (g4 L hL)⟩
      · rw [cI, ← g1]
        simp only [bX9_writeWord_113, tn_a s3, k1, if_false]
      · rw [← g2]
        simp only [rW, s2, Option.bind_some, ov_rn s3.2, z_00, if_true, k2]
  · refine Or.inr ⟨I1, J1, ?_, ?_, s3⟩
    · simp only [cW, tn_a h, ha, s1, Option.bind_some, z_00, if_true]
    · simp only [rW, s2, Option.bind_some, ov_en s3.2, z_10, if_false]
/-- what is met is pinned, and stays met -/
theorem met_pin {r m : Nat} {J1 : am_I} (hC : TC n y Hd I0 J0) (h : TN y Hd F0 I0 J0 X E F gn gp pd I J) (hr : r < 136) (hm : gX11_meets n (nI r) (nI m) J = some (nI 1, J1)) : J0 0 79 (136 * y + r) = nI 1 := by
  obtain ⟨fi, fj, i8, j51⟩ := tr_fr h.1
  obtain ⟨c1, c2, c3, c4⟩ := hC.2.2 r hr
  have hy := hC.1
  have hn4 := hC.2.1
  rcases c4 with h0 | h0
  · have e4 : J 0 79 (136 * y + r) = nI 0 := by rw [fj.1 0 79 (by omega)]; exact h0
    have g1 : 136 * y + r < 544 := by omega
    have : gX11_meets n (nI r) (nI m) J = some (nI 0, am_up (am_up J 0 60 52 (nI r)) 0 60 53 (nI m)) := by
      simp (disch := omega) only [gX11_meets, bX11_meets_0, bX11_meets_44, ov_rn h.2, Option.bind_some, z_00, if_true, gX11_at, bX11_at_0, j51, pk_mul, nI_add, z_inb, z_clamp, g1, decide_true, z_gdt, e4, am_lt]
    rw [this] at hm
    have := congrArg (fun o => o.map Prod.fst) hm
    simp only [Option.map_some, Option.some.injEq] at this
    exact absurd this z_n01
  · exact h0
theorem met_again {r m : Nat} (hC : TC n y Hd I0 J0) (h : TN y Hd F0 I0 J0 X E F gn gp pd I J) (hr : r < 136) (hm : m = 1 ∨ m = 2) (hp : J0 0 79 (136 * y + r) = nI 1) (hH : (m : Int) ≤ Hd r) : gX9_meet n (nI r) (nI m) I = some (nI 1, I) ∧ gX11_meets n (nI r) (nI m) J = some (nI 1, J) := by
  obtain ⟨fi, fj, i8, j51⟩ := tr_fr h.1
  obtain ⟨c1, c2, c3, c4⟩ := hC.2.2 r hr
  have hy := hC.1
  have hn4 := hC.2.1
  have e1 : I y 49 r = J0 0 76 (136 * y + r) := by rw [fi y 49 (by omega) (by omega)]; exact c1
  have e2 : I y 52 r = nI 1 := by rw [fi y 52 (by omega) (by omega), c2]; exact hp
  have e3 : J 0 76 (136 * y + r) = J0 0 76 (136 * y + r) := by rw [fj.1 0 76 (by omega)]
  have e4 : J 0 79 (136 * y + r) = nI 1 := by rw [fj.1 0 79 (by omega)]; exact hp
  have g1 : 136 * y + r < 544 := by omega
  have hl2 : ¬ J0 0 76 (136 * y + r) < nI m := by
    rw [Int32.lt_iff_toInt_lt, nI_toInt (by omega), c3]
    omega
  constructor
  · simp (disch := omega) only [gX9_meet, bX9_meet_0, bX9_meet_33, i8, z_clamp, hy, decide_true, z_gdt, z_inb, hr, e2, z_10, if_false, e1, hl2]
  · simp (disch := omega) only [gX11_meets, bX11_meets_0, bX11_meets_44, ov_rn h.2, Option.bind_some, z_00, if_true, gX11_at, bX11_at_0, j51, pk_mul, nI_add, z_inb, z_clamp, g1, decide_true, z_gdt, e4, z_10, if_false, e3, hl2]
/-- another word of a block that was just read -/
theorem r_get2 {b i i' : Nat} {v : Int32} {J' : am_I} (hy : y < 4) (h : gX11_get n (nI b) (nI i) J = some (v, J')) (hb : tH y J' b) (hi : i' < 16) (h51 : J' 0 60 51 = nI y) : gX11_get n (nI b) (nI i') J = some (vw y J' b i', J') := by
  have g2 : 16 * (640 * y + b) + i' < 40960 := by have := hb.1; omega
  rw [gX11_get, bX11_get_0] at h ⊢
  cases hf : gX11_fetch n (nI b) J with
  | none => rw [hf] at h; exact absurd h (by simp)
  | some J1 =>
    rw [hf, Option.bind_some] at h
    have hJ : J1 = J' := by
      unfold am_gd at h
      split at h
      · have := congrArg (fun o => o.map Prod.snd) h
        simpa using this
      · exact absurd h (by simp)
    rw [hJ, Option.bind_some, vw_at hb.1 hi]
    unfold t_v
    rw [if_pos hb.2]
    simp (disch := omega) only [h51, pk_mul, nI_add, z_inb, z_clamp, g2, decide_true, z_gdt]
/-- a file's lock, its size, then its kind (the reference: its kind, then its size) -/
theorem tn_wfile {k : Nat} (hC : TC n y Hd I0 J0) (h : TN y Hd F0 I0 J0 X E F gn gp pd I J) (hE : ∀ b, ¬ E b) (hk : k < 128) :
    (∃ I' J', ∃ z : Nat, gX9_meet n (nI k) (nI 2) I = some (nI 1, I) ∧ gX9_sizeOf n (nI k) I = some (nI z, I') ∧ z ≤ 384 ∧ vw y J (w_ib k) 2 = nI z ∧ TN y Hd F0 I0 J0 X E F gn gp pd I' J' ∧ RO y I J I' J' ∧ ((2 : Nat) : Int) ≤ Hd k ∧ tH y J' (w_ib k) ∧ J0 0 79 (136 * y + k) = nI 1
      ∧ ((gX9_meetFile n (nI k) (nI 2) I' = some (nI 1, I') ∧ gX11_isOf n (nI k) (nI 2) (nI 1) (-4 : Int32) J = some (nI 1, J') ∧ gX11_ofInode n (nI k) (nI 2) J' = some (nI z, J') ∧ vw y J (w_ib k) 0 = nI 1)
        ∨ (¬ vw y J (w_ib k) 0 = nI 1 ∧ ∃ I3 J3, gX9_meetFile n (nI k) (nI 2) I' = some (nI 0, I3) ∧ gX11_isOf n (nI k) (nI 2) (nI 1) (-4 : Int32) J = some (nI 0, J3) ∧ EN y Hd F0 I0 J0 I3 J3)))
    ∨ ∃ I' J', gX9_meet n (nI k) (nI 2) I = some (nI 0, I') ∧ gX11_isOf n (nI k) (nI 2) (nI 1) (-4 : Int32) J = some (nI 0, J') ∧ EN y Hd F0 I0 J0 I' J' := by
  have hn4 := hC.2.1
  have hyn := hC.1
  rcases tn_meet (r := k) (m := 2) hC h (by omega) (Or.inr rfl) with ⟨hH, e1, e2⟩ | ⟨I1, J1, e1, ⟨e2, -⟩, e3⟩
  · have hpin := met_pin hC h (by omega) e2
    obtain ⟨I', J', z, z1, z2, z3, f1, f2, f3, f4, f5⟩ := tn_size hC h hE hk (by omega)
    have h51 := (tn_c f3).2
    rw [a_of hk] at f2
    have g0 := r_get2 (i' := 0) (by omega) f2 f5 (by omega) h51
    have g2 := r_getc (n := n) (i := 2) (by omega) f5 (by omega) h51
    have q0 := c_readc (n := n) (i := 0) hC f3 f5 (hE _) (by omega)
    have ma := (met_again (n := n) hC f3 (by omega) (Or.inr rfl) hpin hH).1
    rw [f4.1] at g0 g2 q0
    rw [z3] at g2
    refine Or.inl ⟨I', J', z, e1, f1, z1, z3, f3, f4, hH, f5, hpin, ?_⟩
    by_cases hd : vw y J (w_ib k) 0 = nI 1
    · rw [hd] at g0 q0
      refine Or.inl ⟨?_, ?_, by rw [a_of hk]; exact g2, hd⟩
      · simp only [gX9_meetFile, bX9_meetFile_0, bX9_meetFile_31, bX9_meetFile_36, ma, Option.bind_some, z_10, if_false, c_ib n k I' hk, q0, if_true, z_011, z_gdt]
      · simp only [gX11_isOf, bX11_isOf_0, bX11_isOf_27, bX11_isOf_39, e2, Option.bind_some, z_10, if_false, a_of hk, g0, if_true, ov_rn f3.2, z_00, z_011, z_gdt]
    · obtain ⟨I3, J3, g1, ⟨g3, -⟩, g4⟩ := tn_fail (n := n) (f := (-4 : Int32)) f3 (by decide)
      refine Or.inr ⟨hd, I3, J3, ?_, ?_, g4⟩
      · simp only [gX9_meetFile, bX9_meetFile_0, bX9_meetFile_35, bX9_meetFile_36, ma, Option.bind_some, z_10, if_false, c_ib n k I' hk, q0, hd, g1, z_00, if_true, z_01, z_gdt]
      · simp only [gX11_isOf, bX11_isOf_0, bX11_isOf_27, bX11_isOf_39, e2, Option.bind_some, z_10, if_false, a_of hk, g0, hd, g3, ov_en g4.2, z_01, z_gdt]
  · refine Or.inr ⟨I1, J1, e1, ?_, e3⟩
    simp only [gX11_isOf, bX11_isOf_0, e2, Option.bind_some, z_00, if_true]
/-- WRITE and ADD -/
theorem k_write {k a : Nat} {v l4 : Int32} (hC : TC n y Hd I0 J0) (hM : ∀ r, r < 136 → Hd r ≤ 2) (h : TN0 y Hd F0 I0 J0 I J) (hk : k < 128) (ha3 : a < 384) (ha : I0 y 55 1 = nI k) (hb : I0 y 55 2 = nI a) (hc : I0 y 55 3 = v) (hkd : (I0 y 55 0 = nI 11 ∧ ¬ l4 = 0) ∨ (¬ I0 y 55 0 = nI 11 ∧ l4 = 0)) (hk12 : ¬ I0 y 55 0 = nI 12) : ∃ I' J', gX9_writeWord n y I = some I' ∧ gX11_tryWrite n (nI k) (nI a) v l4 J = some J' ∧ (EN y Hd F0 I0 J0 I' J' ∨ DN y Hd F0 I0 J0 (nI 1) I' J') := by
  rcases tn_wfile hC h (fun _ q => q) hk with ⟨I1, J1, z, e1, f1, z1, z3, e3, e4, e5, e7, hpin, ⟨m1, m2, m3, e6⟩ | ⟨e6, I3, J3, m1, m2, m3⟩⟩ | ⟨I1, J1, e1, e2, e3⟩
  · have hH : Hd k = 2 := by have := hM k (by omega); omega
    have cc : gX9_writeWord n y I = cW n y 3 (nI 0) (nI z) (nI a) I1 := by
      simp (disch := omega) only [gX9_writeWord, bX9_writeWord_0, bX9_writeWord_27, bX9_writeWord_49, cW, tn_a h, ha, e1, Option.bind_some, z_10, if_false, tn_a e3, hk12, f1, hb, z_00, if_true, z_lt, ha3, m1]
    have cr : gX11_tryWrite n (nI k) (nI a) v l4 J = rW n (nI k) (nI a) v l4 J1 := by
      simp only [gX11_tryWrite, bX11_tryWrite_0, m2, Option.bind_some, z_10, if_false, rW]
    rw [cc, cr]
    rcases w_core (c := 3) (v := v) (l2 := nI 0) (l4 := l4) (a := a) (z := z) hC hM e3 hk hH ha hc hkd (by rw [e4.1]; exact e6) (by rw [e4.1]; exact z3) z1 e7 ha3 with ⟨v', I3, J3, X3, F3, g1, g2, g3, g4, g5⟩ | ⟨I3, J3, g1, g2, g3⟩
    · refine ⟨_, _, ?_, ?_, Or.inr (tn_done (v := v') g3 g4 (fun _ q => q.elim) (fun b => ⟨fun q => q.elim, fun q => absurd q List.not_mem_nil⟩) (fun _ _ b q => absurd q List.not_mem_nil) (fun L hL => (g5 L hL).lr))⟩
      · rw [g1]
        simp only [bX9_writeWord_175, z_00, if_true, bX9_writeWord_187, c_fin, Option.bind_some]
      · rw [g2]
        simp only [bX11_tryWrite_83, am_lt]
    · exact ⟨I3, J3, g1, g2, Or.inl g3⟩
  · refine ⟨I3, J3, ?_, ?_, Or.inl m3⟩
    · simp (disch := omega) only [gX9_writeWord, bX9_writeWord_0, bX9_writeWord_27, bX9_writeWord_49, tn_a h, ha, e1, Option.bind_some, z_10, if_false, tn_a e3, hk12, f1, hb, z_00, if_true, z_lt, ha3, m1]
    · simp only [gX11_tryWrite, bX11_tryWrite_0, m2, Option.bind_some, z_00, if_true]
  · refine ⟨I1, J1, ?_, ?_, Or.inl e3⟩
    · simp only [gX9_writeWord, bX9_writeWord_0, tn_a h, ha, e1, Option.bind_some, z_00, if_true]
    · simp only [gX11_tryWrite, bX11_tryWrite_0, e2, Option.bind_some, z_00, if_true]
end WRITE
