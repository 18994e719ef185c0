/-- what a node sees, and nothing else -/
def vw (y : Nat) (J : am_I) : wS := fun b i => if b < 640 ∧ i < 16 then t_v y J b i else nI 0
theorem vw_at {y b i : Nat} {J : am_I} (hb : b < 640) (hi : i < 16) : vw y J b i = t_v y J b i := if_pos ⟨hb, hi⟩
theorem vw_eq {y : Nat} {J J' : am_I} (h : ∀ c j, c < 640 → j < 16 → t_v y J' c j = t_v y J c j) : vw y J' = vw y J := by
  funext b i
  unfold vw
  by_cases e : b < 640 ∧ i < 16
  · rw [if_pos e, if_pos e, h b i e.1 e.2]
  · rw [if_neg e, if_neg e]
theorem vw_up {y b i : Nat} {v : Int32} {J J' : am_I} (hb : b < 640) (hi : i < 16) (h : ∀ c j, c < 640 → j < 16 → t_v y J' c j = w_up (t_v y J) b i v c j) : vw y J' = w_up (vw y J) b i v := by
  funext c j
  unfold vw
  by_cases e : c < 640 ∧ j < 16
  · rw [if_pos e, h c j e.1 e.2]
    unfold w_up
    by_cases e2 : c = b ∧ j = i
    · rw [if_pos e2, if_pos e2]
    · rw [if_neg e2, if_neg e2]
      exact (if_pos e).symm
  · rw [if_neg e]
    unfold w_up
    rw [if_neg (by omega)]
    exact (if_neg e).symm
theorem vw_cl {y b : Nat} {J J' : am_I} (h : ∀ c j, c < 640 → j < 16 → t_v y J' c j = w_cl (t_v y J) b c j) : vw y J' = w_cl (vw y J) b := by
  funext c j
  unfold vw
  by_cases e : c < 640 ∧ j < 16
  · rw [if_pos e, h c j e.1 e.2]
    unfold w_cl
    by_cases e2 : c = b
    · rw [if_pos e2, if_pos e2]
    · rw [if_neg e2, if_neg e2]
      exact (if_pos e).symm
  · rw [if_neg e]
    unfold w_cl
    by_cases e2 : c = b
    · rw [if_pos e2]
    · rw [if_neg e2]
      exact (if_neg e).symm
/-- a step that only reads -/
def RO (y : Nat) (I J I' J' : am_I) : Prop := vw y J' = vw y J ∧ (∀ c, tH y J c → tH y J' c) ∧ I' 0 15 = I 0 15 ∧ J' 0 60 = J 0 60
theorem RO.rf {y : Nat} {I J : am_I} : RO y I J I J := ⟨rfl, fun _ h => h, rfl, rfl⟩
theorem RO.tr {y : Nat} {I J I' J' I'' J'' : am_I} (h : RO y I J I' J') (h' : RO y I' J' I'' J'') : RO y I J I'' J'' := ⟨h'.1.trans h.1, fun c q => h'.2.1 c (h.2.1 c q), h'.2.2.1.trans h.2.2.1, h'.2.2.2.trans h.2.2.2⟩
def L2 : Nat → Nat := fun _ => 2
section SEE
variable {n y : Nat} {Hd : Nat → Int} {F0 F F' : (Nat → Nat) → wS} {I0 J0 I J : am_I} {X : List Nat} {E : Nat → Prop} {gn : List Nat} {gp gp' pd pd' : Nat → Prop}
theorem tr_ti (h : TR y Hd F0 I0 J0 X E F gn gp pd I J) : ∃ sv Bh : Nat → Prop, ∀ L, L y = 2 → TI Hd (F0 L) (F L) (vw y J) sv gp pd (tH y J) Bh := by
  obtain ⟨B, sv, cv, p1, p2, p3, p4, p5, p6, p7, p8, p9, p10, p11, p12, p13, p14, p15⟩ := h
  exact ⟨_, _, fun L hL => ti_cg (p14 L hL) (fun b i hb hi => vw_at hb hi) (fun _ => Iff.rfl) (fun _ => Iff.rfl) (fun _ => Iff.rfl) (fun _ => Iff.rfl)⟩
theorem tr_vw {b r i : Nat} {L : Nat → Nat} (h : TR y Hd F0 I0 J0 X E F gn gp pd I J) (hL : L y = 2) (ho : w_of (F L) b r) (hr : 0 < Hd r) (hi : i < 16) : vw y J b i = F L b i := by
  obtain ⟨sv, Bh, hT⟩ := tr_ti h
  exact (hT L hL).2.1 b r ho hr i hi
theorem tr_wf {L : Nat → Nat} (h : TR y Hd F0 I0 J0 X E F gn gp pd I J) (hL : L y = 2) : x_wf (F L) gp := by
  obtain ⟨sv, Bh, hT⟩ := tr_ti h
  exact (hT L hL).1
theorem tr_pl {k p : Nat} {L : Nat → Nat} (h : TR y Hd F0 I0 J0 X E F gn gp pd I J) (hL : L y = 2) (hk : k < 128) (hH : 0 < Hd k) (hp : p < 25) : w_pl (vw y J) k p = w_pl (F L) k p := by
  have e : ∀ i, i < 16 → vw y J (w_ib k) i = F L (w_ib k) i := fun i hi => tr_vw h hL (of_ib hk) hH hi
  unfold w_pl
  rw [e 11 (by decide)]
  by_cases h8 : p < 8
  · rw [if_pos h8, if_pos h8, e _ (by omega)]
  · rw [if_neg h8, if_neg h8]
    by_cases h24 : p = 24
    · rw [if_pos h24, if_pos h24]
    · rw [if_neg h24, if_neg h24]
      by_cases h0 : F L (w_ib k) 11 = nI 0
      · rw [if_pos h0, if_pos h0]
      · rw [if_neg h0, if_neg h0]
        obtain ⟨x, x1, x2, x3⟩ := w_ix (tr_wf h hL).1.1 hk h0
        rw [x1, nI_clamp (w_Dlt x2)]
        exact tr_vw h hL (of_own x3) hH (by omega)
theorem tr_own {k p b : Nat} {L : Nat → Nat} (h : TR y Hd F0 I0 J0 X E F gn gp pd I J) (hL : L y = 2) (hH : 0 < Hd k) : w_own (F L) k p b ↔ w_own (vw y J) k p b := by
  unfold w_own
  constructor
  · rintro ⟨q1, q2, q3, q4⟩
    exact ⟨q1, q2, q3, by rw [tr_pl h hL q1 hH q2]; exact q4⟩
  · rintro ⟨q1, q2, q3, q4⟩
    exact ⟨q1, q2, q3, by rw [← tr_pl h hL q1 hH q2]; exact q4⟩
theorem tr_P {k p : Nat} (h : TR y Hd F0 I0 J0 X E F gn gp pd I J) (hk : k < 128) (hH : 0 < Hd k) (hp : p < 25) : w_pt (w_pl (vw y J) k p) := by
  rw [tr_pl (L := L2) h rfl hk hH hp]
  exact (tr_wf (L := L2) h rfl).1.1 k p hk hp
theorem tr_K {k : Nat} (h : TR y Hd F0 I0 J0 X E F gn gp pd I J) (hk : k < 128) (hH : 0 < Hd k) : w_K (vw y J) k := by
  unfold w_K
  rw [tr_vw (L := L2) h rfl (of_ib hk) hH (by decide), tr_vw (L := L2) h rfl (of_ib hk) hH (by decide)]
  exact (tr_wf (L := L2) h rfl).1.2.2.2.1 k hk
theorem tr_E {k p b i : Nat} (h : TR y Hd F0 I0 J0 X E F gn gp pd I J) (hH : 0 < Hd k) (ho : w_own (vw y J) k p b) (hp : p < 24) (h2 : vw y J (w_ib k) 0 = nI 2) (hi : i < 8) : ∃ t : Nat, t < 128 ∧ vw y J b (2 * i + 1) = nI t := by
  have ho2 := (tr_own (L := L2) h rfl hH).mpr ho
  rw [tr_vw (L := L2) h rfl (of_own ho2) hH (by omega)]
  rw [tr_vw (L := L2) h rfl (of_ib ho.1) hH (by decide)] at h2
  exact (tr_wf (L := L2) h rfl).1.2.2.2.2 k p b ho2 hp h2 i hi
theorem tr_B {k p k' p' b : Nat} (h : TR y Hd F0 I0 J0 X E F gn gp pd I J) (hH : 0 < Hd k) (hH' : 0 < Hd k') (ho : w_own (vw y J) k p b) (ho' : w_own (vw y J) k' p' b) : k = k' ∧ p = p' :=
  (tr_wf (L := L2) h rfl).1.2.1 k p k' p' b ((tr_own (L := L2) h rfl hH).mpr ho) ((tr_own (L := L2) h rfl hH').mpr ho')
theorem tr_rdo {k p b : Nat} (h : TR y Hd F0 I0 J0 X E F gn gp pd I J) (hH : 0 < Hd k) (ho : w_own (vw y J) k p b) (h1 : tH y J (w_ib k)) (h2 : 8 ≤ p → p < 24 → tH y J (vw y J (w_ib k) 11).toNatClampNeg) : rdc y Hd F J b := by
  refine Or.inr (Or.inr (Or.inr ⟨k, p, hH, h1, fun L hL => ⟨(tr_own h hL hH).mpr ho, fun q1 q2 => ?_⟩⟩))
  rw [← tr_vw h hL (of_ib ho.1) hH (by decide)]
  exact h2 q1 q2
theorem tr_ix {k p b : Nat} (h : TR y Hd F0 I0 J0 X E F gn gp pd I J) (hk : k < 128) (hH : 0 < Hd k) : vw y J (w_ib k) 11 = nI 0 ∨ ∃ x, vw y J (w_ib k) 11 = nI x ∧ w_D x ∧ w_own (vw y J) k 24 x := by
  rcases tr_P (p := 24) h hk hH (by decide) with e | ⟨x, e1, e2⟩
  · exact Or.inl e
  · exact Or.inr ⟨x, e1, e2, hk, by decide, e2, e1⟩
theorem tn_rdv {b i : Nat} (hC : TC n y Hd I0 J0) (h : TN y Hd F0 I0 J0 X E F gn gp pd I J) (hb : b < 640) (hi : i < 16) (hE : ¬ E b) (hr : rdc y Hd F J b) : ∃ I' J', gX9_read n (nI b) (nI i) I = some (vw y J b i, I') ∧ gX11_get n (nI b) (nI i) J = some (vw y J b i, J') ∧ TN y Hd F0 I0 J0 X E F gn gp pd I' J' ∧ RO y I J I' J' ∧ tH y J' b := by
  obtain ⟨I', J', e1, e2, e3, e4, e5, e6, e7⟩ := tn_rd hC h hb hi hE hr
  rw [vw_at hb hi]
  exact ⟨I', J', e1, e2, e3, ⟨vw_eq e4, fun c q => (e5 c).mpr (Or.inl q), e6, e7⟩, (e5 b).mpr (Or.inr rfl)⟩
theorem tn_setv {b i : Nat} {v : Int32} (hC : TC n y Hd I0 J0) (h : TN y Hd F0 I0 J0 X E F gn gp pd I J) (hb : b < 640) (hi : i < 16) (hE : ¬ E b) (hr : rdc y Hd F J b) (hX : b ∈ X ∨ ∃ g, g < 8 ∧ b = w_mp g) (hX2 : X.length ≤ 20)
    (hT : ∀ (L : Nat → Nat) (sv hs Bh : Nat → Prop), L y = 2 → TI Hd (F0 L) (F L) (vw y J) sv gp pd hs Bh → hs b → (∀ c, tH y J c → hs c) → TI Hd (F0 L) (F' L) (w_up (vw y J) b i v) (fun c => sv c ∨ c = b) gp' pd' hs Bh) :
    ∃ I' J', gX9_set n (nI b) (nI i) v I = some I' ∧ gX11_set n (nI b) (nI i) v J = some J' ∧ TN y Hd F0 I0 J0 X E F' gn gp' pd' I' J' ∧ vw y J' = w_up (vw y J) b i v ∧ (∀ c, tH y J' c ↔ tH y J c ∨ c = b) ∧ (∀ k, ¬ k = 5 → I' 0 15 k = I 0 15 k) ∧ (∀ k, ¬ k = 56 → J' 0 60 k = J 0 60 k) := by
  obtain ⟨I', J', e1, e2, e3, e4, e5, e6, e7⟩ := tr_set (F' := F') (gp' := gp') (pd' := pd') (v := v) hC h.1 hb hi hE hr hX hX2 (fun L sv hs Bh hL hTI hh hc => by
    have := hT L sv hs Bh hL (ti_cg hTI (fun b i hb hi => vw_at hb hi) (fun _ => Iff.rfl) (fun _ => Iff.rfl) (fun _ => Iff.rfl) (fun _ => Iff.rfl)) hh hc
    refine ti_cg this (fun c j hc hj => ?_) (fun _ => Iff.rfl) (fun _ => Iff.rfl) (fun _ => Iff.rfl) (fun _ => Iff.rfl)
    unfold w_up
    rw [vw_at hc hj])
  exact ⟨I', J', e1, e2, ⟨e3, rn_k h.2 e6 e7⟩, vw_up hb hi e4, e5, e6, e7⟩
theorem tn_clrv {b : Nat} (hC : TC n y Hd I0 J0) (h : TN y Hd F0 I0 J0 X E F gn gp pd I J) (hb : b < 640) (hX : b ∈ X ∨ ∃ g, g < 8 ∧ b = w_mp g) (hX2 : X.length ≤ 20)
    (hT : ∀ (L : Nat → Nat) (sv hs Bh : Nat → Prop), L y = 2 → TI Hd (F0 L) (F L) (vw y J) sv gp pd hs Bh → (∀ c, tH y J c ↔ hs c) → TI Hd (F0 L) (F' L) (w_cl (vw y J) b) (fun c => sv c ∨ c = b) gp' pd' (fun c => hs c ∨ c = b) Bh) :
    ∃ I' J', gX9_clear n (nI b) I = some I' ∧ gX11_clear n (nI b) J = some J' ∧ TN y Hd F0 I0 J0 X E F' gn gp' pd' I' J' ∧ vw y J' = w_cl (vw y J) b ∧ (∀ c, tH y J' c ↔ tH y J c ∨ c = b) ∧ (∀ k, ¬ k = 5 → I' 0 15 k = I 0 15 k) ∧ (∀ k, ¬ k = 56 → J' 0 60 k = J 0 60 k) := by
  obtain ⟨I', J', e1, e2, e3, e4, e5, e6, e7⟩ := tr_clear (F' := F') (gp' := gp') (pd' := pd') hC h.1 hb hX hX2 (fun L sv hs Bh hL hTI hc => by
    have := hT L sv hs Bh hL (ti_cg hTI (fun b i hb hi => vw_at hb hi) (fun _ => Iff.rfl) (fun _ => Iff.rfl) (fun _ => Iff.rfl) (fun _ => Iff.rfl)) hc
    refine ti_cg this (fun c j hc hj => ?_) (fun _ => Iff.rfl) (fun _ => Iff.rfl) (fun _ => Iff.rfl) (fun _ => Iff.rfl)
    unfold w_cl
    rw [vw_at hc hj])
  exact ⟨I', J', e1, e2, ⟨e3, rn_k h.2 e6 e7⟩, vw_cl e4, e5, e6, e7⟩
/-- a cached block is read again: nothing changes -/
theorem r_getc {b i : Nat} (hy : y < 4) (hb : tH y J b) (hi : i < 16) (h51 : J 0 60 51 = nI y) : gX11_get n (nI b) (nI i) J = some (vw y J b i, J) := by
  have g1 : 640 * y + b < 2560 := by have := hb.1; omega
  have g2 : 16 * (640 * y + b) + i < 40960 := by have := hb.1; omega
  rw [vw_at hb.1 hi]
  unfold t_v
  rw [if_pos hb.2]
  simp (disch := omega) only [gX11_get, bX11_get_0, gX11_fetch, bX11_fetch_0, h51, pk_mul, nI_add, z_inb, z_clamp, g1, g2, decide_true, z_gdt, hb.2, z_10, if_false, Option.bind_some]
theorem tn_c (h : TN y Hd F0 I0 J0 X E F gn gp pd I J) : I 0 15 8 = nI y ∧ J 0 60 51 = nI y := (tr_fr h.1).2.2
/-- the block of a word -/
theorem tn_bof {k a : Nat} (hC : TC n y Hd I0 J0) (h : TN y Hd F0 I0 J0 X E F gn gp pd I J) (hE : ∀ b, ¬ E b) (hk : k < 128) (hH : 0 < Hd k) (ha : a < 384) : ∃ I' J', gX9_blockOf n (nI k) (nI a) I = some (w_pl (vw y J) k (a / 16), I') ∧ gX11_blockOf n (nI k) (nI a) J = some (w_pl (vw y J) k (a / 16), J') ∧ TN y Hd F0 I0 J0 X E F gn gp pd I' J' ∧ RO y I J I' J' ∧ tH y J' (w_ib k) ∧ (8 ≤ a / 16 → ¬ vw y J (w_ib k) 11 = nI 0 → tH y J' (vw y J (w_ib k) 11).toNatClampNeg) := by
  have hrib : rdc y Hd F J (w_ib k) := Or.inr (Or.inl ⟨k, hk, rfl, hH⟩)
  by_cases h8 : 8 ≤ a / 16
  · have h128 : 128 ≤ a := by omega
    obtain ⟨I1, J1, e1, e2, e3, e4, e5⟩ := tn_rdv (i := 11) hC h (w_ib_lt hk) (by decide) (hE _) hrib
    rcases tr_ix (p := 0) (b := 0) h.1 hk hH with h0 | ⟨x, x1, x2, x3⟩
    · have hp : w_pl (vw y J) k (a / 16) = nI 0 := by
        unfold w_pl
        rw [if_neg (by omega), if_neg (by omega), if_pos h0]
      rw [h0] at e1 e2
      refine ⟨I1, J1, ?_, ?_, e3, e4, e5, fun _ q => absurd h0 q⟩
      · rw [hp]
        simp (disch := omega) only [gX9_blockOf, bX9_blockOf_0, bX9_blockOf_54, pk_div, z_le, h8, if_true, c_ib n k I hk, Option.bind_some, e1, z_00]
      · rw [hp]
        simp (disch := omega) only [gX11_blockOf, bX11_blockOf_0, bX11_blockOf_47, z_le, h128, if_true, a_of hk, e2, Option.bind_some, z_00]
    · have hp : w_pl (vw y J) k (a / 16) = vw y J x (a / 16 - 8) := by
        unfold w_pl
        rw [if_neg (by omega), if_neg (by omega), x1, if_neg (w_D0 x2), nI_clamp (w_Dlt x2)]
      rw [x1] at e1 e2
      have hr2 : rdc y Hd F J1 x := tr_rdo e3.1 hH (by rw [e4.1]; exact x3) e5 (fun _ q => absurd q (by decide))
      obtain ⟨I2, J2, f1, f2, f3, f4, f5⟩ := tn_rdv (i := a / 16 - 8) hC e3 (w_D_lt x2) (by omega) (hE _) hr2
      rw [e4.1] at f1 f2
      have hx0 : ¬ nI x = (0 : Int32) := w_D0 x2
      refine ⟨I2, J2, ?_, ?_, f3, e4.tr f4, f4.2.1 _ e5, fun _ _ => by rw [x1, nI_clamp (w_Dlt x2)]; exact f5⟩
      · rw [hp]
        simp (disch := omega) only [gX9_blockOf, bX9_blockOf_0, bX9_blockOf_54, pk_div, pk_sub, z_le, h8, if_true, c_ib n k I hk, Option.bind_some, e1, hx0, if_false, f1]
      · rw [hp]
        simp (disch := omega) only [gX11_blockOf, bX11_blockOf_0, bX11_blockOf_47, z_le, h128, if_true, a_of hk, e2, Option.bind_some, hx0, if_false, pk_div, pk_sub, f2]
  · have h128 : ¬ 128 ≤ a := by omega
    have hp : w_pl (vw y J) k (a / 16) = vw y J (w_ib k) (3 + a / 16) := by
      unfold w_pl
      rw [if_pos (by omega)]
    obtain ⟨I1, J1, e1, e2, e3, e4, e5⟩ := tn_rdv (i := 3 + a / 16) hC h (w_ib_lt hk) (by omega) (hE _) hrib
    refine ⟨I1, J1, ?_, ?_, e3, e4, e5, fun q => absurd q h8⟩
    · rw [hp]
      simp (disch := omega) only [gX9_blockOf, bX9_blockOf_0, pk_div, z_le, h8, if_false, c_ib n k I hk, Option.bind_some, nI_add, e1]
    · rw [hp]
      simp (disch := omega) only [gX11_blockOf, bX11_blockOf_0, z_le, h128, if_false, a_of hk, pk_div, nI_add, e2, Option.bind_some]
/-- .. on the reference's side, once it has been read -/
theorem r_bofc {k a : Nat} (hy : y < 4) (h : TR y Hd F0 I0 J0 X E F gn gp pd I J) (hk : k < 128) (hH : 0 < Hd k) (ha : a < 384) (h1 : tH y J (w_ib k)) (h2 : 8 ≤ a / 16 → ¬ vw y J (w_ib k) 11 = nI 0 → tH y J (vw y J (w_ib k) 11).toNatClampNeg) : gX11_blockOf n (nI k) (nI a) J = some (w_pl (vw y J) k (a / 16), J) := by
  have h51 := (tr_fr h).2.2.2
  by_cases h8 : 8 ≤ a / 16
  · have h128 : 128 ≤ a := by omega
    have e2 := r_getc (n := n) (i := 11) hy h1 (by decide) h51
    rcases tr_ix (p := 0) (b := 0) h hk hH with h0 | ⟨x, x1, x2, x3⟩
    · have hp : w_pl (vw y J) k (a / 16) = nI 0 := by
        unfold w_pl
        rw [if_neg (by omega), if_neg (by omega), if_pos h0]
      rw [h0] at e2
      rw [hp]
      simp (disch := omega) only [gX11_blockOf, bX11_blockOf_0, bX11_blockOf_47, z_le, h128, if_true, a_of hk, e2, Option.bind_some, z_00]
    · have hp : w_pl (vw y J) k (a / 16) = vw y J x (a / 16 - 8) := by
        unfold w_pl
        rw [if_neg (by omega), if_neg (by omega), x1, if_neg (w_D0 x2), nI_clamp (w_Dlt x2)]
      have hx := h2 h8 (by rw [x1]; exact w_D0 x2)
      rw [x1, nI_clamp (w_Dlt x2)] at hx
      have f2 := r_getc (n := n) (i := a / 16 - 8) hy hx (by omega) h51
      rw [x1] at e2
      have hx0 : ¬ nI x = (0 : Int32) := w_D0 x2
      rw [hp]
      simp (disch := omega) only [gX11_blockOf, bX11_blockOf_0, bX11_blockOf_47, z_le, h128, if_true, a_of hk, e2, Option.bind_some, hx0, if_false, pk_div, pk_sub, f2]
  · have h128 : ¬ 128 ≤ a := by omega
    have hp : w_pl (vw y J) k (a / 16) = vw y J (w_ib k) (3 + a / 16) := by
      unfold w_pl
      rw [if_pos (by omega)]
    have e2 := r_getc (n := n) (i := 3 + a / 16) hy h1 (by omega) h51
    rw [hp]
    simp (disch := omega) only [gX11_blockOf, bX11_blockOf_0, z_le, h128, if_false, a_of hk, pk_div, nI_add, e2, Option.bind_some]
end SEE
