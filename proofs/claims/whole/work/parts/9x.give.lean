section GIVE
variable {n y : Nat} {Hd : Nat → Int} {F0 F F' : (Nat → Nat) → wS} {I0 J0 I J : am_I} {X : List Nat} {E : Nat → Prop} {gn : List Nat} {gp gp' pd pd' : Nat → Prop}
theorem cv_rd {b i : Nat} {v : Int32} {I' : am_I} (hC : TC n y Hd I0 J0) (h : TR y Hd F0 I0 J0 X E F gn gp pd I J) (hb : b < 640) (hi : i < 16) (hr : gX9_read n (nI b) (nI i) I = some (v, I')) : ∀ c j, c < 640 → j < 16 → c_v y I' c j = c_v y I c j := by
  obtain ⟨B, sv, cv, p1, p2, p3, p4, p5, p6, p7, p8, p9, p10, p11, p12, p13, p14, p15⟩ := h
  obtain ⟨I'', f1, f2, f3, f4, f5⟩ := c_read (n := n) (D := J 0 64) (by have := hC.1; have := hC.2.1; omega) hC.1 hb hi p2 p4 p5
  rw [hr] at f1
  obtain ⟨-, rfl⟩ : v = c_v y I b i ∧ I' = I'' := by
    have := Option.some.inj f1
    exact ⟨congrArg Prod.fst this, congrArg Prod.snd this⟩
  exact f3
theorem cv_set {b i : Nat} {v : Int32} {I' : am_I} (hC : TC n y Hd I0 J0) (h : TR y Hd F0 I0 J0 X E F gn gp pd I J) (hX2 : X.length ≤ 20) (hb : b < 640) (hi : i < 16) (hr : gX9_set n (nI b) (nI i) v I = some I') : ∀ c j, c < 640 → j < 16 → c_v y I' c j = w_up (c_v y I) b i v c j := by
  obtain ⟨B, sv, cv, p1, p2, p3, p4, p5, p6, p7, p8, p9, p10, p11, p12, p13, p14, p15⟩ := h
  have hl := tr_len p2.2.2.1 p10
  obtain ⟨I'', f1, f2, f3, f4, f5, f6, f7⟩ := c_set (n := n) (v := v) (D := J 0 64) (by have := hC.1; have := hC.2.1; omega) hC.1 hb hi p2 p4 p5 (Or.inr (by omega))
  rw [hr] at f1
  obtain rfl := Option.some.inj f1
  exact f3
/-- what only the class changes -/
theorem tn_cset {b i : Nat} {v : Int32} (hC : TC n y Hd I0 J0) (h : TN y Hd F0 I0 J0 X E F gn gp pd I J) (hb : tH y J b) (hi : i < 16) (hE : E b) (hX : b ∈ X) (hX2 : X.length ≤ 20) : ∃ I', gX9_set n (nI b) (nI i) v I = some I' ∧ TN y Hd F0 I0 J0 X E F gn gp pd I' J ∧ (∀ c j, c < 640 → j < 16 → c_v y I' c j = w_up (c_v y I) b i v c j) ∧ (∀ k, ¬ k = 5 → I' 0 15 k = I 0 15 k) := by
  obtain ⟨⟨B, sv, cv, p1, p2, p3, p4, p5, p6, p7, p8, p9, p10, p11, p12, p13, p14, p15⟩, hrn⟩ := h
  have hl := tr_len p2.2.2.1 p10
  obtain ⟨I', f1, f2, f3, f4, f5, f6, f7⟩ := c_set (n := n) (v := v) (D := J 0 64) (by have := hC.1; have := hC.2.1; omega) hC.1 hb.1 hi p2 p4 p5 (Or.inr (by omega))
  have h1 : I y 43 b = nI 1 := by rw [p6 b hb.1]; exact hb.2
  have eB : Bm (I y 43 b) (J 0 64) B b = B := by unfold Bm; rw [if_pos h1]
  rw [eB] at f2
  refine ⟨I', f1, ⟨⟨B, sv, svp cv b, p1, f2, p3, fun c hc => ?_, fun k hk => ?_, fun c hc => ?_, fun c j hc hj hE' => ?_, fun c hc => svp_mem.mpr (Or.inl (p8 c hc)), fun c hc => ?_, fun c hc => ?_, ?_, p12.tr f5, p13, p14, p15⟩, ?_⟩, f3, f6⟩
  · rw [f4 c (f2.2.2.2.1 c hc)]
    split
    · rfl
    · exact p4 c ((svp_mem.mp hc).resolve_right (by assumption))
  · rw [f5 0 1 (by omega) (by omega)]
    exact p5 k hk
  · rw [f4 c hc]
    split
    · next e => rw [e]; exact hb.2.symm
    · exact p6 c hc
  · rw [f3 c j hc hj, w_up_b _ _ _ _ (fun e : c = b => hE' (e ▸ hE))]
    exact p7 c j hc hj hE'
  · rcases svp_mem.mp hc with h | h
    · exact p9 c h
    · exact Or.inr (h ▸ hE)
  · rcases svp_mem.mp hc with h | h
    · exact p10 c h
    · exact Or.inl (h ▸ hX)
  · rw [f6 7 (by decide), f7]
    exact p11
  · unfold rn
    rw [f6 9 (by decide)]
    exact hrn
theorem tn_E {E' : Nat → Prop} (h : TN y Hd F0 I0 J0 X E F gn gp pd I J) (hE : ∀ c, E c → E' c) : TN y Hd F0 I0 J0 X E' F gn gp pd I J := by
  obtain ⟨⟨B, sv, cv, p1, p2, p3, p4, p5, p6, p7, p8, p9, p10, p11⟩, hrn⟩ := h
  exact ⟨⟨B, sv, cv, p1, p2, p3, p4, p5, p6, fun b i a b' c => p7 b i a b' (fun q => c (hE b q)), p8, fun b q => (p9 b q).imp id (hE b), p10, p11⟩, hrn⟩
theorem tn_cv {c j : Nat} (h : TN y Hd F0 I0 J0 X E F gn gp pd I J) (hc : c < 640) (hj : j < 16) (hE : ¬ E c) : c_v y I c j = vw y J c j := by
  obtain ⟨⟨B, sv, cv, p1, p2, p3, p4, p5, p6, p7, p8, p9, p10, p11⟩, hrn⟩ := h
  rw [vw_at hc hj]
  exact p7 c j hc hj hE
/-- the class reads a cached block as it has it -/
theorem c_readv {b i : Nat} (hC : TC n y Hd I0 J0) (h : TN y Hd F0 I0 J0 X E F gn gp pd I J) (hb : tH y J b) (hi : i < 16) : gX9_read n (nI b) (nI i) I = some (c_v y I b i, I) := by
  obtain ⟨B, sv, cv, p1, p2, p3, p4, p5, p6, p7, p8, p9, p10, p11, p12, p13, p14, p15⟩ := h.1
  have h43 : I y 43 b = nI 1 := by rw [p6 b hb.1]; exact hb.2
  have g : b * 16 + i < 10240 := by have := hb.1; omega
  unfold c_v
  rw [if_pos h43]
  have hn := hC.1
  have hn4 := hC.2.1
  have hbl := hb.1
  simp (disch := omega) only [gX9_read, bX9_read_0, bX9_read_30, c_isw hbl hi, Option.bind_some, z_10, if_false, p2.1, z_clamp, hn, decide_true, z_gdt, z_inb, hbl, h43, pk_mul, nI_add, g]
theorem tn_push {b : Nat} (h : TN y Hd F0 I0 J0 X E F gn gp pd I J) (hb : b ∉ gn) (hl32 : gn.length < 32) : TN y Hd F0 I0 J0 X E F (gn ++ [b]) gp pd (am_up (am_up I 0 20 gn.length (nI b)) 0 15 7 (nI gn.length + nI 1)) (am_up (am_up J 0 123 gn.length (nI b)) 0 60 61 (nI gn.length + nI 1)) := by
  obtain ⟨⟨B, sv, cv, p1, p2, p3, p4, p5, p6, p7, p8, p9, p10, ⟨q1, q2, q3, q4, q5⟩, p12, p13, p14, p15⟩, hrn⟩ := h
  have hv : ∀ b' i, t_v y (am_up (am_up J 0 123 gn.length (nI b)) 0 60 61 (nI gn.length + nI 1)) b' i = t_v y J b' i := fun b' i => by unfold t_v; simp (disch := omega) only [z_upj]
  have hc : ∀ b' i, c_v y (am_up (am_up I 0 20 gn.length (nI b)) 0 15 7 (nI gn.length + nI 1)) b' i = c_v y I b' i := fun b' i => by unfold c_v; simp (disch := omega) only [z_upj]
  refine ⟨⟨B, sv, cv, ?_, ?_, ?_, ?_, ?_, ?_, fun b' i hb' hi hE => ?_, p8, p9, p10, ⟨?_, ?_, fun k c hk => ?_, ?_, by rw [List.length_append]; exact hl32⟩, fun i j r1 r2 => ?_, ?_, fun L hL => ?_, p15⟩, ?_⟩
  · unfold pr_ref
    simp (disch := omega) only [z_upj, z_upk, (by decide : ¬ (51 : Nat) = 61), (by decide : ¬ (56 : Nat) = 61), if_false]
    exact p1
  · unfold pr_cls
    simp (disch := omega) only [z_upj, z_upk, (by decide : ¬ (8 : Nat) = 7), (by decide : ¬ (5 : Nat) = 7), if_false]
    exact p2
  · simp (disch := omega) only [z_upj]; exact p3
  · simp (disch := omega) only [z_upj]; exact p4
  · simp (disch := omega) only [z_upj]; exact p5
  · simp (disch := omega) only [z_upj]; exact p6
  · rw [hv, hc]; exact p7 b' i hb' hi hE
  · rw [z_upk, if_pos rfl, List.length_append, nI_add]; rfl
  · rw [z_upk, if_pos rfl, List.length_append, nI_add]; rfl
  · simp (disch := omega) only [z_upj, z_upk]
    by_cases e : k < gn.length
    · rw [List.getElem?_append_left e] at hk
      rw [if_neg (by omega), if_neg (by omega)]
      exact q3 k c hk
    · rw [List.getElem?_append_right (by omega)] at hk
      have ek : k = gn.length := by
        rcases Nat.lt_or_ge (k - gn.length) 1 with h | h
        · omega
        · rw [List.getElem?_eq_none (by simpa using h)] at hk; cases hk
      subst ek
      rw [Nat.sub_self] at hk
      obtain rfl : b = c := by simpa using hk
      rw [if_pos rfl, if_pos rfl]
      exact ⟨rfl, rfl⟩
  · have := svp_nd (b := b) q4
    unfold svp at this
    rw [if_neg hb] at this
    exact this
  · rw [z_upj _ _ _ _ _ _ _ (by omega), z_upj _ _ _ _ _ _ _ (by omega)]
    exact p12 i j r1 r2
  · refine p13.tr ⟨fun i j r => ?_, fun k r => ?_, fun k _ => by rw [z_upj _ _ _ _ _ _ _ (by omega), z_upj _ _ _ _ _ _ _ (by omega)], fun k _ => by rw [z_upj _ _ _ _ _ _ _ (by omega), z_upj _ _ _ _ _ _ _ (by omega)]⟩
    · rw [z_upj _ _ _ _ _ _ _ (by omega), z_upj _ _ _ _ _ _ _ (by omega)]
    · rw [z_upk, if_neg (by omega), z_upj _ _ _ _ _ _ _ (by omega)]
  · exact ti_cg (p14 L hL) (fun b i _ _ => hv b i) (fun _ => Iff.rfl) (fun _ => Iff.rfl) (fun c => by unfold tH; simp (disch := omega) only [z_upj]) (fun _ => Iff.rfl)
  · unfold rn
    simp (disch := omega) only [z_upj, z_upk, (by decide : ¬ (9 : Nat) = 7), (by decide : ¬ (52 : Nat) = 61), (by decide : ¬ (54 : Nat) = 61), if_false]
    exact hrn
/-- the class's giveBack, step by step -/
def cG (n g d : Nat) (I : am_I) : Option (Int32 × am_I) := (gX9_meet n (nI (128 + g)) (nI 2) I).bind (fun q4 => if q4.1 = 0 then (some (nI 0, q4.2)) else ((gX9_read n (nI (w_mp g)) (nI (1 + d / 32)) q4.2).bind (fun q8 => (gX9_set n (nI (w_mp g)) (nI (1 + d / 32)) (q8.1 &&& (((nI 1) <<< (nI (d % 32) &&& 31)) ^^^ (-1 : Int32))) q8.2).bind (fun q9 => if (nI 32) ≤ (q9 0 15 7) then (bX9_giveBack_99 n q9) else (am_gd (am_inb (q9 0 15 7) 32) (am_lt (am_up q9 0 20 (q9 0 15 7).toNatClampNeg (nI (145 + 64 * g + d))) (fun I11 => am_lt (am_up I11 0 15 7 ((I11 0 15 7) + (nI 1))) (fun I12 => bX9_giveBack_99 n I12))))))))
def rG (n g d : Nat) (J : am_I) : Option am_I := (gX11_meets n (nI (128 + g)) (nI 2) J).bind (fun q2 => if q2.1 = 0 then (bX11_giveBack_87 n q2.2) else ((gX11_get n (nI (w_mp g)) (nI (1 + d / 32)) q2.2).bind (fun q5 => (gX11_set n (nI (w_mp g)) (nI (1 + d / 32)) (q5.1 &&& (((nI 1) <<< (nI (d % 32) &&& 31)) ^^^ (-1 : Int32))) q5.2).bind (fun q6 => am_gd (am_inb (q6 0 60 61) 64) (am_lt (am_up q6 0 123 (q6 0 60 61).toNatClampNeg (nI (145 + 64 * g + d))) (fun I8 => am_lt (am_up I8 0 60 61 ((I8 0 60 61) + (nI 1))) (fun I9 => bX11_giveBack_87 n I9)))))))
theorem c_isD {n b : Nat} {I : am_I} (h : w_D b) : gX10_isData n (nI b) I = some (nI 1, I) := by
  unfold w_D at h
  have a1 : ¬ b < 128 := by omega
  have a2 : ¬ 640 ≤ b := by omega
  have a3 : ¬ b - 128 - (b - 128) / 64 * 64 < 17 := by omega
  simp (disch := omega) only [gX10_isData, bX10_isData_32, bX10_isData_31, bX10_isData_0, z_lt, z_le, a1, a2, a3, if_false, pk_sub, pk_div, pk_mul, z_011, z_gdt]
theorem c_grp {b g : Nat} (hb : b < 640) (h1 : 128 ≤ b) (eg : (b - 128) / 64 = g) : gX10_groupOf n (nI b) I = some (nI g, I) := by
  rw [gX10_groupOf, bX10_groupOf_0, pk_sub h1, pk_div (by omega) (by decide) (by decide), eg]
theorem c_dnum {b g d : Nat} (hb : b < 640) (h1 : 128 ≤ b) (eg : (b - 128) / 64 = g) (hle : 17 ≤ b - 128 - g * 64) (hle2 : g * 64 ≤ b - 128) (ed : b - 128 - g * 64 - 17 = d) : gX10_dataNumber n (nI b) I = some (nI d, I) := by
  rw [gX10_dataNumber, bX10_dataNumber_0, pk_sub h1, pk_div (by omega) (by decide) (by decide), eg, pk_mul, pk_sub hle2, pk_sub hle, ed]
theorem c_giveb {b g d : Nat} (hD : w_D b) (eg : (b - 128) / 64 = g) (ed : b - 128 - g * 64 - 17 = d) (eb : b = 145 + 64 * g + d) (hd : d < 47) : gX9_giveBack n (nI b) I = cG n g d I := by
  have hD2 := hD
  unfold w_D at hD2
  have c1 := c_grp (n := n) (I := I) hD2.2.1 hD2.1 eg
  have c2 : ∀ I, gX10_dataNumber n (nI b) I = some (nI d, I) := fun I => c_dnum (n := n) (I := I) hD2.2.1 hD2.1 eg (by omega) (by omega) ed
  have hmm : d - d / 32 * 32 = d % 32 := by omega
  have h32 : nI d / nI 32 = nI (d / 32) := pk_div (by omega) (by decide) (by decide)
  have hr32 : nI d - nI (d / 32) * nI 32 = nI (d % 32) := by rw [pk_mul, pk_sub (by omega), hmm]
  unfold cG
  rw [← eb, gX9_giveBack, bX9_giveBack_0, c_isD hD, Option.bind_some]
  show (if nI 1 = (0 : Int32) then _ else _) = _
  rw [if_neg (by decide), c1, Option.bind_some]
  show ((gX10_mapResource n (nI g) I).bind _) = _
  rw [gX10_mapResource, bX10_mapResource_0, Option.bind_some]
  show ((gX9_meet n (nI 128 + nI g) (nI 2) I).bind _) = _
  rw [nI_add]
  congr 1
  funext q4
  by_cases h0 : q4.1 = 0
  · rw [if_pos h0, if_pos h0]
  · rw [if_neg h0, if_neg h0, c2, Option.bind_some]
    show ((gX10_mapBlock n (nI g) q4.2).bind _) = _
    rw [c_mp, Option.bind_some]
    show ((gX10_mapBlock n (nI g) q4.2).bind _) = _
    rw [c_mp, Option.bind_some]
    show ((gX9_read n (nI (w_mp g)) (nI 1 + nI d / nI 32) q4.2).bind (fun q8 => (gX9_set n (nI (w_mp g)) (nI 1 + nI d / nI 32) (q8.1 &&& ((nI 1 <<< ((nI d - nI d / nI 32 * nI 32) &&& 31)) ^^^ (-1 : Int32))) q8.2).bind _)) = _
    rw [h32, hr32, nI_add]
theorem c_give {g d : Nat} (hg : g < 8) (hd : d < 47) : gX9_giveBack n (nI (145 + 64 * g + d)) I = cG n g d I :=
  c_giveb (by unfold w_D; omega) (by omega) (by omega) rfl hd
theorem r_give {g d : Nat} (hg : g < 8) (hd : d < 47) : gX11_giveBack n (nI (145 + 64 * g + d)) J = rG n g d J := by
  have eg : (145 + 64 * g + d - 128) / 64 = g := by omega
  have ed : 145 + 64 * g + d - (145 + 64 * g + 0) = d := by omega
  have hmm : d - d / 32 * 32 = d % 32 := by omega
  simp (disch := omega) only [gX11_giveBack, bX11_giveBack_0, gX11_dataBlock, bX11_dataBlock_0, pk_sub, pk_div, eg, pk_mul, nI_add, Option.bind_some, ed, a_mp, hmm, rG]
def GIV (y : Nat) (Hd : Nat → Int) (F0 : (Nat → Nat) → wS) (I0 J0 : am_I) (X : List Nat) (E : Nat → Prop) (gn : List Nat) (gp : Nat → Prop) (b : Nat) (F : (Nat → Nat) → wS) (I J : am_I) (c : Option (Int32 × am_I)) (r : Option am_I) : Prop :=
    (∃ I' J' F', c = some (nI 1, I') ∧ r = some J' ∧ TN y Hd F0 I0 J0 X E F' (gn ++ [b]) (fun c => gp c ∨ c = b) (fun _ => False) I' J' ∧ (∀ c i, (∀ g, ¬ c = w_mp g) → vw y J' c i = vw y J c i) ∧ (∀ c, tH y J c → tH y J' c) ∧ (∀ c j, c < 640 → j < 16 → (∀ g, ¬ c = w_mp g) → c_v y I' c j = c_v y I c j) ∧ (∀ k, ¬ (k = 5 ∨ k = 7) → I' 0 15 k = I 0 15 k) ∧ (∀ k, ¬ (k = 56 ∨ k = 61) → J' 0 60 k = J 0 60 k) ∧ ∀ L c i, (∀ g, ¬ c = w_mp g) → F' L c i = F L c i)
    ∨ (∃ I' J', c = some (nI 0, I') ∧ (r = some J' ∧ ∀ c, tH y J c → tH y J' c) ∧ EN y Hd F0 I0 J0 I' J')
theorem tn_give0 {k p g d : Nat} (hC : TC n y Hd I0 J0) (hM : ∀ r, r < 136 → Hd r ≤ 2) (h : TN y Hd F0 I0 J0 X E F gn gp (fun _ => False) I J) (hEm : ∀ g, ¬ E (w_mp g)) (hg : g < 8) (hd : d < 47) (hH : Hd k = 2) (ho : w_own (vw y J) k p (145 + 64 * g + d)) (hb : 145 + 64 * g + d ∉ gn) (hl : gn.length < 30) (hX : X.length ≤ 20) : GIV y Hd F0 I0 J0 X E gn gp (145 + 64 * g + d) F I J (cG n g d I) (rG n g d J) := by
  have hn4 := hC.2.1
  have hyn := hC.1
  rcases tn_meet (r := 128 + g) (m := 2) hC h (by omega) (Or.inr rfl) with ⟨hHm, e1, e2⟩ | ⟨I1, J1, e1, e2, e3⟩
  · have hHm2 : Hd (128 + g) = 2 := by have := hM (128 + g) (by omega); omega
    obtain ⟨I1, J1, f1, f2, f3, f4, f5⟩ := tn_rdv (i := 1 + d / 32) hC h (w_mp_lt hg) (by omega) (hEm _) (Or.inr (Or.inr (Or.inl ⟨_, hg, rfl, by omega⟩)))
    have fc := cv_rd hC h.1 (w_mp_lt hg) (by omega) f1
    obtain ⟨I2, J2, s1, s2, s3, s4, s5, s6, s7⟩ := tn_setv (F' := fun L => w_up (F L) (w_mp g) (1 + d / 32) (vw y J (w_mp g) (1 + d / 32) &&& (((nI 1) <<< (nI (d % 32) &&& 31)) ^^^ (-1 : Int32)))) (gp' := fun c => gp c ∨ c = 145 + 64 * g + d) (pd' := fun _ => False) (i := 1 + d / 32) (v := vw y J (w_mp g) (1 + d / 32) &&& (((nI 1) <<< (nI (d % 32) &&& 31)) ^^^ (-1 : Int32))) hC f3 (w_mp_lt hg) (by omega) (hEm _) (Or.inl f5) (Or.inr ⟨_, hg, rfl⟩) hX (fun L sv hs Bh hL hT hh _ => by
      have eg : (145 + 64 * g + d - 128) / 64 = g := by omega
      have ed : (145 + 64 * g + d - 128) % 64 - 17 = d := by omega
      have := ti_give (v := vw y J (w_mp g) (1 + d / 32) &&& (((nI 1) <<< (nI (d % 32) &&& 31)) ^^^ (-1 : Int32))) hT ((tr_own f3.1 hL (by omega)).mpr (by rw [f4.1]; exact ho)) hH (by rw [eg]; exact hHm2) (by rw [eg]; exact hh) (fun _ q => q) (fun i hi => by rw [eg, ed, z_bclr _ (by omega) hi, ← f4.1, tr_vw f3.1 hL (of_mp hg) (by omega) (by omega)])
      rw [eg, ed] at this
      exact this)
    have sc := cv_set hC f3.1 hX (w_mp_lt hg) (by omega) s1
    have hlen : I2 0 15 7 = nI gn.length ∧ J2 0 60 61 = nI gn.length := by
      obtain ⟨B, sv, cv, p1, p2, p3, p4, p5, p6, p7, p8, p9, p10, p11, -⟩ := s3.1
      exact ⟨p11.2.1, p11.1⟩
    have hpu := tn_push (b := 145 + 64 * g + d) s3 hb (by omega)
    have l32 : ¬ 32 ≤ gn.length := by omega
    have l32' : gn.length < 32 := by omega
    have l64 : gn.length < 64 := by omega
    refine Or.inl ⟨_, _, _, ?_, ?_, hpu, fun c i hc => ?_, fun c q => ?_, fun c j hc hj hcm => ?_, fun k hk => ?_, fun k hk => ?_, fun L c i hc => w_up_b _ _ _ _ (hc _)⟩
    · unfold cG
      simp (disch := omega) only [e1, Option.bind_some, z_10, if_false, f1, s1, hlen.1, z_le, l32, z_inb, z_clamp, l32', decide_true, z_gdt, am_lt, z_upj, bX9_giveBack_99]
    · unfold rG
      simp (disch := omega) only [e2, Option.bind_some, z_10, if_false, f2, s2, hlen.2, z_inb, z_clamp, l64, decide_true, z_gdt, am_lt, z_upj, bX11_giveBack_87]
    · have : vw y (am_up (am_up J2 0 123 gn.length (nI (145 + 64 * g + d))) 0 60 61 (nI gn.length + nI 1)) = vw y J2 := vw_eq (fun c j _ _ => by unfold t_v; simp (disch := omega) only [z_upj])
      rw [this, s4, w_up_b _ _ _ _ (hc _), f4.1]
    · unfold tH
      simp (disch := omega) only [z_upj]
      exact (s5 c).mpr (Or.inl (f4.2.1 c q))
    · have : c_v y (am_up (am_up I2 0 20 gn.length (nI (145 + 64 * g + d))) 0 15 7 (nI gn.length + nI 1)) c j = c_v y I2 c j := by unfold c_v; simp (disch := omega) only [z_upj]
      rw [this, sc c j hc hj, w_up_b _ _ _ _ (hcm _)]
      exact fc c j hc hj
    · rw [z_upk, if_neg (by omega), z_upj _ _ _ _ _ _ _ (by omega), s6 k (by omega), f4.2.2.1]
    · rw [z_upk, if_neg (by omega), z_upj _ _ _ _ _ _ _ (by omega), s7 k (by omega), f4.2.2.2]
  · refine Or.inr ⟨I1, J1, ?_, ⟨?_, e2.2⟩, e3⟩
    · unfold cG
      rw [e1, Option.bind_some]
      exact if_pos rfl
    · unfold rG
      rw [e2.1, Option.bind_some]
      exact if_pos rfl
theorem tn_give {k p b : Nat} (hC : TC n y Hd I0 J0) (hM : ∀ r, r < 136 → Hd r ≤ 2) (h : TN y Hd F0 I0 J0 X E F gn gp (fun _ => False) I J) (hEm : ∀ g, ¬ E (w_mp g)) (hH : Hd k = 2) (ho : w_own (vw y J) k p b) (hb : b ∉ gn) (hl : gn.length < 30) (hX : X.length ≤ 20) : GIV y Hd F0 I0 J0 X E gn gp b F I J (gX9_giveBack n (nI b) I) (gX11_giveBack n (nI b) J) := by
  have hbD := ho.2.2.1
  unfold w_D at hbD
  obtain ⟨g, d, hg, hd, rfl⟩ : ∃ g d, g < 8 ∧ d < 47 ∧ b = 145 + 64 * g + d := ⟨(b - 128) / 64, (b - 128) % 64 - 17, by omega, by omega, by omega⟩
  rw [c_give hg hd, r_give hg hd]
  exact tn_give0 hC hM h hEm hg hd hH ho hb hl hX
end GIVE
