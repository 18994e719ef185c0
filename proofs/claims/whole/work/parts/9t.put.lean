section PUT
variable {n y : Nat} {Hd : Nat → Int} {F0 F F' : (Nat → Nat) → wS} {I0 J0 I J : am_I} {X : List Nat} {E : Nat → Prop} {gn : List Nat} {gp gp' pd pd' : Nat → Prop}
/-- the size again, of a cached inode -/
theorem c_sizec {k z : Nat} (hC : TC n y Hd I0 J0) (h : TN y Hd F0 I0 J0 X E F gn gp pd I J) (hE : ∀ b, ¬ E b) (hk : k < 128) (hib : tH y J (w_ib k)) (hz : z ≤ 384) (h2 : vw y J (w_ib k) 2 = nI z) : gX9_sizeOf n (nI k) I = some (nI z, I) := by
  have q1 := c_readc (n := n) (i := 2) hC h hib (hE _) (by omega)
  rw [h2] at q1
  simp (disch := omega) only [gX9_sizeOf, bX9_sizeOf_0, c_ib n k I hk, Option.bind_some, q1, z_le]
  by_cases e : 384 ≤ z
  · obtain rfl : z = 384 := by omega
    rw [if_pos e]
    simp (disch := omega) only [z_le]
    rw [if_neg (by decide)]
  · rw [if_neg e]
    simp (disch := omega) only [z_le]
    by_cases e0 : z ≤ 0
    · obtain rfl : z = 0 := by omega
      rw [if_pos e0]
    · rw [if_neg e0]
def PUT (y : Nat) (Hd : Nat → Int) (F0 : (Nat → Nat) → wS) (I0 J0 : am_I) (X : List Nat) (d t0 : Nat) (F : (Nat → Nat) → wS) (I J : am_I) (c r : Option am_I) : Prop :=
  (∃ X' F' I' J', c = some I' ∧ r = some J' ∧ TN y Hd F0 I0 J0 X' (fun _ => False) F' [] (fun _ => False) (fun _ => False) I' J' ∧ X'.length ≤ X.length + 3 ∧ (∀ k' i, k' < 128 → ¬ k' = d → vw y J' (w_ib k') i = vw y J (w_ib k') i) ∧ (∀ c, tH y J c → tH y J' c) ∧ (∀ k, ¬ k = 5 → I' 0 15 k = I 0 15 k) ∧ (∀ k, ¬ k = 56 → J' 0 60 k = J 0 60 k) ∧ ∀ L, L y = 2 → PE (F L) (F' L) d t0)
  ∨ (∃ I' J', c = some I' ∧ (r = some J' ∧ ∀ c, tH y J c → tH y J' c) ∧ EN y Hd F0 I0 J0 I' J')
/-- at a place: both words, and the size if it grows -/
theorem tn_putat {d t a z : Nat} {name l2 : Int32} (hC : TC n y Hd I0 J0) (hM : ∀ r, r < 136 → Hd r ≤ 2) (h : TN y Hd F0 I0 J0 X (fun _ => False) F [] (fun _ => False) (fun _ => False) I J) (hX : X.length ≤ 5) (hd : d < 128) (hH : Hd d = 2) (hdir : vw y J (w_ib d) 0 = nI 2) (hib : tH y J (w_ib d)) (ht : t < 128) (i13 : I 0 15 13 = nI d) (i14 : I 0 15 14 = name) (i15 : I 0 15 15 = nI t) (ha : a < 384) (ha2 : a % 2 = 0) (hv : ¬ name = nI 0) (hzz1 : z ≤ 384) (hzz2 : vw y J (w_ib d) 2 = nI z) (l4 : Int32) (hl : (l2 = nI 0 ∧ ¬ l4 = (-1 : Int32) ∧ a < z ∧ (w_pl (vw y J) d (a / 16) = nI 0 ∨ vw y J (w_pl (vw y J) d (a / 16)).toNatClampNeg (a % 16) = nI 0)) ∨ (l2 = nI 1 ∧ l4 = (-1 : Int32) ∧ z = a)) :
    PUT y Hd F0 I0 J0 X d t F I J (bX9_putEntry_34 n (nI a) l2 I) (bX11_putEntry_60 n (nI d) name (nI t) l4 (nI z) (nI a) (nI d) J) := by
  have hn4 := hC.2.1
  have hyn := hC.1
  obtain ⟨xx, ⟨b, F1, I1, J1, s0, s1, s2, s3, s6, s7, s8, s9, s10, s11, s12, s13⟩ | ⟨I1, J1, s1, s2, s3⟩⟩ := tn_reach (n := n) (a := a) hC hM h (fun _ q => q) (fun _ q => q) (by omega) hd hH (by rw [hdir]; decide) hib ha
  · have hb0 : ¬ nI b = (0 : Int32) := w_D0 s0
    have m1 : b ∈ w_ib d :: xx :: b :: X := by simp
    have m2 : w_ib d ∈ w_ib d :: xx :: b :: X := by simp
    have hl3 : (w_ib d :: xx :: b :: X).length ≤ 8 := by simp only [List.length_cons]; omega
    obtain ⟨Ia, Ja, I2, J2, e1, e2, e3, e4, e5, e6, e7, e8, e9, e10⟩ := tn_ent (w := a) (v := name) (t := t) hC s3 (fun _ q => q) hd hH s6 (by omega) s7 s8 ha2 ht m1 (by omega) (fun k => by
      by_cases hk : k < 128
      · exact Or.inl (fun e => D_ib s0 hk e.symm)
      · exact Or.inr hk)
    have hm : a - a / 16 * 16 = a % 16 := by omega
    have c1 : ∀ K : am_I → Option am_I, (gX9_set n (nI b) (nI a - nI a / nI 16 * nI 16) (I1 0 15 14) I1).bind (fun q2 => (gX9_set n (nI b) ((nI a - nI a / nI 16 * nI 16) + nI 1) (q2 0 15 15) q2).bind K) = K I2 := fun K => by
      rw [s11 14 (by decide), i14]
      simp (disch := omega) only [pk_div, pk_mul, pk_sub, hm, nI_add, e1, Option.bind_some]
      rw [e8 15 (by decide), s11 15 (by decide), i15, e2, Option.bind_some]
    have r1 : gX11_setEntry n (nI d) (nI a) name (nI t) J = some J2 := by
      simp (disch := omega) only [gX11_setEntry, bX11_setEntry_0, bX11_setEntry_40, s2, Option.bind_some, ov_rn s3.2, z_00, if_true, pk_div, pk_mul, pk_sub, hm, nI_add, e3, e4]
    have hsame : ∀ i, i < 3 → vw y J2 (w_ib d) i = vw y J (w_ib d) i := fun i hi => by rw [e6 _ _ (D_ib s0 hd), s9 d i hd (Or.inr hi)]
    have hF : ∀ L, L y = 2 → w_own (F1 L) d (a / 16) b ∧ F1 L (w_ib d) 0 = nI 2 ∧ F1 L (w_ib d) 2 = nI z := fun L hL => ⟨(tr_own s3.1 hL (by omega)).mpr s6, by rw [← tr_vw s3.1 hL (of_ib hd) (by omega) (by omega), s9 d 0 hd (Or.inr (by omega))]; exact hdir, by rw [← tr_vw s3.1 hL (of_ib hd) (by omega) (by omega), s9 d 2 hd (Or.inr (by omega))]; exact hzz2⟩
    rcases hl with ⟨l0, l4n, haz, hfr⟩ | ⟨l1, l4e, rfl⟩
    · refine Or.inl ⟨_, _, I2, J2, ?_, ?_, e5, by simp only [List.length_cons]; omega, fun k' i hk' hne => by rw [e6 _ _ (D_ib s0 hk'), s9 k' i hk' (Or.inl hne)], fun c q => e7 c (s10 c q), fun k q => (e9 k q).trans (s11 k q), fun k q => (e10 k q).trans (s12 k q), fun L hL => ES.pe hd (s13 L hL) (pe_putA (tr_wf s3.1 hL).1.1 (tr_wf s3.1 hL).1.2.1 (hF L hL).1 ha ha2 hd (hF L hL).2.1 (hF L hL).2.2 hzz1 haz hv ht (fun t' => ?_))⟩
      · subst l0
        simp (disch := omega) only [bX9_putEntry_34, bX9_putEntry_111, z_lt, ha, if_true, i13, s1, Option.bind_some, hb0, if_false, c1, z_00]
      · simp only [bX11_putEntry_60, bX11_putEntry_88, r1, Option.bind_some, l4n, if_false]
      · rw [(s13 L hL).1 d (a / 2) t' hd (by omega), tr_en h.1 hL hd (by omega) (by omega)]
        refine v_en_no (Or.inr (Or.inr ?_))
        rw [show a / 2 / 8 = a / 16 from by omega, show 2 * (a / 2) % 16 = a % 16 from by omega]
        exact hfr
    · obtain ⟨I3, J3, f1, f2, f3, f4, f5, f6, f7⟩ := tn_zset (z := z + 2) hC e5 (fun _ q => q) hd hH (e7 _ s7) (by rw [hsame 0 (by omega), hdir]; decide) (by omega) (fun _ => by omega) m2 (by omega)
      refine Or.inl ⟨_, _, I3, J3, ?_, ?_, f3, by simp only [List.length_cons]; omega, fun k' i hk' hne => ?_, fun c q => (f5 c).mpr (Or.inl (e7 c (s10 c q))), fun k q => (f6 k q).trans ((e9 k q).trans (s11 k q)), fun k q => (f7 k q).trans ((e10 k q).trans (s12 k q)), fun L hL => ES.pe hd (s13 L hL) (pe_putB (tr_wf s3.1 hL).1.1 (tr_wf s3.1 hL).1.2.1 (hF L hL).1 ha ha2 hd (hF L hL).2.1 (hF L hL).2.2 hv ht)⟩
      · subst l1
        have q13 : I2 0 15 13 = nI d := by rw [e9 13 (by decide), s11 13 (by decide), i13]
        simp (disch := omega) only [bX9_putEntry_34, bX9_putEntry_111, z_lt, ha, if_true, i13, s1, Option.bind_some, hb0, if_false, c1, z_10, q13, c_ib n d I2 hd, nI_add, f1]
      · simp only [bX11_putEntry_60, bX11_putEntry_88, r1, Option.bind_some, l4e, if_true, ov_rn e5.2, z_00, a_si hd, nI_add, f2]
      · rw [f4, w_up_b _ _ _ _ (fun e => hne (w_ib_inj hk' hd e)), e6 _ _ (D_ib s0 hk'), s9 k' i hk' (Or.inl hne)]
  · refine Or.inr ⟨I1, J1, ?_, ⟨?_, s2.2⟩, s3⟩
    · simp (disch := omega) only [bX9_putEntry_34, z_lt, ha, if_true, i13, s1, Option.bind_some, z_00]
    · have r1 : gX11_setEntry n (nI d) (nI a) name (nI t) J = some J1 := by
        simp (disch := omega) only [gX11_setEntry, bX11_setEntry_0, bX11_setEntry_40, s2, Option.bind_some, ov_en s3.2, z_10, if_false]
      rcases hl with ⟨l0, l4n, -, -⟩ | ⟨l1, l4e, rfl⟩
      · simp only [bX11_putEntry_60, bX11_putEntry_88, r1, Option.bind_some, l4n, if_false]
      · simp only [bX11_putEntry_60, bX11_putEntry_88, r1, Option.bind_some, l4e, if_true, ov_en s3.2, z_10, if_false]
theorem tn_put {d t : Nat} {name : Int32} (hC : TC n y Hd I0 J0) (hM : ∀ r, r < 136 → Hd r ≤ 2) (h : TN y Hd F0 I0 J0 X (fun _ => False) F [] (fun _ => False) (fun _ => False) I J) (hX : X.length ≤ 5) (hd : d < 128) (hH : Hd d = 2) (hdir : vw y J (w_ib d) 0 = nI 2) (ht : t < 128) (i13 : I 0 15 13 = nI d) (i14 : I 0 15 14 = name) (i15 : I 0 15 15 = nI t) (hv : ¬ name = nI 0) :
    PUT y Hd F0 I0 J0 X d t F I J (gX9_putEntry n I) (gX11_putEntry n (nI d) name (nI t) J) := by
  have hn4 := hC.2.1
  have hyn := hC.1
  obtain ⟨r, I1, J1, z, f1, f2, f3, f4, f5, f6, f7, f8, f9⟩ := tn_find (nI 0) hC h (fun _ q => q) hd (by omega)
  have hz2 : vw y J1 (w_ib d) 2 = nI z := by rw [f4.1]; exact f7
  have cs := c_sizec (n := n) hC f3 (fun _ q => q) hd f5 f6 hz2
  have rs := r_getc (n := n) (i := 2) (by omega) f5 (by omega) (tn_c f3).2
  rw [hz2] at rs
  have j13 : I1 0 15 13 = nI d := by rw [f4.2.2.1]; exact i13
  have j14 : I1 0 15 14 = name := by rw [f4.2.2.1]; exact i14
  have j15 : I1 0 15 15 = nI t := by rw [f4.2.2.1]; exact i15
  have hdir1 : vw y J1 (w_ib d) 0 = nI 2 := by rw [f4.1]; exact hdir
  have comb : ∀ c r, PUT y Hd F0 I0 J0 X d t F I1 J1 c r → PUT y Hd F0 I0 J0 X d t F I J c r := fun c r hp => by
    rcases hp with ⟨X', F', I', J', p1, p2, p3, p4, p5, p6, p7, p8, p9⟩ | hp
    · exact Or.inl ⟨X', F', I', J', p1, p2, p3, p4, fun k' i a b => by rw [p5 k' i a b, f4.1], fun c q => p6 c (f4.2.1 c q), fun k q => by rw [p7 k q, f4.2.2.1], fun k q => by rw [p8 k q, f4.2.2.2], p9⟩
    · obtain ⟨I', J', r1, r2, r3⟩ := hp
      exact Or.inr ⟨I', J', r1, ⟨r2.1, fun c q => r2.2 c (f4.2.1 c q)⟩, r3⟩
  rcases f9 with rfl | ⟨w, rfl, w1, w2, w3⟩
  · by_cases hz : z = 384
    · subst hz
      obtain ⟨I3, J3, g1, g2, g3⟩ := tn_fail (n := n) (f := (-7 : Int32)) f3 (by decide)
      refine Or.inr ⟨I3, J3, ?_, ⟨?_, fun c q => g2.2 c (f4.2.1 c q)⟩, g3⟩
      · simp (disch := omega) only [gX9_putEntry, bX9_putEntry_0, bX9_putEntry_20, bX9_putEntry_34, i13, f1, Option.bind_some, if_true, z_10, if_false, j13, cs, z_lt, (by decide : ¬ 384 < 384), g1]
      · simp (disch := omega) only [gX11_putEntry, bX11_putEntry_0, ov_rn h.2, Option.bind_some, z_00, if_true, f2, a_of hd, rs, g2]
    · have r := comb _ _ (tn_putat (n := n) (a := z) (z := z) (l2 := nI 1) hC hM f3 hX hd hH hdir1 f5 ht j13 j14 j15 (by omega) (f8 hdir) hv f6 hz2 (-1 : Int32) (Or.inr ⟨rfl, rfl, rfl⟩))
      have c : gX9_putEntry n I = bX9_putEntry_34 n (nI z) (nI 1) I1 := by
        simp (disch := omega) only [gX9_putEntry, bX9_putEntry_0, bX9_putEntry_20, i13, f1, Option.bind_some, if_true, z_10, if_false, j13, cs]
      have c' : gX11_putEntry n (nI d) name (nI t) J = bX11_putEntry_60 n (nI d) name (nI t) (-1 : Int32) (nI z) (nI z) (nI d) J1 := by
        simp (disch := omega) only [gX11_putEntry, bX11_putEntry_0, bX11_putEntry_45, ov_rn h.2, Option.bind_some, z_00, if_true, f2, a_of hd, rs, z_eq, hz, if_false]
      rw [c, c']
      exact r
  · have hm := z_m1n (a := w) (by omega)
    have r := comb _ _ (tn_putat (n := n) (a := w) (z := z) (l2 := nI 0) hC hM f3 hX hd hH hdir1 f5 ht j13 j14 j15 (by omega) w2 hv f6 hz2 (nI w) (Or.inl ⟨rfl, hm, w1, by rw [f4.1]; exact w3.2 rfl⟩))
    have c : gX9_putEntry n I = bX9_putEntry_34 n (nI w) (nI 0) I1 := by
      simp (disch := omega) only [gX9_putEntry, bX9_putEntry_0, bX9_putEntry_20, i13, f1, Option.bind_some, hm, if_false, z_00, if_true]
    have c' : gX11_putEntry n (nI d) name (nI t) J = bX11_putEntry_60 n (nI d) name (nI t) (nI w) (nI z) (nI w) (nI d) J1 := by
      simp (disch := omega) only [gX11_putEntry, bX11_putEntry_0, bX11_putEntry_45, ov_rn h.2, Option.bind_some, z_00, if_true, f2, a_of hd, rs, hm, if_false]
    rw [c, c']
    exact r
end PUT
