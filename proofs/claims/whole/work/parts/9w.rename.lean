section REN
variable {n y : Nat} {Hd : Nat → Int} {F0 F F' : (Nat → Nat) → wS} {I0 J0 I J : am_I} {X : List Nat} {E : Nat → Prop} {gn : List Nat} {gp gp' pd pd' : Nat → Prop}
theorem c_bofc {k a : Nat} (hC : TC n y Hd I0 J0) (h : TN y Hd F0 I0 J0 X E F gn gp pd I J) (hE : ∀ b, ¬ E b) (hk : k < 128) (hH : 0 < Hd k) (ha : a < 384) (h1 : tH y J (w_ib k)) (h2 : 8 ≤ a / 16 → ¬ vw y J (w_ib k) 11 = nI 0 → tH y J (vw y J (w_ib k) 11).toNatClampNeg) : gX9_blockOf n (nI k) (nI a) I = some (w_pl (vw y J) k (a / 16), I) := by
  by_cases h8 : 8 ≤ a / 16
  · have e2 := c_readc (n := n) (i := 11) hC h h1 (hE _) (by decide)
    rcases tr_ix (p := 0) (b := 0) h.1 hk hH with h0 | ⟨x, x1, x2, x3⟩
    · have hp : w_pl (vw y J) k (a / 16) = nI 0 := by
        unfold w_pl
        rw [if_neg (by omega), if_neg (by omega), if_pos h0]
      rw [h0] at e2
      rw [hp]
      simp (disch := omega) only [gX9_blockOf, bX9_blockOf_0, bX9_blockOf_54, pk_div, z_le, h8, if_true, c_ib n k I hk, Option.bind_some, e2, z_00]
    · have hp : w_pl (vw y J) k (a / 16) = vw y J x (a / 16 - 8) := by
        unfold w_pl
        rw [if_neg (by omega), if_neg (by omega), x1, if_neg (w_D0 x2), nI_clamp (w_Dlt x2)]
      have hx := h2 h8 (by rw [x1]; exact w_D0 x2)
      rw [x1, nI_clamp (w_Dlt x2)] at hx
      have f2 := c_readc (n := n) (i := a / 16 - 8) hC h hx (hE _) (by omega)
      rw [x1] at e2
      have hx0 : ¬ nI x = (0 : Int32) := w_D0 x2
      rw [hp]
      simp (disch := omega) only [gX9_blockOf, bX9_blockOf_0, bX9_blockOf_54, pk_div, pk_sub, z_le, h8, if_true, c_ib n k I hk, Option.bind_some, e2, hx0, if_false, f2]
  · have hp : w_pl (vw y J) k (a / 16) = vw y J (w_ib k) (3 + a / 16) := by
      unfold w_pl
      rw [if_pos (by omega)]
    have e2 := c_readc (n := n) (i := 3 + a / 16) hC h h1 (hE _) (by omega)
    rw [hp]
    simp (disch := omega) only [gX9_blockOf, bX9_blockOf_0, z_le, h8, if_false, c_ib n k I hk, pk_div, nI_add, e2, Option.bind_some]
theorem r_bforc {k a b : Nat} (hy : y < 4) (h : TR y Hd F0 I0 J0 X E F gn gp pd I J) (hk : k < 128) (hH : 0 < Hd k) (ha : a < 384) (h1 : tH y J (w_ib k)) (h2 : 8 ≤ a / 16 → ¬ vw y J (w_ib k) 11 = nI 0 → tH y J (vw y J (w_ib k) 11).toNatClampNeg) (hb : w_D b) (hpl : w_pl (vw y J) k (a / 16) = nI b) : gX11_blockFor n (nI k) (nI a) J = some (nI b, J) := by
  have q := r_bofc (n := n) hy h hk hH ha h1 h2
  rw [hpl] at q
  have hbp := z_pos hb
  have c40 : bX11_blockFor_40 n (nI k) (nI a) J = some (nI b, J) := by
    simp (disch := omega) only [bX11_blockFor_40, q, Option.bind_some, hbp, if_false]
  by_cases h128 : a < 128
  · simp (disch := omega) only [gX11_blockFor, bX11_blockFor_0, z_lt, h128, if_true, c40]
  · have g11 := r_getc (n := n) (i := 11) hy h1 (by omega) (tr_fr h).2.2.2
    have hne : ¬ vw y J (w_ib k) 11 = (0 : Int32) := fun e => by
      have e : vw y J (w_ib k) 11 = nI 0 := e
      unfold w_pl at hpl
      rw [if_neg (by omega), if_neg (by omega), if_pos e] at hpl
      exact w_D0 hb hpl.symm
    simp (disch := omega) only [gX11_blockFor, bX11_blockFor_0, z_lt, h128, if_false, a_of hk, g11, Option.bind_some, hne, c40]
/-- an entry goes -/
theorem tn_erase {d w b : Nat} (hC : TC n y Hd I0 J0) (h : TN y Hd F0 I0 J0 X E F gn gp pd I J) (hE : ∀ b, ¬ E b) (hd : d < 128) (hH : Hd d = 2) (hw : w < 384) (hw2 : w % 2 = 0) (hib : tH y J (w_ib d)) (hix : 8 ≤ w / 16 → ¬ vw y J (w_ib d) 11 = nI 0 → tH y J (vw y J (w_ib d) 11).toNatClampNeg) (hb : w_D b) (hpl : w_pl (vw y J) d (w / 16) = nI b) (hbX : b ∈ X) (hX : X.length ≤ 18) : ∃ I' J', gX9_eraseEntry n (nI d) (nI w) I = some I' ∧ gX11_setEntry n (nI d) (nI w) (nI 0) (nI 0) J = some J' ∧ TN y Hd F0 I0 J0 X E (fun L => w_up2 (F L) b w (nI 0) (nI 0)) gn gp pd I' J' ∧ (∀ c i, ¬ c = b → vw y J' c i = vw y J c i) ∧ (∀ c, tH y J c → tH y J' c) ∧ (∀ k, ¬ k = 5 → I' 0 15 k = I 0 15 k) ∧ (∀ k, ¬ k = 56 → J' 0 60 k = J 0 60 k) := by
  have hn4 := hC.2.1
  have hyn := hC.1
  have ho : w_own (vw y J) d (w / 16) b := ⟨hd, by omega, hb, hpl⟩
  have hix2 : 8 ≤ w / 16 → w / 16 < 24 → tH y J (vw y J (w_ib d) 11).toNatClampNeg := fun q1 q2 => hix q1 (fun e => by
    have h3 := hpl
    unfold w_pl at h3
    rw [if_neg (by omega), if_neg (by omega), if_pos e] at h3
    exact w_D0 hb h3.symm)
  obtain ⟨Ia, Ja, I2, J2, e1, e2, e3, e4, e5, e6, e7, e8, e9, e10⟩ := tn_ent (w := w) (v := nI 0) (t := 0) hC h hE hd hH ho (by omega) hib hix2 hw2 (by omega) hbX hX (fun k => by
      by_cases hk : k < 128
      · exact Or.inl (fun e => D_ib hb hk e.symm)
      · exact Or.inr hk)
  have q1 := c_bofc (n := n) hC h hE hd (by omega) hw hib hix
  have q2 := r_bforc (n := n) (by omega) h.1 hd (by omega) hw hib hix hb hpl
  rw [hpl] at q1
  have hm : w - w / 16 * 16 = w % 16 := by omega
  refine ⟨I2, J2, ?_, ?_, e5, e6, e7, e9, e10⟩
  · simp (disch := omega) only [gX9_eraseEntry, bX9_eraseEntry_0, q1, Option.bind_some, pk_div, pk_mul, pk_sub, hm, nI_add, e1, e2]
  · simp (disch := omega) only [gX11_setEntry, bX11_setEntry_0, bX11_setEntry_40, q2, Option.bind_some, ov_rn h.2, z_00, if_true, pk_div, pk_mul, pk_sub, hm, nI_add, e3, e4]
theorem up_same {J : am_I} {i j k : Nat} : am_up J i j k (J i j k) = J := by
  funext a b c
  rw [z_up]
  by_cases q : a = i ∧ b = j ∧ c = k
  · rw [if_pos q, q.1, q.2.1, q.2.2]
  · rw [if_neg q]
/-- RENAME behind the faults -/
theorem ren_tail {d e t w b z0 : Nat} {other : Int32} (hC : TC n y Hd I0 J0) (hM : ∀ r, r < 136 → Hd r ≤ 2) (h : TN0 y Hd F0 I0 J0 I J) (hd : d < 128) (he : e < 128) (ht : t < 128) (hHd : Hd d = 2) (hHe : Hd e = 2) (ha : I0 y 55 1 = nI d) (hc : I0 y 55 3 = nI e) (hd4 : I0 y 55 4 = other) (h16 : I 0 15 16 = (-1 : Int32)) (h55 : J 0 60 55 = nI 0) (hde : vw y J (w_ib e) 0 = nI 2) (hw : w < 384) (hw2 : w % 2 = 0) (hib : tH y J (w_ib d)) (hix : 8 ≤ w / 16 → ¬ vw y J (w_ib d) 11 = nI 0 → tH y J (vw y J (w_ib d) 11).toNatClampNeg) (hb : w_D b) (hpl : w_pl (vw y J) d (w / 16) = nI b) (hdd : vw y J (w_ib d) 0 = nI 2) (hzz : vw y J (w_ib d) 2 = nI z0) (hz0 : z0 ≤ 384) (hwz : w < z0) (hnm : ¬ vw y J b (w % 16) = nI 0) (hti : vw y J b (w % 16 + 1) = nI t) (hot : ¬ other = nI 0) : KD n y Hd F0 I0 J0 (bX9_rename_131 n y (nI w) (nI t) I) (bX11_tryRename_98 n (nI d) (nI e) other (nI w) (nI t) J) := by
  obtain ⟨r, I1, J1, z, f1, f2, f3, f4, f5, f6, f7, f8, f9⟩ := tn_find other hC h (fun _ q => q) he (by omega)
  have hee : ∀ L, L y = 2 → EE (F0 L) (w_up2 (F0 L) b w (nI 0) (nI 0)) d t := fun L hL => by
    have ho : w_own (F0 L) d (w / 16) b := (tr_own h.1 hL (by omega)).mpr ⟨hd, by omega, hb, hpl⟩
    exact ee_up2 (z := z0) (tr_wf h.1 hL).1.1 (tr_wf h.1 hL).1.2.1 ho hw hw2 hd (by rw [← tr_vw h.1 hL (of_ib hd) (by omega) (by omega)]; exact hdd) (by rw [← tr_vw h.1 hL (of_ib hd) (by omega) (by omega)]; exact hzz) hz0 hwz (by rw [← tr_vw h.1 hL (of_own ho) (by omega) (by omega)]; exact hnm) ht (by rw [← tr_vw h.1 hL (of_own ho) (by omega) (by omega)]; exact hti)
  rcases f9 with rfl | ⟨w', rfl, w1, -, -⟩
  · obtain ⟨I2, J2, e1, e2, e3, e4, e5, e6, e7⟩ := tn_erase (n := n) (w := w) (b := b) hC (tn_X b f3) (fun _ q => q) hd hHd hw hw2 (f4.2.1 _ hib) (by rw [f4.1]; exact fun q1 q2 => f4.2.1 _ (hix q1 q2)) hb (by rw [f4.1]; exact hpl) List.mem_cons_self (Nat.le_of_ble_eq_true rfl)
    have hv2 : vw y J2 (w_ib e) 0 = nI 2 := by rw [e4 _ _ (D_ib hb he), f4.1]; exact hde
    have hput := tn_put (n := n) (d := e) (t := t) (name := other) hC hM (tn_pn (a := nI e) (b := other) (c := nI t) (d := nI 0) e3) (Nat.le_of_ble_eq_true rfl) he hHe hv2 ht (by simp only [z_upk]; rfl) (by simp only [z_upk]; rfl) (by simp only [z_upk]; rfl) hot
    have hI : bX9_rename_131 n y (nI w) (nI t) I = some (am_up (am_up (am_up (am_up I2 0 15 13 (nI e)) 0 15 14 other) 0 15 15 (nI t)) 0 15 10 (nI 0)) := by
      simp only [bX9_rename_131, tn_a h, hc, hd4, f1, Option.bind_some, if_true, tn_a f3, ha, e1, tn_a e3, c_pn]
    have hJ : bX11_tryRename_98 n (nI d) (nI e) other (nI w) (nI t) J = gX11_putEntry n (nI e) other (nI t) J2 := by
      simp only [bX11_tryRename_98, f2, Option.bind_some, if_true, e2, z_bs]
    rw [hI, hJ]
    refine run_put (d := e) (v := nI 0) he (by simp only [z_upk]; exact e3.2.1) (by simp only [z_upk]; rfl) ?_ (by simp only [z_upk]; rfl) (Nat.le_of_ble_eq_true rfl) hput (fun L hL s' hpe => lr_ren hd he (hee L hL) hpe) (fun J' hJ' hh => ⟨J' 0 60 55, by rw [hJ', up_same], ?_⟩)
    · rw [z_upk, if_neg (by decide), z_upk, if_neg (by decide), z_upk, if_neg (by decide), z_upk, if_neg (by decide), e6 16 (by decide), f4.2.2.1]
      exact h16
    · rcases hh with ⟨hh, -⟩ | ⟨I', -, -, -, t4⟩
      · exact Or.inl hh
      · right
        rw [t4 55 (by decide), e7 55 (by decide), f4.2.2.2]
        exact h55
  · have hm := z_m1n (a := w') (by omega)
    obtain ⟨I3, J3, g1, g2, g3⟩ := tn_fail (n := n) (f := (-6 : Int32)) f3 (by decide)
    refine kd_en (I' := I3) (J' := J3) ?_ ?_ g3
    · simp only [bX9_rename_131, tn_a h, hc, hd4, f1, Option.bind_some, hm, if_false, g1]
    · simp only [bX11_tryRename_98, f2, Option.bind_some, hm, if_false, g2]
theorem k_rename {d e : Nat} {name other : Int32} (hC : TC n y Hd I0 J0) (hM : ∀ r, r < 136 → Hd r ≤ 2) (h : TN0 y Hd F0 I0 J0 I J) (hd : d < 128) (he : e < 128) (hn : ¬ name = nI 0) (ha : I0 y 55 1 = nI d) (hb : I0 y 55 2 = name) (hc : I0 y 55 3 = nI e) (hd4 : I0 y 55 4 = other) (h16 : I 0 15 16 = (-1 : Int32)) (h55 : J 0 60 55 = nI 0) (hot : ¬ other = nI 0) : KD n y Hd F0 I0 J0 (gX9_rename n y I) (gX11_tryRename n (nI d) name (nI e) other J) := by
  have hn4 := hC.2.1
  have hyn := hC.1
  rcases tn_dir (m := 2) hC h (fun _ q => q) hd (Or.inr rfl) with ⟨I1, J1, e1, e2, e3, e4, e5, e6, e7⟩ | ⟨I1, J1, e1, e2, e3⟩
  · rcases tn_dir (m := 2) hC e3 (fun _ q => q) he (Or.inr rfl) with ⟨I2, J2, f1, f2, f3, f4, f5, f6, f7⟩ | ⟨I2, J2, f1, f2, f3⟩
    · have hHd : Hd d = 2 := by have := hM d (by omega); omega
      have hHe : Hd e = 2 := by have := hM e (by omega); omega
      obtain ⟨r, I3, J3, z, g1, g2, g3, g4, g5, g6, g7, g8, g9⟩ := tn_find name hC f3 (fun _ q => q) hd (by omega)
      rcases g9 with rfl | ⟨w, rfl, w1, w2, w3⟩
      · obtain ⟨I4, J4, s1, s2, s3⟩ := tn_fail (n := n) (f := (-3 : Int32)) g3 (by decide)
        refine kd_en (I' := I4) (J' := J4) ?_ ?_ s3
        · simp only [gX9_rename, bX9_rename_0, bX9_rename_56, tn_a h, ha, e1, Option.bind_some, z_10, if_false, tn_a e3, hc, f1, tn_a f3, hb, g1, if_true, c_isinm, z_00, s1]
        · simp only [gX11_tryRename, bX11_tryRename_0, e2, Option.bind_some, z_10, if_false, f2, g2, if_true, s2]
      · obtain ⟨b, b1, b2, b3⟩ := w3.1 hn
        have hm := z_m1n (a := w) (by omega)
        obtain ⟨I4, J4, t, t1, t2, s1, s2, s3, s4, s5, s6, s7⟩ := tn_ino (w := w) (b := b) hC g3 (fun _ q => q) hd (by omega) (by omega) w2 (by rw [g4.1, f4.1, e4.1]; exact e6) b1 (by rw [g4.1]; exact b2)
        have hV : vw y J4 = vw y J := by rw [s4.1, g4.1, f4.1, e4.1]
        have h16' : I4 0 15 16 = (-1 : Int32) := by rw [s4.2.2.1, g4.2.2.1, f4.2.2.1, e4.2.2.1]; exact h16
        have h55' : J4 0 60 55 = nI 0 := by rw [s4.2.2.2, g4.2.2.2, f4.2.2.2, e4.2.2.2]; exact h55
        have hpl4 : w_pl (vw y J4) d (w / 16) = nI b := by rw [s4.1, g4.1]; exact b2
        have hix4 : 8 ≤ w / 16 → ¬ vw y J4 (w_ib d) 11 = nI 0 → tH y J4 (vw y J4 (w_ib d) 11).toNatClampNeg := by rw [s4.1]; exact s7
        have hde4 : vw y J4 (w_ib e) 0 = nI 2 := by rw [hV, ← e4.1]; exact f6
        have hzz4 : vw y J4 (w_ib d) 2 = nI z := by rw [s4.1, g4.1]; exact g7
        have hnm4 : ¬ vw y J4 b (w % 16) = nI 0 := by rw [s4.1, g4.1, b3]; exact hn
        have hti4 : vw y J4 b (w % 16 + 1) = nI t := by rw [s4.1]; exact t2
        have hdd4 : vw y J4 (w_ib d) 0 = nI 2 := by rw [hV]; exact e6
        have cI : gX9_rename n y I = bX9_rename_56 n y (nI w) (nI t) I4 := by
          simp only [gX9_rename, bX9_rename_0, tn_a h, ha, e1, Option.bind_some, z_10, if_false, tn_a e3, hc, f1, tn_a f3, hb, g1, hm, tn_a g3, s1]
        have cJ : gX11_tryRename n (nI d) name (nI e) other J = if nI d = nI e then (if name = other then some J4 else bX11_tryRename_98 n (nI d) (nI e) other (nI w) (nI t) J4) else ((gX11_meets n (nI t) (nI 1) J4).bind (fun q5 => if q5.1 = 0 then (some q5.2) else ((gX11_ofInode n (nI t) (nI 0) q5.2).bind (fun q6 => if q6.1 = (nI 2) then ((gX11_fail n (-9 : Int32) q6.2).bind (fun q7 => some q7)) else (bX11_tryRename_98 n (nI d) (nI e) other (nI w) (nI t) q6.2))))) := by
          simp only [gX11_tryRename, bX11_tryRename_0, e2, Option.bind_some, z_10, if_false, f2, g2, hm, nI_add, s2]
        rw [cI, cJ]
        by_cases hdeq : nI d = nI e
        · rw [if_pos hdeq]
          by_cases hno : name = other
          · rw [if_pos hno]
            refine kd_of ⟨am_up (am_up I4 0 15 9 (nI 1)) 0 15 10 (nI 0), J4, ?_, rfl, Or.inr ?_⟩
            · simp only [bX9_rename_56, c_isin t1, Option.bind_some, z_10, if_false, tn_a s3, ha, hc, hdeq, if_true, hb, hd4, hno, c_fin]
            · have hd2 := tn_done0 (v := nI 0) s3
              have e : am_up J4 0 60 55 (nI 0) = J4 := by
                conv => lhs; rw [← h55', up_same]
              rw [e] at hd2
              exact hd2
          · rw [if_neg hno]
            have c : bX9_rename_56 n y (nI w) (nI t) I4 = bX9_rename_131 n y (nI w) (nI t) I4 := by
              simp only [bX9_rename_56, c_isin t1, Option.bind_some, z_10, if_false, tn_a s3, ha, hc, hdeq, if_true, hb, hd4, hno]
            rw [c]
            exact ren_tail (n := n) (b := b) hC hM s3 hd he t1 hHd hHe ha hc hd4 h16' h55' hde4 (by omega) w2 s5 hix4 b1 hpl4 hdd4 hzz4 g6 w1 hnm4 hti4 hot
        · rw [if_neg hdeq]
          rcases tn_meet (r := t) (m := 1) hC s3 (by omega) (Or.inl rfl) with ⟨hHt, u1, u2⟩ | ⟨I5, J5, u1, u2, u3⟩
          · obtain ⟨I5, J5, p1, p2, p3, p4, p5⟩ := tn_rdv (i := 0) hC s3 (w_ib_lt t1) (by decide) (fun q => q) (Or.inr (Or.inl ⟨t, t1, rfl, by omega⟩))
            by_cases hk2 : vw y J4 (w_ib t) 0 = nI 2
            · obtain ⟨I6, J6, v1, v2, v3⟩ := tn_fail (n := n) (f := (-9 : Int32)) p3 (by decide)
              refine kd_en (I' := I6) (J' := J6) ?_ ?_ v3
              · simp only [bX9_rename_56, c_isin t1, Option.bind_some, z_10, if_false, tn_a s3, ha, hc, hdeq, u1, c_ib n t _ t1, p1, hk2, if_true, v1]
              · simp only [u2, Option.bind_some, z_10, if_false, a_of t1, p2, hk2, if_true, v2]
            · have c : bX9_rename_56 n y (nI w) (nI t) I4 = bX9_rename_131 n y (nI w) (nI t) I5 := by
                simp only [bX9_rename_56, c_isin t1, Option.bind_some, z_10, if_false, tn_a s3, ha, hc, hdeq, u1, c_ib n t _ t1, p1, hk2]
              rw [c, u2, Option.bind_some]
              show KD n y Hd F0 I0 J0 _ (if nI 1 = (0 : Int32) then _ else _)
              rw [if_neg (by decide), a_of t1, p2, Option.bind_some]
              show KD n y Hd F0 I0 J0 _ (if vw y J4 (w_ib t) 0 = nI 2 then _ else _)
              rw [if_neg hk2]
              show KD n y Hd F0 I0 J0 _ (bX11_tryRename_98 n (nI d) (nI e) other (nI w) (nI t) J5)
              exact ren_tail (n := n) (b := b) hC hM p3 hd he t1 hHd hHe ha hc hd4 (by rw [p4.2.2.1]; exact h16') (by rw [p4.2.2.2]; exact h55') (by rw [p4.1]; exact hde4) (by omega) w2 (p4.2.1 _ s5) (by rw [p4.1]; exact fun q1 q2 => p4.2.1 _ (hix4 q1 q2)) b1 (by rw [p4.1]; exact hpl4) (by rw [p4.1]; exact hdd4) (by rw [p4.1]; exact hzz4) g6 w1 (by rw [p4.1]; exact hnm4) (by rw [p4.1]; exact hti4) hot
          · refine kd_en (I' := I5) (J' := J5) ?_ ?_ u3
            · simp only [bX9_rename_56, c_isin t1, Option.bind_some, z_10, if_false, tn_a s3, ha, hc, hdeq, u1, z_00, if_true]
            · simp only [u2, Option.bind_some, z_00, if_true]
    · refine kd_en (I' := I2) (J' := J2) ?_ ?_ f3
      · simp only [gX9_rename, bX9_rename_0, bX9_rename_24, tn_a h, ha, e1, Option.bind_some, z_10, if_false, tn_a e3, hc, f1, z_00, if_true]
      · simp only [gX11_tryRename, bX11_tryRename_0, bX11_tryRename_24, e2, Option.bind_some, z_10, if_false, f2, z_00, if_true]
  · refine kd_en (I' := I1) (J' := J1) ?_ ?_ e3
    · simp only [gX9_rename, bX9_rename_0, bX9_rename_24, tn_a h, ha, e1, Option.bind_some, z_00, if_true]
    · simp only [gX11_tryRename, bX11_tryRename_0, bX11_tryRename_24, e2, Option.bind_some, z_00, if_true]
end REN
