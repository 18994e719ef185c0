section REM
variable {n y : Nat} {Hd : Nat → Int} {F0 F F' : (Nat → Nat) → wS} {I0 J0 I J : am_I} {X : List Nat} {E : Nat → Prop} {gn : List Nat} {gp gp' pd pd' : Nat → Prop}
/-- REMOVE behind the faults -/
theorem rem_tail {d t w b z0 : Nat} (hC : TC n y Hd I0 J0) (hM : ∀ r, r < 136 → Hd r ≤ 2) (h : TN0 y Hd F0 I0 J0 I J) (hd : d < 128) (ht : t < 128) (hHd : Hd d = 2) (hHt : Hd t = 2) (ha : I0 y 55 1 = nI d) (h13 : I 0 15 13 = (-1 : Int32)) (h55 : J 0 60 55 = nI 0) (hk : ¬ vw y J (w_ib t) 0 = nI 0) (hw : w < 384) (hw2 : w % 2 = 0) (hib : tH y J (w_ib d)) (hibt : tH y J (w_ib t)) (hix : 8 ≤ w / 16 → ¬ vw y J (w_ib d) 11 = nI 0 → tH y J (vw y J (w_ib d) 11).toNatClampNeg) (hb : w_D b) (hpl : w_pl (vw y J) d (w / 16) = nI b) (hdd : vw y J (w_ib d) 0 = nI 2) (hzz : vw y J (w_ib d) 2 = nI z0) (hz0 : z0 ≤ 384) (hwz : w < z0) (hnm : ¬ vw y J b (w % 16) = nI 0) (hti : vw y J b (w % 16 + 1) = nI t) (hne : ∀ w' t', w' < 192 → v_en (vw y J) t w' t' = false) : KD n y Hd F0 I0 J0 (bX9_remove_104 n y (nI w) (nI t) (nI (w_ib t)) I) (bX11_tryRemove_80 n (nI d) (nI w) (nI t) J) := by
  have hn4 := hC.2.1
  have hyn := hC.1
  obtain ⟨I2, J2, e1, e2, e3, e4, e5, e6, e7⟩ := tn_erase (n := n) (w := w) (b := b) hC (tn_X (w_ib t) (tn_X b h)) (fun _ q => q) hd hHd hw hw2 hib hix hb hpl (List.mem_cons_of_mem _ List.mem_cons_self) (Nat.le_of_ble_eq_true rfl)
  have hib2 := e5 _ hibt
  have hv2 : ∀ i, vw y J2 (w_ib t) i = vw y J (w_ib t) i := fun i => e4 _ _ (D_ib hb ht)
  have q1 := c_readc (n := n) (i := 1) hC e3 hib2 (fun q => q) (by omega)
  have q2 := r_getc (n := n) (i := 1) (by omega) hib2 (by omega) (tn_c e3).2
  obtain ⟨I3, J3, f1, f2, f3, f4, f5, f6, f7⟩ := tn_lset (v := vw y J2 (w_ib t) 1 - nI 1) hC e3 (fun _ q => q) ht hHt hib2 (by rw [hv2]; exact hk) List.mem_cons_self (Nat.le_of_ble_eq_true rfl)
  have hib3 := (f5 _).mpr (Or.inl hib2)
  have q3 := r_getc (n := n) (i := 1) (by omega) hib3 (by omega) (tn_c f3).2
  have hv3 : vw y J3 (w_ib t) 1 = vw y J2 (w_ib t) 1 - nI 1 := by rw [f4, w_up_at]
  rw [hv3] at q3
  have hee : ∀ L, L y = 2 → EE (F0 L) (w_up2 (F0 L) b w (nI 0) (nI 0)) d t := fun L hL => by
    have ho : w_own (F0 L) d (w / 16) b := (tr_own h.1 hL (by omega)).mpr ⟨hd, by omega, hb, hpl⟩
    exact ee_up2 (z := z0) (tr_wf h.1 hL).1.1 (tr_wf h.1 hL).1.2.1 ho hw hw2 hd (by rw [← tr_vw h.1 hL (of_ib hd) (by omega) (by omega)]; exact hdd) (by rw [← tr_vw h.1 hL (of_ib hd) (by omega) (by omega)]; exact hzz) hz0 hwz (by rw [← tr_vw h.1 hL (of_own ho) (by omega) (by omega)]; exact hnm) ht (by rw [← tr_vw h.1 hL (of_own ho) (by omega) (by omega)]; exact hti)
  have hlc : ∀ L, L y = 2 → LR (F0 L) (w_up (w_up2 (F0 L) b w (nI 0) (nI 0)) (w_ib t) 1 (vw y J2 (w_ib t) 1 - nI 1)) := fun L hL => lr_rem (tr_wf e3.1 hL).1.1 hd ht (hee L hL) (by rw [tr_vw e3.1 hL (of_ib ht) (by omega) (by omega)])
  have hz : (vw y J2 (w_ib t) 1 - nI 1 = 0) ∨ ¬ (vw y J2 (w_ib t) 1 - nI 1 = 0) := Classical.em _
  have hT : ∀ s0, TN y Hd F0 I0 J0 [w_ib t, b] (fun _ => False) (fun L => w_up (w_up2 (F0 L) b w (nI 0) (nI 0)) (w_ib t) 1 (vw y J2 (w_ib t) 1 - nI 1)) [] (fun _ => False) (fun _ => False) (am_up (am_up I3 0 15 10 (nI 0)) 0 15 16 s0) J3 := fun s0 => by
    refine ⟨tr_up f3.1 (fun i j q => by simp (disch := omega) only [z_upj]) (fun k q => by rw [z_upk, if_neg (by omega), z_upk, if_neg (by omega)]) (fun _ _ _ => rfl) (fun _ _ => rfl), ?_⟩
    unfold rn
    rw [z_upk, if_neg (by decide), z_upk, if_neg (by decide)]
    exact f3.2
  have g9 : ∀ s0, am_up (am_up I3 0 15 10 (nI 0)) 0 15 16 s0 0 15 9 = 0 := fun s0 => by
    rw [z_upk, if_neg (by decide), z_upk, if_neg (by decide)]
    exact f3.2.1
  have g13 : ∀ s0, am_up (am_up I3 0 15 10 (nI 0)) 0 15 16 s0 0 15 13 = (-1 : Int32) := fun s0 => by
    rw [z_upk, if_neg (by decide), z_upk, if_neg (by decide), f6 13 (by decide), e6 13 (by decide)]
    exact h13
  have g55 : J3 0 60 55 = nI 0 := by rw [f7 55 (by decide), e7 55 (by decide)]; exact h55
  rcases hz with hz | hz
  · have f1' := f1
    have f2' := f2
    have q3' := q3
    rw [hz] at f1' f2' q3'
    have cI : bX9_remove_104 n y (nI w) (nI t) (nI (w_ib t)) I = some (am_up (am_up I3 0 15 10 (nI 0)) 0 15 16 (nI t)) := by
      simp only [bX9_remove_104, bX9_remove_149, tn_a h, ha, e1, Option.bind_some, q1, hz, f1', am_lt, if_true]
    have cJ : bX11_tryRemove_80 n (nI d) (nI w) (nI t) J = gX11_giveAll n (nI t) J3 := by
      simp only [bX11_tryRemove_80, bX11_tryRemove_120, e2, Option.bind_some, a_of ht, q2, a_si ht, hz, f2', q3', if_true, z_bs]
    have hrun : bX9_run_203 n (am_up (am_up I3 0 15 10 (nI 0)) 0 15 16 (nI t)) = (gX9_giveInodeBack n (nI t) (am_up (am_up I3 0 15 10 (nI 0)) 0 15 16 (nI t))).bind (fun q2 => bX9_run_228 n q2) := by
      have g16 : am_up (am_up I3 0 15 10 (nI 0)) 0 15 16 (nI t) 0 15 16 = nI t := by rw [z_upk, if_pos rfl]
      simp only [bX9_run_203, g9, if_true, g16, c_isin ht, Option.bind_some, z_10, if_false]
    rcases tn_gall (n := n) (t := t) hC hM (hT (nI t)) (Nat.le_of_ble_eq_true rfl) ht hHt hib3 with ⟨gn, X', E', F', I4, J4, s1, s2, s3, s4, s5, s6, s7, s8, s9, s10⟩ | ⟨I4, J4, s1, s2, s3⟩
    · have i9 : I4 0 15 9 = 0 := by rw [s7 9 (by decide)]; exact g9 _
      have i13 : I4 0 15 13 = (-1 : Int32) := by rw [s7 13 (by decide)]; exact g13 _
      refine ⟨am_up I4 0 15 9 (nI 1), J4, ?_, cJ.trans s2, Or.inr ⟨⟨X', E', F', gn, fun c => c ∈ gn, tr_up s3.1 (fun i j q => z_upj _ _ _ _ _ _ _ q) (fun k q => by rw [z_upk, if_neg (by omega)]) (fun _ _ _ => rfl) (fun _ _ => rfl), Nat.le_trans s4 (Nat.le_of_ble_eq_true rfl), s5, fun _ => Iff.rfl, s6, fun L hL => ⟨fun hl => ?_, fun z hz => sb_fin ht (s9 L) (s10 L 0) ((hlc L hL).2 z hz)⟩⟩, ?_, s3.2.2.1, s3.2.2.2, ?_⟩⟩
      · rw [cI, Option.bind_some, hrun, s1, Option.bind_some]
        simp only [bX9_run_228, bX9_run_249, bX9_run_261, i9, if_true, i13, c_isinm, Option.bind_some, z_00, am_lt]
      · have hl2 := (hlc L hL).1 hl
        have hA2 := (tr_wf f3.1 hL).1.1
        have hA1 := (tr_wf e3.1 hL).1.1
        refine lc_fin hA2 (tr_wf f3.1 hL).1.2.1 ht (s9 L) (fun i _ => s10 L i) (fun w' t' hw' => ?_) ?_ (fun k hk _ => hl2 k hk)
        · show v_en (w_up (w_up2 (F0 L) b w (nI 0) (nI 0)) (w_ib t) 1 (vw y J2 (w_ib t) 1 - nI 1)) t w' t' = false
          rw [en_link hA1 ht ht hw']
          have hf : v_en (F0 L) t w' t' = false := by
            rw [tr_en h.1 hL ht (by omega) hw']
            exact hne w' t' hw'
          obtain ⟨w0, -, x1, -, x3, -⟩ := hee L hL
          by_cases e : t = d ∧ w' = w0
          · rw [e.1, e.2]
            exact x3 t'
          · rw [x1 t w' t' ht hw' e]
            exact hf
        · have q := hl2 t ht
          rw [w_up_at] at q
          have hz' : vw y J2 (w_ib t) 1 - nI 1 = nI 0 := hz
          rw [hz'] at q
          have a3 := v_cn_le (w_up (w_up2 (F0 L) b w (nI 0) (nI 0)) (w_ib t) 1 (nI 0)) t
          have a4 := v_r_le t
          have q2 := w_nI (by decide) (by omega) q
          show v_cn (w_up (w_up2 (F0 L) b w (nI 0) (nI 0)) (w_ib t) 1 (vw y J2 (w_ib t) 1 - nI 1)) t + v_r t = 0
          rw [hz']
          exact q2.symm
      · rw [z_upk, if_pos rfl]
      · rw [z_upk, if_neg (by decide), s7 10 (by decide), z_upk, if_neg (by decide), z_upk, if_pos rfl, s8 55 (by decide), g55]
    · refine ⟨I4, J4, ?_, cJ.trans s2, Or.inl s3⟩
      rw [cI, Option.bind_some, hrun, s1, Option.bind_some]
      have i9 : ¬ I4 0 15 9 = 0 := en_ne s3
      simp only [bX9_run_228, bX9_run_249, bX9_run_261, i9, if_false]
  · have cI : bX9_remove_104 n y (nI w) (nI t) (nI (w_ib t)) I = some (am_up (am_up I3 0 15 10 (nI 0)) 0 15 16 (-1 : Int32)) := by
      simp only [bX9_remove_104, bX9_remove_149, tn_a h, ha, e1, Option.bind_some, q1, f1, am_lt, hz, if_false]
    have cJ : bX11_tryRemove_80 n (nI d) (nI w) (nI t) J = some J3 := by
      simp only [bX11_tryRemove_80, bX11_tryRemove_120, e2, Option.bind_some, a_of ht, q2, a_si ht, f2, q3, hz, if_false]
    have g16 : am_up (am_up I3 0 15 10 (nI 0)) 0 15 16 (-1 : Int32) 0 15 16 = (-1 : Int32) := by rw [z_upk, if_pos rfl]
    refine ⟨am_up (am_up (am_up I3 0 15 10 (nI 0)) 0 15 16 (-1 : Int32)) 0 15 9 (nI 1), J3, ?_, cJ, Or.inr ⟨⟨[w_ib t, b], fun _ => False, _, [], fun _ => False, tr_up (hT (-1 : Int32)).1 (fun i j q => z_upj _ _ _ _ _ _ _ q) (fun k q => by rw [z_upk, if_neg (by omega)]) (fun _ _ _ => rfl) (fun _ _ => rfl), Nat.le_of_ble_eq_true rfl, fun _ q => q.elim, fun c => ⟨fun q => q.elim, fun q => absurd q List.not_mem_nil⟩, fun _ _ c q => absurd q List.not_mem_nil, hlc⟩, ?_, f3.2.2.1, f3.2.2.2, ?_⟩⟩
    · rw [cI, Option.bind_some]
      simp only [bX9_run_203, bX9_run_228, bX9_run_249, bX9_run_261, g9, if_true, g16, c_isinm, Option.bind_some, z_00, g13, am_lt]
    · rw [z_upk, if_pos rfl]
    · rw [z_upk, if_neg (by decide), z_upk, if_neg (by decide), z_upk, if_pos rfl, g55]
theorem k_remove {d : Nat} {name : Int32} (hC : TC n y Hd I0 J0) (hM : ∀ r, r < 136 → Hd r ≤ 2) (h : TN0 y Hd F0 I0 J0 I J) (hd : d < 128) (hn : ¬ name = nI 0) (ha : I0 y 55 1 = nI d) (hb : I0 y 55 2 = name) (h13 : I 0 15 13 = (-1 : Int32)) (h55 : J 0 60 55 = nI 0)
    (hLC : v_LC (F0 L2)) : KD n y Hd F0 I0 J0 (gX9_remove n y I) (gX11_tryRemove n (nI d) name J) := by
  have hn4 := hC.2.1
  have hyn := hC.1
  rcases tn_dir (m := 2) hC h (fun _ q => q) hd (Or.inr rfl) with ⟨I1, J1, e1, e2, e3, e4, e5, e6, e7⟩ | ⟨I1, J1, e1, e2, e3⟩
  · have hHd : Hd d = 2 := by have := hM d (by omega); omega
    obtain ⟨r, I3, J3, z, g1, g2, g3, g4, g5, g6, g7, g8, g9⟩ := tn_find name hC e3 (fun _ q => q) hd (by omega)
    rcases g9 with rfl | ⟨w, rfl, w1, w2, w3⟩
    · obtain ⟨I4, J4, s1, s2, s3⟩ := tn_fail (n := n) (f := (-3 : Int32)) g3 (by decide)
      refine kd_en (I' := I4) (J' := J4) ?_ ?_ s3
      · simp only [gX9_remove, bX9_remove_0, bX9_remove_44, tn_a h, ha, e1, Option.bind_some, z_10, if_false, tn_a e3, hb, g1, if_true, c_isinm, z_00, s1]
      · simp only [gX11_tryRemove, bX11_tryRemove_0, e2, Option.bind_some, z_10, if_false, g2, if_true, s2]
    · obtain ⟨b, b1, b2, b3⟩ := w3.1 hn
      have hm := z_m1n (a := w) (by omega)
      obtain ⟨I4, J4, t, t1, t2, s1, s2, s3, s4, s5, s6, s7⟩ := tn_ino (w := w) (b := b) hC g3 (fun _ q => q) hd (by omega) (by omega) w2 (by rw [g4.1, e4.1]; exact e6) b1 (by rw [g4.1]; exact b2)
      have hV : vw y J4 = vw y J := by rw [s4.1, g4.1, e4.1]
      have cI : gX9_remove n y I = bX9_remove_44 n y (nI w) (nI t) I4 := by
        simp only [gX9_remove, bX9_remove_0, tn_a h, ha, e1, Option.bind_some, z_10, if_false, tn_a e3, hb, g1, hm, tn_a g3, s1]
      have cJ : gX11_tryRemove n (nI d) name J = (gX11_meets n (nI t) (nI 2) J4).bind (fun q4 => if q4.1 = 0 then (some q4.2) else ((gX11_ofInode n (nI t) (nI 0) q4.2).bind (fun q5 => if q5.1 = (nI 2) then ((gX11_hasEntry n (nI t) q5.2).bind (fun q6 => if q6.1 = 0 then (bX11_tryRemove_80 n (nI d) (nI w) (nI t) q6.2) else ((gX11_fail n (-8 : Int32) q6.2).bind (fun q7 => some q7)))) else (bX11_tryRemove_80 n (nI d) (nI w) (nI t) q5.2)))) := by
        simp only [gX11_tryRemove, bX11_tryRemove_0, e2, Option.bind_some, z_10, if_false, g2, hm, nI_add, s2]
      rw [cI, cJ]
      rcases tn_meet (r := t) (m := 2) hC s3 (by omega) (Or.inr rfl) with ⟨hHt0, u1, u2⟩ | ⟨I5, J5, u1, u2, u3⟩
      · have hHt : Hd t = 2 := by have := hM t (by omega); omega
        obtain ⟨I5, J5, p1, p2, p3, p4, p5⟩ := tn_rdv (i := 0) hC s3 (w_ib_lt t1) (by decide) (fun q => q) (Or.inr (Or.inl ⟨t, t1, rfl, by omega⟩))
        have hzJ : vw y J (w_ib d) 2 = nI z := by rw [← e4.1]; exact g7
        have hnmJ : ¬ vw y J b (w % 16) = nI 0 := by rw [← e4.1, b3]; exact hn
        have htiJ : vw y J b (w % 16 + 1) = nI t := by rw [← e4.1, ← g4.1]; exact t2
        have hplJ : w_pl (vw y J) d (w / 16) = nI b := by rw [← e4.1]; exact b2
        have hkt : ¬ vw y J (w_ib t) 0 = nI 0 := by
          rw [tr_vw (L := L2) h.1 rfl (of_ib t1) (by omega) (by omega)]
          refine v_used (d := d) (w := w / 2) (tr_wf (L := L2) h.1 rfl).2.1 hLC hd (by omega) t1 ?_
          have e16 : 2 * (w / 2) % 16 = w % 16 := by omega
          rw [tr_en (L := L2) h.1 rfl hd (by omega) (by omega), v_en_at (b := b) (z := z) e6 hzJ (by omega) (by omega) (by rw [show w / 2 / 8 = w / 16 from by omega]; exact hplJ) b1 (by rw [e16]; exact hnmJ), e16, htiJ]
          exact decide_eq_true rfl
        have hsc : ∀ {I6 J6 : am_I}, RO2 y I5 J5 I6 J6 → J6 0 60 55 = nI 0 → (∀ w' t', w' < 192 → v_en (vw y J) t w' t' = false) → TN0 y Hd F0 I0 J0 I6 J6 → KD n y Hd F0 I0 J0 (bX9_remove_104 n y (nI w) (nI t) (nI (w_ib t)) I6) (bX11_tryRemove_80 n (nI d) (nI w) (nI t) J6) := fun {I6 J6} hro h556 hne hT => by
          have hV6 : vw y J6 = vw y J := by rw [hro.1, p4.1, hV]
          refine rem_tail (n := n) (b := b) hC hM hT hd t1 hHd hHt ha ?_ ?_ (by rw [hV6]; exact hkt) (by omega) w2 (hro.2.1 _ (p4.2.1 _ s5)) (hro.2.1 _ p5) ?_ b1 (by rw [hV6]; exact hplJ) (by rw [hV6]; exact e6) (by rw [hV6]; exact hzJ) g6 w1 (by rw [hV6]; exact hnmJ) (by rw [hV6]; exact htiJ) (by rw [hV6]; exact hne)
          · rw [hro.2.2.1 13 (by decide), p4.2.2.1, s4.2.2.1, g4.2.2.1, e4.2.2.1]; exact h13
          · exact h556
          · rw [hro.1, p4.1, s4.1]
            exact fun q1 q2 => hro.2.1 _ (p4.2.1 _ (s7 q1 q2))
        have h555 : J5 0 60 55 = nI 0 := by rw [p4.2.2.2, s4.2.2.2, g4.2.2.2, e4.2.2.2]; exact h55
        rw [u2, Option.bind_some]
        show KD n y Hd F0 I0 J0 _ (if nI 1 = (0 : Int32) then _ else _)
        rw [if_neg (by decide), a_of t1, p2, Option.bind_some]
        show KD n y Hd F0 I0 J0 _ (if vw y J4 (w_ib t) 0 = nI 2 then _ else _)
        by_cases hk2 : vw y J4 (w_ib t) 0 = nI 2
        · rw [if_pos hk2]
          show KD n y Hd F0 I0 J0 _ ((gX11_hasEntry n (nI t) J5).bind _)
          have c44 : bX9_remove_44 n y (nI w) (nI t) I4 = (gX9_nameOf n (nI t) (nI 0) I5).bind (fun q5 => if q5.1 = 0 then (bX9_remove_104 n y (nI w) (nI t) (nI (w_ib t)) q5.2) else ((gX9_fail n (-8 : Int32) q5.2).bind (fun q6 => some q6.2))) := by
            simp only [bX9_remove_44, c_isin t1, Option.bind_some, z_10, if_false, u1, c_ib n t _ t1, p1, hk2, if_true]
          rw [c44]
          obtain ⟨z', J6, z1', e8, ⟨x, I7, J7, v0, v1, v2, v3, v4, v5⟩ | ⟨c', w', I7, J7, v1, v2, v3, v4, v5, v6, v7⟩⟩ := tn_scan (fun z hz => sc_has (n := n) (d := t) (z := z) hz) hC p3 (fun _ q => q) t1 (by omega) (by omega) (fun J' e => ⟨rfl, by rw [e]; exact h555, rfl, fun w' q => absurd q (Nat.not_lt_zero _)⟩)
          · have hx0 : ¬ x = (0 : Int32) := v0.1
            have hh : gX11_hasEntry n (nI t) J5 = some (nI 1, J7) := by
              rw [gX11_hasEntry, bX11_hasEntry_0, e8, Option.bind_some]
              exact v2
            obtain ⟨I8, J8, y1, y2, y3⟩ := tn_fail (n := n) (f := (-8 : Int32)) v3 (by decide)
            refine kd_en (I' := I8) (J' := J8) ?_ ?_ y3
            · simp only [v1, Option.bind_some, hx0, if_false, y1]
            · simp only [hh, Option.bind_some, z_10, if_false, y2]
          · have hh : gX11_hasEntry n (nI t) J5 = some (nI 0, J7) := by
              rw [gX11_hasEntry, bX11_hasEntry_0, e8, Option.bind_some]
              exact v2
            rw [v1, hh, Option.bind_some, Option.bind_some]
            show KD n y Hd F0 I0 J0 (if nI 0 = (0 : Int32) then _ else _) (if nI 0 = (0 : Int32) then _ else _)
            rw [if_pos (by decide), if_pos (by decide)]
            refine hsc v4 v7.1.2.1 (fun w' t' hw' => ?_) v3
            by_cases hlt : 2 * w' < z'
            · have q := v7.1.2.2.2 (2 * w') (by have := v7.2; omega) (by omega)
              rw [p4.1, hV] at q
              unfold v_nm at q
              refine v_en_no (Or.inr (Or.inr ?_))
              rw [show w' / 8 = 2 * w' / 16 from by omega]
              by_cases e0 : w_pl (vw y J) t (2 * w' / 16) = nI 0
              · exact Or.inl e0
              · rw [if_neg e0] at q
                exact Or.inr q
            · refine v_en_no (Or.inr (Or.inl ?_))
              have q := z1'.2
              rw [p4.1, hV] at q
              rw [q, nI_clamp (by have := z1'.1; omega)]
              omega
        · rw [if_neg hk2]
          have c44 : bX9_remove_44 n y (nI w) (nI t) I4 = bX9_remove_104 n y (nI w) (nI t) (nI (w_ib t)) I5 := by
            simp only [bX9_remove_44, c_isin t1, Option.bind_some, z_10, if_false, u1, c_ib n t _ t1, p1, hk2]
          rw [c44]
          refine hsc RO.rf.to2 h555 (fun w' t' _ => v_en_no (Or.inl ?_)) p3
          rw [← hV]
          exact hk2
      · refine kd_en (I' := I5) (J' := J5) ?_ ?_ u3
        · simp only [bX9_remove_44, c_isin t1, Option.bind_some, z_10, if_false, u1, z_00, if_true]
        · simp only [u2, Option.bind_some, z_00, if_true]
  · refine kd_en (I' := I1) (J' := J1) ?_ ?_ e3
    · simp only [gX9_remove, bX9_remove_0, tn_a h, ha, e1, Option.bind_some, z_00, if_true]
    · simp only [gX11_tryRemove, bX11_tryRemove_0, e2, Option.bind_some, z_00, if_true]
end REM
