
section WALK2
variable {n : Nat} {S : wS} {I J : am_I} {Q : List Nat} {b t d w z : Nat}
/-- an entry, the class -/
theorem w_c0 {fu : Nat} (hs : SV S I J) (hA : w_A S) (hd : d < 128) (hw : w < 384) (hz : w < z) (hz2 : z ≤ 384) (hv : v_nm S d w = nI 0) : bX2_followEntries_30 n (fu + 1) (nI (w_ib d)) (nI z) (S (w_ib d) 11) (nI w) I = bX2_followEntries_30 n fu (nI (w_ib d)) (nI z) (S (w_ib d) 11) (nI (w + 2)) I := by
  rw [s_blk hs hA hd hw hz hz2, bX2_followEntries_82]
  unfold v_nm at hv
  by_cases c : w_pl S d (w / 16) = nI 0
  · rw [if_pos (show w_pl S d (w / 16) = 0 from c), bX2_followEntries_163, nI_add]
  · rw [if_neg c] at hv
    rcases hA d (w / 16) hd (by omega) with q | ⟨x, q, hx⟩
    · exact absurd q c
    · have hb := w_D640 hx
      rw [q, z_clamp (by omega)] at hv
      rw [if_neg (show ¬ w_pl S d (w / 16) = 0 from c), q, z_mod (by omega) (by omega) (by omega), sv_at hs hb (by omega), Option.bind_some]
      dsimp only
      rw [if_pos (show S x (w % 16) = 0 from hv), bX2_followEntries_163, nI_add]
theorem w_c1 {fu : Nat} (hs : SV S I J) (hA : w_A S) (hd : d < 128) (hw : w < 384) (he : w % 2 = 0) (hz : w < z) (hz2 : z ≤ 384) (hv : ¬ v_nm S d w = nI 0) (ht : t < 128) (hn : v_nm S d (w + 1) = nI t) : bX2_followEntries_30 n (fu + 1) (nI (w_ib d)) (nI z) (S (w_ib d) 11) (nI w) I = if S (w_ib t) 0 = nI 0 then bX2_followEntries_30 n fu (nI (w_ib d)) (nI z) (S (w_ib d) 11) (nI (w + 2)) (am_up I 0 21 7 (nI 1)) else (gX2_reach n (nI t) (am_up I 0 23 t (I 0 23 t + nI 1))).bind (fun q => bX2_followEntries_30 n fu (nI (w_ib d)) (nI z) (S (w_ib d) 11) (nI (w + 2)) q) := by
  have ga : am_inb (nI t) 128 = true := by rw [z_inb (by omega)]; exact decide_eq_true ht
  have ka : (nI t).toNatClampNeg = t := z_clamp (by omega)
  have e1 : (w + 1) / 16 = w / 16 := by omega
  have e2 : (w + 1) % 16 = w % 16 + 1 := by omega
  rw [s_blk hs hA hd hw hz hz2, bX2_followEntries_82]
  unfold v_nm at hv hn
  rw [e1, e2] at hn
  by_cases c : w_pl S d (w / 16) = nI 0
  · rw [if_pos c] at hv
    exact absurd rfl hv
  · rw [if_neg c] at hv hn
    rcases hA d (w / 16) hd (by omega) with q | ⟨x, q, hx⟩
    · exact absurd q c
    · have hb := w_D640 hx
      rw [q, z_clamp (by omega)] at hv hn
      have isi : gX10_isInode n (nI t) I = some (nI 1, I) := by
        rw [gX10_isInode, bX10_isInode_0, z_0, if_neg (by rw [z_lt (by omega) (by omega)]; omega), if_neg (by rw [z_le (by omega) (by omega)]; omega)]
        rfl
      rw [if_neg (show ¬ w_pl S d (w / 16) = 0 from c), q, z_mod (by omega) (by omega) (by omega), sv_at hs hb (by omega), Option.bind_some]
      dsimp only
      rw [if_neg (show ¬ S x (w % 16) = 0 from hv), nI_add, sv_at hs hb (by omega), Option.bind_some]
      dsimp only
      rw [hn, isi, Option.bind_some]
      dsimp only
      rw [if_neg n10, sv_kind hs ht, Option.bind_some]
      dsimp only
      by_cases k : S (w_ib t) 0 = nI 0
      · rw [if_pos (show S (w_ib t) 0 = 0 from k), if_pos k, bX2_followEntries_138, am_lt, bX2_followEntries_163, nI_add]
      · rw [if_neg (show ¬ S (w_ib t) 0 = 0 from k), if_neg k, am_gd_of ga, am_gd_of ga, ka, am_lt]
        refine congrArg (Option.bind _) (funext fun q => ?_)
        rw [bX2_followEntries_163, nI_add]
/-- an entry, the reference -/
theorem w_r0 {k49 : Int32 → Int32 → Int32 → am_I → Option (Int32 × am_I)} {fu : Nat} {l1 l2 l3 : Int32} (hs : SV S I J) (hA : w_A S) (hd : d < 128) (hk : S (w_ib d) 0 = nI 2) (hw : w < 384) (hz : w < z) (hz2 : z ≤ 384) (hv : v_nm S d w = nI 0) : bX11_reach_74 n k49 (fu + 1) l1 l2 l3 (nI d) (nI z) (nI w) J = bX11_reach_74 n k49 fu l1 l2 l3 (nI d) (nI z) (nI (w + 2)) J := by
  conv => lhs; unfold bX11_reach_74
  dsimp only
  rw [sv_ai hs hd (by omega), Option.bind_some]
  dsimp only
  rw [if_pos hk, if_neg (by rw [z_le (by omega) (by omega)]; omega), if_neg (by rw [z_le (by omega) (by omega)]; omega), sv_aw hs hA hd hw, Option.bind_some]
  dsimp only
  rw [if_pos (show v_nm S d w = 0 from hv), bX11_reach_189, nI_add]
theorem w_r1 {k49 : Int32 → Int32 → Int32 → am_I → Option (Int32 × am_I)} {fu q : Nat} {l1 l3 : Int32} (hs : SV S I J) (hA : w_A S) (hd : d < 128) (hk : S (w_ib d) 0 = nI 2) (hw : w < 384) (he : w % 2 = 0) (hz : w < z) (hz2 : z ≤ 384) (hv : ¬ v_nm S d w = nI 0) (ht : t < 128) (hn : v_nm S d (w + 1) = nI t) : bX11_reach_74 n k49 (fu + 1) l1 (nI q) l3 (nI d) (nI z) (nI w) J = if S (w_ib t) 0 = nI 0 then bX11_reach_74 n k49 fu (nI 1) (nI q) l3 (nI d) (nI z) (nI (w + 2)) J else (if J 0 128 t = 0 then am_gd (am_inb (nI q) 128) (bX11_reach_74 n k49 fu l1 (nI (q + 1)) l3 (nI d) (nI z) (nI (w + 2)) (am_up (am_up (am_up J 0 129 t (J 0 129 t + nI 1)) 0 128 t (nI 1)) 0 130 (nI q).toNatClampNeg (nI t))) else bX11_reach_74 n k49 fu l1 (nI q) l3 (nI d) (nI z) (nI (w + 2)) (am_up J 0 129 t (J 0 129 t + nI 1))) := by
  have ga : am_inb (nI t) 128 = true := by rw [z_inb (by omega)]; exact decide_eq_true ht
  have ka : (nI t).toNatClampNeg = t := z_clamp (by omega)
  have isi : gX11_isInode n (nI t) J = some (nI 1, J) := by
    rw [gX11_isInode, bX11_isInode_0, x_in1 (by omega) (by omega) (by omega), Option.bind_some, z_011]
    rfl
  have o128 : am_up J 0 129 t (J 0 129 t + nI 1) 0 128 = J 0 128 := z_upj _ _ _ _ _ _ _ (by omega)
  conv => lhs; unfold bX11_reach_74
  dsimp only
  rw [sv_ai hs hd (by omega), Option.bind_some]
  dsimp only
  rw [if_pos hk, if_neg (by rw [z_le (by omega) (by omega)]; omega), if_neg (by rw [z_le (by omega) (by omega)]; omega), sv_aw hs hA hd hw, Option.bind_some]
  dsimp only
  rw [if_neg (show ¬ v_nm S d w = 0 from hv), nI_add, sv_aw hs hA hd (by omega), Option.bind_some]
  dsimp only
  rw [hn, isi, Option.bind_some]
  dsimp only
  rw [if_neg n10, sv_ai hs ht (by omega), Option.bind_some]
  dsimp only
  by_cases k : S (w_ib t) 0 = nI 0
  · rw [if_pos (show S (w_ib t) 0 = 0 from k), if_pos k, bX11_reach_144, bX11_reach_189, nI_add]
  · rw [if_neg (show ¬ S (w_ib t) 0 = 0 from k), if_neg k, am_gd_of ga, am_gd_of ga, ka, am_lt, am_gd_of ga, o128]
    by_cases c : J 0 128 t = 0
    · rw [if_pos c, if_pos c, am_gd_of ga, am_lt]
      refine congrArg (am_gd _) ?_
      rw [am_lt, bX11_reach_189, nI_add, nI_add]
    · rw [if_neg c, if_neg c, bX11_reach_189, nI_add]
/-- a directory's entries, both sides -/
theorem wk_in (hA : w_A S) (hE : w_E S) (hd : d < 128) (hk : S (w_ib d) 0 = nI 2) (hz2 : z ≤ 384) : ∀ (m w fu fur : Nat) (I J : am_I) (Q : List Nat) (b : Nat), w % 2 = 0 → w + 2 * m = z → m < fu → m < fur → SV S I J → WK S I J Q b → ∃ I' J' Q2 b', bX2_followEntries_30 n fu (nI (w_ib d)) (nI z) (S (w_ib d) 11) (nI w) I = some I' ∧ (∀ k49 l3, bX11_reach_74 n k49 fur (nI b) (nI Q.length) l3 (nI d) (nI z) (nI w) J = k49 (nI b') (nI (Q ++ Q2).length) (l3 + nI 1) J') ∧ WK S I' J' (Q ++ Q2) b' ∧ FW I J I' J' := by
  intro m
  induction m with
  | zero =>
    intro w fu fur I J Q b he hwz hfu hfur hs h
    obtain ⟨fu, rfl⟩ : ∃ f, fu = f + 1 := ⟨fu - 1, by omega⟩
    obtain ⟨fur, rfl⟩ : ∃ f, fur = f + 1 := ⟨fur - 1, by omega⟩
    refine ⟨I, J, [], b, ?_, fun k49 l3 => ?_, by rw [List.append_nil]; exact h, FW.rf⟩
    · unfold bX2_followEntries_30
      dsimp only
      rw [if_pos (by rw [z_le (by omega) (by omega)]; omega)]
    · unfold bX11_reach_74
      dsimp only
      rw [sv_ai hs hd (by omega), Option.bind_some]
      dsimp only
      rw [if_pos hk, if_pos (by rw [z_le (by omega) (by omega)]; omega), bX11_reach_195, List.append_nil]
  | succ m ih =>
    intro w fu fur I J Q b he hwz hfu hfur hs h
    obtain ⟨fu, rfl⟩ : ∃ f, fu = f + 1 := ⟨fu - 1, by omega⟩
    obtain ⟨fur, rfl⟩ : ∃ f, fur = f + 1 := ⟨fur - 1, by omega⟩
    by_cases hv : v_nm S d w = nI 0
    · obtain ⟨I', J', Q2, b', r1, r2, r3, r4⟩ := ih (w + 2) fu fur I J Q b (by omega) (by omega) (by omega) (by omega) hs h
      refine ⟨I', J', Q2, b', ?_, fun k49 l3 => ?_, r3, r4⟩
      · rw [w_c0 hs hA hd (by omega) (by omega) hz2 hv, r1]
      · rw [w_r0 hs hA hd hk (by omega) (by omega) hz2 hv, r2]
    · obtain ⟨t, ht, hn⟩ : ∃ t, t < 128 ∧ v_nm S d (w + 1) = nI t := by
        unfold v_nm at hv ⊢
        rw [show (w + 1) / 16 = w / 16 by omega, show (w + 1) % 16 = w % 16 + 1 by omega]
        by_cases c : w_pl S d (w / 16) = nI 0
        · rw [if_pos c] at hv
          exact absurd rfl hv
        · rcases hA d (w / 16) hd (by omega) with q | ⟨x, q, hx⟩
          · exact absurd q c
          · obtain ⟨t, ht, e⟩ := hE d (w / 16) x ⟨hd, by omega, hx, q⟩ (by omega) hk (w % 16 / 2) (by omega)
            refine ⟨t, ht, ?_⟩
            have hb := w_D640 hx
            rw [if_neg c, q, z_clamp (by omega), ← e]
            exact congrArg (S x) (by omega)
      rw [w_c1 hs hA hd (by omega) he (by omega) hz2 hv ht hn]
      by_cases k : S (w_ib t) 0 = nI 0
      · obtain ⟨I', J', Q2, b', r1, r2, r3, r4⟩ := ih (w + 2) fu fur (am_up I 0 21 7 (nI 1)) J Q 1 (by omega) (by omega) (by omega) (by omega) (sv_fw hs (fw_I (by omega))) (wk_bad h)
        refine ⟨I', J', Q2, b', ?_, fun k49 l3 => ?_, r3, (fw_I (by omega)).tr r4⟩
        · rw [if_pos k, r1]
        · rw [w_r1 hs hA hd hk (by omega) he (by omega) hz2 hv ht hn, if_pos k, r2]
      · have hs1 : SV S (am_up I 0 23 t (I 0 23 t + nI 1)) (am_up J 0 129 t (J 0 129 t + nI 1)) := sv_fw hs ((fw_I (by omega)).tr (fw_J (by omega)))
        have f1 : FW I J (am_up I 0 23 t (I 0 23 t + nI 1)) (am_up J 0 129 t (J 0 129 t + nI 1)) := (fw_I (by omega)).tr (fw_J (by omega))
        have h1 := wk_nm h k
        have o128 : am_up J 0 129 t (J 0 129 t + nI 1) 0 128 t = J 0 128 t := by rw [z_upj _ _ _ _ _ _ _ (by omega)]
        rcases (h.2.2.2.1 t ht).2 with c | c
        · obtain ⟨I1, u1, u2, u3, u4⟩ := wk_rc (n := n) hs1 h1 ht (by rw [o128]; exact c)
          obtain ⟨I', J', Q2, b', r1, r2, r3, r4⟩ := ih (w + 2) fu fur I1 _ (Q ++ [t]) b (by omega) (by omega) (by omega) (by omega) (sv_fw hs1 u4) u2
          refine ⟨I', J', [t] ++ Q2, b', ?_, fun k49 l3 => ?_, by rw [← List.append_assoc]; exact r3, f1.tr (u4.tr r4)⟩
          · rw [if_neg k, u1, Option.bind_some, r1]
          · rw [w_r1 hs hA hd hk (by omega) he (by omega) hz2 hv ht hn, if_neg k, if_pos (show J 0 128 t = 0 from c), am_gd_of (by rw [z_inb (by omega)]; exact decide_eq_true u3), z_clamp (by omega), ← List.append_assoc]
            have el : Q.length + 1 = (Q ++ [t]).length := by rw [List.length_append, List.length_singleton]
            rw [el, r2]
        · obtain ⟨I', J', Q2, b', r1, r2, r3, r4⟩ := ih (w + 2) fu fur _ _ Q b (by omega) (by omega) (by omega) (by omega) hs1 h1
          refine ⟨I', J', Q2, b', ?_, fun k49 l3 => ?_, r3, f1.tr r4⟩
          · rw [if_neg k, wk_old h1 ht (by rw [o128]; exact c), Option.bind_some, r1]
          · rw [w_r1 hs hA hd hk (by omega) he (by omega) hz2 hv ht hn, if_neg k, if_neg (show ¬ J 0 128 t = 0 by rw [c]; decide), r2]
/-- the whole walk, both sides -/
theorem wk_out (hx : x_wf S (fun _ => False)) : ∀ (m q fu fur : Nat) (I J : am_I) (Q : List Nat) (b : Nat), q + m = 128 → q ≤ Q.length → m < fu → m < fur → SV S I J → WK S I J Q b → ∃ I' J' Q' b', bX2_walk_47 n fu (nI ((Q.take q).filter (dr S)).length) I = some I' ∧ bX11_reach_49 n fur (nI b) (nI Q.length) (nI q) J = some (nI b', J') ∧ WK S I' J' Q' b' ∧ FW I J I' J' := by
  obtain ⟨⟨hA, hB, hC, hK, hE⟩, hZ, hN, hT⟩ := hx
  have fin : ∀ (q fu fur : Nat) (I J : am_I) (Q : List Nat) (b : Nat), q = Q.length → 0 < fu → 0 < fur → WK S I J Q b → ∃ I' J' Q' b', bX2_walk_47 n fu (nI ((Q.take q).filter (dr S)).length) I = some I' ∧ bX11_reach_49 n fur (nI b) (nI Q.length) (nI q) J = some (nI b', J') ∧ WK S I' J' Q' b' ∧ FW I J I' J' := fun q fu fur I J Q b hq hfu hfur h => by
    obtain ⟨fu, rfl⟩ : ∃ f, fu = f + 1 := ⟨fu - 1, by omega⟩
    obtain ⟨fur, rfl⟩ : ∃ f, fur = f + 1 := ⟨fur - 1, by omega⟩
    have hl := wk_len h
    have hf : (Q.filter (dr S)).length ≤ Q.length := List.length_filter_le _ _
    refine ⟨I, J, Q, b, ?_, ?_, h, FW.rf⟩
    · rw [hq, List.take_length]
      unfold bX2_walk_47
      dsimp only
      rw [h.2.2.2.2.2.2.2.1, if_pos (by rw [z_le (by omega) (by omega)]; omega)]
      rfl
    · unfold bX11_reach_49
      dsimp only
      rw [if_pos (by rw [z_le (by omega) (by omega)]; omega)]
      refine am_gd_of ?_
      rcases Nat.le_one_iff_eq_zero_or_eq_one.mp h.1 with e | e
      · rw [e]; exact z_01
      · rw [e]; exact z_011
  intro m
  induction m with
  | zero =>
    intro q fu fur I J Q b hq hql hfu hfur hs h
    have hl := wk_len h
    exact fin q fu fur I J Q b (by omega) hfu hfur h
  | succ m ih =>
    intro q fu fur I J Q b hq hql hfu hfur hs h
    by_cases hqe : q = Q.length
    · exact fin q fu fur I J Q b hqe (by omega) (by omega) h
    · obtain ⟨fu, rfl⟩ : ∃ f, fu = f + 1 := ⟨fu - 1, by omega⟩
      obtain ⟨fur, rfl⟩ : ∃ f, fur = f + 1 := ⟨fur - 1, by omega⟩
      have hl := wk_len h
      have hqlt : q < Q.length := by omega
      obtain ⟨d, hd⟩ : ∃ d, Q[q]? = some d := ⟨_, List.getElem?_eq_getElem hqlt⟩
      have hd128 := (h.2.2.2.2.2.1 d (List.mem_of_getElem? hd)).1
      have h130 := h.2.2.2.2.2.2.1 q d hd
      obtain ⟨hkd, zz, hz, hzle, hzev⟩ := hK d hd128
      have etk : ∀ Q2 : List Nat, ((Q ++ Q2).take (q + 1)).filter (dr S) = (Q.take q).filter (dr S) ++ (if dr S d = true then [d] else []) := fun Q2 => by
        rw [List.take_append_of_le_length (by omega), List.take_add_one, hd, List.filter_append]
        refine congrArg _ ?_
        by_cases c : dr S d = true
        · rw [if_pos c]
          exact List.filter_cons_of_pos c
        · rw [if_neg c]
          exact List.filter_cons_of_neg c
      have r0 : bX11_reach_49 n (fur + 1) (nI b) (nI Q.length) (nI q) J = bX11_reach_74 n (bX11_reach_49 n fur) am_fu (nI b) (nI Q.length) (nI q) (nI d) (nI zz) (nI 0) J := by
        conv => lhs; unfold bX11_reach_49
        dsimp only
        rw [if_neg (by rw [z_le (by omega) (by omega)]; omega), am_gd_of (by rw [z_inb (by omega)]; exact decide_eq_true (by omega)), z_clamp (by omega), h130, sv_ai hs hd128 (by omega), Option.bind_some, hz]
      obtain ⟨f, hf, hf1⟩ := fu_ex
      by_cases c : S (w_ib d) 0 = nI 2
      · have hdr : dr S d = true := decide_eq_true c
        obtain ⟨I1, J1, Q2, b1, s1, s2, s3, s4⟩ := wk_in (n := n) (z := zz) hA hE hd128 c hzle (zz / 2) 0 am_fu am_fu I J Q b (by omega) (by have := hzev c; omega) (by rw [hf]; omega) (by rw [hf]; omega) hs h
        obtain ⟨I', J', Q', b', t1, t2, t3, t4⟩ := ih (q + 1) fu fur I1 J1 (Q ++ Q2) b1 (by omega) (by rw [List.length_append]; omega) (by omega) (by omega) (sv_fw hs s4) s3
        refine ⟨I', J', Q', b', ?_, ?_, t3, s4.tr t4⟩
        · rw [etk, if_pos hdr, List.length_append, List.length_singleton] at t1
          have efl : Q.filter (dr S) = (Q.take q).filter (dr S) ++ d :: (Q.drop (q + 1)).filter (dr S) := by
            conv => lhs; rw [← List.take_append_drop q Q, List.filter_append]
            refine congrArg _ ?_
            have : Q.drop q = d :: Q.drop (q + 1) := by
              rw [List.drop_eq_getElem_cons hqlt]
              have := List.getElem?_eq_getElem hqlt
              rw [hd] at this
              rw [← Option.some.inj this]
            rw [this, List.filter_cons_of_pos hdr]
          have hi : ((Q.take q).filter (dr S)).length < (Q.filter (dr S)).length := by
            rw [efl, List.length_append, List.length_cons]
            omega
          have hfl : (Q.filter (dr S)).length ≤ Q.length := List.length_filter_le _ _
          have hg : (Q.filter (dr S))[((Q.take q).filter (dr S)).length]? = some d := by
            rw [efl, List.getElem?_append_right (Nat.le_refl _), Nat.sub_self]
            rfl
          have h25 := h.2.2.2.2.2.2.2.2 _ d hg
          have fe : gX2_followEntries n (nI d) I = some I1 := by
            rw [gX2_followEntries, bX2_followEntries_0, c_ib n d I hd128, Option.bind_some]
            dsimp only
            rw [sv_at hs (w_ib_lt hd128) (by omega), Option.bind_some]
            dsimp only
            rw [sv_at hs (w_ib_lt hd128) (by omega), Option.bind_some]
            dsimp only
            have e3 : (if nI 384 ≤ nI zz then nI 384 else nI zz) = nI zz := by
              by_cases w : zz = 384
              · rw [w, if_pos (by rw [z_le (by omega) (by omega)]; omega)]
              · rw [if_neg (by rw [z_le (by omega) (by omega)]; omega)]
            rw [hz, e3, s1]
          conv => lhs; unfold bX2_walk_47
          dsimp only
          rw [h.2.2.2.2.2.2.2.1, if_neg (by rw [z_le (by omega) (by omega)]; omega), if_neg (by rw [z_le (by omega) (by omega)]; omega), am_gd_of (by rw [z_inb (by omega)]; exact decide_eq_true (by omega)), z_clamp (by omega), h25, fe, Option.bind_some, nI_add]
          exact t1
        · rw [r0, s2, nI_add]
          exact t2
      · have hdr : ¬ dr S d = true := fun q => c (of_decide_eq_true q)
        obtain ⟨I', J', Q', b', t1, t2, t3, t4⟩ := ih (q + 1) (fu + 1) fur I J Q b (by omega) (by omega) (by omega) (by omega) hs h
        refine ⟨I', J', Q', b', ?_, ?_, t3, t4⟩
        · have := etk []
          rw [List.append_nil, if_neg hdr, List.append_nil] at this
          rw [this] at t1
          exact t1
        · rw [r0, hf]
          conv => lhs; unfold bX11_reach_74
          dsimp only
          rw [sv_ai hs hd128 (by omega), Option.bind_some]
          dsimp only
          rw [if_neg c, bX11_reach_195, nI_add]
          exact t2
/-- the class begins -/
theorem w_k10 : ∀ (m i fu : Nat) (I : am_I), i + m = 128 → m < fu → ∃ I', bX2_walk_10 n fu (nI i) I = (gX2_reach n (nI 0) (am_up (am_up I' 0 21 7 (nI 0)) 0 21 5 (nI 0))).bind (fun q3 => bX2_walk_47 n am_fu (nI 0) q3) ∧ (∀ a b, ¬ (a = 0 ∧ b = 24) → I' a b = I a b) ∧ ∀ k, I' 0 24 k = if i ≤ k ∧ k < 128 then nI 0 else I 0 24 k := by
  intro m
  induction m with
  | zero =>
    intro i fu I hi hfu
    obtain ⟨fu, rfl⟩ : ∃ f, fu = f + 1 := ⟨fu - 1, by omega⟩
    refine ⟨I, ?_, fun _ _ _ => rfl, fun k => by rw [if_neg (by omega)]⟩
    unfold bX2_walk_10
    dsimp only
    rw [if_pos (by rw [z_le (by omega) (by omega)]; omega), am_lt, am_lt]
  | succ m ih =>
    intro i fu I hi hfu
    obtain ⟨fu, rfl⟩ : ∃ f, fu = f + 1 := ⟨fu - 1, by omega⟩
    obtain ⟨I', h1, h2, h3⟩ := ih (i + 1) fu (am_up I 0 24 i (nI 0)) (by omega) (by omega)
    refine ⟨I', ?_, fun a b q => (h2 a b q).trans (z_upj _ _ _ _ _ _ _ q), fun k => ?_⟩
    · conv => lhs; unfold bX2_walk_10
      dsimp only
      rw [if_neg (by rw [z_le (by omega) (by omega)]; omega), am_gd_of (by rw [z_inb (by omega)]; exact decide_eq_true (by omega)), z_clamp (by omega), am_lt, nI_add]
      exact h1
    · rw [h3 k, z_upk]
      by_cases c : i + 1 ≤ k ∧ k < 128
      · rw [if_pos c, if_pos (by omega)]
      · rw [if_neg c]
        by_cases d : k = i
        · rw [if_pos d, if_pos (by omega)]
        · rw [if_neg d, if_neg (by omega)]
/-- the reference begins -/
theorem w_k2 : ∀ (m i fu : Nat) (J : am_I), i + m = 128 → m < fu → ∃ J', bX11_reach_2 n fu (nI i) J = bX11_reach_49 n am_fu (nI 0) (nI 1) (nI 0) (am_up (am_up J' 0 130 0 (nI 0)) 0 128 0 (nI 1)) ∧ (∀ a b, ¬ (a = 0 ∧ (b = 128 ∨ b = 129)) → J' a b = J a b) ∧ (∀ k, J' 0 128 k = if i ≤ k ∧ k < 128 then nI 0 else J 0 128 k) ∧ ∀ k, J' 0 129 k = if i ≤ k ∧ k < 128 then nI 0 else J 0 129 k := by
  intro m
  induction m with
  | zero =>
    intro i fu J hi hfu
    obtain ⟨fu, rfl⟩ : ∃ f, fu = f + 1 := ⟨fu - 1, by omega⟩
    refine ⟨J, ?_, fun _ _ _ => rfl, fun k => by rw [if_neg (by omega)], fun k => by rw [if_neg (by omega)]⟩
    unfold bX11_reach_2
    dsimp only
    rw [if_pos (by rw [z_le (by omega) (by omega)]; omega), am_gd_of (by decide), am_lt, am_gd_of (by decide), am_lt]
    rfl
  | succ m ih =>
    intro i fu J hi hfu
    obtain ⟨fu, rfl⟩ : ∃ f, fu = f + 1 := ⟨fu - 1, by omega⟩
    obtain ⟨J', h1, h2, h3, h4⟩ := ih (i + 1) fu (am_up (am_up J 0 128 i (nI 0)) 0 129 i (nI 0)) (by omega) (by omega)
    have ga : am_inb (nI i) 128 = true := by rw [z_inb (by omega)]; exact decide_eq_true (by omega)
    refine ⟨J', ?_, fun a b q => (h2 a b q).trans ((z_upj _ _ _ _ _ _ _ (by omega)).trans (z_upj _ _ _ _ _ _ _ (by omega))), fun k => ?_, fun k => ?_⟩
    · conv => lhs; unfold bX11_reach_2
      dsimp only
      rw [if_neg (by rw [z_le (by omega) (by omega)]; omega), am_gd_of ga, z_clamp (by omega), am_lt, am_gd_of ga, am_lt, nI_add]
      exact h1
    · rw [h3 k, z_upj _ _ _ _ _ _ _ (by omega), z_upk]
      by_cases c : i + 1 ≤ k ∧ k < 128
      · rw [if_pos c, if_pos (by omega)]
      · rw [if_neg c]
        by_cases d : k = i
        · rw [if_pos d, if_pos (by omega)]
        · rw [if_neg d, if_neg (by omega)]
    · rw [h4 k, z_upk, z_upj _ _ _ _ _ _ _ (by omega)]
      by_cases c : i + 1 ≤ k ∧ k < 128
      · rw [if_pos c, if_pos (by omega)]
      · rw [if_neg c]
        by_cases d : k = i
        · rw [if_pos d, if_pos (by omega)]
        · rw [if_neg d, if_neg (by omega)]
theorem up_cm {J : am_I} {j j' k k' : Nat} {v v' : Int32} (h : ¬ j = j') : am_up (am_up J 0 j k v) 0 j' k' v' = am_up (am_up J 0 j' k' v') 0 j k v := by
  funext a b c
  rw [z_up, z_up, z_up, z_up]
  by_cases h1 : a = 0 ∧ b = j ∧ c = k
  · rw [if_neg (show ¬ (a = 0 ∧ b = j' ∧ c = k') from fun q => h (h1.2.1.symm.trans q.2.1)), if_pos h1, if_pos h1]
  · rw [if_neg h1, if_neg h1]
/-- THE WALK from the root on, both sides -/
theorem wk_all (hx : x_wf S (fun _ => False)) (hs : SV S I J) : ∃ I' J' Q b, gX2_walk n I = some I' ∧ gX11_reach n J = some (nI b, J') ∧ WK S I' J' Q b ∧ FW I J I' J' := by
  obtain ⟨f, hf, hf1⟩ := fu_ex
  obtain ⟨I1, p1, p2, p3⟩ := w_k10 (n := n) 128 0 am_fu (am_upf I 0 23 (am_fil (I 0 23) 128 (nI 0))) (by omega) (by rw [hf]; omega)
  obtain ⟨J1, q1, q2, q3, q4⟩ := w_k2 (n := n) 128 0 am_fu J (by omega) (by rw [hf]; omega)
  have o23 : ∀ k, am_upf I 0 23 (am_fil (I 0 23) 128 (nI 0)) 0 23 k = if k < 128 then nI 0 else I 0 23 k := fun k => by
    unfold am_upf am_fil
    rw [if_pos ⟨rfl, rfl⟩]
  have oo : ∀ a b, ¬ (a = 0 ∧ b = 23) → am_upf I 0 23 (am_fil (I 0 23) 128 (nI 0)) a b = I a b := fun a b q => if_neg q
  have f1 : FW I J (am_up (am_up I1 0 21 7 (nI 0)) 0 21 5 (nI 0)) J1 := ⟨fun a b q => by rw [z_upj _ _ _ _ _ _ _ (by omega), z_upj _ _ _ _ _ _ _ (by omega), p2 a b (by omega), oo a b (by omega)], fun a b q => q2 a b (by omega)⟩
  have hs1 := sv_fw hs f1
  have e24 : ∀ k, k < 128 → am_up (am_up I1 0 21 7 (nI 0)) 0 21 5 (nI 0) 0 24 k = nI 0 := fun k hk => by
    rw [z_upj _ _ _ _ _ _ _ (by omega), z_upj _ _ _ _ _ _ _ (by omega), p3 k, if_pos ⟨by omega, hk⟩]
  have e23 : ∀ k, k < 128 → am_up (am_up I1 0 21 7 (nI 0)) 0 21 5 (nI 0) 0 23 k = nI 0 := fun k hk => by
    rw [z_upj _ _ _ _ _ _ _ (by omega), z_upj _ _ _ _ _ _ _ (by omega), p2 0 23 (by omega), o23, if_pos hk]
  have e128 : ∀ k, k < 128 → J1 0 128 k = nI 0 := fun k hk => by rw [q3 k, if_pos ⟨by omega, hk⟩]
  have e129 : ∀ k, k < 128 → J1 0 129 k = nI 0 := fun k hk => by rw [q4 k, if_pos ⟨by omega, hk⟩]
  have h0 : WK S (am_up (am_up I1 0 21 7 (nI 0)) 0 21 5 (nI 0)) J1 [] 0 := by
    refine ⟨by omega, ?_, fun t ht => ?_, fun t ht => ?_, List.nodup_nil, fun t ht => absurd ht List.not_mem_nil, fun k t hk => by simp at hk, ?_, fun k t hk => by simp at hk⟩
    · rw [z_upk, if_neg (by omega), z_upk, if_pos rfl]
    · rw [e23 t ht, e129 t ht]
      exact ⟨rfl, fun _ => rfl⟩
    · rw [e24 t ht, e128 t ht]
      exact ⟨rfl, Or.inl rfl⟩
    · rw [z_upk, if_pos rfl]
      rfl
  obtain ⟨I2, u1, u2, u3, u4⟩ := wk_rc (n := n) (t := 0) hs1 h0 (by omega) (e128 0 (by omega))
  obtain ⟨I', J', Q, b, v1, v2, v3, v4⟩ := wk_out (n := n) hx 128 0 am_fu am_fu I2 _ ([] ++ [0]) 0 (by omega) (by omega) (by rw [hf]; omega) (by rw [hf]; omega) (sv_fw hs1 u4) u2
  refine ⟨I', J', Q, b, ?_, ?_, v3, f1.tr (u4.tr v4)⟩
  · rw [gX2_walk, bX2_walk_0, am_lt, p1, u1, Option.bind_some]
    exact v1
  · rw [gX11_reach, bX11_reach_0, q1, up_cm (by omega)]
    exact v2
end WALK2
