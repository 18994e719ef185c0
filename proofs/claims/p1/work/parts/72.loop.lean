/-- all steps of the law keep what they must -/
def l_all (G G' : am_G) (Inv : Nat → am_I → am_I → Prop) : Prop := (∀ (k : Nat) (I J : am_I), Inv (k + 1) I J → Inv k I J) ∧ ls_call G G' Inv ∧ ls_delay G G' Inv ∧ ls_tick G G' Inv ∧ ls_crash G G' Inv ∧ ls_recover G G' Inv ∧ ls_start G G' Inv ∧ ls_result G G' Inv ∧ ls_history G G' Inv ∧ ls_word G G' Inv ∧ ls_cached G G' Inv ∧ ls_lock G G' Inv ∧ ls_row G G' Inv ∧ ls_message G G' Inv ∧ ls_node G G' Inv ∧ ls_about G G' Inv
theorem l_and15 (x : Int32) : ∃ m : Nat, m < 16 ∧ x &&& nI 15 = nI m := by
  refine ⟨(x.toBitVec &&& 15#32).toNat, ?_, ?_⟩
  · rw [BitVec.toNat_and]
    exact Nat.lt_of_le_of_lt Nat.and_le_right (by decide)
  · apply Int32.toBitVec_inj.mp
    show x.toBitVec &&& 15#32 = BitVec.ofNat 32 (x.toBitVec &&& 15#32).toNat
    rw [BitVec.ofNat_toNat, BitVec.setWidth_eq]
theorem l_gt {i L : Nat} (hi : i < 2 ^ 20) (hL : L < 2 ^ 20) : (nI L - nI 7 < nI i ↔ L < i + 7) := by
  by_cases h : 7 ≤ L
  · rw [pk_sub h, nI_ltI (by omega) (by omega)]
    omega
  · have hm : (nI L - nI 7).toInt < 0 := by
      have : L = 0 ∨ L = 1 ∨ L = 2 ∨ L = 3 ∨ L = 4 ∨ L = 5 ∨ L = 6 := by omega
      rcases this with rfl | rfl | rfl | rfl | rfl | rfl | rfl <;> decide
    rw [Int32.lt_iff_toInt_lt, nI_toInt (n := i) (by omega)]
    omega
theorem l_loop {B : k_B} {G G' : am_G} (hg : k_gb G B) (hg' : k_gb G' B) (hG : am_ok G) (hG' : am_okM G') {Inv : Nat → am_I → am_I → Prop} (hs : l_all G G' Inv) {b L qo : Nat} {xs : Nat → Int32} (hL : L ≤ 449) : ∀ (k i nc ns : Nat) (I J : am_I) (v : Nat → Int64) (a5 a6 : Option am_V), L < i + 7 * (k + 1) → i ≤ L + 7 → nc + k ≤ 600002 → ns + 6 * k ≤ 7302198 → Inv k I J → am_N B 16 mL_law 600002 7302198 (n_El B b L xs) 33 (l_lo b (G.2.2.1 0 0) (G'.2.2.1 0 60) qo i a5 a6) [] (l_ws B G G' qo I J v) nc ns := by
  intro k
  induction k with
  | zero =>
    intro i nc ns I J v a5 a6 h1 h2 h3 h4 hI
    refine n_iload (k := 4) (x := nI i) dL_law_33 rfl ?_
    refine n_aload_n (k := 0) (x := b) dL_law_35 rfl ?_
    refine l_slen dL_law_36 ?_
    refine n_bipush (v := nI 7) dL_law_37 (by decide) ?_
    refine n_isub dL_law_39 ?_
    refine n_icmp_gt (tgt := 1128) dL_law_40 rfl (fun _ => ?_) (fun h => absurd ((l_gt (by omega) (by omega)).mpr (by omega)) h)
    refine n_iconst (v := 1) dL_law_1128 rfl ?_
    exact l_ret rfl dL_law_1129 (by omega) (by omega)
  | succ k ih =>
    intro i nc ns I J v a5 a6 h1 h2 h3 h4 hI
    refine n_iload (k := 4) (x := nI i) dL_law_33 rfl ?_
    refine n_aload_n (k := 0) (x := b) dL_law_35 rfl ?_
    refine l_slen dL_law_36 ?_
    refine n_bipush (v := nI 7) dL_law_37 (by decide) ?_
    refine n_isub dL_law_39 ?_
    refine n_icmp_gt (tgt := 1128) dL_law_40 rfl (fun _ => ?_) (fun h => ?_)
    · skip
      refine n_iconst (v := 1) dL_law_1128 rfl ?_
      exact l_ret rfl dL_law_1129 (by omega) (by omega)
    have h7 : ¬ L < i + 7 := mt (l_gt (by omega) (by omega)).mpr h
    have h31 : L < 2 ^ 31 := by omega
    have nxt : ∀ (I' J' : am_I) (v' : Nat → Int64) (b5 b6 : Option am_V), Inv k I' J' → am_N B 16 mL_law 600002 7302198 (n_El B b L xs) 1122 (l_lo b (G.2.2.1 0 0) (G'.2.2.1 0 60) qo i b5 b6) [] (l_ws B G G' qo I' J' v') (nc + 1) (ns + 6) := by
      intro I' J' v' b5 b6 hI'
      refine n_iinc (k := 4) (x := nI i) (v := nI (i + 7)) dL_law_1122 rfl (nI_add _ _) ?_
      refine n_goto (tgt := 33) dL_law_1125 rfl ?_
      exact ih (i + 7) (nc + 1) (ns + 6) I' J' v' b5 b6 (by omega) (by omega) (by omega) (by omega) hI'
    refine n_aload_n (k := 0) (x := b) dL_law_43 rfl ?_
    refine n_iload (k := 4) (x := nI i) dL_law_44 rfl ?_
    refine l_sld dL_law_46 (by omega) h31 ?_
    refine n_bipush (v := nI 15) dL_law_47 (by decide) ?_
    refine n_iand dL_law_49 ?_
    obtain ⟨m, hm, he⟩ := l_and15 (xs i)
    rw [he]
    obtain ⟨hmono, s0, s1, s2, s3, s4, s5, s6, s7, s8, s9, s10, s11, s12, s13, s14⟩ := id hs
    match m, hm with
    | 0, _ =>
      refine n_tabIn (off := 74) (tgt := 124) dL_law_50 (by decide) (by decide) rfl rfl ?_
      exact lc_call hg hg' hG hG' s0 hI (by omega) h31 (by omega) (by omega) nxt
    | 1, _ =>
      refine n_tabIn (off := 192) (tgt := 242) dL_law_50 (by decide) (by decide) rfl rfl ?_
      exact lc_delay hg hg' hG hG' s1 hI (by omega) h31 (by omega) (by omega) nxt
    | 2, _ =>
      refine n_tabIn (off := 252) (tgt := 302) dL_law_50 (by decide) (by decide) rfl rfl ?_
      exact lc_tick hg hg' hG hG' s2 hI (by omega) h31 (by omega) (by omega) nxt
    | 3, _ =>
      refine n_tabIn (off := 308) (tgt := 358) dL_law_50 (by decide) (by decide) rfl rfl ?_
      exact lc_crash hg hg' hG hG' s3 hI (by omega) h31 (by omega) (by omega) nxt
    | 4, _ =>
      refine n_tabIn (off := 356) (tgt := 406) dL_law_50 (by decide) (by decide) rfl rfl ?_
      exact lc_recover hg hg' hG hG' s4 hI (by omega) h31 (by omega) (by omega) nxt
    | 5, _ =>
      refine n_tabIn (off := 412) (tgt := 462) dL_law_50 (by decide) (by decide) rfl rfl ?_
      exact lc_start hg hg' hG hG' s5 hI (by omega) h31 (by omega) (by omega) nxt
    | 6, _ =>
      refine n_tabIn (off := 448) (tgt := 498) dL_law_50 (by decide) (by decide) rfl rfl ?_
      exact lc_result hg hg' hG hG' s6 hI (by omega) h31 (by omega) (by omega) nxt
    | 7, _ =>
      refine n_tabIn (off := 516) (tgt := 566) dL_law_50 (by decide) (by decide) rfl rfl ?_
      exact lc_history hg hg' hG hG' s7 hI (by omega) h31 (by omega) (by omega) nxt
    | 8, _ =>
      refine n_tabIn (off := 584) (tgt := 634) dL_law_50 (by decide) (by decide) rfl rfl ?_
      exact lc_word hg hg' hG hG' s8 hI (by omega) h31 (by omega) (by omega) nxt
    | 9, _ =>
      refine n_tabIn (off := 652) (tgt := 702) dL_law_50 (by decide) (by decide) rfl rfl ?_
      exact lc_cached hg hg' hG hG' s9 hI (by omega) h31 (by omega) (by omega) nxt
    | 10, _ =>
      refine n_tabIn (off := 732) (tgt := 782) dL_law_50 (by decide) (by decide) rfl rfl ?_
      exact lc_lock hg hg' hG hG' s10 hI (by omega) h31 (by omega) (by omega) nxt
    | 11, _ =>
      refine n_tabIn (off := 812) (tgt := 862) dL_law_50 (by decide) (by decide) rfl rfl ?_
      exact lc_row hg hg' hG hG' s11 hI (by omega) h31 (by omega) (by omega) nxt
    | 12, _ =>
      refine n_tabIn (off := 880) (tgt := 930) dL_law_50 (by decide) (by decide) rfl rfl ?_
      exact lc_message hg hg' hG hG' s12 hI (by omega) h31 (by omega) (by omega) nxt
    | 13, _ =>
      refine n_tabIn (off := 948) (tgt := 998) dL_law_50 (by decide) (by decide) rfl rfl ?_
      exact lc_node hg hg' hG hG' s13 hI (by omega) h31 (by omega) (by omega) nxt
    | 14, _ =>
      refine n_tabIn (off := 1016) (tgt := 1066) dL_law_50 (by decide) (by decide) rfl rfl ?_
      exact lc_about hg hg' hG hG' s14 hI (by omega) h31 (by omega) (by omega) nxt
    | 15, _ =>
      refine n_tabOut (tgt := 1122) dL_law_50 (by decide) rfl ?_
      exact n_widen (nc' := nc + 1) (ns' := ns + 6) (by omega) (by omega) (nxt I J v a5 a6 (hmono k I J hI))
    | m + 16, h => exact absurd h (by omega)
abbrev l_f10 : List Value := [.null, .null, .null, .null, .null, .null, .null, .int 0, .int 0, .int 0]
theorem nkL_10 : k_nk RL 8 10 10 l_f10 := ⟨RX10, TX10, tyX10, rfl, ux_10, tyX10_ok, am_t1 24 rfl rfl, am_t1 25 rfl rfl, am_t1 1 rfl rfl, fun j hj => by
  rcases (show j = 0 ∨ j = 1 ∨ j = 2 ∨ j = 3 ∨ j = 4 ∨ j = 5 ∨ j = 6 ∨ j = 7 ∨ j = 8 ∨ j = 9 by omega) with rfl | rfl | rfl | rfl | rfl | rfl | rfl | rfl | rfl | rfl
  all_goals rfl⟩
abbrev l_f11 : List Value := [.int 0, .int 0, .int 0, .null, .null, .null, .null, .null, .null, .null, .null, .null, .null, .null, .null, .null, .null, .null, .null, .null, .null, .null, .null, .null, .null, .null, .null, .null, .null, .null, .null, .null, .null, .null, .null, .null, .null, .null, .int 0, .int 0, .null, .null, .null, .null, .null, .null, .null, .null, .int 0, .int 0, .int 0, .int 0, .int 0, .int 0, .int 0, .int 0, .int 0, .null, .null, .null, .null, .int 0, .null, .int 0, .null, .null, .null, .null, .null, .null, .null]
theorem nkL_11 : k_nk RL 77 11 71 l_f11 := ⟨RX11, TX11, tyX11, rfl, ux_11, tyX11_ok, am_t6 44 rfl rfl, am_t6 45 rfl rfl, am_t1 13 rfl rfl, fun j hj => by
  rcases (show j = 0 ∨ j = 1 ∨ j = 2 ∨ j = 3 ∨ j = 4 ∨ j = 5 ∨ j = 6 ∨ j = 7 ∨ j = 8 ∨ j = 9 ∨ j = 10 ∨ j = 11 ∨ j = 12 ∨ j = 13 ∨ j = 14 ∨ j = 15 ∨ j = 16 ∨ j = 17 ∨ j = 18 ∨ j = 19 ∨ j = 20 ∨ j = 21 ∨ j = 22 ∨ j = 23 ∨ j = 24 ∨ j = 25 ∨ j = 26 ∨ j = 27 ∨ j = 28 ∨ j = 29 ∨ j = 30 ∨ j = 31 ∨ j = 32 ∨ j = 33 ∨ j = 34 ∨ j = 35 ∨ j = 36 ∨ j = 37 ∨ j = 38 ∨ j = 39 ∨ j = 40 ∨ j = 41 ∨ j = 42 ∨ j = 43 ∨ j = 44 ∨ j = 45 ∨ j = 46 ∨ j = 47 ∨ j = 48 ∨ j = 49 ∨ j = 50 ∨ j = 51 ∨ j = 52 ∨ j = 53 ∨ j = 54 ∨ j = 55 ∨ j = 56 ∨ j = 57 ∨ j = 58 ∨ j = 59 ∨ j = 60 ∨ j = 61 ∨ j = 62 ∨ j = 63 ∨ j = 64 ∨ j = 65 ∨ j = 66 ∨ j = 67 ∨ j = 68 ∨ j = 69 ∨ j = 70 by omega) with rfl | rfl | rfl | rfl | rfl | rfl | rfl | rfl | rfl | rfl | rfl | rfl | rfl | rfl | rfl | rfl | rfl | rfl | rfl | rfl | rfl | rfl | rfl | rfl | rfl | rfl | rfl | rfl | rfl | rfl | rfl | rfl | rfl | rfl | rfl | rfl | rfl | rfl | rfl | rfl | rfl | rfl | rfl | rfl | rfl | rfl | rfl | rfl | rfl | rfl | rfl | rfl | rfl | rfl | rfl | rfl | rfl | rfl | rfl | rfl | rfl | rfl | rfl | rfl | rfl | rfl | rfl | rfl | rfl | rfl | rfl
  all_goals rfl⟩
theorem ml_Li10 : Cond.methodLink RL 75 yX10_init ∈ am_T := am_t1 26 rfl rfl
theorem ml_Li11 : Cond.methodLink RL 79 yX11_init ∈ am_T := am_t6 46 rfl rfl
/-- the script's first int, or 0 -/
def l_c0 (L : Nat) (xs : Nat → Int32) : Int32 := if 0 < L then xs 0 else 0
theorem c_cell {l : Launch} {d b L : Nat} {xs : Nat → Int32} (hL : L < 2 ^ 31) : Met l yL_cell (am_w mL_cell) (k_rm d 0 0) (va_Pc [.ref b, .int 0] (fun U => va_X b L xs U U.heap ∧ b < U.heap.size)) (va_Qi (fun r (_ : Unit) => r = l_c0 L xs) (fun _ _ => True) (fun _ => False)) 0 0 (fun _ => False) := by
  refine am_ofW (cc := cL_cell) (maxL := 2) (ret := some .int) (by decide) rfl ?_
  intro p e s m args below meth c s₁ B hml hv
  obtain ⟨rfl, hX, hbl⟩ := hv
  have hx := B.exec
  have hb := B.bytes
  have hr := B.returns
  have hlocks := B.notSynchronized
  have hl := lv_entry ([.ref b, .int 0] : List Value) (n := 2) (Nat.le_of_ble_eq_true rfl)
  rw [lg_entry_eq]
  generalize (lg_sl ([.ref b, .int 0]) ++ List.replicate (2 - (lg_sl ([.ref b, .int 0])).length) Slot.unset).toArray = ls at hl ⊢
  have hl : lv_has ls 2 [(0, .ref b), (1, .int 0)] := hl
  have hS : va_S (fun _ : Nat => False) s.heap s.heap [] := va_S.rf
  refine lv_iload_n hx hb dL_cell_0 rfl (lv_at hl 1 rfl) ?_
  refine lv_aload_n hx hb dL_cell_1 rfl (lv_at hl 0 rfl) ?_
  refine va_slen hx hb hX hbl (fun h => h) hS dL_cell_2 ?_
  refine lv_icmp_ge (tgt := 12) hx hb dL_cell_3 rfl (fun h => ?_) (fun h => ?_)
  · refine lv_iconst (v := 0) hx hb dL_cell_12 rfl ?_
    have h0 : ¬ 0 < L := fun h9 => by
      have h8 : nI L ≤ nI 0 := h
      rw [nI_leI hL (by decide)] at h8
      omega
    exact W.iret hx hb hr (fun t ht hW => ⟨⟨_, (), rfl, by simp [l_c0, h0], trivial⟩, hS.F ht⟩) (fun z hz => by cases hz) dL_cell_13 hlocks
  · have h0 : 0 < L := by
      by_cases h9 : 0 < L
      · exact h9
      · exfalso
        apply h
        show nI L ≤ nI 0
        rw [nI_leI hL (by decide)]
        omega
    refine lv_aload_n hx hb dL_cell_6 rfl (lv_at hl 0 rfl) ?_
    refine lv_iload_n hx hb dL_cell_7 rfl (lv_at hl 1 rfl) ?_
    refine va_sld hx hb hX hbl (fun h => h) hS (i := 0) (vp_in_nI (n := 0) h0 hL) dL_cell_8 ?_
    refine lv_goto (tgt := 13) hx hb dL_cell_9 rfl ?_
    exact W.iret hx hb hr (fun t ht hW => ⟨⟨_, (), rfl, by simp [l_c0, h0], trivial⟩, hS.F ht⟩) (fun z hz => by cases hz) dL_cell_13 hlocks
theorem l_cell {B : k_B} {d : Nat} {M : am_M} {mc ms : Nat} {pc : Nat} {lo : List (Option am_V)} {st : List Value} {ws : va_W} {nc ns : Nat} {b L : Nat} {xs : Nat → Int32} (hL31 : L < 2 ^ 31) (hM : M.1.cls = RL) (hd : decode M.2.1 pc = .ok (.invokestatic 69, 3)) (hst : st.length ≤ 4) (hc : nc ≤ mc) (hs : ns ≤ ms) (hk : am_N B (d + 1) M mc ms (n_El B b L xs) (pc + 3) lo (.int (l_c0 L xs) :: st) ws nc ns) : am_N B (d + 1) M mc ms (n_El B b L xs) pc lo (.int 0 :: .ref b :: st) ws nc ns := by
  intro p e R s m args below meth c A Z H locs ls X hH hL
  obtain ⟨hx, hb, hr, hml, hown, hts, hlocks, hnm⟩ := id X.1
  obtain ⟨-, ⟨e1, e2, e3⟩, -⟩ := id X.2.2.2
  obtain ⟨h1, h2, h3, h4⟩ := id lkL_cell
  have hrun := va_runS (e := e) (below := below) (meth := meth) (H := H) (locs := locs) (cells := nc) (slots := ns) (g := F0 m pc ls (.int 0 :: .ref b :: st)) (As := [.ref b, .int 0]) (rest := st) (index := 69) (n := 2) (bytes := mL_cell.2.1) (maxL := 2) (ret := some .int) ⟨hx, hb, hml, hown, hts⟩ (c_cell (l := B.1.1) (d := d) (b := b) (xs := xs) hL31)
    ⟨callB_of 2 hts (k_ws' lkL_cell) rfl rfl rfl (hts _ h2) (hts _ (by rw [hM]; exact ml_L_69)) h3 ⟨by show d + 1 ≤ R.frames; exact X.2.2.1.1, by show 8 + (2 + 11) + 41 * d ≤ R.locals; have := X.2.2.1.2.1; omega⟩, hts _ isL_cell⟩
    ⟨fun a U g mk q => by
      obtain ⟨q0, ⟨scr, q1, q2, q3⟩, q4⟩ := q
      exact ⟨q0, ⟨scr, q1, State.isArrayOf_alike (Vm.Alike.refl U.vm) q2, q3⟩, q4⟩,
     fun U hU hW => ⟨rfl, by
      obtain ⟨scr, q1, q2, q3⟩ := e1
      refine ⟨⟨scr, ?_, State.isArrayOf_alike hW.alike q2, q3⟩, ?_⟩
      · rw [hU, hH.2.2.2.1 b e2 e3]; exact q1
      · rw [hU]; exact Nat.lt_of_lt_of_le e2 hH.2.2.1⟩⟩ rfl rfl hL.1 rfl (lv_room (by have := k_cats st (fun v _ => k_cat2 v); omega)) hd ⟨by have := X.2.2.1.2.2.1; omega, by have := X.2.2.1.2.2.2; omega⟩
  refine va_calli hrun hH.2.2 (fun q _ h => h.elim) (fun q h => h.elim) (fun r u t H1 locs1 ht hvm hw hB hz hk1 hS => ?_)
  subst hw
  refine hk p e R s m args below meth c A Z H1 locs1 ls X ⟨?_, hH.2.1, hS⟩ hL
  refine hH.1.kept (fun k q hq => hk1 q.1 ?_ (fun h => h))
  exact (hH.1 k q hq).lt
theorem l_entry {B : k_B} {Inv : Nat → Nat → am_I → am_I → Prop} {b L n : Nat} {xs : Nat → Int32} (hL : L ≤ 449) (hn : am_cl (l_c0 L xs) = n) (K : Nat) (hK : L < 1 + 7 * (K + 1)) (hK6 : K ≤ 1000) (h0 : Inv n K (am_fr n) (am_fr n)) (hs : ∀ (G G' : am_G), k_gb G B → k_gb G' B → am_ok G → am_okM G' → G.2.2.2.1 = n → G'.2.2.2.1 = n → l_all G G' (Inv n)) : am_N B 16 mL_law 600002 7302198 (n_El B b L xs) 0 [some (.inr (b, 0)), none, none, none, none, none, none] [] [] 0 0 := by
  have hb := am_cl_bd (l_c0 L xs)
  rw [hn] at hb
  have h31 : L < 2 ^ 31 := by omega
  have e1 : kc_10 n = 2 + 16 * n + 24 := rfl
  have e2 : ks_10 n = 10240 + n + 12022 * n + 10197 := rfl
  refine n_new (fs := l_f10) dL_law_0 nkL_10 (by omega) (by omega) (fun q => ?_)
  refine n_dup dL_law_3 rfl ?_
  refine n_aload_n (k := 0) (x := b) dL_law_4 rfl ?_
  refine n_iconst (v := 0) dL_law_5 rfl ?_
  refine l_cell h31 rfl dL_law_6 (Nat.le_of_ble_eq_true rfl) (by omega) (by omega) ?_
  refine n_ctor (o := q) (as := [.inl (l_c0 L xs)]) (rest := [.ref q]) (w1 := []) (w2 := [(q, .inr (10, l_f10))]) dL_law_9 lkX10_init ml_Li10 inX10_init rfl rfl rfl (Nat.le_of_ble_eq_true rfl) rfl rfl (by omega) (by omega) (ki_10 (d := 12) _ hn) ?_
  rintro _ ⟨a, rfl, rfl⟩
  refine n_to (ws' := am_ws (k_Gx B n a) (am_fr n)) k_obj10 ?_
  refine n_astore_n (k := 1) dL_law_12 (by decide) ?_
  refine n_new (fs := l_f11) dL_law_13 nkL_11 (by omega) (by omega) (fun q2 => ?_)
  refine n_dup dL_law_16 rfl ?_
  refine n_aload_n (k := 0) (x := b) dL_law_17 rfl ?_
  refine n_iconst (v := 0) dL_law_18 rfl ?_
  refine l_cell h31 rfl dL_law_19 (Nat.le_of_ble_eq_true rfl) (by omega) (by omega) ?_
  refine n_ctor (o := q2) (as := [.inl (l_c0 L xs)]) (rest := [.ref q2]) (w1 := am_ws (k_Gx B n a) (am_fr n)) (w2 := [(q2, .inr (11, l_f11))]) dL_law_22 lkX11_init ml_Li11 inX11_init rfl rfl rfl (Nat.le_of_ble_eq_true rfl) rfl rfl (by omega) (by omega) (ki_11 (d := 13) _ hn) ?_
  rintro _ ⟨a2, rfl, rfl⟩
  refine n_to (ws' := am_ws (k_Gx B n a) (am_fr n) ++ am_ws (k_Gm B n a2) (am_fr n)) ((k_eq.rf _).app k_obj11) ?_
  refine n_astore_n (k := 2) dL_law_25 (by decide) ?_
  refine n_iconst (v := 1) dL_law_26 rfl ?_
  refine n_newL (N' := 1) dL_law_27 ar_L (by decide) (by decide) (by decide) (by omega) (by omega) (fun qo => ?_)
  refine n_astore_n (k := 3) dL_law_29 (by decide) ?_
  refine n_iconst (v := nI 1) dL_law_30 rfl ?_
  refine n_istore (k := 4) dL_law_31 (by decide) ?_
  refine n_perm (ws' := l_ws B (k_Gx B n a) (k_Gm B n a2) qo (am_fr n) (am_fr n) (fun _ => 0)) ?_ ?_
  · show ((am_ws (k_Gx B n a) (am_fr n) ++ am_ws (k_Gm B n a2) (am_fr n)) ++ _).Perm _
    unfold l_ws
    rw [List.append_assoc]
    refine List.Perm.trans ?_ (List.perm_append_comm_assoc _ _ _)
    exact List.Perm.refl _
  · exact l_loop (G := k_Gx B n a) (G' := k_Gm B n a2) ⟨rfl, rfl⟩ ⟨rfl, rfl⟩ (k_okx hb.1 hb.2) (k_okm hb.1 hb.2) (hs _ _ ⟨rfl, rfl⟩ ⟨rfl, rfl⟩ (k_okx hb.1 hb.2) (k_okm hb.1 hb.2) rfl rfl) hL K 1 _ _ _ _ _ _ _ hK (by omega) (by omega) (by omega) h0
