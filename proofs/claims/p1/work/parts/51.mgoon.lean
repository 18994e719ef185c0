theorem am_nn1 {t : Nat} (h : t < 2 ^ 31) : ¬ nI t = (-1 : Int32) := fun z => by
  have h1 := congrArg Int32.toInt z
  rw [nI_toInt h, show (-1 : Int32).toInt = -1 by decide] at h1
  omega
theorem c_Munpin0 {G : am_G} (hG : am_okM G) {d : Nat} {i : Nat} (hi : i < G.2.2.2.1) {I : am_I} (hpz : ∀ k, k < 544 → I 0 79 k = nI 0)  : am_C G (d + 1) mX11_unpin [.inr (0, 60), .inl (nI i)] I (am_E none I) := by
  have hn4 := hG.hi
  have hn2 := hG.lo
  have L : ∀ (m r : Nat) (s3 s4 : Option am_V), r + m = 136 → am_J G (d + 1) mX11_unpin am_no (am_E none I) 2 [some (.inr (0, 60)), some (.inl (nI i)), some (.inl (nI r)), s3, s4] [] (I) := by
    intro m
    induction m with
    | zero =>
      intro r s3 s4 ha
      obtain rfl : r = 136 := by omega
      refine am_iload_n dX11_unpin_2 rfl ?_
      refine am_sipush (v := nI 136) dX11_unpin_3 (by decide) ?_
      refine am_icmp_ge (tgt := 57) dX11_unpin_6 (by decide) (fun _ => ?_) (fun h => absurd ((nI_leI (a := 136) (b := 136) (by omega) (by omega)).mpr (by omega)) h)
      refine am_vret dX11_unpin_57 rfl ?_
      exact ⟨rfl, rfl⟩
    | succ m ih =>
      intro r s3 s4 ha
      refine am_iload_n dX11_unpin_2 rfl ?_
      refine am_sipush (v := nI 136) dX11_unpin_3 (by decide) ?_
      refine am_icmp_ge (tgt := 57) dX11_unpin_6 (by decide) (fun h => absurd ((nI_leI (a := 136) (b := r) (by omega) (by omega)).mp h) (by omega)) (fun _ => ?_)
      refine am_iload_n dX11_unpin_9 rfl ?_
      refine am_iload_n dX11_unpin_10 rfl ?_
      refine am_callSx (as := [.inl (nI i), .inl (nI r)]) (rest := []) dX11_unpin_11 lkX11_at ml_X11_208 isX11_at rfl (Nat.le_of_ble_eq_true rfl) rfl (c_Mat hG.nd (g := i) (r := r) (by omega) (by omega) I) ?_
      refine am_istore_n dX11_unpin_14 (by decide) ?_
      refine am_aload_n dX11_unpin_15 rfl ?_
      refine am_get (v := .inr (0, 79)) dX11_unpin_16 fl_11_57 (hG.m0 (by decide)) rfl ?_
      refine am_iload_n dX11_unpin_19 rfl ?_
      refine am_zald (a := 136 * i + r) dX11_unpin_20 (hG.m0 (by decide)) rfl rfl (show 136 * i + r < 544 from (by omega)) (show 544 < 2 ^ 31 by decide) ?_
      refine am_top (hpz _ (by omega)) ?_
      refine am_istore dX11_unpin_21 (by decide) ?_
      refine am_aload_n dX11_unpin_23 rfl ?_
      refine am_get (v := .inr (0, 79)) dX11_unpin_24 fl_11_57 (hG.m0 (by decide)) rfl ?_
      refine am_iload_n dX11_unpin_27 rfl ?_
      refine am_iconst (v := nI 0) dX11_unpin_28 (by decide) ?_
      refine am_zast (a := 136 * i + r) dX11_unpin_29 (hG.m0 (by decide)) rfl (by decide) rfl (show 136 * i + r < 544 from (by omega)) (show 544 < 2 ^ 31 by decide) ?_
      rw [am_up_id (hpz _ (by omega))]
      refine am_iload dX11_unpin_30 rfl ?_
      refine am_if_eq (tgt := 51) dX11_unpin_32 (by decide) (fun _ => ?_) (fun h => absurd h (by decide))
      refine am_iinc (v := nI (r + 1)) dX11_unpin_51 rfl (nI_add _ _) ?_
      refine am_goto (tgt := 2) dX11_unpin_54 (by decide) ?_
      exact ih (r + 1) _ _ (by omega)
  refine am_of (by decide +kernel) hG.nd (Nat.le_of_ble_eq_true rfl) ?_
  refine am_iconst (v := nI 0) dX11_unpin_0 (by decide) ?_
  refine am_istore_n dX11_unpin_1 (by decide) ?_
  exact L 136 0 _ _ (by omega)
theorem c_MpinAll0 {G : am_G} (hG : am_okM G) {d : Nat} {i : Nat} (hi : i < G.2.2.2.1) {I : am_I} (hlz : ∀ k, k < 544 → I 0 81 k = nI 0)  : am_C G (d + 1) mX11_pinAll [.inr (0, 60), .inl (nI i)] I (am_E (some (nI 1)) I) := by
  have hn4 := hG.hi
  have hn2 := hG.lo
  have L : ∀ (m r : Nat) (s3 : Option am_V), r + m = 136 → am_J G (d + 1) mX11_pinAll am_no (am_E (some (nI 1)) I) 2 [some (.inr (0, 60)), some (.inl (nI i)), some (.inl (nI r)), s3] [] (I) := by
    intro m
    induction m with
    | zero =>
      intro r s3 ha
      obtain rfl : r = 136 := by omega
      refine am_iload_n dX11_pinAll_2 rfl ?_
      refine am_sipush (v := nI 136) dX11_pinAll_3 (by decide) ?_
      refine am_icmp_ge (tgt := 125) dX11_pinAll_6 (by decide) (fun _ => ?_) (fun h => absurd ((nI_leI (a := 136) (b := 136) (by omega) (by omega)).mpr (by omega)) h)
      refine am_iconst (v := nI 1) dX11_pinAll_125 (by decide) ?_
      refine am_iret dX11_pinAll_126 rfl (am_nz (by decide)).1 ?_
      exact ⟨rfl, rfl⟩
    | succ m ih =>
      intro r s3 ha
      refine am_iload_n dX11_pinAll_2 rfl ?_
      refine am_sipush (v := nI 136) dX11_pinAll_3 (by decide) ?_
      refine am_icmp_ge (tgt := 125) dX11_pinAll_6 (by decide) (fun h => absurd ((nI_leI (a := 136) (b := r) (by omega) (by omega)).mp h) (by omega)) (fun _ => ?_)
      refine am_iload_n dX11_pinAll_9 rfl ?_
      refine am_iload_n dX11_pinAll_10 rfl ?_
      refine am_callSx (as := [.inl (nI i), .inl (nI r)]) (rest := []) dX11_pinAll_11 lkX11_at ml_X11_208 isX11_at rfl (Nat.le_of_ble_eq_true rfl) rfl (c_Mat hG.nd (g := i) (r := r) (by omega) (by omega) I) ?_
      refine am_istore_n dX11_pinAll_14 (by decide) ?_
      refine am_aload_n dX11_pinAll_15 rfl ?_
      refine am_get (v := .inr (0, 81)) dX11_pinAll_16 fl_11_63 (hG.m0 (by decide)) rfl ?_
      refine am_iload_n dX11_pinAll_19 rfl ?_
      refine am_iald (a := 136 * i + r) dX11_pinAll_20 (hG.m0 (by decide)) rfl rfl (show 136 * i + r < 544 from (by omega)) (show 544 < 2 ^ 31 by decide) ?_
      refine am_top (hlz _ (by omega)) ?_
      refine am_if_eq (tgt := 119) dX11_pinAll_21 (by decide) (fun _ => ?_) (fun h => absurd h (by decide))
      refine am_iinc (v := nI (r + 1)) dX11_pinAll_119 rfl (nI_add _ _) ?_
      refine am_goto (tgt := 2) dX11_pinAll_122 (by decide) ?_
      exact ih (r + 1) _ (by omega)
  refine am_of (by decide +kernel) hG.nd (Nat.le_of_ble_eq_true rfl) ?_
  refine am_iconst (v := nI 0) dX11_pinAll_0 (by decide) ?_
  refine am_istore_n dX11_pinAll_1 (by decide) ?_
  exact L 136 0 _ (by omega)
theorem c_MmasterOf {G : am_G} (hG : am_okM G) {d : Nat} {r : Nat} (hr : r < 136) (I : am_I) (hj : ∀ x, x < G.2.2.2.1 → I 0 66 x = nI 1)  (hnn : I 0 60 1 = nI G.2.2.2.1) : am_C G d mX11_masterOf [.inr (0, 60), .inl (nI r)] I (am_E (some (nI (r % G.2.2.2.1))) I) := by
  have hn4 := hG.hi
  have hn2 := hG.lo
  refine am_of (by decide +kernel) hG.nd (Nat.le_of_ble_eq_true rfl) ?_
  refine am_iconst (v := nI 0) dX11_masterOf_0 (by decide) ?_
  refine am_istore_n dX11_masterOf_1 (by decide) ?_
  refine am_iload_n dX11_masterOf_2 rfl ?_
  refine am_aload_n dX11_masterOf_3 rfl ?_
  refine am_get (v := .inl (I 0 60 1)) dX11_masterOf_4 fl_11_177 (hG.m0 (by decide)) rfl ?_
  refine am_top (show I 0 60 1 = nI G.2.2.2.1 from (by simp [am_up, am_upf, upd, hnn])) ?_
  refine am_icmp_ge (tgt := 36) dX11_masterOf_7 (by decide) (fun h => absurd ((nI_leI (a := G.2.2.2.1) (b := 0) (by omega) (by omega)).mp h) (by omega)) (fun _ => ?_)
  refine am_iload_n dX11_masterOf_10 rfl ?_
  refine am_iload_n dX11_masterOf_11 rfl ?_
  refine am_iadd dX11_masterOf_12 ?_
  refine am_top (show nI r + nI 0 = nI r from nI_add _ _) ?_
  refine am_aload_n dX11_masterOf_13 rfl ?_
  refine am_get (v := .inl (I 0 60 1)) dX11_masterOf_14 fl_11_177 (hG.m0 (by decide)) rfl ?_
  refine am_top (show I 0 60 1 = nI G.2.2.2.1 from (by simp [am_up, am_upf, upd, hnn])) ?_
  refine am_irem dX11_masterOf_17 (nI_ne0 (by omega) (by omega)) ?_
  refine am_top (pk_rem (by omega) (by omega) (by omega)) ?_
  refine am_istore_n dX11_masterOf_18 (by decide) ?_
  refine am_aload_n dX11_masterOf_19 rfl ?_
  refine am_get (v := .inr (0, 66)) dX11_masterOf_20 fl_11_17 (hG.m0 (by decide)) rfl ?_
  refine am_iload_n dX11_masterOf_23 rfl ?_
  refine am_zald (a := r % G.2.2.2.1) dX11_masterOf_24 (hG.m0 (by decide)) rfl rfl (show r % G.2.2.2.1 < 4 from (by have := Nat.mod_lt r (show 0 < G.2.2.2.1 by omega); omega)) (show 4 < 2 ^ 31 by decide) ?_
  refine am_top (hj _ (Nat.mod_lt _ (by omega))) ?_
  refine am_if_eq (tgt := 30) dX11_masterOf_25 (by decide) (fun h => absurd h (by decide)) (fun _ => ?_)
  refine am_iload_n dX11_masterOf_28 rfl ?_
  refine am_iret dX11_masterOf_29 rfl rfl ?_
  exact ⟨rfl, rfl⟩
theorem c_Msend0 {G : am_G} (hG : am_okM G) {d : Nat} {f : Nat} (hf : f < 4) {t : Nat} (ht : t < 4) (x : Int32) (y : Int32) (z : Int32) (I : am_I)  (hms : I 0 60 38 = nI 0) (htm : I 0 60 2 = nI 0) (hdl : I 0 107 (4 * f + t) = nI 1) (hld : I 0 108 (4 * f + t) = nI 0) (hut : I 0 65 t = nI 1) : am_C G d mX11_send [.inr (0, 60), .inl (nI f), .inl (nI t), .inl x, .inl y, .inl z] I (am_E none (am_up (am_up (am_up (am_up (am_up (am_up (am_up (am_up (am_up I 0 60 39 ((I 0 60 39) + (nI 1))) 0 108 (4 * f + t) (nI 1)) 0 101 0 (nI f)) 0 102 0 (nI t)) 0 103 0 x) 0 104 0 y) 0 105 0 z) 0 106 0 (nI 1)) 0 60 38 (nI 1))) := by
  refine am_of (by decide +kernel) hG.nd (Nat.le_of_ble_eq_true rfl) ?_
  refine am_iload_n dX11_send_0 rfl ?_
  refine am_iconst (v := (-1 : Int32)) dX11_send_1 (by decide) ?_
  refine am_icmp_ne (tgt := 6) dX11_send_2 (by decide) (fun _ => ?_) (fun h => absurd h (am_nn1 (by omega)))
  refine am_aload_n dX11_send_6 rfl ?_
  refine am_dup dX11_send_7 ?_
  refine am_get (v := .inl (I 0 60 39)) dX11_send_8 fl_11_191 (hG.m0 (by decide)) rfl ?_
  refine am_iconst (v := nI 1) dX11_send_11 (by decide) ?_
  refine am_iadd dX11_send_12 ?_
  refine am_put (x := (I 0 60 39) + (nI 1)) dX11_send_13 fp_11_191 (hG.m0 (by decide)) (Nat.le_of_ble_eq_true rfl) rfl ?_
  refine am_aload_n dX11_send_16 rfl ?_
  refine am_get (v := .inr (0, 65)) dX11_send_17 fl_11_13 (hG.m0 (by decide)) rfl ?_
  refine am_iload_n dX11_send_20 rfl ?_
  refine am_zald (a := t) dX11_send_21 (hG.m0 (by decide)) rfl rfl (show t < 4 from (by omega)) (show 4 < 2 ^ 31 by decide) ?_
  refine am_top (show (am_up I 0 60 39 ((I 0 60 39) + (nI 1))) 0 65 t = nI 1 from (by simp [am_up, am_upf, upd, hms, htm, hdl, hld, hut])) ?_
  refine am_if_ne (tgt := 26) dX11_send_22 (by decide) (fun _ => ?_) (fun h => absurd h (by decide))
  refine am_iconst (v := nI 4) dX11_send_26 (by decide) ?_
  refine am_iload_n dX11_send_27 rfl ?_
  refine am_imul dX11_send_28 ?_
  refine am_top (pk_mul _ _) ?_
  refine am_iload_n dX11_send_29 rfl ?_
  refine am_iadd dX11_send_30 ?_
  refine am_top (nI_add _ _) ?_
  refine am_istore dX11_send_31 (by decide) ?_
  refine am_aload_n dX11_send_33 rfl ?_
  refine am_get (v := .inl ((am_up I 0 60 39 ((I 0 60 39) + (nI 1))) 0 60 2)) dX11_send_34 fl_11_194 (hG.m0 (by decide)) rfl ?_
  refine am_top (show (am_up I 0 60 39 ((I 0 60 39) + (nI 1))) 0 60 2 = nI 0 from (by simp [am_up, am_upf, upd, hms, htm, hdl, hld, hut])) ?_
  refine am_aload_n dX11_send_37 rfl ?_
  refine am_get (v := .inr (0, 107)) dX11_send_38 fl_11_135 (hG.m0 (by decide)) rfl ?_
  refine am_iload dX11_send_41 rfl ?_
  refine am_iald (a := 4 * f + t) dX11_send_43 (hG.m0 (by decide)) rfl rfl (show 4 * f + t < 16 from (by omega)) (show 16 < 2 ^ 31 by decide) ?_
  refine am_top (show (am_up I 0 60 39 ((I 0 60 39) + (nI 1))) 0 107 (4 * f + t) = nI 1 from (by simp [am_up, am_upf, upd, hms, htm, hdl, hld, hut])) ?_
  refine am_iadd dX11_send_44 ?_
  refine am_top (show (nI 0) + (nI 1) = nI 1 by decide) ?_
  refine am_istore dX11_send_45 (by decide) ?_
  refine am_iload dX11_send_47 rfl ?_
  refine am_aload_n dX11_send_49 rfl ?_
  refine am_get (v := .inr (0, 108)) dX11_send_50 fl_11_138 (hG.m0 (by decide)) rfl ?_
  refine am_iload dX11_send_53 rfl ?_
  refine am_iald (a := 4 * f + t) dX11_send_55 (hG.m0 (by decide)) rfl rfl (show 4 * f + t < 16 from (by omega)) (show 16 < 2 ^ 31 by decide) ?_
  refine am_top (show (am_up I 0 60 39 ((I 0 60 39) + (nI 1))) 0 108 (4 * f + t) = nI 0 from (by simp [am_up, am_upf, upd, hms, htm, hdl, hld, hut])) ?_
  refine am_icmp_ge (tgt := 69) dX11_send_56 (by decide) (fun _ => ?_) (fun h => absurd h (by decide))
  refine am_iload dX11_send_69 rfl ?_
  refine am_istore dX11_send_71 (by decide) ?_
  refine am_aload_n dX11_send_73 rfl ?_
  refine am_get (v := .inr (0, 108)) dX11_send_74 fl_11_138 (hG.m0 (by decide)) rfl ?_
  refine am_iload dX11_send_77 rfl ?_
  refine am_iload dX11_send_79 rfl ?_
  refine am_iast (a := 4 * f + t) dX11_send_81 (hG.m0 (by decide)) rfl rfl (show 4 * f + t < 16 from (by omega)) (show 16 < 2 ^ 31 by decide) ?_
  refine am_aload_n dX11_send_82 rfl ?_
  refine am_get (v := .inr (0, 101)) dX11_send_83 fl_11_117 (hG.m0 (by decide)) rfl ?_
  refine am_aload_n dX11_send_86 rfl ?_
  refine am_get (v := .inl ((am_up (am_up I 0 60 39 ((I 0 60 39) + (nI 1))) 0 108 (4 * f + t) (nI 1)) 0 60 38)) dX11_send_87 fl_11_197 (hG.m0 (by decide)) rfl ?_
  refine am_top (show (am_up (am_up I 0 60 39 ((I 0 60 39) + (nI 1))) 0 108 (4 * f + t) (nI 1)) 0 60 38 = nI 0 from (by simp [am_up, am_upf, upd, hms, htm, hdl, hld, hut])) ?_
  refine am_iload_n dX11_send_90 rfl ?_
  refine am_iast (a := 0) dX11_send_91 (hG.m0 (by decide)) rfl rfl (show 0 < 4096 from (by omega)) (show 4096 < 2 ^ 31 by decide) ?_
  refine am_aload_n dX11_send_92 rfl ?_
  refine am_get (v := .inr (0, 102)) dX11_send_93 fl_11_120 (hG.m0 (by decide)) rfl ?_
  refine am_aload_n dX11_send_96 rfl ?_
  refine am_get (v := .inl ((am_up (am_up (am_up I 0 60 39 ((I 0 60 39) + (nI 1))) 0 108 (4 * f + t) (nI 1)) 0 101 0 (nI f)) 0 60 38)) dX11_send_97 fl_11_197 (hG.m0 (by decide)) rfl ?_
  refine am_top (show (am_up (am_up (am_up I 0 60 39 ((I 0 60 39) + (nI 1))) 0 108 (4 * f + t) (nI 1)) 0 101 0 (nI f)) 0 60 38 = nI 0 from (by simp [am_up, am_upf, upd, hms, htm, hdl, hld, hut])) ?_
  refine am_iload_n dX11_send_100 rfl ?_
  refine am_iast (a := 0) dX11_send_101 (hG.m0 (by decide)) rfl rfl (show 0 < 4096 from (by omega)) (show 4096 < 2 ^ 31 by decide) ?_
  refine am_aload_n dX11_send_102 rfl ?_
  refine am_get (v := .inr (0, 103)) dX11_send_103 fl_11_123 (hG.m0 (by decide)) rfl ?_
  refine am_aload_n dX11_send_106 rfl ?_
  refine am_get (v := .inl ((am_up (am_up (am_up (am_up I 0 60 39 ((I 0 60 39) + (nI 1))) 0 108 (4 * f + t) (nI 1)) 0 101 0 (nI f)) 0 102 0 (nI t)) 0 60 38)) dX11_send_107 fl_11_197 (hG.m0 (by decide)) rfl ?_
  refine am_top (show (am_up (am_up (am_up (am_up I 0 60 39 ((I 0 60 39) + (nI 1))) 0 108 (4 * f + t) (nI 1)) 0 101 0 (nI f)) 0 102 0 (nI t)) 0 60 38 = nI 0 from (by simp [am_up, am_upf, upd, hms, htm, hdl, hld, hut])) ?_
  refine am_iload_n dX11_send_110 rfl ?_
  refine am_iast (a := 0) dX11_send_111 (hG.m0 (by decide)) rfl rfl (show 0 < 4096 from (by omega)) (show 4096 < 2 ^ 31 by decide) ?_
  refine am_aload_n dX11_send_112 rfl ?_
  refine am_get (v := .inr (0, 104)) dX11_send_113 fl_11_126 (hG.m0 (by decide)) rfl ?_
  refine am_aload_n dX11_send_116 rfl ?_
  refine am_get (v := .inl ((am_up (am_up (am_up (am_up (am_up I 0 60 39 ((I 0 60 39) + (nI 1))) 0 108 (4 * f + t) (nI 1)) 0 101 0 (nI f)) 0 102 0 (nI t)) 0 103 0 x) 0 60 38)) dX11_send_117 fl_11_197 (hG.m0 (by decide)) rfl ?_
  refine am_top (show (am_up (am_up (am_up (am_up (am_up I 0 60 39 ((I 0 60 39) + (nI 1))) 0 108 (4 * f + t) (nI 1)) 0 101 0 (nI f)) 0 102 0 (nI t)) 0 103 0 x) 0 60 38 = nI 0 from (by simp [am_up, am_upf, upd, hms, htm, hdl, hld, hut])) ?_
  refine am_iload dX11_send_120 rfl ?_
  refine am_iast (a := 0) dX11_send_122 (hG.m0 (by decide)) rfl rfl (show 0 < 4096 from (by omega)) (show 4096 < 2 ^ 31 by decide) ?_
  refine am_aload_n dX11_send_123 rfl ?_
  refine am_get (v := .inr (0, 105)) dX11_send_124 fl_11_129 (hG.m0 (by decide)) rfl ?_
  refine am_aload_n dX11_send_127 rfl ?_
  refine am_get (v := .inl ((am_up (am_up (am_up (am_up (am_up (am_up I 0 60 39 ((I 0 60 39) + (nI 1))) 0 108 (4 * f + t) (nI 1)) 0 101 0 (nI f)) 0 102 0 (nI t)) 0 103 0 x) 0 104 0 y) 0 60 38)) dX11_send_128 fl_11_197 (hG.m0 (by decide)) rfl ?_
  refine am_top (show (am_up (am_up (am_up (am_up (am_up (am_up I 0 60 39 ((I 0 60 39) + (nI 1))) 0 108 (4 * f + t) (nI 1)) 0 101 0 (nI f)) 0 102 0 (nI t)) 0 103 0 x) 0 104 0 y) 0 60 38 = nI 0 from (by simp [am_up, am_upf, upd, hms, htm, hdl, hld, hut])) ?_
  refine am_iload dX11_send_131 rfl ?_
  refine am_iast (a := 0) dX11_send_133 (hG.m0 (by decide)) rfl rfl (show 0 < 4096 from (by omega)) (show 4096 < 2 ^ 31 by decide) ?_
  refine am_aload_n dX11_send_134 rfl ?_
  refine am_get (v := .inr (0, 106)) dX11_send_135 fl_11_132 (hG.m0 (by decide)) rfl ?_
  refine am_aload_n dX11_send_138 rfl ?_
  refine am_get (v := .inl ((am_up (am_up (am_up (am_up (am_up (am_up (am_up I 0 60 39 ((I 0 60 39) + (nI 1))) 0 108 (4 * f + t) (nI 1)) 0 101 0 (nI f)) 0 102 0 (nI t)) 0 103 0 x) 0 104 0 y) 0 105 0 z) 0 60 38)) dX11_send_139 fl_11_197 (hG.m0 (by decide)) rfl ?_
  refine am_top (show (am_up (am_up (am_up (am_up (am_up (am_up (am_up I 0 60 39 ((I 0 60 39) + (nI 1))) 0 108 (4 * f + t) (nI 1)) 0 101 0 (nI f)) 0 102 0 (nI t)) 0 103 0 x) 0 104 0 y) 0 105 0 z) 0 60 38 = nI 0 from (by simp [am_up, am_upf, upd, hms, htm, hdl, hld, hut])) ?_
  refine am_iload dX11_send_142 rfl ?_
  refine am_iast (a := 0) dX11_send_144 (hG.m0 (by decide)) rfl rfl (show 0 < 4096 from (by omega)) (show 4096 < 2 ^ 31 by decide) ?_
  refine am_aload_n dX11_send_145 rfl ?_
  refine am_dup dX11_send_146 ?_
  refine am_get (v := .inl ((am_up (am_up (am_up (am_up (am_up (am_up (am_up (am_up I 0 60 39 ((I 0 60 39) + (nI 1))) 0 108 (4 * f + t) (nI 1)) 0 101 0 (nI f)) 0 102 0 (nI t)) 0 103 0 x) 0 104 0 y) 0 105 0 z) 0 106 0 (nI 1)) 0 60 38)) dX11_send_147 fl_11_197 (hG.m0 (by decide)) rfl ?_
  refine am_top (show (am_up (am_up (am_up (am_up (am_up (am_up (am_up (am_up I 0 60 39 ((I 0 60 39) + (nI 1))) 0 108 (4 * f + t) (nI 1)) 0 101 0 (nI f)) 0 102 0 (nI t)) 0 103 0 x) 0 104 0 y) 0 105 0 z) 0 106 0 (nI 1)) 0 60 38 = nI 0 from (by simp [am_up, am_upf, upd, hms, htm, hdl, hld, hut])) ?_
  refine am_iconst (v := nI 1) dX11_send_150 (by decide) ?_
  refine am_iadd dX11_send_151 ?_
  refine am_top (show (nI 0) + (nI 1) = nI 1 by decide) ?_
  refine am_put (x := nI 1) dX11_send_152 fp_11_197 (hG.m0 (by decide)) (Nat.le_of_ble_eq_true rfl) rfl ?_
  refine am_vret dX11_send_155 rfl ?_
  exact ⟨rfl, rfl⟩
theorem c_MpinAll1_1 {G : am_G} (hG : am_okM G) {d : Nat} {i a : Nat} (hi : i < G.2.2.2.1) (hab : a < 136) {I : am_I} (hj : ∀ x, x < G.2.2.2.1 → I 0 66 x = nI 1) (hu : ∀ x, x < G.2.2.2.1 → I 0 65 x = nI 1) (hdl : ∀ f t, I 0 107 (4 * f + t) = nI 1) (hld : ∀ f t, I 0 108 (4 * f + t) = nI 0) (hl2 : ∀ k, k < 544 → k ≠ 136 * i + a → I 0 81 k = nI 0) (hla : I 0 81 (136 * i + a) = nI 1) (hpa : I 0 79 (136 * i + a) = nI 0) (hha : I 0 76 (136 * i + a) = nI 0) (hba : I 0 78 (136 * i + a) = (-1 : Int32)) (haa : I 0 77 (136 * i + a) = nI 0) (hms : I 0 60 38 = nI 0) (htm : I 0 60 2 = nI 0) (hnn : I 0 60 1 = nI G.2.2.2.1) : am_C G (d + 1) mX11_pinAll [.inr (0, 60), .inl (nI i)] I (fun r J => r = some (nI 0) ∧ J 0 87 i = I 0 87 i ∧ J 0 60 0 = I 0 60 0) := by
  have hn4 := hG.hi
  have hn2 := hG.lo
  have K : ∀ (m r : Nat) (s3 : Option am_V), r + m = a → am_J G (d + 1) mX11_pinAll am_no (fun r J => r = some (nI 0) ∧ J 0 87 i = I 0 87 i ∧ J 0 60 0 = I 0 60 0) 2 [some (.inr (0, 60)), some (.inl (nI i)), some (.inl (nI r)), s3] [] I := by
    intro m
    induction m with
    | zero =>
      intro r s3 ha
      obtain rfl : r = a := by omega
      refine am_iload_n dX11_pinAll_2 rfl ?_
      refine am_sipush (v := nI 136) dX11_pinAll_3 (by decide) ?_
      refine am_icmp_ge (tgt := 125) dX11_pinAll_6 (by decide) (fun h => absurd ((nI_leI (a := 136) (b := r) (by omega) (by omega)).mp h) (by omega)) (fun _ => ?_)
      refine am_iload_n dX11_pinAll_9 rfl ?_
      refine am_iload_n dX11_pinAll_10 rfl ?_
      refine am_callSx (as := [.inl (nI i), .inl (nI r)]) (rest := []) dX11_pinAll_11 lkX11_at ml_X11_208 isX11_at rfl (Nat.le_of_ble_eq_true rfl) rfl (c_Mat hG.nd (g := i) (r := r) (by omega) (by omega) I) ?_
      refine am_istore_n dX11_pinAll_14 (by decide) ?_
      refine am_aload_n dX11_pinAll_15 rfl ?_
      refine am_get (v := .inr (0, 81)) dX11_pinAll_16 fl_11_63 (hG.m0 (by decide)) rfl ?_
      refine am_iload_n dX11_pinAll_19 rfl ?_
      refine am_iald (a := 136 * i + r) dX11_pinAll_20 (hG.m0 (by decide)) rfl rfl (show 136 * i + r < 544 from (by omega)) (show 544 < 2 ^ 31 by decide) ?_
      refine am_top (show I 0 81 (136 * i + r) = nI 1 from (by simp [am_up, am_upf, upd, hla, hpa, hha, hba, haa, hms, htm, hnn])) ?_
      refine am_if_eq (tgt := 119) dX11_pinAll_21 (by decide) (fun h => absurd h (by decide)) (fun _ => ?_)
      refine am_aload_n dX11_pinAll_24 rfl ?_
      refine am_get (v := .inr (0, 79)) dX11_pinAll_25 fl_11_57 (hG.m0 (by decide)) rfl ?_
      refine am_iload_n dX11_pinAll_28 rfl ?_
      refine am_zald (a := 136 * i + r) dX11_pinAll_29 (hG.m0 (by decide)) rfl rfl (show 136 * i + r < 544 from (by omega)) (show 544 < 2 ^ 31 by decide) ?_
      refine am_top (show I 0 79 (136 * i + r) = nI 0 from (by simp [am_up, am_upf, upd, hla, hpa, hha, hba, haa, hms, htm, hnn])) ?_
      refine am_if_eq (tgt := 36) dX11_pinAll_30 (by decide) (fun _ => ?_) (fun h => absurd h (by decide))
      refine am_aload_n dX11_pinAll_36 rfl ?_
      refine am_get (v := .inr (0, 76)) dX11_pinAll_37 fl_11_48 (hG.m0 (by decide)) rfl ?_
      refine am_iload_n dX11_pinAll_40 rfl ?_
      refine am_iald (a := 136 * i + r) dX11_pinAll_41 (hG.m0 (by decide)) rfl rfl (show 136 * i + r < 544 from (by omega)) (show 544 < 2 ^ 31 by decide) ?_
      refine am_top (show I 0 76 (136 * i + r) = nI 0 from (by simp [am_up, am_upf, upd, hla, hpa, hha, hba, haa, hms, htm, hnn])) ?_
      refine am_aload_n dX11_pinAll_42 rfl ?_
      refine am_get (v := .inr (0, 81)) dX11_pinAll_43 fl_11_63 (hG.m0 (by decide)) rfl ?_
      refine am_iload_n dX11_pinAll_46 rfl ?_
      refine am_iald (a := 136 * i + r) dX11_pinAll_47 (hG.m0 (by decide)) rfl rfl (show 136 * i + r < 544 from (by omega)) (show 544 < 2 ^ 31 by decide) ?_
      refine am_top (show I 0 81 (136 * i + r) = nI 1 from (by simp [am_up, am_upf, upd, hla, hpa, hha, hba, haa, hms, htm, hnn])) ?_
      refine am_icmp_lt (tgt := 61) dX11_pinAll_48 (by decide) (fun _ => ?_) (fun h => absurd h (by decide))
      refine am_aload_n dX11_pinAll_61 rfl ?_
      refine am_get (v := .inr (0, 78)) dX11_pinAll_62 fl_11_54 (hG.m0 (by decide)) rfl ?_
      refine am_iload_n dX11_pinAll_65 rfl ?_
      refine am_iald (a := 136 * i + r) dX11_pinAll_66 (hG.m0 (by decide)) rfl rfl (show 136 * i + r < 544 from (by omega)) (show 544 < 2 ^ 31 by decide) ?_
      refine am_top (show I 0 78 (136 * i + r) = (-1 : Int32) from (by simp [am_up, am_upf, upd, hla, hpa, hha, hba, haa, hms, htm, hnn])) ?_
      refine am_iconst (v := (-1 : Int32)) dX11_pinAll_67 (by decide) ?_
      refine am_icmp_ne (tgt := 110) dX11_pinAll_68 (by decide) (fun h => absurd h (by decide)) (fun _ => ?_)
      refine am_aload_n dX11_pinAll_71 rfl ?_
      refine am_get (v := .inr (0, 77)) dX11_pinAll_72 fl_11_51 (hG.m0 (by decide)) rfl ?_
      refine am_iload_n dX11_pinAll_75 rfl ?_
      refine am_iald (a := 136 * i + r) dX11_pinAll_76 (hG.m0 (by decide)) rfl rfl (show 136 * i + r < 544 from (by omega)) (show 544 < 2 ^ 31 by decide) ?_
      refine am_top (show I 0 77 (136 * i + r) = nI 0 from (by simp [am_up, am_upf, upd, hla, hpa, hha, hba, haa, hms, htm, hnn])) ?_
      refine am_if_ne (tgt := 110) dX11_pinAll_77 (by decide) (fun h => absurd h (by decide)) (fun _ => ?_)
      refine am_aload_n dX11_pinAll_80 rfl ?_
      refine am_get (v := .inr (0, 77)) dX11_pinAll_81 fl_11_51 (hG.m0 (by decide)) rfl ?_
      refine am_iload_n dX11_pinAll_84 rfl ?_
      refine am_aload_n dX11_pinAll_85 rfl ?_
      refine am_get (v := .inr (0, 81)) dX11_pinAll_86 fl_11_63 (hG.m0 (by decide)) rfl ?_
      refine am_iload_n dX11_pinAll_89 rfl ?_
      refine am_iald (a := 136 * i + r) dX11_pinAll_90 (hG.m0 (by decide)) rfl rfl (show 136 * i + r < 544 from (by omega)) (show 544 < 2 ^ 31 by decide) ?_
      refine am_top (show I 0 81 (136 * i + r) = nI 1 from (by simp [am_up, am_upf, upd, hla, hpa, hha, hba, haa, hms, htm, hnn])) ?_
      refine am_iast (a := 136 * i + r) dX11_pinAll_91 (hG.m0 (by decide)) rfl rfl (show 136 * i + r < 544 from (by omega)) (show 544 < 2 ^ 31 by decide) ?_
      refine am_aload_n dX11_pinAll_92 rfl ?_
      refine am_iload_n dX11_pinAll_93 rfl ?_
      refine am_aload_n dX11_pinAll_94 rfl ?_
      refine am_iload_n dX11_pinAll_95 rfl ?_
      refine am_callVx (i := 0) (j := 60) (as := [.inl (nI r)]) (rest := [.inl (nI i), .inr (0, 60)]) dX11_pinAll_96 lkX11_masterOf ml_X11_226 imX11_masterOf seX11_masterOf rfl rfl (hG.m0 (by decide)) rfl (Nat.le_of_ble_eq_true rfl) rfl (c_MmasterOf hG (by omega) (am_up I 0 77 (136 * i + r) (nI 1)) (fun x hx => by simp [am_up, am_upf, upd, hj x hx]) (by simp [am_up, am_upf, upd, hla, hpa, hha, hba, haa, hms, htm, hnn])) ?_
      refine am_iconst (v := nI 0) dX11_pinAll_99 (by decide) ?_
      refine am_iload_n dX11_pinAll_100 rfl ?_
      refine am_aload_n dX11_pinAll_101 rfl ?_
      refine am_get (v := .inr (0, 81)) dX11_pinAll_102 fl_11_63 (hG.m0 (by decide)) rfl ?_
      refine am_iload_n dX11_pinAll_105 rfl ?_
      refine am_iald (a := 136 * i + r) dX11_pinAll_106 (hG.m0 (by decide)) rfl rfl (show 136 * i + r < 544 from (by omega)) (show 544 < 2 ^ 31 by decide) ?_
      refine am_top (show (am_up I 0 77 (136 * i + r) (nI 1)) 0 81 (136 * i + r) = nI 1 from (by simp [am_up, am_upf, upd, hla, hpa, hha, hba, haa, hms, htm, hnn])) ?_
      refine am_callVe (i := 0) (j := 60) (as := [.inl (nI i), .inl (nI (r % G.2.2.2.1)), .inl (nI 0), .inl (nI r), .inl (nI 1)]) (rest := []) dX11_pinAll_107 lkX11_send ml_X11_229 imX11_send seX11_send rfl rfl (hG.m0 (by decide)) rfl (Nat.le_of_ble_eq_true rfl) rfl (c_Msend0 (f := i) (t := (r % G.2.2.2.1)) hG (by omega) (by have := Nat.mod_lt r (show 0 < G.2.2.2.1 by omega); omega) (nI 0) (nI r) (nI 1) (am_up I 0 77 (136 * i + r) (nI 1)) (by simp [am_up, am_upf, upd, hla, hpa, hha, hba, haa, hms, htm, hnn]) (by simp [am_up, am_upf, upd, hla, hpa, hha, hba, haa, hms, htm, hnn]) (by simp [am_up, am_upf, upd, hdl _ _]) (by simp [am_up, am_upf, upd, hld _ _]) (by simp [am_up, am_upf, upd, hu _ (Nat.mod_lt _ (show 0 < G.2.2.2.1 by omega))])) ?_
      refine am_iconst (v := nI 0) dX11_pinAll_110 (by decide) ?_
      refine am_iret dX11_pinAll_111 rfl (am_nz (by decide)).1 ?_
      exact ⟨rfl, by simp [am_up, am_upf, upd], by simp [am_up, am_upf, upd]⟩
    | succ m ih =>
      intro r s3 ha
      refine am_iload_n dX11_pinAll_2 rfl ?_
      refine am_sipush (v := nI 136) dX11_pinAll_3 (by decide) ?_
      refine am_icmp_ge (tgt := 125) dX11_pinAll_6 (by decide) (fun h => absurd ((nI_leI (a := 136) (b := r) (by omega) (by omega)).mp h) (by omega)) (fun _ => ?_)
      refine am_iload_n dX11_pinAll_9 rfl ?_
      refine am_iload_n dX11_pinAll_10 rfl ?_
      refine am_callSx (as := [.inl (nI i), .inl (nI r)]) (rest := []) dX11_pinAll_11 lkX11_at ml_X11_208 isX11_at rfl (Nat.le_of_ble_eq_true rfl) rfl (c_Mat hG.nd (g := i) (r := r) (by omega) (by omega) I) ?_
      refine am_istore_n dX11_pinAll_14 (by decide) ?_
      refine am_aload_n dX11_pinAll_15 rfl ?_
      refine am_get (v := .inr (0, 81)) dX11_pinAll_16 fl_11_63 (hG.m0 (by decide)) rfl ?_
      refine am_iload_n dX11_pinAll_19 rfl ?_
      refine am_iald (a := 136 * i + r) dX11_pinAll_20 (hG.m0 (by decide)) rfl rfl (show 136 * i + r < 544 from (by omega)) (show 544 < 2 ^ 31 by decide) ?_
      refine am_top (hl2 _ (by omega) (by omega)) ?_
      refine am_if_eq (tgt := 119) dX11_pinAll_21 (by decide) (fun _ => ?_) (fun h => absurd h (by decide))
      refine am_iinc (v := nI (r + 1)) dX11_pinAll_119 rfl (nI_add _ _) ?_
      refine am_goto (tgt := 2) dX11_pinAll_122 (by decide) ?_
      exact ih (r + 1) _ (by omega)
  refine am_of (by decide +kernel) hG.nd (Nat.le_of_ble_eq_true rfl) ?_
  refine am_iconst (v := nI 0) dX11_pinAll_0 (by decide) ?_
  refine am_istore_n dX11_pinAll_1 (by decide) ?_
  exact K a 0 _ (by omega)
theorem c_MpinAll1_2 {G : am_G} (hG : am_okM G) {d : Nat} {i a : Nat} (hi : i < G.2.2.2.1) (hab : a < 136) {I : am_I} (hj : ∀ x, x < G.2.2.2.1 → I 0 66 x = nI 1) (hu : ∀ x, x < G.2.2.2.1 → I 0 65 x = nI 1) (hdl : ∀ f t, I 0 107 (4 * f + t) = nI 1) (hld : ∀ f t, I 0 108 (4 * f + t) = nI 0) (hl2 : ∀ k, k < 544 → k ≠ 136 * i + a → I 0 81 k = nI 0) (hla : I 0 81 (136 * i + a) = nI 2) (hpa : I 0 79 (136 * i + a) = nI 0) (hha : I 0 76 (136 * i + a) = nI 0) (hba : I 0 78 (136 * i + a) = (-1 : Int32)) (haa : I 0 77 (136 * i + a) = nI 0) (hms : I 0 60 38 = nI 0) (htm : I 0 60 2 = nI 0) (hnn : I 0 60 1 = nI G.2.2.2.1) : am_C G (d + 1) mX11_pinAll [.inr (0, 60), .inl (nI i)] I (fun r J => r = some (nI 0) ∧ J 0 87 i = I 0 87 i ∧ J 0 60 0 = I 0 60 0) := by
  have hn4 := hG.hi
  have hn2 := hG.lo
  have K : ∀ (m r : Nat) (s3 : Option am_V), r + m = a → am_J G (d + 1) mX11_pinAll am_no (fun r J => r = some (nI 0) ∧ J 0 87 i = I 0 87 i ∧ J 0 60 0 = I 0 60 0) 2 [some (.inr (0, 60)), some (.inl (nI i)), some (.inl (nI r)), s3] [] I := by
    intro m
    induction m with
    | zero =>
      intro r s3 ha
      obtain rfl : r = a := by omega
      refine am_iload_n dX11_pinAll_2 rfl ?_
      refine am_sipush (v := nI 136) dX11_pinAll_3 (by decide) ?_
      refine am_icmp_ge (tgt := 125) dX11_pinAll_6 (by decide) (fun h => absurd ((nI_leI (a := 136) (b := r) (by omega) (by omega)).mp h) (by omega)) (fun _ => ?_)
      refine am_iload_n dX11_pinAll_9 rfl ?_
      refine am_iload_n dX11_pinAll_10 rfl ?_
      refine am_callSx (as := [.inl (nI i), .inl (nI r)]) (rest := []) dX11_pinAll_11 lkX11_at ml_X11_208 isX11_at rfl (Nat.le_of_ble_eq_true rfl) rfl (c_Mat hG.nd (g := i) (r := r) (by omega) (by omega) I) ?_
      refine am_istore_n dX11_pinAll_14 (by decide) ?_
      refine am_aload_n dX11_pinAll_15 rfl ?_
      refine am_get (v := .inr (0, 81)) dX11_pinAll_16 fl_11_63 (hG.m0 (by decide)) rfl ?_
      refine am_iload_n dX11_pinAll_19 rfl ?_
      refine am_iald (a := 136 * i + r) dX11_pinAll_20 (hG.m0 (by decide)) rfl rfl (show 136 * i + r < 544 from (by omega)) (show 544 < 2 ^ 31 by decide) ?_
      refine am_top (show I 0 81 (136 * i + r) = nI 2 from (by simp [am_up, am_upf, upd, hla, hpa, hha, hba, haa, hms, htm, hnn])) ?_
      refine am_if_eq (tgt := 119) dX11_pinAll_21 (by decide) (fun h => absurd h (by decide)) (fun _ => ?_)
      refine am_aload_n dX11_pinAll_24 rfl ?_
      refine am_get (v := .inr (0, 79)) dX11_pinAll_25 fl_11_57 (hG.m0 (by decide)) rfl ?_
      refine am_iload_n dX11_pinAll_28 rfl ?_
      refine am_zald (a := 136 * i + r) dX11_pinAll_29 (hG.m0 (by decide)) rfl rfl (show 136 * i + r < 544 from (by omega)) (show 544 < 2 ^ 31 by decide) ?_
      refine am_top (show I 0 79 (136 * i + r) = nI 0 from (by simp [am_up, am_upf, upd, hla, hpa, hha, hba, haa, hms, htm, hnn])) ?_
      refine am_if_eq (tgt := 36) dX11_pinAll_30 (by decide) (fun _ => ?_) (fun h => absurd h (by decide))
      refine am_aload_n dX11_pinAll_36 rfl ?_
      refine am_get (v := .inr (0, 76)) dX11_pinAll_37 fl_11_48 (hG.m0 (by decide)) rfl ?_
      refine am_iload_n dX11_pinAll_40 rfl ?_
      refine am_iald (a := 136 * i + r) dX11_pinAll_41 (hG.m0 (by decide)) rfl rfl (show 136 * i + r < 544 from (by omega)) (show 544 < 2 ^ 31 by decide) ?_
      refine am_top (show I 0 76 (136 * i + r) = nI 0 from (by simp [am_up, am_upf, upd, hla, hpa, hha, hba, haa, hms, htm, hnn])) ?_
      refine am_aload_n dX11_pinAll_42 rfl ?_
      refine am_get (v := .inr (0, 81)) dX11_pinAll_43 fl_11_63 (hG.m0 (by decide)) rfl ?_
      refine am_iload_n dX11_pinAll_46 rfl ?_
      refine am_iald (a := 136 * i + r) dX11_pinAll_47 (hG.m0 (by decide)) rfl rfl (show 136 * i + r < 544 from (by omega)) (show 544 < 2 ^ 31 by decide) ?_
      refine am_top (show I 0 81 (136 * i + r) = nI 2 from (by simp [am_up, am_upf, upd, hla, hpa, hha, hba, haa, hms, htm, hnn])) ?_
      refine am_icmp_lt (tgt := 61) dX11_pinAll_48 (by decide) (fun _ => ?_) (fun h => absurd h (by decide))
      refine am_aload_n dX11_pinAll_61 rfl ?_
      refine am_get (v := .inr (0, 78)) dX11_pinAll_62 fl_11_54 (hG.m0 (by decide)) rfl ?_
      refine am_iload_n dX11_pinAll_65 rfl ?_
      refine am_iald (a := 136 * i + r) dX11_pinAll_66 (hG.m0 (by decide)) rfl rfl (show 136 * i + r < 544 from (by omega)) (show 544 < 2 ^ 31 by decide) ?_
      refine am_top (show I 0 78 (136 * i + r) = (-1 : Int32) from (by simp [am_up, am_upf, upd, hla, hpa, hha, hba, haa, hms, htm, hnn])) ?_
      refine am_iconst (v := (-1 : Int32)) dX11_pinAll_67 (by decide) ?_
      refine am_icmp_ne (tgt := 110) dX11_pinAll_68 (by decide) (fun h => absurd h (by decide)) (fun _ => ?_)
      refine am_aload_n dX11_pinAll_71 rfl ?_
      refine am_get (v := .inr (0, 77)) dX11_pinAll_72 fl_11_51 (hG.m0 (by decide)) rfl ?_
      refine am_iload_n dX11_pinAll_75 rfl ?_
      refine am_iald (a := 136 * i + r) dX11_pinAll_76 (hG.m0 (by decide)) rfl rfl (show 136 * i + r < 544 from (by omega)) (show 544 < 2 ^ 31 by decide) ?_
      refine am_top (show I 0 77 (136 * i + r) = nI 0 from (by simp [am_up, am_upf, upd, hla, hpa, hha, hba, haa, hms, htm, hnn])) ?_
      refine am_if_ne (tgt := 110) dX11_pinAll_77 (by decide) (fun h => absurd h (by decide)) (fun _ => ?_)
      refine am_aload_n dX11_pinAll_80 rfl ?_
      refine am_get (v := .inr (0, 77)) dX11_pinAll_81 fl_11_51 (hG.m0 (by decide)) rfl ?_
      refine am_iload_n dX11_pinAll_84 rfl ?_
      refine am_aload_n dX11_pinAll_85 rfl ?_
      refine am_get (v := .inr (0, 81)) dX11_pinAll_86 fl_11_63 (hG.m0 (by decide)) rfl ?_
      refine am_iload_n dX11_pinAll_89 rfl ?_
      refine am_iald (a := 136 * i + r) dX11_pinAll_90 (hG.m0 (by decide)) rfl rfl (show 136 * i + r < 544 from (by omega)) (show 544 < 2 ^ 31 by decide) ?_
      refine am_top (show I 0 81 (136 * i + r) = nI 2 from (by simp [am_up, am_upf, upd, hla, hpa, hha, hba, haa, hms, htm, hnn])) ?_
      refine am_iast (a := 136 * i + r) dX11_pinAll_91 (hG.m0 (by decide)) rfl rfl (show 136 * i + r < 544 from (by omega)) (show 544 < 2 ^ 31 by decide) ?_
      refine am_aload_n dX11_pinAll_92 rfl ?_
      refine am_iload_n dX11_pinAll_93 rfl ?_
      refine am_aload_n dX11_pinAll_94 rfl ?_
      refine am_iload_n dX11_pinAll_95 rfl ?_
      refine am_callVx (i := 0) (j := 60) (as := [.inl (nI r)]) (rest := [.inl (nI i), .inr (0, 60)]) dX11_pinAll_96 lkX11_masterOf ml_X11_226 imX11_masterOf seX11_masterOf rfl rfl (hG.m0 (by decide)) rfl (Nat.le_of_ble_eq_true rfl) rfl (c_MmasterOf hG (by omega) (am_up I 0 77 (136 * i + r) (nI 2)) (fun x hx => by simp [am_up, am_upf, upd, hj x hx]) (by simp [am_up, am_upf, upd, hla, hpa, hha, hba, haa, hms, htm, hnn])) ?_
      refine am_iconst (v := nI 0) dX11_pinAll_99 (by decide) ?_
      refine am_iload_n dX11_pinAll_100 rfl ?_
      refine am_aload_n dX11_pinAll_101 rfl ?_
      refine am_get (v := .inr (0, 81)) dX11_pinAll_102 fl_11_63 (hG.m0 (by decide)) rfl ?_
      refine am_iload_n dX11_pinAll_105 rfl ?_
      refine am_iald (a := 136 * i + r) dX11_pinAll_106 (hG.m0 (by decide)) rfl rfl (show 136 * i + r < 544 from (by omega)) (show 544 < 2 ^ 31 by decide) ?_
      refine am_top (show (am_up I 0 77 (136 * i + r) (nI 2)) 0 81 (136 * i + r) = nI 2 from (by simp [am_up, am_upf, upd, hla, hpa, hha, hba, haa, hms, htm, hnn])) ?_
      refine am_callVe (i := 0) (j := 60) (as := [.inl (nI i), .inl (nI (r % G.2.2.2.1)), .inl (nI 0), .inl (nI r), .inl (nI 2)]) (rest := []) dX11_pinAll_107 lkX11_send ml_X11_229 imX11_send seX11_send rfl rfl (hG.m0 (by decide)) rfl (Nat.le_of_ble_eq_true rfl) rfl (c_Msend0 (f := i) (t := (r % G.2.2.2.1)) hG (by omega) (by have := Nat.mod_lt r (show 0 < G.2.2.2.1 by omega); omega) (nI 0) (nI r) (nI 2) (am_up I 0 77 (136 * i + r) (nI 2)) (by simp [am_up, am_upf, upd, hla, hpa, hha, hba, haa, hms, htm, hnn]) (by simp [am_up, am_upf, upd, hla, hpa, hha, hba, haa, hms, htm, hnn]) (by simp [am_up, am_upf, upd, hdl _ _]) (by simp [am_up, am_upf, upd, hld _ _]) (by simp [am_up, am_upf, upd, hu _ (Nat.mod_lt _ (show 0 < G.2.2.2.1 by omega))])) ?_
      refine am_iconst (v := nI 0) dX11_pinAll_110 (by decide) ?_
      refine am_iret dX11_pinAll_111 rfl (am_nz (by decide)).1 ?_
      exact ⟨rfl, by simp [am_up, am_upf, upd], by simp [am_up, am_upf, upd]⟩
    | succ m ih =>
      intro r s3 ha
      refine am_iload_n dX11_pinAll_2 rfl ?_
      refine am_sipush (v := nI 136) dX11_pinAll_3 (by decide) ?_
      refine am_icmp_ge (tgt := 125) dX11_pinAll_6 (by decide) (fun h => absurd ((nI_leI (a := 136) (b := r) (by omega) (by omega)).mp h) (by omega)) (fun _ => ?_)
      refine am_iload_n dX11_pinAll_9 rfl ?_
      refine am_iload_n dX11_pinAll_10 rfl ?_
      refine am_callSx (as := [.inl (nI i), .inl (nI r)]) (rest := []) dX11_pinAll_11 lkX11_at ml_X11_208 isX11_at rfl (Nat.le_of_ble_eq_true rfl) rfl (c_Mat hG.nd (g := i) (r := r) (by omega) (by omega) I) ?_
      refine am_istore_n dX11_pinAll_14 (by decide) ?_
      refine am_aload_n dX11_pinAll_15 rfl ?_
      refine am_get (v := .inr (0, 81)) dX11_pinAll_16 fl_11_63 (hG.m0 (by decide)) rfl ?_
      refine am_iload_n dX11_pinAll_19 rfl ?_
      refine am_iald (a := 136 * i + r) dX11_pinAll_20 (hG.m0 (by decide)) rfl rfl (show 136 * i + r < 544 from (by omega)) (show 544 < 2 ^ 31 by decide) ?_
      refine am_top (hl2 _ (by omega) (by omega)) ?_
      refine am_if_eq (tgt := 119) dX11_pinAll_21 (by decide) (fun _ => ?_) (fun h => absurd h (by decide))
      refine am_iinc (v := nI (r + 1)) dX11_pinAll_119 rfl (nI_add _ _) ?_
      refine am_goto (tgt := 2) dX11_pinAll_122 (by decide) ?_
      exact ih (r + 1) _ (by omega)
  refine am_of (by decide +kernel) hG.nd (Nat.le_of_ble_eq_true rfl) ?_
  refine am_iconst (v := nI 0) dX11_pinAll_0 (by decide) ?_
  refine am_istore_n dX11_pinAll_1 (by decide) ?_
  exact K a 0 _ (by omega)
