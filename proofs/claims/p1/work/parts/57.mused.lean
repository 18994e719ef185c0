theorem am_z0 (s : Int32) : (nI 0 >>> s) &&& nI 1 = nI 0 := by
  have h : nI 0 >>> s = nI 0 := by
    apply Int32.toBitVec_inj.mp
    simp [nI]
  rw [h]
  decide
def am_cp (f g : Nat → Int32) (a : Nat) : Nat → Int32 := fun k => if k < a then g k else f k
theorem am_cp0 (f g : Nat → Int32) : am_cp f g 0 = f := by funext k; simp [am_cp]
theorem am_cps (f g : Nat → Int32) (a : Nat) : upd (am_cp f g a) a (g a) = am_cp f g (a + 1) := by
  funext k
  simp only [am_cp, upd]
  by_cases h : k = a
  · subst h; simp
  · rw [if_neg h]
    by_cases h2 : k < a
    · rw [if_pos h2, if_pos (by omega)]
    · rw [if_neg h2, if_neg (by omega)]
theorem c_Mused0 {G : am_G} (hG : am_okM G) {d : Nat} {I : am_I} (hI : ∀ k, I 0 64 k = am_dk G.2.2.2.1 k) : am_C G (d + 1) mX11_used [.inr (0, 60), .inl (nI 0)] I (am_E (some (nI 0)) I) := by
  have hn4 := hG.hi
  have hn2 := hG.lo
  have KI : ∀ (g : Nat) (_ : g < 8) (_ : ∀ s5, am_J G (d + 1) mX11_used am_no (am_E (some (nI 0)) I) 87 [some (.inr (0, 60)), some (.inl (nI 0)), some (.inl (nI 0)), some (.inl (nI g)), some (.inl (nI 47)), s5] [] I), ∀ (m a : Nat) (s5 : Option am_V), a + m = 47 → am_J G (d + 1) mX11_used am_no (am_E (some (nI 0)) I) 13 [some (.inr (0, 60)), some (.inl (nI 0)), some (.inl (nI 0)), some (.inl (nI g)), some (.inl (nI a)), s5] [] I := by
    intro g hg hk m
    induction m with
    | zero =>
      intro a s5 ha
      obtain rfl : a = 47 := by omega
      refine am_iload dX11_used_13 rfl ?_
      refine am_iload_n dX11_used_15 rfl ?_
      refine am_if_eq (tgt := 24) dX11_used_16 (by decide) (fun _ => ?_) (fun h => absurd h (by decide))
      refine am_bipush (v := nI 47) dX11_used_24 (by decide) ?_
      refine am_icmp_ge (tgt := 87) dX11_used_26 (by decide) (fun _ => ?_) (fun h => absurd ((nI_leI (a := 47) (b := 47) (by omega) (by omega)).mpr (by omega)) h)
      exact hk _
    | succ m ih =>
      intro a s5 ha
      refine am_iload dX11_used_13 rfl ?_
      refine am_iload_n dX11_used_15 rfl ?_
      refine am_if_eq (tgt := 24) dX11_used_16 (by decide) (fun _ => ?_) (fun h => absurd h (by decide))
      refine am_bipush (v := nI 47) dX11_used_24 (by decide) ?_
      refine am_icmp_ge (tgt := 87) dX11_used_26 (by decide) (fun h => absurd ((nI_leI (a := 47) (b := a) (by omega) (by omega)).mp h) (by omega)) (fun _ => ?_)
      refine am_aload_n dX11_used_29 rfl ?_
      refine am_get (v := .inr (0, 64)) dX11_used_30 fl_11_7 (hG.m0 (by decide)) rfl ?_
      refine am_bipush (v := nI 16) dX11_used_33 (by decide) ?_
      refine am_iload_n dX11_used_35 rfl ?_
      refine am_callSx (as := [.inl (nI g)]) (rest := [.inl (nI 16), .inr (0, 64)]) dX11_used_36 lkX11_mapOf ml_X11_181 isX11_mapOf rfl (Nat.le_of_ble_eq_true rfl) rfl (c_MmapOf hG.nd (g := g) (by omega) I) ?_
      refine am_imul dX11_used_39 ?_
      refine am_top (pk_mul _ _) ?_
      refine am_iload_n dX11_used_40 rfl ?_
      refine am_if_eq (tgt := 48) dX11_used_41 (by decide) (fun _ => ?_) (fun h => absurd h (by decide))
      refine am_iconst (v := nI 1) dX11_used_48 (by decide) ?_
      refine am_iload dX11_used_49 rfl ?_
      refine am_bipush (v := nI 32) dX11_used_51 (by decide) ?_
      refine am_idiv dX11_used_53 (by decide) ?_
      refine am_top (pk_div (by omega) (by omega) (by omega)) ?_
      refine am_iadd dX11_used_54 ?_
      refine am_top (nI_add _ _) ?_
      refine am_iadd dX11_used_55 ?_
      refine am_top (nI_add _ _) ?_
      refine am_iald (a := 16 * (128 + 64 * g) + (1 + a / 32)) dX11_used_56 (hG.m0 (by decide)) rfl rfl (show 16 * (128 + 64 * g) + (1 + a / 32) < 10240 from (by omega)) (show 10240 < 2 ^ 31 by decide) ?_
      refine am_top (show I 0 64 (16 * (128 + 64 * g) + (1 + a / 32)) = nI 0 from by simp only [hI]; exact am_dk0 (by omega) (by omega) (by omega) (by omega) (by omega)) ?_
      refine am_istore dX11_used_57 (by decide) ?_
      refine am_iload dX11_used_59 rfl ?_
      refine am_iload dX11_used_61 rfl ?_
      refine am_bipush (v := nI 32) dX11_used_63 (by decide) ?_
      refine am_irem dX11_used_65 (by decide) ?_
      refine am_top (pk_rem (by omega) (by omega) (by omega)) ?_
      refine am_ishr dX11_used_66 ?_
      refine am_iconst (v := nI 1) dX11_used_67 (by decide) ?_
      refine am_iand dX11_used_68 ?_
      refine am_top (am_z0 _) ?_
      refine am_iconst (v := nI 1) dX11_used_69 (by decide) ?_
      refine am_icmp_ne (tgt := 79) dX11_used_70 (by decide) (fun _ => ?_) (fun h => absurd h (by decide))
      refine am_iload_n dX11_used_79 rfl ?_
      refine am_istore_n dX11_used_80 (by decide) ?_
      refine am_iinc (v := nI (a + 1)) dX11_used_81 rfl (nI_add _ _) ?_
      refine am_goto (tgt := 13) dX11_used_84 (by decide) ?_
      exact ih (a + 1) _ (by omega)
  have K : ∀ (m g : Nat) (s4 s5 : Option am_V), g + m = 8 → am_J G (d + 1) mX11_used am_no (am_E (some (nI 0)) I) 4 [some (.inr (0, 60)), some (.inl (nI 0)), some (.inl (nI 0)), some (.inl (nI g)), s4, s5] [] I := by
    intro m
    induction m with
    | zero =>
      intro g s4 s5 ha
      obtain rfl : g = 8 := by omega
      refine am_iload_n dX11_used_4 rfl ?_
      refine am_bipush (v := nI 8) dX11_used_5 (by decide) ?_
      refine am_icmp_ge (tgt := 93) dX11_used_7 (by decide) (fun _ => ?_) (fun h => absurd ((nI_leI (a := 8) (b := 8) (by omega) (by omega)).mpr (by omega)) h)
      refine am_iload_n dX11_used_93 rfl ?_
      refine am_iret dX11_used_94 rfl rfl ?_
      exact ⟨rfl, rfl⟩
    | succ m ih =>
      intro g s4 s5 ha
      refine am_iload_n dX11_used_4 rfl ?_
      refine am_bipush (v := nI 8) dX11_used_5 (by decide) ?_
      refine am_icmp_ge (tgt := 93) dX11_used_7 (by decide) (fun h => absurd ((nI_leI (a := 8) (b := g) (by omega) (by omega)).mp h) (by omega)) (fun _ => ?_)
      refine am_iconst (v := nI 0) dX11_used_10 (by decide) ?_
      refine am_istore dX11_used_11 (by decide) ?_
      refine KI g (by omega) (fun s5 => ?_) 47 0 _ (by omega)
      refine am_iinc (v := nI (g + 1)) dX11_used_87 rfl (nI_add _ _) ?_
      refine am_goto (tgt := 4) dX11_used_90 (by decide) ?_
      exact ih (g + 1) _ _ (by omega)
  refine am_of (by decide +kernel) hG.nd (Nat.le_of_ble_eq_true rfl) ?_
  refine am_iconst (v := nI 0) dX11_used_0 (by decide) ?_
  refine am_istore_n dX11_used_1 (by decide) ?_
  refine am_iconst (v := nI 0) dX11_used_2 (by decide) ?_
  refine am_istore_n dX11_used_3 (by decide) ?_
  exact K 8 0 _ _ (by omega)
theorem c_Mused1 {G : am_G} (hG : am_okM G) {d : Nat} {I : am_I} (hI : ∀ k, I 0 64 k = am_dk G.2.2.2.1 k) : am_C G (d + 1) mX11_used [.inr (0, 60), .inl (nI 1)] I (am_E (some (nI 1)) I) := by
  have hn4 := hG.hi
  have hn2 := hG.lo
  have KI : ∀ (g : Nat) (_ : g < 7) (_ : ∀ s5, am_J G (d + 1) mX11_used am_no (am_E (some (nI 1)) I) 87 [some (.inr (0, 60)), some (.inl (nI 1)), some (.inl (nI 1)), some (.inl (nI (g + 1))), some (.inl (nI 16)), s5] [] I), ∀ (m a : Nat) (s5 : Option am_V), a + m = 16 → am_J G (d + 1) mX11_used am_no (am_E (some (nI 1)) I) 13 [some (.inr (0, 60)), some (.inl (nI 1)), some (.inl (nI 1)), some (.inl (nI (g + 1))), some (.inl (nI a)), s5] [] I := by
    intro g hg hk m
    induction m with
    | zero =>
      intro a s5 ha
      obtain rfl : a = 16 := by omega
      refine am_iload dX11_used_13 rfl ?_
      refine am_iload_n dX11_used_15 rfl ?_
      refine am_if_eq (tgt := 24) dX11_used_16 (by decide) (fun h => absurd h (by decide)) (fun _ => ?_)
      refine am_bipush (v := nI 16) dX11_used_19 (by decide) ?_
      refine am_goto (tgt := 26) dX11_used_21 (by decide) ?_
      refine am_icmp_ge (tgt := 87) dX11_used_26 (by decide) (fun _ => ?_) (fun h => absurd ((nI_leI (a := 16) (b := 16) (by omega) (by omega)).mpr (by omega)) h)
      exact hk _
    | succ m ih =>
      intro a s5 ha
      refine am_iload dX11_used_13 rfl ?_
      refine am_iload_n dX11_used_15 rfl ?_
      refine am_if_eq (tgt := 24) dX11_used_16 (by decide) (fun h => absurd h (by decide)) (fun _ => ?_)
      refine am_bipush (v := nI 16) dX11_used_19 (by decide) ?_
      refine am_goto (tgt := 26) dX11_used_21 (by decide) ?_
      refine am_icmp_ge (tgt := 87) dX11_used_26 (by decide) (fun h => absurd ((nI_leI (a := 16) (b := a) (by omega) (by omega)).mp h) (by omega)) (fun _ => ?_)
      refine am_aload_n dX11_used_29 rfl ?_
      refine am_get (v := .inr (0, 64)) dX11_used_30 fl_11_7 (hG.m0 (by decide)) rfl ?_
      refine am_bipush (v := nI 16) dX11_used_33 (by decide) ?_
      refine am_iload_n dX11_used_35 rfl ?_
      refine am_callSx (as := [.inl (nI (g + 1))]) (rest := [.inl (nI 16), .inr (0, 64)]) dX11_used_36 lkX11_mapOf ml_X11_181 isX11_mapOf rfl (Nat.le_of_ble_eq_true rfl) rfl (c_MmapOf hG.nd (g := g + 1) (by omega) I) ?_
      refine am_imul dX11_used_39 ?_
      refine am_top (pk_mul _ _) ?_
      refine am_iload_n dX11_used_40 rfl ?_
      refine am_if_eq (tgt := 48) dX11_used_41 (by decide) (fun h => absurd h (by decide)) (fun _ => ?_)
      refine am_iconst (v := nI 0) dX11_used_44 (by decide) ?_
      refine am_goto (tgt := 55) dX11_used_45 (by decide) ?_
      refine am_iadd dX11_used_55 ?_
      refine am_top (nI_add _ _) ?_
      refine am_iald (a := 16 * (128 + 64 * (g + 1)) + 0) dX11_used_56 (hG.m0 (by decide)) rfl rfl (show 16 * (128 + 64 * (g + 1)) + 0 < 10240 from (by omega)) (show 10240 < 2 ^ 31 by decide) ?_
      refine am_top (show I 0 64 (16 * (128 + 64 * (g + 1)) + 0) = nI 0 from by simp only [hI]; exact am_dk0 (by omega) (by omega) (by omega) (by omega) (by omega)) ?_
      refine am_istore dX11_used_57 (by decide) ?_
      refine am_iload dX11_used_59 rfl ?_
      refine am_iload dX11_used_61 rfl ?_
      refine am_bipush (v := nI 32) dX11_used_63 (by decide) ?_
      refine am_irem dX11_used_65 (by decide) ?_
      refine am_top (pk_rem (by omega) (by omega) (by omega)) ?_
      refine am_ishr dX11_used_66 ?_
      refine am_iconst (v := nI 1) dX11_used_67 (by decide) ?_
      refine am_iand dX11_used_68 ?_
      refine am_top (am_z0 _) ?_
      refine am_iconst (v := nI 1) dX11_used_69 (by decide) ?_
      refine am_icmp_ne (tgt := 79) dX11_used_70 (by decide) (fun _ => ?_) (fun h => absurd h (by decide))
      refine am_iload_n dX11_used_79 rfl ?_
      refine am_istore_n dX11_used_80 (by decide) ?_
      refine am_iinc (v := nI (a + 1)) dX11_used_81 rfl (nI_add _ _) ?_
      refine am_goto (tgt := 13) dX11_used_84 (by decide) ?_
      exact ih (a + 1) _ (by omega)
  have K : ∀ (m g : Nat) (s4 s5 : Option am_V), g + m = 7 → am_J G (d + 1) mX11_used am_no (am_E (some (nI 1)) I) 4 [some (.inr (0, 60)), some (.inl (nI 1)), some (.inl (nI 1)), some (.inl (nI (g + 1))), s4, s5] [] I := by
    intro m
    induction m with
    | zero =>
      intro g s4 s5 ha
      obtain rfl : g = 7 := by omega
      refine am_iload_n dX11_used_4 rfl ?_
      refine am_bipush (v := nI 8) dX11_used_5 (by decide) ?_
      refine am_icmp_ge (tgt := 93) dX11_used_7 (by decide) (fun _ => ?_) (fun h => absurd ((nI_leI (a := 8) (b := 7 + 1) (by omega) (by omega)).mpr (by omega)) h)
      refine am_iload_n dX11_used_93 rfl ?_
      refine am_iret dX11_used_94 rfl rfl ?_
      exact ⟨rfl, rfl⟩
    | succ m ih =>
      intro g s4 s5 ha
      refine am_iload_n dX11_used_4 rfl ?_
      refine am_bipush (v := nI 8) dX11_used_5 (by decide) ?_
      refine am_icmp_ge (tgt := 93) dX11_used_7 (by decide) (fun h => absurd ((nI_leI (a := 8) (b := g + 1) (by omega) (by omega)).mp h) (by omega)) (fun _ => ?_)
      refine am_iconst (v := nI 0) dX11_used_10 (by decide) ?_
      refine am_istore dX11_used_11 (by decide) ?_
      refine KI g (by omega) (fun s5 => ?_) 16 0 _ (by omega)
      refine am_iinc (v := nI (g + 1 + 1)) dX11_used_87 rfl (nI_add _ _) ?_
      refine am_goto (tgt := 4) dX11_used_90 (by decide) ?_
      exact ih (g + 1) _ _ (by omega)
  refine am_of (by decide +kernel) hG.nd (Nat.le_of_ble_eq_true rfl) ?_
  refine am_iconst (v := nI 0) dX11_used_0 (by decide) ?_
  refine am_istore_n dX11_used_1 (by decide) ?_
  refine am_iconst (v := nI 0) dX11_used_2 (by decide) ?_
  refine am_istore_n dX11_used_3 (by decide) ?_
  refine am_iload_n dX11_used_4 rfl ?_
  refine am_bipush (v := nI 8) dX11_used_5 (by decide) ?_
  refine am_icmp_ge (tgt := 93) dX11_used_7 (by decide) (fun h => absurd h (by decide)) (fun _ => ?_)
  refine am_iconst (v := nI 0) dX11_used_10 (by decide) ?_
  refine am_istore dX11_used_11 (by decide) ?_
  refine am_iload dX11_used_13 rfl ?_
  refine am_iload_n dX11_used_15 rfl ?_
  refine am_if_eq (tgt := 24) dX11_used_16 (by decide) (fun h => absurd h (by decide)) (fun _ => ?_)
  refine am_bipush (v := nI 16) dX11_used_19 (by decide) ?_
  refine am_goto (tgt := 26) dX11_used_21 (by decide) ?_
  refine am_icmp_ge (tgt := 87) dX11_used_26 (by decide) (fun h => absurd h (by decide)) (fun _ => ?_)
  refine am_aload_n dX11_used_29 rfl ?_
  refine am_get (v := .inr (0, 64)) dX11_used_30 fl_11_7 (hG.m0 (by decide)) rfl ?_
  refine am_bipush (v := nI 16) dX11_used_33 (by decide) ?_
  refine am_iload_n dX11_used_35 rfl ?_
  refine am_callSx (as := [.inl (nI 0)]) (rest := [.inl (nI 16), .inr (0, 64)]) dX11_used_36 lkX11_mapOf ml_X11_181 isX11_mapOf rfl (Nat.le_of_ble_eq_true rfl) rfl (c_MmapOf hG.nd (g := 0) (by omega) I) ?_
  refine am_imul dX11_used_39 ?_
  refine am_top (show (nI 16) * (nI 128) = nI 2048 by decide) ?_
  refine am_iload_n dX11_used_40 rfl ?_
  refine am_if_eq (tgt := 48) dX11_used_41 (by decide) (fun h => absurd h (by decide)) (fun _ => ?_)
  refine am_iconst (v := nI 0) dX11_used_44 (by decide) ?_
  refine am_goto (tgt := 55) dX11_used_45 (by decide) ?_
  refine am_iadd dX11_used_55 ?_
  refine am_top (show (nI 2048) + (nI 0) = nI 2048 by decide) ?_
  refine am_iald (a := 2048) dX11_used_56 (hG.m0 (by decide)) rfl rfl (show 2048 < 10240 from (by omega)) (show 10240 < 2 ^ 31 by decide) ?_
  refine am_top (show I 0 64 2048 = nI 1 from (by simp [am_up, am_upf, upd, hI, am_dk])) ?_
  refine am_istore dX11_used_57 (by decide) ?_
  refine am_iload dX11_used_59 rfl ?_
  refine am_iload dX11_used_61 rfl ?_
  refine am_bipush (v := nI 32) dX11_used_63 (by decide) ?_
  refine am_irem dX11_used_65 (by decide) ?_
  refine am_top (pk_rem (by omega) (by omega) (by omega)) ?_
  refine am_ishr dX11_used_66 ?_
  refine am_top (show (nI 1) >>> ((nI 0) &&& 31) = nI 1 by decide) ?_
  refine am_iconst (v := nI 1) dX11_used_67 (by decide) ?_
  refine am_iand dX11_used_68 ?_
  refine am_top (show (nI 1) &&& (nI 1) = nI 1 by decide) ?_
  refine am_iconst (v := nI 1) dX11_used_69 (by decide) ?_
  refine am_icmp_ne (tgt := 79) dX11_used_70 (by decide) (fun h => absurd h (by decide)) (fun _ => ?_)
  refine am_iload_n dX11_used_73 rfl ?_
  refine am_iconst (v := nI 1) dX11_used_74 (by decide) ?_
  refine am_iadd dX11_used_75 ?_
  refine am_top (show (nI 0) + (nI 1) = nI 1 by decide) ?_
  refine am_goto (tgt := 80) dX11_used_76 (by decide) ?_
  refine am_istore_n dX11_used_80 (by decide) ?_
  refine am_iinc (v := nI 1) dX11_used_81 rfl (by decide) ?_
  refine am_goto (tgt := 13) dX11_used_84 (by decide) ?_
  refine am_iload dX11_used_13 rfl ?_
  refine am_iload_n dX11_used_15 rfl ?_
  refine am_if_eq (tgt := 24) dX11_used_16 (by decide) (fun h => absurd h (by decide)) (fun _ => ?_)
  refine am_bipush (v := nI 16) dX11_used_19 (by decide) ?_
  refine am_goto (tgt := 26) dX11_used_21 (by decide) ?_
  refine am_icmp_ge (tgt := 87) dX11_used_26 (by decide) (fun h => absurd h (by decide)) (fun _ => ?_)
  refine am_aload_n dX11_used_29 rfl ?_
  refine am_get (v := .inr (0, 64)) dX11_used_30 fl_11_7 (hG.m0 (by decide)) rfl ?_
  refine am_bipush (v := nI 16) dX11_used_33 (by decide) ?_
  refine am_iload_n dX11_used_35 rfl ?_
  refine am_callSx (as := [.inl (nI 0)]) (rest := [.inl (nI 16), .inr (0, 64)]) dX11_used_36 lkX11_mapOf ml_X11_181 isX11_mapOf rfl (Nat.le_of_ble_eq_true rfl) rfl (c_MmapOf hG.nd (g := 0) (by omega) I) ?_
  refine am_imul dX11_used_39 ?_
  refine am_top (show (nI 16) * (nI 128) = nI 2048 by decide) ?_
  refine am_iload_n dX11_used_40 rfl ?_
  refine am_if_eq (tgt := 48) dX11_used_41 (by decide) (fun h => absurd h (by decide)) (fun _ => ?_)
  refine am_iconst (v := nI 0) dX11_used_44 (by decide) ?_
  refine am_goto (tgt := 55) dX11_used_45 (by decide) ?_
  refine am_iadd dX11_used_55 ?_
  refine am_top (show (nI 2048) + (nI 0) = nI 2048 by decide) ?_
  refine am_iald (a := 2048) dX11_used_56 (hG.m0 (by decide)) rfl rfl (show 2048 < 10240 from (by omega)) (show 10240 < 2 ^ 31 by decide) ?_
  refine am_top (show I 0 64 2048 = nI 1 from (by simp [am_up, am_upf, upd, hI, am_dk])) ?_
  refine am_istore dX11_used_57 (by decide) ?_
  refine am_iload dX11_used_59 rfl ?_
  refine am_iload dX11_used_61 rfl ?_
  refine am_bipush (v := nI 32) dX11_used_63 (by decide) ?_
  refine am_irem dX11_used_65 (by decide) ?_
  refine am_top (pk_rem (by omega) (by omega) (by omega)) ?_
  refine am_ishr dX11_used_66 ?_
  refine am_top (show (nI 1) >>> ((nI 1) &&& 31) = nI 0 by decide) ?_
  refine am_iconst (v := nI 1) dX11_used_67 (by decide) ?_
  refine am_iand dX11_used_68 ?_
  refine am_top (show (nI 0) &&& (nI 1) = nI 0 by decide) ?_
  refine am_iconst (v := nI 1) dX11_used_69 (by decide) ?_
  refine am_icmp_ne (tgt := 79) dX11_used_70 (by decide) (fun _ => ?_) (fun h => absurd h (by decide))
  refine am_iload_n dX11_used_79 rfl ?_
  refine am_istore_n dX11_used_80 (by decide) ?_
  refine am_iinc (v := nI 2) dX11_used_81 rfl (by decide) ?_
  refine am_goto (tgt := 13) dX11_used_84 (by decide) ?_
  refine am_iload dX11_used_13 rfl ?_
  refine am_iload_n dX11_used_15 rfl ?_
  refine am_if_eq (tgt := 24) dX11_used_16 (by decide) (fun h => absurd h (by decide)) (fun _ => ?_)
  refine am_bipush (v := nI 16) dX11_used_19 (by decide) ?_
  refine am_goto (tgt := 26) dX11_used_21 (by decide) ?_
  refine am_icmp_ge (tgt := 87) dX11_used_26 (by decide) (fun h => absurd h (by decide)) (fun _ => ?_)
  refine am_aload_n dX11_used_29 rfl ?_
  refine am_get (v := .inr (0, 64)) dX11_used_30 fl_11_7 (hG.m0 (by decide)) rfl ?_
  refine am_bipush (v := nI 16) dX11_used_33 (by decide) ?_
  refine am_iload_n dX11_used_35 rfl ?_
  refine am_callSx (as := [.inl (nI 0)]) (rest := [.inl (nI 16), .inr (0, 64)]) dX11_used_36 lkX11_mapOf ml_X11_181 isX11_mapOf rfl (Nat.le_of_ble_eq_true rfl) rfl (c_MmapOf hG.nd (g := 0) (by omega) I) ?_
  refine am_imul dX11_used_39 ?_
  refine am_top (show (nI 16) * (nI 128) = nI 2048 by decide) ?_
  refine am_iload_n dX11_used_40 rfl ?_
  refine am_if_eq (tgt := 48) dX11_used_41 (by decide) (fun h => absurd h (by decide)) (fun _ => ?_)
  refine am_iconst (v := nI 0) dX11_used_44 (by decide) ?_
  refine am_goto (tgt := 55) dX11_used_45 (by decide) ?_
  refine am_iadd dX11_used_55 ?_
  refine am_top (show (nI 2048) + (nI 0) = nI 2048 by decide) ?_
  refine am_iald (a := 2048) dX11_used_56 (hG.m0 (by decide)) rfl rfl (show 2048 < 10240 from (by omega)) (show 10240 < 2 ^ 31 by decide) ?_
  refine am_top (show I 0 64 2048 = nI 1 from (by simp [am_up, am_upf, upd, hI, am_dk])) ?_
  refine am_istore dX11_used_57 (by decide) ?_
  refine am_iload dX11_used_59 rfl ?_
  refine am_iload dX11_used_61 rfl ?_
  refine am_bipush (v := nI 32) dX11_used_63 (by decide) ?_
  refine am_irem dX11_used_65 (by decide) ?_
  refine am_top (pk_rem (by omega) (by omega) (by omega)) ?_
  refine am_ishr dX11_used_66 ?_
  refine am_top (show (nI 1) >>> ((nI 2) &&& 31) = nI 0 by decide) ?_
  refine am_iconst (v := nI 1) dX11_used_67 (by decide) ?_
  refine am_iand dX11_used_68 ?_
  refine am_top (show (nI 0) &&& (nI 1) = nI 0 by decide) ?_
  refine am_iconst (v := nI 1) dX11_used_69 (by decide) ?_
  refine am_icmp_ne (tgt := 79) dX11_used_70 (by decide) (fun _ => ?_) (fun h => absurd h (by decide))
  refine am_iload_n dX11_used_79 rfl ?_
  refine am_istore_n dX11_used_80 (by decide) ?_
  refine am_iinc (v := nI 3) dX11_used_81 rfl (by decide) ?_
  refine am_goto (tgt := 13) dX11_used_84 (by decide) ?_
  refine am_iload dX11_used_13 rfl ?_
  refine am_iload_n dX11_used_15 rfl ?_
  refine am_if_eq (tgt := 24) dX11_used_16 (by decide) (fun h => absurd h (by decide)) (fun _ => ?_)
  refine am_bipush (v := nI 16) dX11_used_19 (by decide) ?_
  refine am_goto (tgt := 26) dX11_used_21 (by decide) ?_
  refine am_icmp_ge (tgt := 87) dX11_used_26 (by decide) (fun h => absurd h (by decide)) (fun _ => ?_)
  refine am_aload_n dX11_used_29 rfl ?_
  refine am_get (v := .inr (0, 64)) dX11_used_30 fl_11_7 (hG.m0 (by decide)) rfl ?_
  refine am_bipush (v := nI 16) dX11_used_33 (by decide) ?_
  refine am_iload_n dX11_used_35 rfl ?_
  refine am_callSx (as := [.inl (nI 0)]) (rest := [.inl (nI 16), .inr (0, 64)]) dX11_used_36 lkX11_mapOf ml_X11_181 isX11_mapOf rfl (Nat.le_of_ble_eq_true rfl) rfl (c_MmapOf hG.nd (g := 0) (by omega) I) ?_
  refine am_imul dX11_used_39 ?_
  refine am_top (show (nI 16) * (nI 128) = nI 2048 by decide) ?_
  refine am_iload_n dX11_used_40 rfl ?_
  refine am_if_eq (tgt := 48) dX11_used_41 (by decide) (fun h => absurd h (by decide)) (fun _ => ?_)
  refine am_iconst (v := nI 0) dX11_used_44 (by decide) ?_
  refine am_goto (tgt := 55) dX11_used_45 (by decide) ?_
  refine am_iadd dX11_used_55 ?_
  refine am_top (show (nI 2048) + (nI 0) = nI 2048 by decide) ?_
  refine am_iald (a := 2048) dX11_used_56 (hG.m0 (by decide)) rfl rfl (show 2048 < 10240 from (by omega)) (show 10240 < 2 ^ 31 by decide) ?_
  refine am_top (show I 0 64 2048 = nI 1 from (by simp [am_up, am_upf, upd, hI, am_dk])) ?_
  refine am_istore dX11_used_57 (by decide) ?_
  refine am_iload dX11_used_59 rfl ?_
  refine am_iload dX11_used_61 rfl ?_
  refine am_bipush (v := nI 32) dX11_used_63 (by decide) ?_
  refine am_irem dX11_used_65 (by decide) ?_
  refine am_top (pk_rem (by omega) (by omega) (by omega)) ?_
  refine am_ishr dX11_used_66 ?_
  refine am_top (show (nI 1) >>> ((nI 3) &&& 31) = nI 0 by decide) ?_
  refine am_iconst (v := nI 1) dX11_used_67 (by decide) ?_
  refine am_iand dX11_used_68 ?_
  refine am_top (show (nI 0) &&& (nI 1) = nI 0 by decide) ?_
  refine am_iconst (v := nI 1) dX11_used_69 (by decide) ?_
  refine am_icmp_ne (tgt := 79) dX11_used_70 (by decide) (fun _ => ?_) (fun h => absurd h (by decide))
  refine am_iload_n dX11_used_79 rfl ?_
  refine am_istore_n dX11_used_80 (by decide) ?_
  refine am_iinc (v := nI 4) dX11_used_81 rfl (by decide) ?_
  refine am_goto (tgt := 13) dX11_used_84 (by decide) ?_
  refine am_iload dX11_used_13 rfl ?_
  refine am_iload_n dX11_used_15 rfl ?_
  refine am_if_eq (tgt := 24) dX11_used_16 (by decide) (fun h => absurd h (by decide)) (fun _ => ?_)
  refine am_bipush (v := nI 16) dX11_used_19 (by decide) ?_
  refine am_goto (tgt := 26) dX11_used_21 (by decide) ?_
  refine am_icmp_ge (tgt := 87) dX11_used_26 (by decide) (fun h => absurd h (by decide)) (fun _ => ?_)
  refine am_aload_n dX11_used_29 rfl ?_
  refine am_get (v := .inr (0, 64)) dX11_used_30 fl_11_7 (hG.m0 (by decide)) rfl ?_
  refine am_bipush (v := nI 16) dX11_used_33 (by decide) ?_
  refine am_iload_n dX11_used_35 rfl ?_
  refine am_callSx (as := [.inl (nI 0)]) (rest := [.inl (nI 16), .inr (0, 64)]) dX11_used_36 lkX11_mapOf ml_X11_181 isX11_mapOf rfl (Nat.le_of_ble_eq_true rfl) rfl (c_MmapOf hG.nd (g := 0) (by omega) I) ?_
  refine am_imul dX11_used_39 ?_
  refine am_top (show (nI 16) * (nI 128) = nI 2048 by decide) ?_
  refine am_iload_n dX11_used_40 rfl ?_
  refine am_if_eq (tgt := 48) dX11_used_41 (by decide) (fun h => absurd h (by decide)) (fun _ => ?_)
  refine am_iconst (v := nI 0) dX11_used_44 (by decide) ?_
  refine am_goto (tgt := 55) dX11_used_45 (by decide) ?_
  refine am_iadd dX11_used_55 ?_
  refine am_top (show (nI 2048) + (nI 0) = nI 2048 by decide) ?_
  refine am_iald (a := 2048) dX11_used_56 (hG.m0 (by decide)) rfl rfl (show 2048 < 10240 from (by omega)) (show 10240 < 2 ^ 31 by decide) ?_
  refine am_top (show I 0 64 2048 = nI 1 from (by simp [am_up, am_upf, upd, hI, am_dk])) ?_
  refine am_istore dX11_used_57 (by decide) ?_
  refine am_iload dX11_used_59 rfl ?_
  refine am_iload dX11_used_61 rfl ?_
  refine am_bipush (v := nI 32) dX11_used_63 (by decide) ?_
  refine am_irem dX11_used_65 (by decide) ?_
  refine am_top (pk_rem (by omega) (by omega) (by omega)) ?_
  refine am_ishr dX11_used_66 ?_
  refine am_top (show (nI 1) >>> ((nI 4) &&& 31) = nI 0 by decide) ?_
  refine am_iconst (v := nI 1) dX11_used_67 (by decide) ?_
  refine am_iand dX11_used_68 ?_
  refine am_top (show (nI 0) &&& (nI 1) = nI 0 by decide) ?_
  refine am_iconst (v := nI 1) dX11_used_69 (by decide) ?_
  refine am_icmp_ne (tgt := 79) dX11_used_70 (by decide) (fun _ => ?_) (fun h => absurd h (by decide))
  refine am_iload_n dX11_used_79 rfl ?_
  refine am_istore_n dX11_used_80 (by decide) ?_
  refine am_iinc (v := nI 5) dX11_used_81 rfl (by decide) ?_
  refine am_goto (tgt := 13) dX11_used_84 (by decide) ?_
  refine am_iload dX11_used_13 rfl ?_
  refine am_iload_n dX11_used_15 rfl ?_
  refine am_if_eq (tgt := 24) dX11_used_16 (by decide) (fun h => absurd h (by decide)) (fun _ => ?_)
  refine am_bipush (v := nI 16) dX11_used_19 (by decide) ?_
  refine am_goto (tgt := 26) dX11_used_21 (by decide) ?_
  refine am_icmp_ge (tgt := 87) dX11_used_26 (by decide) (fun h => absurd h (by decide)) (fun _ => ?_)
  refine am_aload_n dX11_used_29 rfl ?_
  refine am_get (v := .inr (0, 64)) dX11_used_30 fl_11_7 (hG.m0 (by decide)) rfl ?_
  refine am_bipush (v := nI 16) dX11_used_33 (by decide) ?_
  refine am_iload_n dX11_used_35 rfl ?_
  refine am_callSx (as := [.inl (nI 0)]) (rest := [.inl (nI 16), .inr (0, 64)]) dX11_used_36 lkX11_mapOf ml_X11_181 isX11_mapOf rfl (Nat.le_of_ble_eq_true rfl) rfl (c_MmapOf hG.nd (g := 0) (by omega) I) ?_
  refine am_imul dX11_used_39 ?_
  refine am_top (show (nI 16) * (nI 128) = nI 2048 by decide) ?_
  refine am_iload_n dX11_used_40 rfl ?_
  refine am_if_eq (tgt := 48) dX11_used_41 (by decide) (fun h => absurd h (by decide)) (fun _ => ?_)
  refine am_iconst (v := nI 0) dX11_used_44 (by decide) ?_
  refine am_goto (tgt := 55) dX11_used_45 (by decide) ?_
  refine am_iadd dX11_used_55 ?_
  refine am_top (show (nI 2048) + (nI 0) = nI 2048 by decide) ?_
  refine am_iald (a := 2048) dX11_used_56 (hG.m0 (by decide)) rfl rfl (show 2048 < 10240 from (by omega)) (show 10240 < 2 ^ 31 by decide) ?_
  refine am_top (show I 0 64 2048 = nI 1 from (by simp [am_up, am_upf, upd, hI, am_dk])) ?_
  refine am_istore dX11_used_57 (by decide) ?_
  refine am_iload dX11_used_59 rfl ?_
  refine am_iload dX11_used_61 rfl ?_
  refine am_bipush (v := nI 32) dX11_used_63 (by decide) ?_
  refine am_irem dX11_used_65 (by decide) ?_
  refine am_top (pk_rem (by omega) (by omega) (by omega)) ?_
  refine am_ishr dX11_used_66 ?_
  refine am_top (show (nI 1) >>> ((nI 5) &&& 31) = nI 0 by decide) ?_
  refine am_iconst (v := nI 1) dX11_used_67 (by decide) ?_
  refine am_iand dX11_used_68 ?_
  refine am_top (show (nI 0) &&& (nI 1) = nI 0 by decide) ?_
  refine am_iconst (v := nI 1) dX11_used_69 (by decide) ?_
  refine am_icmp_ne (tgt := 79) dX11_used_70 (by decide) (fun _ => ?_) (fun h => absurd h (by decide))
  refine am_iload_n dX11_used_79 rfl ?_
  refine am_istore_n dX11_used_80 (by decide) ?_
  refine am_iinc (v := nI 6) dX11_used_81 rfl (by decide) ?_
  refine am_goto (tgt := 13) dX11_used_84 (by decide) ?_
  refine am_iload dX11_used_13 rfl ?_
  refine am_iload_n dX11_used_15 rfl ?_
  refine am_if_eq (tgt := 24) dX11_used_16 (by decide) (fun h => absurd h (by decide)) (fun _ => ?_)
  refine am_bipush (v := nI 16) dX11_used_19 (by decide) ?_
  refine am_goto (tgt := 26) dX11_used_21 (by decide) ?_
  refine am_icmp_ge (tgt := 87) dX11_used_26 (by decide) (fun h => absurd h (by decide)) (fun _ => ?_)
  refine am_aload_n dX11_used_29 rfl ?_
  refine am_get (v := .inr (0, 64)) dX11_used_30 fl_11_7 (hG.m0 (by decide)) rfl ?_
  refine am_bipush (v := nI 16) dX11_used_33 (by decide) ?_
  refine am_iload_n dX11_used_35 rfl ?_
  refine am_callSx (as := [.inl (nI 0)]) (rest := [.inl (nI 16), .inr (0, 64)]) dX11_used_36 lkX11_mapOf ml_X11_181 isX11_mapOf rfl (Nat.le_of_ble_eq_true rfl) rfl (c_MmapOf hG.nd (g := 0) (by omega) I) ?_
  refine am_imul dX11_used_39 ?_
  refine am_top (show (nI 16) * (nI 128) = nI 2048 by decide) ?_
  refine am_iload_n dX11_used_40 rfl ?_
  refine am_if_eq (tgt := 48) dX11_used_41 (by decide) (fun h => absurd h (by decide)) (fun _ => ?_)
  refine am_iconst (v := nI 0) dX11_used_44 (by decide) ?_
  refine am_goto (tgt := 55) dX11_used_45 (by decide) ?_
  refine am_iadd dX11_used_55 ?_
  refine am_top (show (nI 2048) + (nI 0) = nI 2048 by decide) ?_
  refine am_iald (a := 2048) dX11_used_56 (hG.m0 (by decide)) rfl rfl (show 2048 < 10240 from (by omega)) (show 10240 < 2 ^ 31 by decide) ?_
  refine am_top (show I 0 64 2048 = nI 1 from (by simp [am_up, am_upf, upd, hI, am_dk])) ?_
  refine am_istore dX11_used_57 (by decide) ?_
  refine am_iload dX11_used_59 rfl ?_
  refine am_iload dX11_used_61 rfl ?_
  refine am_bipush (v := nI 32) dX11_used_63 (by decide) ?_
  refine am_irem dX11_used_65 (by decide) ?_
  refine am_top (pk_rem (by omega) (by omega) (by omega)) ?_
  refine am_ishr dX11_used_66 ?_
  refine am_top (show (nI 1) >>> ((nI 6) &&& 31) = nI 0 by decide) ?_
  refine am_iconst (v := nI 1) dX11_used_67 (by decide) ?_
  refine am_iand dX11_used_68 ?_
  refine am_top (show (nI 0) &&& (nI 1) = nI 0 by decide) ?_
  refine am_iconst (v := nI 1) dX11_used_69 (by decide) ?_
  refine am_icmp_ne (tgt := 79) dX11_used_70 (by decide) (fun _ => ?_) (fun h => absurd h (by decide))
  refine am_iload_n dX11_used_79 rfl ?_
  refine am_istore_n dX11_used_80 (by decide) ?_
  refine am_iinc (v := nI 7) dX11_used_81 rfl (by decide) ?_
  refine am_goto (tgt := 13) dX11_used_84 (by decide) ?_
  refine am_iload dX11_used_13 rfl ?_
  refine am_iload_n dX11_used_15 rfl ?_
  refine am_if_eq (tgt := 24) dX11_used_16 (by decide) (fun h => absurd h (by decide)) (fun _ => ?_)
  refine am_bipush (v := nI 16) dX11_used_19 (by decide) ?_
  refine am_goto (tgt := 26) dX11_used_21 (by decide) ?_
  refine am_icmp_ge (tgt := 87) dX11_used_26 (by decide) (fun h => absurd h (by decide)) (fun _ => ?_)
  refine am_aload_n dX11_used_29 rfl ?_
  refine am_get (v := .inr (0, 64)) dX11_used_30 fl_11_7 (hG.m0 (by decide)) rfl ?_
  refine am_bipush (v := nI 16) dX11_used_33 (by decide) ?_
  refine am_iload_n dX11_used_35 rfl ?_
  refine am_callSx (as := [.inl (nI 0)]) (rest := [.inl (nI 16), .inr (0, 64)]) dX11_used_36 lkX11_mapOf ml_X11_181 isX11_mapOf rfl (Nat.le_of_ble_eq_true rfl) rfl (c_MmapOf hG.nd (g := 0) (by omega) I) ?_
  refine am_imul dX11_used_39 ?_
  refine am_top (show (nI 16) * (nI 128) = nI 2048 by decide) ?_
  refine am_iload_n dX11_used_40 rfl ?_
  refine am_if_eq (tgt := 48) dX11_used_41 (by decide) (fun h => absurd h (by decide)) (fun _ => ?_)
  refine am_iconst (v := nI 0) dX11_used_44 (by decide) ?_
  refine am_goto (tgt := 55) dX11_used_45 (by decide) ?_
  refine am_iadd dX11_used_55 ?_
  refine am_top (show (nI 2048) + (nI 0) = nI 2048 by decide) ?_
  refine am_iald (a := 2048) dX11_used_56 (hG.m0 (by decide)) rfl rfl (show 2048 < 10240 from (by omega)) (show 10240 < 2 ^ 31 by decide) ?_
  refine am_top (show I 0 64 2048 = nI 1 from (by simp [am_up, am_upf, upd, hI, am_dk])) ?_
  refine am_istore dX11_used_57 (by decide) ?_
  refine am_iload dX11_used_59 rfl ?_
  refine am_iload dX11_used_61 rfl ?_
  refine am_bipush (v := nI 32) dX11_used_63 (by decide) ?_
  refine am_irem dX11_used_65 (by decide) ?_
  refine am_top (pk_rem (by omega) (by omega) (by omega)) ?_
  refine am_ishr dX11_used_66 ?_
  refine am_top (show (nI 1) >>> ((nI 7) &&& 31) = nI 0 by decide) ?_
  refine am_iconst (v := nI 1) dX11_used_67 (by decide) ?_
  refine am_iand dX11_used_68 ?_
  refine am_top (show (nI 0) &&& (nI 1) = nI 0 by decide) ?_
  refine am_iconst (v := nI 1) dX11_used_69 (by decide) ?_
  refine am_icmp_ne (tgt := 79) dX11_used_70 (by decide) (fun _ => ?_) (fun h => absurd h (by decide))
  refine am_iload_n dX11_used_79 rfl ?_
  refine am_istore_n dX11_used_80 (by decide) ?_
  refine am_iinc (v := nI 8) dX11_used_81 rfl (by decide) ?_
  refine am_goto (tgt := 13) dX11_used_84 (by decide) ?_
  refine am_iload dX11_used_13 rfl ?_
  refine am_iload_n dX11_used_15 rfl ?_
  refine am_if_eq (tgt := 24) dX11_used_16 (by decide) (fun h => absurd h (by decide)) (fun _ => ?_)
  refine am_bipush (v := nI 16) dX11_used_19 (by decide) ?_
  refine am_goto (tgt := 26) dX11_used_21 (by decide) ?_
  refine am_icmp_ge (tgt := 87) dX11_used_26 (by decide) (fun h => absurd h (by decide)) (fun _ => ?_)
  refine am_aload_n dX11_used_29 rfl ?_
  refine am_get (v := .inr (0, 64)) dX11_used_30 fl_11_7 (hG.m0 (by decide)) rfl ?_
  refine am_bipush (v := nI 16) dX11_used_33 (by decide) ?_
  refine am_iload_n dX11_used_35 rfl ?_
  refine am_callSx (as := [.inl (nI 0)]) (rest := [.inl (nI 16), .inr (0, 64)]) dX11_used_36 lkX11_mapOf ml_X11_181 isX11_mapOf rfl (Nat.le_of_ble_eq_true rfl) rfl (c_MmapOf hG.nd (g := 0) (by omega) I) ?_
  refine am_imul dX11_used_39 ?_
  refine am_top (show (nI 16) * (nI 128) = nI 2048 by decide) ?_
  refine am_iload_n dX11_used_40 rfl ?_
  refine am_if_eq (tgt := 48) dX11_used_41 (by decide) (fun h => absurd h (by decide)) (fun _ => ?_)
  refine am_iconst (v := nI 0) dX11_used_44 (by decide) ?_
  refine am_goto (tgt := 55) dX11_used_45 (by decide) ?_
  refine am_iadd dX11_used_55 ?_
  refine am_top (show (nI 2048) + (nI 0) = nI 2048 by decide) ?_
  refine am_iald (a := 2048) dX11_used_56 (hG.m0 (by decide)) rfl rfl (show 2048 < 10240 from (by omega)) (show 10240 < 2 ^ 31 by decide) ?_
  refine am_top (show I 0 64 2048 = nI 1 from (by simp [am_up, am_upf, upd, hI, am_dk])) ?_
  refine am_istore dX11_used_57 (by decide) ?_
  refine am_iload dX11_used_59 rfl ?_
  refine am_iload dX11_used_61 rfl ?_
  refine am_bipush (v := nI 32) dX11_used_63 (by decide) ?_
  refine am_irem dX11_used_65 (by decide) ?_
  refine am_top (pk_rem (by omega) (by omega) (by omega)) ?_
  refine am_ishr dX11_used_66 ?_
  refine am_top (show (nI 1) >>> ((nI 8) &&& 31) = nI 0 by decide) ?_
  refine am_iconst (v := nI 1) dX11_used_67 (by decide) ?_
  refine am_iand dX11_used_68 ?_
  refine am_top (show (nI 0) &&& (nI 1) = nI 0 by decide) ?_
  refine am_iconst (v := nI 1) dX11_used_69 (by decide) ?_
  refine am_icmp_ne (tgt := 79) dX11_used_70 (by decide) (fun _ => ?_) (fun h => absurd h (by decide))
  refine am_iload_n dX11_used_79 rfl ?_
  refine am_istore_n dX11_used_80 (by decide) ?_
  refine am_iinc (v := nI 9) dX11_used_81 rfl (by decide) ?_
  refine am_goto (tgt := 13) dX11_used_84 (by decide) ?_
  refine am_iload dX11_used_13 rfl ?_
  refine am_iload_n dX11_used_15 rfl ?_
  refine am_if_eq (tgt := 24) dX11_used_16 (by decide) (fun h => absurd h (by decide)) (fun _ => ?_)
  refine am_bipush (v := nI 16) dX11_used_19 (by decide) ?_
  refine am_goto (tgt := 26) dX11_used_21 (by decide) ?_
  refine am_icmp_ge (tgt := 87) dX11_used_26 (by decide) (fun h => absurd h (by decide)) (fun _ => ?_)
  refine am_aload_n dX11_used_29 rfl ?_
  refine am_get (v := .inr (0, 64)) dX11_used_30 fl_11_7 (hG.m0 (by decide)) rfl ?_
  refine am_bipush (v := nI 16) dX11_used_33 (by decide) ?_
  refine am_iload_n dX11_used_35 rfl ?_
  refine am_callSx (as := [.inl (nI 0)]) (rest := [.inl (nI 16), .inr (0, 64)]) dX11_used_36 lkX11_mapOf ml_X11_181 isX11_mapOf rfl (Nat.le_of_ble_eq_true rfl) rfl (c_MmapOf hG.nd (g := 0) (by omega) I) ?_
  refine am_imul dX11_used_39 ?_
  refine am_top (show (nI 16) * (nI 128) = nI 2048 by decide) ?_
  refine am_iload_n dX11_used_40 rfl ?_
  refine am_if_eq (tgt := 48) dX11_used_41 (by decide) (fun h => absurd h (by decide)) (fun _ => ?_)
  refine am_iconst (v := nI 0) dX11_used_44 (by decide) ?_
  refine am_goto (tgt := 55) dX11_used_45 (by decide) ?_
  refine am_iadd dX11_used_55 ?_
  refine am_top (show (nI 2048) + (nI 0) = nI 2048 by decide) ?_
  refine am_iald (a := 2048) dX11_used_56 (hG.m0 (by decide)) rfl rfl (show 2048 < 10240 from (by omega)) (show 10240 < 2 ^ 31 by decide) ?_
  refine am_top (show I 0 64 2048 = nI 1 from (by simp [am_up, am_upf, upd, hI, am_dk])) ?_
  refine am_istore dX11_used_57 (by decide) ?_
  refine am_iload dX11_used_59 rfl ?_
  refine am_iload dX11_used_61 rfl ?_
  refine am_bipush (v := nI 32) dX11_used_63 (by decide) ?_
  refine am_irem dX11_used_65 (by decide) ?_
  refine am_top (pk_rem (by omega) (by omega) (by omega)) ?_
  refine am_ishr dX11_used_66 ?_
  refine am_top (show (nI 1) >>> ((nI 9) &&& 31) = nI 0 by decide) ?_
  refine am_iconst (v := nI 1) dX11_used_67 (by decide) ?_
  refine am_iand dX11_used_68 ?_
  refine am_top (show (nI 0) &&& (nI 1) = nI 0 by decide) ?_
  refine am_iconst (v := nI 1) dX11_used_69 (by decide) ?_
  refine am_icmp_ne (tgt := 79) dX11_used_70 (by decide) (fun _ => ?_) (fun h => absurd h (by decide))
  refine am_iload_n dX11_used_79 rfl ?_
  refine am_istore_n dX11_used_80 (by decide) ?_
  refine am_iinc (v := nI 10) dX11_used_81 rfl (by decide) ?_
  refine am_goto (tgt := 13) dX11_used_84 (by decide) ?_
  refine am_iload dX11_used_13 rfl ?_
  refine am_iload_n dX11_used_15 rfl ?_
  refine am_if_eq (tgt := 24) dX11_used_16 (by decide) (fun h => absurd h (by decide)) (fun _ => ?_)
  refine am_bipush (v := nI 16) dX11_used_19 (by decide) ?_
  refine am_goto (tgt := 26) dX11_used_21 (by decide) ?_
  refine am_icmp_ge (tgt := 87) dX11_used_26 (by decide) (fun h => absurd h (by decide)) (fun _ => ?_)
  refine am_aload_n dX11_used_29 rfl ?_
  refine am_get (v := .inr (0, 64)) dX11_used_30 fl_11_7 (hG.m0 (by decide)) rfl ?_
  refine am_bipush (v := nI 16) dX11_used_33 (by decide) ?_
  refine am_iload_n dX11_used_35 rfl ?_
  refine am_callSx (as := [.inl (nI 0)]) (rest := [.inl (nI 16), .inr (0, 64)]) dX11_used_36 lkX11_mapOf ml_X11_181 isX11_mapOf rfl (Nat.le_of_ble_eq_true rfl) rfl (c_MmapOf hG.nd (g := 0) (by omega) I) ?_
  refine am_imul dX11_used_39 ?_
  refine am_top (show (nI 16) * (nI 128) = nI 2048 by decide) ?_
  refine am_iload_n dX11_used_40 rfl ?_
  refine am_if_eq (tgt := 48) dX11_used_41 (by decide) (fun h => absurd h (by decide)) (fun _ => ?_)
  refine am_iconst (v := nI 0) dX11_used_44 (by decide) ?_
  refine am_goto (tgt := 55) dX11_used_45 (by decide) ?_
  refine am_iadd dX11_used_55 ?_
  refine am_top (show (nI 2048) + (nI 0) = nI 2048 by decide) ?_
  refine am_iald (a := 2048) dX11_used_56 (hG.m0 (by decide)) rfl rfl (show 2048 < 10240 from (by omega)) (show 10240 < 2 ^ 31 by decide) ?_
  refine am_top (show I 0 64 2048 = nI 1 from (by simp [am_up, am_upf, upd, hI, am_dk])) ?_
  refine am_istore dX11_used_57 (by decide) ?_
  refine am_iload dX11_used_59 rfl ?_
  refine am_iload dX11_used_61 rfl ?_
  refine am_bipush (v := nI 32) dX11_used_63 (by decide) ?_
  refine am_irem dX11_used_65 (by decide) ?_
  refine am_top (pk_rem (by omega) (by omega) (by omega)) ?_
  refine am_ishr dX11_used_66 ?_
  refine am_top (show (nI 1) >>> ((nI 10) &&& 31) = nI 0 by decide) ?_
  refine am_iconst (v := nI 1) dX11_used_67 (by decide) ?_
  refine am_iand dX11_used_68 ?_
  refine am_top (show (nI 0) &&& (nI 1) = nI 0 by decide) ?_
  refine am_iconst (v := nI 1) dX11_used_69 (by decide) ?_
  refine am_icmp_ne (tgt := 79) dX11_used_70 (by decide) (fun _ => ?_) (fun h => absurd h (by decide))
  refine am_iload_n dX11_used_79 rfl ?_
  refine am_istore_n dX11_used_80 (by decide) ?_
  refine am_iinc (v := nI 11) dX11_used_81 rfl (by decide) ?_
  refine am_goto (tgt := 13) dX11_used_84 (by decide) ?_
  refine am_iload dX11_used_13 rfl ?_
  refine am_iload_n dX11_used_15 rfl ?_
  refine am_if_eq (tgt := 24) dX11_used_16 (by decide) (fun h => absurd h (by decide)) (fun _ => ?_)
  refine am_bipush (v := nI 16) dX11_used_19 (by decide) ?_
  refine am_goto (tgt := 26) dX11_used_21 (by decide) ?_
  refine am_icmp_ge (tgt := 87) dX11_used_26 (by decide) (fun h => absurd h (by decide)) (fun _ => ?_)
  refine am_aload_n dX11_used_29 rfl ?_
  refine am_get (v := .inr (0, 64)) dX11_used_30 fl_11_7 (hG.m0 (by decide)) rfl ?_
  refine am_bipush (v := nI 16) dX11_used_33 (by decide) ?_
  refine am_iload_n dX11_used_35 rfl ?_
  refine am_callSx (as := [.inl (nI 0)]) (rest := [.inl (nI 16), .inr (0, 64)]) dX11_used_36 lkX11_mapOf ml_X11_181 isX11_mapOf rfl (Nat.le_of_ble_eq_true rfl) rfl (c_MmapOf hG.nd (g := 0) (by omega) I) ?_
  refine am_imul dX11_used_39 ?_
  refine am_top (show (nI 16) * (nI 128) = nI 2048 by decide) ?_
  refine am_iload_n dX11_used_40 rfl ?_
  refine am_if_eq (tgt := 48) dX11_used_41 (by decide) (fun h => absurd h (by decide)) (fun _ => ?_)
  refine am_iconst (v := nI 0) dX11_used_44 (by decide) ?_
  refine am_goto (tgt := 55) dX11_used_45 (by decide) ?_
  refine am_iadd dX11_used_55 ?_
  refine am_top (show (nI 2048) + (nI 0) = nI 2048 by decide) ?_
  refine am_iald (a := 2048) dX11_used_56 (hG.m0 (by decide)) rfl rfl (show 2048 < 10240 from (by omega)) (show 10240 < 2 ^ 31 by decide) ?_
  refine am_top (show I 0 64 2048 = nI 1 from (by simp [am_up, am_upf, upd, hI, am_dk])) ?_
  refine am_istore dX11_used_57 (by decide) ?_
  refine am_iload dX11_used_59 rfl ?_
  refine am_iload dX11_used_61 rfl ?_
  refine am_bipush (v := nI 32) dX11_used_63 (by decide) ?_
  refine am_irem dX11_used_65 (by decide) ?_
  refine am_top (pk_rem (by omega) (by omega) (by omega)) ?_
  refine am_ishr dX11_used_66 ?_
  refine am_top (show (nI 1) >>> ((nI 11) &&& 31) = nI 0 by decide) ?_
  refine am_iconst (v := nI 1) dX11_used_67 (by decide) ?_
  refine am_iand dX11_used_68 ?_
  refine am_top (show (nI 0) &&& (nI 1) = nI 0 by decide) ?_
  refine am_iconst (v := nI 1) dX11_used_69 (by decide) ?_
  refine am_icmp_ne (tgt := 79) dX11_used_70 (by decide) (fun _ => ?_) (fun h => absurd h (by decide))
  refine am_iload_n dX11_used_79 rfl ?_
  refine am_istore_n dX11_used_80 (by decide) ?_
  refine am_iinc (v := nI 12) dX11_used_81 rfl (by decide) ?_
  refine am_goto (tgt := 13) dX11_used_84 (by decide) ?_
  refine am_iload dX11_used_13 rfl ?_
  refine am_iload_n dX11_used_15 rfl ?_
  refine am_if_eq (tgt := 24) dX11_used_16 (by decide) (fun h => absurd h (by decide)) (fun _ => ?_)
  refine am_bipush (v := nI 16) dX11_used_19 (by decide) ?_
  refine am_goto (tgt := 26) dX11_used_21 (by decide) ?_
  refine am_icmp_ge (tgt := 87) dX11_used_26 (by decide) (fun h => absurd h (by decide)) (fun _ => ?_)
  refine am_aload_n dX11_used_29 rfl ?_
  refine am_get (v := .inr (0, 64)) dX11_used_30 fl_11_7 (hG.m0 (by decide)) rfl ?_
  refine am_bipush (v := nI 16) dX11_used_33 (by decide) ?_
  refine am_iload_n dX11_used_35 rfl ?_
  refine am_callSx (as := [.inl (nI 0)]) (rest := [.inl (nI 16), .inr (0, 64)]) dX11_used_36 lkX11_mapOf ml_X11_181 isX11_mapOf rfl (Nat.le_of_ble_eq_true rfl) rfl (c_MmapOf hG.nd (g := 0) (by omega) I) ?_
  refine am_imul dX11_used_39 ?_
  refine am_top (show (nI 16) * (nI 128) = nI 2048 by decide) ?_
  refine am_iload_n dX11_used_40 rfl ?_
  refine am_if_eq (tgt := 48) dX11_used_41 (by decide) (fun h => absurd h (by decide)) (fun _ => ?_)
  refine am_iconst (v := nI 0) dX11_used_44 (by decide) ?_
  refine am_goto (tgt := 55) dX11_used_45 (by decide) ?_
  refine am_iadd dX11_used_55 ?_
  refine am_top (show (nI 2048) + (nI 0) = nI 2048 by decide) ?_
  refine am_iald (a := 2048) dX11_used_56 (hG.m0 (by decide)) rfl rfl (show 2048 < 10240 from (by omega)) (show 10240 < 2 ^ 31 by decide) ?_
  refine am_top (show I 0 64 2048 = nI 1 from (by simp [am_up, am_upf, upd, hI, am_dk])) ?_
  refine am_istore dX11_used_57 (by decide) ?_
  refine am_iload dX11_used_59 rfl ?_
  refine am_iload dX11_used_61 rfl ?_
  refine am_bipush (v := nI 32) dX11_used_63 (by decide) ?_
  refine am_irem dX11_used_65 (by decide) ?_
  refine am_top (pk_rem (by omega) (by omega) (by omega)) ?_
  refine am_ishr dX11_used_66 ?_
  refine am_top (show (nI 1) >>> ((nI 12) &&& 31) = nI 0 by decide) ?_
  refine am_iconst (v := nI 1) dX11_used_67 (by decide) ?_
  refine am_iand dX11_used_68 ?_
  refine am_top (show (nI 0) &&& (nI 1) = nI 0 by decide) ?_
  refine am_iconst (v := nI 1) dX11_used_69 (by decide) ?_
  refine am_icmp_ne (tgt := 79) dX11_used_70 (by decide) (fun _ => ?_) (fun h => absurd h (by decide))
  refine am_iload_n dX11_used_79 rfl ?_
  refine am_istore_n dX11_used_80 (by decide) ?_
  refine am_iinc (v := nI 13) dX11_used_81 rfl (by decide) ?_
  refine am_goto (tgt := 13) dX11_used_84 (by decide) ?_
  refine am_iload dX11_used_13 rfl ?_
  refine am_iload_n dX11_used_15 rfl ?_
  refine am_if_eq (tgt := 24) dX11_used_16 (by decide) (fun h => absurd h (by decide)) (fun _ => ?_)
  refine am_bipush (v := nI 16) dX11_used_19 (by decide) ?_
  refine am_goto (tgt := 26) dX11_used_21 (by decide) ?_
  refine am_icmp_ge (tgt := 87) dX11_used_26 (by decide) (fun h => absurd h (by decide)) (fun _ => ?_)
  refine am_aload_n dX11_used_29 rfl ?_
  refine am_get (v := .inr (0, 64)) dX11_used_30 fl_11_7 (hG.m0 (by decide)) rfl ?_
  refine am_bipush (v := nI 16) dX11_used_33 (by decide) ?_
  refine am_iload_n dX11_used_35 rfl ?_
  refine am_callSx (as := [.inl (nI 0)]) (rest := [.inl (nI 16), .inr (0, 64)]) dX11_used_36 lkX11_mapOf ml_X11_181 isX11_mapOf rfl (Nat.le_of_ble_eq_true rfl) rfl (c_MmapOf hG.nd (g := 0) (by omega) I) ?_
  refine am_imul dX11_used_39 ?_
  refine am_top (show (nI 16) * (nI 128) = nI 2048 by decide) ?_
  refine am_iload_n dX11_used_40 rfl ?_
  refine am_if_eq (tgt := 48) dX11_used_41 (by decide) (fun h => absurd h (by decide)) (fun _ => ?_)
  refine am_iconst (v := nI 0) dX11_used_44 (by decide) ?_
  refine am_goto (tgt := 55) dX11_used_45 (by decide) ?_
  refine am_iadd dX11_used_55 ?_
  refine am_top (show (nI 2048) + (nI 0) = nI 2048 by decide) ?_
  refine am_iald (a := 2048) dX11_used_56 (hG.m0 (by decide)) rfl rfl (show 2048 < 10240 from (by omega)) (show 10240 < 2 ^ 31 by decide) ?_
  refine am_top (show I 0 64 2048 = nI 1 from (by simp [am_up, am_upf, upd, hI, am_dk])) ?_
  refine am_istore dX11_used_57 (by decide) ?_
  refine am_iload dX11_used_59 rfl ?_
  refine am_iload dX11_used_61 rfl ?_
  refine am_bipush (v := nI 32) dX11_used_63 (by decide) ?_
  refine am_irem dX11_used_65 (by decide) ?_
  refine am_top (pk_rem (by omega) (by omega) (by omega)) ?_
  refine am_ishr dX11_used_66 ?_
  refine am_top (show (nI 1) >>> ((nI 13) &&& 31) = nI 0 by decide) ?_
  refine am_iconst (v := nI 1) dX11_used_67 (by decide) ?_
  refine am_iand dX11_used_68 ?_
  refine am_top (show (nI 0) &&& (nI 1) = nI 0 by decide) ?_
  refine am_iconst (v := nI 1) dX11_used_69 (by decide) ?_
  refine am_icmp_ne (tgt := 79) dX11_used_70 (by decide) (fun _ => ?_) (fun h => absurd h (by decide))
  refine am_iload_n dX11_used_79 rfl ?_
  refine am_istore_n dX11_used_80 (by decide) ?_
  refine am_iinc (v := nI 14) dX11_used_81 rfl (by decide) ?_
  refine am_goto (tgt := 13) dX11_used_84 (by decide) ?_
  refine am_iload dX11_used_13 rfl ?_
  refine am_iload_n dX11_used_15 rfl ?_
  refine am_if_eq (tgt := 24) dX11_used_16 (by decide) (fun h => absurd h (by decide)) (fun _ => ?_)
  refine am_bipush (v := nI 16) dX11_used_19 (by decide) ?_
  refine am_goto (tgt := 26) dX11_used_21 (by decide) ?_
  refine am_icmp_ge (tgt := 87) dX11_used_26 (by decide) (fun h => absurd h (by decide)) (fun _ => ?_)
  refine am_aload_n dX11_used_29 rfl ?_
  refine am_get (v := .inr (0, 64)) dX11_used_30 fl_11_7 (hG.m0 (by decide)) rfl ?_
  refine am_bipush (v := nI 16) dX11_used_33 (by decide) ?_
  refine am_iload_n dX11_used_35 rfl ?_
  refine am_callSx (as := [.inl (nI 0)]) (rest := [.inl (nI 16), .inr (0, 64)]) dX11_used_36 lkX11_mapOf ml_X11_181 isX11_mapOf rfl (Nat.le_of_ble_eq_true rfl) rfl (c_MmapOf hG.nd (g := 0) (by omega) I) ?_
  refine am_imul dX11_used_39 ?_
  refine am_top (show (nI 16) * (nI 128) = nI 2048 by decide) ?_
  refine am_iload_n dX11_used_40 rfl ?_
  refine am_if_eq (tgt := 48) dX11_used_41 (by decide) (fun h => absurd h (by decide)) (fun _ => ?_)
  refine am_iconst (v := nI 0) dX11_used_44 (by decide) ?_
  refine am_goto (tgt := 55) dX11_used_45 (by decide) ?_
  refine am_iadd dX11_used_55 ?_
  refine am_top (show (nI 2048) + (nI 0) = nI 2048 by decide) ?_
  refine am_iald (a := 2048) dX11_used_56 (hG.m0 (by decide)) rfl rfl (show 2048 < 10240 from (by omega)) (show 10240 < 2 ^ 31 by decide) ?_
  refine am_top (show I 0 64 2048 = nI 1 from (by simp [am_up, am_upf, upd, hI, am_dk])) ?_
  refine am_istore dX11_used_57 (by decide) ?_
  refine am_iload dX11_used_59 rfl ?_
  refine am_iload dX11_used_61 rfl ?_
  refine am_bipush (v := nI 32) dX11_used_63 (by decide) ?_
  refine am_irem dX11_used_65 (by decide) ?_
  refine am_top (pk_rem (by omega) (by omega) (by omega)) ?_
  refine am_ishr dX11_used_66 ?_
  refine am_top (show (nI 1) >>> ((nI 14) &&& 31) = nI 0 by decide) ?_
  refine am_iconst (v := nI 1) dX11_used_67 (by decide) ?_
  refine am_iand dX11_used_68 ?_
  refine am_top (show (nI 0) &&& (nI 1) = nI 0 by decide) ?_
  refine am_iconst (v := nI 1) dX11_used_69 (by decide) ?_
  refine am_icmp_ne (tgt := 79) dX11_used_70 (by decide) (fun _ => ?_) (fun h => absurd h (by decide))
  refine am_iload_n dX11_used_79 rfl ?_
  refine am_istore_n dX11_used_80 (by decide) ?_
  refine am_iinc (v := nI 15) dX11_used_81 rfl (by decide) ?_
  refine am_goto (tgt := 13) dX11_used_84 (by decide) ?_
  refine am_iload dX11_used_13 rfl ?_
  refine am_iload_n dX11_used_15 rfl ?_
  refine am_if_eq (tgt := 24) dX11_used_16 (by decide) (fun h => absurd h (by decide)) (fun _ => ?_)
  refine am_bipush (v := nI 16) dX11_used_19 (by decide) ?_
  refine am_goto (tgt := 26) dX11_used_21 (by decide) ?_
  refine am_icmp_ge (tgt := 87) dX11_used_26 (by decide) (fun h => absurd h (by decide)) (fun _ => ?_)
  refine am_aload_n dX11_used_29 rfl ?_
  refine am_get (v := .inr (0, 64)) dX11_used_30 fl_11_7 (hG.m0 (by decide)) rfl ?_
  refine am_bipush (v := nI 16) dX11_used_33 (by decide) ?_
  refine am_iload_n dX11_used_35 rfl ?_
  refine am_callSx (as := [.inl (nI 0)]) (rest := [.inl (nI 16), .inr (0, 64)]) dX11_used_36 lkX11_mapOf ml_X11_181 isX11_mapOf rfl (Nat.le_of_ble_eq_true rfl) rfl (c_MmapOf hG.nd (g := 0) (by omega) I) ?_
  refine am_imul dX11_used_39 ?_
  refine am_top (show (nI 16) * (nI 128) = nI 2048 by decide) ?_
  refine am_iload_n dX11_used_40 rfl ?_
  refine am_if_eq (tgt := 48) dX11_used_41 (by decide) (fun h => absurd h (by decide)) (fun _ => ?_)
  refine am_iconst (v := nI 0) dX11_used_44 (by decide) ?_
  refine am_goto (tgt := 55) dX11_used_45 (by decide) ?_
  refine am_iadd dX11_used_55 ?_
  refine am_top (show (nI 2048) + (nI 0) = nI 2048 by decide) ?_
  refine am_iald (a := 2048) dX11_used_56 (hG.m0 (by decide)) rfl rfl (show 2048 < 10240 from (by omega)) (show 10240 < 2 ^ 31 by decide) ?_
  refine am_top (show I 0 64 2048 = nI 1 from (by simp [am_up, am_upf, upd, hI, am_dk])) ?_
  refine am_istore dX11_used_57 (by decide) ?_
  refine am_iload dX11_used_59 rfl ?_
  refine am_iload dX11_used_61 rfl ?_
  refine am_bipush (v := nI 32) dX11_used_63 (by decide) ?_
  refine am_irem dX11_used_65 (by decide) ?_
  refine am_top (pk_rem (by omega) (by omega) (by omega)) ?_
  refine am_ishr dX11_used_66 ?_
  refine am_top (show (nI 1) >>> ((nI 15) &&& 31) = nI 0 by decide) ?_
  refine am_iconst (v := nI 1) dX11_used_67 (by decide) ?_
  refine am_iand dX11_used_68 ?_
  refine am_top (show (nI 0) &&& (nI 1) = nI 0 by decide) ?_
  refine am_iconst (v := nI 1) dX11_used_69 (by decide) ?_
  refine am_icmp_ne (tgt := 79) dX11_used_70 (by decide) (fun _ => ?_) (fun h => absurd h (by decide))
  refine am_iload_n dX11_used_79 rfl ?_
  refine am_istore_n dX11_used_80 (by decide) ?_
  refine am_iinc (v := nI 16) dX11_used_81 rfl (by decide) ?_
  refine am_goto (tgt := 13) dX11_used_84 (by decide) ?_
  refine am_iload dX11_used_13 rfl ?_
  refine am_iload_n dX11_used_15 rfl ?_
  refine am_if_eq (tgt := 24) dX11_used_16 (by decide) (fun h => absurd h (by decide)) (fun _ => ?_)
  refine am_bipush (v := nI 16) dX11_used_19 (by decide) ?_
  refine am_goto (tgt := 26) dX11_used_21 (by decide) ?_
  refine am_icmp_ge (tgt := 87) dX11_used_26 (by decide) (fun _ => ?_) (fun h => absurd h (by decide))
  refine am_iinc (v := nI 1) dX11_used_87 rfl (by decide) ?_
  refine am_goto (tgt := 4) dX11_used_90 (by decide) ?_
  exact K 7 0 _ _ (by omega)
theorem m_about7 {G : am_G} (hG : am_okM G) {d : Nat}  {I : am_I} (hI : I = am_fr G.2.2.2.1)  : am_C G (d + 3) mX11_about [.inr (0, 60), .inl (nI 7)] I (fun rr J => rr = some (nI 0) ∧ J 0 60 0 = nI 0) := by
  have hn4 := hG.hi
  have hn2 := hG.lo
  refine am_of (by decide +kernel) hG.nd (Nat.le_of_ble_eq_true rfl) ?_
  refine am_aload_n dX11_about_0 rfl ?_
  refine am_iload_n dX11_about_1 rfl ?_
  refine am_iconst (v := nI 0) dX11_about_2 (by decide) ?_
  refine am_bipush (v := nI 9) dX11_about_3 (by decide) ?_
  refine am_callSx (as := [.inl (nI 7), .inl (nI 0), .inl (nI 9)]) (rest := [.inr (0, 60)]) dX11_about_5 lkX11_in ml_X11_243 isX11_in rfl (Nat.le_of_ble_eq_true rfl) rfl (c_Min hG.nd (nI 7) (nI 0) (nI 9) I) ?_
  refine am_top (show am_b (decide ((nI 0).toInt ≤ (nI 7).toInt ∧ (nI 7).toInt ≤ (nI 9).toInt)) = nI 1 by decide) ?_
  refine am_if_ne (tgt := 15) dX11_about_8 (by decide) (fun _ => ?_) (fun h => absurd h (by decide))
  refine am_iconst (v := nI 0) dX11_about_15 (by decide) ?_
  refine am_iconst (v := nI 0) dX11_about_16 (by decide) ?_
  refine am_iconst (v := nI 0) dX11_about_17 (by decide) ?_
  refine am_callVx (i := 0) (j := 60) (as := [.inl (nI 0), .inl (nI 0), .inl (nI 0)]) (rest := []) dX11_about_18 lkX11_refuse ml_X11_441 imX11_refuse seX11_refuse rfl rfl (hG.m0 (by decide)) rfl (Nat.le_of_ble_eq_true rfl) rfl (c_refuse000 hG I) ?_
  refine am_if_eq (tgt := 26) dX11_about_21 (by decide) (fun _ => ?_) (fun h => absurd h (by decide))
  refine am_iload_n dX11_about_26 rfl ?_
  refine am_tabIn (off := 84) (tgt := 111) dX11_about_27 (by decide) (by decide) rfl (by decide) ?_
  refine am_aload_n dX11_about_111 rfl ?_
  refine am_iconst (v := nI 0) dX11_about_112 (by decide) ?_
  refine am_callVx (i := 0) (j := 60) (as := [.inl (nI 0)]) (rest := []) dX11_about_113 lkX11_used ml_X11_520 imX11_used seX11_used rfl rfl (hG.m0 (by decide)) rfl (Nat.le_of_ble_eq_true rfl) rfl (c_Mused0 (I := am_up I 0 60 0 (nI 0)) hG (fun k => by simp [am_up, am_upf, hI, am_fr])) ?_
  refine am_iret dX11_about_116 rfl rfl ?_
  exact ⟨rfl, (by simp [am_up, am_upf, upd, hI, am_fr, am_dk])⟩
theorem m_about8 {G : am_G} (hG : am_okM G) {d : Nat}  {I : am_I} (hI : I = am_fr G.2.2.2.1)  : am_C G (d + 3) mX11_about [.inr (0, 60), .inl (nI 8)] I (fun rr J => rr = some (nI 1) ∧ J 0 60 0 = nI 0) := by
  have hn4 := hG.hi
  have hn2 := hG.lo
  refine am_of (by decide +kernel) hG.nd (Nat.le_of_ble_eq_true rfl) ?_
  refine am_aload_n dX11_about_0 rfl ?_
  refine am_iload_n dX11_about_1 rfl ?_
  refine am_iconst (v := nI 0) dX11_about_2 (by decide) ?_
  refine am_bipush (v := nI 9) dX11_about_3 (by decide) ?_
  refine am_callSx (as := [.inl (nI 8), .inl (nI 0), .inl (nI 9)]) (rest := [.inr (0, 60)]) dX11_about_5 lkX11_in ml_X11_243 isX11_in rfl (Nat.le_of_ble_eq_true rfl) rfl (c_Min hG.nd (nI 8) (nI 0) (nI 9) I) ?_
  refine am_top (show am_b (decide ((nI 0).toInt ≤ (nI 8).toInt ∧ (nI 8).toInt ≤ (nI 9).toInt)) = nI 1 by decide) ?_
  refine am_if_ne (tgt := 15) dX11_about_8 (by decide) (fun _ => ?_) (fun h => absurd h (by decide))
  refine am_iconst (v := nI 0) dX11_about_15 (by decide) ?_
  refine am_iconst (v := nI 0) dX11_about_16 (by decide) ?_
  refine am_iconst (v := nI 0) dX11_about_17 (by decide) ?_
  refine am_callVx (i := 0) (j := 60) (as := [.inl (nI 0), .inl (nI 0), .inl (nI 0)]) (rest := []) dX11_about_18 lkX11_refuse ml_X11_441 imX11_refuse seX11_refuse rfl rfl (hG.m0 (by decide)) rfl (Nat.le_of_ble_eq_true rfl) rfl (c_refuse000 hG I) ?_
  refine am_if_eq (tgt := 26) dX11_about_21 (by decide) (fun _ => ?_) (fun h => absurd h (by decide))
  refine am_iload_n dX11_about_26 rfl ?_
  refine am_tabIn (off := 90) (tgt := 117) dX11_about_27 (by decide) (by decide) rfl (by decide) ?_
  refine am_aload_n dX11_about_117 rfl ?_
  refine am_iconst (v := nI 1) dX11_about_118 (by decide) ?_
  refine am_callVx (i := 0) (j := 60) (as := [.inl (nI 1)]) (rest := []) dX11_about_119 lkX11_used ml_X11_520 imX11_used seX11_used rfl rfl (hG.m0 (by decide)) rfl (Nat.le_of_ble_eq_true rfl) rfl (c_Mused1 (I := am_up I 0 60 0 (nI 0)) hG (fun k => by simp [am_up, am_upf, hI, am_fr])) ?_
  refine am_iret dX11_about_122 rfl rfl ?_
  exact ⟨rfl, (by simp [am_up, am_upf, upd, hI, am_fr, am_dk])⟩
