theorem c_MasRecovered0 {G : am_G} (hG : am_okM G) {d : Nat} {I : am_I} (hnn : I 0 60 1 = nI G.2.2.2.1) (hj : ∀ x, x < G.2.2.2.1 → I 0 66 x = nI 1) (hD : ∀ k, I 0 64 k = am_dk G.2.2.2.1 k) : am_C G d mX11_asRecovered [.inr (0, 60)] I (fun rr J => rr = none ∧ (∀ k, k < 10240 → J 0 127 k = I 0 64 k) ∧ ∀ a b, b ≠ 127 → J a b = I a b) := by
  have hn4 := hG.hi
  have hn2 := hG.lo
  have L2 : ∀ (m a : Nat) (s2 s3 s4 : Option am_V), a + m = G.2.2.2.1 → am_J G d mX11_asRecovered am_no (fun rr J => rr = none ∧ (∀ k, k < 10240 → J 0 127 k = I 0 64 k) ∧ ∀ a b, b ≠ 127 → J a b = I a b) 29 [some (.inr (0, 60)), some (.inl (nI a)), s2, s3, s4, none, none] [] (am_upf I 0 127 (am_cp (I 0 127) (I 0 64) 10240)) := by
    intro m
    induction m with
    | zero =>
      intro a s2 s3 s4 ha
      obtain rfl : a = G.2.2.2.1 := by omega
      refine am_iload_n dX11_asRecovered_29 rfl ?_
      refine am_aload_n dX11_asRecovered_30 rfl ?_
      refine am_get (v := .inl ((am_upf I 0 127 (am_cp (I 0 127) (I 0 64) 10240)) 0 60 1)) dX11_asRecovered_31 fl_11_177 (hG.m0 (by decide)) rfl ?_
      refine am_top (show (am_upf I 0 127 (am_cp (I 0 127) (I 0 64) 10240)) 0 60 1 = nI G.2.2.2.1 from by simp [am_upf, hnn]) ?_
      refine am_icmp_ge (tgt := 167) dX11_asRecovered_34 (by decide) (fun _ => ?_) (fun h => absurd ((nI_leI (a := G.2.2.2.1) (b := G.2.2.2.1) (by omega) (by omega)).mpr (by omega)) h)
      refine am_vret dX11_asRecovered_167 rfl ?_
      exact ⟨rfl, fun k hk => by simp [am_upf, am_cp, hk], fun a b hb => by simp [am_upf, hb]⟩
    | succ m ih =>
      intro a s2 s3 s4 ha
      refine am_iload_n dX11_asRecovered_29 rfl ?_
      refine am_aload_n dX11_asRecovered_30 rfl ?_
      refine am_get (v := .inl ((am_upf I 0 127 (am_cp (I 0 127) (I 0 64) 10240)) 0 60 1)) dX11_asRecovered_31 fl_11_177 (hG.m0 (by decide)) rfl ?_
      refine am_top (show (am_upf I 0 127 (am_cp (I 0 127) (I 0 64) 10240)) 0 60 1 = nI G.2.2.2.1 from by simp [am_upf, hnn]) ?_
      refine am_icmp_ge (tgt := 167) dX11_asRecovered_34 (by decide) (fun h => absurd ((nI_leI (a := G.2.2.2.1) (b := a) (by omega) (by omega)).mp h) (by omega)) (fun _ => ?_)
      refine am_iconst (v := nI 1) dX11_asRecovered_37 (by decide) ?_
      refine am_bipush (v := nI 24) dX11_asRecovered_38 (by decide) ?_
      refine am_iload_n dX11_asRecovered_40 rfl ?_
      refine am_imul dX11_asRecovered_41 ?_
      refine am_top (pk_mul _ _) ?_
      refine am_iadd dX11_asRecovered_42 ?_
      refine am_top (nI_add _ _) ?_
      refine am_istore_n dX11_asRecovered_43 (by decide) ?_
      refine am_aload_n dX11_asRecovered_44 rfl ?_
      refine am_get (v := .inr (0, 66)) dX11_asRecovered_45 fl_11_17 (hG.m0 (by decide)) rfl ?_
      refine am_iload_n dX11_asRecovered_48 rfl ?_
      refine am_zald (a := a) dX11_asRecovered_49 (hG.m0 (by decide)) rfl rfl (show a < 4 from (by omega)) (show 4 < 2 ^ 31 by decide) ?_
      refine am_top (show (am_upf I 0 127 (am_cp (I 0 127) (I 0 64) 10240)) 0 66 a = nI 1 from by simp [am_upf, hj a (show a < G.2.2.2.1 by omega)]) ?_
      refine am_if_eq (tgt := 82) dX11_asRecovered_50 (by decide) (fun h => absurd h (by decide)) (fun _ => ?_)
      refine am_aload_n dX11_asRecovered_53 rfl ?_
      refine am_get (v := .inr (0, 64)) dX11_asRecovered_54 fl_11_7 (hG.m0 (by decide)) rfl ?_
      refine am_bipush (v := nI 16) dX11_asRecovered_57 (by decide) ?_
      refine am_iload_n dX11_asRecovered_59 rfl ?_
      refine am_imul dX11_asRecovered_60 ?_
      refine am_top (pk_mul _ _) ?_
      refine am_iconst (v := nI 2) dX11_asRecovered_61 (by decide) ?_
      refine am_iadd dX11_asRecovered_62 ?_
      refine am_top (nI_add _ _) ?_
      refine am_iald (a := 16 * (1 + 24 * a) + 2) dX11_asRecovered_63 (hG.m0 (by decide)) rfl rfl (show 16 * (1 + 24 * a) + 2 < 10240 from (by omega)) (show 10240 < 2 ^ 31 by decide) ?_
      refine am_top (show (am_upf I 0 127 (am_cp (I 0 127) (I 0 64) 10240)) 0 64 (16 * (1 + 24 * a) + 2) = nI 0 from by simp only [am_upf]; exact (hD _).trans (am_dk0 (by omega) (by omega) (by omega) (by omega) (by omega))) ?_
      refine am_iconst (v := nI 1) dX11_asRecovered_64 (by decide) ?_
      refine am_icmp_ne (tgt := 82) dX11_asRecovered_65 (by decide) (fun _ => ?_) (fun h => absurd h (by decide))
      refine am_iconst (v := nI 0) dX11_asRecovered_82 (by decide) ?_
      refine am_istore_n dX11_asRecovered_83 (by decide) ?_
      refine am_iconst (v := nI 0) dX11_asRecovered_84 (by decide) ?_
      refine am_istore dX11_asRecovered_85 (by decide) ?_
      refine am_iload dX11_asRecovered_87 rfl ?_
      refine am_iload_n dX11_asRecovered_89 rfl ?_
      refine am_icmp_ge (tgt := 161) dX11_asRecovered_90 (by decide) (fun _ => ?_) (fun h => absurd h (by decide))
      refine am_iinc (v := nI (a + 1)) dX11_asRecovered_161 rfl (nI_add _ _) ?_
      refine am_goto (tgt := 29) dX11_asRecovered_164 (by decide) ?_
      exact ih (a + 1) _ _ _ (by omega)
  have L1 : ∀ (m b : Nat), b + m = 10240 → am_J G d mX11_asRecovered am_no (fun rr J => rr = none ∧ (∀ k, k < 10240 → J 0 127 k = I 0 64 k) ∧ ∀ a b, b ≠ 127 → J a b = I a b) 2 [some (.inr (0, 60)), some (.inl (nI b)), none, none, none, none, none] [] (am_upf I 0 127 (am_cp (I 0 127) (I 0 64) b)) := by
    intro m
    induction m with
    | zero =>
      intro b ha
      obtain rfl : b = 10240 := by omega
      refine am_iload_n dX11_asRecovered_2 rfl ?_
      refine am_sipush (v := nI 10240) dX11_asRecovered_3 (by decide) ?_
      refine am_icmp_ge (tgt := 27) dX11_asRecovered_6 (by decide) (fun _ => ?_) (fun h => absurd ((nI_leI (a := 10240) (b := 10240) (by omega) (by omega)).mpr (by omega)) h)
      refine am_iconst (v := nI 0) dX11_asRecovered_27 (by decide) ?_
      refine am_istore_n dX11_asRecovered_28 (by decide) ?_
      exact L2 G.2.2.2.1 0 none none none (by omega)
    | succ m ih =>
      intro b ha
      refine am_iload_n dX11_asRecovered_2 rfl ?_
      refine am_sipush (v := nI 10240) dX11_asRecovered_3 (by decide) ?_
      refine am_icmp_ge (tgt := 27) dX11_asRecovered_6 (by decide) (fun h => absurd ((nI_leI (a := 10240) (b := b) (by omega) (by omega)).mp h) (by omega)) (fun _ => ?_)
      refine am_aload_n dX11_asRecovered_9 rfl ?_
      refine am_get (v := .inr (0, 127)) dX11_asRecovered_10 fl_11_162 (hG.m0 (by decide)) rfl ?_
      refine am_iload_n dX11_asRecovered_13 rfl ?_
      refine am_aload_n dX11_asRecovered_14 rfl ?_
      refine am_get (v := .inr (0, 64)) dX11_asRecovered_15 fl_11_7 (hG.m0 (by decide)) rfl ?_
      refine am_iload_n dX11_asRecovered_18 rfl ?_
      refine am_iald (a := b) dX11_asRecovered_19 (hG.m0 (by decide)) rfl rfl (show b < 10240 from (by omega)) (show 10240 < 2 ^ 31 by decide) ?_
      refine am_iast (a := b) dX11_asRecovered_20 (hG.m0 (by decide)) rfl rfl (show b < 10240 from (by omega)) (show 10240 < 2 ^ 31 by decide) ?_
      refine am_iinc (v := nI (b + 1)) dX11_asRecovered_21 rfl (nI_add _ _) ?_
      refine am_goto (tgt := 2) dX11_asRecovered_24 (by decide) ?_
      rw [show (am_upf I 0 127 (am_cp (I 0 127) (I 0 64) b)) 0 64 b = I 0 64 b from rfl, am_up_upf, am_cps]
      exact ih (b + 1) (by omega)
  refine am_of (by decide +kernel) hG.nd (Nat.le_of_ble_eq_true rfl) ?_
  refine am_iconst (v := nI 0) dX11_asRecovered_0 (by decide) ?_
  refine am_istore_n dX11_asRecovered_1 (by decide) ?_
  have := L1 10240 0 (by omega)
  rw [am_cp0, am_upf_self] at this
  exact this
theorem c_MallInode {G : am_G} (hG : am_okM G) {d : Nat} {k : Nat} (hk : k < 128) {e : Nat} (he : e < 16) (I : am_I)  : am_C G (d + 1) mX11_allInode [.inr (0, 60), .inl (nI k), .inl (nI e)] I (am_E (some (I 0 127 (16 * (129 + 64 * (k / 16) + k % 16) + e))) I) := by
  refine am_of (by decide +kernel) hG.nd (Nat.le_of_ble_eq_true rfl) ?_
  refine am_aload_n dX11_allInode_0 rfl ?_
  refine am_get (v := .inr (0, 127)) dX11_allInode_1 fl_11_162 (hG.m0 (by decide)) rfl ?_
  refine am_bipush (v := nI 16) dX11_allInode_4 (by decide) ?_
  refine am_iload_n dX11_allInode_6 rfl ?_
  refine am_callSx (as := [.inl (nI k)]) (rest := [.inl (nI 16), .inr (0, 127)]) dX11_allInode_7 lkX11_inodeBlock ml_X11_185 isX11_inodeBlock rfl (Nat.le_of_ble_eq_true rfl) rfl (c_MinodeBlock hG.nd (k := k) (by omega) I) ?_
  refine am_imul dX11_allInode_10 ?_
  refine am_top (pk_mul _ _) ?_
  refine am_iload_n dX11_allInode_11 rfl ?_
  refine am_iadd dX11_allInode_12 ?_
  refine am_top (nI_add _ _) ?_
  refine am_iald (a := 16 * (129 + 64 * (k / 16) + k % 16) + e) dX11_allInode_13 (hG.m0 (by decide)) rfl rfl (show 16 * (129 + 64 * (k / 16) + k % 16) + e < 10240 from (by omega)) (show 10240 < 2 ^ 31 by decide) ?_
  refine am_iret dX11_allInode_14 rfl rfl ?_
  exact ⟨rfl, rfl⟩
theorem c_Mreach0 {G : am_G} (hG : am_okM G) {d : Nat} {I : am_I} (hA : ∀ k, k < 10240 → I 0 127 k = am_dk G.2.2.2.1 k)  : am_C G (d + 2) mX11_reach [.inr (0, 60)] I (fun rr J => rr = some (nI 0) ∧ (∀ k, k < 128 → J 0 129 k = nI 0) ∧ (∀ k, 1 ≤ k → k < 128 → J 0 128 k = nI 0) ∧ ∀ a b, b ≠ 128 → b ≠ 129 → b ≠ 130 → J a b = I a b) := by
  have hn4 := hG.hi
  have hn2 := hG.lo
  have R : am_J G (d + 2) mX11_reach am_no (fun rr J => rr = some (nI 0) ∧ (∀ k, k < 128 → J 0 129 k = nI 0) ∧ (∀ k, 1 ≤ k → k < 128 → J 0 128 k = nI 0) ∧ ∀ a b, b ≠ 128 → b ≠ 129 → b ≠ 130 → J a b = I a b) 29 [some (.inr (0, 60)), some (.inl (nI 128)), none, none, none, none, none, none] [] (am_upf (am_upf I 0 128 (am_fil (I 0 128) 128 (nI 0))) 0 129 (am_fil (I 0 129) 128 (nI 0))) := by
    refine am_iconst (v := nI 0) dX11_reach_29 (by decide) ?_
    refine am_istore_n dX11_reach_30 (by decide) ?_
    refine am_iconst (v := nI 1) dX11_reach_31 (by decide) ?_
    refine am_istore_n dX11_reach_32 (by decide) ?_
    refine am_aload_n dX11_reach_33 rfl ?_
    refine am_get (v := .inr (0, 130)) dX11_reach_34 fl_11_171 (hG.m0 (by decide)) rfl ?_
    refine am_iconst (v := nI 0) dX11_reach_37 (by decide) ?_
    refine am_iconst (v := nI 0) dX11_reach_38 (by decide) ?_
    refine am_iast (a := 0) dX11_reach_39 (hG.m0 (by decide)) rfl rfl (show 0 < 128 from (by omega)) (show 128 < 2 ^ 31 by decide) ?_
    refine am_aload_n dX11_reach_40 rfl ?_
    refine am_get (v := .inr (0, 128)) dX11_reach_41 fl_11_165 (hG.m0 (by decide)) rfl ?_
    refine am_iconst (v := nI 0) dX11_reach_44 (by decide) ?_
    refine am_iconst (v := nI 1) dX11_reach_45 (by decide) ?_
    refine am_zast (a := 0) dX11_reach_46 (hG.m0 (by decide)) rfl (by decide) rfl (show 0 < 128 from (by omega)) (show 128 < 2 ^ 31 by decide) ?_
    refine am_iconst (v := nI 0) dX11_reach_47 (by decide) ?_
    refine am_istore_n dX11_reach_48 (by decide) ?_
    refine am_iload_n dX11_reach_49 rfl ?_
    refine am_iload_n dX11_reach_50 rfl ?_
    refine am_icmp_ge (tgt := 201) dX11_reach_51 (by decide) (fun h => absurd h (by decide)) (fun _ => ?_)
    refine am_aload_n dX11_reach_54 rfl ?_
    refine am_get (v := .inr (0, 130)) dX11_reach_55 fl_11_171 (hG.m0 (by decide)) rfl ?_
    refine am_iload_n dX11_reach_58 rfl ?_
    refine am_iald (a := 0) dX11_reach_59 (hG.m0 (by decide)) rfl rfl (show 0 < 128 from (by omega)) (show 128 < 2 ^ 31 by decide) ?_
    refine am_top (show (am_up (am_up (am_upf (am_upf I 0 128 (am_fil (I 0 128) 128 (nI 0))) 0 129 (am_fil (I 0 129) 128 (nI 0))) 0 130 0 (nI 0)) 0 128 0 (nI 1)) 0 130 0 = nI 0 from (by simp [am_up, am_upf, upd, am_fil])) ?_
    refine am_istore dX11_reach_60 (by decide) ?_
    refine am_aload_n dX11_reach_62 rfl ?_
    refine am_iload dX11_reach_63 rfl ?_
    refine am_iconst (v := nI 2) dX11_reach_65 (by decide) ?_
    refine am_callVx (i := 0) (j := 60) (as := [.inl (nI 0), .inl (nI 2)]) (rest := []) dX11_reach_66 lkX11_allInode ml_X11_496 imX11_allInode seX11_allInode rfl rfl (hG.m0 (by decide)) rfl (Nat.le_of_ble_eq_true rfl) rfl (c_MallInode hG (by omega) (by omega) (am_up (am_up (am_upf (am_upf I 0 128 (am_fil (I 0 128) 128 (nI 0))) 0 129 (am_fil (I 0 129) 128 (nI 0))) 0 130 0 (nI 0)) 0 128 0 (nI 1))) ?_
    refine am_top (show (am_up (am_up (am_upf (am_upf I 0 128 (am_fil (I 0 128) 128 (nI 0))) 0 129 (am_fil (I 0 129) 128 (nI 0))) 0 130 0 (nI 0)) 0 128 0 (nI 1)) 0 127 (16 * (129 + 64 * (0 / 16) + 0 % 16) + 2) = nI 0 from ((show ∀ k, k < 10240 → (am_up (am_up (am_upf (am_upf I 0 128 (am_fil (I 0 128) 128 (nI 0))) 0 129 (am_fil (I 0 129) 128 (nI 0))) 0 130 0 (nI 0)) 0 128 0 (nI 1)) 0 127 k = am_dk G.2.2.2.1 k from fun k hk => by simp [am_up, am_upf, hA k hk]) (16 * (129 + 64 * (0 / 16) + 0 % 16) + 2) (by decide)).trans rfl) ?_
    refine am_istore dX11_reach_69 (by decide) ?_
    refine am_iconst (v := nI 0) dX11_reach_71 (by decide) ?_
    refine am_istore dX11_reach_72 (by decide) ?_
    refine am_aload_n dX11_reach_74 rfl ?_
    refine am_iload dX11_reach_75 rfl ?_
    refine am_iconst (v := nI 0) dX11_reach_77 (by decide) ?_
    refine am_callVx (i := 0) (j := 60) (as := [.inl (nI 0), .inl (nI 0)]) (rest := []) dX11_reach_78 lkX11_allInode ml_X11_496 imX11_allInode seX11_allInode rfl rfl (hG.m0 (by decide)) rfl (Nat.le_of_ble_eq_true rfl) rfl (c_MallInode hG (by omega) (by omega) (am_up (am_up (am_upf (am_upf I 0 128 (am_fil (I 0 128) 128 (nI 0))) 0 129 (am_fil (I 0 129) 128 (nI 0))) 0 130 0 (nI 0)) 0 128 0 (nI 1))) ?_
    refine am_top (show (am_up (am_up (am_upf (am_upf I 0 128 (am_fil (I 0 128) 128 (nI 0))) 0 129 (am_fil (I 0 129) 128 (nI 0))) 0 130 0 (nI 0)) 0 128 0 (nI 1)) 0 127 (16 * (129 + 64 * (0 / 16) + 0 % 16) + 0) = nI 2 from ((show ∀ k, k < 10240 → (am_up (am_up (am_upf (am_upf I 0 128 (am_fil (I 0 128) 128 (nI 0))) 0 129 (am_fil (I 0 129) 128 (nI 0))) 0 130 0 (nI 0)) 0 128 0 (nI 1)) 0 127 k = am_dk G.2.2.2.1 k from fun k hk => by simp [am_up, am_upf, hA k hk]) (16 * (129 + 64 * (0 / 16) + 0 % 16) + 0) (by decide)).trans rfl) ?_
    refine am_iconst (v := nI 2) dX11_reach_81 (by decide) ?_
    refine am_icmp_ne (tgt := 195) dX11_reach_82 (by decide) (fun h => absurd h (by decide)) (fun _ => ?_)
    refine am_iload dX11_reach_85 rfl ?_
    refine am_iload dX11_reach_87 rfl ?_
    refine am_icmp_ge (tgt := 195) dX11_reach_89 (by decide) (fun _ => ?_) (fun h => absurd h (by decide))
    refine am_iinc (v := nI 1) dX11_reach_195 rfl (by decide) ?_
    refine am_goto (tgt := 49) dX11_reach_198 (by decide) ?_
    refine am_iload_n dX11_reach_49 rfl ?_
    refine am_iload_n dX11_reach_50 rfl ?_
    refine am_icmp_ge (tgt := 201) dX11_reach_51 (by decide) (fun _ => ?_) (fun h => absurd h (by decide))
    refine am_iload_n dX11_reach_201 rfl ?_
    refine am_iret dX11_reach_202 rfl (am_nz (by decide)).1 ?_
    exact ⟨rfl, fun k hk => by simp [am_up, am_upf, upd, am_fil, hk], fun k h1 hk => by simp [am_up, am_upf, upd, am_fil, hk]; omega, fun a b h1 h2 h3 => by simp [am_up, am_upf, h1, h2, h3]⟩
  have L : ∀ (m b : Nat), b + m = 128 → am_J G (d + 2) mX11_reach am_no (fun rr J => rr = some (nI 0) ∧ (∀ k, k < 128 → J 0 129 k = nI 0) ∧ (∀ k, 1 ≤ k → k < 128 → J 0 128 k = nI 0) ∧ ∀ a b, b ≠ 128 → b ≠ 129 → b ≠ 130 → J a b = I a b) 2 [some (.inr (0, 60)), some (.inl (nI b)), none, none, none, none, none, none] [] (am_upf (am_upf I 0 128 (am_fil (I 0 128) b (nI 0))) 0 129 (am_fil (I 0 129) b (nI 0))) := by
    intro m
    induction m with
    | zero =>
      intro b ha
      obtain rfl : b = 128 := by omega
      refine am_iload_n dX11_reach_2 rfl ?_
      refine am_sipush (v := nI 128) dX11_reach_3 (by decide) ?_
      refine am_icmp_ge (tgt := 29) dX11_reach_6 (by decide) (fun _ => ?_) (fun h => absurd ((nI_leI (a := 128) (b := 128) (by omega) (by omega)).mpr (by omega)) h)
      exact R
    | succ m ih =>
      intro b ha
      refine am_iload_n dX11_reach_2 rfl ?_
      refine am_sipush (v := nI 128) dX11_reach_3 (by decide) ?_
      refine am_icmp_ge (tgt := 29) dX11_reach_6 (by decide) (fun h => absurd ((nI_leI (a := 128) (b := b) (by omega) (by omega)).mp h) (by omega)) (fun _ => ?_)
      refine am_aload_n dX11_reach_9 rfl ?_
      refine am_get (v := .inr (0, 128)) dX11_reach_10 fl_11_165 (hG.m0 (by decide)) rfl ?_
      refine am_iload_n dX11_reach_13 rfl ?_
      refine am_iconst (v := nI 0) dX11_reach_14 (by decide) ?_
      refine am_zast (a := b) dX11_reach_15 (hG.m0 (by decide)) rfl (by decide) rfl (show b < 128 from (by omega)) (show 128 < 2 ^ 31 by decide) ?_
      refine am_aload_n dX11_reach_16 rfl ?_
      refine am_get (v := .inr (0, 129)) dX11_reach_17 fl_11_168 (hG.m0 (by decide)) rfl ?_
      refine am_iload_n dX11_reach_20 rfl ?_
      refine am_iconst (v := nI 0) dX11_reach_21 (by decide) ?_
      refine am_iast (a := b) dX11_reach_22 (hG.m0 (by decide)) rfl rfl (show b < 128 from (by omega)) (show 128 < 2 ^ 31 by decide) ?_
      refine am_iinc (v := nI (b + 1)) dX11_reach_23 rfl (nI_add _ _) ?_
      refine am_goto (tgt := 2) dX11_reach_26 (by decide) ?_
      rw [show am_up (am_up (am_upf (am_upf I 0 128 (am_fil (I 0 128) b (nI 0))) 0 129 (am_fil (I 0 129) b (nI 0))) 0 128 b (nI 0)) 0 129 b (nI 0) = am_upf (am_upf I 0 128 (am_fil (I 0 128) (b + 1) (nI 0))) 0 129 (am_fil (I 0 129) (b + 1) (nI 0)) from ?_]
      · exact ih (b + 1) (by omega)
      rw [← am_fils (I 0 128), ← am_fils (I 0 129)]
      funext x y z
      simp only [am_up, am_upf]
      by_cases h1 : x = 0 ∧ y = 129
      · obtain ⟨rfl, rfl⟩ := h1; simp
      · by_cases h2 : x = 0 ∧ y = 128
        · obtain ⟨rfl, rfl⟩ := h2; simp
        · simp [h1, h2]
  refine am_of (by decide +kernel) hG.nd (Nat.le_of_ble_eq_true rfl) ?_
  refine am_iconst (v := nI 0) dX11_reach_0 (by decide) ?_
  refine am_istore_n dX11_reach_1 (by decide) ?_
  have := L 128 0 (by omega)
  rw [am_fil0, am_fil0, am_upf_self, am_upf_self] at this
  exact this
theorem c_MisData0 {G : am_G} (hn : G.2.2.2.2.Nodup) {d : Nat} (I : am_I) : am_C G (d + 1) mX11_isData [.inl (nI 0)] I (am_E (some (nI 0)) I) := by
  refine am_of (by decide +kernel) hn (Nat.le_of_ble_eq_true rfl) ?_
  refine am_iload_n dX11_isData_0 rfl ?_
  refine am_sipush (v := nI 128) dX11_isData_1 (by decide) ?_
  refine am_sipush (v := nI 639) dX11_isData_4 (by decide) ?_
  refine am_callSx (as := [.inl (nI 0), .inl (nI 128), .inl (nI 639)]) (rest := []) dX11_isData_7 lkX11_in ml_X11_243 isX11_in rfl (Nat.le_of_ble_eq_true rfl) rfl (c_Min hn (nI 0) (nI 128) (nI 639) I) ?_
  refine am_top (show am_b (decide ((nI 128).toInt ≤ (nI 0).toInt ∧ (nI 0).toInt ≤ (nI 639).toInt)) = nI 0 by decide) ?_
  refine am_if_eq (tgt := 30) dX11_isData_10 (by decide) (fun _ => ?_) (fun h => absurd h (by decide))
  refine am_iconst (v := nI 0) dX11_isData_30 (by decide) ?_
  refine am_iret dX11_isData_31 rfl (am_nz (by decide)).1 ?_
  exact ⟨rfl, rfl⟩
theorem c_Mhold0 {G : am_G} (hG : am_okM G) {d : Nat} (I : am_I) : am_C G (d + 2) mX11_hold [.inr (0, 60), .inl (nI 0)] I (am_E none I) := by
  refine am_of (by decide +kernel) hG.nd (Nat.le_of_ble_eq_true rfl) ?_
  refine am_iload_n dX11_hold_0 rfl ?_
  refine am_callSx (as := [.inl (nI 0)]) (rest := []) dX11_hold_1 lkX11_isData ml_X11_499 isX11_isData rfl (Nat.le_of_ble_eq_true rfl) rfl (c_MisData0 hG.nd I) ?_
  refine am_if_eq (tgt := 20) dX11_hold_4 (by decide) (fun _ => ?_) (fun h => absurd h (by decide))
  refine am_iload_n dX11_hold_20 rfl ?_
  refine am_if_eq (tgt := 34) dX11_hold_21 (by decide) (fun _ => ?_) (fun h => absurd h (by decide))
  refine am_vret dX11_hold_34 rfl ?_
  exact ⟨rfl, rfl⟩
