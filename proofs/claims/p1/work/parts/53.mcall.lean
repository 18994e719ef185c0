theorem m_call0 {G : am_G} (hG : am_okM G) {d : Nat} {i : Nat} (hi : i < G.2.2.2.1) {a : Nat} (hab : a < 128) (b c e : Int32) (hP : 0 ≤ (nI a).toInt ∧ (nI a).toInt < 128 ∧ ¬ b.toInt = 0) {I : am_I} (hI : I = am_fr G.2.2.2.1)  : am_C G (d + 7) mX11_call [.inr (0, 60), .inl (nI i), .inl (nI 0), .inl (nI a), .inl b, .inl c, .inl e] I (fun rr J => rr = some (nI 0) ∧ J 0 60 0 = nI 0) := by
  have hn4 := hG.hi
  have hn2 := hG.lo
  have K : ∀ (X : am_I) (_ : ∀ k, k < 544 → X 0 81 k = nI 0) (_ : am_J G (d + 7) mX11_call am_no (fun rr J => rr = some (nI 0) ∧ J 0 60 0 = nI 0) 195 [some (.inr (0, 60)), some (.inl (nI i)), some (.inl (nI 0)), some (.inl (nI a)), some (.inl b), some (.inl c), some (.inl e), some (.inl (nI 1)), some (.inl (nI 136))] [] X) (m r : Nat), r + m = 136 → am_J G (d + 7) mX11_call am_no (fun rr J => rr = some (nI 0) ∧ J 0 60 0 = nI 0) 169 [some (.inr (0, 60)), some (.inl (nI i)), some (.inl (nI 0)), some (.inl (nI a)), some (.inl b), some (.inl c), some (.inl e), some (.inl (nI 1)), some (.inl (nI r))] [] X := by
    intro X hX hk m
    induction m with
    | zero =>
      intro r ha
      obtain rfl : r = 136 := by omega
      refine am_iload dX11_call_169 rfl ?_
      refine am_sipush (v := nI 136) dX11_call_171 (by decide) ?_
      refine am_icmp_ge (tgt := 195) dX11_call_174 (by decide) (fun _ => ?_) (fun h => absurd ((nI_leI (a := 136) (b := 136) (by omega) (by omega)).mpr (by omega)) h)
      exact hk
    | succ m ih =>
      intro r ha
      refine am_iload dX11_call_169 rfl ?_
      refine am_sipush (v := nI 136) dX11_call_171 (by decide) ?_
      refine am_icmp_ge (tgt := 195) dX11_call_174 (by decide) (fun h => absurd ((nI_leI (a := 136) (b := r) (by omega) (by omega)).mp h) (by omega)) (fun _ => ?_)
      refine am_aload_n dX11_call_177 rfl ?_
      refine am_get (v := .inr (0, 81)) dX11_call_178 fl_11_63 (hG.m0 (by decide)) rfl ?_
      refine am_iload_n dX11_call_181 rfl ?_
      refine am_iload dX11_call_182 rfl ?_
      refine am_callSx (as := [.inl (nI i), .inl (nI r)]) (rest := [.inr (0, 81)]) dX11_call_184 lkX11_at ml_X11_208 isX11_at rfl (Nat.le_of_ble_eq_true rfl) rfl (c_Mat hG.nd (g := i) (r := r) (by omega) (by omega) X) ?_
      refine am_iconst (v := nI 0) dX11_call_187 (by decide) ?_
      refine am_iast (a := 136 * i + r) dX11_call_188 (hG.m0 (by decide)) rfl rfl (show 136 * i + r < 544 from (by omega)) (show 544 < 2 ^ 31 by decide) ?_
      rw [am_up_id (hX _ (by omega))]
      refine am_iinc (v := nI (r + 1)) dX11_call_189 rfl (nI_add _ _) ?_
      refine am_goto (tgt := 169) dX11_call_192 (by decide) ?_
      exact ih (r + 1) (by omega)
  refine am_of (by decide +kernel) hG.nd (Nat.le_of_ble_eq_true rfl) ?_
  refine am_aload_n dX11_call_0 rfl ?_
  refine am_iload_n dX11_call_1 rfl ?_
  refine am_callVx (i := 0) (j := 60) (as := [.inl (nI i)]) (rest := []) dX11_call_2 lkX11_isNode ml_X11_434 imX11_isNode seX11_isNode rfl rfl (hG.m0 (by decide)) rfl (Nat.le_of_ble_eq_true rfl) rfl (c_MisNodeY hG hi (by simp [am_up, am_upf, upd, hI, am_fr, am_dk, hi])) ?_
  refine am_if_eq (tgt := 26) dX11_call_5 (by decide) (fun h => absurd h (by decide)) (fun _ => ?_)
  refine am_iload_n dX11_call_8 rfl ?_
  refine am_iload_n dX11_call_9 rfl ?_
  refine am_iload dX11_call_10 rfl ?_
  refine am_iload dX11_call_12 rfl ?_
  refine am_iload dX11_call_14 rfl ?_
  refine am_callSx (as := [.inl (nI 0), .inl (nI a), .inl b, .inl c, .inl e]) (rest := []) dX11_call_16 lkX11_isGiven ml_X11_437 isX11_isGiven rfl (Nat.le_of_ble_eq_true rfl) rfl (c_isGiven0 hG.nd (nI a) b c e I) ?_
  refine am_if_eq (tgt := 26) dX11_call_19 (by decide) (fun h => absurd h ((am_bn _).mpr (decide_eq_true hP))) (fun _ => ?_)
  refine am_iconst (v := nI 1) dX11_call_22 (by decide) ?_
  refine am_goto (tgt := 27) dX11_call_23 (by decide) ?_
  refine am_istore dX11_call_27 (by decide) ?_
  refine am_aload_n dX11_call_29 rfl ?_
  refine am_iload dX11_call_30 rfl ?_
  refine am_if_ne (tgt := 39) dX11_call_32 (by decide) (fun _ => ?_) (fun h => absurd h (by decide))
  refine am_iconst (v := nI 0) dX11_call_39 (by decide) ?_
  refine am_iload dX11_call_40 rfl ?_
  refine am_if_eq (tgt := 66) dX11_call_42 (by decide) (fun h => absurd h (by decide)) (fun _ => ?_)
  refine am_aload_n dX11_call_45 rfl ?_
  refine am_get (v := .inr (0, 65)) dX11_call_46 fl_11_13 (hG.m0 (by decide)) rfl ?_
  refine am_iload_n dX11_call_49 rfl ?_
  refine am_zald (a := i) dX11_call_50 (hG.m0 (by decide)) rfl rfl (show i < 4 from (by omega)) (show 4 < 2 ^ 31 by decide) ?_
  refine am_top (show I 0 65 i = nI 1 from (by simp [am_up, am_upf, upd, hI, am_fr, am_dk, hi])) ?_
  refine am_if_eq (tgt := 62) dX11_call_51 (by decide) (fun h => absurd h (by decide)) (fun _ => ?_)
  refine am_aload_n dX11_call_54 rfl ?_
  refine am_iload_n dX11_call_55 rfl ?_
  refine am_callVx (i := 0) (j := 60) (as := [.inl (nI i)]) (rest := [.inl (nI 0), .inr (0, 60)]) dX11_call_56 lkX11_isCalling ml_X11_264 imX11_isCalling seX11_isCalling rfl rfl (hG.m0 (by decide)) rfl (Nat.le_of_ble_eq_true rfl) rfl (c_MisCalling0 hG hi I (by simp [am_up, am_upf, upd, hI, am_fr, am_dk, hi])) ?_
  refine am_if_eq (tgt := 66) dX11_call_59 (by decide) (fun _ => ?_) (fun h => absurd h (by decide))
  refine am_iconst (v := nI 0) dX11_call_66 (by decide) ?_
  refine am_iconst (v := nI 0) dX11_call_67 (by decide) ?_
  refine am_callVx (i := 0) (j := 60) (as := [.inl (nI 0), .inl (nI 0), .inl (nI 0)]) (rest := []) dX11_call_68 lkX11_refuse ml_X11_441 imX11_refuse seX11_refuse rfl rfl (hG.m0 (by decide)) rfl (Nat.le_of_ble_eq_true rfl) rfl (c_refuse000 hG I) ?_
  refine am_nm (fun I1 hI1 => ?_)
  refine am_if_eq (tgt := 76) dX11_call_71 (by decide) (fun _ => ?_) (fun h => absurd h (by decide))
  refine am_aload_n dX11_call_76 rfl ?_
  refine am_get (v := .inr (0, 82)) dX11_call_77 fl_11_66 (hG.m0 (by decide)) rfl ?_
  refine am_iload_n dX11_call_80 rfl ?_
  refine am_iload_n dX11_call_81 rfl ?_
  refine am_iast (a := i) dX11_call_82 (hG.m0 (by decide)) rfl rfl (show i < 4 from (by omega)) (show 4 < 2 ^ 31 by decide) ?_
  refine am_aload_n dX11_call_83 rfl ?_
  refine am_get (v := .inr (0, 83)) dX11_call_84 fl_11_69 (hG.m0 (by decide)) rfl ?_
  refine am_iload_n dX11_call_87 rfl ?_
  refine am_iload_n dX11_call_88 rfl ?_
  refine am_iast (a := i) dX11_call_89 (hG.m0 (by decide)) rfl rfl (show i < 4 from (by omega)) (show 4 < 2 ^ 31 by decide) ?_
  refine am_aload_n dX11_call_90 rfl ?_
  refine am_get (v := .inr (0, 84)) dX11_call_91 fl_11_72 (hG.m0 (by decide)) rfl ?_
  refine am_iload_n dX11_call_94 rfl ?_
  refine am_iload dX11_call_95 rfl ?_
  refine am_iast (a := i) dX11_call_97 (hG.m0 (by decide)) rfl rfl (show i < 4 from (by omega)) (show 4 < 2 ^ 31 by decide) ?_
  refine am_aload_n dX11_call_98 rfl ?_
  refine am_get (v := .inr (0, 85)) dX11_call_99 fl_11_75 (hG.m0 (by decide)) rfl ?_
  refine am_iload_n dX11_call_102 rfl ?_
  refine am_iload dX11_call_103 rfl ?_
  refine am_iast (a := i) dX11_call_105 (hG.m0 (by decide)) rfl rfl (show i < 4 from (by omega)) (show 4 < 2 ^ 31 by decide) ?_
  refine am_aload_n dX11_call_106 rfl ?_
  refine am_get (v := .inr (0, 86)) dX11_call_107 fl_11_78 (hG.m0 (by decide)) rfl ?_
  refine am_iload_n dX11_call_110 rfl ?_
  refine am_iload dX11_call_111 rfl ?_
  refine am_iast (a := i) dX11_call_113 (hG.m0 (by decide)) rfl rfl (show i < 4 from (by omega)) (show 4 < 2 ^ 31 by decide) ?_
  refine am_aload_n dX11_call_114 rfl ?_
  refine am_get (v := .inr (0, 87)) dX11_call_115 fl_11_81 (hG.m0 (by decide)) rfl ?_
  refine am_iload_n dX11_call_118 rfl ?_
  refine am_iconst (v := nI 1) dX11_call_119 (by decide) ?_
  refine am_iast (a := i) dX11_call_120 (hG.m0 (by decide)) rfl rfl (show i < 4 from (by omega)) (show 4 < 2 ^ 31 by decide) ?_
  refine am_aload_n dX11_call_121 rfl ?_
  refine am_get (v := .inr (0, 88)) dX11_call_122 fl_11_84 (hG.m0 (by decide)) rfl ?_
  refine am_iload_n dX11_call_125 rfl ?_
  refine am_iconst (v := nI 0) dX11_call_126 (by decide) ?_
  refine am_iast (a := i) dX11_call_127 (hG.m0 (by decide)) rfl rfl (show i < 4 from (by omega)) (show 4 < 2 ^ 31 by decide) ?_
  refine am_aload_n dX11_call_128 rfl ?_
  refine am_get (v := .inr (0, 89)) dX11_call_129 fl_11_87 (hG.m0 (by decide)) rfl ?_
  refine am_iload_n dX11_call_132 rfl ?_
  refine am_aload_n dX11_call_133 rfl ?_
  refine am_get (v := .inl ((am_up (am_up (am_up (am_up (am_up (am_up (am_up I1 0 82 i (nI 0)) 0 83 i (nI a)) 0 84 i b) 0 85 i c) 0 86 i e) 0 87 i (nI 1)) 0 88 i (nI 0)) 0 60 2)) dX11_call_134 fl_11_194 (hG.m0 (by decide)) rfl ?_
  refine am_top (show (am_up (am_up (am_up (am_up (am_up (am_up (am_up I1 0 82 i (nI 0)) 0 83 i (nI a)) 0 84 i b) 0 85 i c) 0 86 i e) 0 87 i (nI 1)) 0 88 i (nI 0)) 0 60 2 = nI 0 from (by simp [am_up, am_upf, upd, hI, am_fr, am_dk, hi, hI1])) ?_
  refine am_iast (a := i) dX11_call_137 (hG.m0 (by decide)) rfl rfl (show i < 4 from (by omega)) (show 4 < 2 ^ 31 by decide) ?_
  refine am_aload_n dX11_call_138 rfl ?_
  refine am_get (v := .inr (0, 90)) dX11_call_139 fl_11_90 (hG.m0 (by decide)) rfl ?_
  refine am_iload_n dX11_call_142 rfl ?_
  refine am_iconst (v := nI 0) dX11_call_143 (by decide) ?_
  refine am_iast (a := i) dX11_call_144 (hG.m0 (by decide)) rfl rfl (show i < 4 from (by omega)) (show 4 < 2 ^ 31 by decide) ?_
  refine am_aload_n dX11_call_145 rfl ?_
  refine am_get (v := .inr (0, 91)) dX11_call_146 fl_11_93 (hG.m0 (by decide)) rfl ?_
  refine am_iload_n dX11_call_149 rfl ?_
  refine am_iconst (v := nI 0) dX11_call_150 (by decide) ?_
  refine am_iast (a := i) dX11_call_151 (hG.m0 (by decide)) rfl rfl (show i < 4 from (by omega)) (show 4 < 2 ^ 31 by decide) ?_
  refine am_aload_n dX11_call_152 rfl ?_
  refine am_get (v := .inr (0, 92)) dX11_call_153 fl_11_96 (hG.m0 (by decide)) rfl ?_
  refine am_iload_n dX11_call_156 rfl ?_
  refine am_iconst (v := nI 0) dX11_call_157 (by decide) ?_
  refine am_iast (a := i) dX11_call_158 (hG.m0 (by decide)) rfl rfl (show i < 4 from (by omega)) (show 4 < 2 ^ 31 by decide) ?_
  refine am_aload_n dX11_call_159 rfl ?_
  refine am_get (v := .inr (0, 93)) dX11_call_160 fl_11_99 (hG.m0 (by decide)) rfl ?_
  refine am_iload_n dX11_call_163 rfl ?_
  refine am_iconst (v := nI 0) dX11_call_164 (by decide) ?_
  refine am_zast (a := i) dX11_call_165 (hG.m0 (by decide)) rfl (by decide) rfl (show i < 4 from (by omega)) (show 4 < 2 ^ 31 by decide) ?_
  refine am_iconst (v := nI 0) dX11_call_166 (by decide) ?_
  refine am_istore dX11_call_167 (by decide) ?_
  refine K _ (fun k hk => by simp [am_up, am_upf, upd, hI, am_fr, hI1]) ?_ 136 0 (by omega)
  refine am_aload_n dX11_call_195 rfl ?_
  refine am_iload_n dX11_call_196 rfl ?_
  refine am_callVv (i := 0) (j := 60) (as := [.inl (nI i)]) (rest := []) dX11_call_197 lkX11_goOn ml_X11_212 imX11_goOn seX11_goOn rfl rfl (hG.m0 (by decide)) rfl (Nat.le_of_ble_eq_true rfl) rfl (c_MgoOn0 (a := a) hG hi (by omega) (am_up (am_up (am_up (am_up (am_up (am_up (am_up (am_up (am_up (am_up (am_up (am_up I1 0 82 i (nI 0)) 0 83 i (nI a)) 0 84 i b) 0 85 i c) 0 86 i e) 0 87 i (nI 1)) 0 88 i (nI 0)) 0 89 i (nI 0)) 0 90 i (nI 0)) 0 91 i (nI 0)) 0 92 i (nI 0)) 0 93 i (nI 0)) (fun k hk => by simp [am_up, am_upf, upd, hI, am_fr, hI1]) (fun k hk => by simp [am_up, am_upf, upd, hI, am_fr, hI1]) (fun x hx => by simp [am_up, am_upf, upd, hI, am_fr, hx, hI1]) (fun x hx => by simp [am_up, am_upf, upd, hI, am_fr, hx, hI1]) (fun f t => by simp [am_up, am_upf, upd, hI, am_fr, hI1]) (fun f t => by simp [am_up, am_upf, upd, hI, am_fr, hI1]) (by simp [am_up, am_upf, upd, hI, am_fr, am_dk, hi, hI1]) (by simp [am_up, am_upf, upd, hI, am_fr, am_dk, hi, hI1]) (by simp [am_up, am_upf, upd, hI, am_fr, am_dk, hi, hI1]) (by simp [am_up, am_upf, upd, hI, am_fr, am_dk, hi, hI1]) (by simp [am_up, am_upf, upd, hI, am_fr, am_dk, hi, hI1]) (by simp [am_up, am_upf, upd, hI, am_fr, am_dk, hi, hI1]) (by simp [am_up, am_upf, upd, hI, am_fr, am_dk, hi, hI1]) (by simp [am_up, am_upf, upd, hI, am_fr, am_dk, hi, hI1]) (by simp [am_up, am_upf, upd, hI, am_fr, am_dk, hi, hI1]) (by simp [am_up, am_upf, upd, hI, am_fr, am_dk, hi, hI1]) (by simp [am_up, am_upf, upd, hI, am_fr, am_dk, hi, hI1]) (by simp [am_up, am_upf, upd, hI, am_fr, am_dk, hi, hI1]) (by simp [am_up, am_upf, upd, hI, am_fr, am_dk, hi, hI1]) (by simp [am_up, am_upf, upd, hI, am_fr, am_dk, hi, hI1]) (by simp [am_up, am_upf, upd, hI, am_fr, am_dk, hi, hI1])) rfl (fun I9 hq => ?_)
  have hst9 := hq.2.1
  have hth9 := hq.2.2
  refine am_nm (fun I2 hI2 => ?_)
  refine am_aload_n dX11_call_200 rfl ?_
  refine am_get (v := .inr (0, 87)) dX11_call_201 fl_11_81 (hG.m0 (by decide)) rfl ?_
  refine am_iload_n dX11_call_204 rfl ?_
  refine am_iald (a := i) dX11_call_205 (hG.m0 (by decide)) rfl rfl (show i < 4 from (by omega)) (show 4 < 2 ^ 31 by decide) ?_
  refine am_top (show I2 0 87 i = nI 1 from (by simp [am_up, am_upf, upd, hI, am_fr, am_dk, hi, hI1, hst9, hth9, hI2])) ?_
  refine am_iconst (v := nI 1) dX11_call_206 (by decide) ?_
  refine am_icmp_ne (tgt := 214) dX11_call_207 (by decide) (fun h => absurd h (by decide)) (fun _ => ?_)
  refine am_iconst (v := nI 0) dX11_call_210 (by decide) ?_
  refine am_goto (tgt := 215) dX11_call_211 (by decide) ?_
  refine am_iret dX11_call_215 rfl rfl ?_
  exact ⟨rfl, (by simp [am_up, am_upf, upd, hI, am_fr, am_dk, hi, hI1, hst9, hth9, hI2])⟩
theorem m_call1 {G : am_G} (hG : am_okM G) {d : Nat} {i : Nat} (hi : i < G.2.2.2.1) {a : Nat} (hab : a < 128) (b c e : Int32) (hP : 0 ≤ (nI a).toInt ∧ (nI a).toInt < 128 ∧ ¬ b.toInt = 0 ∧ 1 ≤ c.toInt ∧ c.toInt ≤ 2) {I : am_I} (hI : I = am_fr G.2.2.2.1)  : am_C G (d + 7) mX11_call [.inr (0, 60), .inl (nI i), .inl (nI 1), .inl (nI a), .inl b, .inl c, .inl e] I (fun rr J => rr = some (nI 0) ∧ J 0 60 0 = nI 0) := by
  have hn4 := hG.hi
  have hn2 := hG.lo
  have K : ∀ (X : am_I) (_ : ∀ k, k < 544 → X 0 81 k = nI 0) (_ : am_J G (d + 7) mX11_call am_no (fun rr J => rr = some (nI 0) ∧ J 0 60 0 = nI 0) 195 [some (.inr (0, 60)), some (.inl (nI i)), some (.inl (nI 1)), some (.inl (nI a)), some (.inl b), some (.inl c), some (.inl e), some (.inl (nI 1)), some (.inl (nI 136))] [] X) (m r : Nat), r + m = 136 → am_J G (d + 7) mX11_call am_no (fun rr J => rr = some (nI 0) ∧ J 0 60 0 = nI 0) 169 [some (.inr (0, 60)), some (.inl (nI i)), some (.inl (nI 1)), some (.inl (nI a)), some (.inl b), some (.inl c), some (.inl e), some (.inl (nI 1)), some (.inl (nI r))] [] X := by
    intro X hX hk m
    induction m with
    | zero =>
      intro r ha
      obtain rfl : r = 136 := by omega
      refine am_iload dX11_call_169 rfl ?_
      refine am_sipush (v := nI 136) dX11_call_171 (by decide) ?_
      refine am_icmp_ge (tgt := 195) dX11_call_174 (by decide) (fun _ => ?_) (fun h => absurd ((nI_leI (a := 136) (b := 136) (by omega) (by omega)).mpr (by omega)) h)
      exact hk
    | succ m ih =>
      intro r ha
      refine am_iload dX11_call_169 rfl ?_
      refine am_sipush (v := nI 136) dX11_call_171 (by decide) ?_
      refine am_icmp_ge (tgt := 195) dX11_call_174 (by decide) (fun h => absurd ((nI_leI (a := 136) (b := r) (by omega) (by omega)).mp h) (by omega)) (fun _ => ?_)
      refine am_aload_n dX11_call_177 rfl ?_
      refine am_get (v := .inr (0, 81)) dX11_call_178 fl_11_63 (hG.m0 (by decide)) rfl ?_
      refine am_iload_n dX11_call_181 rfl ?_
      refine am_iload dX11_call_182 rfl ?_
      refine am_callSx (as := [.inl (nI i), .inl (nI r)]) (rest := [.inr (0, 81)]) dX11_call_184 lkX11_at ml_X11_208 isX11_at rfl (Nat.le_of_ble_eq_true rfl) rfl (c_Mat hG.nd (g := i) (r := r) (by omega) (by omega) X) ?_
      refine am_iconst (v := nI 0) dX11_call_187 (by decide) ?_
      refine am_iast (a := 136 * i + r) dX11_call_188 (hG.m0 (by decide)) rfl rfl (show 136 * i + r < 544 from (by omega)) (show 544 < 2 ^ 31 by decide) ?_
      rw [am_up_id (hX _ (by omega))]
      refine am_iinc (v := nI (r + 1)) dX11_call_189 rfl (nI_add _ _) ?_
      refine am_goto (tgt := 169) dX11_call_192 (by decide) ?_
      exact ih (r + 1) (by omega)
  refine am_of (by decide +kernel) hG.nd (Nat.le_of_ble_eq_true rfl) ?_
  refine am_aload_n dX11_call_0 rfl ?_
  refine am_iload_n dX11_call_1 rfl ?_
  refine am_callVx (i := 0) (j := 60) (as := [.inl (nI i)]) (rest := []) dX11_call_2 lkX11_isNode ml_X11_434 imX11_isNode seX11_isNode rfl rfl (hG.m0 (by decide)) rfl (Nat.le_of_ble_eq_true rfl) rfl (c_MisNodeY hG hi (by simp [am_up, am_upf, upd, hI, am_fr, am_dk, hi])) ?_
  refine am_if_eq (tgt := 26) dX11_call_5 (by decide) (fun h => absurd h (by decide)) (fun _ => ?_)
  refine am_iload_n dX11_call_8 rfl ?_
  refine am_iload_n dX11_call_9 rfl ?_
  refine am_iload dX11_call_10 rfl ?_
  refine am_iload dX11_call_12 rfl ?_
  refine am_iload dX11_call_14 rfl ?_
  refine am_callSx (as := [.inl (nI 1), .inl (nI a), .inl b, .inl c, .inl e]) (rest := []) dX11_call_16 lkX11_isGiven ml_X11_437 isX11_isGiven rfl (Nat.le_of_ble_eq_true rfl) rfl (c_isGiven1 hG.nd (nI a) b c e I) ?_
  refine am_if_eq (tgt := 26) dX11_call_19 (by decide) (fun h => absurd h ((am_bn _).mpr (decide_eq_true hP))) (fun _ => ?_)
  refine am_iconst (v := nI 1) dX11_call_22 (by decide) ?_
  refine am_goto (tgt := 27) dX11_call_23 (by decide) ?_
  refine am_istore dX11_call_27 (by decide) ?_
  refine am_aload_n dX11_call_29 rfl ?_
  refine am_iload dX11_call_30 rfl ?_
  refine am_if_ne (tgt := 39) dX11_call_32 (by decide) (fun _ => ?_) (fun h => absurd h (by decide))
  refine am_iconst (v := nI 0) dX11_call_39 (by decide) ?_
  refine am_iload dX11_call_40 rfl ?_
  refine am_if_eq (tgt := 66) dX11_call_42 (by decide) (fun h => absurd h (by decide)) (fun _ => ?_)
  refine am_aload_n dX11_call_45 rfl ?_
  refine am_get (v := .inr (0, 65)) dX11_call_46 fl_11_13 (hG.m0 (by decide)) rfl ?_
  refine am_iload_n dX11_call_49 rfl ?_
  refine am_zald (a := i) dX11_call_50 (hG.m0 (by decide)) rfl rfl (show i < 4 from (by omega)) (show 4 < 2 ^ 31 by decide) ?_
  refine am_top (show I 0 65 i = nI 1 from (by simp [am_up, am_upf, upd, hI, am_fr, am_dk, hi])) ?_
  refine am_if_eq (tgt := 62) dX11_call_51 (by decide) (fun h => absurd h (by decide)) (fun _ => ?_)
  refine am_aload_n dX11_call_54 rfl ?_
  refine am_iload_n dX11_call_55 rfl ?_
  refine am_callVx (i := 0) (j := 60) (as := [.inl (nI i)]) (rest := [.inl (nI 0), .inr (0, 60)]) dX11_call_56 lkX11_isCalling ml_X11_264 imX11_isCalling seX11_isCalling rfl rfl (hG.m0 (by decide)) rfl (Nat.le_of_ble_eq_true rfl) rfl (c_MisCalling0 hG hi I (by simp [am_up, am_upf, upd, hI, am_fr, am_dk, hi])) ?_
  refine am_if_eq (tgt := 66) dX11_call_59 (by decide) (fun _ => ?_) (fun h => absurd h (by decide))
  refine am_iconst (v := nI 0) dX11_call_66 (by decide) ?_
  refine am_iconst (v := nI 0) dX11_call_67 (by decide) ?_
  refine am_callVx (i := 0) (j := 60) (as := [.inl (nI 0), .inl (nI 0), .inl (nI 0)]) (rest := []) dX11_call_68 lkX11_refuse ml_X11_441 imX11_refuse seX11_refuse rfl rfl (hG.m0 (by decide)) rfl (Nat.le_of_ble_eq_true rfl) rfl (c_refuse000 hG I) ?_
  refine am_nm (fun I1 hI1 => ?_)
  refine am_if_eq (tgt := 76) dX11_call_71 (by decide) (fun _ => ?_) (fun h => absurd h (by decide))
  refine am_aload_n dX11_call_76 rfl ?_
  refine am_get (v := .inr (0, 82)) dX11_call_77 fl_11_66 (hG.m0 (by decide)) rfl ?_
  refine am_iload_n dX11_call_80 rfl ?_
  refine am_iload_n dX11_call_81 rfl ?_
  refine am_iast (a := i) dX11_call_82 (hG.m0 (by decide)) rfl rfl (show i < 4 from (by omega)) (show 4 < 2 ^ 31 by decide) ?_
  refine am_aload_n dX11_call_83 rfl ?_
  refine am_get (v := .inr (0, 83)) dX11_call_84 fl_11_69 (hG.m0 (by decide)) rfl ?_
  refine am_iload_n dX11_call_87 rfl ?_
  refine am_iload_n dX11_call_88 rfl ?_
  refine am_iast (a := i) dX11_call_89 (hG.m0 (by decide)) rfl rfl (show i < 4 from (by omega)) (show 4 < 2 ^ 31 by decide) ?_
  refine am_aload_n dX11_call_90 rfl ?_
  refine am_get (v := .inr (0, 84)) dX11_call_91 fl_11_72 (hG.m0 (by decide)) rfl ?_
  refine am_iload_n dX11_call_94 rfl ?_
  refine am_iload dX11_call_95 rfl ?_
  refine am_iast (a := i) dX11_call_97 (hG.m0 (by decide)) rfl rfl (show i < 4 from (by omega)) (show 4 < 2 ^ 31 by decide) ?_
  refine am_aload_n dX11_call_98 rfl ?_
  refine am_get (v := .inr (0, 85)) dX11_call_99 fl_11_75 (hG.m0 (by decide)) rfl ?_
  refine am_iload_n dX11_call_102 rfl ?_
  refine am_iload dX11_call_103 rfl ?_
  refine am_iast (a := i) dX11_call_105 (hG.m0 (by decide)) rfl rfl (show i < 4 from (by omega)) (show 4 < 2 ^ 31 by decide) ?_
  refine am_aload_n dX11_call_106 rfl ?_
  refine am_get (v := .inr (0, 86)) dX11_call_107 fl_11_78 (hG.m0 (by decide)) rfl ?_
  refine am_iload_n dX11_call_110 rfl ?_
  refine am_iload dX11_call_111 rfl ?_
  refine am_iast (a := i) dX11_call_113 (hG.m0 (by decide)) rfl rfl (show i < 4 from (by omega)) (show 4 < 2 ^ 31 by decide) ?_
  refine am_aload_n dX11_call_114 rfl ?_
  refine am_get (v := .inr (0, 87)) dX11_call_115 fl_11_81 (hG.m0 (by decide)) rfl ?_
  refine am_iload_n dX11_call_118 rfl ?_
  refine am_iconst (v := nI 1) dX11_call_119 (by decide) ?_
  refine am_iast (a := i) dX11_call_120 (hG.m0 (by decide)) rfl rfl (show i < 4 from (by omega)) (show 4 < 2 ^ 31 by decide) ?_
  refine am_aload_n dX11_call_121 rfl ?_
  refine am_get (v := .inr (0, 88)) dX11_call_122 fl_11_84 (hG.m0 (by decide)) rfl ?_
  refine am_iload_n dX11_call_125 rfl ?_
  refine am_iconst (v := nI 0) dX11_call_126 (by decide) ?_
  refine am_iast (a := i) dX11_call_127 (hG.m0 (by decide)) rfl rfl (show i < 4 from (by omega)) (show 4 < 2 ^ 31 by decide) ?_
  refine am_aload_n dX11_call_128 rfl ?_
  refine am_get (v := .inr (0, 89)) dX11_call_129 fl_11_87 (hG.m0 (by decide)) rfl ?_
  refine am_iload_n dX11_call_132 rfl ?_
  refine am_aload_n dX11_call_133 rfl ?_
  refine am_get (v := .inl ((am_up (am_up (am_up (am_up (am_up (am_up (am_up I1 0 82 i (nI 1)) 0 83 i (nI a)) 0 84 i b) 0 85 i c) 0 86 i e) 0 87 i (nI 1)) 0 88 i (nI 0)) 0 60 2)) dX11_call_134 fl_11_194 (hG.m0 (by decide)) rfl ?_
  refine am_top (show (am_up (am_up (am_up (am_up (am_up (am_up (am_up I1 0 82 i (nI 1)) 0 83 i (nI a)) 0 84 i b) 0 85 i c) 0 86 i e) 0 87 i (nI 1)) 0 88 i (nI 0)) 0 60 2 = nI 0 from (by simp [am_up, am_upf, upd, hI, am_fr, am_dk, hi, hI1])) ?_
  refine am_iast (a := i) dX11_call_137 (hG.m0 (by decide)) rfl rfl (show i < 4 from (by omega)) (show 4 < 2 ^ 31 by decide) ?_
  refine am_aload_n dX11_call_138 rfl ?_
  refine am_get (v := .inr (0, 90)) dX11_call_139 fl_11_90 (hG.m0 (by decide)) rfl ?_
  refine am_iload_n dX11_call_142 rfl ?_
  refine am_iconst (v := nI 0) dX11_call_143 (by decide) ?_
  refine am_iast (a := i) dX11_call_144 (hG.m0 (by decide)) rfl rfl (show i < 4 from (by omega)) (show 4 < 2 ^ 31 by decide) ?_
  refine am_aload_n dX11_call_145 rfl ?_
  refine am_get (v := .inr (0, 91)) dX11_call_146 fl_11_93 (hG.m0 (by decide)) rfl ?_
  refine am_iload_n dX11_call_149 rfl ?_
  refine am_iconst (v := nI 0) dX11_call_150 (by decide) ?_
  refine am_iast (a := i) dX11_call_151 (hG.m0 (by decide)) rfl rfl (show i < 4 from (by omega)) (show 4 < 2 ^ 31 by decide) ?_
  refine am_aload_n dX11_call_152 rfl ?_
  refine am_get (v := .inr (0, 92)) dX11_call_153 fl_11_96 (hG.m0 (by decide)) rfl ?_
  refine am_iload_n dX11_call_156 rfl ?_
  refine am_iconst (v := nI 0) dX11_call_157 (by decide) ?_
  refine am_iast (a := i) dX11_call_158 (hG.m0 (by decide)) rfl rfl (show i < 4 from (by omega)) (show 4 < 2 ^ 31 by decide) ?_
  refine am_aload_n dX11_call_159 rfl ?_
  refine am_get (v := .inr (0, 93)) dX11_call_160 fl_11_99 (hG.m0 (by decide)) rfl ?_
  refine am_iload_n dX11_call_163 rfl ?_
  refine am_iconst (v := nI 0) dX11_call_164 (by decide) ?_
  refine am_zast (a := i) dX11_call_165 (hG.m0 (by decide)) rfl (by decide) rfl (show i < 4 from (by omega)) (show 4 < 2 ^ 31 by decide) ?_
  refine am_iconst (v := nI 0) dX11_call_166 (by decide) ?_
  refine am_istore dX11_call_167 (by decide) ?_
  refine K _ (fun k hk => by simp [am_up, am_upf, upd, hI, am_fr, hI1]) ?_ 136 0 (by omega)
  refine am_aload_n dX11_call_195 rfl ?_
  refine am_iload_n dX11_call_196 rfl ?_
  refine am_callVv (i := 0) (j := 60) (as := [.inl (nI i)]) (rest := []) dX11_call_197 lkX11_goOn ml_X11_212 imX11_goOn seX11_goOn rfl rfl (hG.m0 (by decide)) rfl (Nat.le_of_ble_eq_true rfl) rfl (c_MgoOn1 (a := a) hG hi (by omega) (am_up (am_up (am_up (am_up (am_up (am_up (am_up (am_up (am_up (am_up (am_up (am_up I1 0 82 i (nI 1)) 0 83 i (nI a)) 0 84 i b) 0 85 i c) 0 86 i e) 0 87 i (nI 1)) 0 88 i (nI 0)) 0 89 i (nI 0)) 0 90 i (nI 0)) 0 91 i (nI 0)) 0 92 i (nI 0)) 0 93 i (nI 0)) (fun k hk => by simp [am_up, am_upf, upd, hI, am_fr, hI1]) (fun k hk => by simp [am_up, am_upf, upd, hI, am_fr, hI1]) (fun x hx => by simp [am_up, am_upf, upd, hI, am_fr, hx, hI1]) (fun x hx => by simp [am_up, am_upf, upd, hI, am_fr, hx, hI1]) (fun f t => by simp [am_up, am_upf, upd, hI, am_fr, hI1]) (fun f t => by simp [am_up, am_upf, upd, hI, am_fr, hI1]) (by simp [am_up, am_upf, upd, hI, am_fr, am_dk, hi, hI1]) (by simp [am_up, am_upf, upd, hI, am_fr, am_dk, hi, hI1]) (by simp [am_up, am_upf, upd, hI, am_fr, am_dk, hi, hI1]) (by simp [am_up, am_upf, upd, hI, am_fr, am_dk, hi, hI1]) (by simp [am_up, am_upf, upd, hI, am_fr, am_dk, hi, hI1]) (by simp [am_up, am_upf, upd, hI, am_fr, am_dk, hi, hI1]) (by simp [am_up, am_upf, upd, hI, am_fr, am_dk, hi, hI1]) (by simp [am_up, am_upf, upd, hI, am_fr, am_dk, hi, hI1]) (by simp [am_up, am_upf, upd, hI, am_fr, am_dk, hi, hI1]) (by simp [am_up, am_upf, upd, hI, am_fr, am_dk, hi, hI1]) (by simp [am_up, am_upf, upd, hI, am_fr, am_dk, hi, hI1]) (by simp [am_up, am_upf, upd, hI, am_fr, am_dk, hi, hI1]) (by simp [am_up, am_upf, upd, hI, am_fr, am_dk, hi, hI1]) (by simp [am_up, am_upf, upd, hI, am_fr, am_dk, hi, hI1]) (by simp [am_up, am_upf, upd, hI, am_fr, am_dk, hi, hI1])) rfl (fun I9 hq => ?_)
  have hst9 := hq.2.1
  have hth9 := hq.2.2
  refine am_nm (fun I2 hI2 => ?_)
  refine am_aload_n dX11_call_200 rfl ?_
  refine am_get (v := .inr (0, 87)) dX11_call_201 fl_11_81 (hG.m0 (by decide)) rfl ?_
  refine am_iload_n dX11_call_204 rfl ?_
  refine am_iald (a := i) dX11_call_205 (hG.m0 (by decide)) rfl rfl (show i < 4 from (by omega)) (show 4 < 2 ^ 31 by decide) ?_
  refine am_top (show I2 0 87 i = nI 1 from (by simp [am_up, am_upf, upd, hI, am_fr, am_dk, hi, hI1, hst9, hth9, hI2])) ?_
  refine am_iconst (v := nI 1) dX11_call_206 (by decide) ?_
  refine am_icmp_ne (tgt := 214) dX11_call_207 (by decide) (fun h => absurd h (by decide)) (fun _ => ?_)
  refine am_iconst (v := nI 0) dX11_call_210 (by decide) ?_
  refine am_goto (tgt := 215) dX11_call_211 (by decide) ?_
  refine am_iret dX11_call_215 rfl rfl ?_
  exact ⟨rfl, (by simp [am_up, am_upf, upd, hI, am_fr, am_dk, hi, hI1, hst9, hth9, hI2])⟩
theorem m_call2 {G : am_G} (hG : am_okM G) {d : Nat} {i : Nat} (hi : i < G.2.2.2.1) {a : Nat} (hab : a < 128) (b c e : Int32) (hP : 0 ≤ (nI a).toInt ∧ (nI a).toInt < 128 ∧ ¬ b.toInt = 0) {I : am_I} (hI : I = am_fr G.2.2.2.1)  : am_C G (d + 7) mX11_call [.inr (0, 60), .inl (nI i), .inl (nI 2), .inl (nI a), .inl b, .inl c, .inl e] I (fun rr J => rr = some (nI 0) ∧ J 0 60 0 = nI 0) := by
  have hn4 := hG.hi
  have hn2 := hG.lo
  have K : ∀ (X : am_I) (_ : ∀ k, k < 544 → X 0 81 k = nI 0) (_ : am_J G (d + 7) mX11_call am_no (fun rr J => rr = some (nI 0) ∧ J 0 60 0 = nI 0) 195 [some (.inr (0, 60)), some (.inl (nI i)), some (.inl (nI 2)), some (.inl (nI a)), some (.inl b), some (.inl c), some (.inl e), some (.inl (nI 1)), some (.inl (nI 136))] [] X) (m r : Nat), r + m = 136 → am_J G (d + 7) mX11_call am_no (fun rr J => rr = some (nI 0) ∧ J 0 60 0 = nI 0) 169 [some (.inr (0, 60)), some (.inl (nI i)), some (.inl (nI 2)), some (.inl (nI a)), some (.inl b), some (.inl c), some (.inl e), some (.inl (nI 1)), some (.inl (nI r))] [] X := by
    intro X hX hk m
    induction m with
    | zero =>
      intro r ha
      obtain rfl : r = 136 := by omega
      refine am_iload dX11_call_169 rfl ?_
      refine am_sipush (v := nI 136) dX11_call_171 (by decide) ?_
      refine am_icmp_ge (tgt := 195) dX11_call_174 (by decide) (fun _ => ?_) (fun h => absurd ((nI_leI (a := 136) (b := 136) (by omega) (by omega)).mpr (by omega)) h)
      exact hk
    | succ m ih =>
      intro r ha
      refine am_iload dX11_call_169 rfl ?_
      refine am_sipush (v := nI 136) dX11_call_171 (by decide) ?_
      refine am_icmp_ge (tgt := 195) dX11_call_174 (by decide) (fun h => absurd ((nI_leI (a := 136) (b := r) (by omega) (by omega)).mp h) (by omega)) (fun _ => ?_)
      refine am_aload_n dX11_call_177 rfl ?_
      refine am_get (v := .inr (0, 81)) dX11_call_178 fl_11_63 (hG.m0 (by decide)) rfl ?_
      refine am_iload_n dX11_call_181 rfl ?_
      refine am_iload dX11_call_182 rfl ?_
      refine am_callSx (as := [.inl (nI i), .inl (nI r)]) (rest := [.inr (0, 81)]) dX11_call_184 lkX11_at ml_X11_208 isX11_at rfl (Nat.le_of_ble_eq_true rfl) rfl (c_Mat hG.nd (g := i) (r := r) (by omega) (by omega) X) ?_
      refine am_iconst (v := nI 0) dX11_call_187 (by decide) ?_
      refine am_iast (a := 136 * i + r) dX11_call_188 (hG.m0 (by decide)) rfl rfl (show 136 * i + r < 544 from (by omega)) (show 544 < 2 ^ 31 by decide) ?_
      rw [am_up_id (hX _ (by omega))]
      refine am_iinc (v := nI (r + 1)) dX11_call_189 rfl (nI_add _ _) ?_
      refine am_goto (tgt := 169) dX11_call_192 (by decide) ?_
      exact ih (r + 1) (by omega)
  refine am_of (by decide +kernel) hG.nd (Nat.le_of_ble_eq_true rfl) ?_
  refine am_aload_n dX11_call_0 rfl ?_
  refine am_iload_n dX11_call_1 rfl ?_
  refine am_callVx (i := 0) (j := 60) (as := [.inl (nI i)]) (rest := []) dX11_call_2 lkX11_isNode ml_X11_434 imX11_isNode seX11_isNode rfl rfl (hG.m0 (by decide)) rfl (Nat.le_of_ble_eq_true rfl) rfl (c_MisNodeY hG hi (by simp [am_up, am_upf, upd, hI, am_fr, am_dk, hi])) ?_
  refine am_if_eq (tgt := 26) dX11_call_5 (by decide) (fun h => absurd h (by decide)) (fun _ => ?_)
  refine am_iload_n dX11_call_8 rfl ?_
  refine am_iload_n dX11_call_9 rfl ?_
  refine am_iload dX11_call_10 rfl ?_
  refine am_iload dX11_call_12 rfl ?_
  refine am_iload dX11_call_14 rfl ?_
  refine am_callSx (as := [.inl (nI 2), .inl (nI a), .inl b, .inl c, .inl e]) (rest := []) dX11_call_16 lkX11_isGiven ml_X11_437 isX11_isGiven rfl (Nat.le_of_ble_eq_true rfl) rfl (c_isGiven2 hG.nd (nI a) b c e I) ?_
  refine am_if_eq (tgt := 26) dX11_call_19 (by decide) (fun h => absurd h ((am_bn _).mpr (decide_eq_true hP))) (fun _ => ?_)
  refine am_iconst (v := nI 1) dX11_call_22 (by decide) ?_
  refine am_goto (tgt := 27) dX11_call_23 (by decide) ?_
  refine am_istore dX11_call_27 (by decide) ?_
  refine am_aload_n dX11_call_29 rfl ?_
  refine am_iload dX11_call_30 rfl ?_
  refine am_if_ne (tgt := 39) dX11_call_32 (by decide) (fun _ => ?_) (fun h => absurd h (by decide))
  refine am_iconst (v := nI 0) dX11_call_39 (by decide) ?_
  refine am_iload dX11_call_40 rfl ?_
  refine am_if_eq (tgt := 66) dX11_call_42 (by decide) (fun h => absurd h (by decide)) (fun _ => ?_)
  refine am_aload_n dX11_call_45 rfl ?_
  refine am_get (v := .inr (0, 65)) dX11_call_46 fl_11_13 (hG.m0 (by decide)) rfl ?_
  refine am_iload_n dX11_call_49 rfl ?_
  refine am_zald (a := i) dX11_call_50 (hG.m0 (by decide)) rfl rfl (show i < 4 from (by omega)) (show 4 < 2 ^ 31 by decide) ?_
  refine am_top (show I 0 65 i = nI 1 from (by simp [am_up, am_upf, upd, hI, am_fr, am_dk, hi])) ?_
  refine am_if_eq (tgt := 62) dX11_call_51 (by decide) (fun h => absurd h (by decide)) (fun _ => ?_)
  refine am_aload_n dX11_call_54 rfl ?_
  refine am_iload_n dX11_call_55 rfl ?_
  refine am_callVx (i := 0) (j := 60) (as := [.inl (nI i)]) (rest := [.inl (nI 0), .inr (0, 60)]) dX11_call_56 lkX11_isCalling ml_X11_264 imX11_isCalling seX11_isCalling rfl rfl (hG.m0 (by decide)) rfl (Nat.le_of_ble_eq_true rfl) rfl (c_MisCalling0 hG hi I (by simp [am_up, am_upf, upd, hI, am_fr, am_dk, hi])) ?_
  refine am_if_eq (tgt := 66) dX11_call_59 (by decide) (fun _ => ?_) (fun h => absurd h (by decide))
  refine am_iconst (v := nI 0) dX11_call_66 (by decide) ?_
  refine am_iconst (v := nI 0) dX11_call_67 (by decide) ?_
  refine am_callVx (i := 0) (j := 60) (as := [.inl (nI 0), .inl (nI 0), .inl (nI 0)]) (rest := []) dX11_call_68 lkX11_refuse ml_X11_441 imX11_refuse seX11_refuse rfl rfl (hG.m0 (by decide)) rfl (Nat.le_of_ble_eq_true rfl) rfl (c_refuse000 hG I) ?_
  refine am_nm (fun I1 hI1 => ?_)
  refine am_if_eq (tgt := 76) dX11_call_71 (by decide) (fun _ => ?_) (fun h => absurd h (by decide))
  refine am_aload_n dX11_call_76 rfl ?_
  refine am_get (v := .inr (0, 82)) dX11_call_77 fl_11_66 (hG.m0 (by decide)) rfl ?_
  refine am_iload_n dX11_call_80 rfl ?_
  refine am_iload_n dX11_call_81 rfl ?_
  refine am_iast (a := i) dX11_call_82 (hG.m0 (by decide)) rfl rfl (show i < 4 from (by omega)) (show 4 < 2 ^ 31 by decide) ?_
  refine am_aload_n dX11_call_83 rfl ?_
  refine am_get (v := .inr (0, 83)) dX11_call_84 fl_11_69 (hG.m0 (by decide)) rfl ?_
  refine am_iload_n dX11_call_87 rfl ?_
  refine am_iload_n dX11_call_88 rfl ?_
  refine am_iast (a := i) dX11_call_89 (hG.m0 (by decide)) rfl rfl (show i < 4 from (by omega)) (show 4 < 2 ^ 31 by decide) ?_
  refine am_aload_n dX11_call_90 rfl ?_
  refine am_get (v := .inr (0, 84)) dX11_call_91 fl_11_72 (hG.m0 (by decide)) rfl ?_
  refine am_iload_n dX11_call_94 rfl ?_
  refine am_iload dX11_call_95 rfl ?_
  refine am_iast (a := i) dX11_call_97 (hG.m0 (by decide)) rfl rfl (show i < 4 from (by omega)) (show 4 < 2 ^ 31 by decide) ?_
  refine am_aload_n dX11_call_98 rfl ?_
  refine am_get (v := .inr (0, 85)) dX11_call_99 fl_11_75 (hG.m0 (by decide)) rfl ?_
  refine am_iload_n dX11_call_102 rfl ?_
  refine am_iload dX11_call_103 rfl ?_
  refine am_iast (a := i) dX11_call_105 (hG.m0 (by decide)) rfl rfl (show i < 4 from (by omega)) (show 4 < 2 ^ 31 by decide) ?_
  refine am_aload_n dX11_call_106 rfl ?_
  refine am_get (v := .inr (0, 86)) dX11_call_107 fl_11_78 (hG.m0 (by decide)) rfl ?_
  refine am_iload_n dX11_call_110 rfl ?_
  refine am_iload dX11_call_111 rfl ?_
  refine am_iast (a := i) dX11_call_113 (hG.m0 (by decide)) rfl rfl (show i < 4 from (by omega)) (show 4 < 2 ^ 31 by decide) ?_
  refine am_aload_n dX11_call_114 rfl ?_
  refine am_get (v := .inr (0, 87)) dX11_call_115 fl_11_81 (hG.m0 (by decide)) rfl ?_
  refine am_iload_n dX11_call_118 rfl ?_
  refine am_iconst (v := nI 1) dX11_call_119 (by decide) ?_
  refine am_iast (a := i) dX11_call_120 (hG.m0 (by decide)) rfl rfl (show i < 4 from (by omega)) (show 4 < 2 ^ 31 by decide) ?_
  refine am_aload_n dX11_call_121 rfl ?_
  refine am_get (v := .inr (0, 88)) dX11_call_122 fl_11_84 (hG.m0 (by decide)) rfl ?_
  refine am_iload_n dX11_call_125 rfl ?_
  refine am_iconst (v := nI 0) dX11_call_126 (by decide) ?_
  refine am_iast (a := i) dX11_call_127 (hG.m0 (by decide)) rfl rfl (show i < 4 from (by omega)) (show 4 < 2 ^ 31 by decide) ?_
  refine am_aload_n dX11_call_128 rfl ?_
  refine am_get (v := .inr (0, 89)) dX11_call_129 fl_11_87 (hG.m0 (by decide)) rfl ?_
  refine am_iload_n dX11_call_132 rfl ?_
  refine am_aload_n dX11_call_133 rfl ?_
  refine am_get (v := .inl ((am_up (am_up (am_up (am_up (am_up (am_up (am_up I1 0 82 i (nI 2)) 0 83 i (nI a)) 0 84 i b) 0 85 i c) 0 86 i e) 0 87 i (nI 1)) 0 88 i (nI 0)) 0 60 2)) dX11_call_134 fl_11_194 (hG.m0 (by decide)) rfl ?_
  refine am_top (show (am_up (am_up (am_up (am_up (am_up (am_up (am_up I1 0 82 i (nI 2)) 0 83 i (nI a)) 0 84 i b) 0 85 i c) 0 86 i e) 0 87 i (nI 1)) 0 88 i (nI 0)) 0 60 2 = nI 0 from (by simp [am_up, am_upf, upd, hI, am_fr, am_dk, hi, hI1])) ?_
  refine am_iast (a := i) dX11_call_137 (hG.m0 (by decide)) rfl rfl (show i < 4 from (by omega)) (show 4 < 2 ^ 31 by decide) ?_
  refine am_aload_n dX11_call_138 rfl ?_
  refine am_get (v := .inr (0, 90)) dX11_call_139 fl_11_90 (hG.m0 (by decide)) rfl ?_
  refine am_iload_n dX11_call_142 rfl ?_
  refine am_iconst (v := nI 0) dX11_call_143 (by decide) ?_
  refine am_iast (a := i) dX11_call_144 (hG.m0 (by decide)) rfl rfl (show i < 4 from (by omega)) (show 4 < 2 ^ 31 by decide) ?_
  refine am_aload_n dX11_call_145 rfl ?_
  refine am_get (v := .inr (0, 91)) dX11_call_146 fl_11_93 (hG.m0 (by decide)) rfl ?_
  refine am_iload_n dX11_call_149 rfl ?_
  refine am_iconst (v := nI 0) dX11_call_150 (by decide) ?_
  refine am_iast (a := i) dX11_call_151 (hG.m0 (by decide)) rfl rfl (show i < 4 from (by omega)) (show 4 < 2 ^ 31 by decide) ?_
  refine am_aload_n dX11_call_152 rfl ?_
  refine am_get (v := .inr (0, 92)) dX11_call_153 fl_11_96 (hG.m0 (by decide)) rfl ?_
  refine am_iload_n dX11_call_156 rfl ?_
  refine am_iconst (v := nI 0) dX11_call_157 (by decide) ?_
  refine am_iast (a := i) dX11_call_158 (hG.m0 (by decide)) rfl rfl (show i < 4 from (by omega)) (show 4 < 2 ^ 31 by decide) ?_
  refine am_aload_n dX11_call_159 rfl ?_
  refine am_get (v := .inr (0, 93)) dX11_call_160 fl_11_99 (hG.m0 (by decide)) rfl ?_
  refine am_iload_n dX11_call_163 rfl ?_
  refine am_iconst (v := nI 0) dX11_call_164 (by decide) ?_
  refine am_zast (a := i) dX11_call_165 (hG.m0 (by decide)) rfl (by decide) rfl (show i < 4 from (by omega)) (show 4 < 2 ^ 31 by decide) ?_
  refine am_iconst (v := nI 0) dX11_call_166 (by decide) ?_
  refine am_istore dX11_call_167 (by decide) ?_
  refine K _ (fun k hk => by simp [am_up, am_upf, upd, hI, am_fr, hI1]) ?_ 136 0 (by omega)
  refine am_aload_n dX11_call_195 rfl ?_
  refine am_iload_n dX11_call_196 rfl ?_
  refine am_callVv (i := 0) (j := 60) (as := [.inl (nI i)]) (rest := []) dX11_call_197 lkX11_goOn ml_X11_212 imX11_goOn seX11_goOn rfl rfl (hG.m0 (by decide)) rfl (Nat.le_of_ble_eq_true rfl) rfl (c_MgoOn2 (a := a) hG hi (by omega) (am_up (am_up (am_up (am_up (am_up (am_up (am_up (am_up (am_up (am_up (am_up (am_up I1 0 82 i (nI 2)) 0 83 i (nI a)) 0 84 i b) 0 85 i c) 0 86 i e) 0 87 i (nI 1)) 0 88 i (nI 0)) 0 89 i (nI 0)) 0 90 i (nI 0)) 0 91 i (nI 0)) 0 92 i (nI 0)) 0 93 i (nI 0)) (fun k hk => by simp [am_up, am_upf, upd, hI, am_fr, hI1]) (fun k hk => by simp [am_up, am_upf, upd, hI, am_fr, hI1]) (fun x hx => by simp [am_up, am_upf, upd, hI, am_fr, hx, hI1]) (fun x hx => by simp [am_up, am_upf, upd, hI, am_fr, hx, hI1]) (fun f t => by simp [am_up, am_upf, upd, hI, am_fr, hI1]) (fun f t => by simp [am_up, am_upf, upd, hI, am_fr, hI1]) (by simp [am_up, am_upf, upd, hI, am_fr, am_dk, hi, hI1]) (by simp [am_up, am_upf, upd, hI, am_fr, am_dk, hi, hI1]) (by simp [am_up, am_upf, upd, hI, am_fr, am_dk, hi, hI1]) (by simp [am_up, am_upf, upd, hI, am_fr, am_dk, hi, hI1]) (by simp [am_up, am_upf, upd, hI, am_fr, am_dk, hi, hI1]) (by simp [am_up, am_upf, upd, hI, am_fr, am_dk, hi, hI1]) (by simp [am_up, am_upf, upd, hI, am_fr, am_dk, hi, hI1]) (by simp [am_up, am_upf, upd, hI, am_fr, am_dk, hi, hI1]) (by simp [am_up, am_upf, upd, hI, am_fr, am_dk, hi, hI1]) (by simp [am_up, am_upf, upd, hI, am_fr, am_dk, hi, hI1]) (by simp [am_up, am_upf, upd, hI, am_fr, am_dk, hi, hI1]) (by simp [am_up, am_upf, upd, hI, am_fr, am_dk, hi, hI1]) (by simp [am_up, am_upf, upd, hI, am_fr, am_dk, hi, hI1]) (by simp [am_up, am_upf, upd, hI, am_fr, am_dk, hi, hI1]) (by simp [am_up, am_upf, upd, hI, am_fr, am_dk, hi, hI1])) rfl (fun I9 hq => ?_)
  have hst9 := hq.2.1
  have hth9 := hq.2.2
  refine am_nm (fun I2 hI2 => ?_)
  refine am_aload_n dX11_call_200 rfl ?_
  refine am_get (v := .inr (0, 87)) dX11_call_201 fl_11_81 (hG.m0 (by decide)) rfl ?_
  refine am_iload_n dX11_call_204 rfl ?_
  refine am_iald (a := i) dX11_call_205 (hG.m0 (by decide)) rfl rfl (show i < 4 from (by omega)) (show 4 < 2 ^ 31 by decide) ?_
  refine am_top (show I2 0 87 i = nI 1 from (by simp [am_up, am_upf, upd, hI, am_fr, am_dk, hi, hI1, hst9, hth9, hI2])) ?_
  refine am_iconst (v := nI 1) dX11_call_206 (by decide) ?_
  refine am_icmp_ne (tgt := 214) dX11_call_207 (by decide) (fun h => absurd h (by decide)) (fun _ => ?_)
  refine am_iconst (v := nI 0) dX11_call_210 (by decide) ?_
  refine am_goto (tgt := 215) dX11_call_211 (by decide) ?_
  refine am_iret dX11_call_215 rfl rfl ?_
  exact ⟨rfl, (by simp [am_up, am_upf, upd, hI, am_fr, am_dk, hi, hI1, hst9, hth9, hI2])⟩
theorem m_call3 {G : am_G} (hG : am_okM G) {d : Nat} {i : Nat} (hi : i < G.2.2.2.1) {a : Nat} (hab : a < 128) (b c e : Int32) (hP : 0 ≤ (nI a).toInt ∧ (nI a).toInt < 128 ∧ ¬ b.toInt = 0 ∧ 0 ≤ c.toInt ∧ c.toInt < 128) {I : am_I} (hI : I = am_fr G.2.2.2.1)  : am_C G (d + 7) mX11_call [.inr (0, 60), .inl (nI i), .inl (nI 3), .inl (nI a), .inl b, .inl c, .inl e] I (fun rr J => rr = some (nI 0) ∧ J 0 60 0 = nI 0) := by
  have hn4 := hG.hi
  have hn2 := hG.lo
  have K : ∀ (X : am_I) (_ : ∀ k, k < 544 → X 0 81 k = nI 0) (_ : am_J G (d + 7) mX11_call am_no (fun rr J => rr = some (nI 0) ∧ J 0 60 0 = nI 0) 195 [some (.inr (0, 60)), some (.inl (nI i)), some (.inl (nI 3)), some (.inl (nI a)), some (.inl b), some (.inl c), some (.inl e), some (.inl (nI 1)), some (.inl (nI 136))] [] X) (m r : Nat), r + m = 136 → am_J G (d + 7) mX11_call am_no (fun rr J => rr = some (nI 0) ∧ J 0 60 0 = nI 0) 169 [some (.inr (0, 60)), some (.inl (nI i)), some (.inl (nI 3)), some (.inl (nI a)), some (.inl b), some (.inl c), some (.inl e), some (.inl (nI 1)), some (.inl (nI r))] [] X := by
    intro X hX hk m
    induction m with
    | zero =>
      intro r ha
      obtain rfl : r = 136 := by omega
      refine am_iload dX11_call_169 rfl ?_
      refine am_sipush (v := nI 136) dX11_call_171 (by decide) ?_
      refine am_icmp_ge (tgt := 195) dX11_call_174 (by decide) (fun _ => ?_) (fun h => absurd ((nI_leI (a := 136) (b := 136) (by omega) (by omega)).mpr (by omega)) h)
      exact hk
    | succ m ih =>
      intro r ha
      refine am_iload dX11_call_169 rfl ?_
      refine am_sipush (v := nI 136) dX11_call_171 (by decide) ?_
      refine am_icmp_ge (tgt := 195) dX11_call_174 (by decide) (fun h => absurd ((nI_leI (a := 136) (b := r) (by omega) (by omega)).mp h) (by omega)) (fun _ => ?_)
      refine am_aload_n dX11_call_177 rfl ?_
      refine am_get (v := .inr (0, 81)) dX11_call_178 fl_11_63 (hG.m0 (by decide)) rfl ?_
      refine am_iload_n dX11_call_181 rfl ?_
      refine am_iload dX11_call_182 rfl ?_
      refine am_callSx (as := [.inl (nI i), .inl (nI r)]) (rest := [.inr (0, 81)]) dX11_call_184 lkX11_at ml_X11_208 isX11_at rfl (Nat.le_of_ble_eq_true rfl) rfl (c_Mat hG.nd (g := i) (r := r) (by omega) (by omega) X) ?_
      refine am_iconst (v := nI 0) dX11_call_187 (by decide) ?_
      refine am_iast (a := 136 * i + r) dX11_call_188 (hG.m0 (by decide)) rfl rfl (show 136 * i + r < 544 from (by omega)) (show 544 < 2 ^ 31 by decide) ?_
      rw [am_up_id (hX _ (by omega))]
      refine am_iinc (v := nI (r + 1)) dX11_call_189 rfl (nI_add _ _) ?_
      refine am_goto (tgt := 169) dX11_call_192 (by decide) ?_
      exact ih (r + 1) (by omega)
  refine am_of (by decide +kernel) hG.nd (Nat.le_of_ble_eq_true rfl) ?_
  refine am_aload_n dX11_call_0 rfl ?_
  refine am_iload_n dX11_call_1 rfl ?_
  refine am_callVx (i := 0) (j := 60) (as := [.inl (nI i)]) (rest := []) dX11_call_2 lkX11_isNode ml_X11_434 imX11_isNode seX11_isNode rfl rfl (hG.m0 (by decide)) rfl (Nat.le_of_ble_eq_true rfl) rfl (c_MisNodeY hG hi (by simp [am_up, am_upf, upd, hI, am_fr, am_dk, hi])) ?_
  refine am_if_eq (tgt := 26) dX11_call_5 (by decide) (fun h => absurd h (by decide)) (fun _ => ?_)
  refine am_iload_n dX11_call_8 rfl ?_
  refine am_iload_n dX11_call_9 rfl ?_
  refine am_iload dX11_call_10 rfl ?_
  refine am_iload dX11_call_12 rfl ?_
  refine am_iload dX11_call_14 rfl ?_
  refine am_callSx (as := [.inl (nI 3), .inl (nI a), .inl b, .inl c, .inl e]) (rest := []) dX11_call_16 lkX11_isGiven ml_X11_437 isX11_isGiven rfl (Nat.le_of_ble_eq_true rfl) rfl (c_isGiven3 hG.nd (nI a) b c e I) ?_
  refine am_if_eq (tgt := 26) dX11_call_19 (by decide) (fun h => absurd h ((am_bn _).mpr (decide_eq_true hP))) (fun _ => ?_)
  refine am_iconst (v := nI 1) dX11_call_22 (by decide) ?_
  refine am_goto (tgt := 27) dX11_call_23 (by decide) ?_
  refine am_istore dX11_call_27 (by decide) ?_
  refine am_aload_n dX11_call_29 rfl ?_
  refine am_iload dX11_call_30 rfl ?_
  refine am_if_ne (tgt := 39) dX11_call_32 (by decide) (fun _ => ?_) (fun h => absurd h (by decide))
  refine am_iconst (v := nI 0) dX11_call_39 (by decide) ?_
  refine am_iload dX11_call_40 rfl ?_
  refine am_if_eq (tgt := 66) dX11_call_42 (by decide) (fun h => absurd h (by decide)) (fun _ => ?_)
  refine am_aload_n dX11_call_45 rfl ?_
  refine am_get (v := .inr (0, 65)) dX11_call_46 fl_11_13 (hG.m0 (by decide)) rfl ?_
  refine am_iload_n dX11_call_49 rfl ?_
  refine am_zald (a := i) dX11_call_50 (hG.m0 (by decide)) rfl rfl (show i < 4 from (by omega)) (show 4 < 2 ^ 31 by decide) ?_
  refine am_top (show I 0 65 i = nI 1 from (by simp [am_up, am_upf, upd, hI, am_fr, am_dk, hi])) ?_
  refine am_if_eq (tgt := 62) dX11_call_51 (by decide) (fun h => absurd h (by decide)) (fun _ => ?_)
  refine am_aload_n dX11_call_54 rfl ?_
  refine am_iload_n dX11_call_55 rfl ?_
  refine am_callVx (i := 0) (j := 60) (as := [.inl (nI i)]) (rest := [.inl (nI 0), .inr (0, 60)]) dX11_call_56 lkX11_isCalling ml_X11_264 imX11_isCalling seX11_isCalling rfl rfl (hG.m0 (by decide)) rfl (Nat.le_of_ble_eq_true rfl) rfl (c_MisCalling0 hG hi I (by simp [am_up, am_upf, upd, hI, am_fr, am_dk, hi])) ?_
  refine am_if_eq (tgt := 66) dX11_call_59 (by decide) (fun _ => ?_) (fun h => absurd h (by decide))
  refine am_iconst (v := nI 0) dX11_call_66 (by decide) ?_
  refine am_iconst (v := nI 0) dX11_call_67 (by decide) ?_
  refine am_callVx (i := 0) (j := 60) (as := [.inl (nI 0), .inl (nI 0), .inl (nI 0)]) (rest := []) dX11_call_68 lkX11_refuse ml_X11_441 imX11_refuse seX11_refuse rfl rfl (hG.m0 (by decide)) rfl (Nat.le_of_ble_eq_true rfl) rfl (c_refuse000 hG I) ?_
  refine am_nm (fun I1 hI1 => ?_)
  refine am_if_eq (tgt := 76) dX11_call_71 (by decide) (fun _ => ?_) (fun h => absurd h (by decide))
  refine am_aload_n dX11_call_76 rfl ?_
  refine am_get (v := .inr (0, 82)) dX11_call_77 fl_11_66 (hG.m0 (by decide)) rfl ?_
  refine am_iload_n dX11_call_80 rfl ?_
  refine am_iload_n dX11_call_81 rfl ?_
  refine am_iast (a := i) dX11_call_82 (hG.m0 (by decide)) rfl rfl (show i < 4 from (by omega)) (show 4 < 2 ^ 31 by decide) ?_
  refine am_aload_n dX11_call_83 rfl ?_
  refine am_get (v := .inr (0, 83)) dX11_call_84 fl_11_69 (hG.m0 (by decide)) rfl ?_
  refine am_iload_n dX11_call_87 rfl ?_
  refine am_iload_n dX11_call_88 rfl ?_
  refine am_iast (a := i) dX11_call_89 (hG.m0 (by decide)) rfl rfl (show i < 4 from (by omega)) (show 4 < 2 ^ 31 by decide) ?_
  refine am_aload_n dX11_call_90 rfl ?_
  refine am_get (v := .inr (0, 84)) dX11_call_91 fl_11_72 (hG.m0 (by decide)) rfl ?_
  refine am_iload_n dX11_call_94 rfl ?_
  refine am_iload dX11_call_95 rfl ?_
  refine am_iast (a := i) dX11_call_97 (hG.m0 (by decide)) rfl rfl (show i < 4 from (by omega)) (show 4 < 2 ^ 31 by decide) ?_
  refine am_aload_n dX11_call_98 rfl ?_
  refine am_get (v := .inr (0, 85)) dX11_call_99 fl_11_75 (hG.m0 (by decide)) rfl ?_
  refine am_iload_n dX11_call_102 rfl ?_
  refine am_iload dX11_call_103 rfl ?_
  refine am_iast (a := i) dX11_call_105 (hG.m0 (by decide)) rfl rfl (show i < 4 from (by omega)) (show 4 < 2 ^ 31 by decide) ?_
  refine am_aload_n dX11_call_106 rfl ?_
  refine am_get (v := .inr (0, 86)) dX11_call_107 fl_11_78 (hG.m0 (by decide)) rfl ?_
  refine am_iload_n dX11_call_110 rfl ?_
  refine am_iload dX11_call_111 rfl ?_
  refine am_iast (a := i) dX11_call_113 (hG.m0 (by decide)) rfl rfl (show i < 4 from (by omega)) (show 4 < 2 ^ 31 by decide) ?_
  refine am_aload_n dX11_call_114 rfl ?_
  refine am_get (v := .inr (0, 87)) dX11_call_115 fl_11_81 (hG.m0 (by decide)) rfl ?_
  refine am_iload_n dX11_call_118 rfl ?_
  refine am_iconst (v := nI 1) dX11_call_119 (by decide) ?_
  refine am_iast (a := i) dX11_call_120 (hG.m0 (by decide)) rfl rfl (show i < 4 from (by omega)) (show 4 < 2 ^ 31 by decide) ?_
  refine am_aload_n dX11_call_121 rfl ?_
  refine am_get (v := .inr (0, 88)) dX11_call_122 fl_11_84 (hG.m0 (by decide)) rfl ?_
  refine am_iload_n dX11_call_125 rfl ?_
  refine am_iconst (v := nI 0) dX11_call_126 (by decide) ?_
  refine am_iast (a := i) dX11_call_127 (hG.m0 (by decide)) rfl rfl (show i < 4 from (by omega)) (show 4 < 2 ^ 31 by decide) ?_
  refine am_aload_n dX11_call_128 rfl ?_
  refine am_get (v := .inr (0, 89)) dX11_call_129 fl_11_87 (hG.m0 (by decide)) rfl ?_
  refine am_iload_n dX11_call_132 rfl ?_
  refine am_aload_n dX11_call_133 rfl ?_
  refine am_get (v := .inl ((am_up (am_up (am_up (am_up (am_up (am_up (am_up I1 0 82 i (nI 3)) 0 83 i (nI a)) 0 84 i b) 0 85 i c) 0 86 i e) 0 87 i (nI 1)) 0 88 i (nI 0)) 0 60 2)) dX11_call_134 fl_11_194 (hG.m0 (by decide)) rfl ?_
  refine am_top (show (am_up (am_up (am_up (am_up (am_up (am_up (am_up I1 0 82 i (nI 3)) 0 83 i (nI a)) 0 84 i b) 0 85 i c) 0 86 i e) 0 87 i (nI 1)) 0 88 i (nI 0)) 0 60 2 = nI 0 from (by simp [am_up, am_upf, upd, hI, am_fr, am_dk, hi, hI1])) ?_
  refine am_iast (a := i) dX11_call_137 (hG.m0 (by decide)) rfl rfl (show i < 4 from (by omega)) (show 4 < 2 ^ 31 by decide) ?_
  refine am_aload_n dX11_call_138 rfl ?_
  refine am_get (v := .inr (0, 90)) dX11_call_139 fl_11_90 (hG.m0 (by decide)) rfl ?_
  refine am_iload_n dX11_call_142 rfl ?_
  refine am_iconst (v := nI 0) dX11_call_143 (by decide) ?_
  refine am_iast (a := i) dX11_call_144 (hG.m0 (by decide)) rfl rfl (show i < 4 from (by omega)) (show 4 < 2 ^ 31 by decide) ?_
  refine am_aload_n dX11_call_145 rfl ?_
  refine am_get (v := .inr (0, 91)) dX11_call_146 fl_11_93 (hG.m0 (by decide)) rfl ?_
  refine am_iload_n dX11_call_149 rfl ?_
  refine am_iconst (v := nI 0) dX11_call_150 (by decide) ?_
  refine am_iast (a := i) dX11_call_151 (hG.m0 (by decide)) rfl rfl (show i < 4 from (by omega)) (show 4 < 2 ^ 31 by decide) ?_
  refine am_aload_n dX11_call_152 rfl ?_
  refine am_get (v := .inr (0, 92)) dX11_call_153 fl_11_96 (hG.m0 (by decide)) rfl ?_
  refine am_iload_n dX11_call_156 rfl ?_
  refine am_iconst (v := nI 0) dX11_call_157 (by decide) ?_
  refine am_iast (a := i) dX11_call_158 (hG.m0 (by decide)) rfl rfl (show i < 4 from (by omega)) (show 4 < 2 ^ 31 by decide) ?_
  refine am_aload_n dX11_call_159 rfl ?_
  refine am_get (v := .inr (0, 93)) dX11_call_160 fl_11_99 (hG.m0 (by decide)) rfl ?_
  refine am_iload_n dX11_call_163 rfl ?_
  refine am_iconst (v := nI 0) dX11_call_164 (by decide) ?_
  refine am_zast (a := i) dX11_call_165 (hG.m0 (by decide)) rfl (by decide) rfl (show i < 4 from (by omega)) (show 4 < 2 ^ 31 by decide) ?_
  refine am_iconst (v := nI 0) dX11_call_166 (by decide) ?_
  refine am_istore dX11_call_167 (by decide) ?_
  refine K _ (fun k hk => by simp [am_up, am_upf, upd, hI, am_fr, hI1]) ?_ 136 0 (by omega)
  refine am_aload_n dX11_call_195 rfl ?_
  refine am_iload_n dX11_call_196 rfl ?_
  refine am_callVv (i := 0) (j := 60) (as := [.inl (nI i)]) (rest := []) dX11_call_197 lkX11_goOn ml_X11_212 imX11_goOn seX11_goOn rfl rfl (hG.m0 (by decide)) rfl (Nat.le_of_ble_eq_true rfl) rfl (c_MgoOn3 (a := a) hG hi (by omega) (am_up (am_up (am_up (am_up (am_up (am_up (am_up (am_up (am_up (am_up (am_up (am_up I1 0 82 i (nI 3)) 0 83 i (nI a)) 0 84 i b) 0 85 i c) 0 86 i e) 0 87 i (nI 1)) 0 88 i (nI 0)) 0 89 i (nI 0)) 0 90 i (nI 0)) 0 91 i (nI 0)) 0 92 i (nI 0)) 0 93 i (nI 0)) (fun k hk => by simp [am_up, am_upf, upd, hI, am_fr, hI1]) (fun k hk => by simp [am_up, am_upf, upd, hI, am_fr, hI1]) (fun x hx => by simp [am_up, am_upf, upd, hI, am_fr, hx, hI1]) (fun x hx => by simp [am_up, am_upf, upd, hI, am_fr, hx, hI1]) (fun f t => by simp [am_up, am_upf, upd, hI, am_fr, hI1]) (fun f t => by simp [am_up, am_upf, upd, hI, am_fr, hI1]) (by simp [am_up, am_upf, upd, hI, am_fr, am_dk, hi, hI1]) (by simp [am_up, am_upf, upd, hI, am_fr, am_dk, hi, hI1]) (by simp [am_up, am_upf, upd, hI, am_fr, am_dk, hi, hI1]) (by simp [am_up, am_upf, upd, hI, am_fr, am_dk, hi, hI1]) (by simp [am_up, am_upf, upd, hI, am_fr, am_dk, hi, hI1]) (by simp [am_up, am_upf, upd, hI, am_fr, am_dk, hi, hI1]) (by simp [am_up, am_upf, upd, hI, am_fr, am_dk, hi, hI1]) (by simp [am_up, am_upf, upd, hI, am_fr, am_dk, hi, hI1]) (by simp [am_up, am_upf, upd, hI, am_fr, am_dk, hi, hI1]) (by simp [am_up, am_upf, upd, hI, am_fr, am_dk, hi, hI1]) (by simp [am_up, am_upf, upd, hI, am_fr, am_dk, hi, hI1]) (by simp [am_up, am_upf, upd, hI, am_fr, am_dk, hi, hI1]) (by simp [am_up, am_upf, upd, hI, am_fr, am_dk, hi, hI1]) (by simp [am_up, am_upf, upd, hI, am_fr, am_dk, hi, hI1]) (by simp [am_up, am_upf, upd, hI, am_fr, am_dk, hi, hI1])) rfl (fun I9 hq => ?_)
  have hst9 := hq.2.1
  have hth9 := hq.2.2
  refine am_nm (fun I2 hI2 => ?_)
  refine am_aload_n dX11_call_200 rfl ?_
  refine am_get (v := .inr (0, 87)) dX11_call_201 fl_11_81 (hG.m0 (by decide)) rfl ?_
  refine am_iload_n dX11_call_204 rfl ?_
  refine am_iald (a := i) dX11_call_205 (hG.m0 (by decide)) rfl rfl (show i < 4 from (by omega)) (show 4 < 2 ^ 31 by decide) ?_
  refine am_top (show I2 0 87 i = nI 1 from (by simp [am_up, am_upf, upd, hI, am_fr, am_dk, hi, hI1, hst9, hth9, hI2])) ?_
  refine am_iconst (v := nI 1) dX11_call_206 (by decide) ?_
  refine am_icmp_ne (tgt := 214) dX11_call_207 (by decide) (fun h => absurd h (by decide)) (fun _ => ?_)
  refine am_iconst (v := nI 0) dX11_call_210 (by decide) ?_
  refine am_goto (tgt := 215) dX11_call_211 (by decide) ?_
  refine am_iret dX11_call_215 rfl rfl ?_
  exact ⟨rfl, (by simp [am_up, am_upf, upd, hI, am_fr, am_dk, hi, hI1, hst9, hth9, hI2])⟩
theorem m_call4 {G : am_G} (hG : am_okM G) {d : Nat} {i : Nat} (hi : i < G.2.2.2.1) {a : Nat} (hab : a < 128) (b c e : Int32) (hP : 0 ≤ (nI a).toInt ∧ (nI a).toInt < 128 ∧ ¬ b.toInt = 0 ∧ 0 ≤ c.toInt ∧ c.toInt < 128 ∧ ¬ e.toInt = 0) {I : am_I} (hI : I = am_fr G.2.2.2.1)  : am_C G (d + 7) mX11_call [.inr (0, 60), .inl (nI i), .inl (nI 4), .inl (nI a), .inl b, .inl c, .inl e] I (fun rr J => rr = some (nI 0) ∧ J 0 60 0 = nI 0) := by
  have hn4 := hG.hi
  have hn2 := hG.lo
  have K : ∀ (X : am_I) (_ : ∀ k, k < 544 → X 0 81 k = nI 0) (_ : am_J G (d + 7) mX11_call am_no (fun rr J => rr = some (nI 0) ∧ J 0 60 0 = nI 0) 195 [some (.inr (0, 60)), some (.inl (nI i)), some (.inl (nI 4)), some (.inl (nI a)), some (.inl b), some (.inl c), some (.inl e), some (.inl (nI 1)), some (.inl (nI 136))] [] X) (m r : Nat), r + m = 136 → am_J G (d + 7) mX11_call am_no (fun rr J => rr = some (nI 0) ∧ J 0 60 0 = nI 0) 169 [some (.inr (0, 60)), some (.inl (nI i)), some (.inl (nI 4)), some (.inl (nI a)), some (.inl b), some (.inl c), some (.inl e), some (.inl (nI 1)), some (.inl (nI r))] [] X := by
    intro X hX hk m
    induction m with
    | zero =>
      intro r ha
      obtain rfl : r = 136 := by omega
      refine am_iload dX11_call_169 rfl ?_
      refine am_sipush (v := nI 136) dX11_call_171 (by decide) ?_
      refine am_icmp_ge (tgt := 195) dX11_call_174 (by decide) (fun _ => ?_) (fun h => absurd ((nI_leI (a := 136) (b := 136) (by omega) (by omega)).mpr (by omega)) h)
      exact hk
    | succ m ih =>
      intro r ha
      refine am_iload dX11_call_169 rfl ?_
      refine am_sipush (v := nI 136) dX11_call_171 (by decide) ?_
      refine am_icmp_ge (tgt := 195) dX11_call_174 (by decide) (fun h => absurd ((nI_leI (a := 136) (b := r) (by omega) (by omega)).mp h) (by omega)) (fun _ => ?_)
      refine am_aload_n dX11_call_177 rfl ?_
      refine am_get (v := .inr (0, 81)) dX11_call_178 fl_11_63 (hG.m0 (by decide)) rfl ?_
      refine am_iload_n dX11_call_181 rfl ?_
      refine am_iload dX11_call_182 rfl ?_
      refine am_callSx (as := [.inl (nI i), .inl (nI r)]) (rest := [.inr (0, 81)]) dX11_call_184 lkX11_at ml_X11_208 isX11_at rfl (Nat.le_of_ble_eq_true rfl) rfl (c_Mat hG.nd (g := i) (r := r) (by omega) (by omega) X) ?_
      refine am_iconst (v := nI 0) dX11_call_187 (by decide) ?_
      refine am_iast (a := 136 * i + r) dX11_call_188 (hG.m0 (by decide)) rfl rfl (show 136 * i + r < 544 from (by omega)) (show 544 < 2 ^ 31 by decide) ?_
      rw [am_up_id (hX _ (by omega))]
      refine am_iinc (v := nI (r + 1)) dX11_call_189 rfl (nI_add _ _) ?_
      refine am_goto (tgt := 169) dX11_call_192 (by decide) ?_
      exact ih (r + 1) (by omega)
  refine am_of (by decide +kernel) hG.nd (Nat.le_of_ble_eq_true rfl) ?_
  refine am_aload_n dX11_call_0 rfl ?_
  refine am_iload_n dX11_call_1 rfl ?_
  refine am_callVx (i := 0) (j := 60) (as := [.inl (nI i)]) (rest := []) dX11_call_2 lkX11_isNode ml_X11_434 imX11_isNode seX11_isNode rfl rfl (hG.m0 (by decide)) rfl (Nat.le_of_ble_eq_true rfl) rfl (c_MisNodeY hG hi (by simp [am_up, am_upf, upd, hI, am_fr, am_dk, hi])) ?_
  refine am_if_eq (tgt := 26) dX11_call_5 (by decide) (fun h => absurd h (by decide)) (fun _ => ?_)
  refine am_iload_n dX11_call_8 rfl ?_
  refine am_iload_n dX11_call_9 rfl ?_
  refine am_iload dX11_call_10 rfl ?_
  refine am_iload dX11_call_12 rfl ?_
  refine am_iload dX11_call_14 rfl ?_
  refine am_callSx (as := [.inl (nI 4), .inl (nI a), .inl b, .inl c, .inl e]) (rest := []) dX11_call_16 lkX11_isGiven ml_X11_437 isX11_isGiven rfl (Nat.le_of_ble_eq_true rfl) rfl (c_isGiven4 hG.nd (nI a) b c e I) ?_
  refine am_if_eq (tgt := 26) dX11_call_19 (by decide) (fun h => absurd h ((am_bn _).mpr (decide_eq_true hP))) (fun _ => ?_)
  refine am_iconst (v := nI 1) dX11_call_22 (by decide) ?_
  refine am_goto (tgt := 27) dX11_call_23 (by decide) ?_
  refine am_istore dX11_call_27 (by decide) ?_
  refine am_aload_n dX11_call_29 rfl ?_
  refine am_iload dX11_call_30 rfl ?_
  refine am_if_ne (tgt := 39) dX11_call_32 (by decide) (fun _ => ?_) (fun h => absurd h (by decide))
  refine am_iconst (v := nI 0) dX11_call_39 (by decide) ?_
  refine am_iload dX11_call_40 rfl ?_
  refine am_if_eq (tgt := 66) dX11_call_42 (by decide) (fun h => absurd h (by decide)) (fun _ => ?_)
  refine am_aload_n dX11_call_45 rfl ?_
  refine am_get (v := .inr (0, 65)) dX11_call_46 fl_11_13 (hG.m0 (by decide)) rfl ?_
  refine am_iload_n dX11_call_49 rfl ?_
  refine am_zald (a := i) dX11_call_50 (hG.m0 (by decide)) rfl rfl (show i < 4 from (by omega)) (show 4 < 2 ^ 31 by decide) ?_
  refine am_top (show I 0 65 i = nI 1 from (by simp [am_up, am_upf, upd, hI, am_fr, am_dk, hi])) ?_
  refine am_if_eq (tgt := 62) dX11_call_51 (by decide) (fun h => absurd h (by decide)) (fun _ => ?_)
  refine am_aload_n dX11_call_54 rfl ?_
  refine am_iload_n dX11_call_55 rfl ?_
  refine am_callVx (i := 0) (j := 60) (as := [.inl (nI i)]) (rest := [.inl (nI 0), .inr (0, 60)]) dX11_call_56 lkX11_isCalling ml_X11_264 imX11_isCalling seX11_isCalling rfl rfl (hG.m0 (by decide)) rfl (Nat.le_of_ble_eq_true rfl) rfl (c_MisCalling0 hG hi I (by simp [am_up, am_upf, upd, hI, am_fr, am_dk, hi])) ?_
  refine am_if_eq (tgt := 66) dX11_call_59 (by decide) (fun _ => ?_) (fun h => absurd h (by decide))
  refine am_iconst (v := nI 0) dX11_call_66 (by decide) ?_
  refine am_iconst (v := nI 0) dX11_call_67 (by decide) ?_
  refine am_callVx (i := 0) (j := 60) (as := [.inl (nI 0), .inl (nI 0), .inl (nI 0)]) (rest := []) dX11_call_68 lkX11_refuse ml_X11_441 imX11_refuse seX11_refuse rfl rfl (hG.m0 (by decide)) rfl (Nat.le_of_ble_eq_true rfl) rfl (c_refuse000 hG I) ?_
  refine am_nm (fun I1 hI1 => ?_)
  refine am_if_eq (tgt := 76) dX11_call_71 (by decide) (fun _ => ?_) (fun h => absurd h (by decide))
  refine am_aload_n dX11_call_76 rfl ?_
  refine am_get (v := .inr (0, 82)) dX11_call_77 fl_11_66 (hG.m0 (by decide)) rfl ?_
  refine am_iload_n dX11_call_80 rfl ?_
  refine am_iload_n dX11_call_81 rfl ?_
  refine am_iast (a := i) dX11_call_82 (hG.m0 (by decide)) rfl rfl (show i < 4 from (by omega)) (show 4 < 2 ^ 31 by decide) ?_
  refine am_aload_n dX11_call_83 rfl ?_
  refine am_get (v := .inr (0, 83)) dX11_call_84 fl_11_69 (hG.m0 (by decide)) rfl ?_
  refine am_iload_n dX11_call_87 rfl ?_
  refine am_iload_n dX11_call_88 rfl ?_
  refine am_iast (a := i) dX11_call_89 (hG.m0 (by decide)) rfl rfl (show i < 4 from (by omega)) (show 4 < 2 ^ 31 by decide) ?_
  refine am_aload_n dX11_call_90 rfl ?_
  refine am_get (v := .inr (0, 84)) dX11_call_91 fl_11_72 (hG.m0 (by decide)) rfl ?_
  refine am_iload_n dX11_call_94 rfl ?_
  refine am_iload dX11_call_95 rfl ?_
  refine am_iast (a := i) dX11_call_97 (hG.m0 (by decide)) rfl rfl (show i < 4 from (by omega)) (show 4 < 2 ^ 31 by decide) ?_
  refine am_aload_n dX11_call_98 rfl ?_
  refine am_get (v := .inr (0, 85)) dX11_call_99 fl_11_75 (hG.m0 (by decide)) rfl ?_
  refine am_iload_n dX11_call_102 rfl ?_
  refine am_iload dX11_call_103 rfl ?_
  refine am_iast (a := i) dX11_call_105 (hG.m0 (by decide)) rfl rfl (show i < 4 from (by omega)) (show 4 < 2 ^ 31 by decide) ?_
  refine am_aload_n dX11_call_106 rfl ?_
  refine am_get (v := .inr (0, 86)) dX11_call_107 fl_11_78 (hG.m0 (by decide)) rfl ?_
  refine am_iload_n dX11_call_110 rfl ?_
  refine am_iload dX11_call_111 rfl ?_
  refine am_iast (a := i) dX11_call_113 (hG.m0 (by decide)) rfl rfl (show i < 4 from (by omega)) (show 4 < 2 ^ 31 by decide) ?_
  refine am_aload_n dX11_call_114 rfl ?_
  refine am_get (v := .inr (0, 87)) dX11_call_115 fl_11_81 (hG.m0 (by decide)) rfl ?_
  refine am_iload_n dX11_call_118 rfl ?_
  refine am_iconst (v := nI 1) dX11_call_119 (by decide) ?_
  refine am_iast (a := i) dX11_call_120 (hG.m0 (by decide)) rfl rfl (show i < 4 from (by omega)) (show 4 < 2 ^ 31 by decide) ?_
  refine am_aload_n dX11_call_121 rfl ?_
  refine am_get (v := .inr (0, 88)) dX11_call_122 fl_11_84 (hG.m0 (by decide)) rfl ?_
  refine am_iload_n dX11_call_125 rfl ?_
  refine am_iconst (v := nI 0) dX11_call_126 (by decide) ?_
  refine am_iast (a := i) dX11_call_127 (hG.m0 (by decide)) rfl rfl (show i < 4 from (by omega)) (show 4 < 2 ^ 31 by decide) ?_
  refine am_aload_n dX11_call_128 rfl ?_
  refine am_get (v := .inr (0, 89)) dX11_call_129 fl_11_87 (hG.m0 (by decide)) rfl ?_
  refine am_iload_n dX11_call_132 rfl ?_
  refine am_aload_n dX11_call_133 rfl ?_
  refine am_get (v := .inl ((am_up (am_up (am_up (am_up (am_up (am_up (am_up I1 0 82 i (nI 4)) 0 83 i (nI a)) 0 84 i b) 0 85 i c) 0 86 i e) 0 87 i (nI 1)) 0 88 i (nI 0)) 0 60 2)) dX11_call_134 fl_11_194 (hG.m0 (by decide)) rfl ?_
  refine am_top (show (am_up (am_up (am_up (am_up (am_up (am_up (am_up I1 0 82 i (nI 4)) 0 83 i (nI a)) 0 84 i b) 0 85 i c) 0 86 i e) 0 87 i (nI 1)) 0 88 i (nI 0)) 0 60 2 = nI 0 from (by simp [am_up, am_upf, upd, hI, am_fr, am_dk, hi, hI1])) ?_
  refine am_iast (a := i) dX11_call_137 (hG.m0 (by decide)) rfl rfl (show i < 4 from (by omega)) (show 4 < 2 ^ 31 by decide) ?_
  refine am_aload_n dX11_call_138 rfl ?_
  refine am_get (v := .inr (0, 90)) dX11_call_139 fl_11_90 (hG.m0 (by decide)) rfl ?_
  refine am_iload_n dX11_call_142 rfl ?_
  refine am_iconst (v := nI 0) dX11_call_143 (by decide) ?_
  refine am_iast (a := i) dX11_call_144 (hG.m0 (by decide)) rfl rfl (show i < 4 from (by omega)) (show 4 < 2 ^ 31 by decide) ?_
  refine am_aload_n dX11_call_145 rfl ?_
  refine am_get (v := .inr (0, 91)) dX11_call_146 fl_11_93 (hG.m0 (by decide)) rfl ?_
  refine am_iload_n dX11_call_149 rfl ?_
  refine am_iconst (v := nI 0) dX11_call_150 (by decide) ?_
  refine am_iast (a := i) dX11_call_151 (hG.m0 (by decide)) rfl rfl (show i < 4 from (by omega)) (show 4 < 2 ^ 31 by decide) ?_
  refine am_aload_n dX11_call_152 rfl ?_
  refine am_get (v := .inr (0, 92)) dX11_call_153 fl_11_96 (hG.m0 (by decide)) rfl ?_
  refine am_iload_n dX11_call_156 rfl ?_
  refine am_iconst (v := nI 0) dX11_call_157 (by decide) ?_
  refine am_iast (a := i) dX11_call_158 (hG.m0 (by decide)) rfl rfl (show i < 4 from (by omega)) (show 4 < 2 ^ 31 by decide) ?_
  refine am_aload_n dX11_call_159 rfl ?_
  refine am_get (v := .inr (0, 93)) dX11_call_160 fl_11_99 (hG.m0 (by decide)) rfl ?_
  refine am_iload_n dX11_call_163 rfl ?_
  refine am_iconst (v := nI 0) dX11_call_164 (by decide) ?_
  refine am_zast (a := i) dX11_call_165 (hG.m0 (by decide)) rfl (by decide) rfl (show i < 4 from (by omega)) (show 4 < 2 ^ 31 by decide) ?_
  refine am_iconst (v := nI 0) dX11_call_166 (by decide) ?_
  refine am_istore dX11_call_167 (by decide) ?_
  refine K _ (fun k hk => by simp [am_up, am_upf, upd, hI, am_fr, hI1]) ?_ 136 0 (by omega)
  refine am_aload_n dX11_call_195 rfl ?_
  refine am_iload_n dX11_call_196 rfl ?_
  refine am_callVv (i := 0) (j := 60) (as := [.inl (nI i)]) (rest := []) dX11_call_197 lkX11_goOn ml_X11_212 imX11_goOn seX11_goOn rfl rfl (hG.m0 (by decide)) rfl (Nat.le_of_ble_eq_true rfl) rfl (c_MgoOn4 (a := a) hG hi (by omega) (am_up (am_up (am_up (am_up (am_up (am_up (am_up (am_up (am_up (am_up (am_up (am_up I1 0 82 i (nI 4)) 0 83 i (nI a)) 0 84 i b) 0 85 i c) 0 86 i e) 0 87 i (nI 1)) 0 88 i (nI 0)) 0 89 i (nI 0)) 0 90 i (nI 0)) 0 91 i (nI 0)) 0 92 i (nI 0)) 0 93 i (nI 0)) (fun k hk => by simp [am_up, am_upf, upd, hI, am_fr, hI1]) (fun k hk => by simp [am_up, am_upf, upd, hI, am_fr, hI1]) (fun x hx => by simp [am_up, am_upf, upd, hI, am_fr, hx, hI1]) (fun x hx => by simp [am_up, am_upf, upd, hI, am_fr, hx, hI1]) (fun f t => by simp [am_up, am_upf, upd, hI, am_fr, hI1]) (fun f t => by simp [am_up, am_upf, upd, hI, am_fr, hI1]) (by simp [am_up, am_upf, upd, hI, am_fr, am_dk, hi, hI1]) (by simp [am_up, am_upf, upd, hI, am_fr, am_dk, hi, hI1]) (by simp [am_up, am_upf, upd, hI, am_fr, am_dk, hi, hI1]) (by simp [am_up, am_upf, upd, hI, am_fr, am_dk, hi, hI1]) (by simp [am_up, am_upf, upd, hI, am_fr, am_dk, hi, hI1]) (by simp [am_up, am_upf, upd, hI, am_fr, am_dk, hi, hI1]) (by simp [am_up, am_upf, upd, hI, am_fr, am_dk, hi, hI1]) (by simp [am_up, am_upf, upd, hI, am_fr, am_dk, hi, hI1]) (by simp [am_up, am_upf, upd, hI, am_fr, am_dk, hi, hI1]) (by simp [am_up, am_upf, upd, hI, am_fr, am_dk, hi, hI1]) (by simp [am_up, am_upf, upd, hI, am_fr, am_dk, hi, hI1]) (by simp [am_up, am_upf, upd, hI, am_fr, am_dk, hi, hI1]) (by simp [am_up, am_upf, upd, hI, am_fr, am_dk, hi, hI1]) (by simp [am_up, am_upf, upd, hI, am_fr, am_dk, hi, hI1]) (by simp [am_up, am_upf, upd, hI, am_fr, am_dk, hi, hI1])) rfl (fun I9 hq => ?_)
  have hst9 := hq.2.1
  have hth9 := hq.2.2
  refine am_nm (fun I2 hI2 => ?_)
  refine am_aload_n dX11_call_200 rfl ?_
  refine am_get (v := .inr (0, 87)) dX11_call_201 fl_11_81 (hG.m0 (by decide)) rfl ?_
  refine am_iload_n dX11_call_204 rfl ?_
  refine am_iald (a := i) dX11_call_205 (hG.m0 (by decide)) rfl rfl (show i < 4 from (by omega)) (show 4 < 2 ^ 31 by decide) ?_
  refine am_top (show I2 0 87 i = nI 1 from (by simp [am_up, am_upf, upd, hI, am_fr, am_dk, hi, hI1, hst9, hth9, hI2])) ?_
  refine am_iconst (v := nI 1) dX11_call_206 (by decide) ?_
  refine am_icmp_ne (tgt := 214) dX11_call_207 (by decide) (fun h => absurd h (by decide)) (fun _ => ?_)
  refine am_iconst (v := nI 0) dX11_call_210 (by decide) ?_
  refine am_goto (tgt := 215) dX11_call_211 (by decide) ?_
  refine am_iret dX11_call_215 rfl rfl ?_
  exact ⟨rfl, (by simp [am_up, am_upf, upd, hI, am_fr, am_dk, hi, hI1, hst9, hth9, hI2])⟩
theorem m_call5 {G : am_G} (hG : am_okM G) {d : Nat} {i : Nat} (hi : i < G.2.2.2.1) {a : Nat} (hab : a < 128) (b c e : Int32) (hP : 0 ≤ (nI a).toInt ∧ (nI a).toInt < 128 ∧ 0 ≤ b.toInt ∧ b.toInt < 384) {I : am_I} (hI : I = am_fr G.2.2.2.1)  : am_C G (d + 7) mX11_call [.inr (0, 60), .inl (nI i), .inl (nI 5), .inl (nI a), .inl b, .inl c, .inl e] I (fun rr J => rr = some (nI 0) ∧ J 0 60 0 = nI 0) := by
  have hn4 := hG.hi
  have hn2 := hG.lo
  have K : ∀ (X : am_I) (_ : ∀ k, k < 544 → X 0 81 k = nI 0) (_ : am_J G (d + 7) mX11_call am_no (fun rr J => rr = some (nI 0) ∧ J 0 60 0 = nI 0) 195 [some (.inr (0, 60)), some (.inl (nI i)), some (.inl (nI 5)), some (.inl (nI a)), some (.inl b), some (.inl c), some (.inl e), some (.inl (nI 1)), some (.inl (nI 136))] [] X) (m r : Nat), r + m = 136 → am_J G (d + 7) mX11_call am_no (fun rr J => rr = some (nI 0) ∧ J 0 60 0 = nI 0) 169 [some (.inr (0, 60)), some (.inl (nI i)), some (.inl (nI 5)), some (.inl (nI a)), some (.inl b), some (.inl c), some (.inl e), some (.inl (nI 1)), some (.inl (nI r))] [] X := by
    intro X hX hk m
    induction m with
    | zero =>
      intro r ha
      obtain rfl : r = 136 := by omega
      refine am_iload dX11_call_169 rfl ?_
      refine am_sipush (v := nI 136) dX11_call_171 (by decide) ?_
      refine am_icmp_ge (tgt := 195) dX11_call_174 (by decide) (fun _ => ?_) (fun h => absurd ((nI_leI (a := 136) (b := 136) (by omega) (by omega)).mpr (by omega)) h)
      exact hk
    | succ m ih =>
      intro r ha
      refine am_iload dX11_call_169 rfl ?_
      refine am_sipush (v := nI 136) dX11_call_171 (by decide) ?_
      refine am_icmp_ge (tgt := 195) dX11_call_174 (by decide) (fun h => absurd ((nI_leI (a := 136) (b := r) (by omega) (by omega)).mp h) (by omega)) (fun _ => ?_)
      refine am_aload_n dX11_call_177 rfl ?_
      refine am_get (v := .inr (0, 81)) dX11_call_178 fl_11_63 (hG.m0 (by decide)) rfl ?_
      refine am_iload_n dX11_call_181 rfl ?_
      refine am_iload dX11_call_182 rfl ?_
      refine am_callSx (as := [.inl (nI i), .inl (nI r)]) (rest := [.inr (0, 81)]) dX11_call_184 lkX11_at ml_X11_208 isX11_at rfl (Nat.le_of_ble_eq_true rfl) rfl (c_Mat hG.nd (g := i) (r := r) (by omega) (by omega) X) ?_
      refine am_iconst (v := nI 0) dX11_call_187 (by decide) ?_
      refine am_iast (a := 136 * i + r) dX11_call_188 (hG.m0 (by decide)) rfl rfl (show 136 * i + r < 544 from (by omega)) (show 544 < 2 ^ 31 by decide) ?_
      rw [am_up_id (hX _ (by omega))]
      refine am_iinc (v := nI (r + 1)) dX11_call_189 rfl (nI_add _ _) ?_
      refine am_goto (tgt := 169) dX11_call_192 (by decide) ?_
      exact ih (r + 1) (by omega)
  refine am_of (by decide +kernel) hG.nd (Nat.le_of_ble_eq_true rfl) ?_
  refine am_aload_n dX11_call_0 rfl ?_
  refine am_iload_n dX11_call_1 rfl ?_
  refine am_callVx (i := 0) (j := 60) (as := [.inl (nI i)]) (rest := []) dX11_call_2 lkX11_isNode ml_X11_434 imX11_isNode seX11_isNode rfl rfl (hG.m0 (by decide)) rfl (Nat.le_of_ble_eq_true rfl) rfl (c_MisNodeY hG hi (by simp [am_up, am_upf, upd, hI, am_fr, am_dk, hi])) ?_
  refine am_if_eq (tgt := 26) dX11_call_5 (by decide) (fun h => absurd h (by decide)) (fun _ => ?_)
  refine am_iload_n dX11_call_8 rfl ?_
  refine am_iload_n dX11_call_9 rfl ?_
  refine am_iload dX11_call_10 rfl ?_
  refine am_iload dX11_call_12 rfl ?_
  refine am_iload dX11_call_14 rfl ?_
  refine am_callSx (as := [.inl (nI 5), .inl (nI a), .inl b, .inl c, .inl e]) (rest := []) dX11_call_16 lkX11_isGiven ml_X11_437 isX11_isGiven rfl (Nat.le_of_ble_eq_true rfl) rfl (c_isGiven5 hG.nd (nI a) b c e I) ?_
  refine am_if_eq (tgt := 26) dX11_call_19 (by decide) (fun h => absurd h ((am_bn _).mpr (decide_eq_true hP))) (fun _ => ?_)
  refine am_iconst (v := nI 1) dX11_call_22 (by decide) ?_
  refine am_goto (tgt := 27) dX11_call_23 (by decide) ?_
  refine am_istore dX11_call_27 (by decide) ?_
  refine am_aload_n dX11_call_29 rfl ?_
  refine am_iload dX11_call_30 rfl ?_
  refine am_if_ne (tgt := 39) dX11_call_32 (by decide) (fun _ => ?_) (fun h => absurd h (by decide))
  refine am_iconst (v := nI 0) dX11_call_39 (by decide) ?_
  refine am_iload dX11_call_40 rfl ?_
  refine am_if_eq (tgt := 66) dX11_call_42 (by decide) (fun h => absurd h (by decide)) (fun _ => ?_)
  refine am_aload_n dX11_call_45 rfl ?_
  refine am_get (v := .inr (0, 65)) dX11_call_46 fl_11_13 (hG.m0 (by decide)) rfl ?_
  refine am_iload_n dX11_call_49 rfl ?_
  refine am_zald (a := i) dX11_call_50 (hG.m0 (by decide)) rfl rfl (show i < 4 from (by omega)) (show 4 < 2 ^ 31 by decide) ?_
  refine am_top (show I 0 65 i = nI 1 from (by simp [am_up, am_upf, upd, hI, am_fr, am_dk, hi])) ?_
  refine am_if_eq (tgt := 62) dX11_call_51 (by decide) (fun h => absurd h (by decide)) (fun _ => ?_)
  refine am_aload_n dX11_call_54 rfl ?_
  refine am_iload_n dX11_call_55 rfl ?_
  refine am_callVx (i := 0) (j := 60) (as := [.inl (nI i)]) (rest := [.inl (nI 0), .inr (0, 60)]) dX11_call_56 lkX11_isCalling ml_X11_264 imX11_isCalling seX11_isCalling rfl rfl (hG.m0 (by decide)) rfl (Nat.le_of_ble_eq_true rfl) rfl (c_MisCalling0 hG hi I (by simp [am_up, am_upf, upd, hI, am_fr, am_dk, hi])) ?_
  refine am_if_eq (tgt := 66) dX11_call_59 (by decide) (fun _ => ?_) (fun h => absurd h (by decide))
  refine am_iconst (v := nI 0) dX11_call_66 (by decide) ?_
  refine am_iconst (v := nI 0) dX11_call_67 (by decide) ?_
  refine am_callVx (i := 0) (j := 60) (as := [.inl (nI 0), .inl (nI 0), .inl (nI 0)]) (rest := []) dX11_call_68 lkX11_refuse ml_X11_441 imX11_refuse seX11_refuse rfl rfl (hG.m0 (by decide)) rfl (Nat.le_of_ble_eq_true rfl) rfl (c_refuse000 hG I) ?_
  refine am_nm (fun I1 hI1 => ?_)
  refine am_if_eq (tgt := 76) dX11_call_71 (by decide) (fun _ => ?_) (fun h => absurd h (by decide))
  refine am_aload_n dX11_call_76 rfl ?_
  refine am_get (v := .inr (0, 82)) dX11_call_77 fl_11_66 (hG.m0 (by decide)) rfl ?_
  refine am_iload_n dX11_call_80 rfl ?_
  refine am_iload_n dX11_call_81 rfl ?_
  refine am_iast (a := i) dX11_call_82 (hG.m0 (by decide)) rfl rfl (show i < 4 from (by omega)) (show 4 < 2 ^ 31 by decide) ?_
  refine am_aload_n dX11_call_83 rfl ?_
  refine am_get (v := .inr (0, 83)) dX11_call_84 fl_11_69 (hG.m0 (by decide)) rfl ?_
  refine am_iload_n dX11_call_87 rfl ?_
  refine am_iload_n dX11_call_88 rfl ?_
  refine am_iast (a := i) dX11_call_89 (hG.m0 (by decide)) rfl rfl (show i < 4 from (by omega)) (show 4 < 2 ^ 31 by decide) ?_
  refine am_aload_n dX11_call_90 rfl ?_
  refine am_get (v := .inr (0, 84)) dX11_call_91 fl_11_72 (hG.m0 (by decide)) rfl ?_
  refine am_iload_n dX11_call_94 rfl ?_
  refine am_iload dX11_call_95 rfl ?_
  refine am_iast (a := i) dX11_call_97 (hG.m0 (by decide)) rfl rfl (show i < 4 from (by omega)) (show 4 < 2 ^ 31 by decide) ?_
  refine am_aload_n dX11_call_98 rfl ?_
  refine am_get (v := .inr (0, 85)) dX11_call_99 fl_11_75 (hG.m0 (by decide)) rfl ?_
  refine am_iload_n dX11_call_102 rfl ?_
  refine am_iload dX11_call_103 rfl ?_
  refine am_iast (a := i) dX11_call_105 (hG.m0 (by decide)) rfl rfl (show i < 4 from (by omega)) (show 4 < 2 ^ 31 by decide) ?_
  refine am_aload_n dX11_call_106 rfl ?_
  refine am_get (v := .inr (0, 86)) dX11_call_107 fl_11_78 (hG.m0 (by decide)) rfl ?_
  refine am_iload_n dX11_call_110 rfl ?_
  refine am_iload dX11_call_111 rfl ?_
  refine am_iast (a := i) dX11_call_113 (hG.m0 (by decide)) rfl rfl (show i < 4 from (by omega)) (show 4 < 2 ^ 31 by decide) ?_
  refine am_aload_n dX11_call_114 rfl ?_
  refine am_get (v := .inr (0, 87)) dX11_call_115 fl_11_81 (hG.m0 (by decide)) rfl ?_
  refine am_iload_n dX11_call_118 rfl ?_
  refine am_iconst (v := nI 1) dX11_call_119 (by decide) ?_
  refine am_iast (a := i) dX11_call_120 (hG.m0 (by decide)) rfl rfl (show i < 4 from (by omega)) (show 4 < 2 ^ 31 by decide) ?_
  refine am_aload_n dX11_call_121 rfl ?_
  refine am_get (v := .inr (0, 88)) dX11_call_122 fl_11_84 (hG.m0 (by decide)) rfl ?_
  refine am_iload_n dX11_call_125 rfl ?_
  refine am_iconst (v := nI 0) dX11_call_126 (by decide) ?_
  refine am_iast (a := i) dX11_call_127 (hG.m0 (by decide)) rfl rfl (show i < 4 from (by omega)) (show 4 < 2 ^ 31 by decide) ?_
  refine am_aload_n dX11_call_128 rfl ?_
  refine am_get (v := .inr (0, 89)) dX11_call_129 fl_11_87 (hG.m0 (by decide)) rfl ?_
  refine am_iload_n dX11_call_132 rfl ?_
  refine am_aload_n dX11_call_133 rfl ?_
  refine am_get (v := .inl ((am_up (am_up (am_up (am_up (am_up (am_up (am_up I1 0 82 i (nI 5)) 0 83 i (nI a)) 0 84 i b) 0 85 i c) 0 86 i e) 0 87 i (nI 1)) 0 88 i (nI 0)) 0 60 2)) dX11_call_134 fl_11_194 (hG.m0 (by decide)) rfl ?_
  refine am_top (show (am_up (am_up (am_up (am_up (am_up (am_up (am_up I1 0 82 i (nI 5)) 0 83 i (nI a)) 0 84 i b) 0 85 i c) 0 86 i e) 0 87 i (nI 1)) 0 88 i (nI 0)) 0 60 2 = nI 0 from (by simp [am_up, am_upf, upd, hI, am_fr, am_dk, hi, hI1])) ?_
  refine am_iast (a := i) dX11_call_137 (hG.m0 (by decide)) rfl rfl (show i < 4 from (by omega)) (show 4 < 2 ^ 31 by decide) ?_
  refine am_aload_n dX11_call_138 rfl ?_
  refine am_get (v := .inr (0, 90)) dX11_call_139 fl_11_90 (hG.m0 (by decide)) rfl ?_
  refine am_iload_n dX11_call_142 rfl ?_
  refine am_iconst (v := nI 0) dX11_call_143 (by decide) ?_
  refine am_iast (a := i) dX11_call_144 (hG.m0 (by decide)) rfl rfl (show i < 4 from (by omega)) (show 4 < 2 ^ 31 by decide) ?_
  refine am_aload_n dX11_call_145 rfl ?_
  refine am_get (v := .inr (0, 91)) dX11_call_146 fl_11_93 (hG.m0 (by decide)) rfl ?_
  refine am_iload_n dX11_call_149 rfl ?_
  refine am_iconst (v := nI 0) dX11_call_150 (by decide) ?_
  refine am_iast (a := i) dX11_call_151 (hG.m0 (by decide)) rfl rfl (show i < 4 from (by omega)) (show 4 < 2 ^ 31 by decide) ?_
  refine am_aload_n dX11_call_152 rfl ?_
  refine am_get (v := .inr (0, 92)) dX11_call_153 fl_11_96 (hG.m0 (by decide)) rfl ?_
  refine am_iload_n dX11_call_156 rfl ?_
  refine am_iconst (v := nI 0) dX11_call_157 (by decide) ?_
  refine am_iast (a := i) dX11_call_158 (hG.m0 (by decide)) rfl rfl (show i < 4 from (by omega)) (show 4 < 2 ^ 31 by decide) ?_
  refine am_aload_n dX11_call_159 rfl ?_
  refine am_get (v := .inr (0, 93)) dX11_call_160 fl_11_99 (hG.m0 (by decide)) rfl ?_
  refine am_iload_n dX11_call_163 rfl ?_
  refine am_iconst (v := nI 0) dX11_call_164 (by decide) ?_
  refine am_zast (a := i) dX11_call_165 (hG.m0 (by decide)) rfl (by decide) rfl (show i < 4 from (by omega)) (show 4 < 2 ^ 31 by decide) ?_
  refine am_iconst (v := nI 0) dX11_call_166 (by decide) ?_
  refine am_istore dX11_call_167 (by decide) ?_
  refine K _ (fun k hk => by simp [am_up, am_upf, upd, hI, am_fr, hI1]) ?_ 136 0 (by omega)
  refine am_aload_n dX11_call_195 rfl ?_
  refine am_iload_n dX11_call_196 rfl ?_
  refine am_callVv (i := 0) (j := 60) (as := [.inl (nI i)]) (rest := []) dX11_call_197 lkX11_goOn ml_X11_212 imX11_goOn seX11_goOn rfl rfl (hG.m0 (by decide)) rfl (Nat.le_of_ble_eq_true rfl) rfl (c_MgoOn5 (a := a) hG hi (by omega) (am_up (am_up (am_up (am_up (am_up (am_up (am_up (am_up (am_up (am_up (am_up (am_up I1 0 82 i (nI 5)) 0 83 i (nI a)) 0 84 i b) 0 85 i c) 0 86 i e) 0 87 i (nI 1)) 0 88 i (nI 0)) 0 89 i (nI 0)) 0 90 i (nI 0)) 0 91 i (nI 0)) 0 92 i (nI 0)) 0 93 i (nI 0)) (fun k hk => by simp [am_up, am_upf, upd, hI, am_fr, hI1]) (fun k hk => by simp [am_up, am_upf, upd, hI, am_fr, hI1]) (fun x hx => by simp [am_up, am_upf, upd, hI, am_fr, hx, hI1]) (fun x hx => by simp [am_up, am_upf, upd, hI, am_fr, hx, hI1]) (fun f t => by simp [am_up, am_upf, upd, hI, am_fr, hI1]) (fun f t => by simp [am_up, am_upf, upd, hI, am_fr, hI1]) (by simp [am_up, am_upf, upd, hI, am_fr, am_dk, hi, hI1]) (by simp [am_up, am_upf, upd, hI, am_fr, am_dk, hi, hI1]) (by simp [am_up, am_upf, upd, hI, am_fr, am_dk, hi, hI1]) (by simp [am_up, am_upf, upd, hI, am_fr, am_dk, hi, hI1]) (by simp [am_up, am_upf, upd, hI, am_fr, am_dk, hi, hI1]) (by simp [am_up, am_upf, upd, hI, am_fr, am_dk, hi, hI1]) (by simp [am_up, am_upf, upd, hI, am_fr, am_dk, hi, hI1]) (by simp [am_up, am_upf, upd, hI, am_fr, am_dk, hi, hI1]) (by simp [am_up, am_upf, upd, hI, am_fr, am_dk, hi, hI1]) (by simp [am_up, am_upf, upd, hI, am_fr, am_dk, hi, hI1]) (by simp [am_up, am_upf, upd, hI, am_fr, am_dk, hi, hI1]) (by simp [am_up, am_upf, upd, hI, am_fr, am_dk, hi, hI1]) (by simp [am_up, am_upf, upd, hI, am_fr, am_dk, hi, hI1]) (by simp [am_up, am_upf, upd, hI, am_fr, am_dk, hi, hI1]) (by simp [am_up, am_upf, upd, hI, am_fr, am_dk, hi, hI1])) rfl (fun I9 hq => ?_)
  have hst9 := hq.2.1
  have hth9 := hq.2.2
  refine am_nm (fun I2 hI2 => ?_)
  refine am_aload_n dX11_call_200 rfl ?_
  refine am_get (v := .inr (0, 87)) dX11_call_201 fl_11_81 (hG.m0 (by decide)) rfl ?_
  refine am_iload_n dX11_call_204 rfl ?_
  refine am_iald (a := i) dX11_call_205 (hG.m0 (by decide)) rfl rfl (show i < 4 from (by omega)) (show 4 < 2 ^ 31 by decide) ?_
  refine am_top (show I2 0 87 i = nI 1 from (by simp [am_up, am_upf, upd, hI, am_fr, am_dk, hi, hI1, hst9, hth9, hI2])) ?_
  refine am_iconst (v := nI 1) dX11_call_206 (by decide) ?_
  refine am_icmp_ne (tgt := 214) dX11_call_207 (by decide) (fun h => absurd h (by decide)) (fun _ => ?_)
  refine am_iconst (v := nI 0) dX11_call_210 (by decide) ?_
  refine am_goto (tgt := 215) dX11_call_211 (by decide) ?_
  refine am_iret dX11_call_215 rfl rfl ?_
  exact ⟨rfl, (by simp [am_up, am_upf, upd, hI, am_fr, am_dk, hi, hI1, hst9, hth9, hI2])⟩
theorem m_call6 {G : am_G} (hG : am_okM G) {d : Nat} {i : Nat} (hi : i < G.2.2.2.1) {a : Nat} (hab : a < 128) (b c e : Int32) (hP : 0 ≤ (nI a).toInt ∧ (nI a).toInt < 128 ∧ 0 ≤ b.toInt ∧ b.toInt < 384) {I : am_I} (hI : I = am_fr G.2.2.2.1)  : am_C G (d + 7) mX11_call [.inr (0, 60), .inl (nI i), .inl (nI 6), .inl (nI a), .inl b, .inl c, .inl e] I (fun rr J => rr = some (nI 0) ∧ J 0 60 0 = nI 0) := by
  have hn4 := hG.hi
  have hn2 := hG.lo
  have K : ∀ (X : am_I) (_ : ∀ k, k < 544 → X 0 81 k = nI 0) (_ : am_J G (d + 7) mX11_call am_no (fun rr J => rr = some (nI 0) ∧ J 0 60 0 = nI 0) 195 [some (.inr (0, 60)), some (.inl (nI i)), some (.inl (nI 6)), some (.inl (nI a)), some (.inl b), some (.inl c), some (.inl e), some (.inl (nI 1)), some (.inl (nI 136))] [] X) (m r : Nat), r + m = 136 → am_J G (d + 7) mX11_call am_no (fun rr J => rr = some (nI 0) ∧ J 0 60 0 = nI 0) 169 [some (.inr (0, 60)), some (.inl (nI i)), some (.inl (nI 6)), some (.inl (nI a)), some (.inl b), some (.inl c), some (.inl e), some (.inl (nI 1)), some (.inl (nI r))] [] X := by
    intro X hX hk m
    induction m with
    | zero =>
      intro r ha
      obtain rfl : r = 136 := by omega
      refine am_iload dX11_call_169 rfl ?_
      refine am_sipush (v := nI 136) dX11_call_171 (by decide) ?_
      refine am_icmp_ge (tgt := 195) dX11_call_174 (by decide) (fun _ => ?_) (fun h => absurd ((nI_leI (a := 136) (b := 136) (by omega) (by omega)).mpr (by omega)) h)
      exact hk
    | succ m ih =>
      intro r ha
      refine am_iload dX11_call_169 rfl ?_
      refine am_sipush (v := nI 136) dX11_call_171 (by decide) ?_
      refine am_icmp_ge (tgt := 195) dX11_call_174 (by decide) (fun h => absurd ((nI_leI (a := 136) (b := r) (by omega) (by omega)).mp h) (by omega)) (fun _ => ?_)
      refine am_aload_n dX11_call_177 rfl ?_
      refine am_get (v := .inr (0, 81)) dX11_call_178 fl_11_63 (hG.m0 (by decide)) rfl ?_
      refine am_iload_n dX11_call_181 rfl ?_
      refine am_iload dX11_call_182 rfl ?_
      refine am_callSx (as := [.inl (nI i), .inl (nI r)]) (rest := [.inr (0, 81)]) dX11_call_184 lkX11_at ml_X11_208 isX11_at rfl (Nat.le_of_ble_eq_true rfl) rfl (c_Mat hG.nd (g := i) (r := r) (by omega) (by omega) X) ?_
      refine am_iconst (v := nI 0) dX11_call_187 (by decide) ?_
      refine am_iast (a := 136 * i + r) dX11_call_188 (hG.m0 (by decide)) rfl rfl (show 136 * i + r < 544 from (by omega)) (show 544 < 2 ^ 31 by decide) ?_
      rw [am_up_id (hX _ (by omega))]
      refine am_iinc (v := nI (r + 1)) dX11_call_189 rfl (nI_add _ _) ?_
      refine am_goto (tgt := 169) dX11_call_192 (by decide) ?_
      exact ih (r + 1) (by omega)
  refine am_of (by decide +kernel) hG.nd (Nat.le_of_ble_eq_true rfl) ?_
  refine am_aload_n dX11_call_0 rfl ?_
  refine am_iload_n dX11_call_1 rfl ?_
  refine am_callVx (i := 0) (j := 60) (as := [.inl (nI i)]) (rest := []) dX11_call_2 lkX11_isNode ml_X11_434 imX11_isNode seX11_isNode rfl rfl (hG.m0 (by decide)) rfl (Nat.le_of_ble_eq_true rfl) rfl (c_MisNodeY hG hi (by simp [am_up, am_upf, upd, hI, am_fr, am_dk, hi])) ?_
  refine am_if_eq (tgt := 26) dX11_call_5 (by decide) (fun h => absurd h (by decide)) (fun _ => ?_)
  refine am_iload_n dX11_call_8 rfl ?_
  refine am_iload_n dX11_call_9 rfl ?_
  refine am_iload dX11_call_10 rfl ?_
  refine am_iload dX11_call_12 rfl ?_
  refine am_iload dX11_call_14 rfl ?_
  refine am_callSx (as := [.inl (nI 6), .inl (nI a), .inl b, .inl c, .inl e]) (rest := []) dX11_call_16 lkX11_isGiven ml_X11_437 isX11_isGiven rfl (Nat.le_of_ble_eq_true rfl) rfl (c_isGiven6 hG.nd (nI a) b c e I) ?_
  refine am_if_eq (tgt := 26) dX11_call_19 (by decide) (fun h => absurd h ((am_bn _).mpr (decide_eq_true hP))) (fun _ => ?_)
  refine am_iconst (v := nI 1) dX11_call_22 (by decide) ?_
  refine am_goto (tgt := 27) dX11_call_23 (by decide) ?_
  refine am_istore dX11_call_27 (by decide) ?_
  refine am_aload_n dX11_call_29 rfl ?_
  refine am_iload dX11_call_30 rfl ?_
  refine am_if_ne (tgt := 39) dX11_call_32 (by decide) (fun _ => ?_) (fun h => absurd h (by decide))
  refine am_iconst (v := nI 0) dX11_call_39 (by decide) ?_
  refine am_iload dX11_call_40 rfl ?_
  refine am_if_eq (tgt := 66) dX11_call_42 (by decide) (fun h => absurd h (by decide)) (fun _ => ?_)
  refine am_aload_n dX11_call_45 rfl ?_
  refine am_get (v := .inr (0, 65)) dX11_call_46 fl_11_13 (hG.m0 (by decide)) rfl ?_
  refine am_iload_n dX11_call_49 rfl ?_
  refine am_zald (a := i) dX11_call_50 (hG.m0 (by decide)) rfl rfl (show i < 4 from (by omega)) (show 4 < 2 ^ 31 by decide) ?_
  refine am_top (show I 0 65 i = nI 1 from (by simp [am_up, am_upf, upd, hI, am_fr, am_dk, hi])) ?_
  refine am_if_eq (tgt := 62) dX11_call_51 (by decide) (fun h => absurd h (by decide)) (fun _ => ?_)
  refine am_aload_n dX11_call_54 rfl ?_
  refine am_iload_n dX11_call_55 rfl ?_
  refine am_callVx (i := 0) (j := 60) (as := [.inl (nI i)]) (rest := [.inl (nI 0), .inr (0, 60)]) dX11_call_56 lkX11_isCalling ml_X11_264 imX11_isCalling seX11_isCalling rfl rfl (hG.m0 (by decide)) rfl (Nat.le_of_ble_eq_true rfl) rfl (c_MisCalling0 hG hi I (by simp [am_up, am_upf, upd, hI, am_fr, am_dk, hi])) ?_
  refine am_if_eq (tgt := 66) dX11_call_59 (by decide) (fun _ => ?_) (fun h => absurd h (by decide))
  refine am_iconst (v := nI 0) dX11_call_66 (by decide) ?_
  refine am_iconst (v := nI 0) dX11_call_67 (by decide) ?_
  refine am_callVx (i := 0) (j := 60) (as := [.inl (nI 0), .inl (nI 0), .inl (nI 0)]) (rest := []) dX11_call_68 lkX11_refuse ml_X11_441 imX11_refuse seX11_refuse rfl rfl (hG.m0 (by decide)) rfl (Nat.le_of_ble_eq_true rfl) rfl (c_refuse000 hG I) ?_
  refine am_nm (fun I1 hI1 => ?_)
  refine am_if_eq (tgt := 76) dX11_call_71 (by decide) (fun _ => ?_) (fun h => absurd h (by decide))
  refine am_aload_n dX11_call_76 rfl ?_
  refine am_get (v := .inr (0, 82)) dX11_call_77 fl_11_66 (hG.m0 (by decide)) rfl ?_
  refine am_iload_n dX11_call_80 rfl ?_
  refine am_iload_n dX11_call_81 rfl ?_
  refine am_iast (a := i) dX11_call_82 (hG.m0 (by decide)) rfl rfl (show i < 4 from (by omega)) (show 4 < 2 ^ 31 by decide) ?_
  refine am_aload_n dX11_call_83 rfl ?_
  refine am_get (v := .inr (0, 83)) dX11_call_84 fl_11_69 (hG.m0 (by decide)) rfl ?_
  refine am_iload_n dX11_call_87 rfl ?_
  refine am_iload_n dX11_call_88 rfl ?_
  refine am_iast (a := i) dX11_call_89 (hG.m0 (by decide)) rfl rfl (show i < 4 from (by omega)) (show 4 < 2 ^ 31 by decide) ?_
  refine am_aload_n dX11_call_90 rfl ?_
  refine am_get (v := .inr (0, 84)) dX11_call_91 fl_11_72 (hG.m0 (by decide)) rfl ?_
  refine am_iload_n dX11_call_94 rfl ?_
  refine am_iload dX11_call_95 rfl ?_
  refine am_iast (a := i) dX11_call_97 (hG.m0 (by decide)) rfl rfl (show i < 4 from (by omega)) (show 4 < 2 ^ 31 by decide) ?_
  refine am_aload_n dX11_call_98 rfl ?_
  refine am_get (v := .inr (0, 85)) dX11_call_99 fl_11_75 (hG.m0 (by decide)) rfl ?_
  refine am_iload_n dX11_call_102 rfl ?_
  refine am_iload dX11_call_103 rfl ?_
  refine am_iast (a := i) dX11_call_105 (hG.m0 (by decide)) rfl rfl (show i < 4 from (by omega)) (show 4 < 2 ^ 31 by decide) ?_
  refine am_aload_n dX11_call_106 rfl ?_
  refine am_get (v := .inr (0, 86)) dX11_call_107 fl_11_78 (hG.m0 (by decide)) rfl ?_
  refine am_iload_n dX11_call_110 rfl ?_
  refine am_iload dX11_call_111 rfl ?_
  refine am_iast (a := i) dX11_call_113 (hG.m0 (by decide)) rfl rfl (show i < 4 from (by omega)) (show 4 < 2 ^ 31 by decide) ?_
  refine am_aload_n dX11_call_114 rfl ?_
  refine am_get (v := .inr (0, 87)) dX11_call_115 fl_11_81 (hG.m0 (by decide)) rfl ?_
  refine am_iload_n dX11_call_118 rfl ?_
  refine am_iconst (v := nI 1) dX11_call_119 (by decide) ?_
  refine am_iast (a := i) dX11_call_120 (hG.m0 (by decide)) rfl rfl (show i < 4 from (by omega)) (show 4 < 2 ^ 31 by decide) ?_
  refine am_aload_n dX11_call_121 rfl ?_
  refine am_get (v := .inr (0, 88)) dX11_call_122 fl_11_84 (hG.m0 (by decide)) rfl ?_
  refine am_iload_n dX11_call_125 rfl ?_
  refine am_iconst (v := nI 0) dX11_call_126 (by decide) ?_
  refine am_iast (a := i) dX11_call_127 (hG.m0 (by decide)) rfl rfl (show i < 4 from (by omega)) (show 4 < 2 ^ 31 by decide) ?_
  refine am_aload_n dX11_call_128 rfl ?_
  refine am_get (v := .inr (0, 89)) dX11_call_129 fl_11_87 (hG.m0 (by decide)) rfl ?_
  refine am_iload_n dX11_call_132 rfl ?_
  refine am_aload_n dX11_call_133 rfl ?_
  refine am_get (v := .inl ((am_up (am_up (am_up (am_up (am_up (am_up (am_up I1 0 82 i (nI 6)) 0 83 i (nI a)) 0 84 i b) 0 85 i c) 0 86 i e) 0 87 i (nI 1)) 0 88 i (nI 0)) 0 60 2)) dX11_call_134 fl_11_194 (hG.m0 (by decide)) rfl ?_
  refine am_top (show (am_up (am_up (am_up (am_up (am_up (am_up (am_up I1 0 82 i (nI 6)) 0 83 i (nI a)) 0 84 i b) 0 85 i c) 0 86 i e) 0 87 i (nI 1)) 0 88 i (nI 0)) 0 60 2 = nI 0 from (by simp [am_up, am_upf, upd, hI, am_fr, am_dk, hi, hI1])) ?_
  refine am_iast (a := i) dX11_call_137 (hG.m0 (by decide)) rfl rfl (show i < 4 from (by omega)) (show 4 < 2 ^ 31 by decide) ?_
  refine am_aload_n dX11_call_138 rfl ?_
  refine am_get (v := .inr (0, 90)) dX11_call_139 fl_11_90 (hG.m0 (by decide)) rfl ?_
  refine am_iload_n dX11_call_142 rfl ?_
  refine am_iconst (v := nI 0) dX11_call_143 (by decide) ?_
  refine am_iast (a := i) dX11_call_144 (hG.m0 (by decide)) rfl rfl (show i < 4 from (by omega)) (show 4 < 2 ^ 31 by decide) ?_
  refine am_aload_n dX11_call_145 rfl ?_
  refine am_get (v := .inr (0, 91)) dX11_call_146 fl_11_93 (hG.m0 (by decide)) rfl ?_
  refine am_iload_n dX11_call_149 rfl ?_
  refine am_iconst (v := nI 0) dX11_call_150 (by decide) ?_
  refine am_iast (a := i) dX11_call_151 (hG.m0 (by decide)) rfl rfl (show i < 4 from (by omega)) (show 4 < 2 ^ 31 by decide) ?_
  refine am_aload_n dX11_call_152 rfl ?_
  refine am_get (v := .inr (0, 92)) dX11_call_153 fl_11_96 (hG.m0 (by decide)) rfl ?_
  refine am_iload_n dX11_call_156 rfl ?_
  refine am_iconst (v := nI 0) dX11_call_157 (by decide) ?_
  refine am_iast (a := i) dX11_call_158 (hG.m0 (by decide)) rfl rfl (show i < 4 from (by omega)) (show 4 < 2 ^ 31 by decide) ?_
  refine am_aload_n dX11_call_159 rfl ?_
  refine am_get (v := .inr (0, 93)) dX11_call_160 fl_11_99 (hG.m0 (by decide)) rfl ?_
  refine am_iload_n dX11_call_163 rfl ?_
  refine am_iconst (v := nI 0) dX11_call_164 (by decide) ?_
  refine am_zast (a := i) dX11_call_165 (hG.m0 (by decide)) rfl (by decide) rfl (show i < 4 from (by omega)) (show 4 < 2 ^ 31 by decide) ?_
  refine am_iconst (v := nI 0) dX11_call_166 (by decide) ?_
  refine am_istore dX11_call_167 (by decide) ?_
  refine K _ (fun k hk => by simp [am_up, am_upf, upd, hI, am_fr, hI1]) ?_ 136 0 (by omega)
  refine am_aload_n dX11_call_195 rfl ?_
  refine am_iload_n dX11_call_196 rfl ?_
  refine am_callVv (i := 0) (j := 60) (as := [.inl (nI i)]) (rest := []) dX11_call_197 lkX11_goOn ml_X11_212 imX11_goOn seX11_goOn rfl rfl (hG.m0 (by decide)) rfl (Nat.le_of_ble_eq_true rfl) rfl (c_MgoOn6 (a := a) hG hi (by omega) (am_up (am_up (am_up (am_up (am_up (am_up (am_up (am_up (am_up (am_up (am_up (am_up I1 0 82 i (nI 6)) 0 83 i (nI a)) 0 84 i b) 0 85 i c) 0 86 i e) 0 87 i (nI 1)) 0 88 i (nI 0)) 0 89 i (nI 0)) 0 90 i (nI 0)) 0 91 i (nI 0)) 0 92 i (nI 0)) 0 93 i (nI 0)) (fun k hk => by simp [am_up, am_upf, upd, hI, am_fr, hI1]) (fun k hk => by simp [am_up, am_upf, upd, hI, am_fr, hI1]) (fun x hx => by simp [am_up, am_upf, upd, hI, am_fr, hx, hI1]) (fun x hx => by simp [am_up, am_upf, upd, hI, am_fr, hx, hI1]) (fun f t => by simp [am_up, am_upf, upd, hI, am_fr, hI1]) (fun f t => by simp [am_up, am_upf, upd, hI, am_fr, hI1]) (by simp [am_up, am_upf, upd, hI, am_fr, am_dk, hi, hI1]) (by simp [am_up, am_upf, upd, hI, am_fr, am_dk, hi, hI1]) (by simp [am_up, am_upf, upd, hI, am_fr, am_dk, hi, hI1]) (by simp [am_up, am_upf, upd, hI, am_fr, am_dk, hi, hI1]) (by simp [am_up, am_upf, upd, hI, am_fr, am_dk, hi, hI1]) (by simp [am_up, am_upf, upd, hI, am_fr, am_dk, hi, hI1]) (by simp [am_up, am_upf, upd, hI, am_fr, am_dk, hi, hI1]) (by simp [am_up, am_upf, upd, hI, am_fr, am_dk, hi, hI1]) (by simp [am_up, am_upf, upd, hI, am_fr, am_dk, hi, hI1]) (by simp [am_up, am_upf, upd, hI, am_fr, am_dk, hi, hI1]) (by simp [am_up, am_upf, upd, hI, am_fr, am_dk, hi, hI1]) (by simp [am_up, am_upf, upd, hI, am_fr, am_dk, hi, hI1]) (by simp [am_up, am_upf, upd, hI, am_fr, am_dk, hi, hI1]) (by simp [am_up, am_upf, upd, hI, am_fr, am_dk, hi, hI1]) (by simp [am_up, am_upf, upd, hI, am_fr, am_dk, hi, hI1])) rfl (fun I9 hq => ?_)
  have hst9 := hq.2.1
  have hth9 := hq.2.2
  refine am_nm (fun I2 hI2 => ?_)
  refine am_aload_n dX11_call_200 rfl ?_
  refine am_get (v := .inr (0, 87)) dX11_call_201 fl_11_81 (hG.m0 (by decide)) rfl ?_
  refine am_iload_n dX11_call_204 rfl ?_
  refine am_iald (a := i) dX11_call_205 (hG.m0 (by decide)) rfl rfl (show i < 4 from (by omega)) (show 4 < 2 ^ 31 by decide) ?_
  refine am_top (show I2 0 87 i = nI 1 from (by simp [am_up, am_upf, upd, hI, am_fr, am_dk, hi, hI1, hst9, hth9, hI2])) ?_
  refine am_iconst (v := nI 1) dX11_call_206 (by decide) ?_
  refine am_icmp_ne (tgt := 214) dX11_call_207 (by decide) (fun h => absurd h (by decide)) (fun _ => ?_)
  refine am_iconst (v := nI 0) dX11_call_210 (by decide) ?_
  refine am_goto (tgt := 215) dX11_call_211 (by decide) ?_
  refine am_iret dX11_call_215 rfl rfl ?_
  exact ⟨rfl, (by simp [am_up, am_upf, upd, hI, am_fr, am_dk, hi, hI1, hst9, hth9, hI2])⟩
theorem m_call7 {G : am_G} (hG : am_okM G) {d : Nat} {i : Nat} (hi : i < G.2.2.2.1) {a : Nat} (hab : a < 128) (b c e : Int32) (hP : 0 ≤ (nI a).toInt ∧ (nI a).toInt < 128 ∧ 0 ≤ b.toInt ∧ b.toInt ≤ 384) {I : am_I} (hI : I = am_fr G.2.2.2.1)  : am_C G (d + 7) mX11_call [.inr (0, 60), .inl (nI i), .inl (nI 7), .inl (nI a), .inl b, .inl c, .inl e] I (fun rr J => rr = some (nI 0) ∧ J 0 60 0 = nI 0) := by
  have hn4 := hG.hi
  have hn2 := hG.lo
  have K : ∀ (X : am_I) (_ : ∀ k, k < 544 → X 0 81 k = nI 0) (_ : am_J G (d + 7) mX11_call am_no (fun rr J => rr = some (nI 0) ∧ J 0 60 0 = nI 0) 195 [some (.inr (0, 60)), some (.inl (nI i)), some (.inl (nI 7)), some (.inl (nI a)), some (.inl b), some (.inl c), some (.inl e), some (.inl (nI 1)), some (.inl (nI 136))] [] X) (m r : Nat), r + m = 136 → am_J G (d + 7) mX11_call am_no (fun rr J => rr = some (nI 0) ∧ J 0 60 0 = nI 0) 169 [some (.inr (0, 60)), some (.inl (nI i)), some (.inl (nI 7)), some (.inl (nI a)), some (.inl b), some (.inl c), some (.inl e), some (.inl (nI 1)), some (.inl (nI r))] [] X := by
    intro X hX hk m
    induction m with
    | zero =>
      intro r ha
      obtain rfl : r = 136 := by omega
      refine am_iload dX11_call_169 rfl ?_
      refine am_sipush (v := nI 136) dX11_call_171 (by decide) ?_
      refine am_icmp_ge (tgt := 195) dX11_call_174 (by decide) (fun _ => ?_) (fun h => absurd ((nI_leI (a := 136) (b := 136) (by omega) (by omega)).mpr (by omega)) h)
      exact hk
    | succ m ih =>
      intro r ha
      refine am_iload dX11_call_169 rfl ?_
      refine am_sipush (v := nI 136) dX11_call_171 (by decide) ?_
      refine am_icmp_ge (tgt := 195) dX11_call_174 (by decide) (fun h => absurd ((nI_leI (a := 136) (b := r) (by omega) (by omega)).mp h) (by omega)) (fun _ => ?_)
      refine am_aload_n dX11_call_177 rfl ?_
      refine am_get (v := .inr (0, 81)) dX11_call_178 fl_11_63 (hG.m0 (by decide)) rfl ?_
      refine am_iload_n dX11_call_181 rfl ?_
      refine am_iload dX11_call_182 rfl ?_
      refine am_callSx (as := [.inl (nI i), .inl (nI r)]) (rest := [.inr (0, 81)]) dX11_call_184 lkX11_at ml_X11_208 isX11_at rfl (Nat.le_of_ble_eq_true rfl) rfl (c_Mat hG.nd (g := i) (r := r) (by omega) (by omega) X) ?_
      refine am_iconst (v := nI 0) dX11_call_187 (by decide) ?_
      refine am_iast (a := 136 * i + r) dX11_call_188 (hG.m0 (by decide)) rfl rfl (show 136 * i + r < 544 from (by omega)) (show 544 < 2 ^ 31 by decide) ?_
      rw [am_up_id (hX _ (by omega))]
      refine am_iinc (v := nI (r + 1)) dX11_call_189 rfl (nI_add _ _) ?_
      refine am_goto (tgt := 169) dX11_call_192 (by decide) ?_
      exact ih (r + 1) (by omega)
  refine am_of (by decide +kernel) hG.nd (Nat.le_of_ble_eq_true rfl) ?_
  refine am_aload_n dX11_call_0 rfl ?_
  refine am_iload_n dX11_call_1 rfl ?_
  refine am_callVx (i := 0) (j := 60) (as := [.inl (nI i)]) (rest := []) dX11_call_2 lkX11_isNode ml_X11_434 imX11_isNode seX11_isNode rfl rfl (hG.m0 (by decide)) rfl (Nat.le_of_ble_eq_true rfl) rfl (c_MisNodeY hG hi (by simp [am_up, am_upf, upd, hI, am_fr, am_dk, hi])) ?_
  refine am_if_eq (tgt := 26) dX11_call_5 (by decide) (fun h => absurd h (by decide)) (fun _ => ?_)
  refine am_iload_n dX11_call_8 rfl ?_
  refine am_iload_n dX11_call_9 rfl ?_
  refine am_iload dX11_call_10 rfl ?_
  refine am_iload dX11_call_12 rfl ?_
  refine am_iload dX11_call_14 rfl ?_
  refine am_callSx (as := [.inl (nI 7), .inl (nI a), .inl b, .inl c, .inl e]) (rest := []) dX11_call_16 lkX11_isGiven ml_X11_437 isX11_isGiven rfl (Nat.le_of_ble_eq_true rfl) rfl (c_isGiven7 hG.nd (nI a) b c e I) ?_
  refine am_if_eq (tgt := 26) dX11_call_19 (by decide) (fun h => absurd h ((am_bn _).mpr (decide_eq_true hP))) (fun _ => ?_)
  refine am_iconst (v := nI 1) dX11_call_22 (by decide) ?_
  refine am_goto (tgt := 27) dX11_call_23 (by decide) ?_
  refine am_istore dX11_call_27 (by decide) ?_
  refine am_aload_n dX11_call_29 rfl ?_
  refine am_iload dX11_call_30 rfl ?_
  refine am_if_ne (tgt := 39) dX11_call_32 (by decide) (fun _ => ?_) (fun h => absurd h (by decide))
  refine am_iconst (v := nI 0) dX11_call_39 (by decide) ?_
  refine am_iload dX11_call_40 rfl ?_
  refine am_if_eq (tgt := 66) dX11_call_42 (by decide) (fun h => absurd h (by decide)) (fun _ => ?_)
  refine am_aload_n dX11_call_45 rfl ?_
  refine am_get (v := .inr (0, 65)) dX11_call_46 fl_11_13 (hG.m0 (by decide)) rfl ?_
  refine am_iload_n dX11_call_49 rfl ?_
  refine am_zald (a := i) dX11_call_50 (hG.m0 (by decide)) rfl rfl (show i < 4 from (by omega)) (show 4 < 2 ^ 31 by decide) ?_
  refine am_top (show I 0 65 i = nI 1 from (by simp [am_up, am_upf, upd, hI, am_fr, am_dk, hi])) ?_
  refine am_if_eq (tgt := 62) dX11_call_51 (by decide) (fun h => absurd h (by decide)) (fun _ => ?_)
  refine am_aload_n dX11_call_54 rfl ?_
  refine am_iload_n dX11_call_55 rfl ?_
  refine am_callVx (i := 0) (j := 60) (as := [.inl (nI i)]) (rest := [.inl (nI 0), .inr (0, 60)]) dX11_call_56 lkX11_isCalling ml_X11_264 imX11_isCalling seX11_isCalling rfl rfl (hG.m0 (by decide)) rfl (Nat.le_of_ble_eq_true rfl) rfl (c_MisCalling0 hG hi I (by simp [am_up, am_upf, upd, hI, am_fr, am_dk, hi])) ?_
  refine am_if_eq (tgt := 66) dX11_call_59 (by decide) (fun _ => ?_) (fun h => absurd h (by decide))
  refine am_iconst (v := nI 0) dX11_call_66 (by decide) ?_
  refine am_iconst (v := nI 0) dX11_call_67 (by decide) ?_
  refine am_callVx (i := 0) (j := 60) (as := [.inl (nI 0), .inl (nI 0), .inl (nI 0)]) (rest := []) dX11_call_68 lkX11_refuse ml_X11_441 imX11_refuse seX11_refuse rfl rfl (hG.m0 (by decide)) rfl (Nat.le_of_ble_eq_true rfl) rfl (c_refuse000 hG I) ?_
  refine am_nm (fun I1 hI1 => ?_)
  refine am_if_eq (tgt := 76) dX11_call_71 (by decide) (fun _ => ?_) (fun h => absurd h (by decide))
  refine am_aload_n dX11_call_76 rfl ?_
  refine am_get (v := .inr (0, 82)) dX11_call_77 fl_11_66 (hG.m0 (by decide)) rfl ?_
  refine am_iload_n dX11_call_80 rfl ?_
  refine am_iload_n dX11_call_81 rfl ?_
  refine am_iast (a := i) dX11_call_82 (hG.m0 (by decide)) rfl rfl (show i < 4 from (by omega)) (show 4 < 2 ^ 31 by decide) ?_
  refine am_aload_n dX11_call_83 rfl ?_
  refine am_get (v := .inr (0, 83)) dX11_call_84 fl_11_69 (hG.m0 (by decide)) rfl ?_
  refine am_iload_n dX11_call_87 rfl ?_
  refine am_iload_n dX11_call_88 rfl ?_
  refine am_iast (a := i) dX11_call_89 (hG.m0 (by decide)) rfl rfl (show i < 4 from (by omega)) (show 4 < 2 ^ 31 by decide) ?_
  refine am_aload_n dX11_call_90 rfl ?_
  refine am_get (v := .inr (0, 84)) dX11_call_91 fl_11_72 (hG.m0 (by decide)) rfl ?_
  refine am_iload_n dX11_call_94 rfl ?_
  refine am_iload dX11_call_95 rfl ?_
  refine am_iast (a := i) dX11_call_97 (hG.m0 (by decide)) rfl rfl (show i < 4 from (by omega)) (show 4 < 2 ^ 31 by decide) ?_
  refine am_aload_n dX11_call_98 rfl ?_
  refine am_get (v := .inr (0, 85)) dX11_call_99 fl_11_75 (hG.m0 (by decide)) rfl ?_
  refine am_iload_n dX11_call_102 rfl ?_
  refine am_iload dX11_call_103 rfl ?_
  refine am_iast (a := i) dX11_call_105 (hG.m0 (by decide)) rfl rfl (show i < 4 from (by omega)) (show 4 < 2 ^ 31 by decide) ?_
  refine am_aload_n dX11_call_106 rfl ?_
  refine am_get (v := .inr (0, 86)) dX11_call_107 fl_11_78 (hG.m0 (by decide)) rfl ?_
  refine am_iload_n dX11_call_110 rfl ?_
  refine am_iload dX11_call_111 rfl ?_
  refine am_iast (a := i) dX11_call_113 (hG.m0 (by decide)) rfl rfl (show i < 4 from (by omega)) (show 4 < 2 ^ 31 by decide) ?_
  refine am_aload_n dX11_call_114 rfl ?_
  refine am_get (v := .inr (0, 87)) dX11_call_115 fl_11_81 (hG.m0 (by decide)) rfl ?_
  refine am_iload_n dX11_call_118 rfl ?_
  refine am_iconst (v := nI 1) dX11_call_119 (by decide) ?_
  refine am_iast (a := i) dX11_call_120 (hG.m0 (by decide)) rfl rfl (show i < 4 from (by omega)) (show 4 < 2 ^ 31 by decide) ?_
  refine am_aload_n dX11_call_121 rfl ?_
  refine am_get (v := .inr (0, 88)) dX11_call_122 fl_11_84 (hG.m0 (by decide)) rfl ?_
  refine am_iload_n dX11_call_125 rfl ?_
  refine am_iconst (v := nI 0) dX11_call_126 (by decide) ?_
  refine am_iast (a := i) dX11_call_127 (hG.m0 (by decide)) rfl rfl (show i < 4 from (by omega)) (show 4 < 2 ^ 31 by decide) ?_
  refine am_aload_n dX11_call_128 rfl ?_
  refine am_get (v := .inr (0, 89)) dX11_call_129 fl_11_87 (hG.m0 (by decide)) rfl ?_
  refine am_iload_n dX11_call_132 rfl ?_
  refine am_aload_n dX11_call_133 rfl ?_
  refine am_get (v := .inl ((am_up (am_up (am_up (am_up (am_up (am_up (am_up I1 0 82 i (nI 7)) 0 83 i (nI a)) 0 84 i b) 0 85 i c) 0 86 i e) 0 87 i (nI 1)) 0 88 i (nI 0)) 0 60 2)) dX11_call_134 fl_11_194 (hG.m0 (by decide)) rfl ?_
  refine am_top (show (am_up (am_up (am_up (am_up (am_up (am_up (am_up I1 0 82 i (nI 7)) 0 83 i (nI a)) 0 84 i b) 0 85 i c) 0 86 i e) 0 87 i (nI 1)) 0 88 i (nI 0)) 0 60 2 = nI 0 from (by simp [am_up, am_upf, upd, hI, am_fr, am_dk, hi, hI1])) ?_
  refine am_iast (a := i) dX11_call_137 (hG.m0 (by decide)) rfl rfl (show i < 4 from (by omega)) (show 4 < 2 ^ 31 by decide) ?_
  refine am_aload_n dX11_call_138 rfl ?_
  refine am_get (v := .inr (0, 90)) dX11_call_139 fl_11_90 (hG.m0 (by decide)) rfl ?_
  refine am_iload_n dX11_call_142 rfl ?_
  refine am_iconst (v := nI 0) dX11_call_143 (by decide) ?_
  refine am_iast (a := i) dX11_call_144 (hG.m0 (by decide)) rfl rfl (show i < 4 from (by omega)) (show 4 < 2 ^ 31 by decide) ?_
  refine am_aload_n dX11_call_145 rfl ?_
  refine am_get (v := .inr (0, 91)) dX11_call_146 fl_11_93 (hG.m0 (by decide)) rfl ?_
  refine am_iload_n dX11_call_149 rfl ?_
  refine am_iconst (v := nI 0) dX11_call_150 (by decide) ?_
  refine am_iast (a := i) dX11_call_151 (hG.m0 (by decide)) rfl rfl (show i < 4 from (by omega)) (show 4 < 2 ^ 31 by decide) ?_
  refine am_aload_n dX11_call_152 rfl ?_
  refine am_get (v := .inr (0, 92)) dX11_call_153 fl_11_96 (hG.m0 (by decide)) rfl ?_
  refine am_iload_n dX11_call_156 rfl ?_
  refine am_iconst (v := nI 0) dX11_call_157 (by decide) ?_
  refine am_iast (a := i) dX11_call_158 (hG.m0 (by decide)) rfl rfl (show i < 4 from (by omega)) (show 4 < 2 ^ 31 by decide) ?_
  refine am_aload_n dX11_call_159 rfl ?_
  refine am_get (v := .inr (0, 93)) dX11_call_160 fl_11_99 (hG.m0 (by decide)) rfl ?_
  refine am_iload_n dX11_call_163 rfl ?_
  refine am_iconst (v := nI 0) dX11_call_164 (by decide) ?_
  refine am_zast (a := i) dX11_call_165 (hG.m0 (by decide)) rfl (by decide) rfl (show i < 4 from (by omega)) (show 4 < 2 ^ 31 by decide) ?_
  refine am_iconst (v := nI 0) dX11_call_166 (by decide) ?_
  refine am_istore dX11_call_167 (by decide) ?_
  refine K _ (fun k hk => by simp [am_up, am_upf, upd, hI, am_fr, hI1]) ?_ 136 0 (by omega)
  refine am_aload_n dX11_call_195 rfl ?_
  refine am_iload_n dX11_call_196 rfl ?_
  refine am_callVv (i := 0) (j := 60) (as := [.inl (nI i)]) (rest := []) dX11_call_197 lkX11_goOn ml_X11_212 imX11_goOn seX11_goOn rfl rfl (hG.m0 (by decide)) rfl (Nat.le_of_ble_eq_true rfl) rfl (c_MgoOn7 (a := a) hG hi (by omega) (am_up (am_up (am_up (am_up (am_up (am_up (am_up (am_up (am_up (am_up (am_up (am_up I1 0 82 i (nI 7)) 0 83 i (nI a)) 0 84 i b) 0 85 i c) 0 86 i e) 0 87 i (nI 1)) 0 88 i (nI 0)) 0 89 i (nI 0)) 0 90 i (nI 0)) 0 91 i (nI 0)) 0 92 i (nI 0)) 0 93 i (nI 0)) (fun k hk => by simp [am_up, am_upf, upd, hI, am_fr, hI1]) (fun k hk => by simp [am_up, am_upf, upd, hI, am_fr, hI1]) (fun x hx => by simp [am_up, am_upf, upd, hI, am_fr, hx, hI1]) (fun x hx => by simp [am_up, am_upf, upd, hI, am_fr, hx, hI1]) (fun f t => by simp [am_up, am_upf, upd, hI, am_fr, hI1]) (fun f t => by simp [am_up, am_upf, upd, hI, am_fr, hI1]) (by simp [am_up, am_upf, upd, hI, am_fr, am_dk, hi, hI1]) (by simp [am_up, am_upf, upd, hI, am_fr, am_dk, hi, hI1]) (by simp [am_up, am_upf, upd, hI, am_fr, am_dk, hi, hI1]) (by simp [am_up, am_upf, upd, hI, am_fr, am_dk, hi, hI1]) (by simp [am_up, am_upf, upd, hI, am_fr, am_dk, hi, hI1]) (by simp [am_up, am_upf, upd, hI, am_fr, am_dk, hi, hI1]) (by simp [am_up, am_upf, upd, hI, am_fr, am_dk, hi, hI1]) (by simp [am_up, am_upf, upd, hI, am_fr, am_dk, hi, hI1]) (by simp [am_up, am_upf, upd, hI, am_fr, am_dk, hi, hI1]) (by simp [am_up, am_upf, upd, hI, am_fr, am_dk, hi, hI1]) (by simp [am_up, am_upf, upd, hI, am_fr, am_dk, hi, hI1]) (by simp [am_up, am_upf, upd, hI, am_fr, am_dk, hi, hI1]) (by simp [am_up, am_upf, upd, hI, am_fr, am_dk, hi, hI1]) (by simp [am_up, am_upf, upd, hI, am_fr, am_dk, hi, hI1]) (by simp [am_up, am_upf, upd, hI, am_fr, am_dk, hi, hI1])) rfl (fun I9 hq => ?_)
  have hst9 := hq.2.1
  have hth9 := hq.2.2
  refine am_nm (fun I2 hI2 => ?_)
  refine am_aload_n dX11_call_200 rfl ?_
  refine am_get (v := .inr (0, 87)) dX11_call_201 fl_11_81 (hG.m0 (by decide)) rfl ?_
  refine am_iload_n dX11_call_204 rfl ?_
  refine am_iald (a := i) dX11_call_205 (hG.m0 (by decide)) rfl rfl (show i < 4 from (by omega)) (show 4 < 2 ^ 31 by decide) ?_
  refine am_top (show I2 0 87 i = nI 1 from (by simp [am_up, am_upf, upd, hI, am_fr, am_dk, hi, hI1, hst9, hth9, hI2])) ?_
  refine am_iconst (v := nI 1) dX11_call_206 (by decide) ?_
  refine am_icmp_ne (tgt := 214) dX11_call_207 (by decide) (fun h => absurd h (by decide)) (fun _ => ?_)
  refine am_iconst (v := nI 0) dX11_call_210 (by decide) ?_
  refine am_goto (tgt := 215) dX11_call_211 (by decide) ?_
  refine am_iret dX11_call_215 rfl rfl ?_
  exact ⟨rfl, (by simp [am_up, am_upf, upd, hI, am_fr, am_dk, hi, hI1, hst9, hth9, hI2])⟩
theorem m_call8 {G : am_G} (hG : am_okM G) {d : Nat} {i : Nat} (hi : i < G.2.2.2.1) {a : Nat} (hab : a < 128) (b c e : Int32) (hP : 0 ≤ (nI a).toInt ∧ (nI a).toInt < 128 ∧ 0 ≤ b.toInt ∧ b.toInt < 192) {I : am_I} (hI : I = am_fr G.2.2.2.1)  : am_C G (d + 7) mX11_call [.inr (0, 60), .inl (nI i), .inl (nI 8), .inl (nI a), .inl b, .inl c, .inl e] I (fun rr J => rr = some (nI 0) ∧ J 0 60 0 = nI 0) := by
  have hn4 := hG.hi
  have hn2 := hG.lo
  have K : ∀ (X : am_I) (_ : ∀ k, k < 544 → X 0 81 k = nI 0) (_ : am_J G (d + 7) mX11_call am_no (fun rr J => rr = some (nI 0) ∧ J 0 60 0 = nI 0) 195 [some (.inr (0, 60)), some (.inl (nI i)), some (.inl (nI 8)), some (.inl (nI a)), some (.inl b), some (.inl c), some (.inl e), some (.inl (nI 1)), some (.inl (nI 136))] [] X) (m r : Nat), r + m = 136 → am_J G (d + 7) mX11_call am_no (fun rr J => rr = some (nI 0) ∧ J 0 60 0 = nI 0) 169 [some (.inr (0, 60)), some (.inl (nI i)), some (.inl (nI 8)), some (.inl (nI a)), some (.inl b), some (.inl c), some (.inl e), some (.inl (nI 1)), some (.inl (nI r))] [] X := by
    intro X hX hk m
    induction m with
    | zero =>
      intro r ha
      obtain rfl : r = 136 := by omega
      refine am_iload dX11_call_169 rfl ?_
      refine am_sipush (v := nI 136) dX11_call_171 (by decide) ?_
      refine am_icmp_ge (tgt := 195) dX11_call_174 (by decide) (fun _ => ?_) (fun h => absurd ((nI_leI (a := 136) (b := 136) (by omega) (by omega)).mpr (by omega)) h)
      exact hk
    | succ m ih =>
      intro r ha
      refine am_iload dX11_call_169 rfl ?_
      refine am_sipush (v := nI 136) dX11_call_171 (by decide) ?_
      refine am_icmp_ge (tgt := 195) dX11_call_174 (by decide) (fun h => absurd ((nI_leI (a := 136) (b := r) (by omega) (by omega)).mp h) (by omega)) (fun _ => ?_)
      refine am_aload_n dX11_call_177 rfl ?_
      refine am_get (v := .inr (0, 81)) dX11_call_178 fl_11_63 (hG.m0 (by decide)) rfl ?_
      refine am_iload_n dX11_call_181 rfl ?_
      refine am_iload dX11_call_182 rfl ?_
      refine am_callSx (as := [.inl (nI i), .inl (nI r)]) (rest := [.inr (0, 81)]) dX11_call_184 lkX11_at ml_X11_208 isX11_at rfl (Nat.le_of_ble_eq_true rfl) rfl (c_Mat hG.nd (g := i) (r := r) (by omega) (by omega) X) ?_
      refine am_iconst (v := nI 0) dX11_call_187 (by decide) ?_
      refine am_iast (a := 136 * i + r) dX11_call_188 (hG.m0 (by decide)) rfl rfl (show 136 * i + r < 544 from (by omega)) (show 544 < 2 ^ 31 by decide) ?_
      rw [am_up_id (hX _ (by omega))]
      refine am_iinc (v := nI (r + 1)) dX11_call_189 rfl (nI_add _ _) ?_
      refine am_goto (tgt := 169) dX11_call_192 (by decide) ?_
      exact ih (r + 1) (by omega)
  refine am_of (by decide +kernel) hG.nd (Nat.le_of_ble_eq_true rfl) ?_
  refine am_aload_n dX11_call_0 rfl ?_
  refine am_iload_n dX11_call_1 rfl ?_
  refine am_callVx (i := 0) (j := 60) (as := [.inl (nI i)]) (rest := []) dX11_call_2 lkX11_isNode ml_X11_434 imX11_isNode seX11_isNode rfl rfl (hG.m0 (by decide)) rfl (Nat.le_of_ble_eq_true rfl) rfl (c_MisNodeY hG hi (by simp [am_up, am_upf, upd, hI, am_fr, am_dk, hi])) ?_
  refine am_if_eq (tgt := 26) dX11_call_5 (by decide) (fun h => absurd h (by decide)) (fun _ => ?_)
  refine am_iload_n dX11_call_8 rfl ?_
  refine am_iload_n dX11_call_9 rfl ?_
  refine am_iload dX11_call_10 rfl ?_
  refine am_iload dX11_call_12 rfl ?_
  refine am_iload dX11_call_14 rfl ?_
  refine am_callSx (as := [.inl (nI 8), .inl (nI a), .inl b, .inl c, .inl e]) (rest := []) dX11_call_16 lkX11_isGiven ml_X11_437 isX11_isGiven rfl (Nat.le_of_ble_eq_true rfl) rfl (c_isGiven8 hG.nd (nI a) b c e I) ?_
  refine am_if_eq (tgt := 26) dX11_call_19 (by decide) (fun h => absurd h ((am_bn _).mpr (decide_eq_true hP))) (fun _ => ?_)
  refine am_iconst (v := nI 1) dX11_call_22 (by decide) ?_
  refine am_goto (tgt := 27) dX11_call_23 (by decide) ?_
  refine am_istore dX11_call_27 (by decide) ?_
  refine am_aload_n dX11_call_29 rfl ?_
  refine am_iload dX11_call_30 rfl ?_
  refine am_if_ne (tgt := 39) dX11_call_32 (by decide) (fun _ => ?_) (fun h => absurd h (by decide))
  refine am_iconst (v := nI 0) dX11_call_39 (by decide) ?_
  refine am_iload dX11_call_40 rfl ?_
  refine am_if_eq (tgt := 66) dX11_call_42 (by decide) (fun h => absurd h (by decide)) (fun _ => ?_)
  refine am_aload_n dX11_call_45 rfl ?_
  refine am_get (v := .inr (0, 65)) dX11_call_46 fl_11_13 (hG.m0 (by decide)) rfl ?_
  refine am_iload_n dX11_call_49 rfl ?_
  refine am_zald (a := i) dX11_call_50 (hG.m0 (by decide)) rfl rfl (show i < 4 from (by omega)) (show 4 < 2 ^ 31 by decide) ?_
  refine am_top (show I 0 65 i = nI 1 from (by simp [am_up, am_upf, upd, hI, am_fr, am_dk, hi])) ?_
  refine am_if_eq (tgt := 62) dX11_call_51 (by decide) (fun h => absurd h (by decide)) (fun _ => ?_)
  refine am_aload_n dX11_call_54 rfl ?_
  refine am_iload_n dX11_call_55 rfl ?_
  refine am_callVx (i := 0) (j := 60) (as := [.inl (nI i)]) (rest := [.inl (nI 0), .inr (0, 60)]) dX11_call_56 lkX11_isCalling ml_X11_264 imX11_isCalling seX11_isCalling rfl rfl (hG.m0 (by decide)) rfl (Nat.le_of_ble_eq_true rfl) rfl (c_MisCalling0 hG hi I (by simp [am_up, am_upf, upd, hI, am_fr, am_dk, hi])) ?_
  refine am_if_eq (tgt := 66) dX11_call_59 (by decide) (fun _ => ?_) (fun h => absurd h (by decide))
  refine am_iconst (v := nI 0) dX11_call_66 (by decide) ?_
  refine am_iconst (v := nI 0) dX11_call_67 (by decide) ?_
  refine am_callVx (i := 0) (j := 60) (as := [.inl (nI 0), .inl (nI 0), .inl (nI 0)]) (rest := []) dX11_call_68 lkX11_refuse ml_X11_441 imX11_refuse seX11_refuse rfl rfl (hG.m0 (by decide)) rfl (Nat.le_of_ble_eq_true rfl) rfl (c_refuse000 hG I) ?_
  refine am_nm (fun I1 hI1 => ?_)
  refine am_if_eq (tgt := 76) dX11_call_71 (by decide) (fun _ => ?_) (fun h => absurd h (by decide))
  refine am_aload_n dX11_call_76 rfl ?_
  refine am_get (v := .inr (0, 82)) dX11_call_77 fl_11_66 (hG.m0 (by decide)) rfl ?_
  refine am_iload_n dX11_call_80 rfl ?_
  refine am_iload_n dX11_call_81 rfl ?_
  refine am_iast (a := i) dX11_call_82 (hG.m0 (by decide)) rfl rfl (show i < 4 from (by omega)) (show 4 < 2 ^ 31 by decide) ?_
  refine am_aload_n dX11_call_83 rfl ?_
  refine am_get (v := .inr (0, 83)) dX11_call_84 fl_11_69 (hG.m0 (by decide)) rfl ?_
  refine am_iload_n dX11_call_87 rfl ?_
  refine am_iload_n dX11_call_88 rfl ?_
  refine am_iast (a := i) dX11_call_89 (hG.m0 (by decide)) rfl rfl (show i < 4 from (by omega)) (show 4 < 2 ^ 31 by decide) ?_
  refine am_aload_n dX11_call_90 rfl ?_
  refine am_get (v := .inr (0, 84)) dX11_call_91 fl_11_72 (hG.m0 (by decide)) rfl ?_
  refine am_iload_n dX11_call_94 rfl ?_
  refine am_iload dX11_call_95 rfl ?_
  refine am_iast (a := i) dX11_call_97 (hG.m0 (by decide)) rfl rfl (show i < 4 from (by omega)) (show 4 < 2 ^ 31 by decide) ?_
  refine am_aload_n dX11_call_98 rfl ?_
  refine am_get (v := .inr (0, 85)) dX11_call_99 fl_11_75 (hG.m0 (by decide)) rfl ?_
  refine am_iload_n dX11_call_102 rfl ?_
  refine am_iload dX11_call_103 rfl ?_
  refine am_iast (a := i) dX11_call_105 (hG.m0 (by decide)) rfl rfl (show i < 4 from (by omega)) (show 4 < 2 ^ 31 by decide) ?_
  refine am_aload_n dX11_call_106 rfl ?_
  refine am_get (v := .inr (0, 86)) dX11_call_107 fl_11_78 (hG.m0 (by decide)) rfl ?_
  refine am_iload_n dX11_call_110 rfl ?_
  refine am_iload dX11_call_111 rfl ?_
  refine am_iast (a := i) dX11_call_113 (hG.m0 (by decide)) rfl rfl (show i < 4 from (by omega)) (show 4 < 2 ^ 31 by decide) ?_
  refine am_aload_n dX11_call_114 rfl ?_
  refine am_get (v := .inr (0, 87)) dX11_call_115 fl_11_81 (hG.m0 (by decide)) rfl ?_
  refine am_iload_n dX11_call_118 rfl ?_
  refine am_iconst (v := nI 1) dX11_call_119 (by decide) ?_
  refine am_iast (a := i) dX11_call_120 (hG.m0 (by decide)) rfl rfl (show i < 4 from (by omega)) (show 4 < 2 ^ 31 by decide) ?_
  refine am_aload_n dX11_call_121 rfl ?_
  refine am_get (v := .inr (0, 88)) dX11_call_122 fl_11_84 (hG.m0 (by decide)) rfl ?_
  refine am_iload_n dX11_call_125 rfl ?_
  refine am_iconst (v := nI 0) dX11_call_126 (by decide) ?_
  refine am_iast (a := i) dX11_call_127 (hG.m0 (by decide)) rfl rfl (show i < 4 from (by omega)) (show 4 < 2 ^ 31 by decide) ?_
  refine am_aload_n dX11_call_128 rfl ?_
  refine am_get (v := .inr (0, 89)) dX11_call_129 fl_11_87 (hG.m0 (by decide)) rfl ?_
  refine am_iload_n dX11_call_132 rfl ?_
  refine am_aload_n dX11_call_133 rfl ?_
  refine am_get (v := .inl ((am_up (am_up (am_up (am_up (am_up (am_up (am_up I1 0 82 i (nI 8)) 0 83 i (nI a)) 0 84 i b) 0 85 i c) 0 86 i e) 0 87 i (nI 1)) 0 88 i (nI 0)) 0 60 2)) dX11_call_134 fl_11_194 (hG.m0 (by decide)) rfl ?_
  refine am_top (show (am_up (am_up (am_up (am_up (am_up (am_up (am_up I1 0 82 i (nI 8)) 0 83 i (nI a)) 0 84 i b) 0 85 i c) 0 86 i e) 0 87 i (nI 1)) 0 88 i (nI 0)) 0 60 2 = nI 0 from (by simp [am_up, am_upf, upd, hI, am_fr, am_dk, hi, hI1])) ?_
  refine am_iast (a := i) dX11_call_137 (hG.m0 (by decide)) rfl rfl (show i < 4 from (by omega)) (show 4 < 2 ^ 31 by decide) ?_
  refine am_aload_n dX11_call_138 rfl ?_
  refine am_get (v := .inr (0, 90)) dX11_call_139 fl_11_90 (hG.m0 (by decide)) rfl ?_
  refine am_iload_n dX11_call_142 rfl ?_
  refine am_iconst (v := nI 0) dX11_call_143 (by decide) ?_
  refine am_iast (a := i) dX11_call_144 (hG.m0 (by decide)) rfl rfl (show i < 4 from (by omega)) (show 4 < 2 ^ 31 by decide) ?_
  refine am_aload_n dX11_call_145 rfl ?_
  refine am_get (v := .inr (0, 91)) dX11_call_146 fl_11_93 (hG.m0 (by decide)) rfl ?_
  refine am_iload_n dX11_call_149 rfl ?_
  refine am_iconst (v := nI 0) dX11_call_150 (by decide) ?_
  refine am_iast (a := i) dX11_call_151 (hG.m0 (by decide)) rfl rfl (show i < 4 from (by omega)) (show 4 < 2 ^ 31 by decide) ?_
  refine am_aload_n dX11_call_152 rfl ?_
  refine am_get (v := .inr (0, 92)) dX11_call_153 fl_11_96 (hG.m0 (by decide)) rfl ?_
  refine am_iload_n dX11_call_156 rfl ?_
  refine am_iconst (v := nI 0) dX11_call_157 (by decide) ?_
  refine am_iast (a := i) dX11_call_158 (hG.m0 (by decide)) rfl rfl (show i < 4 from (by omega)) (show 4 < 2 ^ 31 by decide) ?_
  refine am_aload_n dX11_call_159 rfl ?_
  refine am_get (v := .inr (0, 93)) dX11_call_160 fl_11_99 (hG.m0 (by decide)) rfl ?_
  refine am_iload_n dX11_call_163 rfl ?_
  refine am_iconst (v := nI 0) dX11_call_164 (by decide) ?_
  refine am_zast (a := i) dX11_call_165 (hG.m0 (by decide)) rfl (by decide) rfl (show i < 4 from (by omega)) (show 4 < 2 ^ 31 by decide) ?_
  refine am_iconst (v := nI 0) dX11_call_166 (by decide) ?_
  refine am_istore dX11_call_167 (by decide) ?_
  refine K _ (fun k hk => by simp [am_up, am_upf, upd, hI, am_fr, hI1]) ?_ 136 0 (by omega)
  refine am_aload_n dX11_call_195 rfl ?_
  refine am_iload_n dX11_call_196 rfl ?_
  refine am_callVv (i := 0) (j := 60) (as := [.inl (nI i)]) (rest := []) dX11_call_197 lkX11_goOn ml_X11_212 imX11_goOn seX11_goOn rfl rfl (hG.m0 (by decide)) rfl (Nat.le_of_ble_eq_true rfl) rfl (c_MgoOn8 (a := a) hG hi (by omega) (am_up (am_up (am_up (am_up (am_up (am_up (am_up (am_up (am_up (am_up (am_up (am_up I1 0 82 i (nI 8)) 0 83 i (nI a)) 0 84 i b) 0 85 i c) 0 86 i e) 0 87 i (nI 1)) 0 88 i (nI 0)) 0 89 i (nI 0)) 0 90 i (nI 0)) 0 91 i (nI 0)) 0 92 i (nI 0)) 0 93 i (nI 0)) (fun k hk => by simp [am_up, am_upf, upd, hI, am_fr, hI1]) (fun k hk => by simp [am_up, am_upf, upd, hI, am_fr, hI1]) (fun x hx => by simp [am_up, am_upf, upd, hI, am_fr, hx, hI1]) (fun x hx => by simp [am_up, am_upf, upd, hI, am_fr, hx, hI1]) (fun f t => by simp [am_up, am_upf, upd, hI, am_fr, hI1]) (fun f t => by simp [am_up, am_upf, upd, hI, am_fr, hI1]) (by simp [am_up, am_upf, upd, hI, am_fr, am_dk, hi, hI1]) (by simp [am_up, am_upf, upd, hI, am_fr, am_dk, hi, hI1]) (by simp [am_up, am_upf, upd, hI, am_fr, am_dk, hi, hI1]) (by simp [am_up, am_upf, upd, hI, am_fr, am_dk, hi, hI1]) (by simp [am_up, am_upf, upd, hI, am_fr, am_dk, hi, hI1]) (by simp [am_up, am_upf, upd, hI, am_fr, am_dk, hi, hI1]) (by simp [am_up, am_upf, upd, hI, am_fr, am_dk, hi, hI1]) (by simp [am_up, am_upf, upd, hI, am_fr, am_dk, hi, hI1]) (by simp [am_up, am_upf, upd, hI, am_fr, am_dk, hi, hI1]) (by simp [am_up, am_upf, upd, hI, am_fr, am_dk, hi, hI1]) (by simp [am_up, am_upf, upd, hI, am_fr, am_dk, hi, hI1]) (by simp [am_up, am_upf, upd, hI, am_fr, am_dk, hi, hI1]) (by simp [am_up, am_upf, upd, hI, am_fr, am_dk, hi, hI1]) (by simp [am_up, am_upf, upd, hI, am_fr, am_dk, hi, hI1]) (by simp [am_up, am_upf, upd, hI, am_fr, am_dk, hi, hI1])) rfl (fun I9 hq => ?_)
  have hst9 := hq.2.1
  have hth9 := hq.2.2
  refine am_nm (fun I2 hI2 => ?_)
  refine am_aload_n dX11_call_200 rfl ?_
  refine am_get (v := .inr (0, 87)) dX11_call_201 fl_11_81 (hG.m0 (by decide)) rfl ?_
  refine am_iload_n dX11_call_204 rfl ?_
  refine am_iald (a := i) dX11_call_205 (hG.m0 (by decide)) rfl rfl (show i < 4 from (by omega)) (show 4 < 2 ^ 31 by decide) ?_
  refine am_top (show I2 0 87 i = nI 1 from (by simp [am_up, am_upf, upd, hI, am_fr, am_dk, hi, hI1, hst9, hth9, hI2])) ?_
  refine am_iconst (v := nI 1) dX11_call_206 (by decide) ?_
  refine am_icmp_ne (tgt := 214) dX11_call_207 (by decide) (fun h => absurd h (by decide)) (fun _ => ?_)
  refine am_iconst (v := nI 0) dX11_call_210 (by decide) ?_
  refine am_goto (tgt := 215) dX11_call_211 (by decide) ?_
  refine am_iret dX11_call_215 rfl rfl ?_
  exact ⟨rfl, (by simp [am_up, am_upf, upd, hI, am_fr, am_dk, hi, hI1, hst9, hth9, hI2])⟩
theorem m_call9 {G : am_G} (hG : am_okM G) {d : Nat} {i : Nat} (hi : i < G.2.2.2.1) {a : Nat} (hab : a < 128) (b c e : Int32) (hP : 0 ≤ (nI a).toInt ∧ (nI a).toInt < 128 ∧ 0 ≤ b.toInt ∧ b.toInt ≤ 3) {I : am_I} (hI : I = am_fr G.2.2.2.1)  : am_C G (d + 7) mX11_call [.inr (0, 60), .inl (nI i), .inl (nI 9), .inl (nI a), .inl b, .inl c, .inl e] I (fun rr J => rr = some (nI 0) ∧ J 0 60 0 = nI 0) := by
  have hn4 := hG.hi
  have hn2 := hG.lo
  have K : ∀ (X : am_I) (_ : ∀ k, k < 544 → X 0 81 k = nI 0) (_ : am_J G (d + 7) mX11_call am_no (fun rr J => rr = some (nI 0) ∧ J 0 60 0 = nI 0) 195 [some (.inr (0, 60)), some (.inl (nI i)), some (.inl (nI 9)), some (.inl (nI a)), some (.inl b), some (.inl c), some (.inl e), some (.inl (nI 1)), some (.inl (nI 136))] [] X) (m r : Nat), r + m = 136 → am_J G (d + 7) mX11_call am_no (fun rr J => rr = some (nI 0) ∧ J 0 60 0 = nI 0) 169 [some (.inr (0, 60)), some (.inl (nI i)), some (.inl (nI 9)), some (.inl (nI a)), some (.inl b), some (.inl c), some (.inl e), some (.inl (nI 1)), some (.inl (nI r))] [] X := by
    intro X hX hk m
    induction m with
    | zero =>
      intro r ha
      obtain rfl : r = 136 := by omega
      refine am_iload dX11_call_169 rfl ?_
      refine am_sipush (v := nI 136) dX11_call_171 (by decide) ?_
      refine am_icmp_ge (tgt := 195) dX11_call_174 (by decide) (fun _ => ?_) (fun h => absurd ((nI_leI (a := 136) (b := 136) (by omega) (by omega)).mpr (by omega)) h)
      exact hk
    | succ m ih =>
      intro r ha
      refine am_iload dX11_call_169 rfl ?_
      refine am_sipush (v := nI 136) dX11_call_171 (by decide) ?_
      refine am_icmp_ge (tgt := 195) dX11_call_174 (by decide) (fun h => absurd ((nI_leI (a := 136) (b := r) (by omega) (by omega)).mp h) (by omega)) (fun _ => ?_)
      refine am_aload_n dX11_call_177 rfl ?_
      refine am_get (v := .inr (0, 81)) dX11_call_178 fl_11_63 (hG.m0 (by decide)) rfl ?_
      refine am_iload_n dX11_call_181 rfl ?_
      refine am_iload dX11_call_182 rfl ?_
      refine am_callSx (as := [.inl (nI i), .inl (nI r)]) (rest := [.inr (0, 81)]) dX11_call_184 lkX11_at ml_X11_208 isX11_at rfl (Nat.le_of_ble_eq_true rfl) rfl (c_Mat hG.nd (g := i) (r := r) (by omega) (by omega) X) ?_
      refine am_iconst (v := nI 0) dX11_call_187 (by decide) ?_
      refine am_iast (a := 136 * i + r) dX11_call_188 (hG.m0 (by decide)) rfl rfl (show 136 * i + r < 544 from (by omega)) (show 544 < 2 ^ 31 by decide) ?_
      rw [am_up_id (hX _ (by omega))]
      refine am_iinc (v := nI (r + 1)) dX11_call_189 rfl (nI_add _ _) ?_
      refine am_goto (tgt := 169) dX11_call_192 (by decide) ?_
      exact ih (r + 1) (by omega)
  refine am_of (by decide +kernel) hG.nd (Nat.le_of_ble_eq_true rfl) ?_
  refine am_aload_n dX11_call_0 rfl ?_
  refine am_iload_n dX11_call_1 rfl ?_
  refine am_callVx (i := 0) (j := 60) (as := [.inl (nI i)]) (rest := []) dX11_call_2 lkX11_isNode ml_X11_434 imX11_isNode seX11_isNode rfl rfl (hG.m0 (by decide)) rfl (Nat.le_of_ble_eq_true rfl) rfl (c_MisNodeY hG hi (by simp [am_up, am_upf, upd, hI, am_fr, am_dk, hi])) ?_
  refine am_if_eq (tgt := 26) dX11_call_5 (by decide) (fun h => absurd h (by decide)) (fun _ => ?_)
  refine am_iload_n dX11_call_8 rfl ?_
  refine am_iload_n dX11_call_9 rfl ?_
  refine am_iload dX11_call_10 rfl ?_
  refine am_iload dX11_call_12 rfl ?_
  refine am_iload dX11_call_14 rfl ?_
  refine am_callSx (as := [.inl (nI 9), .inl (nI a), .inl b, .inl c, .inl e]) (rest := []) dX11_call_16 lkX11_isGiven ml_X11_437 isX11_isGiven rfl (Nat.le_of_ble_eq_true rfl) rfl (c_isGiven9 hG.nd (nI a) b c e I) ?_
  refine am_if_eq (tgt := 26) dX11_call_19 (by decide) (fun h => absurd h ((am_bn _).mpr (decide_eq_true hP))) (fun _ => ?_)
  refine am_iconst (v := nI 1) dX11_call_22 (by decide) ?_
  refine am_goto (tgt := 27) dX11_call_23 (by decide) ?_
  refine am_istore dX11_call_27 (by decide) ?_
  refine am_aload_n dX11_call_29 rfl ?_
  refine am_iload dX11_call_30 rfl ?_
  refine am_if_ne (tgt := 39) dX11_call_32 (by decide) (fun _ => ?_) (fun h => absurd h (by decide))
  refine am_iconst (v := nI 0) dX11_call_39 (by decide) ?_
  refine am_iload dX11_call_40 rfl ?_
  refine am_if_eq (tgt := 66) dX11_call_42 (by decide) (fun h => absurd h (by decide)) (fun _ => ?_)
  refine am_aload_n dX11_call_45 rfl ?_
  refine am_get (v := .inr (0, 65)) dX11_call_46 fl_11_13 (hG.m0 (by decide)) rfl ?_
  refine am_iload_n dX11_call_49 rfl ?_
  refine am_zald (a := i) dX11_call_50 (hG.m0 (by decide)) rfl rfl (show i < 4 from (by omega)) (show 4 < 2 ^ 31 by decide) ?_
  refine am_top (show I 0 65 i = nI 1 from (by simp [am_up, am_upf, upd, hI, am_fr, am_dk, hi])) ?_
  refine am_if_eq (tgt := 62) dX11_call_51 (by decide) (fun h => absurd h (by decide)) (fun _ => ?_)
  refine am_aload_n dX11_call_54 rfl ?_
  refine am_iload_n dX11_call_55 rfl ?_
  refine am_callVx (i := 0) (j := 60) (as := [.inl (nI i)]) (rest := [.inl (nI 0), .inr (0, 60)]) dX11_call_56 lkX11_isCalling ml_X11_264 imX11_isCalling seX11_isCalling rfl rfl (hG.m0 (by decide)) rfl (Nat.le_of_ble_eq_true rfl) rfl (c_MisCalling0 hG hi I (by simp [am_up, am_upf, upd, hI, am_fr, am_dk, hi])) ?_
  refine am_if_eq (tgt := 66) dX11_call_59 (by decide) (fun _ => ?_) (fun h => absurd h (by decide))
  refine am_iconst (v := nI 0) dX11_call_66 (by decide) ?_
  refine am_iconst (v := nI 0) dX11_call_67 (by decide) ?_
  refine am_callVx (i := 0) (j := 60) (as := [.inl (nI 0), .inl (nI 0), .inl (nI 0)]) (rest := []) dX11_call_68 lkX11_refuse ml_X11_441 imX11_refuse seX11_refuse rfl rfl (hG.m0 (by decide)) rfl (Nat.le_of_ble_eq_true rfl) rfl (c_refuse000 hG I) ?_
  refine am_nm (fun I1 hI1 => ?_)
  refine am_if_eq (tgt := 76) dX11_call_71 (by decide) (fun _ => ?_) (fun h => absurd h (by decide))
  refine am_aload_n dX11_call_76 rfl ?_
  refine am_get (v := .inr (0, 82)) dX11_call_77 fl_11_66 (hG.m0 (by decide)) rfl ?_
  refine am_iload_n dX11_call_80 rfl ?_
  refine am_iload_n dX11_call_81 rfl ?_
  refine am_iast (a := i) dX11_call_82 (hG.m0 (by decide)) rfl rfl (show i < 4 from (by omega)) (show 4 < 2 ^ 31 by decide) ?_
  refine am_aload_n dX11_call_83 rfl ?_
  refine am_get (v := .inr (0, 83)) dX11_call_84 fl_11_69 (hG.m0 (by decide)) rfl ?_
  refine am_iload_n dX11_call_87 rfl ?_
  refine am_iload_n dX11_call_88 rfl ?_
  refine am_iast (a := i) dX11_call_89 (hG.m0 (by decide)) rfl rfl (show i < 4 from (by omega)) (show 4 < 2 ^ 31 by decide) ?_
  refine am_aload_n dX11_call_90 rfl ?_
  refine am_get (v := .inr (0, 84)) dX11_call_91 fl_11_72 (hG.m0 (by decide)) rfl ?_
  refine am_iload_n dX11_call_94 rfl ?_
  refine am_iload dX11_call_95 rfl ?_
  refine am_iast (a := i) dX11_call_97 (hG.m0 (by decide)) rfl rfl (show i < 4 from (by omega)) (show 4 < 2 ^ 31 by decide) ?_
  refine am_aload_n dX11_call_98 rfl ?_
  refine am_get (v := .inr (0, 85)) dX11_call_99 fl_11_75 (hG.m0 (by decide)) rfl ?_
  refine am_iload_n dX11_call_102 rfl ?_
  refine am_iload dX11_call_103 rfl ?_
  refine am_iast (a := i) dX11_call_105 (hG.m0 (by decide)) rfl rfl (show i < 4 from (by omega)) (show 4 < 2 ^ 31 by decide) ?_
  refine am_aload_n dX11_call_106 rfl ?_
  refine am_get (v := .inr (0, 86)) dX11_call_107 fl_11_78 (hG.m0 (by decide)) rfl ?_
  refine am_iload_n dX11_call_110 rfl ?_
  refine am_iload dX11_call_111 rfl ?_
  refine am_iast (a := i) dX11_call_113 (hG.m0 (by decide)) rfl rfl (show i < 4 from (by omega)) (show 4 < 2 ^ 31 by decide) ?_
  refine am_aload_n dX11_call_114 rfl ?_
  refine am_get (v := .inr (0, 87)) dX11_call_115 fl_11_81 (hG.m0 (by decide)) rfl ?_
  refine am_iload_n dX11_call_118 rfl ?_
  refine am_iconst (v := nI 1) dX11_call_119 (by decide) ?_
  refine am_iast (a := i) dX11_call_120 (hG.m0 (by decide)) rfl rfl (show i < 4 from (by omega)) (show 4 < 2 ^ 31 by decide) ?_
  refine am_aload_n dX11_call_121 rfl ?_
  refine am_get (v := .inr (0, 88)) dX11_call_122 fl_11_84 (hG.m0 (by decide)) rfl ?_
  refine am_iload_n dX11_call_125 rfl ?_
  refine am_iconst (v := nI 0) dX11_call_126 (by decide) ?_
  refine am_iast (a := i) dX11_call_127 (hG.m0 (by decide)) rfl rfl (show i < 4 from (by omega)) (show 4 < 2 ^ 31 by decide) ?_
  refine am_aload_n dX11_call_128 rfl ?_
  refine am_get (v := .inr (0, 89)) dX11_call_129 fl_11_87 (hG.m0 (by decide)) rfl ?_
  refine am_iload_n dX11_call_132 rfl ?_
  refine am_aload_n dX11_call_133 rfl ?_
  refine am_get (v := .inl ((am_up (am_up (am_up (am_up (am_up (am_up (am_up I1 0 82 i (nI 9)) 0 83 i (nI a)) 0 84 i b) 0 85 i c) 0 86 i e) 0 87 i (nI 1)) 0 88 i (nI 0)) 0 60 2)) dX11_call_134 fl_11_194 (hG.m0 (by decide)) rfl ?_
  refine am_top (show (am_up (am_up (am_up (am_up (am_up (am_up (am_up I1 0 82 i (nI 9)) 0 83 i (nI a)) 0 84 i b) 0 85 i c) 0 86 i e) 0 87 i (nI 1)) 0 88 i (nI 0)) 0 60 2 = nI 0 from (by simp [am_up, am_upf, upd, hI, am_fr, am_dk, hi, hI1])) ?_
  refine am_iast (a := i) dX11_call_137 (hG.m0 (by decide)) rfl rfl (show i < 4 from (by omega)) (show 4 < 2 ^ 31 by decide) ?_
  refine am_aload_n dX11_call_138 rfl ?_
  refine am_get (v := .inr (0, 90)) dX11_call_139 fl_11_90 (hG.m0 (by decide)) rfl ?_
  refine am_iload_n dX11_call_142 rfl ?_
  refine am_iconst (v := nI 0) dX11_call_143 (by decide) ?_
  refine am_iast (a := i) dX11_call_144 (hG.m0 (by decide)) rfl rfl (show i < 4 from (by omega)) (show 4 < 2 ^ 31 by decide) ?_
  refine am_aload_n dX11_call_145 rfl ?_
  refine am_get (v := .inr (0, 91)) dX11_call_146 fl_11_93 (hG.m0 (by decide)) rfl ?_
  refine am_iload_n dX11_call_149 rfl ?_
  refine am_iconst (v := nI 0) dX11_call_150 (by decide) ?_
  refine am_iast (a := i) dX11_call_151 (hG.m0 (by decide)) rfl rfl (show i < 4 from (by omega)) (show 4 < 2 ^ 31 by decide) ?_
  refine am_aload_n dX11_call_152 rfl ?_
  refine am_get (v := .inr (0, 92)) dX11_call_153 fl_11_96 (hG.m0 (by decide)) rfl ?_
  refine am_iload_n dX11_call_156 rfl ?_
  refine am_iconst (v := nI 0) dX11_call_157 (by decide) ?_
  refine am_iast (a := i) dX11_call_158 (hG.m0 (by decide)) rfl rfl (show i < 4 from (by omega)) (show 4 < 2 ^ 31 by decide) ?_
  refine am_aload_n dX11_call_159 rfl ?_
  refine am_get (v := .inr (0, 93)) dX11_call_160 fl_11_99 (hG.m0 (by decide)) rfl ?_
  refine am_iload_n dX11_call_163 rfl ?_
  refine am_iconst (v := nI 0) dX11_call_164 (by decide) ?_
  refine am_zast (a := i) dX11_call_165 (hG.m0 (by decide)) rfl (by decide) rfl (show i < 4 from (by omega)) (show 4 < 2 ^ 31 by decide) ?_
  refine am_iconst (v := nI 0) dX11_call_166 (by decide) ?_
  refine am_istore dX11_call_167 (by decide) ?_
  refine K _ (fun k hk => by simp [am_up, am_upf, upd, hI, am_fr, hI1]) ?_ 136 0 (by omega)
  refine am_aload_n dX11_call_195 rfl ?_
  refine am_iload_n dX11_call_196 rfl ?_
  refine am_callVv (i := 0) (j := 60) (as := [.inl (nI i)]) (rest := []) dX11_call_197 lkX11_goOn ml_X11_212 imX11_goOn seX11_goOn rfl rfl (hG.m0 (by decide)) rfl (Nat.le_of_ble_eq_true rfl) rfl (c_MgoOn9 (a := a) hG hi (by omega) (am_up (am_up (am_up (am_up (am_up (am_up (am_up (am_up (am_up (am_up (am_up (am_up I1 0 82 i (nI 9)) 0 83 i (nI a)) 0 84 i b) 0 85 i c) 0 86 i e) 0 87 i (nI 1)) 0 88 i (nI 0)) 0 89 i (nI 0)) 0 90 i (nI 0)) 0 91 i (nI 0)) 0 92 i (nI 0)) 0 93 i (nI 0)) (fun k hk => by simp [am_up, am_upf, upd, hI, am_fr, hI1]) (fun k hk => by simp [am_up, am_upf, upd, hI, am_fr, hI1]) (fun x hx => by simp [am_up, am_upf, upd, hI, am_fr, hx, hI1]) (fun x hx => by simp [am_up, am_upf, upd, hI, am_fr, hx, hI1]) (fun f t => by simp [am_up, am_upf, upd, hI, am_fr, hI1]) (fun f t => by simp [am_up, am_upf, upd, hI, am_fr, hI1]) (by simp [am_up, am_upf, upd, hI, am_fr, am_dk, hi, hI1]) (by simp [am_up, am_upf, upd, hI, am_fr, am_dk, hi, hI1]) (by simp [am_up, am_upf, upd, hI, am_fr, am_dk, hi, hI1]) (by simp [am_up, am_upf, upd, hI, am_fr, am_dk, hi, hI1]) (by simp [am_up, am_upf, upd, hI, am_fr, am_dk, hi, hI1]) (by simp [am_up, am_upf, upd, hI, am_fr, am_dk, hi, hI1]) (by simp [am_up, am_upf, upd, hI, am_fr, am_dk, hi, hI1]) (by simp [am_up, am_upf, upd, hI, am_fr, am_dk, hi, hI1]) (by simp [am_up, am_upf, upd, hI, am_fr, am_dk, hi, hI1]) (by simp [am_up, am_upf, upd, hI, am_fr, am_dk, hi, hI1]) (by simp [am_up, am_upf, upd, hI, am_fr, am_dk, hi, hI1]) (by simp [am_up, am_upf, upd, hI, am_fr, am_dk, hi, hI1]) (by simp [am_up, am_upf, upd, hI, am_fr, am_dk, hi, hI1]) (by simp [am_up, am_upf, upd, hI, am_fr, am_dk, hi, hI1]) (by simp [am_up, am_upf, upd, hI, am_fr, am_dk, hi, hI1])) rfl (fun I9 hq => ?_)
  have hst9 := hq.2.1
  have hth9 := hq.2.2
  refine am_nm (fun I2 hI2 => ?_)
  refine am_aload_n dX11_call_200 rfl ?_
  refine am_get (v := .inr (0, 87)) dX11_call_201 fl_11_81 (hG.m0 (by decide)) rfl ?_
  refine am_iload_n dX11_call_204 rfl ?_
  refine am_iald (a := i) dX11_call_205 (hG.m0 (by decide)) rfl rfl (show i < 4 from (by omega)) (show 4 < 2 ^ 31 by decide) ?_
  refine am_top (show I2 0 87 i = nI 1 from (by simp [am_up, am_upf, upd, hI, am_fr, am_dk, hi, hI1, hst9, hth9, hI2])) ?_
  refine am_iconst (v := nI 1) dX11_call_206 (by decide) ?_
  refine am_icmp_ne (tgt := 214) dX11_call_207 (by decide) (fun h => absurd h (by decide)) (fun _ => ?_)
  refine am_iconst (v := nI 0) dX11_call_210 (by decide) ?_
  refine am_goto (tgt := 215) dX11_call_211 (by decide) ?_
  refine am_iret dX11_call_215 rfl rfl ?_
  exact ⟨rfl, (by simp [am_up, am_upf, upd, hI, am_fr, am_dk, hi, hI1, hst9, hth9, hI2])⟩
theorem m_call10 {G : am_G} (hG : am_okM G) {d : Nat} {i : Nat} (hi : i < G.2.2.2.1) (a b c e : Int32) (hP : True) {I : am_I} (hI : I = am_fr G.2.2.2.1)  : am_C G (d + 7) mX11_call [.inr (0, 60), .inl (nI i), .inl (nI 10), .inl a, .inl b, .inl c, .inl e] I (fun rr J => rr = some (nI 1) ∧ J 0 60 0 = nI 0) := by
  have hn4 := hG.hi
  have hn2 := hG.lo
  have K : ∀ (X : am_I) (_ : ∀ k, k < 544 → X 0 81 k = nI 0) (_ : am_J G (d + 7) mX11_call am_no (fun rr J => rr = some (nI 1) ∧ J 0 60 0 = nI 0) 195 [some (.inr (0, 60)), some (.inl (nI i)), some (.inl (nI 10)), some (.inl a), some (.inl b), some (.inl c), some (.inl e), some (.inl (nI 1)), some (.inl (nI 136))] [] X) (m r : Nat), r + m = 136 → am_J G (d + 7) mX11_call am_no (fun rr J => rr = some (nI 1) ∧ J 0 60 0 = nI 0) 169 [some (.inr (0, 60)), some (.inl (nI i)), some (.inl (nI 10)), some (.inl a), some (.inl b), some (.inl c), some (.inl e), some (.inl (nI 1)), some (.inl (nI r))] [] X := by
    intro X hX hk m
    induction m with
    | zero =>
      intro r ha
      obtain rfl : r = 136 := by omega
      refine am_iload dX11_call_169 rfl ?_
      refine am_sipush (v := nI 136) dX11_call_171 (by decide) ?_
      refine am_icmp_ge (tgt := 195) dX11_call_174 (by decide) (fun _ => ?_) (fun h => absurd ((nI_leI (a := 136) (b := 136) (by omega) (by omega)).mpr (by omega)) h)
      exact hk
    | succ m ih =>
      intro r ha
      refine am_iload dX11_call_169 rfl ?_
      refine am_sipush (v := nI 136) dX11_call_171 (by decide) ?_
      refine am_icmp_ge (tgt := 195) dX11_call_174 (by decide) (fun h => absurd ((nI_leI (a := 136) (b := r) (by omega) (by omega)).mp h) (by omega)) (fun _ => ?_)
      refine am_aload_n dX11_call_177 rfl ?_
      refine am_get (v := .inr (0, 81)) dX11_call_178 fl_11_63 (hG.m0 (by decide)) rfl ?_
      refine am_iload_n dX11_call_181 rfl ?_
      refine am_iload dX11_call_182 rfl ?_
      refine am_callSx (as := [.inl (nI i), .inl (nI r)]) (rest := [.inr (0, 81)]) dX11_call_184 lkX11_at ml_X11_208 isX11_at rfl (Nat.le_of_ble_eq_true rfl) rfl (c_Mat hG.nd (g := i) (r := r) (by omega) (by omega) X) ?_
      refine am_iconst (v := nI 0) dX11_call_187 (by decide) ?_
      refine am_iast (a := 136 * i + r) dX11_call_188 (hG.m0 (by decide)) rfl rfl (show 136 * i + r < 544 from (by omega)) (show 544 < 2 ^ 31 by decide) ?_
      rw [am_up_id (hX _ (by omega))]
      refine am_iinc (v := nI (r + 1)) dX11_call_189 rfl (nI_add _ _) ?_
      refine am_goto (tgt := 169) dX11_call_192 (by decide) ?_
      exact ih (r + 1) (by omega)
  refine am_of (by decide +kernel) hG.nd (Nat.le_of_ble_eq_true rfl) ?_
  refine am_aload_n dX11_call_0 rfl ?_
  refine am_iload_n dX11_call_1 rfl ?_
  refine am_callVx (i := 0) (j := 60) (as := [.inl (nI i)]) (rest := []) dX11_call_2 lkX11_isNode ml_X11_434 imX11_isNode seX11_isNode rfl rfl (hG.m0 (by decide)) rfl (Nat.le_of_ble_eq_true rfl) rfl (c_MisNodeY hG hi (by simp [am_up, am_upf, upd, hI, am_fr, am_dk, hi])) ?_
  refine am_if_eq (tgt := 26) dX11_call_5 (by decide) (fun h => absurd h (by decide)) (fun _ => ?_)
  refine am_iload_n dX11_call_8 rfl ?_
  refine am_iload_n dX11_call_9 rfl ?_
  refine am_iload dX11_call_10 rfl ?_
  refine am_iload dX11_call_12 rfl ?_
  refine am_iload dX11_call_14 rfl ?_
  refine am_callSx (as := [.inl (nI 10), .inl a, .inl b, .inl c, .inl e]) (rest := []) dX11_call_16 lkX11_isGiven ml_X11_437 isX11_isGiven rfl (Nat.le_of_ble_eq_true rfl) rfl (c_isGiven10 hG.nd a b c e I) ?_
  refine am_if_eq (tgt := 26) dX11_call_19 (by decide) (fun h => absurd h ((am_bn _).mpr (decide_eq_true hP))) (fun _ => ?_)
  refine am_iconst (v := nI 1) dX11_call_22 (by decide) ?_
  refine am_goto (tgt := 27) dX11_call_23 (by decide) ?_
  refine am_istore dX11_call_27 (by decide) ?_
  refine am_aload_n dX11_call_29 rfl ?_
  refine am_iload dX11_call_30 rfl ?_
  refine am_if_ne (tgt := 39) dX11_call_32 (by decide) (fun _ => ?_) (fun h => absurd h (by decide))
  refine am_iconst (v := nI 0) dX11_call_39 (by decide) ?_
  refine am_iload dX11_call_40 rfl ?_
  refine am_if_eq (tgt := 66) dX11_call_42 (by decide) (fun h => absurd h (by decide)) (fun _ => ?_)
  refine am_aload_n dX11_call_45 rfl ?_
  refine am_get (v := .inr (0, 65)) dX11_call_46 fl_11_13 (hG.m0 (by decide)) rfl ?_
  refine am_iload_n dX11_call_49 rfl ?_
  refine am_zald (a := i) dX11_call_50 (hG.m0 (by decide)) rfl rfl (show i < 4 from (by omega)) (show 4 < 2 ^ 31 by decide) ?_
  refine am_top (show I 0 65 i = nI 1 from (by simp [am_up, am_upf, upd, hI, am_fr, am_dk, hi])) ?_
  refine am_if_eq (tgt := 62) dX11_call_51 (by decide) (fun h => absurd h (by decide)) (fun _ => ?_)
  refine am_aload_n dX11_call_54 rfl ?_
  refine am_iload_n dX11_call_55 rfl ?_
  refine am_callVx (i := 0) (j := 60) (as := [.inl (nI i)]) (rest := [.inl (nI 0), .inr (0, 60)]) dX11_call_56 lkX11_isCalling ml_X11_264 imX11_isCalling seX11_isCalling rfl rfl (hG.m0 (by decide)) rfl (Nat.le_of_ble_eq_true rfl) rfl (c_MisCalling0 hG hi I (by simp [am_up, am_upf, upd, hI, am_fr, am_dk, hi])) ?_
  refine am_if_eq (tgt := 66) dX11_call_59 (by decide) (fun _ => ?_) (fun h => absurd h (by decide))
  refine am_iconst (v := nI 0) dX11_call_66 (by decide) ?_
  refine am_iconst (v := nI 0) dX11_call_67 (by decide) ?_
  refine am_callVx (i := 0) (j := 60) (as := [.inl (nI 0), .inl (nI 0), .inl (nI 0)]) (rest := []) dX11_call_68 lkX11_refuse ml_X11_441 imX11_refuse seX11_refuse rfl rfl (hG.m0 (by decide)) rfl (Nat.le_of_ble_eq_true rfl) rfl (c_refuse000 hG I) ?_
  refine am_nm (fun I1 hI1 => ?_)
  refine am_if_eq (tgt := 76) dX11_call_71 (by decide) (fun _ => ?_) (fun h => absurd h (by decide))
  refine am_aload_n dX11_call_76 rfl ?_
  refine am_get (v := .inr (0, 82)) dX11_call_77 fl_11_66 (hG.m0 (by decide)) rfl ?_
  refine am_iload_n dX11_call_80 rfl ?_
  refine am_iload_n dX11_call_81 rfl ?_
  refine am_iast (a := i) dX11_call_82 (hG.m0 (by decide)) rfl rfl (show i < 4 from (by omega)) (show 4 < 2 ^ 31 by decide) ?_
  refine am_aload_n dX11_call_83 rfl ?_
  refine am_get (v := .inr (0, 83)) dX11_call_84 fl_11_69 (hG.m0 (by decide)) rfl ?_
  refine am_iload_n dX11_call_87 rfl ?_
  refine am_iload_n dX11_call_88 rfl ?_
  refine am_iast (a := i) dX11_call_89 (hG.m0 (by decide)) rfl rfl (show i < 4 from (by omega)) (show 4 < 2 ^ 31 by decide) ?_
  refine am_aload_n dX11_call_90 rfl ?_
  refine am_get (v := .inr (0, 84)) dX11_call_91 fl_11_72 (hG.m0 (by decide)) rfl ?_
  refine am_iload_n dX11_call_94 rfl ?_
  refine am_iload dX11_call_95 rfl ?_
  refine am_iast (a := i) dX11_call_97 (hG.m0 (by decide)) rfl rfl (show i < 4 from (by omega)) (show 4 < 2 ^ 31 by decide) ?_
  refine am_aload_n dX11_call_98 rfl ?_
  refine am_get (v := .inr (0, 85)) dX11_call_99 fl_11_75 (hG.m0 (by decide)) rfl ?_
  refine am_iload_n dX11_call_102 rfl ?_
  refine am_iload dX11_call_103 rfl ?_
  refine am_iast (a := i) dX11_call_105 (hG.m0 (by decide)) rfl rfl (show i < 4 from (by omega)) (show 4 < 2 ^ 31 by decide) ?_
  refine am_aload_n dX11_call_106 rfl ?_
  refine am_get (v := .inr (0, 86)) dX11_call_107 fl_11_78 (hG.m0 (by decide)) rfl ?_
  refine am_iload_n dX11_call_110 rfl ?_
  refine am_iload dX11_call_111 rfl ?_
  refine am_iast (a := i) dX11_call_113 (hG.m0 (by decide)) rfl rfl (show i < 4 from (by omega)) (show 4 < 2 ^ 31 by decide) ?_
  refine am_aload_n dX11_call_114 rfl ?_
  refine am_get (v := .inr (0, 87)) dX11_call_115 fl_11_81 (hG.m0 (by decide)) rfl ?_
  refine am_iload_n dX11_call_118 rfl ?_
  refine am_iconst (v := nI 1) dX11_call_119 (by decide) ?_
  refine am_iast (a := i) dX11_call_120 (hG.m0 (by decide)) rfl rfl (show i < 4 from (by omega)) (show 4 < 2 ^ 31 by decide) ?_
  refine am_aload_n dX11_call_121 rfl ?_
  refine am_get (v := .inr (0, 88)) dX11_call_122 fl_11_84 (hG.m0 (by decide)) rfl ?_
  refine am_iload_n dX11_call_125 rfl ?_
  refine am_iconst (v := nI 0) dX11_call_126 (by decide) ?_
  refine am_iast (a := i) dX11_call_127 (hG.m0 (by decide)) rfl rfl (show i < 4 from (by omega)) (show 4 < 2 ^ 31 by decide) ?_
  refine am_aload_n dX11_call_128 rfl ?_
  refine am_get (v := .inr (0, 89)) dX11_call_129 fl_11_87 (hG.m0 (by decide)) rfl ?_
  refine am_iload_n dX11_call_132 rfl ?_
  refine am_aload_n dX11_call_133 rfl ?_
  refine am_get (v := .inl ((am_up (am_up (am_up (am_up (am_up (am_up (am_up I1 0 82 i (nI 10)) 0 83 i a) 0 84 i b) 0 85 i c) 0 86 i e) 0 87 i (nI 1)) 0 88 i (nI 0)) 0 60 2)) dX11_call_134 fl_11_194 (hG.m0 (by decide)) rfl ?_
  refine am_top (show (am_up (am_up (am_up (am_up (am_up (am_up (am_up I1 0 82 i (nI 10)) 0 83 i a) 0 84 i b) 0 85 i c) 0 86 i e) 0 87 i (nI 1)) 0 88 i (nI 0)) 0 60 2 = nI 0 from (by simp [am_up, am_upf, upd, hI, am_fr, am_dk, hi, hI1])) ?_
  refine am_iast (a := i) dX11_call_137 (hG.m0 (by decide)) rfl rfl (show i < 4 from (by omega)) (show 4 < 2 ^ 31 by decide) ?_
  refine am_aload_n dX11_call_138 rfl ?_
  refine am_get (v := .inr (0, 90)) dX11_call_139 fl_11_90 (hG.m0 (by decide)) rfl ?_
  refine am_iload_n dX11_call_142 rfl ?_
  refine am_iconst (v := nI 0) dX11_call_143 (by decide) ?_
  refine am_iast (a := i) dX11_call_144 (hG.m0 (by decide)) rfl rfl (show i < 4 from (by omega)) (show 4 < 2 ^ 31 by decide) ?_
  refine am_aload_n dX11_call_145 rfl ?_
  refine am_get (v := .inr (0, 91)) dX11_call_146 fl_11_93 (hG.m0 (by decide)) rfl ?_
  refine am_iload_n dX11_call_149 rfl ?_
  refine am_iconst (v := nI 0) dX11_call_150 (by decide) ?_
  refine am_iast (a := i) dX11_call_151 (hG.m0 (by decide)) rfl rfl (show i < 4 from (by omega)) (show 4 < 2 ^ 31 by decide) ?_
  refine am_aload_n dX11_call_152 rfl ?_
  refine am_get (v := .inr (0, 92)) dX11_call_153 fl_11_96 (hG.m0 (by decide)) rfl ?_
  refine am_iload_n dX11_call_156 rfl ?_
  refine am_iconst (v := nI 0) dX11_call_157 (by decide) ?_
  refine am_iast (a := i) dX11_call_158 (hG.m0 (by decide)) rfl rfl (show i < 4 from (by omega)) (show 4 < 2 ^ 31 by decide) ?_
  refine am_aload_n dX11_call_159 rfl ?_
  refine am_get (v := .inr (0, 93)) dX11_call_160 fl_11_99 (hG.m0 (by decide)) rfl ?_
  refine am_iload_n dX11_call_163 rfl ?_
  refine am_iconst (v := nI 0) dX11_call_164 (by decide) ?_
  refine am_zast (a := i) dX11_call_165 (hG.m0 (by decide)) rfl (by decide) rfl (show i < 4 from (by omega)) (show 4 < 2 ^ 31 by decide) ?_
  refine am_iconst (v := nI 0) dX11_call_166 (by decide) ?_
  refine am_istore dX11_call_167 (by decide) ?_
  refine K _ (fun k hk => by simp [am_up, am_upf, upd, hI, am_fr, hI1]) ?_ 136 0 (by omega)
  refine am_aload_n dX11_call_195 rfl ?_
  refine am_iload_n dX11_call_196 rfl ?_
  refine am_callVv (i := 0) (j := 60) (as := [.inl (nI i)]) (rest := []) dX11_call_197 lkX11_goOn ml_X11_212 imX11_goOn seX11_goOn rfl rfl (hG.m0 (by decide)) rfl (Nat.le_of_ble_eq_true rfl) rfl (c_MgoOn10 hG hi (am_up (am_up (am_up (am_up (am_up (am_up (am_up (am_up (am_up (am_up (am_up (am_up I1 0 82 i (nI 10)) 0 83 i a) 0 84 i b) 0 85 i c) 0 86 i e) 0 87 i (nI 1)) 0 88 i (nI 0)) 0 89 i (nI 0)) 0 90 i (nI 0)) 0 91 i (nI 0)) 0 92 i (nI 0)) 0 93 i (nI 0)) (fun k hk => by simp [am_up, am_upf, upd, hI, am_fr, hI1]) (fun k hk => by simp [am_up, am_upf, upd, hI, am_fr, hI1]) (fun x hx => by simp [am_up, am_upf, upd, hI, am_fr, hx, hI1]) (fun x hx => by simp [am_up, am_upf, upd, hI, am_fr, hx, hI1]) (fun f t => by simp [am_up, am_upf, upd, hI, am_fr, hI1]) (fun f t => by simp [am_up, am_upf, upd, hI, am_fr, hI1]) (by simp [am_up, am_upf, upd, hI, am_fr, am_dk, hi, hI1]) (by simp [am_up, am_upf, upd, hI, am_fr, am_dk, hi, hI1]) (by simp [am_up, am_upf, upd, hI, am_fr, am_dk, hi, hI1]) (by simp [am_up, am_upf, upd, hI, am_fr, am_dk, hi, hI1]) (by simp [am_up, am_upf, upd, hI, am_fr, am_dk, hi, hI1]) (by simp [am_up, am_upf, upd, hI, am_fr, am_dk, hi, hI1]) (by simp [am_up, am_upf, upd, hI, am_fr, am_dk, hi, hI1]) (by simp [am_up, am_upf, upd, hI, am_fr, am_dk, hi, hI1]) (by simp [am_up, am_upf, upd, hI, am_fr, am_dk, hi, hI1])) rfl (fun I9 hq => ?_)
  have hst9 := hq.2.1
  have hth9 := hq.2.2
  refine am_nm (fun I2 hI2 => ?_)
  refine am_aload_n dX11_call_200 rfl ?_
  refine am_get (v := .inr (0, 87)) dX11_call_201 fl_11_81 (hG.m0 (by decide)) rfl ?_
  refine am_iload_n dX11_call_204 rfl ?_
  refine am_iald (a := i) dX11_call_205 (hG.m0 (by decide)) rfl rfl (show i < 4 from (by omega)) (show 4 < 2 ^ 31 by decide) ?_
  refine am_top (show I2 0 87 i = nI 2 from (by simp [am_up, am_upf, upd, hI, am_fr, am_dk, hi, hI1, hst9, hth9, hI2])) ?_
  refine am_iconst (v := nI 1) dX11_call_206 (by decide) ?_
  refine am_icmp_ne (tgt := 214) dX11_call_207 (by decide) (fun _ => ?_) (fun h => absurd h (by decide))
  refine am_iconst (v := nI 1) dX11_call_214 (by decide) ?_
  refine am_iret dX11_call_215 rfl rfl ?_
  exact ⟨rfl, (by simp [am_up, am_upf, upd, hI, am_fr, am_dk, hi, hI1, hst9, hth9, hI2])⟩
theorem m_call11 {G : am_G} (hG : am_okM G) {d : Nat} {i : Nat} (hi : i < G.2.2.2.1) {a : Nat} (hab : a < 128) (b c e : Int32) (hP : 0 ≤ (nI a).toInt ∧ (nI a).toInt < 128 ∧ 0 ≤ b.toInt ∧ b.toInt < 384) {I : am_I} (hI : I = am_fr G.2.2.2.1)  : am_C G (d + 7) mX11_call [.inr (0, 60), .inl (nI i), .inl (nI 11), .inl (nI a), .inl b, .inl c, .inl e] I (fun rr J => rr = some (nI 0) ∧ J 0 60 0 = nI 0) := by
  have hn4 := hG.hi
  have hn2 := hG.lo
  have K : ∀ (X : am_I) (_ : ∀ k, k < 544 → X 0 81 k = nI 0) (_ : am_J G (d + 7) mX11_call am_no (fun rr J => rr = some (nI 0) ∧ J 0 60 0 = nI 0) 195 [some (.inr (0, 60)), some (.inl (nI i)), some (.inl (nI 11)), some (.inl (nI a)), some (.inl b), some (.inl c), some (.inl e), some (.inl (nI 1)), some (.inl (nI 136))] [] X) (m r : Nat), r + m = 136 → am_J G (d + 7) mX11_call am_no (fun rr J => rr = some (nI 0) ∧ J 0 60 0 = nI 0) 169 [some (.inr (0, 60)), some (.inl (nI i)), some (.inl (nI 11)), some (.inl (nI a)), some (.inl b), some (.inl c), some (.inl e), some (.inl (nI 1)), some (.inl (nI r))] [] X := by
    intro X hX hk m
    induction m with
    | zero =>
      intro r ha
      obtain rfl : r = 136 := by omega
      refine am_iload dX11_call_169 rfl ?_
      refine am_sipush (v := nI 136) dX11_call_171 (by decide) ?_
      refine am_icmp_ge (tgt := 195) dX11_call_174 (by decide) (fun _ => ?_) (fun h => absurd ((nI_leI (a := 136) (b := 136) (by omega) (by omega)).mpr (by omega)) h)
      exact hk
    | succ m ih =>
      intro r ha
      refine am_iload dX11_call_169 rfl ?_
      refine am_sipush (v := nI 136) dX11_call_171 (by decide) ?_
      refine am_icmp_ge (tgt := 195) dX11_call_174 (by decide) (fun h => absurd ((nI_leI (a := 136) (b := r) (by omega) (by omega)).mp h) (by omega)) (fun _ => ?_)
      refine am_aload_n dX11_call_177 rfl ?_
      refine am_get (v := .inr (0, 81)) dX11_call_178 fl_11_63 (hG.m0 (by decide)) rfl ?_
      refine am_iload_n dX11_call_181 rfl ?_
      refine am_iload dX11_call_182 rfl ?_
      refine am_callSx (as := [.inl (nI i), .inl (nI r)]) (rest := [.inr (0, 81)]) dX11_call_184 lkX11_at ml_X11_208 isX11_at rfl (Nat.le_of_ble_eq_true rfl) rfl (c_Mat hG.nd (g := i) (r := r) (by omega) (by omega) X) ?_
      refine am_iconst (v := nI 0) dX11_call_187 (by decide) ?_
      refine am_iast (a := 136 * i + r) dX11_call_188 (hG.m0 (by decide)) rfl rfl (show 136 * i + r < 544 from (by omega)) (show 544 < 2 ^ 31 by decide) ?_
      rw [am_up_id (hX _ (by omega))]
      refine am_iinc (v := nI (r + 1)) dX11_call_189 rfl (nI_add _ _) ?_
      refine am_goto (tgt := 169) dX11_call_192 (by decide) ?_
      exact ih (r + 1) (by omega)
  refine am_of (by decide +kernel) hG.nd (Nat.le_of_ble_eq_true rfl) ?_
  refine am_aload_n dX11_call_0 rfl ?_
  refine am_iload_n dX11_call_1 rfl ?_
  refine am_callVx (i := 0) (j := 60) (as := [.inl (nI i)]) (rest := []) dX11_call_2 lkX11_isNode ml_X11_434 imX11_isNode seX11_isNode rfl rfl (hG.m0 (by decide)) rfl (Nat.le_of_ble_eq_true rfl) rfl (c_MisNodeY hG hi (by simp [am_up, am_upf, upd, hI, am_fr, am_dk, hi])) ?_
  refine am_if_eq (tgt := 26) dX11_call_5 (by decide) (fun h => absurd h (by decide)) (fun _ => ?_)
  refine am_iload_n dX11_call_8 rfl ?_
  refine am_iload_n dX11_call_9 rfl ?_
  refine am_iload dX11_call_10 rfl ?_
  refine am_iload dX11_call_12 rfl ?_
  refine am_iload dX11_call_14 rfl ?_
  refine am_callSx (as := [.inl (nI 11), .inl (nI a), .inl b, .inl c, .inl e]) (rest := []) dX11_call_16 lkX11_isGiven ml_X11_437 isX11_isGiven rfl (Nat.le_of_ble_eq_true rfl) rfl (c_isGiven11 hG.nd (nI a) b c e I) ?_
  refine am_if_eq (tgt := 26) dX11_call_19 (by decide) (fun h => absurd h ((am_bn _).mpr (decide_eq_true hP))) (fun _ => ?_)
  refine am_iconst (v := nI 1) dX11_call_22 (by decide) ?_
  refine am_goto (tgt := 27) dX11_call_23 (by decide) ?_
  refine am_istore dX11_call_27 (by decide) ?_
  refine am_aload_n dX11_call_29 rfl ?_
  refine am_iload dX11_call_30 rfl ?_
  refine am_if_ne (tgt := 39) dX11_call_32 (by decide) (fun _ => ?_) (fun h => absurd h (by decide))
  refine am_iconst (v := nI 0) dX11_call_39 (by decide) ?_
  refine am_iload dX11_call_40 rfl ?_
  refine am_if_eq (tgt := 66) dX11_call_42 (by decide) (fun h => absurd h (by decide)) (fun _ => ?_)
  refine am_aload_n dX11_call_45 rfl ?_
  refine am_get (v := .inr (0, 65)) dX11_call_46 fl_11_13 (hG.m0 (by decide)) rfl ?_
  refine am_iload_n dX11_call_49 rfl ?_
  refine am_zald (a := i) dX11_call_50 (hG.m0 (by decide)) rfl rfl (show i < 4 from (by omega)) (show 4 < 2 ^ 31 by decide) ?_
  refine am_top (show I 0 65 i = nI 1 from (by simp [am_up, am_upf, upd, hI, am_fr, am_dk, hi])) ?_
  refine am_if_eq (tgt := 62) dX11_call_51 (by decide) (fun h => absurd h (by decide)) (fun _ => ?_)
  refine am_aload_n dX11_call_54 rfl ?_
  refine am_iload_n dX11_call_55 rfl ?_
  refine am_callVx (i := 0) (j := 60) (as := [.inl (nI i)]) (rest := [.inl (nI 0), .inr (0, 60)]) dX11_call_56 lkX11_isCalling ml_X11_264 imX11_isCalling seX11_isCalling rfl rfl (hG.m0 (by decide)) rfl (Nat.le_of_ble_eq_true rfl) rfl (c_MisCalling0 hG hi I (by simp [am_up, am_upf, upd, hI, am_fr, am_dk, hi])) ?_
  refine am_if_eq (tgt := 66) dX11_call_59 (by decide) (fun _ => ?_) (fun h => absurd h (by decide))
  refine am_iconst (v := nI 0) dX11_call_66 (by decide) ?_
  refine am_iconst (v := nI 0) dX11_call_67 (by decide) ?_
  refine am_callVx (i := 0) (j := 60) (as := [.inl (nI 0), .inl (nI 0), .inl (nI 0)]) (rest := []) dX11_call_68 lkX11_refuse ml_X11_441 imX11_refuse seX11_refuse rfl rfl (hG.m0 (by decide)) rfl (Nat.le_of_ble_eq_true rfl) rfl (c_refuse000 hG I) ?_
  refine am_nm (fun I1 hI1 => ?_)
  refine am_if_eq (tgt := 76) dX11_call_71 (by decide) (fun _ => ?_) (fun h => absurd h (by decide))
  refine am_aload_n dX11_call_76 rfl ?_
  refine am_get (v := .inr (0, 82)) dX11_call_77 fl_11_66 (hG.m0 (by decide)) rfl ?_
  refine am_iload_n dX11_call_80 rfl ?_
  refine am_iload_n dX11_call_81 rfl ?_
  refine am_iast (a := i) dX11_call_82 (hG.m0 (by decide)) rfl rfl (show i < 4 from (by omega)) (show 4 < 2 ^ 31 by decide) ?_
  refine am_aload_n dX11_call_83 rfl ?_
  refine am_get (v := .inr (0, 83)) dX11_call_84 fl_11_69 (hG.m0 (by decide)) rfl ?_
  refine am_iload_n dX11_call_87 rfl ?_
  refine am_iload_n dX11_call_88 rfl ?_
  refine am_iast (a := i) dX11_call_89 (hG.m0 (by decide)) rfl rfl (show i < 4 from (by omega)) (show 4 < 2 ^ 31 by decide) ?_
  refine am_aload_n dX11_call_90 rfl ?_
  refine am_get (v := .inr (0, 84)) dX11_call_91 fl_11_72 (hG.m0 (by decide)) rfl ?_
  refine am_iload_n dX11_call_94 rfl ?_
  refine am_iload dX11_call_95 rfl ?_
  refine am_iast (a := i) dX11_call_97 (hG.m0 (by decide)) rfl rfl (show i < 4 from (by omega)) (show 4 < 2 ^ 31 by decide) ?_
  refine am_aload_n dX11_call_98 rfl ?_
  refine am_get (v := .inr (0, 85)) dX11_call_99 fl_11_75 (hG.m0 (by decide)) rfl ?_
  refine am_iload_n dX11_call_102 rfl ?_
  refine am_iload dX11_call_103 rfl ?_
  refine am_iast (a := i) dX11_call_105 (hG.m0 (by decide)) rfl rfl (show i < 4 from (by omega)) (show 4 < 2 ^ 31 by decide) ?_
  refine am_aload_n dX11_call_106 rfl ?_
  refine am_get (v := .inr (0, 86)) dX11_call_107 fl_11_78 (hG.m0 (by decide)) rfl ?_
  refine am_iload_n dX11_call_110 rfl ?_
  refine am_iload dX11_call_111 rfl ?_
  refine am_iast (a := i) dX11_call_113 (hG.m0 (by decide)) rfl rfl (show i < 4 from (by omega)) (show 4 < 2 ^ 31 by decide) ?_
  refine am_aload_n dX11_call_114 rfl ?_
  refine am_get (v := .inr (0, 87)) dX11_call_115 fl_11_81 (hG.m0 (by decide)) rfl ?_
  refine am_iload_n dX11_call_118 rfl ?_
  refine am_iconst (v := nI 1) dX11_call_119 (by decide) ?_
  refine am_iast (a := i) dX11_call_120 (hG.m0 (by decide)) rfl rfl (show i < 4 from (by omega)) (show 4 < 2 ^ 31 by decide) ?_
  refine am_aload_n dX11_call_121 rfl ?_
  refine am_get (v := .inr (0, 88)) dX11_call_122 fl_11_84 (hG.m0 (by decide)) rfl ?_
  refine am_iload_n dX11_call_125 rfl ?_
  refine am_iconst (v := nI 0) dX11_call_126 (by decide) ?_
  refine am_iast (a := i) dX11_call_127 (hG.m0 (by decide)) rfl rfl (show i < 4 from (by omega)) (show 4 < 2 ^ 31 by decide) ?_
  refine am_aload_n dX11_call_128 rfl ?_
  refine am_get (v := .inr (0, 89)) dX11_call_129 fl_11_87 (hG.m0 (by decide)) rfl ?_
  refine am_iload_n dX11_call_132 rfl ?_
  refine am_aload_n dX11_call_133 rfl ?_
  refine am_get (v := .inl ((am_up (am_up (am_up (am_up (am_up (am_up (am_up I1 0 82 i (nI 11)) 0 83 i (nI a)) 0 84 i b) 0 85 i c) 0 86 i e) 0 87 i (nI 1)) 0 88 i (nI 0)) 0 60 2)) dX11_call_134 fl_11_194 (hG.m0 (by decide)) rfl ?_
  refine am_top (show (am_up (am_up (am_up (am_up (am_up (am_up (am_up I1 0 82 i (nI 11)) 0 83 i (nI a)) 0 84 i b) 0 85 i c) 0 86 i e) 0 87 i (nI 1)) 0 88 i (nI 0)) 0 60 2 = nI 0 from (by simp [am_up, am_upf, upd, hI, am_fr, am_dk, hi, hI1])) ?_
  refine am_iast (a := i) dX11_call_137 (hG.m0 (by decide)) rfl rfl (show i < 4 from (by omega)) (show 4 < 2 ^ 31 by decide) ?_
  refine am_aload_n dX11_call_138 rfl ?_
  refine am_get (v := .inr (0, 90)) dX11_call_139 fl_11_90 (hG.m0 (by decide)) rfl ?_
  refine am_iload_n dX11_call_142 rfl ?_
  refine am_iconst (v := nI 0) dX11_call_143 (by decide) ?_
  refine am_iast (a := i) dX11_call_144 (hG.m0 (by decide)) rfl rfl (show i < 4 from (by omega)) (show 4 < 2 ^ 31 by decide) ?_
  refine am_aload_n dX11_call_145 rfl ?_
  refine am_get (v := .inr (0, 91)) dX11_call_146 fl_11_93 (hG.m0 (by decide)) rfl ?_
  refine am_iload_n dX11_call_149 rfl ?_
  refine am_iconst (v := nI 0) dX11_call_150 (by decide) ?_
  refine am_iast (a := i) dX11_call_151 (hG.m0 (by decide)) rfl rfl (show i < 4 from (by omega)) (show 4 < 2 ^ 31 by decide) ?_
  refine am_aload_n dX11_call_152 rfl ?_
  refine am_get (v := .inr (0, 92)) dX11_call_153 fl_11_96 (hG.m0 (by decide)) rfl ?_
  refine am_iload_n dX11_call_156 rfl ?_
  refine am_iconst (v := nI 0) dX11_call_157 (by decide) ?_
  refine am_iast (a := i) dX11_call_158 (hG.m0 (by decide)) rfl rfl (show i < 4 from (by omega)) (show 4 < 2 ^ 31 by decide) ?_
  refine am_aload_n dX11_call_159 rfl ?_
  refine am_get (v := .inr (0, 93)) dX11_call_160 fl_11_99 (hG.m0 (by decide)) rfl ?_
  refine am_iload_n dX11_call_163 rfl ?_
  refine am_iconst (v := nI 0) dX11_call_164 (by decide) ?_
  refine am_zast (a := i) dX11_call_165 (hG.m0 (by decide)) rfl (by decide) rfl (show i < 4 from (by omega)) (show 4 < 2 ^ 31 by decide) ?_
  refine am_iconst (v := nI 0) dX11_call_166 (by decide) ?_
  refine am_istore dX11_call_167 (by decide) ?_
  refine K _ (fun k hk => by simp [am_up, am_upf, upd, hI, am_fr, hI1]) ?_ 136 0 (by omega)
  refine am_aload_n dX11_call_195 rfl ?_
  refine am_iload_n dX11_call_196 rfl ?_
  refine am_callVv (i := 0) (j := 60) (as := [.inl (nI i)]) (rest := []) dX11_call_197 lkX11_goOn ml_X11_212 imX11_goOn seX11_goOn rfl rfl (hG.m0 (by decide)) rfl (Nat.le_of_ble_eq_true rfl) rfl (c_MgoOn11 (a := a) hG hi (by omega) (am_up (am_up (am_up (am_up (am_up (am_up (am_up (am_up (am_up (am_up (am_up (am_up I1 0 82 i (nI 11)) 0 83 i (nI a)) 0 84 i b) 0 85 i c) 0 86 i e) 0 87 i (nI 1)) 0 88 i (nI 0)) 0 89 i (nI 0)) 0 90 i (nI 0)) 0 91 i (nI 0)) 0 92 i (nI 0)) 0 93 i (nI 0)) (fun k hk => by simp [am_up, am_upf, upd, hI, am_fr, hI1]) (fun k hk => by simp [am_up, am_upf, upd, hI, am_fr, hI1]) (fun x hx => by simp [am_up, am_upf, upd, hI, am_fr, hx, hI1]) (fun x hx => by simp [am_up, am_upf, upd, hI, am_fr, hx, hI1]) (fun f t => by simp [am_up, am_upf, upd, hI, am_fr, hI1]) (fun f t => by simp [am_up, am_upf, upd, hI, am_fr, hI1]) (by simp [am_up, am_upf, upd, hI, am_fr, am_dk, hi, hI1]) (by simp [am_up, am_upf, upd, hI, am_fr, am_dk, hi, hI1]) (by simp [am_up, am_upf, upd, hI, am_fr, am_dk, hi, hI1]) (by simp [am_up, am_upf, upd, hI, am_fr, am_dk, hi, hI1]) (by simp [am_up, am_upf, upd, hI, am_fr, am_dk, hi, hI1]) (by simp [am_up, am_upf, upd, hI, am_fr, am_dk, hi, hI1]) (by simp [am_up, am_upf, upd, hI, am_fr, am_dk, hi, hI1]) (by simp [am_up, am_upf, upd, hI, am_fr, am_dk, hi, hI1]) (by simp [am_up, am_upf, upd, hI, am_fr, am_dk, hi, hI1]) (by simp [am_up, am_upf, upd, hI, am_fr, am_dk, hi, hI1]) (by simp [am_up, am_upf, upd, hI, am_fr, am_dk, hi, hI1]) (by simp [am_up, am_upf, upd, hI, am_fr, am_dk, hi, hI1]) (by simp [am_up, am_upf, upd, hI, am_fr, am_dk, hi, hI1]) (by simp [am_up, am_upf, upd, hI, am_fr, am_dk, hi, hI1]) (by simp [am_up, am_upf, upd, hI, am_fr, am_dk, hi, hI1])) rfl (fun I9 hq => ?_)
  have hst9 := hq.2.1
  have hth9 := hq.2.2
  refine am_nm (fun I2 hI2 => ?_)
  refine am_aload_n dX11_call_200 rfl ?_
  refine am_get (v := .inr (0, 87)) dX11_call_201 fl_11_81 (hG.m0 (by decide)) rfl ?_
  refine am_iload_n dX11_call_204 rfl ?_
  refine am_iald (a := i) dX11_call_205 (hG.m0 (by decide)) rfl rfl (show i < 4 from (by omega)) (show 4 < 2 ^ 31 by decide) ?_
  refine am_top (show I2 0 87 i = nI 1 from (by simp [am_up, am_upf, upd, hI, am_fr, am_dk, hi, hI1, hst9, hth9, hI2])) ?_
  refine am_iconst (v := nI 1) dX11_call_206 (by decide) ?_
  refine am_icmp_ne (tgt := 214) dX11_call_207 (by decide) (fun h => absurd h (by decide)) (fun _ => ?_)
  refine am_iconst (v := nI 0) dX11_call_210 (by decide) ?_
  refine am_goto (tgt := 215) dX11_call_211 (by decide) ?_
  refine am_iret dX11_call_215 rfl rfl ?_
  exact ⟨rfl, (by simp [am_up, am_upf, upd, hI, am_fr, am_dk, hi, hI1, hst9, hth9, hI2])⟩
theorem m_call12 {G : am_G} (hG : am_okM G) {d : Nat} {i : Nat} (hi : i < G.2.2.2.1) {a : Nat} (hab : a < 128) (b c e : Int32) (hP : 0 ≤ (nI a).toInt ∧ (nI a).toInt < 128) {I : am_I} (hI : I = am_fr G.2.2.2.1)  : am_C G (d + 7) mX11_call [.inr (0, 60), .inl (nI i), .inl (nI 12), .inl (nI a), .inl b, .inl c, .inl e] I (fun rr J => rr = some (nI 0) ∧ J 0 60 0 = nI 0) := by
  have hn4 := hG.hi
  have hn2 := hG.lo
  have K : ∀ (X : am_I) (_ : ∀ k, k < 544 → X 0 81 k = nI 0) (_ : am_J G (d + 7) mX11_call am_no (fun rr J => rr = some (nI 0) ∧ J 0 60 0 = nI 0) 195 [some (.inr (0, 60)), some (.inl (nI i)), some (.inl (nI 12)), some (.inl (nI a)), some (.inl b), some (.inl c), some (.inl e), some (.inl (nI 1)), some (.inl (nI 136))] [] X) (m r : Nat), r + m = 136 → am_J G (d + 7) mX11_call am_no (fun rr J => rr = some (nI 0) ∧ J 0 60 0 = nI 0) 169 [some (.inr (0, 60)), some (.inl (nI i)), some (.inl (nI 12)), some (.inl (nI a)), some (.inl b), some (.inl c), some (.inl e), some (.inl (nI 1)), some (.inl (nI r))] [] X := by
    intro X hX hk m
    induction m with
    | zero =>
      intro r ha
      obtain rfl : r = 136 := by omega
      refine am_iload dX11_call_169 rfl ?_
      refine am_sipush (v := nI 136) dX11_call_171 (by decide) ?_
      refine am_icmp_ge (tgt := 195) dX11_call_174 (by decide) (fun _ => ?_) (fun h => absurd ((nI_leI (a := 136) (b := 136) (by omega) (by omega)).mpr (by omega)) h)
      exact hk
    | succ m ih =>
      intro r ha
      refine am_iload dX11_call_169 rfl ?_
      refine am_sipush (v := nI 136) dX11_call_171 (by decide) ?_
      refine am_icmp_ge (tgt := 195) dX11_call_174 (by decide) (fun h => absurd ((nI_leI (a := 136) (b := r) (by omega) (by omega)).mp h) (by omega)) (fun _ => ?_)
      refine am_aload_n dX11_call_177 rfl ?_
      refine am_get (v := .inr (0, 81)) dX11_call_178 fl_11_63 (hG.m0 (by decide)) rfl ?_
      refine am_iload_n dX11_call_181 rfl ?_
      refine am_iload dX11_call_182 rfl ?_
      refine am_callSx (as := [.inl (nI i), .inl (nI r)]) (rest := [.inr (0, 81)]) dX11_call_184 lkX11_at ml_X11_208 isX11_at rfl (Nat.le_of_ble_eq_true rfl) rfl (c_Mat hG.nd (g := i) (r := r) (by omega) (by omega) X) ?_
      refine am_iconst (v := nI 0) dX11_call_187 (by decide) ?_
      refine am_iast (a := 136 * i + r) dX11_call_188 (hG.m0 (by decide)) rfl rfl (show 136 * i + r < 544 from (by omega)) (show 544 < 2 ^ 31 by decide) ?_
      rw [am_up_id (hX _ (by omega))]
      refine am_iinc (v := nI (r + 1)) dX11_call_189 rfl (nI_add _ _) ?_
      refine am_goto (tgt := 169) dX11_call_192 (by decide) ?_
      exact ih (r + 1) (by omega)
  refine am_of (by decide +kernel) hG.nd (Nat.le_of_ble_eq_true rfl) ?_
  refine am_aload_n dX11_call_0 rfl ?_
  refine am_iload_n dX11_call_1 rfl ?_
  refine am_callVx (i := 0) (j := 60) (as := [.inl (nI i)]) (rest := []) dX11_call_2 lkX11_isNode ml_X11_434 imX11_isNode seX11_isNode rfl rfl (hG.m0 (by decide)) rfl (Nat.le_of_ble_eq_true rfl) rfl (c_MisNodeY hG hi (by simp [am_up, am_upf, upd, hI, am_fr, am_dk, hi])) ?_
  refine am_if_eq (tgt := 26) dX11_call_5 (by decide) (fun h => absurd h (by decide)) (fun _ => ?_)
  refine am_iload_n dX11_call_8 rfl ?_
  refine am_iload_n dX11_call_9 rfl ?_
  refine am_iload dX11_call_10 rfl ?_
  refine am_iload dX11_call_12 rfl ?_
  refine am_iload dX11_call_14 rfl ?_
  refine am_callSx (as := [.inl (nI 12), .inl (nI a), .inl b, .inl c, .inl e]) (rest := []) dX11_call_16 lkX11_isGiven ml_X11_437 isX11_isGiven rfl (Nat.le_of_ble_eq_true rfl) rfl (c_isGiven12 hG.nd (nI a) b c e I) ?_
  refine am_if_eq (tgt := 26) dX11_call_19 (by decide) (fun h => absurd h ((am_bn _).mpr (decide_eq_true hP))) (fun _ => ?_)
  refine am_iconst (v := nI 1) dX11_call_22 (by decide) ?_
  refine am_goto (tgt := 27) dX11_call_23 (by decide) ?_
  refine am_istore dX11_call_27 (by decide) ?_
  refine am_aload_n dX11_call_29 rfl ?_
  refine am_iload dX11_call_30 rfl ?_
  refine am_if_ne (tgt := 39) dX11_call_32 (by decide) (fun _ => ?_) (fun h => absurd h (by decide))
  refine am_iconst (v := nI 0) dX11_call_39 (by decide) ?_
  refine am_iload dX11_call_40 rfl ?_
  refine am_if_eq (tgt := 66) dX11_call_42 (by decide) (fun h => absurd h (by decide)) (fun _ => ?_)
  refine am_aload_n dX11_call_45 rfl ?_
  refine am_get (v := .inr (0, 65)) dX11_call_46 fl_11_13 (hG.m0 (by decide)) rfl ?_
  refine am_iload_n dX11_call_49 rfl ?_
  refine am_zald (a := i) dX11_call_50 (hG.m0 (by decide)) rfl rfl (show i < 4 from (by omega)) (show 4 < 2 ^ 31 by decide) ?_
  refine am_top (show I 0 65 i = nI 1 from (by simp [am_up, am_upf, upd, hI, am_fr, am_dk, hi])) ?_
  refine am_if_eq (tgt := 62) dX11_call_51 (by decide) (fun h => absurd h (by decide)) (fun _ => ?_)
  refine am_aload_n dX11_call_54 rfl ?_
  refine am_iload_n dX11_call_55 rfl ?_
  refine am_callVx (i := 0) (j := 60) (as := [.inl (nI i)]) (rest := [.inl (nI 0), .inr (0, 60)]) dX11_call_56 lkX11_isCalling ml_X11_264 imX11_isCalling seX11_isCalling rfl rfl (hG.m0 (by decide)) rfl (Nat.le_of_ble_eq_true rfl) rfl (c_MisCalling0 hG hi I (by simp [am_up, am_upf, upd, hI, am_fr, am_dk, hi])) ?_
  refine am_if_eq (tgt := 66) dX11_call_59 (by decide) (fun _ => ?_) (fun h => absurd h (by decide))
  refine am_iconst (v := nI 0) dX11_call_66 (by decide) ?_
  refine am_iconst (v := nI 0) dX11_call_67 (by decide) ?_
  refine am_callVx (i := 0) (j := 60) (as := [.inl (nI 0), .inl (nI 0), .inl (nI 0)]) (rest := []) dX11_call_68 lkX11_refuse ml_X11_441 imX11_refuse seX11_refuse rfl rfl (hG.m0 (by decide)) rfl (Nat.le_of_ble_eq_true rfl) rfl (c_refuse000 hG I) ?_
  refine am_nm (fun I1 hI1 => ?_)
  refine am_if_eq (tgt := 76) dX11_call_71 (by decide) (fun _ => ?_) (fun h => absurd h (by decide))
  refine am_aload_n dX11_call_76 rfl ?_
  refine am_get (v := .inr (0, 82)) dX11_call_77 fl_11_66 (hG.m0 (by decide)) rfl ?_
  refine am_iload_n dX11_call_80 rfl ?_
  refine am_iload_n dX11_call_81 rfl ?_
  refine am_iast (a := i) dX11_call_82 (hG.m0 (by decide)) rfl rfl (show i < 4 from (by omega)) (show 4 < 2 ^ 31 by decide) ?_
  refine am_aload_n dX11_call_83 rfl ?_
  refine am_get (v := .inr (0, 83)) dX11_call_84 fl_11_69 (hG.m0 (by decide)) rfl ?_
  refine am_iload_n dX11_call_87 rfl ?_
  refine am_iload_n dX11_call_88 rfl ?_
  refine am_iast (a := i) dX11_call_89 (hG.m0 (by decide)) rfl rfl (show i < 4 from (by omega)) (show 4 < 2 ^ 31 by decide) ?_
  refine am_aload_n dX11_call_90 rfl ?_
  refine am_get (v := .inr (0, 84)) dX11_call_91 fl_11_72 (hG.m0 (by decide)) rfl ?_
  refine am_iload_n dX11_call_94 rfl ?_
  refine am_iload dX11_call_95 rfl ?_
  refine am_iast (a := i) dX11_call_97 (hG.m0 (by decide)) rfl rfl (show i < 4 from (by omega)) (show 4 < 2 ^ 31 by decide) ?_
  refine am_aload_n dX11_call_98 rfl ?_
  refine am_get (v := .inr (0, 85)) dX11_call_99 fl_11_75 (hG.m0 (by decide)) rfl ?_
  refine am_iload_n dX11_call_102 rfl ?_
  refine am_iload dX11_call_103 rfl ?_
  refine am_iast (a := i) dX11_call_105 (hG.m0 (by decide)) rfl rfl (show i < 4 from (by omega)) (show 4 < 2 ^ 31 by decide) ?_
  refine am_aload_n dX11_call_106 rfl ?_
  refine am_get (v := .inr (0, 86)) dX11_call_107 fl_11_78 (hG.m0 (by decide)) rfl ?_
  refine am_iload_n dX11_call_110 rfl ?_
  refine am_iload dX11_call_111 rfl ?_
  refine am_iast (a := i) dX11_call_113 (hG.m0 (by decide)) rfl rfl (show i < 4 from (by omega)) (show 4 < 2 ^ 31 by decide) ?_
  refine am_aload_n dX11_call_114 rfl ?_
  refine am_get (v := .inr (0, 87)) dX11_call_115 fl_11_81 (hG.m0 (by decide)) rfl ?_
  refine am_iload_n dX11_call_118 rfl ?_
  refine am_iconst (v := nI 1) dX11_call_119 (by decide) ?_
  refine am_iast (a := i) dX11_call_120 (hG.m0 (by decide)) rfl rfl (show i < 4 from (by omega)) (show 4 < 2 ^ 31 by decide) ?_
  refine am_aload_n dX11_call_121 rfl ?_
  refine am_get (v := .inr (0, 88)) dX11_call_122 fl_11_84 (hG.m0 (by decide)) rfl ?_
  refine am_iload_n dX11_call_125 rfl ?_
  refine am_iconst (v := nI 0) dX11_call_126 (by decide) ?_
  refine am_iast (a := i) dX11_call_127 (hG.m0 (by decide)) rfl rfl (show i < 4 from (by omega)) (show 4 < 2 ^ 31 by decide) ?_
  refine am_aload_n dX11_call_128 rfl ?_
  refine am_get (v := .inr (0, 89)) dX11_call_129 fl_11_87 (hG.m0 (by decide)) rfl ?_
  refine am_iload_n dX11_call_132 rfl ?_
  refine am_aload_n dX11_call_133 rfl ?_
  refine am_get (v := .inl ((am_up (am_up (am_up (am_up (am_up (am_up (am_up I1 0 82 i (nI 12)) 0 83 i (nI a)) 0 84 i b) 0 85 i c) 0 86 i e) 0 87 i (nI 1)) 0 88 i (nI 0)) 0 60 2)) dX11_call_134 fl_11_194 (hG.m0 (by decide)) rfl ?_
  refine am_top (show (am_up (am_up (am_up (am_up (am_up (am_up (am_up I1 0 82 i (nI 12)) 0 83 i (nI a)) 0 84 i b) 0 85 i c) 0 86 i e) 0 87 i (nI 1)) 0 88 i (nI 0)) 0 60 2 = nI 0 from (by simp [am_up, am_upf, upd, hI, am_fr, am_dk, hi, hI1])) ?_
  refine am_iast (a := i) dX11_call_137 (hG.m0 (by decide)) rfl rfl (show i < 4 from (by omega)) (show 4 < 2 ^ 31 by decide) ?_
  refine am_aload_n dX11_call_138 rfl ?_
  refine am_get (v := .inr (0, 90)) dX11_call_139 fl_11_90 (hG.m0 (by decide)) rfl ?_
  refine am_iload_n dX11_call_142 rfl ?_
  refine am_iconst (v := nI 0) dX11_call_143 (by decide) ?_
  refine am_iast (a := i) dX11_call_144 (hG.m0 (by decide)) rfl rfl (show i < 4 from (by omega)) (show 4 < 2 ^ 31 by decide) ?_
  refine am_aload_n dX11_call_145 rfl ?_
  refine am_get (v := .inr (0, 91)) dX11_call_146 fl_11_93 (hG.m0 (by decide)) rfl ?_
  refine am_iload_n dX11_call_149 rfl ?_
  refine am_iconst (v := nI 0) dX11_call_150 (by decide) ?_
  refine am_iast (a := i) dX11_call_151 (hG.m0 (by decide)) rfl rfl (show i < 4 from (by omega)) (show 4 < 2 ^ 31 by decide) ?_
  refine am_aload_n dX11_call_152 rfl ?_
  refine am_get (v := .inr (0, 92)) dX11_call_153 fl_11_96 (hG.m0 (by decide)) rfl ?_
  refine am_iload_n dX11_call_156 rfl ?_
  refine am_iconst (v := nI 0) dX11_call_157 (by decide) ?_
  refine am_iast (a := i) dX11_call_158 (hG.m0 (by decide)) rfl rfl (show i < 4 from (by omega)) (show 4 < 2 ^ 31 by decide) ?_
  refine am_aload_n dX11_call_159 rfl ?_
  refine am_get (v := .inr (0, 93)) dX11_call_160 fl_11_99 (hG.m0 (by decide)) rfl ?_
  refine am_iload_n dX11_call_163 rfl ?_
  refine am_iconst (v := nI 0) dX11_call_164 (by decide) ?_
  refine am_zast (a := i) dX11_call_165 (hG.m0 (by decide)) rfl (by decide) rfl (show i < 4 from (by omega)) (show 4 < 2 ^ 31 by decide) ?_
  refine am_iconst (v := nI 0) dX11_call_166 (by decide) ?_
  refine am_istore dX11_call_167 (by decide) ?_
  refine K _ (fun k hk => by simp [am_up, am_upf, upd, hI, am_fr, hI1]) ?_ 136 0 (by omega)
  refine am_aload_n dX11_call_195 rfl ?_
  refine am_iload_n dX11_call_196 rfl ?_
  refine am_callVv (i := 0) (j := 60) (as := [.inl (nI i)]) (rest := []) dX11_call_197 lkX11_goOn ml_X11_212 imX11_goOn seX11_goOn rfl rfl (hG.m0 (by decide)) rfl (Nat.le_of_ble_eq_true rfl) rfl (c_MgoOn12 (a := a) hG hi (by omega) (am_up (am_up (am_up (am_up (am_up (am_up (am_up (am_up (am_up (am_up (am_up (am_up I1 0 82 i (nI 12)) 0 83 i (nI a)) 0 84 i b) 0 85 i c) 0 86 i e) 0 87 i (nI 1)) 0 88 i (nI 0)) 0 89 i (nI 0)) 0 90 i (nI 0)) 0 91 i (nI 0)) 0 92 i (nI 0)) 0 93 i (nI 0)) (fun k hk => by simp [am_up, am_upf, upd, hI, am_fr, hI1]) (fun k hk => by simp [am_up, am_upf, upd, hI, am_fr, hI1]) (fun x hx => by simp [am_up, am_upf, upd, hI, am_fr, hx, hI1]) (fun x hx => by simp [am_up, am_upf, upd, hI, am_fr, hx, hI1]) (fun f t => by simp [am_up, am_upf, upd, hI, am_fr, hI1]) (fun f t => by simp [am_up, am_upf, upd, hI, am_fr, hI1]) (by simp [am_up, am_upf, upd, hI, am_fr, am_dk, hi, hI1]) (by simp [am_up, am_upf, upd, hI, am_fr, am_dk, hi, hI1]) (by simp [am_up, am_upf, upd, hI, am_fr, am_dk, hi, hI1]) (by simp [am_up, am_upf, upd, hI, am_fr, am_dk, hi, hI1]) (by simp [am_up, am_upf, upd, hI, am_fr, am_dk, hi, hI1]) (by simp [am_up, am_upf, upd, hI, am_fr, am_dk, hi, hI1]) (by simp [am_up, am_upf, upd, hI, am_fr, am_dk, hi, hI1]) (by simp [am_up, am_upf, upd, hI, am_fr, am_dk, hi, hI1]) (by simp [am_up, am_upf, upd, hI, am_fr, am_dk, hi, hI1]) (by simp [am_up, am_upf, upd, hI, am_fr, am_dk, hi, hI1]) (by simp [am_up, am_upf, upd, hI, am_fr, am_dk, hi, hI1]) (by simp [am_up, am_upf, upd, hI, am_fr, am_dk, hi, hI1]) (by simp [am_up, am_upf, upd, hI, am_fr, am_dk, hi, hI1]) (by simp [am_up, am_upf, upd, hI, am_fr, am_dk, hi, hI1]) (by simp [am_up, am_upf, upd, hI, am_fr, am_dk, hi, hI1])) rfl (fun I9 hq => ?_)
  have hst9 := hq.2.1
  have hth9 := hq.2.2
  refine am_nm (fun I2 hI2 => ?_)
  refine am_aload_n dX11_call_200 rfl ?_
  refine am_get (v := .inr (0, 87)) dX11_call_201 fl_11_81 (hG.m0 (by decide)) rfl ?_
  refine am_iload_n dX11_call_204 rfl ?_
  refine am_iald (a := i) dX11_call_205 (hG.m0 (by decide)) rfl rfl (show i < 4 from (by omega)) (show 4 < 2 ^ 31 by decide) ?_
  refine am_top (show I2 0 87 i = nI 1 from (by simp [am_up, am_upf, upd, hI, am_fr, am_dk, hi, hI1, hst9, hth9, hI2])) ?_
  refine am_iconst (v := nI 1) dX11_call_206 (by decide) ?_
  refine am_icmp_ne (tgt := 214) dX11_call_207 (by decide) (fun h => absurd h (by decide)) (fun _ => ?_)
  refine am_iconst (v := nI 0) dX11_call_210 (by decide) ?_
  refine am_goto (tgt := 215) dX11_call_211 (by decide) ?_
  refine am_iret dX11_call_215 rfl rfl ?_
  exact ⟨rfl, (by simp [am_up, am_upf, upd, hI, am_fr, am_dk, hi, hI1, hst9, hth9, hI2])⟩
theorem m_call13 {G : am_G} (hG : am_okM G) {d : Nat} {i : Nat} (hi : i < G.2.2.2.1) {a : Nat} (hab : a < 128) (b c e : Int32) (hP : 0 ≤ (nI a).toInt ∧ (nI a).toInt < 128) {I : am_I} (hI : I = am_fr G.2.2.2.1)  : am_C G (d + 7) mX11_call [.inr (0, 60), .inl (nI i), .inl (nI 13), .inl (nI a), .inl b, .inl c, .inl e] I (fun rr J => rr = some (nI 0) ∧ J 0 60 0 = nI 0) := by
  have hn4 := hG.hi
  have hn2 := hG.lo
  have K : ∀ (X : am_I) (_ : ∀ k, k < 544 → X 0 81 k = nI 0) (_ : am_J G (d + 7) mX11_call am_no (fun rr J => rr = some (nI 0) ∧ J 0 60 0 = nI 0) 195 [some (.inr (0, 60)), some (.inl (nI i)), some (.inl (nI 13)), some (.inl (nI a)), some (.inl b), some (.inl c), some (.inl e), some (.inl (nI 1)), some (.inl (nI 136))] [] X) (m r : Nat), r + m = 136 → am_J G (d + 7) mX11_call am_no (fun rr J => rr = some (nI 0) ∧ J 0 60 0 = nI 0) 169 [some (.inr (0, 60)), some (.inl (nI i)), some (.inl (nI 13)), some (.inl (nI a)), some (.inl b), some (.inl c), some (.inl e), some (.inl (nI 1)), some (.inl (nI r))] [] X := by
    intro X hX hk m
    induction m with
    | zero =>
      intro r ha
      obtain rfl : r = 136 := by omega
      refine am_iload dX11_call_169 rfl ?_
      refine am_sipush (v := nI 136) dX11_call_171 (by decide) ?_
      refine am_icmp_ge (tgt := 195) dX11_call_174 (by decide) (fun _ => ?_) (fun h => absurd ((nI_leI (a := 136) (b := 136) (by omega) (by omega)).mpr (by omega)) h)
      exact hk
    | succ m ih =>
      intro r ha
      refine am_iload dX11_call_169 rfl ?_
      refine am_sipush (v := nI 136) dX11_call_171 (by decide) ?_
      refine am_icmp_ge (tgt := 195) dX11_call_174 (by decide) (fun h => absurd ((nI_leI (a := 136) (b := r) (by omega) (by omega)).mp h) (by omega)) (fun _ => ?_)
      refine am_aload_n dX11_call_177 rfl ?_
      refine am_get (v := .inr (0, 81)) dX11_call_178 fl_11_63 (hG.m0 (by decide)) rfl ?_
      refine am_iload_n dX11_call_181 rfl ?_
      refine am_iload dX11_call_182 rfl ?_
      refine am_callSx (as := [.inl (nI i), .inl (nI r)]) (rest := [.inr (0, 81)]) dX11_call_184 lkX11_at ml_X11_208 isX11_at rfl (Nat.le_of_ble_eq_true rfl) rfl (c_Mat hG.nd (g := i) (r := r) (by omega) (by omega) X) ?_
      refine am_iconst (v := nI 0) dX11_call_187 (by decide) ?_
      refine am_iast (a := 136 * i + r) dX11_call_188 (hG.m0 (by decide)) rfl rfl (show 136 * i + r < 544 from (by omega)) (show 544 < 2 ^ 31 by decide) ?_
      rw [am_up_id (hX _ (by omega))]
      refine am_iinc (v := nI (r + 1)) dX11_call_189 rfl (nI_add _ _) ?_
      refine am_goto (tgt := 169) dX11_call_192 (by decide) ?_
      exact ih (r + 1) (by omega)
  refine am_of (by decide +kernel) hG.nd (Nat.le_of_ble_eq_true rfl) ?_
  refine am_aload_n dX11_call_0 rfl ?_
  refine am_iload_n dX11_call_1 rfl ?_
  refine am_callVx (i := 0) (j := 60) (as := [.inl (nI i)]) (rest := []) dX11_call_2 lkX11_isNode ml_X11_434 imX11_isNode seX11_isNode rfl rfl (hG.m0 (by decide)) rfl (Nat.le_of_ble_eq_true rfl) rfl (c_MisNodeY hG hi (by simp [am_up, am_upf, upd, hI, am_fr, am_dk, hi])) ?_
  refine am_if_eq (tgt := 26) dX11_call_5 (by decide) (fun h => absurd h (by decide)) (fun _ => ?_)
  refine am_iload_n dX11_call_8 rfl ?_
  refine am_iload_n dX11_call_9 rfl ?_
  refine am_iload dX11_call_10 rfl ?_
  refine am_iload dX11_call_12 rfl ?_
  refine am_iload dX11_call_14 rfl ?_
  refine am_callSx (as := [.inl (nI 13), .inl (nI a), .inl b, .inl c, .inl e]) (rest := []) dX11_call_16 lkX11_isGiven ml_X11_437 isX11_isGiven rfl (Nat.le_of_ble_eq_true rfl) rfl (c_isGiven13 hG.nd (nI a) b c e I) ?_
  refine am_if_eq (tgt := 26) dX11_call_19 (by decide) (fun h => absurd h ((am_bn _).mpr (decide_eq_true hP))) (fun _ => ?_)
  refine am_iconst (v := nI 1) dX11_call_22 (by decide) ?_
  refine am_goto (tgt := 27) dX11_call_23 (by decide) ?_
  refine am_istore dX11_call_27 (by decide) ?_
  refine am_aload_n dX11_call_29 rfl ?_
  refine am_iload dX11_call_30 rfl ?_
  refine am_if_ne (tgt := 39) dX11_call_32 (by decide) (fun _ => ?_) (fun h => absurd h (by decide))
  refine am_iconst (v := nI 0) dX11_call_39 (by decide) ?_
  refine am_iload dX11_call_40 rfl ?_
  refine am_if_eq (tgt := 66) dX11_call_42 (by decide) (fun h => absurd h (by decide)) (fun _ => ?_)
  refine am_aload_n dX11_call_45 rfl ?_
  refine am_get (v := .inr (0, 65)) dX11_call_46 fl_11_13 (hG.m0 (by decide)) rfl ?_
  refine am_iload_n dX11_call_49 rfl ?_
  refine am_zald (a := i) dX11_call_50 (hG.m0 (by decide)) rfl rfl (show i < 4 from (by omega)) (show 4 < 2 ^ 31 by decide) ?_
  refine am_top (show I 0 65 i = nI 1 from (by simp [am_up, am_upf, upd, hI, am_fr, am_dk, hi])) ?_
  refine am_if_eq (tgt := 62) dX11_call_51 (by decide) (fun h => absurd h (by decide)) (fun _ => ?_)
  refine am_aload_n dX11_call_54 rfl ?_
  refine am_iload_n dX11_call_55 rfl ?_
  refine am_callVx (i := 0) (j := 60) (as := [.inl (nI i)]) (rest := [.inl (nI 0), .inr (0, 60)]) dX11_call_56 lkX11_isCalling ml_X11_264 imX11_isCalling seX11_isCalling rfl rfl (hG.m0 (by decide)) rfl (Nat.le_of_ble_eq_true rfl) rfl (c_MisCalling0 hG hi I (by simp [am_up, am_upf, upd, hI, am_fr, am_dk, hi])) ?_
  refine am_if_eq (tgt := 66) dX11_call_59 (by decide) (fun _ => ?_) (fun h => absurd h (by decide))
  refine am_iconst (v := nI 0) dX11_call_66 (by decide) ?_
  refine am_iconst (v := nI 0) dX11_call_67 (by decide) ?_
  refine am_callVx (i := 0) (j := 60) (as := [.inl (nI 0), .inl (nI 0), .inl (nI 0)]) (rest := []) dX11_call_68 lkX11_refuse ml_X11_441 imX11_refuse seX11_refuse rfl rfl (hG.m0 (by decide)) rfl (Nat.le_of_ble_eq_true rfl) rfl (c_refuse000 hG I) ?_
  refine am_nm (fun I1 hI1 => ?_)
  refine am_if_eq (tgt := 76) dX11_call_71 (by decide) (fun _ => ?_) (fun h => absurd h (by decide))
  refine am_aload_n dX11_call_76 rfl ?_
  refine am_get (v := .inr (0, 82)) dX11_call_77 fl_11_66 (hG.m0 (by decide)) rfl ?_
  refine am_iload_n dX11_call_80 rfl ?_
  refine am_iload_n dX11_call_81 rfl ?_
  refine am_iast (a := i) dX11_call_82 (hG.m0 (by decide)) rfl rfl (show i < 4 from (by omega)) (show 4 < 2 ^ 31 by decide) ?_
  refine am_aload_n dX11_call_83 rfl ?_
  refine am_get (v := .inr (0, 83)) dX11_call_84 fl_11_69 (hG.m0 (by decide)) rfl ?_
  refine am_iload_n dX11_call_87 rfl ?_
  refine am_iload_n dX11_call_88 rfl ?_
  refine am_iast (a := i) dX11_call_89 (hG.m0 (by decide)) rfl rfl (show i < 4 from (by omega)) (show 4 < 2 ^ 31 by decide) ?_
  refine am_aload_n dX11_call_90 rfl ?_
  refine am_get (v := .inr (0, 84)) dX11_call_91 fl_11_72 (hG.m0 (by decide)) rfl ?_
  refine am_iload_n dX11_call_94 rfl ?_
  refine am_iload dX11_call_95 rfl ?_
  refine am_iast (a := i) dX11_call_97 (hG.m0 (by decide)) rfl rfl (show i < 4 from (by omega)) (show 4 < 2 ^ 31 by decide) ?_
  refine am_aload_n dX11_call_98 rfl ?_
  refine am_get (v := .inr (0, 85)) dX11_call_99 fl_11_75 (hG.m0 (by decide)) rfl ?_
  refine am_iload_n dX11_call_102 rfl ?_
  refine am_iload dX11_call_103 rfl ?_
  refine am_iast (a := i) dX11_call_105 (hG.m0 (by decide)) rfl rfl (show i < 4 from (by omega)) (show 4 < 2 ^ 31 by decide) ?_
  refine am_aload_n dX11_call_106 rfl ?_
  refine am_get (v := .inr (0, 86)) dX11_call_107 fl_11_78 (hG.m0 (by decide)) rfl ?_
  refine am_iload_n dX11_call_110 rfl ?_
  refine am_iload dX11_call_111 rfl ?_
  refine am_iast (a := i) dX11_call_113 (hG.m0 (by decide)) rfl rfl (show i < 4 from (by omega)) (show 4 < 2 ^ 31 by decide) ?_
  refine am_aload_n dX11_call_114 rfl ?_
  refine am_get (v := .inr (0, 87)) dX11_call_115 fl_11_81 (hG.m0 (by decide)) rfl ?_
  refine am_iload_n dX11_call_118 rfl ?_
  refine am_iconst (v := nI 1) dX11_call_119 (by decide) ?_
  refine am_iast (a := i) dX11_call_120 (hG.m0 (by decide)) rfl rfl (show i < 4 from (by omega)) (show 4 < 2 ^ 31 by decide) ?_
  refine am_aload_n dX11_call_121 rfl ?_
  refine am_get (v := .inr (0, 88)) dX11_call_122 fl_11_84 (hG.m0 (by decide)) rfl ?_
  refine am_iload_n dX11_call_125 rfl ?_
  refine am_iconst (v := nI 0) dX11_call_126 (by decide) ?_
  refine am_iast (a := i) dX11_call_127 (hG.m0 (by decide)) rfl rfl (show i < 4 from (by omega)) (show 4 < 2 ^ 31 by decide) ?_
  refine am_aload_n dX11_call_128 rfl ?_
  refine am_get (v := .inr (0, 89)) dX11_call_129 fl_11_87 (hG.m0 (by decide)) rfl ?_
  refine am_iload_n dX11_call_132 rfl ?_
  refine am_aload_n dX11_call_133 rfl ?_
  refine am_get (v := .inl ((am_up (am_up (am_up (am_up (am_up (am_up (am_up I1 0 82 i (nI 13)) 0 83 i (nI a)) 0 84 i b) 0 85 i c) 0 86 i e) 0 87 i (nI 1)) 0 88 i (nI 0)) 0 60 2)) dX11_call_134 fl_11_194 (hG.m0 (by decide)) rfl ?_
  refine am_top (show (am_up (am_up (am_up (am_up (am_up (am_up (am_up I1 0 82 i (nI 13)) 0 83 i (nI a)) 0 84 i b) 0 85 i c) 0 86 i e) 0 87 i (nI 1)) 0 88 i (nI 0)) 0 60 2 = nI 0 from (by simp [am_up, am_upf, upd, hI, am_fr, am_dk, hi, hI1])) ?_
  refine am_iast (a := i) dX11_call_137 (hG.m0 (by decide)) rfl rfl (show i < 4 from (by omega)) (show 4 < 2 ^ 31 by decide) ?_
  refine am_aload_n dX11_call_138 rfl ?_
  refine am_get (v := .inr (0, 90)) dX11_call_139 fl_11_90 (hG.m0 (by decide)) rfl ?_
  refine am_iload_n dX11_call_142 rfl ?_
  refine am_iconst (v := nI 0) dX11_call_143 (by decide) ?_
  refine am_iast (a := i) dX11_call_144 (hG.m0 (by decide)) rfl rfl (show i < 4 from (by omega)) (show 4 < 2 ^ 31 by decide) ?_
  refine am_aload_n dX11_call_145 rfl ?_
  refine am_get (v := .inr (0, 91)) dX11_call_146 fl_11_93 (hG.m0 (by decide)) rfl ?_
  refine am_iload_n dX11_call_149 rfl ?_
  refine am_iconst (v := nI 0) dX11_call_150 (by decide) ?_
  refine am_iast (a := i) dX11_call_151 (hG.m0 (by decide)) rfl rfl (show i < 4 from (by omega)) (show 4 < 2 ^ 31 by decide) ?_
  refine am_aload_n dX11_call_152 rfl ?_
  refine am_get (v := .inr (0, 92)) dX11_call_153 fl_11_96 (hG.m0 (by decide)) rfl ?_
  refine am_iload_n dX11_call_156 rfl ?_
  refine am_iconst (v := nI 0) dX11_call_157 (by decide) ?_
  refine am_iast (a := i) dX11_call_158 (hG.m0 (by decide)) rfl rfl (show i < 4 from (by omega)) (show 4 < 2 ^ 31 by decide) ?_
  refine am_aload_n dX11_call_159 rfl ?_
  refine am_get (v := .inr (0, 93)) dX11_call_160 fl_11_99 (hG.m0 (by decide)) rfl ?_
  refine am_iload_n dX11_call_163 rfl ?_
  refine am_iconst (v := nI 0) dX11_call_164 (by decide) ?_
  refine am_zast (a := i) dX11_call_165 (hG.m0 (by decide)) rfl (by decide) rfl (show i < 4 from (by omega)) (show 4 < 2 ^ 31 by decide) ?_
  refine am_iconst (v := nI 0) dX11_call_166 (by decide) ?_
  refine am_istore dX11_call_167 (by decide) ?_
  refine K _ (fun k hk => by simp [am_up, am_upf, upd, hI, am_fr, hI1]) ?_ 136 0 (by omega)
  refine am_aload_n dX11_call_195 rfl ?_
  refine am_iload_n dX11_call_196 rfl ?_
  refine am_callVv (i := 0) (j := 60) (as := [.inl (nI i)]) (rest := []) dX11_call_197 lkX11_goOn ml_X11_212 imX11_goOn seX11_goOn rfl rfl (hG.m0 (by decide)) rfl (Nat.le_of_ble_eq_true rfl) rfl (c_MgoOn13 (a := a) hG hi (by omega) (am_up (am_up (am_up (am_up (am_up (am_up (am_up (am_up (am_up (am_up (am_up (am_up I1 0 82 i (nI 13)) 0 83 i (nI a)) 0 84 i b) 0 85 i c) 0 86 i e) 0 87 i (nI 1)) 0 88 i (nI 0)) 0 89 i (nI 0)) 0 90 i (nI 0)) 0 91 i (nI 0)) 0 92 i (nI 0)) 0 93 i (nI 0)) (fun k hk => by simp [am_up, am_upf, upd, hI, am_fr, hI1]) (fun k hk => by simp [am_up, am_upf, upd, hI, am_fr, hI1]) (fun x hx => by simp [am_up, am_upf, upd, hI, am_fr, hx, hI1]) (fun x hx => by simp [am_up, am_upf, upd, hI, am_fr, hx, hI1]) (fun f t => by simp [am_up, am_upf, upd, hI, am_fr, hI1]) (fun f t => by simp [am_up, am_upf, upd, hI, am_fr, hI1]) (by simp [am_up, am_upf, upd, hI, am_fr, am_dk, hi, hI1]) (by simp [am_up, am_upf, upd, hI, am_fr, am_dk, hi, hI1]) (by simp [am_up, am_upf, upd, hI, am_fr, am_dk, hi, hI1]) (by simp [am_up, am_upf, upd, hI, am_fr, am_dk, hi, hI1]) (by simp [am_up, am_upf, upd, hI, am_fr, am_dk, hi, hI1]) (by simp [am_up, am_upf, upd, hI, am_fr, am_dk, hi, hI1]) (by simp [am_up, am_upf, upd, hI, am_fr, am_dk, hi, hI1]) (by simp [am_up, am_upf, upd, hI, am_fr, am_dk, hi, hI1]) (by simp [am_up, am_upf, upd, hI, am_fr, am_dk, hi, hI1]) (by simp [am_up, am_upf, upd, hI, am_fr, am_dk, hi, hI1]) (by simp [am_up, am_upf, upd, hI, am_fr, am_dk, hi, hI1]) (by simp [am_up, am_upf, upd, hI, am_fr, am_dk, hi, hI1]) (by simp [am_up, am_upf, upd, hI, am_fr, am_dk, hi, hI1]) (by simp [am_up, am_upf, upd, hI, am_fr, am_dk, hi, hI1]) (by simp [am_up, am_upf, upd, hI, am_fr, am_dk, hi, hI1])) rfl (fun I9 hq => ?_)
  have hst9 := hq.2.1
  have hth9 := hq.2.2
  refine am_nm (fun I2 hI2 => ?_)
  refine am_aload_n dX11_call_200 rfl ?_
  refine am_get (v := .inr (0, 87)) dX11_call_201 fl_11_81 (hG.m0 (by decide)) rfl ?_
  refine am_iload_n dX11_call_204 rfl ?_
  refine am_iald (a := i) dX11_call_205 (hG.m0 (by decide)) rfl rfl (show i < 4 from (by omega)) (show 4 < 2 ^ 31 by decide) ?_
  refine am_top (show I2 0 87 i = nI 1 from (by simp [am_up, am_upf, upd, hI, am_fr, am_dk, hi, hI1, hst9, hth9, hI2])) ?_
  refine am_iconst (v := nI 1) dX11_call_206 (by decide) ?_
  refine am_icmp_ne (tgt := 214) dX11_call_207 (by decide) (fun h => absurd h (by decide)) (fun _ => ?_)
  refine am_iconst (v := nI 0) dX11_call_210 (by decide) ?_
  refine am_goto (tgt := 215) dX11_call_211 (by decide) ?_
  refine am_iret dX11_call_215 rfl rfl ?_
  exact ⟨rfl, (by simp [am_up, am_upf, upd, hI, am_fr, am_dk, hi, hI1, hst9, hth9, hI2])⟩
theorem m_call14 {G : am_G} (hG : am_okM G) {d : Nat} {i : Nat} (hi : i < G.2.2.2.1) (a b c e : Int32) (hP : True) {I : am_I} (hI : I = am_fr G.2.2.2.1)  : am_C G (d + 7) mX11_call [.inr (0, 60), .inl (nI i), .inl (nI 14), .inl a, .inl b, .inl c, .inl e] I (fun rr J => rr = some (nI 0) ∧ J 0 60 0 = nI 0) := by
  have hn4 := hG.hi
  have hn2 := hG.lo
  have K : ∀ (X : am_I) (_ : ∀ k, k < 544 → X 0 81 k = nI 0) (_ : am_J G (d + 7) mX11_call am_no (fun rr J => rr = some (nI 0) ∧ J 0 60 0 = nI 0) 195 [some (.inr (0, 60)), some (.inl (nI i)), some (.inl (nI 14)), some (.inl a), some (.inl b), some (.inl c), some (.inl e), some (.inl (nI 1)), some (.inl (nI 136))] [] X) (m r : Nat), r + m = 136 → am_J G (d + 7) mX11_call am_no (fun rr J => rr = some (nI 0) ∧ J 0 60 0 = nI 0) 169 [some (.inr (0, 60)), some (.inl (nI i)), some (.inl (nI 14)), some (.inl a), some (.inl b), some (.inl c), some (.inl e), some (.inl (nI 1)), some (.inl (nI r))] [] X := by
    intro X hX hk m
    induction m with
    | zero =>
      intro r ha
      obtain rfl : r = 136 := by omega
      refine am_iload dX11_call_169 rfl ?_
      refine am_sipush (v := nI 136) dX11_call_171 (by decide) ?_
      refine am_icmp_ge (tgt := 195) dX11_call_174 (by decide) (fun _ => ?_) (fun h => absurd ((nI_leI (a := 136) (b := 136) (by omega) (by omega)).mpr (by omega)) h)
      exact hk
    | succ m ih =>
      intro r ha
      refine am_iload dX11_call_169 rfl ?_
      refine am_sipush (v := nI 136) dX11_call_171 (by decide) ?_
      refine am_icmp_ge (tgt := 195) dX11_call_174 (by decide) (fun h => absurd ((nI_leI (a := 136) (b := r) (by omega) (by omega)).mp h) (by omega)) (fun _ => ?_)
      refine am_aload_n dX11_call_177 rfl ?_
      refine am_get (v := .inr (0, 81)) dX11_call_178 fl_11_63 (hG.m0 (by decide)) rfl ?_
      refine am_iload_n dX11_call_181 rfl ?_
      refine am_iload dX11_call_182 rfl ?_
      refine am_callSx (as := [.inl (nI i), .inl (nI r)]) (rest := [.inr (0, 81)]) dX11_call_184 lkX11_at ml_X11_208 isX11_at rfl (Nat.le_of_ble_eq_true rfl) rfl (c_Mat hG.nd (g := i) (r := r) (by omega) (by omega) X) ?_
      refine am_iconst (v := nI 0) dX11_call_187 (by decide) ?_
      refine am_iast (a := 136 * i + r) dX11_call_188 (hG.m0 (by decide)) rfl rfl (show 136 * i + r < 544 from (by omega)) (show 544 < 2 ^ 31 by decide) ?_
      rw [am_up_id (hX _ (by omega))]
      refine am_iinc (v := nI (r + 1)) dX11_call_189 rfl (nI_add _ _) ?_
      refine am_goto (tgt := 169) dX11_call_192 (by decide) ?_
      exact ih (r + 1) (by omega)
  refine am_of (by decide +kernel) hG.nd (Nat.le_of_ble_eq_true rfl) ?_
  refine am_aload_n dX11_call_0 rfl ?_
  refine am_iload_n dX11_call_1 rfl ?_
  refine am_callVx (i := 0) (j := 60) (as := [.inl (nI i)]) (rest := []) dX11_call_2 lkX11_isNode ml_X11_434 imX11_isNode seX11_isNode rfl rfl (hG.m0 (by decide)) rfl (Nat.le_of_ble_eq_true rfl) rfl (c_MisNodeY hG hi (by simp [am_up, am_upf, upd, hI, am_fr, am_dk, hi])) ?_
  refine am_if_eq (tgt := 26) dX11_call_5 (by decide) (fun h => absurd h (by decide)) (fun _ => ?_)
  refine am_iload_n dX11_call_8 rfl ?_
  refine am_iload_n dX11_call_9 rfl ?_
  refine am_iload dX11_call_10 rfl ?_
  refine am_iload dX11_call_12 rfl ?_
  refine am_iload dX11_call_14 rfl ?_
  refine am_callSx (as := [.inl (nI 14), .inl a, .inl b, .inl c, .inl e]) (rest := []) dX11_call_16 lkX11_isGiven ml_X11_437 isX11_isGiven rfl (Nat.le_of_ble_eq_true rfl) rfl (c_isGiven14 hG.nd a b c e I) ?_
  refine am_if_eq (tgt := 26) dX11_call_19 (by decide) (fun h => absurd h ((am_bn _).mpr (decide_eq_true hP))) (fun _ => ?_)
  refine am_iconst (v := nI 1) dX11_call_22 (by decide) ?_
  refine am_goto (tgt := 27) dX11_call_23 (by decide) ?_
  refine am_istore dX11_call_27 (by decide) ?_
  refine am_aload_n dX11_call_29 rfl ?_
  refine am_iload dX11_call_30 rfl ?_
  refine am_if_ne (tgt := 39) dX11_call_32 (by decide) (fun _ => ?_) (fun h => absurd h (by decide))
  refine am_iconst (v := nI 0) dX11_call_39 (by decide) ?_
  refine am_iload dX11_call_40 rfl ?_
  refine am_if_eq (tgt := 66) dX11_call_42 (by decide) (fun h => absurd h (by decide)) (fun _ => ?_)
  refine am_aload_n dX11_call_45 rfl ?_
  refine am_get (v := .inr (0, 65)) dX11_call_46 fl_11_13 (hG.m0 (by decide)) rfl ?_
  refine am_iload_n dX11_call_49 rfl ?_
  refine am_zald (a := i) dX11_call_50 (hG.m0 (by decide)) rfl rfl (show i < 4 from (by omega)) (show 4 < 2 ^ 31 by decide) ?_
  refine am_top (show I 0 65 i = nI 1 from (by simp [am_up, am_upf, upd, hI, am_fr, am_dk, hi])) ?_
  refine am_if_eq (tgt := 62) dX11_call_51 (by decide) (fun h => absurd h (by decide)) (fun _ => ?_)
  refine am_aload_n dX11_call_54 rfl ?_
  refine am_iload_n dX11_call_55 rfl ?_
  refine am_callVx (i := 0) (j := 60) (as := [.inl (nI i)]) (rest := [.inl (nI 0), .inr (0, 60)]) dX11_call_56 lkX11_isCalling ml_X11_264 imX11_isCalling seX11_isCalling rfl rfl (hG.m0 (by decide)) rfl (Nat.le_of_ble_eq_true rfl) rfl (c_MisCalling0 hG hi I (by simp [am_up, am_upf, upd, hI, am_fr, am_dk, hi])) ?_
  refine am_if_eq (tgt := 66) dX11_call_59 (by decide) (fun _ => ?_) (fun h => absurd h (by decide))
  refine am_iconst (v := nI 0) dX11_call_66 (by decide) ?_
  refine am_iconst (v := nI 0) dX11_call_67 (by decide) ?_
  refine am_callVx (i := 0) (j := 60) (as := [.inl (nI 0), .inl (nI 0), .inl (nI 0)]) (rest := []) dX11_call_68 lkX11_refuse ml_X11_441 imX11_refuse seX11_refuse rfl rfl (hG.m0 (by decide)) rfl (Nat.le_of_ble_eq_true rfl) rfl (c_refuse000 hG I) ?_
  refine am_nm (fun I1 hI1 => ?_)
  refine am_if_eq (tgt := 76) dX11_call_71 (by decide) (fun _ => ?_) (fun h => absurd h (by decide))
  refine am_aload_n dX11_call_76 rfl ?_
  refine am_get (v := .inr (0, 82)) dX11_call_77 fl_11_66 (hG.m0 (by decide)) rfl ?_
  refine am_iload_n dX11_call_80 rfl ?_
  refine am_iload_n dX11_call_81 rfl ?_
  refine am_iast (a := i) dX11_call_82 (hG.m0 (by decide)) rfl rfl (show i < 4 from (by omega)) (show 4 < 2 ^ 31 by decide) ?_
  refine am_aload_n dX11_call_83 rfl ?_
  refine am_get (v := .inr (0, 83)) dX11_call_84 fl_11_69 (hG.m0 (by decide)) rfl ?_
  refine am_iload_n dX11_call_87 rfl ?_
  refine am_iload_n dX11_call_88 rfl ?_
  refine am_iast (a := i) dX11_call_89 (hG.m0 (by decide)) rfl rfl (show i < 4 from (by omega)) (show 4 < 2 ^ 31 by decide) ?_
  refine am_aload_n dX11_call_90 rfl ?_
  refine am_get (v := .inr (0, 84)) dX11_call_91 fl_11_72 (hG.m0 (by decide)) rfl ?_
  refine am_iload_n dX11_call_94 rfl ?_
  refine am_iload dX11_call_95 rfl ?_
  refine am_iast (a := i) dX11_call_97 (hG.m0 (by decide)) rfl rfl (show i < 4 from (by omega)) (show 4 < 2 ^ 31 by decide) ?_
  refine am_aload_n dX11_call_98 rfl ?_
  refine am_get (v := .inr (0, 85)) dX11_call_99 fl_11_75 (hG.m0 (by decide)) rfl ?_
  refine am_iload_n dX11_call_102 rfl ?_
  refine am_iload dX11_call_103 rfl ?_
  refine am_iast (a := i) dX11_call_105 (hG.m0 (by decide)) rfl rfl (show i < 4 from (by omega)) (show 4 < 2 ^ 31 by decide) ?_
  refine am_aload_n dX11_call_106 rfl ?_
  refine am_get (v := .inr (0, 86)) dX11_call_107 fl_11_78 (hG.m0 (by decide)) rfl ?_
  refine am_iload_n dX11_call_110 rfl ?_
  refine am_iload dX11_call_111 rfl ?_
  refine am_iast (a := i) dX11_call_113 (hG.m0 (by decide)) rfl rfl (show i < 4 from (by omega)) (show 4 < 2 ^ 31 by decide) ?_
  refine am_aload_n dX11_call_114 rfl ?_
  refine am_get (v := .inr (0, 87)) dX11_call_115 fl_11_81 (hG.m0 (by decide)) rfl ?_
  refine am_iload_n dX11_call_118 rfl ?_
  refine am_iconst (v := nI 1) dX11_call_119 (by decide) ?_
  refine am_iast (a := i) dX11_call_120 (hG.m0 (by decide)) rfl rfl (show i < 4 from (by omega)) (show 4 < 2 ^ 31 by decide) ?_
  refine am_aload_n dX11_call_121 rfl ?_
  refine am_get (v := .inr (0, 88)) dX11_call_122 fl_11_84 (hG.m0 (by decide)) rfl ?_
  refine am_iload_n dX11_call_125 rfl ?_
  refine am_iconst (v := nI 0) dX11_call_126 (by decide) ?_
  refine am_iast (a := i) dX11_call_127 (hG.m0 (by decide)) rfl rfl (show i < 4 from (by omega)) (show 4 < 2 ^ 31 by decide) ?_
  refine am_aload_n dX11_call_128 rfl ?_
  refine am_get (v := .inr (0, 89)) dX11_call_129 fl_11_87 (hG.m0 (by decide)) rfl ?_
  refine am_iload_n dX11_call_132 rfl ?_
  refine am_aload_n dX11_call_133 rfl ?_
  refine am_get (v := .inl ((am_up (am_up (am_up (am_up (am_up (am_up (am_up I1 0 82 i (nI 14)) 0 83 i a) 0 84 i b) 0 85 i c) 0 86 i e) 0 87 i (nI 1)) 0 88 i (nI 0)) 0 60 2)) dX11_call_134 fl_11_194 (hG.m0 (by decide)) rfl ?_
  refine am_top (show (am_up (am_up (am_up (am_up (am_up (am_up (am_up I1 0 82 i (nI 14)) 0 83 i a) 0 84 i b) 0 85 i c) 0 86 i e) 0 87 i (nI 1)) 0 88 i (nI 0)) 0 60 2 = nI 0 from (by simp [am_up, am_upf, upd, hI, am_fr, am_dk, hi, hI1])) ?_
  refine am_iast (a := i) dX11_call_137 (hG.m0 (by decide)) rfl rfl (show i < 4 from (by omega)) (show 4 < 2 ^ 31 by decide) ?_
  refine am_aload_n dX11_call_138 rfl ?_
  refine am_get (v := .inr (0, 90)) dX11_call_139 fl_11_90 (hG.m0 (by decide)) rfl ?_
  refine am_iload_n dX11_call_142 rfl ?_
  refine am_iconst (v := nI 0) dX11_call_143 (by decide) ?_
  refine am_iast (a := i) dX11_call_144 (hG.m0 (by decide)) rfl rfl (show i < 4 from (by omega)) (show 4 < 2 ^ 31 by decide) ?_
  refine am_aload_n dX11_call_145 rfl ?_
  refine am_get (v := .inr (0, 91)) dX11_call_146 fl_11_93 (hG.m0 (by decide)) rfl ?_
  refine am_iload_n dX11_call_149 rfl ?_
  refine am_iconst (v := nI 0) dX11_call_150 (by decide) ?_
  refine am_iast (a := i) dX11_call_151 (hG.m0 (by decide)) rfl rfl (show i < 4 from (by omega)) (show 4 < 2 ^ 31 by decide) ?_
  refine am_aload_n dX11_call_152 rfl ?_
  refine am_get (v := .inr (0, 92)) dX11_call_153 fl_11_96 (hG.m0 (by decide)) rfl ?_
  refine am_iload_n dX11_call_156 rfl ?_
  refine am_iconst (v := nI 0) dX11_call_157 (by decide) ?_
  refine am_iast (a := i) dX11_call_158 (hG.m0 (by decide)) rfl rfl (show i < 4 from (by omega)) (show 4 < 2 ^ 31 by decide) ?_
  refine am_aload_n dX11_call_159 rfl ?_
  refine am_get (v := .inr (0, 93)) dX11_call_160 fl_11_99 (hG.m0 (by decide)) rfl ?_
  refine am_iload_n dX11_call_163 rfl ?_
  refine am_iconst (v := nI 0) dX11_call_164 (by decide) ?_
  refine am_zast (a := i) dX11_call_165 (hG.m0 (by decide)) rfl (by decide) rfl (show i < 4 from (by omega)) (show 4 < 2 ^ 31 by decide) ?_
  refine am_iconst (v := nI 0) dX11_call_166 (by decide) ?_
  refine am_istore dX11_call_167 (by decide) ?_
  refine K _ (fun k hk => by simp [am_up, am_upf, upd, hI, am_fr, hI1]) ?_ 136 0 (by omega)
  refine am_aload_n dX11_call_195 rfl ?_
  refine am_iload_n dX11_call_196 rfl ?_
  refine am_callVv (i := 0) (j := 60) (as := [.inl (nI i)]) (rest := []) dX11_call_197 lkX11_goOn ml_X11_212 imX11_goOn seX11_goOn rfl rfl (hG.m0 (by decide)) rfl (Nat.le_of_ble_eq_true rfl) rfl (c_MgoOn14 hG hi (am_up (am_up (am_up (am_up (am_up (am_up (am_up (am_up (am_up (am_up (am_up (am_up I1 0 82 i (nI 14)) 0 83 i a) 0 84 i b) 0 85 i c) 0 86 i e) 0 87 i (nI 1)) 0 88 i (nI 0)) 0 89 i (nI 0)) 0 90 i (nI 0)) 0 91 i (nI 0)) 0 92 i (nI 0)) 0 93 i (nI 0)) (fun k hk => by simp [am_up, am_upf, upd, hI, am_fr, hI1]) (fun k hk => by simp [am_up, am_upf, upd, hI, am_fr, hI1]) (fun x hx => by simp [am_up, am_upf, upd, hI, am_fr, hx, hI1]) (fun x hx => by simp [am_up, am_upf, upd, hI, am_fr, hx, hI1]) (fun f t => by simp [am_up, am_upf, upd, hI, am_fr, hI1]) (fun f t => by simp [am_up, am_upf, upd, hI, am_fr, hI1]) (by simp [am_up, am_upf, upd, hI, am_fr, am_dk, hi, hI1]) (by simp [am_up, am_upf, upd, hI, am_fr, am_dk, hi, hI1]) (by simp [am_up, am_upf, upd, hI, am_fr, am_dk, hi, hI1]) (by simp [am_up, am_upf, upd, hI, am_fr, am_dk, hi, hI1]) (by simp [am_up, am_upf, upd, hI, am_fr, am_dk, hi, hI1]) (by simp [am_up, am_upf, upd, hI, am_fr, am_dk, hi, hI1]) (by simp [am_up, am_upf, upd, hI, am_fr, am_dk, hi, hI1]) (by simp [am_up, am_upf, upd, hI, am_fr, am_dk, hi, hI1]) (by simp [am_up, am_upf, upd, hI, am_fr, am_dk, hi, hI1]) (by simp [am_up, am_upf, upd, hI, am_fr, am_dk, hi, hI1]) (by simp [am_up, am_upf, upd, hI, am_fr, am_dk, hi, hI1]) (by simp [am_up, am_upf, upd, hI, am_fr, am_dk, hi, hI1]) (by simp [am_up, am_upf, upd, hI, am_fr, am_dk, hi, hI1]) (by simp [am_up, am_upf, upd, hI, am_fr, am_dk, hi, hI1])) rfl (fun I9 hq => ?_)
  have hst9 := hq.2.1
  have hth9 := hq.2.2
  refine am_nm (fun I2 hI2 => ?_)
  refine am_aload_n dX11_call_200 rfl ?_
  refine am_get (v := .inr (0, 87)) dX11_call_201 fl_11_81 (hG.m0 (by decide)) rfl ?_
  refine am_iload_n dX11_call_204 rfl ?_
  refine am_iald (a := i) dX11_call_205 (hG.m0 (by decide)) rfl rfl (show i < 4 from (by omega)) (show 4 < 2 ^ 31 by decide) ?_
  refine am_top (show I2 0 87 i = nI 1 from (by simp [am_up, am_upf, upd, hI, am_fr, am_dk, hi, hI1, hst9, hth9, hI2])) ?_
  refine am_iconst (v := nI 1) dX11_call_206 (by decide) ?_
  refine am_icmp_ne (tgt := 214) dX11_call_207 (by decide) (fun h => absurd h (by decide)) (fun _ => ?_)
  refine am_iconst (v := nI 0) dX11_call_210 (by decide) ?_
  refine am_goto (tgt := 215) dX11_call_211 (by decide) ?_
  refine am_iret dX11_call_215 rfl rfl ?_
  exact ⟨rfl, (by simp [am_up, am_upf, upd, hI, am_fr, am_dk, hi, hI1, hst9, hth9, hI2])⟩
theorem m_callN {G : am_G} (hG : am_okM G) {d : Nat} (x k a b c e : Int32) (hx : ¬ (0 ≤ x.toInt ∧ x.toInt < (G.2.2.2.1 : Int))) {I : am_I} (hI : I = am_fr G.2.2.2.1)  : am_C G (d + 3) mX11_call [.inr (0, 60), .inl x, .inl k, .inl a, .inl b, .inl c, .inl e] I (fun rr J => rr = some (nI 0) ∧ J 0 60 0 = nI 1) := by
  have hn4 := hG.hi
  have hn2 := hG.lo
  refine am_of (by decide +kernel) hG.nd (Nat.le_of_ble_eq_true rfl) ?_
  refine am_aload_n dX11_call_0 rfl ?_
  refine am_iload_n dX11_call_1 rfl ?_
  refine am_callVx (i := 0) (j := 60) (as := [.inl x]) (rest := []) dX11_call_2 lkX11_isNode ml_X11_434 imX11_isNode seX11_isNode rfl rfl (hG.m0 (by decide)) rfl (Nat.le_of_ble_eq_true rfl) rfl (c_MisNodeN hG hx (by simp [am_up, am_upf, upd, hI, am_fr, am_dk])) ?_
  refine am_if_eq (tgt := 26) dX11_call_5 (by decide) (fun _ => ?_) (fun h => absurd h (by decide))
  refine am_iconst (v := nI 0) dX11_call_26 (by decide) ?_
  refine am_istore dX11_call_27 (by decide) ?_
  refine am_aload_n dX11_call_29 rfl ?_
  refine am_iload dX11_call_30 rfl ?_
  refine am_if_ne (tgt := 39) dX11_call_32 (by decide) (fun h => absurd h (by decide)) (fun _ => ?_)
  refine am_iconst (v := nI 1) dX11_call_35 (by decide) ?_
  refine am_goto (tgt := 40) dX11_call_36 (by decide) ?_
  refine am_iload dX11_call_40 rfl ?_
  refine am_if_eq (tgt := 66) dX11_call_42 (by decide) (fun _ => ?_) (fun h => absurd h (by decide))
  refine am_iconst (v := nI 0) dX11_call_66 (by decide) ?_
  refine am_iconst (v := nI 0) dX11_call_67 (by decide) ?_
  refine am_callVx (i := 0) (j := 60) (as := [.inl (nI 1), .inl (nI 0), .inl (nI 0)]) (rest := []) dX11_call_68 lkX11_refuse ml_X11_441 imX11_refuse seX11_refuse rfl rfl (hG.m0 (by decide)) rfl (Nat.le_of_ble_eq_true rfl) rfl (c_refuse100 hG I) ?_
  refine am_if_eq (tgt := 76) dX11_call_71 (by decide) (fun h => absurd h (by decide)) (fun _ => ?_)
  refine am_iconst (v := nI 0) dX11_call_74 (by decide) ?_
  refine am_iret dX11_call_75 rfl rfl ?_
  exact ⟨rfl, (by simp [am_up, am_upf, upd, hI, am_fr, am_dk])⟩
theorem m_callP0 {G : am_G} (hG : am_okM G) {d : Nat} {i : Nat} (hi : i < G.2.2.2.1) (a b c e : Int32) (hP : ¬ (0 ≤ a.toInt ∧ a.toInt < 128 ∧ ¬ b.toInt = 0)) {I : am_I} (hI : I = am_fr G.2.2.2.1)  : am_C G (d + 3) mX11_call [.inr (0, 60), .inl (nI i), .inl (nI 0), .inl a, .inl b, .inl c, .inl e] I (fun rr J => rr = some (nI 0) ∧ J 0 60 0 = nI 1) := by
  have hn4 := hG.hi
  have hn2 := hG.lo
  refine am_of (by decide +kernel) hG.nd (Nat.le_of_ble_eq_true rfl) ?_
  refine am_aload_n dX11_call_0 rfl ?_
  refine am_iload_n dX11_call_1 rfl ?_
  refine am_callVx (i := 0) (j := 60) (as := [.inl (nI i)]) (rest := []) dX11_call_2 lkX11_isNode ml_X11_434 imX11_isNode seX11_isNode rfl rfl (hG.m0 (by decide)) rfl (Nat.le_of_ble_eq_true rfl) rfl (c_MisNodeY hG hi (by simp [am_up, am_upf, upd, hI, am_fr, am_dk, hi])) ?_
  refine am_if_eq (tgt := 26) dX11_call_5 (by decide) (fun h => absurd h (by decide)) (fun _ => ?_)
  refine am_iload_n dX11_call_8 rfl ?_
  refine am_iload_n dX11_call_9 rfl ?_
  refine am_iload dX11_call_10 rfl ?_
  refine am_iload dX11_call_12 rfl ?_
  refine am_iload dX11_call_14 rfl ?_
  refine am_callSx (as := [.inl (nI 0), .inl a, .inl b, .inl c, .inl e]) (rest := []) dX11_call_16 lkX11_isGiven ml_X11_437 isX11_isGiven rfl (Nat.le_of_ble_eq_true rfl) rfl (c_isGiven0 hG.nd a b c e I) ?_
  refine am_if_eq (tgt := 26) dX11_call_19 (by decide) (fun _ => ?_) (fun h => absurd h (fun z => z ((am_bz _).mpr (decide_eq_false hP))))
  refine am_iconst (v := nI 0) dX11_call_26 (by decide) ?_
  refine am_istore dX11_call_27 (by decide) ?_
  refine am_aload_n dX11_call_29 rfl ?_
  refine am_iload dX11_call_30 rfl ?_
  refine am_if_ne (tgt := 39) dX11_call_32 (by decide) (fun h => absurd h (by decide)) (fun _ => ?_)
  refine am_iconst (v := nI 1) dX11_call_35 (by decide) ?_
  refine am_goto (tgt := 40) dX11_call_36 (by decide) ?_
  refine am_iload dX11_call_40 rfl ?_
  refine am_if_eq (tgt := 66) dX11_call_42 (by decide) (fun _ => ?_) (fun h => absurd h (by decide))
  refine am_iconst (v := nI 0) dX11_call_66 (by decide) ?_
  refine am_iconst (v := nI 0) dX11_call_67 (by decide) ?_
  refine am_callVx (i := 0) (j := 60) (as := [.inl (nI 1), .inl (nI 0), .inl (nI 0)]) (rest := []) dX11_call_68 lkX11_refuse ml_X11_441 imX11_refuse seX11_refuse rfl rfl (hG.m0 (by decide)) rfl (Nat.le_of_ble_eq_true rfl) rfl (c_refuse100 hG I) ?_
  refine am_if_eq (tgt := 76) dX11_call_71 (by decide) (fun h => absurd h (by decide)) (fun _ => ?_)
  refine am_iconst (v := nI 0) dX11_call_74 (by decide) ?_
  refine am_iret dX11_call_75 rfl rfl ?_
  exact ⟨rfl, (by simp [am_up, am_upf, upd, hI, am_fr, am_dk, hi])⟩
theorem m_callP1 {G : am_G} (hG : am_okM G) {d : Nat} {i : Nat} (hi : i < G.2.2.2.1) (a b c e : Int32) (hP : ¬ (0 ≤ a.toInt ∧ a.toInt < 128 ∧ ¬ b.toInt = 0 ∧ 1 ≤ c.toInt ∧ c.toInt ≤ 2)) {I : am_I} (hI : I = am_fr G.2.2.2.1)  : am_C G (d + 3) mX11_call [.inr (0, 60), .inl (nI i), .inl (nI 1), .inl a, .inl b, .inl c, .inl e] I (fun rr J => rr = some (nI 0) ∧ J 0 60 0 = nI 1) := by
  have hn4 := hG.hi
  have hn2 := hG.lo
  refine am_of (by decide +kernel) hG.nd (Nat.le_of_ble_eq_true rfl) ?_
  refine am_aload_n dX11_call_0 rfl ?_
  refine am_iload_n dX11_call_1 rfl ?_
  refine am_callVx (i := 0) (j := 60) (as := [.inl (nI i)]) (rest := []) dX11_call_2 lkX11_isNode ml_X11_434 imX11_isNode seX11_isNode rfl rfl (hG.m0 (by decide)) rfl (Nat.le_of_ble_eq_true rfl) rfl (c_MisNodeY hG hi (by simp [am_up, am_upf, upd, hI, am_fr, am_dk, hi])) ?_
  refine am_if_eq (tgt := 26) dX11_call_5 (by decide) (fun h => absurd h (by decide)) (fun _ => ?_)
  refine am_iload_n dX11_call_8 rfl ?_
  refine am_iload_n dX11_call_9 rfl ?_
  refine am_iload dX11_call_10 rfl ?_
  refine am_iload dX11_call_12 rfl ?_
  refine am_iload dX11_call_14 rfl ?_
  refine am_callSx (as := [.inl (nI 1), .inl a, .inl b, .inl c, .inl e]) (rest := []) dX11_call_16 lkX11_isGiven ml_X11_437 isX11_isGiven rfl (Nat.le_of_ble_eq_true rfl) rfl (c_isGiven1 hG.nd a b c e I) ?_
  refine am_if_eq (tgt := 26) dX11_call_19 (by decide) (fun _ => ?_) (fun h => absurd h (fun z => z ((am_bz _).mpr (decide_eq_false hP))))
  refine am_iconst (v := nI 0) dX11_call_26 (by decide) ?_
  refine am_istore dX11_call_27 (by decide) ?_
  refine am_aload_n dX11_call_29 rfl ?_
  refine am_iload dX11_call_30 rfl ?_
  refine am_if_ne (tgt := 39) dX11_call_32 (by decide) (fun h => absurd h (by decide)) (fun _ => ?_)
  refine am_iconst (v := nI 1) dX11_call_35 (by decide) ?_
  refine am_goto (tgt := 40) dX11_call_36 (by decide) ?_
  refine am_iload dX11_call_40 rfl ?_
  refine am_if_eq (tgt := 66) dX11_call_42 (by decide) (fun _ => ?_) (fun h => absurd h (by decide))
  refine am_iconst (v := nI 0) dX11_call_66 (by decide) ?_
  refine am_iconst (v := nI 0) dX11_call_67 (by decide) ?_
  refine am_callVx (i := 0) (j := 60) (as := [.inl (nI 1), .inl (nI 0), .inl (nI 0)]) (rest := []) dX11_call_68 lkX11_refuse ml_X11_441 imX11_refuse seX11_refuse rfl rfl (hG.m0 (by decide)) rfl (Nat.le_of_ble_eq_true rfl) rfl (c_refuse100 hG I) ?_
  refine am_if_eq (tgt := 76) dX11_call_71 (by decide) (fun h => absurd h (by decide)) (fun _ => ?_)
  refine am_iconst (v := nI 0) dX11_call_74 (by decide) ?_
  refine am_iret dX11_call_75 rfl rfl ?_
  exact ⟨rfl, (by simp [am_up, am_upf, upd, hI, am_fr, am_dk, hi])⟩
theorem m_callP2 {G : am_G} (hG : am_okM G) {d : Nat} {i : Nat} (hi : i < G.2.2.2.1) (a b c e : Int32) (hP : ¬ (0 ≤ a.toInt ∧ a.toInt < 128 ∧ ¬ b.toInt = 0)) {I : am_I} (hI : I = am_fr G.2.2.2.1)  : am_C G (d + 3) mX11_call [.inr (0, 60), .inl (nI i), .inl (nI 2), .inl a, .inl b, .inl c, .inl e] I (fun rr J => rr = some (nI 0) ∧ J 0 60 0 = nI 1) := by
  have hn4 := hG.hi
  have hn2 := hG.lo
  refine am_of (by decide +kernel) hG.nd (Nat.le_of_ble_eq_true rfl) ?_
  refine am_aload_n dX11_call_0 rfl ?_
  refine am_iload_n dX11_call_1 rfl ?_
  refine am_callVx (i := 0) (j := 60) (as := [.inl (nI i)]) (rest := []) dX11_call_2 lkX11_isNode ml_X11_434 imX11_isNode seX11_isNode rfl rfl (hG.m0 (by decide)) rfl (Nat.le_of_ble_eq_true rfl) rfl (c_MisNodeY hG hi (by simp [am_up, am_upf, upd, hI, am_fr, am_dk, hi])) ?_
  refine am_if_eq (tgt := 26) dX11_call_5 (by decide) (fun h => absurd h (by decide)) (fun _ => ?_)
  refine am_iload_n dX11_call_8 rfl ?_
  refine am_iload_n dX11_call_9 rfl ?_
  refine am_iload dX11_call_10 rfl ?_
  refine am_iload dX11_call_12 rfl ?_
  refine am_iload dX11_call_14 rfl ?_
  refine am_callSx (as := [.inl (nI 2), .inl a, .inl b, .inl c, .inl e]) (rest := []) dX11_call_16 lkX11_isGiven ml_X11_437 isX11_isGiven rfl (Nat.le_of_ble_eq_true rfl) rfl (c_isGiven2 hG.nd a b c e I) ?_
  refine am_if_eq (tgt := 26) dX11_call_19 (by decide) (fun _ => ?_) (fun h => absurd h (fun z => z ((am_bz _).mpr (decide_eq_false hP))))
  refine am_iconst (v := nI 0) dX11_call_26 (by decide) ?_
  refine am_istore dX11_call_27 (by decide) ?_
  refine am_aload_n dX11_call_29 rfl ?_
  refine am_iload dX11_call_30 rfl ?_
  refine am_if_ne (tgt := 39) dX11_call_32 (by decide) (fun h => absurd h (by decide)) (fun _ => ?_)
  refine am_iconst (v := nI 1) dX11_call_35 (by decide) ?_
  refine am_goto (tgt := 40) dX11_call_36 (by decide) ?_
  refine am_iload dX11_call_40 rfl ?_
  refine am_if_eq (tgt := 66) dX11_call_42 (by decide) (fun _ => ?_) (fun h => absurd h (by decide))
  refine am_iconst (v := nI 0) dX11_call_66 (by decide) ?_
  refine am_iconst (v := nI 0) dX11_call_67 (by decide) ?_
  refine am_callVx (i := 0) (j := 60) (as := [.inl (nI 1), .inl (nI 0), .inl (nI 0)]) (rest := []) dX11_call_68 lkX11_refuse ml_X11_441 imX11_refuse seX11_refuse rfl rfl (hG.m0 (by decide)) rfl (Nat.le_of_ble_eq_true rfl) rfl (c_refuse100 hG I) ?_
  refine am_if_eq (tgt := 76) dX11_call_71 (by decide) (fun h => absurd h (by decide)) (fun _ => ?_)
  refine am_iconst (v := nI 0) dX11_call_74 (by decide) ?_
  refine am_iret dX11_call_75 rfl rfl ?_
  exact ⟨rfl, (by simp [am_up, am_upf, upd, hI, am_fr, am_dk, hi])⟩
theorem m_callP3 {G : am_G} (hG : am_okM G) {d : Nat} {i : Nat} (hi : i < G.2.2.2.1) (a b c e : Int32) (hP : ¬ (0 ≤ a.toInt ∧ a.toInt < 128 ∧ ¬ b.toInt = 0 ∧ 0 ≤ c.toInt ∧ c.toInt < 128)) {I : am_I} (hI : I = am_fr G.2.2.2.1)  : am_C G (d + 3) mX11_call [.inr (0, 60), .inl (nI i), .inl (nI 3), .inl a, .inl b, .inl c, .inl e] I (fun rr J => rr = some (nI 0) ∧ J 0 60 0 = nI 1) := by
  have hn4 := hG.hi
  have hn2 := hG.lo
  refine am_of (by decide +kernel) hG.nd (Nat.le_of_ble_eq_true rfl) ?_
  refine am_aload_n dX11_call_0 rfl ?_
  refine am_iload_n dX11_call_1 rfl ?_
  refine am_callVx (i := 0) (j := 60) (as := [.inl (nI i)]) (rest := []) dX11_call_2 lkX11_isNode ml_X11_434 imX11_isNode seX11_isNode rfl rfl (hG.m0 (by decide)) rfl (Nat.le_of_ble_eq_true rfl) rfl (c_MisNodeY hG hi (by simp [am_up, am_upf, upd, hI, am_fr, am_dk, hi])) ?_
  refine am_if_eq (tgt := 26) dX11_call_5 (by decide) (fun h => absurd h (by decide)) (fun _ => ?_)
  refine am_iload_n dX11_call_8 rfl ?_
  refine am_iload_n dX11_call_9 rfl ?_
  refine am_iload dX11_call_10 rfl ?_
  refine am_iload dX11_call_12 rfl ?_
  refine am_iload dX11_call_14 rfl ?_
  refine am_callSx (as := [.inl (nI 3), .inl a, .inl b, .inl c, .inl e]) (rest := []) dX11_call_16 lkX11_isGiven ml_X11_437 isX11_isGiven rfl (Nat.le_of_ble_eq_true rfl) rfl (c_isGiven3 hG.nd a b c e I) ?_
  refine am_if_eq (tgt := 26) dX11_call_19 (by decide) (fun _ => ?_) (fun h => absurd h (fun z => z ((am_bz _).mpr (decide_eq_false hP))))
  refine am_iconst (v := nI 0) dX11_call_26 (by decide) ?_
  refine am_istore dX11_call_27 (by decide) ?_
  refine am_aload_n dX11_call_29 rfl ?_
  refine am_iload dX11_call_30 rfl ?_
  refine am_if_ne (tgt := 39) dX11_call_32 (by decide) (fun h => absurd h (by decide)) (fun _ => ?_)
  refine am_iconst (v := nI 1) dX11_call_35 (by decide) ?_
  refine am_goto (tgt := 40) dX11_call_36 (by decide) ?_
  refine am_iload dX11_call_40 rfl ?_
  refine am_if_eq (tgt := 66) dX11_call_42 (by decide) (fun _ => ?_) (fun h => absurd h (by decide))
  refine am_iconst (v := nI 0) dX11_call_66 (by decide) ?_
  refine am_iconst (v := nI 0) dX11_call_67 (by decide) ?_
  refine am_callVx (i := 0) (j := 60) (as := [.inl (nI 1), .inl (nI 0), .inl (nI 0)]) (rest := []) dX11_call_68 lkX11_refuse ml_X11_441 imX11_refuse seX11_refuse rfl rfl (hG.m0 (by decide)) rfl (Nat.le_of_ble_eq_true rfl) rfl (c_refuse100 hG I) ?_
  refine am_if_eq (tgt := 76) dX11_call_71 (by decide) (fun h => absurd h (by decide)) (fun _ => ?_)
  refine am_iconst (v := nI 0) dX11_call_74 (by decide) ?_
  refine am_iret dX11_call_75 rfl rfl ?_
  exact ⟨rfl, (by simp [am_up, am_upf, upd, hI, am_fr, am_dk, hi])⟩
theorem m_callP4 {G : am_G} (hG : am_okM G) {d : Nat} {i : Nat} (hi : i < G.2.2.2.1) (a b c e : Int32) (hP : ¬ (0 ≤ a.toInt ∧ a.toInt < 128 ∧ ¬ b.toInt = 0 ∧ 0 ≤ c.toInt ∧ c.toInt < 128 ∧ ¬ e.toInt = 0)) {I : am_I} (hI : I = am_fr G.2.2.2.1)  : am_C G (d + 3) mX11_call [.inr (0, 60), .inl (nI i), .inl (nI 4), .inl a, .inl b, .inl c, .inl e] I (fun rr J => rr = some (nI 0) ∧ J 0 60 0 = nI 1) := by
  have hn4 := hG.hi
  have hn2 := hG.lo
  refine am_of (by decide +kernel) hG.nd (Nat.le_of_ble_eq_true rfl) ?_
  refine am_aload_n dX11_call_0 rfl ?_
  refine am_iload_n dX11_call_1 rfl ?_
  refine am_callVx (i := 0) (j := 60) (as := [.inl (nI i)]) (rest := []) dX11_call_2 lkX11_isNode ml_X11_434 imX11_isNode seX11_isNode rfl rfl (hG.m0 (by decide)) rfl (Nat.le_of_ble_eq_true rfl) rfl (c_MisNodeY hG hi (by simp [am_up, am_upf, upd, hI, am_fr, am_dk, hi])) ?_
  refine am_if_eq (tgt := 26) dX11_call_5 (by decide) (fun h => absurd h (by decide)) (fun _ => ?_)
  refine am_iload_n dX11_call_8 rfl ?_
  refine am_iload_n dX11_call_9 rfl ?_
  refine am_iload dX11_call_10 rfl ?_
  refine am_iload dX11_call_12 rfl ?_
  refine am_iload dX11_call_14 rfl ?_
  refine am_callSx (as := [.inl (nI 4), .inl a, .inl b, .inl c, .inl e]) (rest := []) dX11_call_16 lkX11_isGiven ml_X11_437 isX11_isGiven rfl (Nat.le_of_ble_eq_true rfl) rfl (c_isGiven4 hG.nd a b c e I) ?_
  refine am_if_eq (tgt := 26) dX11_call_19 (by decide) (fun _ => ?_) (fun h => absurd h (fun z => z ((am_bz _).mpr (decide_eq_false hP))))
  refine am_iconst (v := nI 0) dX11_call_26 (by decide) ?_
  refine am_istore dX11_call_27 (by decide) ?_
  refine am_aload_n dX11_call_29 rfl ?_
  refine am_iload dX11_call_30 rfl ?_
  refine am_if_ne (tgt := 39) dX11_call_32 (by decide) (fun h => absurd h (by decide)) (fun _ => ?_)
  refine am_iconst (v := nI 1) dX11_call_35 (by decide) ?_
  refine am_goto (tgt := 40) dX11_call_36 (by decide) ?_
  refine am_iload dX11_call_40 rfl ?_
  refine am_if_eq (tgt := 66) dX11_call_42 (by decide) (fun _ => ?_) (fun h => absurd h (by decide))
  refine am_iconst (v := nI 0) dX11_call_66 (by decide) ?_
  refine am_iconst (v := nI 0) dX11_call_67 (by decide) ?_
  refine am_callVx (i := 0) (j := 60) (as := [.inl (nI 1), .inl (nI 0), .inl (nI 0)]) (rest := []) dX11_call_68 lkX11_refuse ml_X11_441 imX11_refuse seX11_refuse rfl rfl (hG.m0 (by decide)) rfl (Nat.le_of_ble_eq_true rfl) rfl (c_refuse100 hG I) ?_
  refine am_if_eq (tgt := 76) dX11_call_71 (by decide) (fun h => absurd h (by decide)) (fun _ => ?_)
  refine am_iconst (v := nI 0) dX11_call_74 (by decide) ?_
  refine am_iret dX11_call_75 rfl rfl ?_
  exact ⟨rfl, (by simp [am_up, am_upf, upd, hI, am_fr, am_dk, hi])⟩
theorem m_callP5 {G : am_G} (hG : am_okM G) {d : Nat} {i : Nat} (hi : i < G.2.2.2.1) (a b c e : Int32) (hP : ¬ (0 ≤ a.toInt ∧ a.toInt < 128 ∧ 0 ≤ b.toInt ∧ b.toInt < 384)) {I : am_I} (hI : I = am_fr G.2.2.2.1)  : am_C G (d + 3) mX11_call [.inr (0, 60), .inl (nI i), .inl (nI 5), .inl a, .inl b, .inl c, .inl e] I (fun rr J => rr = some (nI 0) ∧ J 0 60 0 = nI 1) := by
  have hn4 := hG.hi
  have hn2 := hG.lo
  refine am_of (by decide +kernel) hG.nd (Nat.le_of_ble_eq_true rfl) ?_
  refine am_aload_n dX11_call_0 rfl ?_
  refine am_iload_n dX11_call_1 rfl ?_
  refine am_callVx (i := 0) (j := 60) (as := [.inl (nI i)]) (rest := []) dX11_call_2 lkX11_isNode ml_X11_434 imX11_isNode seX11_isNode rfl rfl (hG.m0 (by decide)) rfl (Nat.le_of_ble_eq_true rfl) rfl (c_MisNodeY hG hi (by simp [am_up, am_upf, upd, hI, am_fr, am_dk, hi])) ?_
  refine am_if_eq (tgt := 26) dX11_call_5 (by decide) (fun h => absurd h (by decide)) (fun _ => ?_)
  refine am_iload_n dX11_call_8 rfl ?_
  refine am_iload_n dX11_call_9 rfl ?_
  refine am_iload dX11_call_10 rfl ?_
  refine am_iload dX11_call_12 rfl ?_
  refine am_iload dX11_call_14 rfl ?_
  refine am_callSx (as := [.inl (nI 5), .inl a, .inl b, .inl c, .inl e]) (rest := []) dX11_call_16 lkX11_isGiven ml_X11_437 isX11_isGiven rfl (Nat.le_of_ble_eq_true rfl) rfl (c_isGiven5 hG.nd a b c e I) ?_
  refine am_if_eq (tgt := 26) dX11_call_19 (by decide) (fun _ => ?_) (fun h => absurd h (fun z => z ((am_bz _).mpr (decide_eq_false hP))))
  refine am_iconst (v := nI 0) dX11_call_26 (by decide) ?_
  refine am_istore dX11_call_27 (by decide) ?_
  refine am_aload_n dX11_call_29 rfl ?_
  refine am_iload dX11_call_30 rfl ?_
  refine am_if_ne (tgt := 39) dX11_call_32 (by decide) (fun h => absurd h (by decide)) (fun _ => ?_)
  refine am_iconst (v := nI 1) dX11_call_35 (by decide) ?_
  refine am_goto (tgt := 40) dX11_call_36 (by decide) ?_
  refine am_iload dX11_call_40 rfl ?_
  refine am_if_eq (tgt := 66) dX11_call_42 (by decide) (fun _ => ?_) (fun h => absurd h (by decide))
  refine am_iconst (v := nI 0) dX11_call_66 (by decide) ?_
  refine am_iconst (v := nI 0) dX11_call_67 (by decide) ?_
  refine am_callVx (i := 0) (j := 60) (as := [.inl (nI 1), .inl (nI 0), .inl (nI 0)]) (rest := []) dX11_call_68 lkX11_refuse ml_X11_441 imX11_refuse seX11_refuse rfl rfl (hG.m0 (by decide)) rfl (Nat.le_of_ble_eq_true rfl) rfl (c_refuse100 hG I) ?_
  refine am_if_eq (tgt := 76) dX11_call_71 (by decide) (fun h => absurd h (by decide)) (fun _ => ?_)
  refine am_iconst (v := nI 0) dX11_call_74 (by decide) ?_
  refine am_iret dX11_call_75 rfl rfl ?_
  exact ⟨rfl, (by simp [am_up, am_upf, upd, hI, am_fr, am_dk, hi])⟩
theorem m_callP6 {G : am_G} (hG : am_okM G) {d : Nat} {i : Nat} (hi : i < G.2.2.2.1) (a b c e : Int32) (hP : ¬ (0 ≤ a.toInt ∧ a.toInt < 128 ∧ 0 ≤ b.toInt ∧ b.toInt < 384)) {I : am_I} (hI : I = am_fr G.2.2.2.1)  : am_C G (d + 3) mX11_call [.inr (0, 60), .inl (nI i), .inl (nI 6), .inl a, .inl b, .inl c, .inl e] I (fun rr J => rr = some (nI 0) ∧ J 0 60 0 = nI 1) := by
  have hn4 := hG.hi
  have hn2 := hG.lo
  refine am_of (by decide +kernel) hG.nd (Nat.le_of_ble_eq_true rfl) ?_
  refine am_aload_n dX11_call_0 rfl ?_
  refine am_iload_n dX11_call_1 rfl ?_
  refine am_callVx (i := 0) (j := 60) (as := [.inl (nI i)]) (rest := []) dX11_call_2 lkX11_isNode ml_X11_434 imX11_isNode seX11_isNode rfl rfl (hG.m0 (by decide)) rfl (Nat.le_of_ble_eq_true rfl) rfl (c_MisNodeY hG hi (by simp [am_up, am_upf, upd, hI, am_fr, am_dk, hi])) ?_
  refine am_if_eq (tgt := 26) dX11_call_5 (by decide) (fun h => absurd h (by decide)) (fun _ => ?_)
  refine am_iload_n dX11_call_8 rfl ?_
  refine am_iload_n dX11_call_9 rfl ?_
  refine am_iload dX11_call_10 rfl ?_
  refine am_iload dX11_call_12 rfl ?_
  refine am_iload dX11_call_14 rfl ?_
  refine am_callSx (as := [.inl (nI 6), .inl a, .inl b, .inl c, .inl e]) (rest := []) dX11_call_16 lkX11_isGiven ml_X11_437 isX11_isGiven rfl (Nat.le_of_ble_eq_true rfl) rfl (c_isGiven6 hG.nd a b c e I) ?_
  refine am_if_eq (tgt := 26) dX11_call_19 (by decide) (fun _ => ?_) (fun h => absurd h (fun z => z ((am_bz _).mpr (decide_eq_false hP))))
  refine am_iconst (v := nI 0) dX11_call_26 (by decide) ?_
  refine am_istore dX11_call_27 (by decide) ?_
  refine am_aload_n dX11_call_29 rfl ?_
  refine am_iload dX11_call_30 rfl ?_
  refine am_if_ne (tgt := 39) dX11_call_32 (by decide) (fun h => absurd h (by decide)) (fun _ => ?_)
  refine am_iconst (v := nI 1) dX11_call_35 (by decide) ?_
  refine am_goto (tgt := 40) dX11_call_36 (by decide) ?_
  refine am_iload dX11_call_40 rfl ?_
  refine am_if_eq (tgt := 66) dX11_call_42 (by decide) (fun _ => ?_) (fun h => absurd h (by decide))
  refine am_iconst (v := nI 0) dX11_call_66 (by decide) ?_
  refine am_iconst (v := nI 0) dX11_call_67 (by decide) ?_
  refine am_callVx (i := 0) (j := 60) (as := [.inl (nI 1), .inl (nI 0), .inl (nI 0)]) (rest := []) dX11_call_68 lkX11_refuse ml_X11_441 imX11_refuse seX11_refuse rfl rfl (hG.m0 (by decide)) rfl (Nat.le_of_ble_eq_true rfl) rfl (c_refuse100 hG I) ?_
  refine am_if_eq (tgt := 76) dX11_call_71 (by decide) (fun h => absurd h (by decide)) (fun _ => ?_)
  refine am_iconst (v := nI 0) dX11_call_74 (by decide) ?_
  refine am_iret dX11_call_75 rfl rfl ?_
  exact ⟨rfl, (by simp [am_up, am_upf, upd, hI, am_fr, am_dk, hi])⟩
theorem m_callP7 {G : am_G} (hG : am_okM G) {d : Nat} {i : Nat} (hi : i < G.2.2.2.1) (a b c e : Int32) (hP : ¬ (0 ≤ a.toInt ∧ a.toInt < 128 ∧ 0 ≤ b.toInt ∧ b.toInt ≤ 384)) {I : am_I} (hI : I = am_fr G.2.2.2.1)  : am_C G (d + 3) mX11_call [.inr (0, 60), .inl (nI i), .inl (nI 7), .inl a, .inl b, .inl c, .inl e] I (fun rr J => rr = some (nI 0) ∧ J 0 60 0 = nI 1) := by
  have hn4 := hG.hi
  have hn2 := hG.lo
  refine am_of (by decide +kernel) hG.nd (Nat.le_of_ble_eq_true rfl) ?_
  refine am_aload_n dX11_call_0 rfl ?_
  refine am_iload_n dX11_call_1 rfl ?_
  refine am_callVx (i := 0) (j := 60) (as := [.inl (nI i)]) (rest := []) dX11_call_2 lkX11_isNode ml_X11_434 imX11_isNode seX11_isNode rfl rfl (hG.m0 (by decide)) rfl (Nat.le_of_ble_eq_true rfl) rfl (c_MisNodeY hG hi (by simp [am_up, am_upf, upd, hI, am_fr, am_dk, hi])) ?_
  refine am_if_eq (tgt := 26) dX11_call_5 (by decide) (fun h => absurd h (by decide)) (fun _ => ?_)
  refine am_iload_n dX11_call_8 rfl ?_
  refine am_iload_n dX11_call_9 rfl ?_
  refine am_iload dX11_call_10 rfl ?_
  refine am_iload dX11_call_12 rfl ?_
  refine am_iload dX11_call_14 rfl ?_
  refine am_callSx (as := [.inl (nI 7), .inl a, .inl b, .inl c, .inl e]) (rest := []) dX11_call_16 lkX11_isGiven ml_X11_437 isX11_isGiven rfl (Nat.le_of_ble_eq_true rfl) rfl (c_isGiven7 hG.nd a b c e I) ?_
  refine am_if_eq (tgt := 26) dX11_call_19 (by decide) (fun _ => ?_) (fun h => absurd h (fun z => z ((am_bz _).mpr (decide_eq_false hP))))
  refine am_iconst (v := nI 0) dX11_call_26 (by decide) ?_
  refine am_istore dX11_call_27 (by decide) ?_
  refine am_aload_n dX11_call_29 rfl ?_
  refine am_iload dX11_call_30 rfl ?_
  refine am_if_ne (tgt := 39) dX11_call_32 (by decide) (fun h => absurd h (by decide)) (fun _ => ?_)
  refine am_iconst (v := nI 1) dX11_call_35 (by decide) ?_
  refine am_goto (tgt := 40) dX11_call_36 (by decide) ?_
  refine am_iload dX11_call_40 rfl ?_
  refine am_if_eq (tgt := 66) dX11_call_42 (by decide) (fun _ => ?_) (fun h => absurd h (by decide))
  refine am_iconst (v := nI 0) dX11_call_66 (by decide) ?_
  refine am_iconst (v := nI 0) dX11_call_67 (by decide) ?_
  refine am_callVx (i := 0) (j := 60) (as := [.inl (nI 1), .inl (nI 0), .inl (nI 0)]) (rest := []) dX11_call_68 lkX11_refuse ml_X11_441 imX11_refuse seX11_refuse rfl rfl (hG.m0 (by decide)) rfl (Nat.le_of_ble_eq_true rfl) rfl (c_refuse100 hG I) ?_
  refine am_if_eq (tgt := 76) dX11_call_71 (by decide) (fun h => absurd h (by decide)) (fun _ => ?_)
  refine am_iconst (v := nI 0) dX11_call_74 (by decide) ?_
  refine am_iret dX11_call_75 rfl rfl ?_
  exact ⟨rfl, (by simp [am_up, am_upf, upd, hI, am_fr, am_dk, hi])⟩
theorem m_callP8 {G : am_G} (hG : am_okM G) {d : Nat} {i : Nat} (hi : i < G.2.2.2.1) (a b c e : Int32) (hP : ¬ (0 ≤ a.toInt ∧ a.toInt < 128 ∧ 0 ≤ b.toInt ∧ b.toInt < 192)) {I : am_I} (hI : I = am_fr G.2.2.2.1)  : am_C G (d + 3) mX11_call [.inr (0, 60), .inl (nI i), .inl (nI 8), .inl a, .inl b, .inl c, .inl e] I (fun rr J => rr = some (nI 0) ∧ J 0 60 0 = nI 1) := by
  have hn4 := hG.hi
  have hn2 := hG.lo
  refine am_of (by decide +kernel) hG.nd (Nat.le_of_ble_eq_true rfl) ?_
  refine am_aload_n dX11_call_0 rfl ?_
  refine am_iload_n dX11_call_1 rfl ?_
  refine am_callVx (i := 0) (j := 60) (as := [.inl (nI i)]) (rest := []) dX11_call_2 lkX11_isNode ml_X11_434 imX11_isNode seX11_isNode rfl rfl (hG.m0 (by decide)) rfl (Nat.le_of_ble_eq_true rfl) rfl (c_MisNodeY hG hi (by simp [am_up, am_upf, upd, hI, am_fr, am_dk, hi])) ?_
  refine am_if_eq (tgt := 26) dX11_call_5 (by decide) (fun h => absurd h (by decide)) (fun _ => ?_)
  refine am_iload_n dX11_call_8 rfl ?_
  refine am_iload_n dX11_call_9 rfl ?_
  refine am_iload dX11_call_10 rfl ?_
  refine am_iload dX11_call_12 rfl ?_
  refine am_iload dX11_call_14 rfl ?_
  refine am_callSx (as := [.inl (nI 8), .inl a, .inl b, .inl c, .inl e]) (rest := []) dX11_call_16 lkX11_isGiven ml_X11_437 isX11_isGiven rfl (Nat.le_of_ble_eq_true rfl) rfl (c_isGiven8 hG.nd a b c e I) ?_
  refine am_if_eq (tgt := 26) dX11_call_19 (by decide) (fun _ => ?_) (fun h => absurd h (fun z => z ((am_bz _).mpr (decide_eq_false hP))))
  refine am_iconst (v := nI 0) dX11_call_26 (by decide) ?_
  refine am_istore dX11_call_27 (by decide) ?_
  refine am_aload_n dX11_call_29 rfl ?_
  refine am_iload dX11_call_30 rfl ?_
  refine am_if_ne (tgt := 39) dX11_call_32 (by decide) (fun h => absurd h (by decide)) (fun _ => ?_)
  refine am_iconst (v := nI 1) dX11_call_35 (by decide) ?_
  refine am_goto (tgt := 40) dX11_call_36 (by decide) ?_
  refine am_iload dX11_call_40 rfl ?_
  refine am_if_eq (tgt := 66) dX11_call_42 (by decide) (fun _ => ?_) (fun h => absurd h (by decide))
  refine am_iconst (v := nI 0) dX11_call_66 (by decide) ?_
  refine am_iconst (v := nI 0) dX11_call_67 (by decide) ?_
  refine am_callVx (i := 0) (j := 60) (as := [.inl (nI 1), .inl (nI 0), .inl (nI 0)]) (rest := []) dX11_call_68 lkX11_refuse ml_X11_441 imX11_refuse seX11_refuse rfl rfl (hG.m0 (by decide)) rfl (Nat.le_of_ble_eq_true rfl) rfl (c_refuse100 hG I) ?_
  refine am_if_eq (tgt := 76) dX11_call_71 (by decide) (fun h => absurd h (by decide)) (fun _ => ?_)
  refine am_iconst (v := nI 0) dX11_call_74 (by decide) ?_
  refine am_iret dX11_call_75 rfl rfl ?_
  exact ⟨rfl, (by simp [am_up, am_upf, upd, hI, am_fr, am_dk, hi])⟩
theorem m_callP9 {G : am_G} (hG : am_okM G) {d : Nat} {i : Nat} (hi : i < G.2.2.2.1) (a b c e : Int32) (hP : ¬ (0 ≤ a.toInt ∧ a.toInt < 128 ∧ 0 ≤ b.toInt ∧ b.toInt ≤ 3)) {I : am_I} (hI : I = am_fr G.2.2.2.1)  : am_C G (d + 3) mX11_call [.inr (0, 60), .inl (nI i), .inl (nI 9), .inl a, .inl b, .inl c, .inl e] I (fun rr J => rr = some (nI 0) ∧ J 0 60 0 = nI 1) := by
  have hn4 := hG.hi
  have hn2 := hG.lo
  refine am_of (by decide +kernel) hG.nd (Nat.le_of_ble_eq_true rfl) ?_
  refine am_aload_n dX11_call_0 rfl ?_
  refine am_iload_n dX11_call_1 rfl ?_
  refine am_callVx (i := 0) (j := 60) (as := [.inl (nI i)]) (rest := []) dX11_call_2 lkX11_isNode ml_X11_434 imX11_isNode seX11_isNode rfl rfl (hG.m0 (by decide)) rfl (Nat.le_of_ble_eq_true rfl) rfl (c_MisNodeY hG hi (by simp [am_up, am_upf, upd, hI, am_fr, am_dk, hi])) ?_
  refine am_if_eq (tgt := 26) dX11_call_5 (by decide) (fun h => absurd h (by decide)) (fun _ => ?_)
  refine am_iload_n dX11_call_8 rfl ?_
  refine am_iload_n dX11_call_9 rfl ?_
  refine am_iload dX11_call_10 rfl ?_
  refine am_iload dX11_call_12 rfl ?_
  refine am_iload dX11_call_14 rfl ?_
  refine am_callSx (as := [.inl (nI 9), .inl a, .inl b, .inl c, .inl e]) (rest := []) dX11_call_16 lkX11_isGiven ml_X11_437 isX11_isGiven rfl (Nat.le_of_ble_eq_true rfl) rfl (c_isGiven9 hG.nd a b c e I) ?_
  refine am_if_eq (tgt := 26) dX11_call_19 (by decide) (fun _ => ?_) (fun h => absurd h (fun z => z ((am_bz _).mpr (decide_eq_false hP))))
  refine am_iconst (v := nI 0) dX11_call_26 (by decide) ?_
  refine am_istore dX11_call_27 (by decide) ?_
  refine am_aload_n dX11_call_29 rfl ?_
  refine am_iload dX11_call_30 rfl ?_
  refine am_if_ne (tgt := 39) dX11_call_32 (by decide) (fun h => absurd h (by decide)) (fun _ => ?_)
  refine am_iconst (v := nI 1) dX11_call_35 (by decide) ?_
  refine am_goto (tgt := 40) dX11_call_36 (by decide) ?_
  refine am_iload dX11_call_40 rfl ?_
  refine am_if_eq (tgt := 66) dX11_call_42 (by decide) (fun _ => ?_) (fun h => absurd h (by decide))
  refine am_iconst (v := nI 0) dX11_call_66 (by decide) ?_
  refine am_iconst (v := nI 0) dX11_call_67 (by decide) ?_
  refine am_callVx (i := 0) (j := 60) (as := [.inl (nI 1), .inl (nI 0), .inl (nI 0)]) (rest := []) dX11_call_68 lkX11_refuse ml_X11_441 imX11_refuse seX11_refuse rfl rfl (hG.m0 (by decide)) rfl (Nat.le_of_ble_eq_true rfl) rfl (c_refuse100 hG I) ?_
  refine am_if_eq (tgt := 76) dX11_call_71 (by decide) (fun h => absurd h (by decide)) (fun _ => ?_)
  refine am_iconst (v := nI 0) dX11_call_74 (by decide) ?_
  refine am_iret dX11_call_75 rfl rfl ?_
  exact ⟨rfl, (by simp [am_up, am_upf, upd, hI, am_fr, am_dk, hi])⟩
theorem m_callP11 {G : am_G} (hG : am_okM G) {d : Nat} {i : Nat} (hi : i < G.2.2.2.1) (a b c e : Int32) (hP : ¬ (0 ≤ a.toInt ∧ a.toInt < 128 ∧ 0 ≤ b.toInt ∧ b.toInt < 384)) {I : am_I} (hI : I = am_fr G.2.2.2.1)  : am_C G (d + 3) mX11_call [.inr (0, 60), .inl (nI i), .inl (nI 11), .inl a, .inl b, .inl c, .inl e] I (fun rr J => rr = some (nI 0) ∧ J 0 60 0 = nI 1) := by
  have hn4 := hG.hi
  have hn2 := hG.lo
  refine am_of (by decide +kernel) hG.nd (Nat.le_of_ble_eq_true rfl) ?_
  refine am_aload_n dX11_call_0 rfl ?_
  refine am_iload_n dX11_call_1 rfl ?_
  refine am_callVx (i := 0) (j := 60) (as := [.inl (nI i)]) (rest := []) dX11_call_2 lkX11_isNode ml_X11_434 imX11_isNode seX11_isNode rfl rfl (hG.m0 (by decide)) rfl (Nat.le_of_ble_eq_true rfl) rfl (c_MisNodeY hG hi (by simp [am_up, am_upf, upd, hI, am_fr, am_dk, hi])) ?_
  refine am_if_eq (tgt := 26) dX11_call_5 (by decide) (fun h => absurd h (by decide)) (fun _ => ?_)
  refine am_iload_n dX11_call_8 rfl ?_
  refine am_iload_n dX11_call_9 rfl ?_
  refine am_iload dX11_call_10 rfl ?_
  refine am_iload dX11_call_12 rfl ?_
  refine am_iload dX11_call_14 rfl ?_
  refine am_callSx (as := [.inl (nI 11), .inl a, .inl b, .inl c, .inl e]) (rest := []) dX11_call_16 lkX11_isGiven ml_X11_437 isX11_isGiven rfl (Nat.le_of_ble_eq_true rfl) rfl (c_isGiven11 hG.nd a b c e I) ?_
  refine am_if_eq (tgt := 26) dX11_call_19 (by decide) (fun _ => ?_) (fun h => absurd h (fun z => z ((am_bz _).mpr (decide_eq_false hP))))
  refine am_iconst (v := nI 0) dX11_call_26 (by decide) ?_
  refine am_istore dX11_call_27 (by decide) ?_
  refine am_aload_n dX11_call_29 rfl ?_
  refine am_iload dX11_call_30 rfl ?_
  refine am_if_ne (tgt := 39) dX11_call_32 (by decide) (fun h => absurd h (by decide)) (fun _ => ?_)
  refine am_iconst (v := nI 1) dX11_call_35 (by decide) ?_
  refine am_goto (tgt := 40) dX11_call_36 (by decide) ?_
  refine am_iload dX11_call_40 rfl ?_
  refine am_if_eq (tgt := 66) dX11_call_42 (by decide) (fun _ => ?_) (fun h => absurd h (by decide))
  refine am_iconst (v := nI 0) dX11_call_66 (by decide) ?_
  refine am_iconst (v := nI 0) dX11_call_67 (by decide) ?_
  refine am_callVx (i := 0) (j := 60) (as := [.inl (nI 1), .inl (nI 0), .inl (nI 0)]) (rest := []) dX11_call_68 lkX11_refuse ml_X11_441 imX11_refuse seX11_refuse rfl rfl (hG.m0 (by decide)) rfl (Nat.le_of_ble_eq_true rfl) rfl (c_refuse100 hG I) ?_
  refine am_if_eq (tgt := 76) dX11_call_71 (by decide) (fun h => absurd h (by decide)) (fun _ => ?_)
  refine am_iconst (v := nI 0) dX11_call_74 (by decide) ?_
  refine am_iret dX11_call_75 rfl rfl ?_
  exact ⟨rfl, (by simp [am_up, am_upf, upd, hI, am_fr, am_dk, hi])⟩
theorem m_callP12 {G : am_G} (hG : am_okM G) {d : Nat} {i : Nat} (hi : i < G.2.2.2.1) (a b c e : Int32) (hP : ¬ (0 ≤ a.toInt ∧ a.toInt < 128)) {I : am_I} (hI : I = am_fr G.2.2.2.1)  : am_C G (d + 3) mX11_call [.inr (0, 60), .inl (nI i), .inl (nI 12), .inl a, .inl b, .inl c, .inl e] I (fun rr J => rr = some (nI 0) ∧ J 0 60 0 = nI 1) := by
  have hn4 := hG.hi
  have hn2 := hG.lo
  refine am_of (by decide +kernel) hG.nd (Nat.le_of_ble_eq_true rfl) ?_
  refine am_aload_n dX11_call_0 rfl ?_
  refine am_iload_n dX11_call_1 rfl ?_
  refine am_callVx (i := 0) (j := 60) (as := [.inl (nI i)]) (rest := []) dX11_call_2 lkX11_isNode ml_X11_434 imX11_isNode seX11_isNode rfl rfl (hG.m0 (by decide)) rfl (Nat.le_of_ble_eq_true rfl) rfl (c_MisNodeY hG hi (by simp [am_up, am_upf, upd, hI, am_fr, am_dk, hi])) ?_
  refine am_if_eq (tgt := 26) dX11_call_5 (by decide) (fun h => absurd h (by decide)) (fun _ => ?_)
  refine am_iload_n dX11_call_8 rfl ?_
  refine am_iload_n dX11_call_9 rfl ?_
  refine am_iload dX11_call_10 rfl ?_
  refine am_iload dX11_call_12 rfl ?_
  refine am_iload dX11_call_14 rfl ?_
  refine am_callSx (as := [.inl (nI 12), .inl a, .inl b, .inl c, .inl e]) (rest := []) dX11_call_16 lkX11_isGiven ml_X11_437 isX11_isGiven rfl (Nat.le_of_ble_eq_true rfl) rfl (c_isGiven12 hG.nd a b c e I) ?_
  refine am_if_eq (tgt := 26) dX11_call_19 (by decide) (fun _ => ?_) (fun h => absurd h (fun z => z ((am_bz _).mpr (decide_eq_false hP))))
  refine am_iconst (v := nI 0) dX11_call_26 (by decide) ?_
  refine am_istore dX11_call_27 (by decide) ?_
  refine am_aload_n dX11_call_29 rfl ?_
  refine am_iload dX11_call_30 rfl ?_
  refine am_if_ne (tgt := 39) dX11_call_32 (by decide) (fun h => absurd h (by decide)) (fun _ => ?_)
  refine am_iconst (v := nI 1) dX11_call_35 (by decide) ?_
  refine am_goto (tgt := 40) dX11_call_36 (by decide) ?_
  refine am_iload dX11_call_40 rfl ?_
  refine am_if_eq (tgt := 66) dX11_call_42 (by decide) (fun _ => ?_) (fun h => absurd h (by decide))
  refine am_iconst (v := nI 0) dX11_call_66 (by decide) ?_
  refine am_iconst (v := nI 0) dX11_call_67 (by decide) ?_
  refine am_callVx (i := 0) (j := 60) (as := [.inl (nI 1), .inl (nI 0), .inl (nI 0)]) (rest := []) dX11_call_68 lkX11_refuse ml_X11_441 imX11_refuse seX11_refuse rfl rfl (hG.m0 (by decide)) rfl (Nat.le_of_ble_eq_true rfl) rfl (c_refuse100 hG I) ?_
  refine am_if_eq (tgt := 76) dX11_call_71 (by decide) (fun h => absurd h (by decide)) (fun _ => ?_)
  refine am_iconst (v := nI 0) dX11_call_74 (by decide) ?_
  refine am_iret dX11_call_75 rfl rfl ?_
  exact ⟨rfl, (by simp [am_up, am_upf, upd, hI, am_fr, am_dk, hi])⟩
theorem m_callP13 {G : am_G} (hG : am_okM G) {d : Nat} {i : Nat} (hi : i < G.2.2.2.1) (a b c e : Int32) (hP : ¬ (0 ≤ a.toInt ∧ a.toInt < 128)) {I : am_I} (hI : I = am_fr G.2.2.2.1)  : am_C G (d + 3) mX11_call [.inr (0, 60), .inl (nI i), .inl (nI 13), .inl a, .inl b, .inl c, .inl e] I (fun rr J => rr = some (nI 0) ∧ J 0 60 0 = nI 1) := by
  have hn4 := hG.hi
  have hn2 := hG.lo
  refine am_of (by decide +kernel) hG.nd (Nat.le_of_ble_eq_true rfl) ?_
  refine am_aload_n dX11_call_0 rfl ?_
  refine am_iload_n dX11_call_1 rfl ?_
  refine am_callVx (i := 0) (j := 60) (as := [.inl (nI i)]) (rest := []) dX11_call_2 lkX11_isNode ml_X11_434 imX11_isNode seX11_isNode rfl rfl (hG.m0 (by decide)) rfl (Nat.le_of_ble_eq_true rfl) rfl (c_MisNodeY hG hi (by simp [am_up, am_upf, upd, hI, am_fr, am_dk, hi])) ?_
  refine am_if_eq (tgt := 26) dX11_call_5 (by decide) (fun h => absurd h (by decide)) (fun _ => ?_)
  refine am_iload_n dX11_call_8 rfl ?_
  refine am_iload_n dX11_call_9 rfl ?_
  refine am_iload dX11_call_10 rfl ?_
  refine am_iload dX11_call_12 rfl ?_
  refine am_iload dX11_call_14 rfl ?_
  refine am_callSx (as := [.inl (nI 13), .inl a, .inl b, .inl c, .inl e]) (rest := []) dX11_call_16 lkX11_isGiven ml_X11_437 isX11_isGiven rfl (Nat.le_of_ble_eq_true rfl) rfl (c_isGiven13 hG.nd a b c e I) ?_
  refine am_if_eq (tgt := 26) dX11_call_19 (by decide) (fun _ => ?_) (fun h => absurd h (fun z => z ((am_bz _).mpr (decide_eq_false hP))))
  refine am_iconst (v := nI 0) dX11_call_26 (by decide) ?_
  refine am_istore dX11_call_27 (by decide) ?_
  refine am_aload_n dX11_call_29 rfl ?_
  refine am_iload dX11_call_30 rfl ?_
  refine am_if_ne (tgt := 39) dX11_call_32 (by decide) (fun h => absurd h (by decide)) (fun _ => ?_)
  refine am_iconst (v := nI 1) dX11_call_35 (by decide) ?_
  refine am_goto (tgt := 40) dX11_call_36 (by decide) ?_
  refine am_iload dX11_call_40 rfl ?_
  refine am_if_eq (tgt := 66) dX11_call_42 (by decide) (fun _ => ?_) (fun h => absurd h (by decide))
  refine am_iconst (v := nI 0) dX11_call_66 (by decide) ?_
  refine am_iconst (v := nI 0) dX11_call_67 (by decide) ?_
  refine am_callVx (i := 0) (j := 60) (as := [.inl (nI 1), .inl (nI 0), .inl (nI 0)]) (rest := []) dX11_call_68 lkX11_refuse ml_X11_441 imX11_refuse seX11_refuse rfl rfl (hG.m0 (by decide)) rfl (Nat.le_of_ble_eq_true rfl) rfl (c_refuse100 hG I) ?_
  refine am_if_eq (tgt := 76) dX11_call_71 (by decide) (fun h => absurd h (by decide)) (fun _ => ?_)
  refine am_iconst (v := nI 0) dX11_call_74 (by decide) ?_
  refine am_iret dX11_call_75 rfl rfl ?_
  exact ⟨rfl, (by simp [am_up, am_upf, upd, hI, am_fr, am_dk, hi])⟩
theorem m_callK {G : am_G} (hG : am_okM G) {d : Nat} {i : Nat} (hi : i < G.2.2.2.1) (k a b c e : Int32) (hk : k.toInt < 0 ∨ 14 < k.toInt) {I : am_I} (hI : I = am_fr G.2.2.2.1)  : am_C G (d + 3) mX11_call [.inr (0, 60), .inl (nI i), .inl k, .inl a, .inl b, .inl c, .inl e] I (fun rr J => rr = some (nI 0) ∧ J 0 60 0 = nI 1) := by
  have hn4 := hG.hi
  have hn2 := hG.lo
  refine am_of (by decide +kernel) hG.nd (Nat.le_of_ble_eq_true rfl) ?_
  refine am_aload_n dX11_call_0 rfl ?_
  refine am_iload_n dX11_call_1 rfl ?_
  refine am_callVx (i := 0) (j := 60) (as := [.inl (nI i)]) (rest := []) dX11_call_2 lkX11_isNode ml_X11_434 imX11_isNode seX11_isNode rfl rfl (hG.m0 (by decide)) rfl (Nat.le_of_ble_eq_true rfl) rfl (c_MisNodeY hG hi (by simp [am_up, am_upf, upd, hI, am_fr, am_dk, hi])) ?_
  refine am_if_eq (tgt := 26) dX11_call_5 (by decide) (fun h => absurd h (by decide)) (fun _ => ?_)
  refine am_iload_n dX11_call_8 rfl ?_
  refine am_iload_n dX11_call_9 rfl ?_
  refine am_iload dX11_call_10 rfl ?_
  refine am_iload dX11_call_12 rfl ?_
  refine am_iload dX11_call_14 rfl ?_
  refine am_callSx (as := [.inl k, .inl a, .inl b, .inl c, .inl e]) (rest := []) dX11_call_16 lkX11_isGiven ml_X11_437 isX11_isGiven rfl (Nat.le_of_ble_eq_true rfl) rfl (c_isGivenX hG.nd k a b c e hk I) ?_
  refine am_if_eq (tgt := 26) dX11_call_19 (by decide) (fun _ => ?_) (fun h => absurd h (by decide))
  refine am_iconst (v := nI 0) dX11_call_26 (by decide) ?_
  refine am_istore dX11_call_27 (by decide) ?_
  refine am_aload_n dX11_call_29 rfl ?_
  refine am_iload dX11_call_30 rfl ?_
  refine am_if_ne (tgt := 39) dX11_call_32 (by decide) (fun h => absurd h (by decide)) (fun _ => ?_)
  refine am_iconst (v := nI 1) dX11_call_35 (by decide) ?_
  refine am_goto (tgt := 40) dX11_call_36 (by decide) ?_
  refine am_iload dX11_call_40 rfl ?_
  refine am_if_eq (tgt := 66) dX11_call_42 (by decide) (fun _ => ?_) (fun h => absurd h (by decide))
  refine am_iconst (v := nI 0) dX11_call_66 (by decide) ?_
  refine am_iconst (v := nI 0) dX11_call_67 (by decide) ?_
  refine am_callVx (i := 0) (j := 60) (as := [.inl (nI 1), .inl (nI 0), .inl (nI 0)]) (rest := []) dX11_call_68 lkX11_refuse ml_X11_441 imX11_refuse seX11_refuse rfl rfl (hG.m0 (by decide)) rfl (Nat.le_of_ble_eq_true rfl) rfl (c_refuse100 hG I) ?_
  refine am_if_eq (tgt := 76) dX11_call_71 (by decide) (fun h => absurd h (by decide)) (fun _ => ?_)
  refine am_iconst (v := nI 0) dX11_call_74 (by decide) ?_
  refine am_iret dX11_call_75 rfl rfl ?_
  exact ⟨rfl, (by simp [am_up, am_upf, upd, hI, am_fr, am_dk, hi])⟩
