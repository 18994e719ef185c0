abbrev mL_law : am_M := (yL_law, cL_law, 7, some .boolean)
/-- the law's own context: its script, its end -/
def n_El (B : k_B) (b L : Nat) (xs : Nat → Int32) : n_E := fun p e R s m args below meth c A Z => am_TW A s ∧ (va_X b L xs s s.heap ∧ b < s.heap.size ∧ ¬ A b) ∧
  ∀ (pc : Nat) (ls : Array Slot) (H' : Heap) (locs' : List Loc) (nc ns : Nat), decode cL_law pc = .ok (.ireturn, 1) → va_S A s.heap H' locs' → nc ≤ 600002 → ns ≤ 7302198 → W p B.1.1 e R s m args below meth c H' locs' nc ns Z (F0 m pc ls [.int 1])
section LAW
variable {B : k_B} {d : Nat} {M : am_M} {mc ms : Nat} {E : n_E} {pc : Nat} {lo : List (Option am_V)} {st : List Value} {ws : va_W} {nc ns : Nat} {b L : Nat} {xs : Nat → Int32}
theorem l_sld {i : Nat} (hd : decode M.2.1 pc = .ok (.iaload, 1)) (hi : i < L) (hL31 : L < 2 ^ 31) (hk : am_N B d M mc ms (n_El B b L xs) (pc + 1) lo (.int (xs i) :: st) ws nc ns) : am_N B d M mc ms (n_El B b L xs) pc lo (.int (nI i) :: .ref b :: st) ws nc ns := by
  intro p e R s m args below meth c A Z H locs ls X hH hL
  obtain ⟨hx, hb, hr, hml, hown, hts, hlocks, hnm⟩ := id X.1
  obtain ⟨-, ⟨e1, e2, e3⟩, -⟩ := id X.2.2.2
  refine va_sld hx hb e1 e2 e3 hH.2.2 (vp_in_nI hi hL31) hd ?_
  rw [nI_clamp (by omega)]
  exact hk p e R s m args below meth c A Z H locs ls X hH hL
theorem l_slen (hd : decode M.2.1 pc = .ok (.arraylength, 1)) (hk : am_N B d M mc ms (n_El B b L xs) (pc + 1) lo (.int (nI L) :: st) ws nc ns) : am_N B d M mc ms (n_El B b L xs) pc lo (.ref b :: st) ws nc ns := by
  intro p e R s m args below meth c A Z H locs ls X hH hL
  obtain ⟨hx, hb, hr, hml, hown, hts, hlocks, hnm⟩ := id X.1
  obtain ⟨-, ⟨e1, e2, e3⟩, -⟩ := id X.2.2.2
  exact va_slen hx hb e1 e2 e3 hH.2.2 hd (hk p e R s m args below meth c A Z H locs ls X hH hL)
theorem l_ret (hM : M.2.1 = cL_law) (hd : decode cL_law pc = .ok (.ireturn, 1)) (hc : nc ≤ 600002) (hs : ns ≤ 7302198) : am_N B d M mc ms (n_El B b L xs) pc lo [.int 1] ws nc ns := by
  intro p e R s m args below meth c A Z H locs ls X hH hL
  obtain ⟨hx, hb, hr, hml, hown, hts, hlocks, hnm⟩ := id X.1
  exact X.2.2.2.2.2 pc ls H locs nc ns hd hH.2.2 hc hs
/-- less may be known of the locals -/
theorem n_lw {lo' : List (Option am_V)} (hlen : lo'.length = lo.length) (h : ∀ (i : Nat) (v : am_V), lo'[i]? = some (some v) → lo[i]? = some (some v)) (hk : am_N B d M mc ms E pc lo' st ws nc ns) : am_N B d M mc ms E pc lo st ws nc ns :=
  fun p e R s m args below meth c A Z H locs ls X hH hL => hk p e R s m args below meth c A Z H locs ls X hH ⟨hL.1, hL.2.1, by rw [hlen]; exact hL.2.2.1, fun i v hi => hL.2.2.2 i v (h i v hi)⟩
theorem n_perm {ws' : va_W} (h : ws.Perm ws') (hk : am_N B d M mc ms E pc lo st ws' nc ns) : am_N B d M mc ms E pc lo st ws nc ns := by
  intro p e R s m args below meth c A Z H locs ls X hH hL
  refine hk p e R s m args below meth c A Z H locs ls X ⟨k_P.mpr (fun x hx => k_P.mp hH.1 x (h.mem_iff.mpr hx)), k_D.mpr ⟨?_, fun x hx => (k_D.mp hH.2.1).2 x (h.mem_iff.mpr hx)⟩, hH.2.2⟩ hL
  exact (h.map Prod.fst).nodup_iff.mp (k_D.mp hH.2.1).1
theorem l_scr {i z : Nat} (d0 : decode M.2.1 pc = .ok (.aload_n 0, 1)) (d1 : decode M.2.1 (pc + 1) = .ok (.iload 4, 2)) (d3 : decode M.2.1 (pc + 3) = .ok (.iconst z, 1)) (d4 : decode M.2.1 (pc + 4) = .ok (.iadd, 1)) (d5 : decode M.2.1 (pc + 5) = .ok (.iaload, 1)) (h0 : lo[0]? = some (some (.inr (b, 0)))) (h4 : lo[4]? = some (some (.inl (nI i)))) (hz : Int32.ofInt z = nI z) (hi : i + z < L) (hL31 : L < 2 ^ 31) (hk : am_N B d M mc ms (n_El B b L xs) (pc + 6) lo (.int (xs (i + z)) :: st) ws nc ns) : am_N B d M mc ms (n_El B b L xs) pc lo st ws nc ns := by
  refine n_aload_n (k := 0) (x := b) d0 h0 ?_
  refine n_iload (k := 4) (x := nI i) d1 h4 ?_
  refine n_iconst d3 hz ?_
  refine n_iadd d4 ?_
  rw [nI_add]
  exact l_sld d5 hi hL31 hk
theorem l_scb {i z : Nat} (d0 : decode M.2.1 pc = .ok (.aload_n 0, 1)) (d1 : decode M.2.1 (pc + 1) = .ok (.iload 4, 2)) (d3 : decode M.2.1 (pc + 3) = .ok (.bipush z, 2)) (d4 : decode M.2.1 (pc + 5) = .ok (.iadd, 1)) (d5 : decode M.2.1 (pc + 6) = .ok (.iaload, 1)) (h0 : lo[0]? = some (some (.inr (b, 0)))) (h4 : lo[4]? = some (some (.inl (nI i)))) (hz : (Int8.ofInt z).toInt32 = nI z) (hi : i + z < L) (hL31 : L < 2 ^ 31) (hk : am_N B d M mc ms (n_El B b L xs) (pc + 7) lo (.int (xs (i + z)) :: st) ws nc ns) : am_N B d M mc ms (n_El B b L xs) pc lo st ws nc ns := by
  refine n_aload_n (k := 0) (x := b) d0 h0 ?_
  refine n_iload (k := 4) (x := nI i) d1 h4 ?_
  refine n_bipush d3 hz ?_
  refine n_iadd d4 ?_
  rw [nI_add]
  exact l_sld d5 hi hL31 hk
theorem l_cmp0 (x : Int64) : lg_cmp x x = 0 := by simp [lg_cmp]
end LAW
/-- the world of the law: reference, object, the cell of longs -/
def l_ws (B : k_B) (G G' : am_G) (qo : Nat) (I J : am_I) (v : Nat → Int64) : va_W := am_ws G' J ++ (am_ws G I ++ [(qo, .inl (B.2.2, 1, .inr (.inl v)))])
abbrev l_lo (b qx qm qo i : Nat) (a5 a6 : Option am_V) : List (Option am_V) := [some (.inr (b, 0)), some (.inr (qx, 0)), some (.inr (qm, 0)), some (.inr (qo, 0)), some (.inl (nI i)), a5, a6]
theorem l_lw (b qx qm qo i : Nat) (a5 a6 : Option am_V) : (l_lo b qx qm qo i none none).length = (l_lo b qx qm qo i a5 a6).length ∧ ∀ (k : Nat) (v : am_V), (l_lo b qx qm qo i none none)[k]? = some (some v) → (l_lo b qx qm qo i a5 a6)[k]? = some (some v) := by
  refine ⟨rfl, fun k v h => ?_⟩
  match k with
  | 0 => exact h
  | 1 => exact h
  | 2 => exact h
  | 3 => exact h
  | 4 => exact h
  | 5 => cases h
  | 6 => cases h
  | k + 7 => cases h
theorem c_thrown {G : am_G} (hG : am_okM G) {d : Nat} (I : am_I) : am_C G d mX11_thrown [.inr (0, 60)] I (am_E (some (I 0 60 0)) I) := by
  refine am_of (by decide +kernel) hG.nd (Nat.le_of_ble_eq_true rfl) ?_
  refine am_aload_n dX11_thrown_0 rfl ?_
  refine am_get (v := .inl (I 0 60 0)) dX11_thrown_1 fl_11_188 (hG.m0 (by decide)) rfl ?_
  exact am_iret dX11_thrown_4 rfl rfl ⟨rfl, rfl⟩
theorem l_at {B : k_B} {G G' : am_G} {qo : Nat} {I J : am_I} {v : Nat → Int64} : (l_ws B G G' qo I J v)[G'.2.2.2.2.length + G.2.2.2.2.length]? = some (qo, .inl (B.2.2, 1, .inr (.inl v))) := by
  simp [l_ws, am_ws]
/-- a step of the law: call -/
def ls_call (G G' : am_G) (Inv : Nat → am_I → am_I → Prop) : Prop := ∀ (k : Nat) (I J : am_I) (p0 p1 p2 p3 p4 p5 : Int32), Inv (k + 1) I J → ∃ (Q : Option Int32 → am_I → Prop) (X : String → am_I → Prop), am_CX G 14 mX10_call [.inr (0, 0), .inl p0, .inl p1, .inl p2, .inl p3, .inl p4, .inl p5] I Q X ∧ (∀ Ex I', X Ex I' → Ex = "java/lang/IllegalArgumentException" ∨ Ex = "java/lang/IllegalStateException") ∧ (∀ (r : Int32) (I' : am_I), Q (some r) I' → am_C G' 15 mX11_call [.inr (0, 60), .inl p0, .inl p1, .inl p2, .inl p3, .inl p4, .inl p5] J (fun q J' => J' 0 60 0 = nI 0 ∧ q = some r ∧ Inv k I' J')) ∧ (∀ (I' : am_I), X "java/lang/IllegalArgumentException" I' → am_C G' 15 mX11_call [.inr (0, 60), .inl p0, .inl p1, .inl p2, .inl p3, .inl p4, .inl p5] J (fun _ J' => J' 0 60 0 = nI 1 ∧ Inv k I' J')) ∧ (∀ (I' : am_I), X "java/lang/IllegalStateException" I' → am_C G' 15 mX11_call [.inr (0, 60), .inl p0, .inl p1, .inl p2, .inl p3, .inl p4, .inl p5] J (fun _ J' => J' 0 60 0 = nI 2 ∧ Inv k I' J'))
theorem nlk_call : n_lk RL 80 mL_call hhL_call 8 := ⟨cwL_call, am_t1 0 rfl rfl, ml_L_80, am_t2 211 rfl rfl, ⟨by decide +kernel, by decide +kernel, by decide +kernel⟩, by decide, rfl⟩
theorem lc_call {B : k_B} {G G' : am_G} (hg : k_gb G B) (hg' : k_gb G' B) (hG : am_ok G) (hG' : am_okM G') {Inv : Nat → am_I → am_I → Prop} (hs : ls_call G G' Inv) {b L qo i k nc ns : Nat} {xs : Nat → Int32} {I J : am_I} {v : Nat → Int64} {a5 a6 : Option am_V} (hI : Inv (k + 1) I J) (hi : i + 6 < L) (hL31 : L < 2 ^ 31) (hnc : nc + 1 ≤ 600002) (hns : ns + 6 ≤ 7302198)
    (hk : ∀ (I' J' : am_I) (v' : Nat → Int64) (b5 b6 : Option am_V), Inv k I' J' → am_N B 16 mL_law 600002 7302198 (n_El B b L xs) 1122 (l_lo b (G.2.2.1 0 0) (G'.2.2.1 0 60) qo i b5 b6) [] (l_ws B G G' qo I' J' v') (nc + 1) (ns + 6)) : am_N B 16 mL_law 600002 7302198 (n_El B b L xs) 124 (l_lo b (G.2.2.1 0 0) (G'.2.2.1 0 60) qo i a5 a6) [] (l_ws B G G' qo I J v) nc ns := by
  obtain ⟨Q, X, hC, hX, hA0, hA1, hA2⟩ := hs k I J (xs (i + 1)) (xs (i + 2)) (xs (i + 3)) (xs (i + 4)) (xs (i + 5)) (xs (i + 6)) hI
  refine n_aload_n (k := 1) (x := G.2.2.1 0 0) dL_law_124 rfl ?_
  refine l_scr (i := i) (z := 1) dL_law_125 dL_law_126 dL_law_128 dL_law_129 dL_law_130 rfl rfl (by decide) (by omega) hL31 ?_
  refine l_scr (i := i) (z := 2) dL_law_131 dL_law_132 dL_law_134 dL_law_135 dL_law_136 rfl rfl (by decide) (by omega) hL31 ?_
  refine l_scr (i := i) (z := 3) dL_law_137 dL_law_138 dL_law_140 dL_law_141 dL_law_142 rfl rfl (by decide) (by omega) hL31 ?_
  refine l_scr (i := i) (z := 4) dL_law_143 dL_law_144 dL_law_146 dL_law_147 dL_law_148 rfl rfl (by decide) (by omega) hL31 ?_
  refine l_scr (i := i) (z := 5) dL_law_149 dL_law_150 dL_law_152 dL_law_153 dL_law_154 rfl rfl (by decide) (by omega) hL31 ?_
  refine l_scb (i := i) (z := 6) dL_law_155 dL_law_156 dL_law_158 dL_law_160 dL_law_161 rfl rfl (by decide) (by omega) hL31 ?_
  refine n_aload_n (k := 3) (x := qo) dL_law_162 rfl ?_
  refine n_callW (As := [.ref (G.2.2.1 0 0), .int (xs (i + 1)), .int (xs (i + 2)), .int (xs (i + 3)), .int (xs (i + 4)), .int (xs (i + 5)), .int (xs (i + 6)), .ref qo]) (rest := []) (w1 := am_ws G' J) (w2 := (am_ws G I ++ ([(qo, Sum.inl (B.2.2, 1, Sum.inr (Sum.inl v)))] : va_W) : va_W)) (w3 := []) dL_law_163 nlk_call rfl (Nat.le_of_ble_eq_true rfl) rfl (by simp [l_ws]) hnc hns (fun p e R s m args below meth c A Z h => h.1) (nw_call (qo := qo) (v := v) hg (hG.m0 (by decide)) hC hX) ?_
  rintro kc w4 ⟨I', v', rfl, ⟨rfl, r, hq, hv⟩ | ⟨rfl, hq⟩ | ⟨rfl, hq⟩⟩
  · skip
    refine n_ws (ws' := l_ws B G G' qo I' J v') (by simp [l_ws]) ?_
    refine n_istore (k := 5) dL_law_166 (by decide) ?_
    refine n_aload_n (k := 2) (x := G'.2.2.1 0 60) dL_law_168 rfl ?_
    refine l_scr (i := i) (z := 1) dL_law_169 dL_law_170 dL_law_172 dL_law_173 dL_law_174 rfl rfl (by decide) (by omega) hL31 ?_
    refine l_scr (i := i) (z := 2) dL_law_175 dL_law_176 dL_law_178 dL_law_179 dL_law_180 rfl rfl (by decide) (by omega) hL31 ?_
    refine l_scr (i := i) (z := 3) dL_law_181 dL_law_182 dL_law_184 dL_law_185 dL_law_186 rfl rfl (by decide) (by omega) hL31 ?_
    refine l_scr (i := i) (z := 4) dL_law_187 dL_law_188 dL_law_190 dL_law_191 dL_law_192 rfl rfl (by decide) (by omega) hL31 ?_
    refine l_scr (i := i) (z := 5) dL_law_193 dL_law_194 dL_law_196 dL_law_197 dL_law_198 rfl rfl (by decide) (by omega) hL31 ?_
    refine l_scb (i := i) (z := 6) dL_law_199 dL_law_200 dL_law_202 dL_law_204 dL_law_205 rfl rfl (by decide) (by omega) hL31 ?_
    refine n_callV (G := G') (I := J) (i := 0) (j := 60) (as := [.inl (xs (i + 1)), .inl (xs (i + 2)), .inl (xs (i + 3)), .inl (xs (i + 4)), .inl (xs (i + 5)), .inl (xs (i + 6))]) (rest := []) (w1 := []) (w3 := am_ws G I' ++ [(qo, .inl (B.2.2, 1, .inr (.inl v')))]) hg' dL_law_206 lkX11_call ml_L_83 imX11_call seX11_call rfl rfl (hG'.m0 (by decide)) rfl (Nat.le_of_ble_eq_true rfl) rfl (by simp [l_ws]) (by omega) (by omega) (hA0 r I' hq) ?_
    rintro q J' hqs ⟨ht, rfl, hI2⟩
    refine n_ws (ws' := l_ws B G G' qo I' J' v') (by simp [l_ws]) ?_
    refine n_istore (k := 6) dL_law_209 (by decide) ?_
    refine n_aload_n (k := 2) (x := G'.2.2.1 0 60) dL_law_211 rfl ?_
    refine n_callV (G := G') (I := J') (i := 0) (j := 60) (as := []) (rest := []) (w1 := []) (w3 := am_ws G I' ++ [(qo, .inl (B.2.2, 1, .inr (.inl v')))]) hg' dL_law_212 lkX11_thrown ml_L_84 imX11_thrown seX11_thrown rfl rfl (hG'.m0 (by decide)) rfl (Nat.le_of_ble_eq_true rfl) rfl (by simp [l_ws]) (by omega) (by omega) (c_thrown hG' J') ?_
    rintro q9 J9 hq9 ⟨rfl, rfl⟩
    refine n_ws (ws' := l_ws B G G' qo I' J9 v') (by simp [l_ws]) ?_
    refine n_iload (k := 5) (x := 0) dL_law_215 rfl ?_
    refine n_icmp_eq (tgt := 222) dL_law_217 rfl (fun _ => ?_) (fun h => absurd (show J9 0 60 0 = 0 from ht) h)
    refine n_iload (k := 5) (x := 0) dL_law_222 rfl ?_
    refine n_if_ne (tgt := 239) dL_law_224 rfl (fun h => absurd rfl h) (fun _ => ?_)
    refine n_aload_n (k := 3) (x := qo) dL_law_227 rfl ?_
    refine n_iconst (v := 0) dL_law_228 rfl ?_
    refine n_lald (q0 := G'.2.2.2.2.length + G.2.2.2.2.length) (a := qo) (n := 1) (i := 0) (f := v') dL_law_229 (l_at) n_in01 ?_
    rw [show v' (Int32.toNatClampNeg 0) = r.toInt64 from hv]
    refine n_iload (k := 6) (x := r) dL_law_230 rfl ?_
    refine n_i2l dL_law_232 ?_
    refine n_lcmp dL_law_233 ?_
    rw [l_cmp0]
    refine n_if_eq (tgt := 239) dL_law_234 rfl (fun _ => ?_) (fun h => absurd rfl h)
    refine n_goto (tgt := 1122) dL_law_239 rfl ?_
    exact hk I' J9 v' _ _ hI2
  · skip
    refine n_ws (ws' := l_ws B G G' qo I' J v') (by simp [l_ws]) ?_
    refine n_istore (k := 5) dL_law_166 (by decide) ?_
    refine n_aload_n (k := 2) (x := G'.2.2.1 0 60) dL_law_168 rfl ?_
    refine l_scr (i := i) (z := 1) dL_law_169 dL_law_170 dL_law_172 dL_law_173 dL_law_174 rfl rfl (by decide) (by omega) hL31 ?_
    refine l_scr (i := i) (z := 2) dL_law_175 dL_law_176 dL_law_178 dL_law_179 dL_law_180 rfl rfl (by decide) (by omega) hL31 ?_
    refine l_scr (i := i) (z := 3) dL_law_181 dL_law_182 dL_law_184 dL_law_185 dL_law_186 rfl rfl (by decide) (by omega) hL31 ?_
    refine l_scr (i := i) (z := 4) dL_law_187 dL_law_188 dL_law_190 dL_law_191 dL_law_192 rfl rfl (by decide) (by omega) hL31 ?_
    refine l_scr (i := i) (z := 5) dL_law_193 dL_law_194 dL_law_196 dL_law_197 dL_law_198 rfl rfl (by decide) (by omega) hL31 ?_
    refine l_scb (i := i) (z := 6) dL_law_199 dL_law_200 dL_law_202 dL_law_204 dL_law_205 rfl rfl (by decide) (by omega) hL31 ?_
    refine n_callV (G := G') (I := J) (i := 0) (j := 60) (as := [.inl (xs (i + 1)), .inl (xs (i + 2)), .inl (xs (i + 3)), .inl (xs (i + 4)), .inl (xs (i + 5)), .inl (xs (i + 6))]) (rest := []) (w1 := []) (w3 := am_ws G I' ++ [(qo, .inl (B.2.2, 1, .inr (.inl v')))]) hg' dL_law_206 lkX11_call ml_L_83 imX11_call seX11_call rfl rfl (hG'.m0 (by decide)) rfl (Nat.le_of_ble_eq_true rfl) rfl (by simp [l_ws]) (by omega) (by omega) (hA1 I' hq) ?_
    rintro q J' hqs ⟨ht, hI2⟩
    cases q with
    | none => cases hqs
    | some q =>
      refine n_ws (ws' := l_ws B G G' qo I' J' v') (by simp [l_ws]) ?_
      refine n_istore (k := 6) dL_law_209 (by decide) ?_
      refine n_aload_n (k := 2) (x := G'.2.2.1 0 60) dL_law_211 rfl ?_
      refine n_callV (G := G') (I := J') (i := 0) (j := 60) (as := []) (rest := []) (w1 := []) (w3 := am_ws G I' ++ [(qo, .inl (B.2.2, 1, .inr (.inl v')))]) hg' dL_law_212 lkX11_thrown ml_L_84 imX11_thrown seX11_thrown rfl rfl (hG'.m0 (by decide)) rfl (Nat.le_of_ble_eq_true rfl) rfl (by simp [l_ws]) (by omega) (by omega) (c_thrown hG' J') ?_
      rintro q9 J9 hq9 ⟨rfl, rfl⟩
      refine n_ws (ws' := l_ws B G G' qo I' J9 v') (by simp [l_ws]) ?_
      refine n_iload (k := 5) (x := 1) dL_law_215 rfl ?_
      refine n_icmp_eq (tgt := 222) dL_law_217 rfl (fun _ => ?_) (fun h => absurd (show J9 0 60 0 = 1 from ht) h)
      refine n_iload (k := 5) (x := 1) dL_law_222 rfl ?_
      refine n_if_ne (tgt := 239) dL_law_224 rfl (fun _ => ?_) (fun h => absurd h (by decide))
      refine n_goto (tgt := 1122) dL_law_239 rfl ?_
      exact hk I' J9 v' _ _ hI2
  · skip
    refine n_ws (ws' := l_ws B G G' qo I' J v') (by simp [l_ws]) ?_
    refine n_istore (k := 5) dL_law_166 (by decide) ?_
    refine n_aload_n (k := 2) (x := G'.2.2.1 0 60) dL_law_168 rfl ?_
    refine l_scr (i := i) (z := 1) dL_law_169 dL_law_170 dL_law_172 dL_law_173 dL_law_174 rfl rfl (by decide) (by omega) hL31 ?_
    refine l_scr (i := i) (z := 2) dL_law_175 dL_law_176 dL_law_178 dL_law_179 dL_law_180 rfl rfl (by decide) (by omega) hL31 ?_
    refine l_scr (i := i) (z := 3) dL_law_181 dL_law_182 dL_law_184 dL_law_185 dL_law_186 rfl rfl (by decide) (by omega) hL31 ?_
    refine l_scr (i := i) (z := 4) dL_law_187 dL_law_188 dL_law_190 dL_law_191 dL_law_192 rfl rfl (by decide) (by omega) hL31 ?_
    refine l_scr (i := i) (z := 5) dL_law_193 dL_law_194 dL_law_196 dL_law_197 dL_law_198 rfl rfl (by decide) (by omega) hL31 ?_
    refine l_scb (i := i) (z := 6) dL_law_199 dL_law_200 dL_law_202 dL_law_204 dL_law_205 rfl rfl (by decide) (by omega) hL31 ?_
    refine n_callV (G := G') (I := J) (i := 0) (j := 60) (as := [.inl (xs (i + 1)), .inl (xs (i + 2)), .inl (xs (i + 3)), .inl (xs (i + 4)), .inl (xs (i + 5)), .inl (xs (i + 6))]) (rest := []) (w1 := []) (w3 := am_ws G I' ++ [(qo, .inl (B.2.2, 1, .inr (.inl v')))]) hg' dL_law_206 lkX11_call ml_L_83 imX11_call seX11_call rfl rfl (hG'.m0 (by decide)) rfl (Nat.le_of_ble_eq_true rfl) rfl (by simp [l_ws]) (by omega) (by omega) (hA2 I' hq) ?_
    rintro q J' hqs ⟨ht, hI2⟩
    cases q with
    | none => cases hqs
    | some q =>
      refine n_ws (ws' := l_ws B G G' qo I' J' v') (by simp [l_ws]) ?_
      refine n_istore (k := 6) dL_law_209 (by decide) ?_
      refine n_aload_n (k := 2) (x := G'.2.2.1 0 60) dL_law_211 rfl ?_
      refine n_callV (G := G') (I := J') (i := 0) (j := 60) (as := []) (rest := []) (w1 := []) (w3 := am_ws G I' ++ [(qo, .inl (B.2.2, 1, .inr (.inl v')))]) hg' dL_law_212 lkX11_thrown ml_L_84 imX11_thrown seX11_thrown rfl rfl (hG'.m0 (by decide)) rfl (Nat.le_of_ble_eq_true rfl) rfl (by simp [l_ws]) (by omega) (by omega) (c_thrown hG' J') ?_
      rintro q9 J9 hq9 ⟨rfl, rfl⟩
      refine n_ws (ws' := l_ws B G G' qo I' J9 v') (by simp [l_ws]) ?_
      refine n_iload (k := 5) (x := 2) dL_law_215 rfl ?_
      refine n_icmp_eq (tgt := 222) dL_law_217 rfl (fun _ => ?_) (fun h => absurd (show J9 0 60 0 = 2 from ht) h)
      refine n_iload (k := 5) (x := 2) dL_law_222 rfl ?_
      refine n_if_ne (tgt := 239) dL_law_224 rfl (fun _ => ?_) (fun h => absurd h (by decide))
      refine n_goto (tgt := 1122) dL_law_239 rfl ?_
      exact hk I' J9 v' _ _ hI2
/-- a step of the law: delay -/
def ls_delay (G G' : am_G) (Inv : Nat → am_I → am_I → Prop) : Prop := ∀ (k : Nat) (I J : am_I) (p0 p1 p2 : Int32), Inv (k + 1) I J → ∃ (Q : Option Int32 → am_I → Prop) (X : String → am_I → Prop), am_CX G 14 mX10_delay [.inr (0, 0), .inl p0, .inl p1, .inl p2] I Q X ∧ (∀ Ex I', X Ex I' → Ex = "java/lang/IllegalArgumentException") ∧ (∀ (I' : am_I), Q none I' → am_C G' 15 mX11_delay [.inr (0, 60), .inl p0, .inl p1, .inl p2] J (fun _ J' => J' 0 60 0 = nI 0 ∧ Inv k I' J')) ∧ (∀ (I' : am_I), X "java/lang/IllegalArgumentException" I' → am_C G' 15 mX11_delay [.inr (0, 60), .inl p0, .inl p1, .inl p2] J (fun _ J' => J' 0 60 0 = nI 1 ∧ Inv k I' J'))
theorem nlk_delay : n_lk RL 88 mL_delay hhL_delay 4 := ⟨cwL_delay, am_t1 0 rfl rfl, ml_L_88, am_t4 164 rfl rfl, ⟨by decide +kernel, by decide +kernel, by decide +kernel⟩, by decide, rfl⟩
theorem lc_delay {B : k_B} {G G' : am_G} (hg : k_gb G B) (hg' : k_gb G' B) (hG : am_ok G) (hG' : am_okM G') {Inv : Nat → am_I → am_I → Prop} (hs : ls_delay G G' Inv) {b L qo i k nc ns : Nat} {xs : Nat → Int32} {I J : am_I} {v : Nat → Int64} {a5 a6 : Option am_V} (hI : Inv (k + 1) I J) (hi : i + 6 < L) (hL31 : L < 2 ^ 31) (hnc : nc + 1 ≤ 600002) (hns : ns + 6 ≤ 7302198)
    (hk : ∀ (I' J' : am_I) (v' : Nat → Int64) (b5 b6 : Option am_V), Inv k I' J' → am_N B 16 mL_law 600002 7302198 (n_El B b L xs) 1122 (l_lo b (G.2.2.1 0 0) (G'.2.2.1 0 60) qo i b5 b6) [] (l_ws B G G' qo I' J' v') (nc + 1) (ns + 6)) : am_N B 16 mL_law 600002 7302198 (n_El B b L xs) 242 (l_lo b (G.2.2.1 0 0) (G'.2.2.1 0 60) qo i a5 a6) [] (l_ws B G G' qo I J v) nc ns := by
  obtain ⟨Q, X, hC, hX, hA0, hA1⟩ := hs k I J (xs (i + 1)) (xs (i + 2)) (xs (i + 3)) hI
  refine n_aload_n (k := 1) (x := G.2.2.1 0 0) dL_law_242 rfl ?_
  refine l_scr (i := i) (z := 1) dL_law_243 dL_law_244 dL_law_246 dL_law_247 dL_law_248 rfl rfl (by decide) (by omega) hL31 ?_
  refine l_scr (i := i) (z := 2) dL_law_249 dL_law_250 dL_law_252 dL_law_253 dL_law_254 rfl rfl (by decide) (by omega) hL31 ?_
  refine l_scr (i := i) (z := 3) dL_law_255 dL_law_256 dL_law_258 dL_law_259 dL_law_260 rfl rfl (by decide) (by omega) hL31 ?_
  refine n_callW (As := [.ref (G.2.2.1 0 0), .int (xs (i + 1)), .int (xs (i + 2)), .int (xs (i + 3))]) (rest := []) (w1 := am_ws G' J) (w2 := am_ws G I) (w3 := [(qo, .inl (B.2.2, 1, .inr (.inl v)))]) dL_law_261 nlk_delay rfl (Nat.le_of_ble_eq_true rfl) rfl (by simp [l_ws]) hnc hns (fun p e R s m args below meth c A Z h => h.1) (nw_delay hg (hG.m0 (by decide)) hC hX) ?_
  rintro kc w4 ⟨I', rfl, ⟨rfl, hq⟩ | ⟨rfl, hq⟩⟩
  · skip
    refine n_ws (ws' := l_ws B G G' qo I' J v) (by simp [l_ws]) ?_
    refine n_istore (k := 5) dL_law_264 (by decide) ?_
    refine n_aload_n (k := 2) (x := G'.2.2.1 0 60) dL_law_266 rfl ?_
    refine l_scr (i := i) (z := 1) dL_law_267 dL_law_268 dL_law_270 dL_law_271 dL_law_272 rfl rfl (by decide) (by omega) hL31 ?_
    refine l_scr (i := i) (z := 2) dL_law_273 dL_law_274 dL_law_276 dL_law_277 dL_law_278 rfl rfl (by decide) (by omega) hL31 ?_
    refine l_scr (i := i) (z := 3) dL_law_279 dL_law_280 dL_law_282 dL_law_283 dL_law_284 rfl rfl (by decide) (by omega) hL31 ?_
    refine n_callV (G := G') (I := J) (i := 0) (j := 60) (as := [.inl (xs (i + 1)), .inl (xs (i + 2)), .inl (xs (i + 3))]) (rest := []) (w1 := []) (w3 := am_ws G I' ++ [(qo, .inl (B.2.2, 1, .inr (.inl v)))]) hg' dL_law_285 lkX11_delay ml_L_91 imX11_delay seX11_delay rfl rfl (hG'.m0 (by decide)) rfl (Nat.le_of_ble_eq_true rfl) rfl (by simp [l_ws]) (by omega) (by omega) (hA0 I' hq) ?_
    rintro q J' hqs ⟨ht, hI2⟩
    cases q with
    | some q => cases hqs
    | none =>
      refine n_ws (ws' := l_ws B G G' qo I' J' v) (by simp [l_ws]) ?_
      refine n_aload_n (k := 2) (x := G'.2.2.1 0 60) dL_law_288 rfl ?_
      refine n_callV (G := G') (I := J') (i := 0) (j := 60) (as := []) (rest := []) (w1 := []) (w3 := am_ws G I' ++ [(qo, .inl (B.2.2, 1, .inr (.inl v)))]) hg' dL_law_289 lkX11_thrown ml_L_84 imX11_thrown seX11_thrown rfl rfl (hG'.m0 (by decide)) rfl (Nat.le_of_ble_eq_true rfl) rfl (by simp [l_ws]) (by omega) (by omega) (c_thrown hG' J') ?_
      rintro q9 J9 hq9 ⟨rfl, rfl⟩
      refine n_ws (ws' := l_ws B G G' qo I' J9 v) (by simp [l_ws]) ?_
      refine n_iload (k := 5) (x := 0) dL_law_292 rfl ?_
      refine n_icmp_eq (tgt := 299) dL_law_294 rfl (fun _ => ?_) (fun h => absurd (show J9 0 60 0 = 0 from ht) h)
      refine n_goto (tgt := 1122) dL_law_299 rfl ?_
      exact hk I' J9 v _ _ hI2
  · skip
    refine n_ws (ws' := l_ws B G G' qo I' J v) (by simp [l_ws]) ?_
    refine n_istore (k := 5) dL_law_264 (by decide) ?_
    refine n_aload_n (k := 2) (x := G'.2.2.1 0 60) dL_law_266 rfl ?_
    refine l_scr (i := i) (z := 1) dL_law_267 dL_law_268 dL_law_270 dL_law_271 dL_law_272 rfl rfl (by decide) (by omega) hL31 ?_
    refine l_scr (i := i) (z := 2) dL_law_273 dL_law_274 dL_law_276 dL_law_277 dL_law_278 rfl rfl (by decide) (by omega) hL31 ?_
    refine l_scr (i := i) (z := 3) dL_law_279 dL_law_280 dL_law_282 dL_law_283 dL_law_284 rfl rfl (by decide) (by omega) hL31 ?_
    refine n_callV (G := G') (I := J) (i := 0) (j := 60) (as := [.inl (xs (i + 1)), .inl (xs (i + 2)), .inl (xs (i + 3))]) (rest := []) (w1 := []) (w3 := am_ws G I' ++ [(qo, .inl (B.2.2, 1, .inr (.inl v)))]) hg' dL_law_285 lkX11_delay ml_L_91 imX11_delay seX11_delay rfl rfl (hG'.m0 (by decide)) rfl (Nat.le_of_ble_eq_true rfl) rfl (by simp [l_ws]) (by omega) (by omega) (hA1 I' hq) ?_
    rintro q J' hqs ⟨ht, hI2⟩
    cases q with
    | some q => cases hqs
    | none =>
      refine n_ws (ws' := l_ws B G G' qo I' J' v) (by simp [l_ws]) ?_
      refine n_aload_n (k := 2) (x := G'.2.2.1 0 60) dL_law_288 rfl ?_
      refine n_callV (G := G') (I := J') (i := 0) (j := 60) (as := []) (rest := []) (w1 := []) (w3 := am_ws G I' ++ [(qo, .inl (B.2.2, 1, .inr (.inl v)))]) hg' dL_law_289 lkX11_thrown ml_L_84 imX11_thrown seX11_thrown rfl rfl (hG'.m0 (by decide)) rfl (Nat.le_of_ble_eq_true rfl) rfl (by simp [l_ws]) (by omega) (by omega) (c_thrown hG' J') ?_
      rintro q9 J9 hq9 ⟨rfl, rfl⟩
      refine n_ws (ws' := l_ws B G G' qo I' J9 v) (by simp [l_ws]) ?_
      refine n_iload (k := 5) (x := 1) dL_law_292 rfl ?_
      refine n_icmp_eq (tgt := 299) dL_law_294 rfl (fun _ => ?_) (fun h => absurd (show J9 0 60 0 = 1 from ht) h)
      refine n_goto (tgt := 1122) dL_law_299 rfl ?_
      exact hk I' J9 v _ _ hI2
/-- a step of the law: tick -/
def ls_tick (G G' : am_G) (Inv : Nat → am_I → am_I → Prop) : Prop := ∀ (k : Nat) (I J : am_I) (p0 : Int32), Inv (k + 1) I J → ∃ (Q : Option Int32 → am_I → Prop) (X : String → am_I → Prop), am_CX G 14 mX10_tick [.inr (0, 0), .inl p0] I Q X ∧ (∀ Ex I', X Ex I' → Ex = "java/lang/IllegalArgumentException") ∧ (∀ (r : Int32) (I' : am_I), Q (some r) I' → am_C G' 15 mX11_tick [.inr (0, 60), .inl p0] J (fun q J' => J' 0 60 0 = nI 0 ∧ q = some r ∧ Inv k I' J')) ∧ (∀ (I' : am_I), X "java/lang/IllegalArgumentException" I' → am_C G' 15 mX11_tick [.inr (0, 60), .inl p0] J (fun _ J' => J' 0 60 0 = nI 1 ∧ Inv k I' J'))
theorem nlk_tick : n_lk RL 92 mL_tick hhL_tick 3 := ⟨cwL_tick, am_t1 0 rfl rfl, ml_L_92, am_t4 172 rfl rfl, ⟨by decide +kernel, by decide +kernel, by decide +kernel⟩, by decide, rfl⟩
theorem lc_tick {B : k_B} {G G' : am_G} (hg : k_gb G B) (hg' : k_gb G' B) (hG : am_ok G) (hG' : am_okM G') {Inv : Nat → am_I → am_I → Prop} (hs : ls_tick G G' Inv) {b L qo i k nc ns : Nat} {xs : Nat → Int32} {I J : am_I} {v : Nat → Int64} {a5 a6 : Option am_V} (hI : Inv (k + 1) I J) (hi : i + 6 < L) (hL31 : L < 2 ^ 31) (hnc : nc + 1 ≤ 600002) (hns : ns + 6 ≤ 7302198)
    (hk : ∀ (I' J' : am_I) (v' : Nat → Int64) (b5 b6 : Option am_V), Inv k I' J' → am_N B 16 mL_law 600002 7302198 (n_El B b L xs) 1122 (l_lo b (G.2.2.1 0 0) (G'.2.2.1 0 60) qo i b5 b6) [] (l_ws B G G' qo I' J' v') (nc + 1) (ns + 6)) : am_N B 16 mL_law 600002 7302198 (n_El B b L xs) 302 (l_lo b (G.2.2.1 0 0) (G'.2.2.1 0 60) qo i a5 a6) [] (l_ws B G G' qo I J v) nc ns := by
  obtain ⟨Q, X, hC, hX, hA0, hA1⟩ := hs k I J (xs (i + 1)) hI
  refine n_aload_n (k := 1) (x := G.2.2.1 0 0) dL_law_302 rfl ?_
  refine l_scr (i := i) (z := 1) dL_law_303 dL_law_304 dL_law_306 dL_law_307 dL_law_308 rfl rfl (by decide) (by omega) hL31 ?_
  refine n_aload_n (k := 3) (x := qo) dL_law_309 rfl ?_
  refine n_callW (As := [.ref (G.2.2.1 0 0), .int (xs (i + 1)), .ref qo]) (rest := []) (w1 := am_ws G' J) (w2 := (am_ws G I ++ ([(qo, Sum.inl (B.2.2, 1, Sum.inr (Sum.inl v)))] : va_W) : va_W)) (w3 := []) dL_law_310 nlk_tick rfl (Nat.le_of_ble_eq_true rfl) rfl (by simp [l_ws]) hnc hns (fun p e R s m args below meth c A Z h => h.1) (nw_tick (qo := qo) (v := v) hg (hG.m0 (by decide)) hC hX) ?_
  rintro kc w4 ⟨I', v', rfl, ⟨rfl, r, hq, hv⟩ | ⟨rfl, hq⟩⟩
  · skip
    refine n_ws (ws' := l_ws B G G' qo I' J v') (by simp [l_ws]) ?_
    refine n_istore (k := 5) dL_law_313 (by decide) ?_
    refine n_aload_n (k := 2) (x := G'.2.2.1 0 60) dL_law_315 rfl ?_
    refine l_scr (i := i) (z := 1) dL_law_316 dL_law_317 dL_law_319 dL_law_320 dL_law_321 rfl rfl (by decide) (by omega) hL31 ?_
    refine n_callV (G := G') (I := J) (i := 0) (j := 60) (as := [.inl (xs (i + 1))]) (rest := []) (w1 := []) (w3 := am_ws G I' ++ [(qo, .inl (B.2.2, 1, .inr (.inl v')))]) hg' dL_law_322 lkX11_tick ml_L_95 imX11_tick seX11_tick rfl rfl (hG'.m0 (by decide)) rfl (Nat.le_of_ble_eq_true rfl) rfl (by simp [l_ws]) (by omega) (by omega) (hA0 r I' hq) ?_
    rintro q J' hqs ⟨ht, rfl, hI2⟩
    refine n_ws (ws' := l_ws B G G' qo I' J' v') (by simp [l_ws]) ?_
    refine n_istore (k := 6) dL_law_325 (by decide) ?_
    refine n_aload_n (k := 2) (x := G'.2.2.1 0 60) dL_law_327 rfl ?_
    refine n_callV (G := G') (I := J') (i := 0) (j := 60) (as := []) (rest := []) (w1 := []) (w3 := am_ws G I' ++ [(qo, .inl (B.2.2, 1, .inr (.inl v')))]) hg' dL_law_328 lkX11_thrown ml_L_84 imX11_thrown seX11_thrown rfl rfl (hG'.m0 (by decide)) rfl (Nat.le_of_ble_eq_true rfl) rfl (by simp [l_ws]) (by omega) (by omega) (c_thrown hG' J') ?_
    rintro q9 J9 hq9 ⟨rfl, rfl⟩
    refine n_ws (ws' := l_ws B G G' qo I' J9 v') (by simp [l_ws]) ?_
    refine n_iload (k := 5) (x := 0) dL_law_331 rfl ?_
    refine n_icmp_eq (tgt := 338) dL_law_333 rfl (fun _ => ?_) (fun h => absurd (show J9 0 60 0 = 0 from ht) h)
    refine n_iload (k := 5) (x := 0) dL_law_338 rfl ?_
    refine n_if_ne (tgt := 355) dL_law_340 rfl (fun h => absurd rfl h) (fun _ => ?_)
    refine n_aload_n (k := 3) (x := qo) dL_law_343 rfl ?_
    refine n_iconst (v := 0) dL_law_344 rfl ?_
    refine n_lald (q0 := G'.2.2.2.2.length + G.2.2.2.2.length) (a := qo) (n := 1) (i := 0) (f := v') dL_law_345 (l_at) n_in01 ?_
    rw [show v' (Int32.toNatClampNeg 0) = r.toInt64 from hv]
    refine n_iload (k := 6) (x := r) dL_law_346 rfl ?_
    refine n_i2l dL_law_348 ?_
    refine n_lcmp dL_law_349 ?_
    rw [l_cmp0]
    refine n_if_eq (tgt := 355) dL_law_350 rfl (fun _ => ?_) (fun h => absurd rfl h)
    refine n_goto (tgt := 1122) dL_law_355 rfl ?_
    exact hk I' J9 v' _ _ hI2
  · skip
    refine n_ws (ws' := l_ws B G G' qo I' J v') (by simp [l_ws]) ?_
    refine n_istore (k := 5) dL_law_313 (by decide) ?_
    refine n_aload_n (k := 2) (x := G'.2.2.1 0 60) dL_law_315 rfl ?_
    refine l_scr (i := i) (z := 1) dL_law_316 dL_law_317 dL_law_319 dL_law_320 dL_law_321 rfl rfl (by decide) (by omega) hL31 ?_
    refine n_callV (G := G') (I := J) (i := 0) (j := 60) (as := [.inl (xs (i + 1))]) (rest := []) (w1 := []) (w3 := am_ws G I' ++ [(qo, .inl (B.2.2, 1, .inr (.inl v')))]) hg' dL_law_322 lkX11_tick ml_L_95 imX11_tick seX11_tick rfl rfl (hG'.m0 (by decide)) rfl (Nat.le_of_ble_eq_true rfl) rfl (by simp [l_ws]) (by omega) (by omega) (hA1 I' hq) ?_
    rintro q J' hqs ⟨ht, hI2⟩
    cases q with
    | none => cases hqs
    | some q =>
      refine n_ws (ws' := l_ws B G G' qo I' J' v') (by simp [l_ws]) ?_
      refine n_istore (k := 6) dL_law_325 (by decide) ?_
      refine n_aload_n (k := 2) (x := G'.2.2.1 0 60) dL_law_327 rfl ?_
      refine n_callV (G := G') (I := J') (i := 0) (j := 60) (as := []) (rest := []) (w1 := []) (w3 := am_ws G I' ++ [(qo, .inl (B.2.2, 1, .inr (.inl v')))]) hg' dL_law_328 lkX11_thrown ml_L_84 imX11_thrown seX11_thrown rfl rfl (hG'.m0 (by decide)) rfl (Nat.le_of_ble_eq_true rfl) rfl (by simp [l_ws]) (by omega) (by omega) (c_thrown hG' J') ?_
      rintro q9 J9 hq9 ⟨rfl, rfl⟩
      refine n_ws (ws' := l_ws B G G' qo I' J9 v') (by simp [l_ws]) ?_
      refine n_iload (k := 5) (x := 1) dL_law_331 rfl ?_
      refine n_icmp_eq (tgt := 338) dL_law_333 rfl (fun _ => ?_) (fun h => absurd (show J9 0 60 0 = 1 from ht) h)
      refine n_iload (k := 5) (x := 1) dL_law_338 rfl ?_
      refine n_if_ne (tgt := 355) dL_law_340 rfl (fun _ => ?_) (fun h => absurd h (by decide))
      refine n_goto (tgt := 1122) dL_law_355 rfl ?_
      exact hk I' J9 v' _ _ hI2
/-- a step of the law: crash -/
def ls_crash (G G' : am_G) (Inv : Nat → am_I → am_I → Prop) : Prop := ∀ (k : Nat) (I J : am_I) (p0 p1 : Int32), Inv (k + 1) I J → ∃ (Q : Option Int32 → am_I → Prop) (X : String → am_I → Prop), am_CX G 14 mX10_crash [.inr (0, 0), .inl p0, .inl p1] I Q X ∧ (∀ Ex I', X Ex I' → Ex = "java/lang/IllegalArgumentException" ∨ Ex = "java/lang/IllegalStateException") ∧ (∀ (I' : am_I), Q none I' → am_C G' 15 mX11_crash [.inr (0, 60), .inl p0, .inl p1] J (fun _ J' => J' 0 60 0 = nI 0 ∧ Inv k I' J')) ∧ (∀ (I' : am_I), X "java/lang/IllegalArgumentException" I' → am_C G' 15 mX11_crash [.inr (0, 60), .inl p0, .inl p1] J (fun _ J' => J' 0 60 0 = nI 1 ∧ Inv k I' J')) ∧ (∀ (I' : am_I), X "java/lang/IllegalStateException" I' → am_C G' 15 mX11_crash [.inr (0, 60), .inl p0, .inl p1] J (fun _ J' => J' 0 60 0 = nI 2 ∧ Inv k I' J'))
theorem nlk_crash : n_lk RL 96 mL_crash hhL_crash 3 := ⟨cwL_crash, am_t1 0 rfl rfl, ml_L_96, am_t5 30 rfl rfl, ⟨by decide +kernel, by decide +kernel, by decide +kernel⟩, by decide, rfl⟩
theorem lc_crash {B : k_B} {G G' : am_G} (hg : k_gb G B) (hg' : k_gb G' B) (hG : am_ok G) (hG' : am_okM G') {Inv : Nat → am_I → am_I → Prop} (hs : ls_crash G G' Inv) {b L qo i k nc ns : Nat} {xs : Nat → Int32} {I J : am_I} {v : Nat → Int64} {a5 a6 : Option am_V} (hI : Inv (k + 1) I J) (hi : i + 6 < L) (hL31 : L < 2 ^ 31) (hnc : nc + 1 ≤ 600002) (hns : ns + 6 ≤ 7302198)
    (hk : ∀ (I' J' : am_I) (v' : Nat → Int64) (b5 b6 : Option am_V), Inv k I' J' → am_N B 16 mL_law 600002 7302198 (n_El B b L xs) 1122 (l_lo b (G.2.2.1 0 0) (G'.2.2.1 0 60) qo i b5 b6) [] (l_ws B G G' qo I' J' v') (nc + 1) (ns + 6)) : am_N B 16 mL_law 600002 7302198 (n_El B b L xs) 358 (l_lo b (G.2.2.1 0 0) (G'.2.2.1 0 60) qo i a5 a6) [] (l_ws B G G' qo I J v) nc ns := by
  obtain ⟨Q, X, hC, hX, hA0, hA1, hA2⟩ := hs k I J (xs (i + 1)) (xs (i + 2)) hI
  refine n_aload_n (k := 1) (x := G.2.2.1 0 0) dL_law_358 rfl ?_
  refine l_scr (i := i) (z := 1) dL_law_359 dL_law_360 dL_law_362 dL_law_363 dL_law_364 rfl rfl (by decide) (by omega) hL31 ?_
  refine l_scr (i := i) (z := 2) dL_law_365 dL_law_366 dL_law_368 dL_law_369 dL_law_370 rfl rfl (by decide) (by omega) hL31 ?_
  refine n_callW (As := [.ref (G.2.2.1 0 0), .int (xs (i + 1)), .int (xs (i + 2))]) (rest := []) (w1 := am_ws G' J) (w2 := am_ws G I) (w3 := [(qo, .inl (B.2.2, 1, .inr (.inl v)))]) dL_law_371 nlk_crash rfl (Nat.le_of_ble_eq_true rfl) rfl (by simp [l_ws]) hnc hns (fun p e R s m args below meth c A Z h => h.1) (nw_crash hg (hG.m0 (by decide)) hC hX) ?_
  rintro kc w4 ⟨I', rfl, ⟨rfl, hq⟩ | ⟨rfl, hq⟩ | ⟨rfl, hq⟩⟩
  · skip
    refine n_ws (ws' := l_ws B G G' qo I' J v) (by simp [l_ws]) ?_
    refine n_istore (k := 5) dL_law_374 (by decide) ?_
    refine n_aload_n (k := 2) (x := G'.2.2.1 0 60) dL_law_376 rfl ?_
    refine l_scr (i := i) (z := 1) dL_law_377 dL_law_378 dL_law_380 dL_law_381 dL_law_382 rfl rfl (by decide) (by omega) hL31 ?_
    refine l_scr (i := i) (z := 2) dL_law_383 dL_law_384 dL_law_386 dL_law_387 dL_law_388 rfl rfl (by decide) (by omega) hL31 ?_
    refine n_callV (G := G') (I := J) (i := 0) (j := 60) (as := [.inl (xs (i + 1)), .inl (xs (i + 2))]) (rest := []) (w1 := []) (w3 := am_ws G I' ++ [(qo, .inl (B.2.2, 1, .inr (.inl v)))]) hg' dL_law_389 lkX11_crash ml_L_99 imX11_crash seX11_crash rfl rfl (hG'.m0 (by decide)) rfl (Nat.le_of_ble_eq_true rfl) rfl (by simp [l_ws]) (by omega) (by omega) (hA0 I' hq) ?_
    rintro q J' hqs ⟨ht, hI2⟩
    cases q with
    | some q => cases hqs
    | none =>
      refine n_ws (ws' := l_ws B G G' qo I' J' v) (by simp [l_ws]) ?_
      refine n_aload_n (k := 2) (x := G'.2.2.1 0 60) dL_law_392 rfl ?_
      refine n_callV (G := G') (I := J') (i := 0) (j := 60) (as := []) (rest := []) (w1 := []) (w3 := am_ws G I' ++ [(qo, .inl (B.2.2, 1, .inr (.inl v)))]) hg' dL_law_393 lkX11_thrown ml_L_84 imX11_thrown seX11_thrown rfl rfl (hG'.m0 (by decide)) rfl (Nat.le_of_ble_eq_true rfl) rfl (by simp [l_ws]) (by omega) (by omega) (c_thrown hG' J') ?_
      rintro q9 J9 hq9 ⟨rfl, rfl⟩
      refine n_ws (ws' := l_ws B G G' qo I' J9 v) (by simp [l_ws]) ?_
      refine n_iload (k := 5) (x := 0) dL_law_396 rfl ?_
      refine n_icmp_eq (tgt := 403) dL_law_398 rfl (fun _ => ?_) (fun h => absurd (show J9 0 60 0 = 0 from ht) h)
      refine n_goto (tgt := 1122) dL_law_403 rfl ?_
      exact hk I' J9 v _ _ hI2
  · skip
    refine n_ws (ws' := l_ws B G G' qo I' J v) (by simp [l_ws]) ?_
    refine n_istore (k := 5) dL_law_374 (by decide) ?_
    refine n_aload_n (k := 2) (x := G'.2.2.1 0 60) dL_law_376 rfl ?_
    refine l_scr (i := i) (z := 1) dL_law_377 dL_law_378 dL_law_380 dL_law_381 dL_law_382 rfl rfl (by decide) (by omega) hL31 ?_
    refine l_scr (i := i) (z := 2) dL_law_383 dL_law_384 dL_law_386 dL_law_387 dL_law_388 rfl rfl (by decide) (by omega) hL31 ?_
    refine n_callV (G := G') (I := J) (i := 0) (j := 60) (as := [.inl (xs (i + 1)), .inl (xs (i + 2))]) (rest := []) (w1 := []) (w3 := am_ws G I' ++ [(qo, .inl (B.2.2, 1, .inr (.inl v)))]) hg' dL_law_389 lkX11_crash ml_L_99 imX11_crash seX11_crash rfl rfl (hG'.m0 (by decide)) rfl (Nat.le_of_ble_eq_true rfl) rfl (by simp [l_ws]) (by omega) (by omega) (hA1 I' hq) ?_
    rintro q J' hqs ⟨ht, hI2⟩
    cases q with
    | some q => cases hqs
    | none =>
      refine n_ws (ws' := l_ws B G G' qo I' J' v) (by simp [l_ws]) ?_
      refine n_aload_n (k := 2) (x := G'.2.2.1 0 60) dL_law_392 rfl ?_
      refine n_callV (G := G') (I := J') (i := 0) (j := 60) (as := []) (rest := []) (w1 := []) (w3 := am_ws G I' ++ [(qo, .inl (B.2.2, 1, .inr (.inl v)))]) hg' dL_law_393 lkX11_thrown ml_L_84 imX11_thrown seX11_thrown rfl rfl (hG'.m0 (by decide)) rfl (Nat.le_of_ble_eq_true rfl) rfl (by simp [l_ws]) (by omega) (by omega) (c_thrown hG' J') ?_
      rintro q9 J9 hq9 ⟨rfl, rfl⟩
      refine n_ws (ws' := l_ws B G G' qo I' J9 v) (by simp [l_ws]) ?_
      refine n_iload (k := 5) (x := 1) dL_law_396 rfl ?_
      refine n_icmp_eq (tgt := 403) dL_law_398 rfl (fun _ => ?_) (fun h => absurd (show J9 0 60 0 = 1 from ht) h)
      refine n_goto (tgt := 1122) dL_law_403 rfl ?_
      exact hk I' J9 v _ _ hI2
  · skip
    refine n_ws (ws' := l_ws B G G' qo I' J v) (by simp [l_ws]) ?_
    refine n_istore (k := 5) dL_law_374 (by decide) ?_
    refine n_aload_n (k := 2) (x := G'.2.2.1 0 60) dL_law_376 rfl ?_
    refine l_scr (i := i) (z := 1) dL_law_377 dL_law_378 dL_law_380 dL_law_381 dL_law_382 rfl rfl (by decide) (by omega) hL31 ?_
    refine l_scr (i := i) (z := 2) dL_law_383 dL_law_384 dL_law_386 dL_law_387 dL_law_388 rfl rfl (by decide) (by omega) hL31 ?_
    refine n_callV (G := G') (I := J) (i := 0) (j := 60) (as := [.inl (xs (i + 1)), .inl (xs (i + 2))]) (rest := []) (w1 := []) (w3 := am_ws G I' ++ [(qo, .inl (B.2.2, 1, .inr (.inl v)))]) hg' dL_law_389 lkX11_crash ml_L_99 imX11_crash seX11_crash rfl rfl (hG'.m0 (by decide)) rfl (Nat.le_of_ble_eq_true rfl) rfl (by simp [l_ws]) (by omega) (by omega) (hA2 I' hq) ?_
    rintro q J' hqs ⟨ht, hI2⟩
    cases q with
    | some q => cases hqs
    | none =>
      refine n_ws (ws' := l_ws B G G' qo I' J' v) (by simp [l_ws]) ?_
      refine n_aload_n (k := 2) (x := G'.2.2.1 0 60) dL_law_392 rfl ?_
      refine n_callV (G := G') (I := J') (i := 0) (j := 60) (as := []) (rest := []) (w1 := []) (w3 := am_ws G I' ++ [(qo, .inl (B.2.2, 1, .inr (.inl v)))]) hg' dL_law_393 lkX11_thrown ml_L_84 imX11_thrown seX11_thrown rfl rfl (hG'.m0 (by decide)) rfl (Nat.le_of_ble_eq_true rfl) rfl (by simp [l_ws]) (by omega) (by omega) (c_thrown hG' J') ?_
      rintro q9 J9 hq9 ⟨rfl, rfl⟩
      refine n_ws (ws' := l_ws B G G' qo I' J9 v) (by simp [l_ws]) ?_
      refine n_iload (k := 5) (x := 2) dL_law_396 rfl ?_
      refine n_icmp_eq (tgt := 403) dL_law_398 rfl (fun _ => ?_) (fun h => absurd (show J9 0 60 0 = 2 from ht) h)
      refine n_goto (tgt := 1122) dL_law_403 rfl ?_
      exact hk I' J9 v _ _ hI2
/-- a step of the law: recover -/
def ls_recover (G G' : am_G) (Inv : Nat → am_I → am_I → Prop) : Prop := ∀ (k : Nat) (I J : am_I) (p0 : Int32), Inv (k + 1) I J → ∃ (Q : Option Int32 → am_I → Prop) (X : String → am_I → Prop), am_CX G 14 mX10_recover [.inr (0, 0), .inl p0] I Q X ∧ (∀ Ex I', X Ex I' → Ex = "java/lang/IllegalArgumentException" ∨ Ex = "java/lang/IllegalStateException") ∧ (∀ (r : Int32) (I' : am_I), Q (some r) I' → am_C G' 15 mX11_recover [.inr (0, 60), .inl p0] J (fun q J' => J' 0 60 0 = nI 0 ∧ q = some r ∧ Inv k I' J')) ∧ (∀ (I' : am_I), X "java/lang/IllegalArgumentException" I' → am_C G' 15 mX11_recover [.inr (0, 60), .inl p0] J (fun _ J' => J' 0 60 0 = nI 1 ∧ Inv k I' J')) ∧ (∀ (I' : am_I), X "java/lang/IllegalStateException" I' → am_C G' 15 mX11_recover [.inr (0, 60), .inl p0] J (fun _ J' => J' 0 60 0 = nI 2 ∧ Inv k I' J'))
theorem nlk_recover : n_lk RL 100 mL_recover hhL_recover 3 := ⟨cwL_recover, am_t1 0 rfl rfl, ml_L_100, am_t5 72 rfl rfl, ⟨by decide +kernel, by decide +kernel, by decide +kernel⟩, by decide, rfl⟩
theorem lc_recover {B : k_B} {G G' : am_G} (hg : k_gb G B) (hg' : k_gb G' B) (hG : am_ok G) (hG' : am_okM G') {Inv : Nat → am_I → am_I → Prop} (hs : ls_recover G G' Inv) {b L qo i k nc ns : Nat} {xs : Nat → Int32} {I J : am_I} {v : Nat → Int64} {a5 a6 : Option am_V} (hI : Inv (k + 1) I J) (hi : i + 6 < L) (hL31 : L < 2 ^ 31) (hnc : nc + 1 ≤ 600002) (hns : ns + 6 ≤ 7302198)
    (hk : ∀ (I' J' : am_I) (v' : Nat → Int64) (b5 b6 : Option am_V), Inv k I' J' → am_N B 16 mL_law 600002 7302198 (n_El B b L xs) 1122 (l_lo b (G.2.2.1 0 0) (G'.2.2.1 0 60) qo i b5 b6) [] (l_ws B G G' qo I' J' v') (nc + 1) (ns + 6)) : am_N B 16 mL_law 600002 7302198 (n_El B b L xs) 406 (l_lo b (G.2.2.1 0 0) (G'.2.2.1 0 60) qo i a5 a6) [] (l_ws B G G' qo I J v) nc ns := by
  obtain ⟨Q, X, hC, hX, hA0, hA1, hA2⟩ := hs k I J (xs (i + 1)) hI
  refine n_aload_n (k := 1) (x := G.2.2.1 0 0) dL_law_406 rfl ?_
  refine l_scr (i := i) (z := 1) dL_law_407 dL_law_408 dL_law_410 dL_law_411 dL_law_412 rfl rfl (by decide) (by omega) hL31 ?_
  refine n_aload_n (k := 3) (x := qo) dL_law_413 rfl ?_
  refine n_callW (As := [.ref (G.2.2.1 0 0), .int (xs (i + 1)), .ref qo]) (rest := []) (w1 := am_ws G' J) (w2 := (am_ws G I ++ ([(qo, Sum.inl (B.2.2, 1, Sum.inr (Sum.inl v)))] : va_W) : va_W)) (w3 := []) dL_law_414 nlk_recover rfl (Nat.le_of_ble_eq_true rfl) rfl (by simp [l_ws]) hnc hns (fun p e R s m args below meth c A Z h => h.1) (nw_recover (qo := qo) (v := v) hg (hG.m0 (by decide)) hC hX) ?_
  rintro kc w4 ⟨I', v', rfl, ⟨rfl, r, hq, hv⟩ | ⟨rfl, hq⟩ | ⟨rfl, hq⟩⟩
  · skip
    refine n_ws (ws' := l_ws B G G' qo I' J v') (by simp [l_ws]) ?_
    refine n_istore (k := 5) dL_law_417 (by decide) ?_
    refine n_aload_n (k := 2) (x := G'.2.2.1 0 60) dL_law_419 rfl ?_
    refine l_scr (i := i) (z := 1) dL_law_420 dL_law_421 dL_law_423 dL_law_424 dL_law_425 rfl rfl (by decide) (by omega) hL31 ?_
    refine n_callV (G := G') (I := J) (i := 0) (j := 60) (as := [.inl (xs (i + 1))]) (rest := []) (w1 := []) (w3 := am_ws G I' ++ [(qo, .inl (B.2.2, 1, .inr (.inl v')))]) hg' dL_law_426 lkX11_recover ml_L_102 imX11_recover seX11_recover rfl rfl (hG'.m0 (by decide)) rfl (Nat.le_of_ble_eq_true rfl) rfl (by simp [l_ws]) (by omega) (by omega) (hA0 r I' hq) ?_
    rintro q J' hqs ⟨ht, rfl, hI2⟩
    refine n_ws (ws' := l_ws B G G' qo I' J' v') (by simp [l_ws]) ?_
    refine n_istore (k := 6) dL_law_429 (by decide) ?_
    refine n_aload_n (k := 2) (x := G'.2.2.1 0 60) dL_law_431 rfl ?_
    refine n_callV (G := G') (I := J') (i := 0) (j := 60) (as := []) (rest := []) (w1 := []) (w3 := am_ws G I' ++ [(qo, .inl (B.2.2, 1, .inr (.inl v')))]) hg' dL_law_432 lkX11_thrown ml_L_84 imX11_thrown seX11_thrown rfl rfl (hG'.m0 (by decide)) rfl (Nat.le_of_ble_eq_true rfl) rfl (by simp [l_ws]) (by omega) (by omega) (c_thrown hG' J') ?_
    rintro q9 J9 hq9 ⟨rfl, rfl⟩
    refine n_ws (ws' := l_ws B G G' qo I' J9 v') (by simp [l_ws]) ?_
    refine n_iload (k := 5) (x := 0) dL_law_435 rfl ?_
    refine n_icmp_eq (tgt := 442) dL_law_437 rfl (fun _ => ?_) (fun h => absurd (show J9 0 60 0 = 0 from ht) h)
    refine n_iload (k := 5) (x := 0) dL_law_442 rfl ?_
    refine n_if_ne (tgt := 459) dL_law_444 rfl (fun h => absurd rfl h) (fun _ => ?_)
    refine n_aload_n (k := 3) (x := qo) dL_law_447 rfl ?_
    refine n_iconst (v := 0) dL_law_448 rfl ?_
    refine n_lald (q0 := G'.2.2.2.2.length + G.2.2.2.2.length) (a := qo) (n := 1) (i := 0) (f := v') dL_law_449 (l_at) n_in01 ?_
    rw [show v' (Int32.toNatClampNeg 0) = r.toInt64 from hv]
    refine n_iload (k := 6) (x := r) dL_law_450 rfl ?_
    refine n_i2l dL_law_452 ?_
    refine n_lcmp dL_law_453 ?_
    rw [l_cmp0]
    refine n_if_eq (tgt := 459) dL_law_454 rfl (fun _ => ?_) (fun h => absurd rfl h)
    refine n_goto (tgt := 1122) dL_law_459 rfl ?_
    exact hk I' J9 v' _ _ hI2
  · skip
    refine n_ws (ws' := l_ws B G G' qo I' J v') (by simp [l_ws]) ?_
    refine n_istore (k := 5) dL_law_417 (by decide) ?_
    refine n_aload_n (k := 2) (x := G'.2.2.1 0 60) dL_law_419 rfl ?_
    refine l_scr (i := i) (z := 1) dL_law_420 dL_law_421 dL_law_423 dL_law_424 dL_law_425 rfl rfl (by decide) (by omega) hL31 ?_
    refine n_callV (G := G') (I := J) (i := 0) (j := 60) (as := [.inl (xs (i + 1))]) (rest := []) (w1 := []) (w3 := am_ws G I' ++ [(qo, .inl (B.2.2, 1, .inr (.inl v')))]) hg' dL_law_426 lkX11_recover ml_L_102 imX11_recover seX11_recover rfl rfl (hG'.m0 (by decide)) rfl (Nat.le_of_ble_eq_true rfl) rfl (by simp [l_ws]) (by omega) (by omega) (hA1 I' hq) ?_
    rintro q J' hqs ⟨ht, hI2⟩
    cases q with
    | none => cases hqs
    | some q =>
      refine n_ws (ws' := l_ws B G G' qo I' J' v') (by simp [l_ws]) ?_
      refine n_istore (k := 6) dL_law_429 (by decide) ?_
      refine n_aload_n (k := 2) (x := G'.2.2.1 0 60) dL_law_431 rfl ?_
      refine n_callV (G := G') (I := J') (i := 0) (j := 60) (as := []) (rest := []) (w1 := []) (w3 := am_ws G I' ++ [(qo, .inl (B.2.2, 1, .inr (.inl v')))]) hg' dL_law_432 lkX11_thrown ml_L_84 imX11_thrown seX11_thrown rfl rfl (hG'.m0 (by decide)) rfl (Nat.le_of_ble_eq_true rfl) rfl (by simp [l_ws]) (by omega) (by omega) (c_thrown hG' J') ?_
      rintro q9 J9 hq9 ⟨rfl, rfl⟩
      refine n_ws (ws' := l_ws B G G' qo I' J9 v') (by simp [l_ws]) ?_
      refine n_iload (k := 5) (x := 1) dL_law_435 rfl ?_
      refine n_icmp_eq (tgt := 442) dL_law_437 rfl (fun _ => ?_) (fun h => absurd (show J9 0 60 0 = 1 from ht) h)
      refine n_iload (k := 5) (x := 1) dL_law_442 rfl ?_
      refine n_if_ne (tgt := 459) dL_law_444 rfl (fun _ => ?_) (fun h => absurd h (by decide))
      refine n_goto (tgt := 1122) dL_law_459 rfl ?_
      exact hk I' J9 v' _ _ hI2
  · skip
    refine n_ws (ws' := l_ws B G G' qo I' J v') (by simp [l_ws]) ?_
    refine n_istore (k := 5) dL_law_417 (by decide) ?_
    refine n_aload_n (k := 2) (x := G'.2.2.1 0 60) dL_law_419 rfl ?_
    refine l_scr (i := i) (z := 1) dL_law_420 dL_law_421 dL_law_423 dL_law_424 dL_law_425 rfl rfl (by decide) (by omega) hL31 ?_
    refine n_callV (G := G') (I := J) (i := 0) (j := 60) (as := [.inl (xs (i + 1))]) (rest := []) (w1 := []) (w3 := am_ws G I' ++ [(qo, .inl (B.2.2, 1, .inr (.inl v')))]) hg' dL_law_426 lkX11_recover ml_L_102 imX11_recover seX11_recover rfl rfl (hG'.m0 (by decide)) rfl (Nat.le_of_ble_eq_true rfl) rfl (by simp [l_ws]) (by omega) (by omega) (hA2 I' hq) ?_
    rintro q J' hqs ⟨ht, hI2⟩
    cases q with
    | none => cases hqs
    | some q =>
      refine n_ws (ws' := l_ws B G G' qo I' J' v') (by simp [l_ws]) ?_
      refine n_istore (k := 6) dL_law_429 (by decide) ?_
      refine n_aload_n (k := 2) (x := G'.2.2.1 0 60) dL_law_431 rfl ?_
      refine n_callV (G := G') (I := J') (i := 0) (j := 60) (as := []) (rest := []) (w1 := []) (w3 := am_ws G I' ++ [(qo, .inl (B.2.2, 1, .inr (.inl v')))]) hg' dL_law_432 lkX11_thrown ml_L_84 imX11_thrown seX11_thrown rfl rfl (hG'.m0 (by decide)) rfl (Nat.le_of_ble_eq_true rfl) rfl (by simp [l_ws]) (by omega) (by omega) (c_thrown hG' J') ?_
      rintro q9 J9 hq9 ⟨rfl, rfl⟩
      refine n_ws (ws' := l_ws B G G' qo I' J9 v') (by simp [l_ws]) ?_
      refine n_iload (k := 5) (x := 2) dL_law_435 rfl ?_
      refine n_icmp_eq (tgt := 442) dL_law_437 rfl (fun _ => ?_) (fun h => absurd (show J9 0 60 0 = 2 from ht) h)
      refine n_iload (k := 5) (x := 2) dL_law_442 rfl ?_
      refine n_if_ne (tgt := 459) dL_law_444 rfl (fun _ => ?_) (fun h => absurd h (by decide))
      refine n_goto (tgt := 1122) dL_law_459 rfl ?_
      exact hk I' J9 v' _ _ hI2
/-- a step of the law: start -/
def ls_start (G G' : am_G) (Inv : Nat → am_I → am_I → Prop) : Prop := ∀ (k : Nat) (I J : am_I) (p0 : Int32), Inv (k + 1) I J → ∃ (Q : Option Int32 → am_I → Prop) (X : String → am_I → Prop), am_CX G 14 mX10_start [.inr (0, 0), .inl p0] I Q X ∧ (∀ Ex I', X Ex I' → Ex = "java/lang/IllegalArgumentException" ∨ Ex = "java/lang/IllegalStateException") ∧ (∀ (I' : am_I), Q none I' → am_C G' 15 mX11_start [.inr (0, 60), .inl p0] J (fun _ J' => J' 0 60 0 = nI 0 ∧ Inv k I' J')) ∧ (∀ (I' : am_I), X "java/lang/IllegalArgumentException" I' → am_C G' 15 mX11_start [.inr (0, 60), .inl p0] J (fun _ J' => J' 0 60 0 = nI 1 ∧ Inv k I' J')) ∧ (∀ (I' : am_I), X "java/lang/IllegalStateException" I' → am_C G' 15 mX11_start [.inr (0, 60), .inl p0] J (fun _ J' => J' 0 60 0 = nI 2 ∧ Inv k I' J'))
theorem nlk_start : n_lk RL 103 mL_start hhL_start 2 := ⟨cwL_start, am_t1 0 rfl rfl, ml_L_103, am_t5 94 rfl rfl, ⟨by decide +kernel, by decide +kernel, by decide +kernel⟩, by decide, rfl⟩
theorem lc_start {B : k_B} {G G' : am_G} (hg : k_gb G B) (hg' : k_gb G' B) (hG : am_ok G) (hG' : am_okM G') {Inv : Nat → am_I → am_I → Prop} (hs : ls_start G G' Inv) {b L qo i k nc ns : Nat} {xs : Nat → Int32} {I J : am_I} {v : Nat → Int64} {a5 a6 : Option am_V} (hI : Inv (k + 1) I J) (hi : i + 6 < L) (hL31 : L < 2 ^ 31) (hnc : nc + 1 ≤ 600002) (hns : ns + 6 ≤ 7302198)
    (hk : ∀ (I' J' : am_I) (v' : Nat → Int64) (b5 b6 : Option am_V), Inv k I' J' → am_N B 16 mL_law 600002 7302198 (n_El B b L xs) 1122 (l_lo b (G.2.2.1 0 0) (G'.2.2.1 0 60) qo i b5 b6) [] (l_ws B G G' qo I' J' v') (nc + 1) (ns + 6)) : am_N B 16 mL_law 600002 7302198 (n_El B b L xs) 462 (l_lo b (G.2.2.1 0 0) (G'.2.2.1 0 60) qo i a5 a6) [] (l_ws B G G' qo I J v) nc ns := by
  obtain ⟨Q, X, hC, hX, hA0, hA1, hA2⟩ := hs k I J (xs (i + 1)) hI
  refine n_aload_n (k := 1) (x := G.2.2.1 0 0) dL_law_462 rfl ?_
  refine l_scr (i := i) (z := 1) dL_law_463 dL_law_464 dL_law_466 dL_law_467 dL_law_468 rfl rfl (by decide) (by omega) hL31 ?_
  refine n_callW (As := [.ref (G.2.2.1 0 0), .int (xs (i + 1))]) (rest := []) (w1 := am_ws G' J) (w2 := am_ws G I) (w3 := [(qo, .inl (B.2.2, 1, .inr (.inl v)))]) dL_law_469 nlk_start rfl (Nat.le_of_ble_eq_true rfl) rfl (by simp [l_ws]) hnc hns (fun p e R s m args below meth c A Z h => h.1) (nw_start hg (hG.m0 (by decide)) hC hX) ?_
  rintro kc w4 ⟨I', rfl, ⟨rfl, hq⟩ | ⟨rfl, hq⟩ | ⟨rfl, hq⟩⟩
  · skip
    refine n_ws (ws' := l_ws B G G' qo I' J v) (by simp [l_ws]) ?_
    refine n_istore (k := 5) dL_law_472 (by decide) ?_
    refine n_aload_n (k := 2) (x := G'.2.2.1 0 60) dL_law_474 rfl ?_
    refine l_scr (i := i) (z := 1) dL_law_475 dL_law_476 dL_law_478 dL_law_479 dL_law_480 rfl rfl (by decide) (by omega) hL31 ?_
    refine n_callV (G := G') (I := J) (i := 0) (j := 60) (as := [.inl (xs (i + 1))]) (rest := []) (w1 := []) (w3 := am_ws G I' ++ [(qo, .inl (B.2.2, 1, .inr (.inl v)))]) hg' dL_law_481 lkX11_start ml_L_106 imX11_start seX11_start rfl rfl (hG'.m0 (by decide)) rfl (Nat.le_of_ble_eq_true rfl) rfl (by simp [l_ws]) (by omega) (by omega) (hA0 I' hq) ?_
    rintro q J' hqs ⟨ht, hI2⟩
    cases q with
    | some q => cases hqs
    | none =>
      refine n_ws (ws' := l_ws B G G' qo I' J' v) (by simp [l_ws]) ?_
      refine n_aload_n (k := 2) (x := G'.2.2.1 0 60) dL_law_484 rfl ?_
      refine n_callV (G := G') (I := J') (i := 0) (j := 60) (as := []) (rest := []) (w1 := []) (w3 := am_ws G I' ++ [(qo, .inl (B.2.2, 1, .inr (.inl v)))]) hg' dL_law_485 lkX11_thrown ml_L_84 imX11_thrown seX11_thrown rfl rfl (hG'.m0 (by decide)) rfl (Nat.le_of_ble_eq_true rfl) rfl (by simp [l_ws]) (by omega) (by omega) (c_thrown hG' J') ?_
      rintro q9 J9 hq9 ⟨rfl, rfl⟩
      refine n_ws (ws' := l_ws B G G' qo I' J9 v) (by simp [l_ws]) ?_
      refine n_iload (k := 5) (x := 0) dL_law_488 rfl ?_
      refine n_icmp_eq (tgt := 495) dL_law_490 rfl (fun _ => ?_) (fun h => absurd (show J9 0 60 0 = 0 from ht) h)
      refine n_goto (tgt := 1122) dL_law_495 rfl ?_
      exact hk I' J9 v _ _ hI2
  · skip
    refine n_ws (ws' := l_ws B G G' qo I' J v) (by simp [l_ws]) ?_
    refine n_istore (k := 5) dL_law_472 (by decide) ?_
    refine n_aload_n (k := 2) (x := G'.2.2.1 0 60) dL_law_474 rfl ?_
    refine l_scr (i := i) (z := 1) dL_law_475 dL_law_476 dL_law_478 dL_law_479 dL_law_480 rfl rfl (by decide) (by omega) hL31 ?_
    refine n_callV (G := G') (I := J) (i := 0) (j := 60) (as := [.inl (xs (i + 1))]) (rest := []) (w1 := []) (w3 := am_ws G I' ++ [(qo, .inl (B.2.2, 1, .inr (.inl v)))]) hg' dL_law_481 lkX11_start ml_L_106 imX11_start seX11_start rfl rfl (hG'.m0 (by decide)) rfl (Nat.le_of_ble_eq_true rfl) rfl (by simp [l_ws]) (by omega) (by omega) (hA1 I' hq) ?_
    rintro q J' hqs ⟨ht, hI2⟩
    cases q with
    | some q => cases hqs
    | none =>
      refine n_ws (ws' := l_ws B G G' qo I' J' v) (by simp [l_ws]) ?_
      refine n_aload_n (k := 2) (x := G'.2.2.1 0 60) dL_law_484 rfl ?_
      refine n_callV (G := G') (I := J') (i := 0) (j := 60) (as := []) (rest := []) (w1 := []) (w3 := am_ws G I' ++ [(qo, .inl (B.2.2, 1, .inr (.inl v)))]) hg' dL_law_485 lkX11_thrown ml_L_84 imX11_thrown seX11_thrown rfl rfl (hG'.m0 (by decide)) rfl (Nat.le_of_ble_eq_true rfl) rfl (by simp [l_ws]) (by omega) (by omega) (c_thrown hG' J') ?_
      rintro q9 J9 hq9 ⟨rfl, rfl⟩
      refine n_ws (ws' := l_ws B G G' qo I' J9 v) (by simp [l_ws]) ?_
      refine n_iload (k := 5) (x := 1) dL_law_488 rfl ?_
      refine n_icmp_eq (tgt := 495) dL_law_490 rfl (fun _ => ?_) (fun h => absurd (show J9 0 60 0 = 1 from ht) h)
      refine n_goto (tgt := 1122) dL_law_495 rfl ?_
      exact hk I' J9 v _ _ hI2
  · skip
    refine n_ws (ws' := l_ws B G G' qo I' J v) (by simp [l_ws]) ?_
    refine n_istore (k := 5) dL_law_472 (by decide) ?_
    refine n_aload_n (k := 2) (x := G'.2.2.1 0 60) dL_law_474 rfl ?_
    refine l_scr (i := i) (z := 1) dL_law_475 dL_law_476 dL_law_478 dL_law_479 dL_law_480 rfl rfl (by decide) (by omega) hL31 ?_
    refine n_callV (G := G') (I := J) (i := 0) (j := 60) (as := [.inl (xs (i + 1))]) (rest := []) (w1 := []) (w3 := am_ws G I' ++ [(qo, .inl (B.2.2, 1, .inr (.inl v)))]) hg' dL_law_481 lkX11_start ml_L_106 imX11_start seX11_start rfl rfl (hG'.m0 (by decide)) rfl (Nat.le_of_ble_eq_true rfl) rfl (by simp [l_ws]) (by omega) (by omega) (hA2 I' hq) ?_
    rintro q J' hqs ⟨ht, hI2⟩
    cases q with
    | some q => cases hqs
    | none =>
      refine n_ws (ws' := l_ws B G G' qo I' J' v) (by simp [l_ws]) ?_
      refine n_aload_n (k := 2) (x := G'.2.2.1 0 60) dL_law_484 rfl ?_
      refine n_callV (G := G') (I := J') (i := 0) (j := 60) (as := []) (rest := []) (w1 := []) (w3 := am_ws G I' ++ [(qo, .inl (B.2.2, 1, .inr (.inl v)))]) hg' dL_law_485 lkX11_thrown ml_L_84 imX11_thrown seX11_thrown rfl rfl (hG'.m0 (by decide)) rfl (Nat.le_of_ble_eq_true rfl) rfl (by simp [l_ws]) (by omega) (by omega) (c_thrown hG' J') ?_
      rintro q9 J9 hq9 ⟨rfl, rfl⟩
      refine n_ws (ws' := l_ws B G G' qo I' J9 v) (by simp [l_ws]) ?_
      refine n_iload (k := 5) (x := 2) dL_law_488 rfl ?_
      refine n_icmp_eq (tgt := 495) dL_law_490 rfl (fun _ => ?_) (fun h => absurd (show J9 0 60 0 = 2 from ht) h)
      refine n_goto (tgt := 1122) dL_law_495 rfl ?_
      exact hk I' J9 v _ _ hI2
/-- a step of the law: result -/
def ls_result (G G' : am_G) (Inv : Nat → am_I → am_I → Prop) : Prop := ∀ (k : Nat) (I J : am_I) (p0 p1 : Int32), Inv (k + 1) I J → ∃ (Q : Option Int32 → am_I → Prop) (X : String → am_I → Prop), am_CX G 14 mX10_result [.inr (0, 0), .inl p0, .inl p1] I Q X ∧ (∀ Ex I', X Ex I' → Ex = "java/lang/IllegalArgumentException") ∧ (∀ (r : Int32) (I' : am_I), Q (some r) I' → am_C G' 15 mX11_result [.inr (0, 60), .inl p0, .inl p1] J (fun q J' => J' 0 60 0 = nI 0 ∧ q = some r ∧ Inv k I' J')) ∧ (∀ (I' : am_I), X "java/lang/IllegalArgumentException" I' → am_C G' 15 mX11_result [.inr (0, 60), .inl p0, .inl p1] J (fun _ J' => J' 0 60 0 = nI 1 ∧ Inv k I' J'))
theorem nlk_result : n_lk RL 107 mL_result hhL_result 4 := ⟨cwL_result, am_t1 0 rfl rfl, ml_L_107, am_t5 106 rfl rfl, ⟨by decide +kernel, by decide +kernel, by decide +kernel⟩, by decide, rfl⟩
theorem lc_result {B : k_B} {G G' : am_G} (hg : k_gb G B) (hg' : k_gb G' B) (hG : am_ok G) (hG' : am_okM G') {Inv : Nat → am_I → am_I → Prop} (hs : ls_result G G' Inv) {b L qo i k nc ns : Nat} {xs : Nat → Int32} {I J : am_I} {v : Nat → Int64} {a5 a6 : Option am_V} (hI : Inv (k + 1) I J) (hi : i + 6 < L) (hL31 : L < 2 ^ 31) (hnc : nc + 1 ≤ 600002) (hns : ns + 6 ≤ 7302198)
    (hk : ∀ (I' J' : am_I) (v' : Nat → Int64) (b5 b6 : Option am_V), Inv k I' J' → am_N B 16 mL_law 600002 7302198 (n_El B b L xs) 1122 (l_lo b (G.2.2.1 0 0) (G'.2.2.1 0 60) qo i b5 b6) [] (l_ws B G G' qo I' J' v') (nc + 1) (ns + 6)) : am_N B 16 mL_law 600002 7302198 (n_El B b L xs) 498 (l_lo b (G.2.2.1 0 0) (G'.2.2.1 0 60) qo i a5 a6) [] (l_ws B G G' qo I J v) nc ns := by
  obtain ⟨Q, X, hC, hX, hA0, hA1⟩ := hs k I J (xs (i + 1)) (xs (i + 2)) hI
  refine n_aload_n (k := 1) (x := G.2.2.1 0 0) dL_law_498 rfl ?_
  refine l_scr (i := i) (z := 1) dL_law_499 dL_law_500 dL_law_502 dL_law_503 dL_law_504 rfl rfl (by decide) (by omega) hL31 ?_
  refine l_scr (i := i) (z := 2) dL_law_505 dL_law_506 dL_law_508 dL_law_509 dL_law_510 rfl rfl (by decide) (by omega) hL31 ?_
  refine n_aload_n (k := 3) (x := qo) dL_law_511 rfl ?_
  refine n_callW (As := [.ref (G.2.2.1 0 0), .int (xs (i + 1)), .int (xs (i + 2)), .ref qo]) (rest := []) (w1 := am_ws G' J) (w2 := (am_ws G I ++ ([(qo, Sum.inl (B.2.2, 1, Sum.inr (Sum.inl v)))] : va_W) : va_W)) (w3 := []) dL_law_512 nlk_result rfl (Nat.le_of_ble_eq_true rfl) rfl (by simp [l_ws]) hnc hns (fun p e R s m args below meth c A Z h => h.1) (nw_result (qo := qo) (v := v) hg (hG.m0 (by decide)) hC hX) ?_
  rintro kc w4 ⟨I', v', rfl, ⟨rfl, r, hq, hv⟩ | ⟨rfl, hq⟩⟩
  · skip
    refine n_ws (ws' := l_ws B G G' qo I' J v') (by simp [l_ws]) ?_
    refine n_istore (k := 5) dL_law_515 (by decide) ?_
    refine n_aload_n (k := 2) (x := G'.2.2.1 0 60) dL_law_517 rfl ?_
    refine l_scr (i := i) (z := 1) dL_law_518 dL_law_519 dL_law_521 dL_law_522 dL_law_523 rfl rfl (by decide) (by omega) hL31 ?_
    refine l_scr (i := i) (z := 2) dL_law_524 dL_law_525 dL_law_527 dL_law_528 dL_law_529 rfl rfl (by decide) (by omega) hL31 ?_
    refine n_callV (G := G') (I := J) (i := 0) (j := 60) (as := [.inl (xs (i + 1)), .inl (xs (i + 2))]) (rest := []) (w1 := []) (w3 := am_ws G I' ++ [(qo, .inl (B.2.2, 1, .inr (.inl v')))]) hg' dL_law_530 lkX11_result ml_L_110 imX11_result seX11_result rfl rfl (hG'.m0 (by decide)) rfl (Nat.le_of_ble_eq_true rfl) rfl (by simp [l_ws]) (by omega) (by omega) (hA0 r I' hq) ?_
    rintro q J' hqs ⟨ht, rfl, hI2⟩
    refine n_ws (ws' := l_ws B G G' qo I' J' v') (by simp [l_ws]) ?_
    refine n_istore (k := 6) dL_law_533 (by decide) ?_
    refine n_aload_n (k := 2) (x := G'.2.2.1 0 60) dL_law_535 rfl ?_
    refine n_callV (G := G') (I := J') (i := 0) (j := 60) (as := []) (rest := []) (w1 := []) (w3 := am_ws G I' ++ [(qo, .inl (B.2.2, 1, .inr (.inl v')))]) hg' dL_law_536 lkX11_thrown ml_L_84 imX11_thrown seX11_thrown rfl rfl (hG'.m0 (by decide)) rfl (Nat.le_of_ble_eq_true rfl) rfl (by simp [l_ws]) (by omega) (by omega) (c_thrown hG' J') ?_
    rintro q9 J9 hq9 ⟨rfl, rfl⟩
    refine n_ws (ws' := l_ws B G G' qo I' J9 v') (by simp [l_ws]) ?_
    refine n_iload (k := 5) (x := 0) dL_law_539 rfl ?_
    refine n_icmp_eq (tgt := 546) dL_law_541 rfl (fun _ => ?_) (fun h => absurd (show J9 0 60 0 = 0 from ht) h)
    refine n_iload (k := 5) (x := 0) dL_law_546 rfl ?_
    refine n_if_ne (tgt := 563) dL_law_548 rfl (fun h => absurd rfl h) (fun _ => ?_)
    refine n_aload_n (k := 3) (x := qo) dL_law_551 rfl ?_
    refine n_iconst (v := 0) dL_law_552 rfl ?_
    refine n_lald (q0 := G'.2.2.2.2.length + G.2.2.2.2.length) (a := qo) (n := 1) (i := 0) (f := v') dL_law_553 (l_at) n_in01 ?_
    rw [show v' (Int32.toNatClampNeg 0) = r.toInt64 from hv]
    refine n_iload (k := 6) (x := r) dL_law_554 rfl ?_
    refine n_i2l dL_law_556 ?_
    refine n_lcmp dL_law_557 ?_
    rw [l_cmp0]
    refine n_if_eq (tgt := 563) dL_law_558 rfl (fun _ => ?_) (fun h => absurd rfl h)
    refine n_goto (tgt := 1122) dL_law_563 rfl ?_
    exact hk I' J9 v' _ _ hI2
  · skip
    refine n_ws (ws' := l_ws B G G' qo I' J v') (by simp [l_ws]) ?_
    refine n_istore (k := 5) dL_law_515 (by decide) ?_
    refine n_aload_n (k := 2) (x := G'.2.2.1 0 60) dL_law_517 rfl ?_
    refine l_scr (i := i) (z := 1) dL_law_518 dL_law_519 dL_law_521 dL_law_522 dL_law_523 rfl rfl (by decide) (by omega) hL31 ?_
    refine l_scr (i := i) (z := 2) dL_law_524 dL_law_525 dL_law_527 dL_law_528 dL_law_529 rfl rfl (by decide) (by omega) hL31 ?_
    refine n_callV (G := G') (I := J) (i := 0) (j := 60) (as := [.inl (xs (i + 1)), .inl (xs (i + 2))]) (rest := []) (w1 := []) (w3 := am_ws G I' ++ [(qo, .inl (B.2.2, 1, .inr (.inl v')))]) hg' dL_law_530 lkX11_result ml_L_110 imX11_result seX11_result rfl rfl (hG'.m0 (by decide)) rfl (Nat.le_of_ble_eq_true rfl) rfl (by simp [l_ws]) (by omega) (by omega) (hA1 I' hq) ?_
    rintro q J' hqs ⟨ht, hI2⟩
    cases q with
    | none => cases hqs
    | some q =>
      refine n_ws (ws' := l_ws B G G' qo I' J' v') (by simp [l_ws]) ?_
      refine n_istore (k := 6) dL_law_533 (by decide) ?_
      refine n_aload_n (k := 2) (x := G'.2.2.1 0 60) dL_law_535 rfl ?_
      refine n_callV (G := G') (I := J') (i := 0) (j := 60) (as := []) (rest := []) (w1 := []) (w3 := am_ws G I' ++ [(qo, .inl (B.2.2, 1, .inr (.inl v')))]) hg' dL_law_536 lkX11_thrown ml_L_84 imX11_thrown seX11_thrown rfl rfl (hG'.m0 (by decide)) rfl (Nat.le_of_ble_eq_true rfl) rfl (by simp [l_ws]) (by omega) (by omega) (c_thrown hG' J') ?_
      rintro q9 J9 hq9 ⟨rfl, rfl⟩
      refine n_ws (ws' := l_ws B G G' qo I' J9 v') (by simp [l_ws]) ?_
      refine n_iload (k := 5) (x := 1) dL_law_539 rfl ?_
      refine n_icmp_eq (tgt := 546) dL_law_541 rfl (fun _ => ?_) (fun h => absurd (show J9 0 60 0 = 1 from ht) h)
      refine n_iload (k := 5) (x := 1) dL_law_546 rfl ?_
      refine n_if_ne (tgt := 563) dL_law_548 rfl (fun _ => ?_) (fun h => absurd h (by decide))
      refine n_goto (tgt := 1122) dL_law_563 rfl ?_
      exact hk I' J9 v' _ _ hI2
/-- a step of the law: history -/
def ls_history (G G' : am_G) (Inv : Nat → am_I → am_I → Prop) : Prop := ∀ (k : Nat) (I J : am_I) (p0 p1 : Int32), Inv (k + 1) I J → ∃ (Q : Option Int32 → am_I → Prop) (X : String → am_I → Prop), am_CX G 14 mX10_history [.inr (0, 0), .inl p0, .inl p1] I Q X ∧ (∀ Ex I', X Ex I' → Ex = "java/lang/IndexOutOfBoundsException" ∨ Ex = "java/lang/IllegalArgumentException") ∧ (∀ (r : Int32) (I' : am_I), Q (some r) I' → am_C G' 15 mX11_history [.inr (0, 60), .inl p0, .inl p1] J (fun q J' => J' 0 60 0 = nI 0 ∧ q = some r ∧ Inv k I' J')) ∧ (∀ (I' : am_I), X "java/lang/IndexOutOfBoundsException" I' → am_C G' 15 mX11_history [.inr (0, 60), .inl p0, .inl p1] J (fun _ J' => J' 0 60 0 = nI 1 ∧ Inv k I' J')) ∧ (∀ (I' : am_I), X "java/lang/IllegalArgumentException" I' → am_C G' 15 mX11_history [.inr (0, 60), .inl p0, .inl p1] J (fun _ J' => J' 0 60 0 = nI 2 ∧ Inv k I' J'))
theorem nlk_history : n_lk RL 111 mL_history hhL_history 4 := ⟨cwL_history, am_t1 0 rfl rfl, ml_L_111, am_t5 114 rfl rfl, ⟨by decide +kernel, by decide +kernel, by decide +kernel⟩, by decide, rfl⟩
theorem lc_history {B : k_B} {G G' : am_G} (hg : k_gb G B) (hg' : k_gb G' B) (hG : am_ok G) (hG' : am_okM G') {Inv : Nat → am_I → am_I → Prop} (hs : ls_history G G' Inv) {b L qo i k nc ns : Nat} {xs : Nat → Int32} {I J : am_I} {v : Nat → Int64} {a5 a6 : Option am_V} (hI : Inv (k + 1) I J) (hi : i + 6 < L) (hL31 : L < 2 ^ 31) (hnc : nc + 1 ≤ 600002) (hns : ns + 6 ≤ 7302198)
    (hk : ∀ (I' J' : am_I) (v' : Nat → Int64) (b5 b6 : Option am_V), Inv k I' J' → am_N B 16 mL_law 600002 7302198 (n_El B b L xs) 1122 (l_lo b (G.2.2.1 0 0) (G'.2.2.1 0 60) qo i b5 b6) [] (l_ws B G G' qo I' J' v') (nc + 1) (ns + 6)) : am_N B 16 mL_law 600002 7302198 (n_El B b L xs) 566 (l_lo b (G.2.2.1 0 0) (G'.2.2.1 0 60) qo i a5 a6) [] (l_ws B G G' qo I J v) nc ns := by
  obtain ⟨Q, X, hC, hX, hA0, hA1, hA2⟩ := hs k I J (xs (i + 1)) (xs (i + 2)) hI
  refine n_aload_n (k := 1) (x := G.2.2.1 0 0) dL_law_566 rfl ?_
  refine l_scr (i := i) (z := 1) dL_law_567 dL_law_568 dL_law_570 dL_law_571 dL_law_572 rfl rfl (by decide) (by omega) hL31 ?_
  refine l_scr (i := i) (z := 2) dL_law_573 dL_law_574 dL_law_576 dL_law_577 dL_law_578 rfl rfl (by decide) (by omega) hL31 ?_
  refine n_aload_n (k := 3) (x := qo) dL_law_579 rfl ?_
  refine n_callW (As := [.ref (G.2.2.1 0 0), .int (xs (i + 1)), .int (xs (i + 2)), .ref qo]) (rest := []) (w1 := am_ws G' J) (w2 := (am_ws G I ++ ([(qo, Sum.inl (B.2.2, 1, Sum.inr (Sum.inl v)))] : va_W) : va_W)) (w3 := []) dL_law_580 nlk_history rfl (Nat.le_of_ble_eq_true rfl) rfl (by simp [l_ws]) hnc hns (fun p e R s m args below meth c A Z h => h.1) (nw_history (qo := qo) (v := v) hg (hG.m0 (by decide)) hC hX) ?_
  rintro kc w4 ⟨I', v', rfl, ⟨rfl, r, hq, hv⟩ | ⟨rfl, hq⟩ | ⟨rfl, hq⟩⟩
  · skip
    refine n_ws (ws' := l_ws B G G' qo I' J v') (by simp [l_ws]) ?_
    refine n_istore (k := 5) dL_law_583 (by decide) ?_
    refine n_aload_n (k := 2) (x := G'.2.2.1 0 60) dL_law_585 rfl ?_
    refine l_scr (i := i) (z := 1) dL_law_586 dL_law_587 dL_law_589 dL_law_590 dL_law_591 rfl rfl (by decide) (by omega) hL31 ?_
    refine l_scr (i := i) (z := 2) dL_law_592 dL_law_593 dL_law_595 dL_law_596 dL_law_597 rfl rfl (by decide) (by omega) hL31 ?_
    refine n_callV (G := G') (I := J) (i := 0) (j := 60) (as := [.inl (xs (i + 1)), .inl (xs (i + 2))]) (rest := []) (w1 := []) (w3 := am_ws G I' ++ [(qo, .inl (B.2.2, 1, .inr (.inl v')))]) hg' dL_law_598 lkX11_history ml_L_113 imX11_history seX11_history rfl rfl (hG'.m0 (by decide)) rfl (Nat.le_of_ble_eq_true rfl) rfl (by simp [l_ws]) (by omega) (by omega) (hA0 r I' hq) ?_
    rintro q J' hqs ⟨ht, rfl, hI2⟩
    refine n_ws (ws' := l_ws B G G' qo I' J' v') (by simp [l_ws]) ?_
    refine n_istore (k := 6) dL_law_601 (by decide) ?_
    refine n_aload_n (k := 2) (x := G'.2.2.1 0 60) dL_law_603 rfl ?_
    refine n_callV (G := G') (I := J') (i := 0) (j := 60) (as := []) (rest := []) (w1 := []) (w3 := am_ws G I' ++ [(qo, .inl (B.2.2, 1, .inr (.inl v')))]) hg' dL_law_604 lkX11_thrown ml_L_84 imX11_thrown seX11_thrown rfl rfl (hG'.m0 (by decide)) rfl (Nat.le_of_ble_eq_true rfl) rfl (by simp [l_ws]) (by omega) (by omega) (c_thrown hG' J') ?_
    rintro q9 J9 hq9 ⟨rfl, rfl⟩
    refine n_ws (ws' := l_ws B G G' qo I' J9 v') (by simp [l_ws]) ?_
    refine n_iload (k := 5) (x := 0) dL_law_607 rfl ?_
    refine n_icmp_eq (tgt := 614) dL_law_609 rfl (fun _ => ?_) (fun h => absurd (show J9 0 60 0 = 0 from ht) h)
    refine n_iload (k := 5) (x := 0) dL_law_614 rfl ?_
    refine n_if_ne (tgt := 631) dL_law_616 rfl (fun h => absurd rfl h) (fun _ => ?_)
    refine n_aload_n (k := 3) (x := qo) dL_law_619 rfl ?_
    refine n_iconst (v := 0) dL_law_620 rfl ?_
    refine n_lald (q0 := G'.2.2.2.2.length + G.2.2.2.2.length) (a := qo) (n := 1) (i := 0) (f := v') dL_law_621 (l_at) n_in01 ?_
    rw [show v' (Int32.toNatClampNeg 0) = r.toInt64 from hv]
    refine n_iload (k := 6) (x := r) dL_law_622 rfl ?_
    refine n_i2l dL_law_624 ?_
    refine n_lcmp dL_law_625 ?_
    rw [l_cmp0]
    refine n_if_eq (tgt := 631) dL_law_626 rfl (fun _ => ?_) (fun h => absurd rfl h)
    refine n_goto (tgt := 1122) dL_law_631 rfl ?_
    exact hk I' J9 v' _ _ hI2
  · skip
    refine n_ws (ws' := l_ws B G G' qo I' J v') (by simp [l_ws]) ?_
    refine n_istore (k := 5) dL_law_583 (by decide) ?_
    refine n_aload_n (k := 2) (x := G'.2.2.1 0 60) dL_law_585 rfl ?_
    refine l_scr (i := i) (z := 1) dL_law_586 dL_law_587 dL_law_589 dL_law_590 dL_law_591 rfl rfl (by decide) (by omega) hL31 ?_
    refine l_scr (i := i) (z := 2) dL_law_592 dL_law_593 dL_law_595 dL_law_596 dL_law_597 rfl rfl (by decide) (by omega) hL31 ?_
    refine n_callV (G := G') (I := J) (i := 0) (j := 60) (as := [.inl (xs (i + 1)), .inl (xs (i + 2))]) (rest := []) (w1 := []) (w3 := am_ws G I' ++ [(qo, .inl (B.2.2, 1, .inr (.inl v')))]) hg' dL_law_598 lkX11_history ml_L_113 imX11_history seX11_history rfl rfl (hG'.m0 (by decide)) rfl (Nat.le_of_ble_eq_true rfl) rfl (by simp [l_ws]) (by omega) (by omega) (hA1 I' hq) ?_
    rintro q J' hqs ⟨ht, hI2⟩
    cases q with
    | none => cases hqs
    | some q =>
      refine n_ws (ws' := l_ws B G G' qo I' J' v') (by simp [l_ws]) ?_
      refine n_istore (k := 6) dL_law_601 (by decide) ?_
      refine n_aload_n (k := 2) (x := G'.2.2.1 0 60) dL_law_603 rfl ?_
      refine n_callV (G := G') (I := J') (i := 0) (j := 60) (as := []) (rest := []) (w1 := []) (w3 := am_ws G I' ++ [(qo, .inl (B.2.2, 1, .inr (.inl v')))]) hg' dL_law_604 lkX11_thrown ml_L_84 imX11_thrown seX11_thrown rfl rfl (hG'.m0 (by decide)) rfl (Nat.le_of_ble_eq_true rfl) rfl (by simp [l_ws]) (by omega) (by omega) (c_thrown hG' J') ?_
      rintro q9 J9 hq9 ⟨rfl, rfl⟩
      refine n_ws (ws' := l_ws B G G' qo I' J9 v') (by simp [l_ws]) ?_
      refine n_iload (k := 5) (x := 1) dL_law_607 rfl ?_
      refine n_icmp_eq (tgt := 614) dL_law_609 rfl (fun _ => ?_) (fun h => absurd (show J9 0 60 0 = 1 from ht) h)
      refine n_iload (k := 5) (x := 1) dL_law_614 rfl ?_
      refine n_if_ne (tgt := 631) dL_law_616 rfl (fun _ => ?_) (fun h => absurd h (by decide))
      refine n_goto (tgt := 1122) dL_law_631 rfl ?_
      exact hk I' J9 v' _ _ hI2
  · skip
    refine n_ws (ws' := l_ws B G G' qo I' J v') (by simp [l_ws]) ?_
    refine n_istore (k := 5) dL_law_583 (by decide) ?_
    refine n_aload_n (k := 2) (x := G'.2.2.1 0 60) dL_law_585 rfl ?_
    refine l_scr (i := i) (z := 1) dL_law_586 dL_law_587 dL_law_589 dL_law_590 dL_law_591 rfl rfl (by decide) (by omega) hL31 ?_
    refine l_scr (i := i) (z := 2) dL_law_592 dL_law_593 dL_law_595 dL_law_596 dL_law_597 rfl rfl (by decide) (by omega) hL31 ?_
    refine n_callV (G := G') (I := J) (i := 0) (j := 60) (as := [.inl (xs (i + 1)), .inl (xs (i + 2))]) (rest := []) (w1 := []) (w3 := am_ws G I' ++ [(qo, .inl (B.2.2, 1, .inr (.inl v')))]) hg' dL_law_598 lkX11_history ml_L_113 imX11_history seX11_history rfl rfl (hG'.m0 (by decide)) rfl (Nat.le_of_ble_eq_true rfl) rfl (by simp [l_ws]) (by omega) (by omega) (hA2 I' hq) ?_
    rintro q J' hqs ⟨ht, hI2⟩
    cases q with
    | none => cases hqs
    | some q =>
      refine n_ws (ws' := l_ws B G G' qo I' J' v') (by simp [l_ws]) ?_
      refine n_istore (k := 6) dL_law_601 (by decide) ?_
      refine n_aload_n (k := 2) (x := G'.2.2.1 0 60) dL_law_603 rfl ?_
      refine n_callV (G := G') (I := J') (i := 0) (j := 60) (as := []) (rest := []) (w1 := []) (w3 := am_ws G I' ++ [(qo, .inl (B.2.2, 1, .inr (.inl v')))]) hg' dL_law_604 lkX11_thrown ml_L_84 imX11_thrown seX11_thrown rfl rfl (hG'.m0 (by decide)) rfl (Nat.le_of_ble_eq_true rfl) rfl (by simp [l_ws]) (by omega) (by omega) (c_thrown hG' J') ?_
      rintro q9 J9 hq9 ⟨rfl, rfl⟩
      refine n_ws (ws' := l_ws B G G' qo I' J9 v') (by simp [l_ws]) ?_
      refine n_iload (k := 5) (x := 2) dL_law_607 rfl ?_
      refine n_icmp_eq (tgt := 614) dL_law_609 rfl (fun _ => ?_) (fun h => absurd (show J9 0 60 0 = 2 from ht) h)
      refine n_iload (k := 5) (x := 2) dL_law_614 rfl ?_
      refine n_if_ne (tgt := 631) dL_law_616 rfl (fun _ => ?_) (fun h => absurd h (by decide))
      refine n_goto (tgt := 1122) dL_law_631 rfl ?_
      exact hk I' J9 v' _ _ hI2
/-- a step of the law: word -/
def ls_word (G G' : am_G) (Inv : Nat → am_I → am_I → Prop) : Prop := ∀ (k : Nat) (I J : am_I) (p0 p1 : Int32), Inv (k + 1) I J → ∃ (Q : Option Int32 → am_I → Prop) (X : String → am_I → Prop), am_CX G 14 mX10_word [.inr (0, 0), .inl p0, .inl p1] I Q X ∧ (∀ Ex I', X Ex I' → Ex = "java/lang/IndexOutOfBoundsException") ∧ (∀ (r : Int32) (I' : am_I), Q (some r) I' → am_C G' 15 mX11_word [.inr (0, 60), .inl p0, .inl p1] J (fun q J' => J' 0 60 0 = nI 0 ∧ q = some r ∧ Inv k I' J')) ∧ (∀ (I' : am_I), X "java/lang/IndexOutOfBoundsException" I' → am_C G' 15 mX11_word [.inr (0, 60), .inl p0, .inl p1] J (fun _ J' => J' 0 60 0 = nI 1 ∧ Inv k I' J'))
theorem nlk_word : n_lk RL 114 mL_word hhL_word 4 := ⟨cwL_word, am_t1 0 rfl rfl, ml_L_114, am_t5 144 rfl rfl, ⟨by decide +kernel, by decide +kernel, by decide +kernel⟩, by decide, rfl⟩
theorem lc_word {B : k_B} {G G' : am_G} (hg : k_gb G B) (hg' : k_gb G' B) (hG : am_ok G) (hG' : am_okM G') {Inv : Nat → am_I → am_I → Prop} (hs : ls_word G G' Inv) {b L qo i k nc ns : Nat} {xs : Nat → Int32} {I J : am_I} {v : Nat → Int64} {a5 a6 : Option am_V} (hI : Inv (k + 1) I J) (hi : i + 6 < L) (hL31 : L < 2 ^ 31) (hnc : nc + 1 ≤ 600002) (hns : ns + 6 ≤ 7302198)
    (hk : ∀ (I' J' : am_I) (v' : Nat → Int64) (b5 b6 : Option am_V), Inv k I' J' → am_N B 16 mL_law 600002 7302198 (n_El B b L xs) 1122 (l_lo b (G.2.2.1 0 0) (G'.2.2.1 0 60) qo i b5 b6) [] (l_ws B G G' qo I' J' v') (nc + 1) (ns + 6)) : am_N B 16 mL_law 600002 7302198 (n_El B b L xs) 634 (l_lo b (G.2.2.1 0 0) (G'.2.2.1 0 60) qo i a5 a6) [] (l_ws B G G' qo I J v) nc ns := by
  obtain ⟨Q, X, hC, hX, hA0, hA1⟩ := hs k I J (xs (i + 1)) (xs (i + 2)) hI
  refine n_aload_n (k := 1) (x := G.2.2.1 0 0) dL_law_634 rfl ?_
  refine l_scr (i := i) (z := 1) dL_law_635 dL_law_636 dL_law_638 dL_law_639 dL_law_640 rfl rfl (by decide) (by omega) hL31 ?_
  refine l_scr (i := i) (z := 2) dL_law_641 dL_law_642 dL_law_644 dL_law_645 dL_law_646 rfl rfl (by decide) (by omega) hL31 ?_
  refine n_aload_n (k := 3) (x := qo) dL_law_647 rfl ?_
  refine n_callW (As := [.ref (G.2.2.1 0 0), .int (xs (i + 1)), .int (xs (i + 2)), .ref qo]) (rest := []) (w1 := am_ws G' J) (w2 := (am_ws G I ++ ([(qo, Sum.inl (B.2.2, 1, Sum.inr (Sum.inl v)))] : va_W) : va_W)) (w3 := []) dL_law_648 nlk_word rfl (Nat.le_of_ble_eq_true rfl) rfl (by simp [l_ws]) hnc hns (fun p e R s m args below meth c A Z h => h.1) (nw_word (qo := qo) (v := v) hg (hG.m0 (by decide)) hC hX) ?_
  rintro kc w4 ⟨I', v', rfl, ⟨rfl, r, hq, hv⟩ | ⟨rfl, hq⟩⟩
  · skip
    refine n_ws (ws' := l_ws B G G' qo I' J v') (by simp [l_ws]) ?_
    refine n_istore (k := 5) dL_law_651 (by decide) ?_
    refine n_aload_n (k := 2) (x := G'.2.2.1 0 60) dL_law_653 rfl ?_
    refine l_scr (i := i) (z := 1) dL_law_654 dL_law_655 dL_law_657 dL_law_658 dL_law_659 rfl rfl (by decide) (by omega) hL31 ?_
    refine l_scr (i := i) (z := 2) dL_law_660 dL_law_661 dL_law_663 dL_law_664 dL_law_665 rfl rfl (by decide) (by omega) hL31 ?_
    refine n_callV (G := G') (I := J) (i := 0) (j := 60) (as := [.inl (xs (i + 1)), .inl (xs (i + 2))]) (rest := []) (w1 := []) (w3 := am_ws G I' ++ [(qo, .inl (B.2.2, 1, .inr (.inl v')))]) hg' dL_law_666 lkX11_word ml_L_116 imX11_word seX11_word rfl rfl (hG'.m0 (by decide)) rfl (Nat.le_of_ble_eq_true rfl) rfl (by simp [l_ws]) (by omega) (by omega) (hA0 r I' hq) ?_
    rintro q J' hqs ⟨ht, rfl, hI2⟩
    refine n_ws (ws' := l_ws B G G' qo I' J' v') (by simp [l_ws]) ?_
    refine n_istore (k := 6) dL_law_669 (by decide) ?_
    refine n_aload_n (k := 2) (x := G'.2.2.1 0 60) dL_law_671 rfl ?_
    refine n_callV (G := G') (I := J') (i := 0) (j := 60) (as := []) (rest := []) (w1 := []) (w3 := am_ws G I' ++ [(qo, .inl (B.2.2, 1, .inr (.inl v')))]) hg' dL_law_672 lkX11_thrown ml_L_84 imX11_thrown seX11_thrown rfl rfl (hG'.m0 (by decide)) rfl (Nat.le_of_ble_eq_true rfl) rfl (by simp [l_ws]) (by omega) (by omega) (c_thrown hG' J') ?_
    rintro q9 J9 hq9 ⟨rfl, rfl⟩
    refine n_ws (ws' := l_ws B G G' qo I' J9 v') (by simp [l_ws]) ?_
    refine n_iload (k := 5) (x := 0) dL_law_675 rfl ?_
    refine n_icmp_eq (tgt := 682) dL_law_677 rfl (fun _ => ?_) (fun h => absurd (show J9 0 60 0 = 0 from ht) h)
    refine n_iload (k := 5) (x := 0) dL_law_682 rfl ?_
    refine n_if_ne (tgt := 699) dL_law_684 rfl (fun h => absurd rfl h) (fun _ => ?_)
    refine n_aload_n (k := 3) (x := qo) dL_law_687 rfl ?_
    refine n_iconst (v := 0) dL_law_688 rfl ?_
    refine n_lald (q0 := G'.2.2.2.2.length + G.2.2.2.2.length) (a := qo) (n := 1) (i := 0) (f := v') dL_law_689 (l_at) n_in01 ?_
    rw [show v' (Int32.toNatClampNeg 0) = r.toInt64 from hv]
    refine n_iload (k := 6) (x := r) dL_law_690 rfl ?_
    refine n_i2l dL_law_692 ?_
    refine n_lcmp dL_law_693 ?_
    rw [l_cmp0]
    refine n_if_eq (tgt := 699) dL_law_694 rfl (fun _ => ?_) (fun h => absurd rfl h)
    refine n_goto (tgt := 1122) dL_law_699 rfl ?_
    exact hk I' J9 v' _ _ hI2
  · skip
    refine n_ws (ws' := l_ws B G G' qo I' J v') (by simp [l_ws]) ?_
    refine n_istore (k := 5) dL_law_651 (by decide) ?_
    refine n_aload_n (k := 2) (x := G'.2.2.1 0 60) dL_law_653 rfl ?_
    refine l_scr (i := i) (z := 1) dL_law_654 dL_law_655 dL_law_657 dL_law_658 dL_law_659 rfl rfl (by decide) (by omega) hL31 ?_
    refine l_scr (i := i) (z := 2) dL_law_660 dL_law_661 dL_law_663 dL_law_664 dL_law_665 rfl rfl (by decide) (by omega) hL31 ?_
    refine n_callV (G := G') (I := J) (i := 0) (j := 60) (as := [.inl (xs (i + 1)), .inl (xs (i + 2))]) (rest := []) (w1 := []) (w3 := am_ws G I' ++ [(qo, .inl (B.2.2, 1, .inr (.inl v')))]) hg' dL_law_666 lkX11_word ml_L_116 imX11_word seX11_word rfl rfl (hG'.m0 (by decide)) rfl (Nat.le_of_ble_eq_true rfl) rfl (by simp [l_ws]) (by omega) (by omega) (hA1 I' hq) ?_
    rintro q J' hqs ⟨ht, hI2⟩
    cases q with
    | none => cases hqs
    | some q =>
      refine n_ws (ws' := l_ws B G G' qo I' J' v') (by simp [l_ws]) ?_
      refine n_istore (k := 6) dL_law_669 (by decide) ?_
      refine n_aload_n (k := 2) (x := G'.2.2.1 0 60) dL_law_671 rfl ?_
      refine n_callV (G := G') (I := J') (i := 0) (j := 60) (as := []) (rest := []) (w1 := []) (w3 := am_ws G I' ++ [(qo, .inl (B.2.2, 1, .inr (.inl v')))]) hg' dL_law_672 lkX11_thrown ml_L_84 imX11_thrown seX11_thrown rfl rfl (hG'.m0 (by decide)) rfl (Nat.le_of_ble_eq_true rfl) rfl (by simp [l_ws]) (by omega) (by omega) (c_thrown hG' J') ?_
      rintro q9 J9 hq9 ⟨rfl, rfl⟩
      refine n_ws (ws' := l_ws B G G' qo I' J9 v') (by simp [l_ws]) ?_
      refine n_iload (k := 5) (x := 1) dL_law_675 rfl ?_
      refine n_icmp_eq (tgt := 682) dL_law_677 rfl (fun _ => ?_) (fun h => absurd (show J9 0 60 0 = 1 from ht) h)
      refine n_iload (k := 5) (x := 1) dL_law_682 rfl ?_
      refine n_if_ne (tgt := 699) dL_law_684 rfl (fun _ => ?_) (fun h => absurd h (by decide))
      refine n_goto (tgt := 1122) dL_law_699 rfl ?_
      exact hk I' J9 v' _ _ hI2
/-- a step of the law: cached -/
def ls_cached (G G' : am_G) (Inv : Nat → am_I → am_I → Prop) : Prop := ∀ (k : Nat) (I J : am_I) (p0 p1 p2 : Int32), Inv (k + 1) I J → ∃ (Q : Option Int32 → am_I → Prop) (X : String → am_I → Prop), am_CX G 14 mX10_cached [.inr (0, 0), .inl p0, .inl p1, .inl p2] I Q X ∧ (∀ Ex I', X Ex I' → Ex = "java/lang/IllegalArgumentException" ∨ Ex = "java/lang/IndexOutOfBoundsException" ∨ Ex = "java/util/NoSuchElementException") ∧ (∀ (r : Int32) (I' : am_I), Q (some r) I' → am_C G' 15 mX11_cached [.inr (0, 60), .inl p0, .inl p1, .inl p2] J (fun q J' => J' 0 60 0 = nI 0 ∧ q = some r ∧ Inv k I' J')) ∧ (∀ (I' : am_I), X "java/lang/IllegalArgumentException" I' → am_C G' 15 mX11_cached [.inr (0, 60), .inl p0, .inl p1, .inl p2] J (fun _ J' => J' 0 60 0 = nI 1 ∧ Inv k I' J')) ∧ (∀ (I' : am_I), X "java/lang/IndexOutOfBoundsException" I' → am_C G' 15 mX11_cached [.inr (0, 60), .inl p0, .inl p1, .inl p2] J (fun _ J' => J' 0 60 0 = nI 2 ∧ Inv k I' J')) ∧ (∀ (I' : am_I), X "java/util/NoSuchElementException" I' → am_C G' 15 mX11_cached [.inr (0, 60), .inl p0, .inl p1, .inl p2] J (fun _ J' => J' 0 60 0 = nI 3 ∧ Inv k I' J'))
theorem nlk_cached : n_lk RL 117 mL_cached hhL_cached 5 := ⟨cwL_cached, am_t1 0 rfl rfl, ml_L_117, am_t5 153 rfl rfl, ⟨by decide +kernel, by decide +kernel, by decide +kernel⟩, by decide, rfl⟩
theorem lc_cached {B : k_B} {G G' : am_G} (hg : k_gb G B) (hg' : k_gb G' B) (hG : am_ok G) (hG' : am_okM G') {Inv : Nat → am_I → am_I → Prop} (hs : ls_cached G G' Inv) {b L qo i k nc ns : Nat} {xs : Nat → Int32} {I J : am_I} {v : Nat → Int64} {a5 a6 : Option am_V} (hI : Inv (k + 1) I J) (hi : i + 6 < L) (hL31 : L < 2 ^ 31) (hnc : nc + 1 ≤ 600002) (hns : ns + 6 ≤ 7302198)
    (hk : ∀ (I' J' : am_I) (v' : Nat → Int64) (b5 b6 : Option am_V), Inv k I' J' → am_N B 16 mL_law 600002 7302198 (n_El B b L xs) 1122 (l_lo b (G.2.2.1 0 0) (G'.2.2.1 0 60) qo i b5 b6) [] (l_ws B G G' qo I' J' v') (nc + 1) (ns + 6)) : am_N B 16 mL_law 600002 7302198 (n_El B b L xs) 702 (l_lo b (G.2.2.1 0 0) (G'.2.2.1 0 60) qo i a5 a6) [] (l_ws B G G' qo I J v) nc ns := by
  obtain ⟨Q, X, hC, hX, hA0, hA1, hA2, hA3⟩ := hs k I J (xs (i + 1)) (xs (i + 2)) (xs (i + 3)) hI
  refine n_aload_n (k := 1) (x := G.2.2.1 0 0) dL_law_702 rfl ?_
  refine l_scr (i := i) (z := 1) dL_law_703 dL_law_704 dL_law_706 dL_law_707 dL_law_708 rfl rfl (by decide) (by omega) hL31 ?_
  refine l_scr (i := i) (z := 2) dL_law_709 dL_law_710 dL_law_712 dL_law_713 dL_law_714 rfl rfl (by decide) (by omega) hL31 ?_
  refine l_scr (i := i) (z := 3) dL_law_715 dL_law_716 dL_law_718 dL_law_719 dL_law_720 rfl rfl (by decide) (by omega) hL31 ?_
  refine n_aload_n (k := 3) (x := qo) dL_law_721 rfl ?_
  refine n_callW (As := [.ref (G.2.2.1 0 0), .int (xs (i + 1)), .int (xs (i + 2)), .int (xs (i + 3)), .ref qo]) (rest := []) (w1 := am_ws G' J) (w2 := (am_ws G I ++ ([(qo, Sum.inl (B.2.2, 1, Sum.inr (Sum.inl v)))] : va_W) : va_W)) (w3 := []) dL_law_722 nlk_cached rfl (Nat.le_of_ble_eq_true rfl) rfl (by simp [l_ws]) hnc hns (fun p e R s m args below meth c A Z h => h.1) (nw_cached (qo := qo) (v := v) hg (hG.m0 (by decide)) hC hX) ?_
  rintro kc w4 ⟨I', v', rfl, ⟨rfl, r, hq, hv⟩ | ⟨rfl, hq⟩ | ⟨rfl, hq⟩ | ⟨rfl, hq⟩⟩
  · skip
    refine n_ws (ws' := l_ws B G G' qo I' J v') (by simp [l_ws]) ?_
    refine n_istore (k := 5) dL_law_725 (by decide) ?_
    refine n_aload_n (k := 2) (x := G'.2.2.1 0 60) dL_law_727 rfl ?_
    refine l_scr (i := i) (z := 1) dL_law_728 dL_law_729 dL_law_731 dL_law_732 dL_law_733 rfl rfl (by decide) (by omega) hL31 ?_
    refine l_scr (i := i) (z := 2) dL_law_734 dL_law_735 dL_law_737 dL_law_738 dL_law_739 rfl rfl (by decide) (by omega) hL31 ?_
    refine l_scr (i := i) (z := 3) dL_law_740 dL_law_741 dL_law_743 dL_law_744 dL_law_745 rfl rfl (by decide) (by omega) hL31 ?_
    refine n_callV (G := G') (I := J) (i := 0) (j := 60) (as := [.inl (xs (i + 1)), .inl (xs (i + 2)), .inl (xs (i + 3))]) (rest := []) (w1 := []) (w3 := am_ws G I' ++ [(qo, .inl (B.2.2, 1, .inr (.inl v')))]) hg' dL_law_746 lkX11_cached ml_L_120 imX11_cached seX11_cached rfl rfl (hG'.m0 (by decide)) rfl (Nat.le_of_ble_eq_true rfl) rfl (by simp [l_ws]) (by omega) (by omega) (hA0 r I' hq) ?_
    rintro q J' hqs ⟨ht, rfl, hI2⟩
    refine n_ws (ws' := l_ws B G G' qo I' J' v') (by simp [l_ws]) ?_
    refine n_istore (k := 6) dL_law_749 (by decide) ?_
    refine n_aload_n (k := 2) (x := G'.2.2.1 0 60) dL_law_751 rfl ?_
    refine n_callV (G := G') (I := J') (i := 0) (j := 60) (as := []) (rest := []) (w1 := []) (w3 := am_ws G I' ++ [(qo, .inl (B.2.2, 1, .inr (.inl v')))]) hg' dL_law_752 lkX11_thrown ml_L_84 imX11_thrown seX11_thrown rfl rfl (hG'.m0 (by decide)) rfl (Nat.le_of_ble_eq_true rfl) rfl (by simp [l_ws]) (by omega) (by omega) (c_thrown hG' J') ?_
    rintro q9 J9 hq9 ⟨rfl, rfl⟩
    refine n_ws (ws' := l_ws B G G' qo I' J9 v') (by simp [l_ws]) ?_
    refine n_iload (k := 5) (x := 0) dL_law_755 rfl ?_
    refine n_icmp_eq (tgt := 762) dL_law_757 rfl (fun _ => ?_) (fun h => absurd (show J9 0 60 0 = 0 from ht) h)
    refine n_iload (k := 5) (x := 0) dL_law_762 rfl ?_
    refine n_if_ne (tgt := 779) dL_law_764 rfl (fun h => absurd rfl h) (fun _ => ?_)
    refine n_aload_n (k := 3) (x := qo) dL_law_767 rfl ?_
    refine n_iconst (v := 0) dL_law_768 rfl ?_
    refine n_lald (q0 := G'.2.2.2.2.length + G.2.2.2.2.length) (a := qo) (n := 1) (i := 0) (f := v') dL_law_769 (l_at) n_in01 ?_
    rw [show v' (Int32.toNatClampNeg 0) = r.toInt64 from hv]
    refine n_iload (k := 6) (x := r) dL_law_770 rfl ?_
    refine n_i2l dL_law_772 ?_
    refine n_lcmp dL_law_773 ?_
    rw [l_cmp0]
    refine n_if_eq (tgt := 779) dL_law_774 rfl (fun _ => ?_) (fun h => absurd rfl h)
    refine n_goto (tgt := 1122) dL_law_779 rfl ?_
    exact hk I' J9 v' _ _ hI2
  · skip
    refine n_ws (ws' := l_ws B G G' qo I' J v') (by simp [l_ws]) ?_
    refine n_istore (k := 5) dL_law_725 (by decide) ?_
    refine n_aload_n (k := 2) (x := G'.2.2.1 0 60) dL_law_727 rfl ?_
    refine l_scr (i := i) (z := 1) dL_law_728 dL_law_729 dL_law_731 dL_law_732 dL_law_733 rfl rfl (by decide) (by omega) hL31 ?_
    refine l_scr (i := i) (z := 2) dL_law_734 dL_law_735 dL_law_737 dL_law_738 dL_law_739 rfl rfl (by decide) (by omega) hL31 ?_
    refine l_scr (i := i) (z := 3) dL_law_740 dL_law_741 dL_law_743 dL_law_744 dL_law_745 rfl rfl (by decide) (by omega) hL31 ?_
    refine n_callV (G := G') (I := J) (i := 0) (j := 60) (as := [.inl (xs (i + 1)), .inl (xs (i + 2)), .inl (xs (i + 3))]) (rest := []) (w1 := []) (w3 := am_ws G I' ++ [(qo, .inl (B.2.2, 1, .inr (.inl v')))]) hg' dL_law_746 lkX11_cached ml_L_120 imX11_cached seX11_cached rfl rfl (hG'.m0 (by decide)) rfl (Nat.le_of_ble_eq_true rfl) rfl (by simp [l_ws]) (by omega) (by omega) (hA1 I' hq) ?_
    rintro q J' hqs ⟨ht, hI2⟩
    cases q with
    | none => cases hqs
    | some q =>
      refine n_ws (ws' := l_ws B G G' qo I' J' v') (by simp [l_ws]) ?_
      refine n_istore (k := 6) dL_law_749 (by decide) ?_
      refine n_aload_n (k := 2) (x := G'.2.2.1 0 60) dL_law_751 rfl ?_
      refine n_callV (G := G') (I := J') (i := 0) (j := 60) (as := []) (rest := []) (w1 := []) (w3 := am_ws G I' ++ [(qo, .inl (B.2.2, 1, .inr (.inl v')))]) hg' dL_law_752 lkX11_thrown ml_L_84 imX11_thrown seX11_thrown rfl rfl (hG'.m0 (by decide)) rfl (Nat.le_of_ble_eq_true rfl) rfl (by simp [l_ws]) (by omega) (by omega) (c_thrown hG' J') ?_
      rintro q9 J9 hq9 ⟨rfl, rfl⟩
      refine n_ws (ws' := l_ws B G G' qo I' J9 v') (by simp [l_ws]) ?_
      refine n_iload (k := 5) (x := 1) dL_law_755 rfl ?_
      refine n_icmp_eq (tgt := 762) dL_law_757 rfl (fun _ => ?_) (fun h => absurd (show J9 0 60 0 = 1 from ht) h)
      refine n_iload (k := 5) (x := 1) dL_law_762 rfl ?_
      refine n_if_ne (tgt := 779) dL_law_764 rfl (fun _ => ?_) (fun h => absurd h (by decide))
      refine n_goto (tgt := 1122) dL_law_779 rfl ?_
      exact hk I' J9 v' _ _ hI2
  · skip
    refine n_ws (ws' := l_ws B G G' qo I' J v') (by simp [l_ws]) ?_
    refine n_istore (k := 5) dL_law_725 (by decide) ?_
    refine n_aload_n (k := 2) (x := G'.2.2.1 0 60) dL_law_727 rfl ?_
    refine l_scr (i := i) (z := 1) dL_law_728 dL_law_729 dL_law_731 dL_law_732 dL_law_733 rfl rfl (by decide) (by omega) hL31 ?_
    refine l_scr (i := i) (z := 2) dL_law_734 dL_law_735 dL_law_737 dL_law_738 dL_law_739 rfl rfl (by decide) (by omega) hL31 ?_
    refine l_scr (i := i) (z := 3) dL_law_740 dL_law_741 dL_law_743 dL_law_744 dL_law_745 rfl rfl (by decide) (by omega) hL31 ?_
    refine n_callV (G := G') (I := J) (i := 0) (j := 60) (as := [.inl (xs (i + 1)), .inl (xs (i + 2)), .inl (xs (i + 3))]) (rest := []) (w1 := []) (w3 := am_ws G I' ++ [(qo, .inl (B.2.2, 1, .inr (.inl v')))]) hg' dL_law_746 lkX11_cached ml_L_120 imX11_cached seX11_cached rfl rfl (hG'.m0 (by decide)) rfl (Nat.le_of_ble_eq_true rfl) rfl (by simp [l_ws]) (by omega) (by omega) (hA2 I' hq) ?_
    rintro q J' hqs ⟨ht, hI2⟩
    cases q with
    | none => cases hqs
    | some q =>
      refine n_ws (ws' := l_ws B G G' qo I' J' v') (by simp [l_ws]) ?_
      refine n_istore (k := 6) dL_law_749 (by decide) ?_
      refine n_aload_n (k := 2) (x := G'.2.2.1 0 60) dL_law_751 rfl ?_
      refine n_callV (G := G') (I := J') (i := 0) (j := 60) (as := []) (rest := []) (w1 := []) (w3 := am_ws G I' ++ [(qo, .inl (B.2.2, 1, .inr (.inl v')))]) hg' dL_law_752 lkX11_thrown ml_L_84 imX11_thrown seX11_thrown rfl rfl (hG'.m0 (by decide)) rfl (Nat.le_of_ble_eq_true rfl) rfl (by simp [l_ws]) (by omega) (by omega) (c_thrown hG' J') ?_
      rintro q9 J9 hq9 ⟨rfl, rfl⟩
      refine n_ws (ws' := l_ws B G G' qo I' J9 v') (by simp [l_ws]) ?_
      refine n_iload (k := 5) (x := 2) dL_law_755 rfl ?_
      refine n_icmp_eq (tgt := 762) dL_law_757 rfl (fun _ => ?_) (fun h => absurd (show J9 0 60 0 = 2 from ht) h)
      refine n_iload (k := 5) (x := 2) dL_law_762 rfl ?_
      refine n_if_ne (tgt := 779) dL_law_764 rfl (fun _ => ?_) (fun h => absurd h (by decide))
      refine n_goto (tgt := 1122) dL_law_779 rfl ?_
      exact hk I' J9 v' _ _ hI2
  · skip
    refine n_ws (ws' := l_ws B G G' qo I' J v') (by simp [l_ws]) ?_
    refine n_istore (k := 5) dL_law_725 (by decide) ?_
    refine n_aload_n (k := 2) (x := G'.2.2.1 0 60) dL_law_727 rfl ?_
    refine l_scr (i := i) (z := 1) dL_law_728 dL_law_729 dL_law_731 dL_law_732 dL_law_733 rfl rfl (by decide) (by omega) hL31 ?_
    refine l_scr (i := i) (z := 2) dL_law_734 dL_law_735 dL_law_737 dL_law_738 dL_law_739 rfl rfl (by decide) (by omega) hL31 ?_
    refine l_scr (i := i) (z := 3) dL_law_740 dL_law_741 dL_law_743 dL_law_744 dL_law_745 rfl rfl (by decide) (by omega) hL31 ?_
    refine n_callV (G := G') (I := J) (i := 0) (j := 60) (as := [.inl (xs (i + 1)), .inl (xs (i + 2)), .inl (xs (i + 3))]) (rest := []) (w1 := []) (w3 := am_ws G I' ++ [(qo, .inl (B.2.2, 1, .inr (.inl v')))]) hg' dL_law_746 lkX11_cached ml_L_120 imX11_cached seX11_cached rfl rfl (hG'.m0 (by decide)) rfl (Nat.le_of_ble_eq_true rfl) rfl (by simp [l_ws]) (by omega) (by omega) (hA3 I' hq) ?_
    rintro q J' hqs ⟨ht, hI2⟩
    cases q with
    | none => cases hqs
    | some q =>
      refine n_ws (ws' := l_ws B G G' qo I' J' v') (by simp [l_ws]) ?_
      refine n_istore (k := 6) dL_law_749 (by decide) ?_
      refine n_aload_n (k := 2) (x := G'.2.2.1 0 60) dL_law_751 rfl ?_
      refine n_callV (G := G') (I := J') (i := 0) (j := 60) (as := []) (rest := []) (w1 := []) (w3 := am_ws G I' ++ [(qo, .inl (B.2.2, 1, .inr (.inl v')))]) hg' dL_law_752 lkX11_thrown ml_L_84 imX11_thrown seX11_thrown rfl rfl (hG'.m0 (by decide)) rfl (Nat.le_of_ble_eq_true rfl) rfl (by simp [l_ws]) (by omega) (by omega) (c_thrown hG' J') ?_
      rintro q9 J9 hq9 ⟨rfl, rfl⟩
      refine n_ws (ws' := l_ws B G G' qo I' J9 v') (by simp [l_ws]) ?_
      refine n_iload (k := 5) (x := 3) dL_law_755 rfl ?_
      refine n_icmp_eq (tgt := 762) dL_law_757 rfl (fun _ => ?_) (fun h => absurd (show J9 0 60 0 = 3 from ht) h)
      refine n_iload (k := 5) (x := 3) dL_law_762 rfl ?_
      refine n_if_ne (tgt := 779) dL_law_764 rfl (fun _ => ?_) (fun h => absurd h (by decide))
      refine n_goto (tgt := 1122) dL_law_779 rfl ?_
      exact hk I' J9 v' _ _ hI2
/-- a step of the law: lock -/
def ls_lock (G G' : am_G) (Inv : Nat → am_I → am_I → Prop) : Prop := ∀ (k : Nat) (I J : am_I) (p0 p1 p2 : Int32), Inv (k + 1) I J → ∃ (Q : Option Int32 → am_I → Prop) (X : String → am_I → Prop), am_CX G 14 mX10_lock [.inr (0, 0), .inl p0, .inl p1, .inl p2] I Q X ∧ (∀ Ex I', X Ex I' → Ex = "java/lang/IllegalArgumentException") ∧ (∀ (r : Int32) (I' : am_I), Q (some r) I' → am_C G' 15 mX11_lock [.inr (0, 60), .inl p0, .inl p1, .inl p2] J (fun q J' => J' 0 60 0 = nI 0 ∧ q = some r ∧ Inv k I' J')) ∧ (∀ (I' : am_I), X "java/lang/IllegalArgumentException" I' → am_C G' 15 mX11_lock [.inr (0, 60), .inl p0, .inl p1, .inl p2] J (fun _ J' => J' 0 60 0 = nI 1 ∧ Inv k I' J'))
theorem nlk_lock : n_lk RL 121 mL_lock hhL_lock 5 := ⟨cwL_lock, am_t1 0 rfl rfl, ml_L_121, am_t5 177 rfl rfl, ⟨by decide +kernel, by decide +kernel, by decide +kernel⟩, by decide, rfl⟩
theorem lc_lock {B : k_B} {G G' : am_G} (hg : k_gb G B) (hg' : k_gb G' B) (hG : am_ok G) (hG' : am_okM G') {Inv : Nat → am_I → am_I → Prop} (hs : ls_lock G G' Inv) {b L qo i k nc ns : Nat} {xs : Nat → Int32} {I J : am_I} {v : Nat → Int64} {a5 a6 : Option am_V} (hI : Inv (k + 1) I J) (hi : i + 6 < L) (hL31 : L < 2 ^ 31) (hnc : nc + 1 ≤ 600002) (hns : ns + 6 ≤ 7302198)
    (hk : ∀ (I' J' : am_I) (v' : Nat → Int64) (b5 b6 : Option am_V), Inv k I' J' → am_N B 16 mL_law 600002 7302198 (n_El B b L xs) 1122 (l_lo b (G.2.2.1 0 0) (G'.2.2.1 0 60) qo i b5 b6) [] (l_ws B G G' qo I' J' v') (nc + 1) (ns + 6)) : am_N B 16 mL_law 600002 7302198 (n_El B b L xs) 782 (l_lo b (G.2.2.1 0 0) (G'.2.2.1 0 60) qo i a5 a6) [] (l_ws B G G' qo I J v) nc ns := by
  obtain ⟨Q, X, hC, hX, hA0, hA1⟩ := hs k I J (xs (i + 1)) (xs (i + 2)) (xs (i + 3)) hI
  refine n_aload_n (k := 1) (x := G.2.2.1 0 0) dL_law_782 rfl ?_
  refine l_scr (i := i) (z := 1) dL_law_783 dL_law_784 dL_law_786 dL_law_787 dL_law_788 rfl rfl (by decide) (by omega) hL31 ?_
  refine l_scr (i := i) (z := 2) dL_law_789 dL_law_790 dL_law_792 dL_law_793 dL_law_794 rfl rfl (by decide) (by omega) hL31 ?_
  refine l_scr (i := i) (z := 3) dL_law_795 dL_law_796 dL_law_798 dL_law_799 dL_law_800 rfl rfl (by decide) (by omega) hL31 ?_
  refine n_aload_n (k := 3) (x := qo) dL_law_801 rfl ?_
  refine n_callW (As := [.ref (G.2.2.1 0 0), .int (xs (i + 1)), .int (xs (i + 2)), .int (xs (i + 3)), .ref qo]) (rest := []) (w1 := am_ws G' J) (w2 := (am_ws G I ++ ([(qo, Sum.inl (B.2.2, 1, Sum.inr (Sum.inl v)))] : va_W) : va_W)) (w3 := []) dL_law_802 nlk_lock rfl (Nat.le_of_ble_eq_true rfl) rfl (by simp [l_ws]) hnc hns (fun p e R s m args below meth c A Z h => h.1) (nw_lock (qo := qo) (v := v) hg (hG.m0 (by decide)) hC hX) ?_
  rintro kc w4 ⟨I', v', rfl, ⟨rfl, r, hq, hv⟩ | ⟨rfl, hq⟩⟩
  · skip
    refine n_ws (ws' := l_ws B G G' qo I' J v') (by simp [l_ws]) ?_
    refine n_istore (k := 5) dL_law_805 (by decide) ?_
    refine n_aload_n (k := 2) (x := G'.2.2.1 0 60) dL_law_807 rfl ?_
    refine l_scr (i := i) (z := 1) dL_law_808 dL_law_809 dL_law_811 dL_law_812 dL_law_813 rfl rfl (by decide) (by omega) hL31 ?_
    refine l_scr (i := i) (z := 2) dL_law_814 dL_law_815 dL_law_817 dL_law_818 dL_law_819 rfl rfl (by decide) (by omega) hL31 ?_
    refine l_scr (i := i) (z := 3) dL_law_820 dL_law_821 dL_law_823 dL_law_824 dL_law_825 rfl rfl (by decide) (by omega) hL31 ?_
    refine n_callV (G := G') (I := J) (i := 0) (j := 60) (as := [.inl (xs (i + 1)), .inl (xs (i + 2)), .inl (xs (i + 3))]) (rest := []) (w1 := []) (w3 := am_ws G I' ++ [(qo, .inl (B.2.2, 1, .inr (.inl v')))]) hg' dL_law_826 lkX11_lock ml_L_123 imX11_lock seX11_lock rfl rfl (hG'.m0 (by decide)) rfl (Nat.le_of_ble_eq_true rfl) rfl (by simp [l_ws]) (by omega) (by omega) (hA0 r I' hq) ?_
    rintro q J' hqs ⟨ht, rfl, hI2⟩
    refine n_ws (ws' := l_ws B G G' qo I' J' v') (by simp [l_ws]) ?_
    refine n_istore (k := 6) dL_law_829 (by decide) ?_
    refine n_aload_n (k := 2) (x := G'.2.2.1 0 60) dL_law_831 rfl ?_
    refine n_callV (G := G') (I := J') (i := 0) (j := 60) (as := []) (rest := []) (w1 := []) (w3 := am_ws G I' ++ [(qo, .inl (B.2.2, 1, .inr (.inl v')))]) hg' dL_law_832 lkX11_thrown ml_L_84 imX11_thrown seX11_thrown rfl rfl (hG'.m0 (by decide)) rfl (Nat.le_of_ble_eq_true rfl) rfl (by simp [l_ws]) (by omega) (by omega) (c_thrown hG' J') ?_
    rintro q9 J9 hq9 ⟨rfl, rfl⟩
    refine n_ws (ws' := l_ws B G G' qo I' J9 v') (by simp [l_ws]) ?_
    refine n_iload (k := 5) (x := 0) dL_law_835 rfl ?_
    refine n_icmp_eq (tgt := 842) dL_law_837 rfl (fun _ => ?_) (fun h => absurd (show J9 0 60 0 = 0 from ht) h)
    refine n_iload (k := 5) (x := 0) dL_law_842 rfl ?_
    refine n_if_ne (tgt := 859) dL_law_844 rfl (fun h => absurd rfl h) (fun _ => ?_)
    refine n_aload_n (k := 3) (x := qo) dL_law_847 rfl ?_
    refine n_iconst (v := 0) dL_law_848 rfl ?_
    refine n_lald (q0 := G'.2.2.2.2.length + G.2.2.2.2.length) (a := qo) (n := 1) (i := 0) (f := v') dL_law_849 (l_at) n_in01 ?_
    rw [show v' (Int32.toNatClampNeg 0) = r.toInt64 from hv]
    refine n_iload (k := 6) (x := r) dL_law_850 rfl ?_
    refine n_i2l dL_law_852 ?_
    refine n_lcmp dL_law_853 ?_
    rw [l_cmp0]
    refine n_if_eq (tgt := 859) dL_law_854 rfl (fun _ => ?_) (fun h => absurd rfl h)
    refine n_goto (tgt := 1122) dL_law_859 rfl ?_
    exact hk I' J9 v' _ _ hI2
  · skip
    refine n_ws (ws' := l_ws B G G' qo I' J v') (by simp [l_ws]) ?_
    refine n_istore (k := 5) dL_law_805 (by decide) ?_
    refine n_aload_n (k := 2) (x := G'.2.2.1 0 60) dL_law_807 rfl ?_
    refine l_scr (i := i) (z := 1) dL_law_808 dL_law_809 dL_law_811 dL_law_812 dL_law_813 rfl rfl (by decide) (by omega) hL31 ?_
    refine l_scr (i := i) (z := 2) dL_law_814 dL_law_815 dL_law_817 dL_law_818 dL_law_819 rfl rfl (by decide) (by omega) hL31 ?_
    refine l_scr (i := i) (z := 3) dL_law_820 dL_law_821 dL_law_823 dL_law_824 dL_law_825 rfl rfl (by decide) (by omega) hL31 ?_
    refine n_callV (G := G') (I := J) (i := 0) (j := 60) (as := [.inl (xs (i + 1)), .inl (xs (i + 2)), .inl (xs (i + 3))]) (rest := []) (w1 := []) (w3 := am_ws G I' ++ [(qo, .inl (B.2.2, 1, .inr (.inl v')))]) hg' dL_law_826 lkX11_lock ml_L_123 imX11_lock seX11_lock rfl rfl (hG'.m0 (by decide)) rfl (Nat.le_of_ble_eq_true rfl) rfl (by simp [l_ws]) (by omega) (by omega) (hA1 I' hq) ?_
    rintro q J' hqs ⟨ht, hI2⟩
    cases q with
    | none => cases hqs
    | some q =>
      refine n_ws (ws' := l_ws B G G' qo I' J' v') (by simp [l_ws]) ?_
      refine n_istore (k := 6) dL_law_829 (by decide) ?_
      refine n_aload_n (k := 2) (x := G'.2.2.1 0 60) dL_law_831 rfl ?_
      refine n_callV (G := G') (I := J') (i := 0) (j := 60) (as := []) (rest := []) (w1 := []) (w3 := am_ws G I' ++ [(qo, .inl (B.2.2, 1, .inr (.inl v')))]) hg' dL_law_832 lkX11_thrown ml_L_84 imX11_thrown seX11_thrown rfl rfl (hG'.m0 (by decide)) rfl (Nat.le_of_ble_eq_true rfl) rfl (by simp [l_ws]) (by omega) (by omega) (c_thrown hG' J') ?_
      rintro q9 J9 hq9 ⟨rfl, rfl⟩
      refine n_ws (ws' := l_ws B G G' qo I' J9 v') (by simp [l_ws]) ?_
      refine n_iload (k := 5) (x := 1) dL_law_835 rfl ?_
      refine n_icmp_eq (tgt := 842) dL_law_837 rfl (fun _ => ?_) (fun h => absurd (show J9 0 60 0 = 1 from ht) h)
      refine n_iload (k := 5) (x := 1) dL_law_842 rfl ?_
      refine n_if_ne (tgt := 859) dL_law_844 rfl (fun _ => ?_) (fun h => absurd h (by decide))
      refine n_goto (tgt := 1122) dL_law_859 rfl ?_
      exact hk I' J9 v' _ _ hI2
/-- a step of the law: row -/
def ls_row (G G' : am_G) (Inv : Nat → am_I → am_I → Prop) : Prop := ∀ (k : Nat) (I J : am_I) (p0 p1 : Int32), Inv (k + 1) I J → ∃ (Q : Option Int32 → am_I → Prop) (X : String → am_I → Prop), am_CX G 14 mX10_row [.inr (0, 0), .inl p0, .inl p1] I Q X ∧ (∀ Ex I', X Ex I' → Ex = "java/lang/IllegalArgumentException") ∧ (∀ (r : Int32) (I' : am_I), Q (some r) I' → am_C G' 15 mX11_row [.inr (0, 60), .inl p0, .inl p1] J (fun q J' => J' 0 60 0 = nI 0 ∧ q = some r ∧ Inv k I' J')) ∧ (∀ (I' : am_I), X "java/lang/IllegalArgumentException" I' → am_C G' 15 mX11_row [.inr (0, 60), .inl p0, .inl p1] J (fun _ J' => J' 0 60 0 = nI 1 ∧ Inv k I' J'))
theorem nlk_row : n_lk RL 124 mL_row hhL_row 4 := ⟨cwL_row, am_t1 0 rfl rfl, ml_L_124, am_t5 185 rfl rfl, ⟨by decide +kernel, by decide +kernel, by decide +kernel⟩, by decide, rfl⟩
theorem lc_row {B : k_B} {G G' : am_G} (hg : k_gb G B) (hg' : k_gb G' B) (hG : am_ok G) (hG' : am_okM G') {Inv : Nat → am_I → am_I → Prop} (hs : ls_row G G' Inv) {b L qo i k nc ns : Nat} {xs : Nat → Int32} {I J : am_I} {v : Nat → Int64} {a5 a6 : Option am_V} (hI : Inv (k + 1) I J) (hi : i + 6 < L) (hL31 : L < 2 ^ 31) (hnc : nc + 1 ≤ 600002) (hns : ns + 6 ≤ 7302198)
    (hk : ∀ (I' J' : am_I) (v' : Nat → Int64) (b5 b6 : Option am_V), Inv k I' J' → am_N B 16 mL_law 600002 7302198 (n_El B b L xs) 1122 (l_lo b (G.2.2.1 0 0) (G'.2.2.1 0 60) qo i b5 b6) [] (l_ws B G G' qo I' J' v') (nc + 1) (ns + 6)) : am_N B 16 mL_law 600002 7302198 (n_El B b L xs) 862 (l_lo b (G.2.2.1 0 0) (G'.2.2.1 0 60) qo i a5 a6) [] (l_ws B G G' qo I J v) nc ns := by
  obtain ⟨Q, X, hC, hX, hA0, hA1⟩ := hs k I J (xs (i + 1)) (xs (i + 2)) hI
  refine n_aload_n (k := 1) (x := G.2.2.1 0 0) dL_law_862 rfl ?_
  refine l_scr (i := i) (z := 1) dL_law_863 dL_law_864 dL_law_866 dL_law_867 dL_law_868 rfl rfl (by decide) (by omega) hL31 ?_
  refine l_scr (i := i) (z := 2) dL_law_869 dL_law_870 dL_law_872 dL_law_873 dL_law_874 rfl rfl (by decide) (by omega) hL31 ?_
  refine n_aload_n (k := 3) (x := qo) dL_law_875 rfl ?_
  refine n_callW (As := [.ref (G.2.2.1 0 0), .int (xs (i + 1)), .int (xs (i + 2)), .ref qo]) (rest := []) (w1 := am_ws G' J) (w2 := (am_ws G I ++ ([(qo, Sum.inl (B.2.2, 1, Sum.inr (Sum.inl v)))] : va_W) : va_W)) (w3 := []) dL_law_876 nlk_row rfl (Nat.le_of_ble_eq_true rfl) rfl (by simp [l_ws]) hnc hns (fun p e R s m args below meth c A Z h => h.1) (nw_row (qo := qo) (v := v) hg (hG.m0 (by decide)) hC hX) ?_
  rintro kc w4 ⟨I', v', rfl, ⟨rfl, r, hq, hv⟩ | ⟨rfl, hq⟩⟩
  · skip
    refine n_ws (ws' := l_ws B G G' qo I' J v') (by simp [l_ws]) ?_
    refine n_istore (k := 5) dL_law_879 (by decide) ?_
    refine n_aload_n (k := 2) (x := G'.2.2.1 0 60) dL_law_881 rfl ?_
    refine l_scr (i := i) (z := 1) dL_law_882 dL_law_883 dL_law_885 dL_law_886 dL_law_887 rfl rfl (by decide) (by omega) hL31 ?_
    refine l_scr (i := i) (z := 2) dL_law_888 dL_law_889 dL_law_891 dL_law_892 dL_law_893 rfl rfl (by decide) (by omega) hL31 ?_
    refine n_callV (G := G') (I := J) (i := 0) (j := 60) (as := [.inl (xs (i + 1)), .inl (xs (i + 2))]) (rest := []) (w1 := []) (w3 := am_ws G I' ++ [(qo, .inl (B.2.2, 1, .inr (.inl v')))]) hg' dL_law_894 lkX11_row ml_L_126 imX11_row seX11_row rfl rfl (hG'.m0 (by decide)) rfl (Nat.le_of_ble_eq_true rfl) rfl (by simp [l_ws]) (by omega) (by omega) (hA0 r I' hq) ?_
    rintro q J' hqs ⟨ht, rfl, hI2⟩
    refine n_ws (ws' := l_ws B G G' qo I' J' v') (by simp [l_ws]) ?_
    refine n_istore (k := 6) dL_law_897 (by decide) ?_
    refine n_aload_n (k := 2) (x := G'.2.2.1 0 60) dL_law_899 rfl ?_
    refine n_callV (G := G') (I := J') (i := 0) (j := 60) (as := []) (rest := []) (w1 := []) (w3 := am_ws G I' ++ [(qo, .inl (B.2.2, 1, .inr (.inl v')))]) hg' dL_law_900 lkX11_thrown ml_L_84 imX11_thrown seX11_thrown rfl rfl (hG'.m0 (by decide)) rfl (Nat.le_of_ble_eq_true rfl) rfl (by simp [l_ws]) (by omega) (by omega) (c_thrown hG' J') ?_
    rintro q9 J9 hq9 ⟨rfl, rfl⟩
    refine n_ws (ws' := l_ws B G G' qo I' J9 v') (by simp [l_ws]) ?_
    refine n_iload (k := 5) (x := 0) dL_law_903 rfl ?_
    refine n_icmp_eq (tgt := 910) dL_law_905 rfl (fun _ => ?_) (fun h => absurd (show J9 0 60 0 = 0 from ht) h)
    refine n_iload (k := 5) (x := 0) dL_law_910 rfl ?_
    refine n_if_ne (tgt := 927) dL_law_912 rfl (fun h => absurd rfl h) (fun _ => ?_)
    refine n_aload_n (k := 3) (x := qo) dL_law_915 rfl ?_
    refine n_iconst (v := 0) dL_law_916 rfl ?_
    refine n_lald (q0 := G'.2.2.2.2.length + G.2.2.2.2.length) (a := qo) (n := 1) (i := 0) (f := v') dL_law_917 (l_at) n_in01 ?_
    rw [show v' (Int32.toNatClampNeg 0) = r.toInt64 from hv]
    refine n_iload (k := 6) (x := r) dL_law_918 rfl ?_
    refine n_i2l dL_law_920 ?_
    refine n_lcmp dL_law_921 ?_
    rw [l_cmp0]
    refine n_if_eq (tgt := 927) dL_law_922 rfl (fun _ => ?_) (fun h => absurd rfl h)
    refine n_goto (tgt := 1122) dL_law_927 rfl ?_
    exact hk I' J9 v' _ _ hI2
  · skip
    refine n_ws (ws' := l_ws B G G' qo I' J v') (by simp [l_ws]) ?_
    refine n_istore (k := 5) dL_law_879 (by decide) ?_
    refine n_aload_n (k := 2) (x := G'.2.2.1 0 60) dL_law_881 rfl ?_
    refine l_scr (i := i) (z := 1) dL_law_882 dL_law_883 dL_law_885 dL_law_886 dL_law_887 rfl rfl (by decide) (by omega) hL31 ?_
    refine l_scr (i := i) (z := 2) dL_law_888 dL_law_889 dL_law_891 dL_law_892 dL_law_893 rfl rfl (by decide) (by omega) hL31 ?_
    refine n_callV (G := G') (I := J) (i := 0) (j := 60) (as := [.inl (xs (i + 1)), .inl (xs (i + 2))]) (rest := []) (w1 := []) (w3 := am_ws G I' ++ [(qo, .inl (B.2.2, 1, .inr (.inl v')))]) hg' dL_law_894 lkX11_row ml_L_126 imX11_row seX11_row rfl rfl (hG'.m0 (by decide)) rfl (Nat.le_of_ble_eq_true rfl) rfl (by simp [l_ws]) (by omega) (by omega) (hA1 I' hq) ?_
    rintro q J' hqs ⟨ht, hI2⟩
    cases q with
    | none => cases hqs
    | some q =>
      refine n_ws (ws' := l_ws B G G' qo I' J' v') (by simp [l_ws]) ?_
      refine n_istore (k := 6) dL_law_897 (by decide) ?_
      refine n_aload_n (k := 2) (x := G'.2.2.1 0 60) dL_law_899 rfl ?_
      refine n_callV (G := G') (I := J') (i := 0) (j := 60) (as := []) (rest := []) (w1 := []) (w3 := am_ws G I' ++ [(qo, .inl (B.2.2, 1, .inr (.inl v')))]) hg' dL_law_900 lkX11_thrown ml_L_84 imX11_thrown seX11_thrown rfl rfl (hG'.m0 (by decide)) rfl (Nat.le_of_ble_eq_true rfl) rfl (by simp [l_ws]) (by omega) (by omega) (c_thrown hG' J') ?_
      rintro q9 J9 hq9 ⟨rfl, rfl⟩
      refine n_ws (ws' := l_ws B G G' qo I' J9 v') (by simp [l_ws]) ?_
      refine n_iload (k := 5) (x := 1) dL_law_903 rfl ?_
      refine n_icmp_eq (tgt := 910) dL_law_905 rfl (fun _ => ?_) (fun h => absurd (show J9 0 60 0 = 1 from ht) h)
      refine n_iload (k := 5) (x := 1) dL_law_910 rfl ?_
      refine n_if_ne (tgt := 927) dL_law_912 rfl (fun _ => ?_) (fun h => absurd h (by decide))
      refine n_goto (tgt := 1122) dL_law_927 rfl ?_
      exact hk I' J9 v' _ _ hI2
/-- a step of the law: message -/
def ls_message (G G' : am_G) (Inv : Nat → am_I → am_I → Prop) : Prop := ∀ (k : Nat) (I J : am_I) (p0 p1 : Int32), Inv (k + 1) I J → ∃ (Q : Option Int32 → am_I → Prop) (X : String → am_I → Prop), am_CX G 14 mX10_message [.inr (0, 0), .inl p0, .inl p1] I Q X ∧ (∀ Ex I', X Ex I' → Ex = "java/lang/IndexOutOfBoundsException" ∨ Ex = "java/lang/IllegalArgumentException") ∧ (∀ (r : Int32) (I' : am_I), Q (some r) I' → am_C G' 15 mX11_message [.inr (0, 60), .inl p0, .inl p1] J (fun q J' => J' 0 60 0 = nI 0 ∧ q = some r ∧ Inv k I' J')) ∧ (∀ (I' : am_I), X "java/lang/IndexOutOfBoundsException" I' → am_C G' 15 mX11_message [.inr (0, 60), .inl p0, .inl p1] J (fun _ J' => J' 0 60 0 = nI 1 ∧ Inv k I' J')) ∧ (∀ (I' : am_I), X "java/lang/IllegalArgumentException" I' → am_C G' 15 mX11_message [.inr (0, 60), .inl p0, .inl p1] J (fun _ J' => J' 0 60 0 = nI 2 ∧ Inv k I' J'))
theorem nlk_message : n_lk RL 127 mL_message hhL_message 4 := ⟨cwL_message, am_t1 0 rfl rfl, ml_L_127, am_t5 193 rfl rfl, ⟨by decide +kernel, by decide +kernel, by decide +kernel⟩, by decide, rfl⟩
theorem lc_message {B : k_B} {G G' : am_G} (hg : k_gb G B) (hg' : k_gb G' B) (hG : am_ok G) (hG' : am_okM G') {Inv : Nat → am_I → am_I → Prop} (hs : ls_message G G' Inv) {b L qo i k nc ns : Nat} {xs : Nat → Int32} {I J : am_I} {v : Nat → Int64} {a5 a6 : Option am_V} (hI : Inv (k + 1) I J) (hi : i + 6 < L) (hL31 : L < 2 ^ 31) (hnc : nc + 1 ≤ 600002) (hns : ns + 6 ≤ 7302198)
    (hk : ∀ (I' J' : am_I) (v' : Nat → Int64) (b5 b6 : Option am_V), Inv k I' J' → am_N B 16 mL_law 600002 7302198 (n_El B b L xs) 1122 (l_lo b (G.2.2.1 0 0) (G'.2.2.1 0 60) qo i b5 b6) [] (l_ws B G G' qo I' J' v') (nc + 1) (ns + 6)) : am_N B 16 mL_law 600002 7302198 (n_El B b L xs) 930 (l_lo b (G.2.2.1 0 0) (G'.2.2.1 0 60) qo i a5 a6) [] (l_ws B G G' qo I J v) nc ns := by
  obtain ⟨Q, X, hC, hX, hA0, hA1, hA2⟩ := hs k I J (xs (i + 1)) (xs (i + 2)) hI
  refine n_aload_n (k := 1) (x := G.2.2.1 0 0) dL_law_930 rfl ?_
  refine l_scr (i := i) (z := 1) dL_law_931 dL_law_932 dL_law_934 dL_law_935 dL_law_936 rfl rfl (by decide) (by omega) hL31 ?_
  refine l_scr (i := i) (z := 2) dL_law_937 dL_law_938 dL_law_940 dL_law_941 dL_law_942 rfl rfl (by decide) (by omega) hL31 ?_
  refine n_aload_n (k := 3) (x := qo) dL_law_943 rfl ?_
  refine n_callW (As := [.ref (G.2.2.1 0 0), .int (xs (i + 1)), .int (xs (i + 2)), .ref qo]) (rest := []) (w1 := am_ws G' J) (w2 := (am_ws G I ++ ([(qo, Sum.inl (B.2.2, 1, Sum.inr (Sum.inl v)))] : va_W) : va_W)) (w3 := []) dL_law_944 nlk_message rfl (Nat.le_of_ble_eq_true rfl) rfl (by simp [l_ws]) hnc hns (fun p e R s m args below meth c A Z h => h.1) (nw_message (qo := qo) (v := v) hg (hG.m0 (by decide)) hC hX) ?_
  rintro kc w4 ⟨I', v', rfl, ⟨rfl, r, hq, hv⟩ | ⟨rfl, hq⟩ | ⟨rfl, hq⟩⟩
  · skip
    refine n_ws (ws' := l_ws B G G' qo I' J v') (by simp [l_ws]) ?_
    refine n_istore (k := 5) dL_law_947 (by decide) ?_
    refine n_aload_n (k := 2) (x := G'.2.2.1 0 60) dL_law_949 rfl ?_
    refine l_scr (i := i) (z := 1) dL_law_950 dL_law_951 dL_law_953 dL_law_954 dL_law_955 rfl rfl (by decide) (by omega) hL31 ?_
    refine l_scr (i := i) (z := 2) dL_law_956 dL_law_957 dL_law_959 dL_law_960 dL_law_961 rfl rfl (by decide) (by omega) hL31 ?_
    refine n_callV (G := G') (I := J) (i := 0) (j := 60) (as := [.inl (xs (i + 1)), .inl (xs (i + 2))]) (rest := []) (w1 := []) (w3 := am_ws G I' ++ [(qo, .inl (B.2.2, 1, .inr (.inl v')))]) hg' dL_law_962 lkX11_message ml_L_129 imX11_message seX11_message rfl rfl (hG'.m0 (by decide)) rfl (Nat.le_of_ble_eq_true rfl) rfl (by simp [l_ws]) (by omega) (by omega) (hA0 r I' hq) ?_
    rintro q J' hqs ⟨ht, rfl, hI2⟩
    refine n_ws (ws' := l_ws B G G' qo I' J' v') (by simp [l_ws]) ?_
    refine n_istore (k := 6) dL_law_965 (by decide) ?_
    refine n_aload_n (k := 2) (x := G'.2.2.1 0 60) dL_law_967 rfl ?_
    refine n_callV (G := G') (I := J') (i := 0) (j := 60) (as := []) (rest := []) (w1 := []) (w3 := am_ws G I' ++ [(qo, .inl (B.2.2, 1, .inr (.inl v')))]) hg' dL_law_968 lkX11_thrown ml_L_84 imX11_thrown seX11_thrown rfl rfl (hG'.m0 (by decide)) rfl (Nat.le_of_ble_eq_true rfl) rfl (by simp [l_ws]) (by omega) (by omega) (c_thrown hG' J') ?_
    rintro q9 J9 hq9 ⟨rfl, rfl⟩
    refine n_ws (ws' := l_ws B G G' qo I' J9 v') (by simp [l_ws]) ?_
    refine n_iload (k := 5) (x := 0) dL_law_971 rfl ?_
    refine n_icmp_eq (tgt := 978) dL_law_973 rfl (fun _ => ?_) (fun h => absurd (show J9 0 60 0 = 0 from ht) h)
    refine n_iload (k := 5) (x := 0) dL_law_978 rfl ?_
    refine n_if_ne (tgt := 995) dL_law_980 rfl (fun h => absurd rfl h) (fun _ => ?_)
    refine n_aload_n (k := 3) (x := qo) dL_law_983 rfl ?_
    refine n_iconst (v := 0) dL_law_984 rfl ?_
    refine n_lald (q0 := G'.2.2.2.2.length + G.2.2.2.2.length) (a := qo) (n := 1) (i := 0) (f := v') dL_law_985 (l_at) n_in01 ?_
    rw [show v' (Int32.toNatClampNeg 0) = r.toInt64 from hv]
    refine n_iload (k := 6) (x := r) dL_law_986 rfl ?_
    refine n_i2l dL_law_988 ?_
    refine n_lcmp dL_law_989 ?_
    rw [l_cmp0]
    refine n_if_eq (tgt := 995) dL_law_990 rfl (fun _ => ?_) (fun h => absurd rfl h)
    refine n_goto (tgt := 1122) dL_law_995 rfl ?_
    exact hk I' J9 v' _ _ hI2
  · skip
    refine n_ws (ws' := l_ws B G G' qo I' J v') (by simp [l_ws]) ?_
    refine n_istore (k := 5) dL_law_947 (by decide) ?_
    refine n_aload_n (k := 2) (x := G'.2.2.1 0 60) dL_law_949 rfl ?_
    refine l_scr (i := i) (z := 1) dL_law_950 dL_law_951 dL_law_953 dL_law_954 dL_law_955 rfl rfl (by decide) (by omega) hL31 ?_
    refine l_scr (i := i) (z := 2) dL_law_956 dL_law_957 dL_law_959 dL_law_960 dL_law_961 rfl rfl (by decide) (by omega) hL31 ?_
    refine n_callV (G := G') (I := J) (i := 0) (j := 60) (as := [.inl (xs (i + 1)), .inl (xs (i + 2))]) (rest := []) (w1 := []) (w3 := am_ws G I' ++ [(qo, .inl (B.2.2, 1, .inr (.inl v')))]) hg' dL_law_962 lkX11_message ml_L_129 imX11_message seX11_message rfl rfl (hG'.m0 (by decide)) rfl (Nat.le_of_ble_eq_true rfl) rfl (by simp [l_ws]) (by omega) (by omega) (hA1 I' hq) ?_
    rintro q J' hqs ⟨ht, hI2⟩
    cases q with
    | none => cases hqs
    | some q =>
      refine n_ws (ws' := l_ws B G G' qo I' J' v') (by simp [l_ws]) ?_
      refine n_istore (k := 6) dL_law_965 (by decide) ?_
      refine n_aload_n (k := 2) (x := G'.2.2.1 0 60) dL_law_967 rfl ?_
      refine n_callV (G := G') (I := J') (i := 0) (j := 60) (as := []) (rest := []) (w1 := []) (w3 := am_ws G I' ++ [(qo, .inl (B.2.2, 1, .inr (.inl v')))]) hg' dL_law_968 lkX11_thrown ml_L_84 imX11_thrown seX11_thrown rfl rfl (hG'.m0 (by decide)) rfl (Nat.le_of_ble_eq_true rfl) rfl (by simp [l_ws]) (by omega) (by omega) (c_thrown hG' J') ?_
      rintro q9 J9 hq9 ⟨rfl, rfl⟩
      refine n_ws (ws' := l_ws B G G' qo I' J9 v') (by simp [l_ws]) ?_
      refine n_iload (k := 5) (x := 1) dL_law_971 rfl ?_
      refine n_icmp_eq (tgt := 978) dL_law_973 rfl (fun _ => ?_) (fun h => absurd (show J9 0 60 0 = 1 from ht) h)
      refine n_iload (k := 5) (x := 1) dL_law_978 rfl ?_
      refine n_if_ne (tgt := 995) dL_law_980 rfl (fun _ => ?_) (fun h => absurd h (by decide))
      refine n_goto (tgt := 1122) dL_law_995 rfl ?_
      exact hk I' J9 v' _ _ hI2
  · skip
    refine n_ws (ws' := l_ws B G G' qo I' J v') (by simp [l_ws]) ?_
    refine n_istore (k := 5) dL_law_947 (by decide) ?_
    refine n_aload_n (k := 2) (x := G'.2.2.1 0 60) dL_law_949 rfl ?_
    refine l_scr (i := i) (z := 1) dL_law_950 dL_law_951 dL_law_953 dL_law_954 dL_law_955 rfl rfl (by decide) (by omega) hL31 ?_
    refine l_scr (i := i) (z := 2) dL_law_956 dL_law_957 dL_law_959 dL_law_960 dL_law_961 rfl rfl (by decide) (by omega) hL31 ?_
    refine n_callV (G := G') (I := J) (i := 0) (j := 60) (as := [.inl (xs (i + 1)), .inl (xs (i + 2))]) (rest := []) (w1 := []) (w3 := am_ws G I' ++ [(qo, .inl (B.2.2, 1, .inr (.inl v')))]) hg' dL_law_962 lkX11_message ml_L_129 imX11_message seX11_message rfl rfl (hG'.m0 (by decide)) rfl (Nat.le_of_ble_eq_true rfl) rfl (by simp [l_ws]) (by omega) (by omega) (hA2 I' hq) ?_
    rintro q J' hqs ⟨ht, hI2⟩
    cases q with
    | none => cases hqs
    | some q =>
      refine n_ws (ws' := l_ws B G G' qo I' J' v') (by simp [l_ws]) ?_
      refine n_istore (k := 6) dL_law_965 (by decide) ?_
      refine n_aload_n (k := 2) (x := G'.2.2.1 0 60) dL_law_967 rfl ?_
      refine n_callV (G := G') (I := J') (i := 0) (j := 60) (as := []) (rest := []) (w1 := []) (w3 := am_ws G I' ++ [(qo, .inl (B.2.2, 1, .inr (.inl v')))]) hg' dL_law_968 lkX11_thrown ml_L_84 imX11_thrown seX11_thrown rfl rfl (hG'.m0 (by decide)) rfl (Nat.le_of_ble_eq_true rfl) rfl (by simp [l_ws]) (by omega) (by omega) (c_thrown hG' J') ?_
      rintro q9 J9 hq9 ⟨rfl, rfl⟩
      refine n_ws (ws' := l_ws B G G' qo I' J9 v') (by simp [l_ws]) ?_
      refine n_iload (k := 5) (x := 2) dL_law_971 rfl ?_
      refine n_icmp_eq (tgt := 978) dL_law_973 rfl (fun _ => ?_) (fun h => absurd (show J9 0 60 0 = 2 from ht) h)
      refine n_iload (k := 5) (x := 2) dL_law_978 rfl ?_
      refine n_if_ne (tgt := 995) dL_law_980 rfl (fun _ => ?_) (fun h => absurd h (by decide))
      refine n_goto (tgt := 1122) dL_law_995 rfl ?_
      exact hk I' J9 v' _ _ hI2
/-- a step of the law: node -/
def ls_node (G G' : am_G) (Inv : Nat → am_I → am_I → Prop) : Prop := ∀ (k : Nat) (I J : am_I) (p0 p1 : Int32), Inv (k + 1) I J → ∃ (Q : Option Int32 → am_I → Prop) (X : String → am_I → Prop), am_CX G 14 mX10_node [.inr (0, 0), .inl p0, .inl p1] I Q X ∧ (∀ Ex I', X Ex I' → Ex = "java/lang/IllegalArgumentException") ∧ (∀ (r : Int32) (I' : am_I), Q (some r) I' → am_C G' 15 mX11_node [.inr (0, 60), .inl p0, .inl p1] J (fun q J' => J' 0 60 0 = nI 0 ∧ q = some r ∧ Inv k I' J')) ∧ (∀ (I' : am_I), X "java/lang/IllegalArgumentException" I' → am_C G' 15 mX11_node [.inr (0, 60), .inl p0, .inl p1] J (fun _ J' => J' 0 60 0 = nI 1 ∧ Inv k I' J'))
theorem nlk_node : n_lk RL 130 mL_node hhL_node 4 := ⟨cwL_node, am_t1 0 rfl rfl, ml_L_130, am_t5 201 rfl rfl, ⟨by decide +kernel, by decide +kernel, by decide +kernel⟩, by decide, rfl⟩
theorem lc_node {B : k_B} {G G' : am_G} (hg : k_gb G B) (hg' : k_gb G' B) (hG : am_ok G) (hG' : am_okM G') {Inv : Nat → am_I → am_I → Prop} (hs : ls_node G G' Inv) {b L qo i k nc ns : Nat} {xs : Nat → Int32} {I J : am_I} {v : Nat → Int64} {a5 a6 : Option am_V} (hI : Inv (k + 1) I J) (hi : i + 6 < L) (hL31 : L < 2 ^ 31) (hnc : nc + 1 ≤ 600002) (hns : ns + 6 ≤ 7302198)
    (hk : ∀ (I' J' : am_I) (v' : Nat → Int64) (b5 b6 : Option am_V), Inv k I' J' → am_N B 16 mL_law 600002 7302198 (n_El B b L xs) 1122 (l_lo b (G.2.2.1 0 0) (G'.2.2.1 0 60) qo i b5 b6) [] (l_ws B G G' qo I' J' v') (nc + 1) (ns + 6)) : am_N B 16 mL_law 600002 7302198 (n_El B b L xs) 998 (l_lo b (G.2.2.1 0 0) (G'.2.2.1 0 60) qo i a5 a6) [] (l_ws B G G' qo I J v) nc ns := by
  obtain ⟨Q, X, hC, hX, hA0, hA1⟩ := hs k I J (xs (i + 1)) (xs (i + 2)) hI
  refine n_aload_n (k := 1) (x := G.2.2.1 0 0) dL_law_998 rfl ?_
  refine l_scr (i := i) (z := 1) dL_law_999 dL_law_1000 dL_law_1002 dL_law_1003 dL_law_1004 rfl rfl (by decide) (by omega) hL31 ?_
  refine l_scr (i := i) (z := 2) dL_law_1005 dL_law_1006 dL_law_1008 dL_law_1009 dL_law_1010 rfl rfl (by decide) (by omega) hL31 ?_
  refine n_aload_n (k := 3) (x := qo) dL_law_1011 rfl ?_
  refine n_callW (As := [.ref (G.2.2.1 0 0), .int (xs (i + 1)), .int (xs (i + 2)), .ref qo]) (rest := []) (w1 := am_ws G' J) (w2 := (am_ws G I ++ ([(qo, Sum.inl (B.2.2, 1, Sum.inr (Sum.inl v)))] : va_W) : va_W)) (w3 := []) dL_law_1012 nlk_node rfl (Nat.le_of_ble_eq_true rfl) rfl (by simp [l_ws]) hnc hns (fun p e R s m args below meth c A Z h => h.1) (nw_node (qo := qo) (v := v) hg (hG.m0 (by decide)) hC hX) ?_
  rintro kc w4 ⟨I', v', rfl, ⟨rfl, r, hq, hv⟩ | ⟨rfl, hq⟩⟩
  · skip
    refine n_ws (ws' := l_ws B G G' qo I' J v') (by simp [l_ws]) ?_
    refine n_istore (k := 5) dL_law_1015 (by decide) ?_
    refine n_aload_n (k := 2) (x := G'.2.2.1 0 60) dL_law_1017 rfl ?_
    refine l_scr (i := i) (z := 1) dL_law_1018 dL_law_1019 dL_law_1021 dL_law_1022 dL_law_1023 rfl rfl (by decide) (by omega) hL31 ?_
    refine l_scr (i := i) (z := 2) dL_law_1024 dL_law_1025 dL_law_1027 dL_law_1028 dL_law_1029 rfl rfl (by decide) (by omega) hL31 ?_
    refine n_callV (G := G') (I := J) (i := 0) (j := 60) (as := [.inl (xs (i + 1)), .inl (xs (i + 2))]) (rest := []) (w1 := []) (w3 := am_ws G I' ++ [(qo, .inl (B.2.2, 1, .inr (.inl v')))]) hg' dL_law_1030 lkX11_node ml_L_132 imX11_node seX11_node rfl rfl (hG'.m0 (by decide)) rfl (Nat.le_of_ble_eq_true rfl) rfl (by simp [l_ws]) (by omega) (by omega) (hA0 r I' hq) ?_
    rintro q J' hqs ⟨ht, rfl, hI2⟩
    refine n_ws (ws' := l_ws B G G' qo I' J' v') (by simp [l_ws]) ?_
    refine n_istore (k := 6) dL_law_1033 (by decide) ?_
    refine n_aload_n (k := 2) (x := G'.2.2.1 0 60) dL_law_1035 rfl ?_
    refine n_callV (G := G') (I := J') (i := 0) (j := 60) (as := []) (rest := []) (w1 := []) (w3 := am_ws G I' ++ [(qo, .inl (B.2.2, 1, .inr (.inl v')))]) hg' dL_law_1036 lkX11_thrown ml_L_84 imX11_thrown seX11_thrown rfl rfl (hG'.m0 (by decide)) rfl (Nat.le_of_ble_eq_true rfl) rfl (by simp [l_ws]) (by omega) (by omega) (c_thrown hG' J') ?_
    rintro q9 J9 hq9 ⟨rfl, rfl⟩
    refine n_ws (ws' := l_ws B G G' qo I' J9 v') (by simp [l_ws]) ?_
    refine n_iload (k := 5) (x := 0) dL_law_1039 rfl ?_
    refine n_icmp_eq (tgt := 1046) dL_law_1041 rfl (fun _ => ?_) (fun h => absurd (show J9 0 60 0 = 0 from ht) h)
    refine n_iload (k := 5) (x := 0) dL_law_1046 rfl ?_
    refine n_if_ne (tgt := 1063) dL_law_1048 rfl (fun h => absurd rfl h) (fun _ => ?_)
    refine n_aload_n (k := 3) (x := qo) dL_law_1051 rfl ?_
    refine n_iconst (v := 0) dL_law_1052 rfl ?_
    refine n_lald (q0 := G'.2.2.2.2.length + G.2.2.2.2.length) (a := qo) (n := 1) (i := 0) (f := v') dL_law_1053 (l_at) n_in01 ?_
    rw [show v' (Int32.toNatClampNeg 0) = r.toInt64 from hv]
    refine n_iload (k := 6) (x := r) dL_law_1054 rfl ?_
    refine n_i2l dL_law_1056 ?_
    refine n_lcmp dL_law_1057 ?_
    rw [l_cmp0]
    refine n_if_eq (tgt := 1063) dL_law_1058 rfl (fun _ => ?_) (fun h => absurd rfl h)
    refine n_goto (tgt := 1122) dL_law_1063 rfl ?_
    exact hk I' J9 v' _ _ hI2
  · skip
    refine n_ws (ws' := l_ws B G G' qo I' J v') (by simp [l_ws]) ?_
    refine n_istore (k := 5) dL_law_1015 (by decide) ?_
    refine n_aload_n (k := 2) (x := G'.2.2.1 0 60) dL_law_1017 rfl ?_
    refine l_scr (i := i) (z := 1) dL_law_1018 dL_law_1019 dL_law_1021 dL_law_1022 dL_law_1023 rfl rfl (by decide) (by omega) hL31 ?_
    refine l_scr (i := i) (z := 2) dL_law_1024 dL_law_1025 dL_law_1027 dL_law_1028 dL_law_1029 rfl rfl (by decide) (by omega) hL31 ?_
    refine n_callV (G := G') (I := J) (i := 0) (j := 60) (as := [.inl (xs (i + 1)), .inl (xs (i + 2))]) (rest := []) (w1 := []) (w3 := am_ws G I' ++ [(qo, .inl (B.2.2, 1, .inr (.inl v')))]) hg' dL_law_1030 lkX11_node ml_L_132 imX11_node seX11_node rfl rfl (hG'.m0 (by decide)) rfl (Nat.le_of_ble_eq_true rfl) rfl (by simp [l_ws]) (by omega) (by omega) (hA1 I' hq) ?_
    rintro q J' hqs ⟨ht, hI2⟩
    cases q with
    | none => cases hqs
    | some q =>
      refine n_ws (ws' := l_ws B G G' qo I' J' v') (by simp [l_ws]) ?_
      refine n_istore (k := 6) dL_law_1033 (by decide) ?_
      refine n_aload_n (k := 2) (x := G'.2.2.1 0 60) dL_law_1035 rfl ?_
      refine n_callV (G := G') (I := J') (i := 0) (j := 60) (as := []) (rest := []) (w1 := []) (w3 := am_ws G I' ++ [(qo, .inl (B.2.2, 1, .inr (.inl v')))]) hg' dL_law_1036 lkX11_thrown ml_L_84 imX11_thrown seX11_thrown rfl rfl (hG'.m0 (by decide)) rfl (Nat.le_of_ble_eq_true rfl) rfl (by simp [l_ws]) (by omega) (by omega) (c_thrown hG' J') ?_
      rintro q9 J9 hq9 ⟨rfl, rfl⟩
      refine n_ws (ws' := l_ws B G G' qo I' J9 v') (by simp [l_ws]) ?_
      refine n_iload (k := 5) (x := 1) dL_law_1039 rfl ?_
      refine n_icmp_eq (tgt := 1046) dL_law_1041 rfl (fun _ => ?_) (fun h => absurd (show J9 0 60 0 = 1 from ht) h)
      refine n_iload (k := 5) (x := 1) dL_law_1046 rfl ?_
      refine n_if_ne (tgt := 1063) dL_law_1048 rfl (fun _ => ?_) (fun h => absurd h (by decide))
      refine n_goto (tgt := 1122) dL_law_1063 rfl ?_
      exact hk I' J9 v' _ _ hI2
/-- a step of the law: about -/
def ls_about (G G' : am_G) (Inv : Nat → am_I → am_I → Prop) : Prop := ∀ (k : Nat) (I J : am_I) (p0 : Int32), Inv (k + 1) I J → ∃ (Q : Option Int32 → am_I → Prop) (X : String → am_I → Prop), am_CX G 14 mX10_about [.inr (0, 0), .inl p0] I Q X ∧ (∀ Ex I', X Ex I' → Ex = "java/lang/IllegalArgumentException") ∧ (∀ (r : Int32) (I' : am_I), Q (some r) I' → am_C G' 15 mX11_about [.inr (0, 60), .inl p0] J (fun q J' => J' 0 60 0 = nI 0 ∧ q = some r ∧ Inv k I' J')) ∧ (∀ (I' : am_I), X "java/lang/IllegalArgumentException" I' → am_C G' 15 mX11_about [.inr (0, 60), .inl p0] J (fun _ J' => J' 0 60 0 = nI 1 ∧ Inv k I' J'))
theorem nlk_about : n_lk RL 133 mL_about hhL_about 3 := ⟨cwL_about, am_t1 0 rfl rfl, ml_L_133, am_t5 209 rfl rfl, ⟨by decide +kernel, by decide +kernel, by decide +kernel⟩, by decide, rfl⟩
theorem lc_about {B : k_B} {G G' : am_G} (hg : k_gb G B) (hg' : k_gb G' B) (hG : am_ok G) (hG' : am_okM G') {Inv : Nat → am_I → am_I → Prop} (hs : ls_about G G' Inv) {b L qo i k nc ns : Nat} {xs : Nat → Int32} {I J : am_I} {v : Nat → Int64} {a5 a6 : Option am_V} (hI : Inv (k + 1) I J) (hi : i + 6 < L) (hL31 : L < 2 ^ 31) (hnc : nc + 1 ≤ 600002) (hns : ns + 6 ≤ 7302198)
    (hk : ∀ (I' J' : am_I) (v' : Nat → Int64) (b5 b6 : Option am_V), Inv k I' J' → am_N B 16 mL_law 600002 7302198 (n_El B b L xs) 1122 (l_lo b (G.2.2.1 0 0) (G'.2.2.1 0 60) qo i b5 b6) [] (l_ws B G G' qo I' J' v') (nc + 1) (ns + 6)) : am_N B 16 mL_law 600002 7302198 (n_El B b L xs) 1066 (l_lo b (G.2.2.1 0 0) (G'.2.2.1 0 60) qo i a5 a6) [] (l_ws B G G' qo I J v) nc ns := by
  obtain ⟨Q, X, hC, hX, hA0, hA1⟩ := hs k I J (xs (i + 1)) hI
  refine n_aload_n (k := 1) (x := G.2.2.1 0 0) dL_law_1066 rfl ?_
  refine l_scr (i := i) (z := 1) dL_law_1067 dL_law_1068 dL_law_1070 dL_law_1071 dL_law_1072 rfl rfl (by decide) (by omega) hL31 ?_
  refine n_aload_n (k := 3) (x := qo) dL_law_1073 rfl ?_
  refine n_callW (As := [.ref (G.2.2.1 0 0), .int (xs (i + 1)), .ref qo]) (rest := []) (w1 := am_ws G' J) (w2 := (am_ws G I ++ ([(qo, Sum.inl (B.2.2, 1, Sum.inr (Sum.inl v)))] : va_W) : va_W)) (w3 := []) dL_law_1074 nlk_about rfl (Nat.le_of_ble_eq_true rfl) rfl (by simp [l_ws]) hnc hns (fun p e R s m args below meth c A Z h => h.1) (nw_about (qo := qo) (v := v) hg (hG.m0 (by decide)) hC hX) ?_
  rintro kc w4 ⟨I', v', rfl, ⟨rfl, r, hq, hv⟩ | ⟨rfl, hq⟩⟩
  · skip
    refine n_ws (ws' := l_ws B G G' qo I' J v') (by simp [l_ws]) ?_
    refine n_istore (k := 5) dL_law_1077 (by decide) ?_
    refine n_aload_n (k := 2) (x := G'.2.2.1 0 60) dL_law_1079 rfl ?_
    refine l_scr (i := i) (z := 1) dL_law_1080 dL_law_1081 dL_law_1083 dL_law_1084 dL_law_1085 rfl rfl (by decide) (by omega) hL31 ?_
    refine n_callV (G := G') (I := J) (i := 0) (j := 60) (as := [.inl (xs (i + 1))]) (rest := []) (w1 := []) (w3 := am_ws G I' ++ [(qo, .inl (B.2.2, 1, .inr (.inl v')))]) hg' dL_law_1086 lkX11_about ml_L_135 imX11_about seX11_about rfl rfl (hG'.m0 (by decide)) rfl (Nat.le_of_ble_eq_true rfl) rfl (by simp [l_ws]) (by omega) (by omega) (hA0 r I' hq) ?_
    rintro q J' hqs ⟨ht, rfl, hI2⟩
    refine n_ws (ws' := l_ws B G G' qo I' J' v') (by simp [l_ws]) ?_
    refine n_istore (k := 6) dL_law_1089 (by decide) ?_
    refine n_aload_n (k := 2) (x := G'.2.2.1 0 60) dL_law_1091 rfl ?_
    refine n_callV (G := G') (I := J') (i := 0) (j := 60) (as := []) (rest := []) (w1 := []) (w3 := am_ws G I' ++ [(qo, .inl (B.2.2, 1, .inr (.inl v')))]) hg' dL_law_1092 lkX11_thrown ml_L_84 imX11_thrown seX11_thrown rfl rfl (hG'.m0 (by decide)) rfl (Nat.le_of_ble_eq_true rfl) rfl (by simp [l_ws]) (by omega) (by omega) (c_thrown hG' J') ?_
    rintro q9 J9 hq9 ⟨rfl, rfl⟩
    refine n_ws (ws' := l_ws B G G' qo I' J9 v') (by simp [l_ws]) ?_
    refine n_iload (k := 5) (x := 0) dL_law_1095 rfl ?_
    refine n_icmp_eq (tgt := 1102) dL_law_1097 rfl (fun _ => ?_) (fun h => absurd (show J9 0 60 0 = 0 from ht) h)
    refine n_iload (k := 5) (x := 0) dL_law_1102 rfl ?_
    refine n_if_ne (tgt := 1119) dL_law_1104 rfl (fun h => absurd rfl h) (fun _ => ?_)
    refine n_aload_n (k := 3) (x := qo) dL_law_1107 rfl ?_
    refine n_iconst (v := 0) dL_law_1108 rfl ?_
    refine n_lald (q0 := G'.2.2.2.2.length + G.2.2.2.2.length) (a := qo) (n := 1) (i := 0) (f := v') dL_law_1109 (l_at) n_in01 ?_
    rw [show v' (Int32.toNatClampNeg 0) = r.toInt64 from hv]
    refine n_iload (k := 6) (x := r) dL_law_1110 rfl ?_
    refine n_i2l dL_law_1112 ?_
    refine n_lcmp dL_law_1113 ?_
    rw [l_cmp0]
    refine n_if_eq (tgt := 1119) dL_law_1114 rfl (fun _ => ?_) (fun h => absurd rfl h)
    refine n_goto (tgt := 1122) dL_law_1119 rfl ?_
    exact hk I' J9 v' _ _ hI2
  · skip
    refine n_ws (ws' := l_ws B G G' qo I' J v') (by simp [l_ws]) ?_
    refine n_istore (k := 5) dL_law_1077 (by decide) ?_
    refine n_aload_n (k := 2) (x := G'.2.2.1 0 60) dL_law_1079 rfl ?_
    refine l_scr (i := i) (z := 1) dL_law_1080 dL_law_1081 dL_law_1083 dL_law_1084 dL_law_1085 rfl rfl (by decide) (by omega) hL31 ?_
    refine n_callV (G := G') (I := J) (i := 0) (j := 60) (as := [.inl (xs (i + 1))]) (rest := []) (w1 := []) (w3 := am_ws G I' ++ [(qo, .inl (B.2.2, 1, .inr (.inl v')))]) hg' dL_law_1086 lkX11_about ml_L_135 imX11_about seX11_about rfl rfl (hG'.m0 (by decide)) rfl (Nat.le_of_ble_eq_true rfl) rfl (by simp [l_ws]) (by omega) (by omega) (hA1 I' hq) ?_
    rintro q J' hqs ⟨ht, hI2⟩
    cases q with
    | none => cases hqs
    | some q =>
      refine n_ws (ws' := l_ws B G G' qo I' J' v') (by simp [l_ws]) ?_
      refine n_istore (k := 6) dL_law_1089 (by decide) ?_
      refine n_aload_n (k := 2) (x := G'.2.2.1 0 60) dL_law_1091 rfl ?_
      refine n_callV (G := G') (I := J') (i := 0) (j := 60) (as := []) (rest := []) (w1 := []) (w3 := am_ws G I' ++ [(qo, .inl (B.2.2, 1, .inr (.inl v')))]) hg' dL_law_1092 lkX11_thrown ml_L_84 imX11_thrown seX11_thrown rfl rfl (hG'.m0 (by decide)) rfl (Nat.le_of_ble_eq_true rfl) rfl (by simp [l_ws]) (by omega) (by omega) (c_thrown hG' J') ?_
      rintro q9 J9 hq9 ⟨rfl, rfl⟩
      refine n_ws (ws' := l_ws B G G' qo I' J9 v') (by simp [l_ws]) ?_
      refine n_iload (k := 5) (x := 1) dL_law_1095 rfl ?_
      refine n_icmp_eq (tgt := 1102) dL_law_1097 rfl (fun _ => ?_) (fun h => absurd (show J9 0 60 0 = 1 from ht) h)
      refine n_iload (k := 5) (x := 1) dL_law_1102 rfl ?_
      refine n_if_ne (tgt := 1119) dL_law_1104 rfl (fun _ => ?_) (fun h => absurd h (by decide))
      refine n_goto (tgt := 1122) dL_law_1119 rfl ?_
      exact hk I' J9 v' _ _ hI2
