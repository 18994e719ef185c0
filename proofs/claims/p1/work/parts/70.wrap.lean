/-- a wrapper's body out of which its contract comes -/
def n_Ew (B : k_B) (M : am_M) (hh : List (Nat × Nat × Nat × Nat)) (Q : Int32 → va_W → Prop) : n_E := fun p e R s m args below meth c A Z => am_TW A s ∧ c.exceptionTable.toList = tableOf hh ∧
  ∀ (r : Int32) (ws' : va_W) (H' : Heap) (locs' : List Loc) (nc ns : Nat) (g : JFrame), nc ≤ 1 → ns ≤ 6 → Q r ws' → k_H B A s H' locs' ws' → W p B.1.1 e R s m args below meth c H' locs' 1 6 (MQ below (fun _ _ oc t => oc = .returned (some (.int r)) ∧ t.heap = H' ∧ s.WarmedH t.vm) args s 1 6 A) g → W p B.1.1 e R s m args below meth c H' locs' nc ns Z g
theorem n_iret {B : k_B} {d : Nat} {M : am_M} {mc ms : Nat} {hh : List (Nat × Nat × Nat × Nat)} {Q : Int32 → va_W → Prop} {pc : Nat} {lo : List (Option am_V)} {ws : va_W} {nc ns : Nat} {v : Int32} (hd : decode M.2.1 pc = .ok (.ireturn, 1)) (ht : M.2.2.2 = some .int) (hnc : nc ≤ 1) (hns : ns ≤ 6) (hq : Q v ws) : am_N B d M mc ms (n_Ew B M hh Q) pc lo [.int v] ws nc ns := by
  intro p e R s m args below meth c A Z H locs ls X hH hL
  obtain ⟨hx, hb, hr, hml, hown, hts, hlocks, hnm⟩ := id X.1
  exact X.2.2.2.2.2 v ws H locs nc ns _ hnc hns hq hH (W.zret hx hb (hr.trans ht) rfl (fun t ht hW => ⟨rfl, ht, hW⟩) hH.2.2.2.2 hd hlocks)
theorem n_ofW {l : Launch} {y : MethodName} {ws ws' : List Cond} {rm : Room} {Pc : Array Value → State → Prop} {Qc : Array Value → State → Outcome → State → Prop} {mc ms : Nat} {free : Addr → Prop} {cc : ByteArray} {maxL : Nat} {ret : Option FieldType} {hh : List (Nat × Nat × Nat × Nat)}
    (hy : plainFor y = true) (hw : ws = Cond.codeWith y cc maxL ret hh :: ws')
    (body : ∀ p e s m args below meth c s₁, BodyLoose p l y (headSpec ws rm) cc maxL ret e s m args below meth c s₁ → c.maxLocals = maxL → Pc args s →
      W p l e (headSpec ws rm).room s m args below meth c s.heap [] 0 0 (MQ below Qc args s mc ms free) (entryFrame m args maxL)) : Met l y ws rm Pc Qc mc ms free := by
  refine MetFree.of_bodySF (code := cc) (maxLocals := maxL) (ret := ret) hy ?_ ?_
  · intro args s m h hn
    obtain ⟨m9, meth, c, hn9, h1, h2, h3, h4, -, h5, h6, -⟩ := Cond.codeWith_spec (atoms_spec (ws := ws) h _ (by rw [hw]; exact List.mem_cons_self))
    cases hn.symm.trans hn9
    exact ⟨meth, c, h1, h2, h3, h4, h5, h6⟩
  · intro p e s m args below meth c s₁ B hml hP _
    obtain ⟨t, a1, o, b1, b2, b3⟩ := body p e s m args below meth c s₁ B hml hP s₁ (by rw [B.state]; rfl) (Stand.of_body B)
    exact ⟨t, o, a1, b1, b2, ⟨b3.1, b3.2⟩⟩
theorem n_of {B : k_B} {d : Nat} {M : am_M} {hh : List (Nat × Nat × Nat × Nat)} {Q : Int32 → va_W → Prop} {ws : va_W} {as : List am_V} (hy : plainFor M.1 = true) (hl : as.length ≤ M.2.2.1) (hrt : M.2.2.2 = some .int) (hj : am_N B d M 1 6 (n_Ew B M hh Q) 0 (as.map some ++ List.replicate (M.2.2.1 - as.length) none) [] ws 0 0) : n_C B d M hh (as.map (am_val (k_G B))) ws Q := by
  intro sz
  refine n_ofW (cc := M.2.1) (maxL := M.2.2.1) (ret := M.2.2.2) (hh := hh) hy rfl ?_
  intro p e s m args below meth c s₁ Bd hml hv
  obtain ⟨rfl, hsz, ⟨hP, hK, hAO, hD0, hN⟩, hTW⟩ := hv
  have hts := atoms_spec (ws := n_w M hh) Bd.pre
  have hown : s.vm.findClass M.1.cls = some m.cls := findClass_of_methodNamed Bd.named
  subst hsz
  have hD : va_D (k_A ws s.heap.size) ws := hD0.weaken (fun k q hk _ => Or.inl ⟨q, List.mem_of_getElem? hk, rfl⟩)
  have hsl : ∀ vs : List am_V, lg_sl (vs.map (am_val (k_G B))) = vs.map (fun v => Slot.val (am_val (k_G B) v)) := by
    intro vs
    induction vs with
    | nil => rfl
    | cons v t ih =>
      simp only [lg_sl, List.map_cons, List.flatMap_cons] at ih ⊢
      rw [ih, if_neg (by rw [am_val_cat]; decide)]
      rfl
  have hlen : (lg_sl (as.map (am_val (k_G B)))).length = as.length := by rw [hsl, List.length_map]
  have hlv := lv_entry (as.map (am_val (k_G B))) (n := M.2.2.1) (by rw [hlen]; exact hl)
  rw [lg_entry_eq]
  have hL : am_L (k_G B) M ((lg_sl (as.map (am_val (k_G B))) ++ List.replicate (M.2.2.1 - (lg_sl (as.map (am_val (k_G B)))).length) Slot.unset).toArray) (as.map some ++ List.replicate (M.2.2.1 - as.length) none) := by
    refine ⟨hlv.1, hlv.2.1, by simp; omega, fun i v hi => ?_⟩
    rw [hsl]
    by_cases h : i < as.length
    · rw [List.getElem?_append_left (by simpa using h)] at hi
      rw [List.getElem?_map] at hi
      simp only [List.getElem?_toArray]
      rw [List.getElem?_append_left (by simpa using h), List.getElem?_map]
      cases hv : as[i]? with
      | none => rw [hv] at hi; cases hi
      | some w => rw [hv] at hi; cases hi; rfl
    · rw [List.getElem?_append_right (by simpa using h)] at hi
      have := List.eq_of_mem_replicate (List.mem_of_getElem? hi)
      cases this
  refine hj p e _ s m _ below meth c (k_A ws s.heap.size) _ s.heap [] _ ⟨⟨Bd.exec, Bd.bytes, Bd.returns, hml, hown, fun w h => hts w (List.mem_cons_of_mem _ h), Bd.notSynchronized, trivial⟩, ⟨fun q h => Or.inr h, hK, hAO, hN⟩, ⟨Nat.le_refl _, Nat.le_refl _, Nat.le_refl _, Nat.le_refl _⟩, hTW, vx_table (x := M.1) Bd (hts _ List.mem_cons_self), ?_⟩ ⟨hP, hD, va_S.rf⟩ hL
  intro r ws' H' locs' nc ns g hnc hns hq hH k
  refine W.widen (k := 1) (n := 6) hnc hns ?_
  intro T hT Xs
  obtain ⟨t, h1, o, h2, h3, ⟨ho, hh, hW⟩, h5⟩ := k T hT Xs
  refine ⟨t, h1, o, h2, h3, ?_, h5⟩
  have hB : k_W B ws' t := ⟨by rw [hh]; exact hH.1, va_K.moved hW.alike hK, va_AO.moved hW.alike hAO, hH.2.1.weaken (fun _ _ _ _ => trivial), am_nw_warm hW hN⟩
  have hF : va_F (k_A ws s.heap.size) s t := hH.2.2.F hh
  subst ho
  exact ⟨⟨r, ws', rfl, ⟨hq, hH.2.1⟩, hB⟩, hF⟩
theorem n_blindX {G : am_G} {I : am_I} {sz : Nat} {av : List Value} {A : Nat → Prop} : FrameBlind (va_Pc av (fun U => U.heap.size = sz ∧ am_B G I U ∧ am_TS A U)) := by
  intro a U g mk q
  obtain ⟨q0, q1, ⟨qP, qK, qD, qN⟩, t1, t2, t3, t4⟩ := q
  have hal : U.vm.Alike (U.calling g mk a).vm := Vm.Alike.refl U.vm
  refine ⟨q0, q1, ⟨qP, va_K.moved (u := U) (U := U.calling g mk a) hal qK, qD, am_nw_same (s := U) (U := U.calling g mk a) rfl qN⟩, vx_Zq.moved hal t1, vx_Zq.moved hal t2, fun q hq => ?_, fun w hw => ?_⟩
  · obtain ⟨a, ha⟩ := t3 q hq
    exact ⟨a, ha⟩
  · exact va_tabs (u := U) (U := U.calling g mk a) (am_tw_on w hw) rfl (t4 w hw)
/-- the row of the table that takes an exception thrown at pc -/
def n_takes (own : String) (hh : List (Nat × Nat × Nat × Nat)) (pc : Nat) (Ex : String) (hp : Nat) : Prop := ∃ (pre : List ExceptionTableEntry) (x : ExceptionTableEntry) (suf : List ExceptionTableEntry), tableOf hh = pre ++ x :: suf ∧ x.handlerPc = hp ∧ covers x pc = true ∧ x.catchType ≠ 0 ∧ Cond.classLink own x.catchType Ex ∈ am_T ∧ Cond.castable Ex Ex ∈ am_tw ∧ Ex ∈ am_xs ∧
  ∀ z ∈ pre, z.catchType ≠ 0 ∧ ∃ nm ∈ am_xs, Cond.classLink own z.catchType nm ∈ am_T ∧ Ex ≠ nm
theorem n_callX {B : k_B} {d : Nat} {M : am_M} {mc ms : Nat} {E : n_E} {pc : Nat} {lo : List (Option am_V)} {st : List Value} {ws : va_W} {nc ns : Nat} {G : am_G} (hg : k_gb G B) {M' : am_M} {I : am_I} {idx na i j : Nat} {as : List am_V} {rest : List Value} {w1 w3 : va_W} {Q' : Option Int32 → am_I → Prop} {X' : String → am_I → Prop} {T : u_T} {N : Nat} {hh : List (Nat × Nat × Nat × Nat)} (hd : decode M.2.1 pc = .ok (.invokevirtual idx, 3)) (hlk : am_lk M' na) (hl : Cond.methodLink M.1.cls idx M'.1 ∈ am_T) (hin : Cond.instanceMethod M'.1 ∈ am_T) (hse : Cond.selects M'.1.cls M'.1 M'.1 ∈ am_T)
    (hci : vwCl[am_ci j]? = some (M'.1.cls, T, N)) (hk0 : am_k j = 0) (hm : (i, j) ∈ G.2.2.2.2) (hlen : as.length = na) (hrest : rest.length ≤ 4) (hst : st = (as.map (am_val G)).reverse ++ .ref (G.2.2.1 i j) :: rest) (hw : ws = w1 ++ am_ws G I ++ w3) (hc : nc + 1 ≤ mc) (hs : ns + 6 ≤ ms)
    (hE : ∀ p e R s m args below meth c A Z, E p e R s m args below meth c A Z → am_TW A s ∧ c.exceptionTable.toList = tableOf hh) (hC : am_CX G d M' (.inr (i, j) :: as) I Q' X')
    (hk : ∀ (r : Option Int32) (I' : am_I), r.isSome = M'.2.2.2.isSome → Q' r I' → am_N B (d + 1) M mc ms E (pc + 3) lo (r.toList.map Value.int ++ rest) (w1 ++ am_ws G I' ++ w3) (nc + 1) (ns + 6))
    (hx : ∀ (Ex : String) (I' : am_I), X' Ex I' → ∃ hp : Nat, n_takes M.1.cls hh pc Ex hp ∧ ∀ q : Nat, am_N B (d + 1) M mc ms E hp lo [.ref q] (w1 ++ am_ws G I' ++ w3) (nc + 1) (ns + 6)) : am_N B (d + 1) M mc ms E pc lo st ws nc ns := by
  intro p e R s m args below meth c A Z H locs ls X hH hL
  obtain ⟨hx0, hb, hr, hml, hown, hts, hlocks, hnm⟩ := id X.1
  obtain ⟨h1, h2, h3, h4⟩ := id hlk
  obtain ⟨hTW, htab⟩ := hE p e R s m args below meth c A Z X.2.2.2
  have hC9 := hC H.size
  rw [hg.1] at hC9
  obtain ⟨q, -, hwq⟩ := am_at hm I
  rw [am_cell0 hk0] at hwq
  subst hw
  have hmid := k_mid hH.1 hH.2.1
  have hF : ∀ q, am_A G H.size q → A q := by
    rw [← k_Aeq (I := I)]
    exact k_sub hH.2.1 X.2.1.1 hH.2.2
  have hA : ∀ q, H.size ≤ q → A q := fun q h => X.2.1.1 q (Nat.le_trans hH.2.2.1 h)
  have hD2 : ∀ I' : am_I, va_D (k_A (am_ws G I) H.size) (am_ws G I') := fun I' => am_D (hmid.2.weaken (fun k q hk _ => Or.inl ⟨q, List.mem_of_getElem? hk, rfl⟩)) I'
  have hrun := vx_runV (e := e) (below := below) (meth := meth) (cells := nc) (slots := ns) (locs := locs) (g := F0 m pc ls st) (As := as.map (am_val G)) (rest := rest) (b := G.2.2.1 i j) (C := M'.1.cls) (index := idx) (n := na) (bytes := M'.2.1) (maxL := M'.2.2.1) (ret := M'.2.2.2) ⟨hx0, hb, hml, hown, hts⟩ hC9
    ⟨callB_of na hts (k_ws' hlk) rfl rfl rfl (hts _ h2) (hts _ hl) h3 ⟨by show d + 1 ≤ R.frames; exact X.2.2.1.1, by show 8 + (M'.2.2.1 + 11) + 41 * d ≤ R.locals; have := X.2.2.1.2.1; omega⟩, hts _ hin, hts _ hse⟩
    ⟨n_blindX, va_recv X.2.1.2.1 hmid.1 hci hwq, fun U hU hW => ⟨rfl, (n_preB X hH hU hW).1, k_toB hg (n_preB X hH hU hW).2, hTW.1.move hH.2.2 hU hW hF⟩⟩ rfl (by rw [List.length_map]; exact hlen) hL.1 hst (lv_room (by have := k_cats rest (fun v _ => k_cat2 v); omega)) hd ⟨Nat.le_trans hc X.2.2.1.2.2.1, Nat.le_trans hs X.2.2.1.2.2.2⟩
  have kx : ∀ (Ex : String) (ce : Cell) (q9 : Addr) (u : am_I) (t : State) (H1 : Heap) (locs1 : List Loc), t.heap = H1 → s.vm.Alike t.vm → True → (X' Ex u ∧ va_P B.1.2 vwCl (am_ws G u) t.heap) → H.size ≤ H1.size → (∀ q : Nat, q < H.size → ¬ am_A G H.size q → H1[q]? = H[q]?) → va_S A s.heap H1 locs1 → H1[q9]? = some ce → ce.vm = .none → s.vm.findClass Ex = some ce.cls → vx_W p B.1.1 e R s m args below meth c H1 locs1 (nc + 1) (ns + 6) Z (F0 m pc ls rest) q9 := by
    intro Ex ce q9 u t H1 locs1 ht hvm _ hX hz hk1 hS hce hcv hcl
    obtain ⟨hp, ⟨pre, x, suf, t1, t2, t3, t4, t5, t6, t7, t8⟩, hN⟩ := hx Ex u hX.1
    rw [← k_Aeq (I := I)] at hk1
    obtain ⟨g1, g2⟩ := k_frame hH.1 hH.2.1 hk1 (by rw [← ht]; exact hX.2) (hD2 u) hA
    refine vx_catch (own := M.1.cls) (name := Ex) (E := Ex) hown pre x suf (by rw [htab]; exact t1) (fun z hz => ?_) t3 t4 (hts _ t5) (va_any (am_tw_on _ t6) (hTW.1.2.2.2 _ t6)) hce hcv hcl ?_
    · obtain ⟨z1, nm, z2, z3, z4⟩ := t8 z hz
      exact Or.inr ⟨z1, nm, hts _ z3, hTW.2 Ex t7 nm z2 z4⟩
    · rw [t2]
      exact hN q9 p e R s m args below meth c A Z H1 locs1 ls X ⟨g1, g2, hS⟩ hL
  cases hret : M'.2.2.2 with
  | none =>
    simp only [am_Qc, hret] at hrun
    refine vx_callv hrun hH.2.2 (fun q _ h => hF q h) hF (fun q _ h => hF q h) kx (fun u t H1 locs1 ht hvm hw hB hz hk1 hS => ?_)
    rw [← k_Aeq (I := I)] at hk1
    obtain ⟨g1, g2⟩ := k_frame hH.1 hH.2.1 hk1 (by rw [← ht]; exact k_ofB hg hB) (hD2 u) hA
    exact hk none u (by rw [hret]; rfl) hw p e R s m args below meth c A Z H1 locs1 ls X ⟨g1, g2, hS⟩ hL
  | some ty =>
    simp only [am_Qc, hret] at hrun
    refine vx_calli hrun hH.2.2 (fun q _ h => hF q h) hF (fun q _ h => hF q h) kx (fun r u t H1 locs1 ht hvm hw hB hz hk1 hS => ?_)
    rw [← k_Aeq (I := I)] at hk1
    obtain ⟨g1, g2⟩ := k_frame hH.1 hH.2.1 hk1 (by rw [← ht]; exact k_ofB hg hB) (hD2 u) hA
    exact hk (some r) u (by rw [hret]; rfl) hw p e R s m args below meth c A Z H1 locs1 ls X ⟨g1, g2, hS⟩ hL
theorem n_set1 {G : am_G} {I : am_I} {x y : Nat × va_E} : (([] ++ am_ws G I ++ [x]) : va_W).set G.2.2.2.2.length y = am_ws G I ++ [y] := by
  have hl9 : (am_ws G I).length = G.2.2.2.2.length := by simp [am_ws]
  rw [← hl9, List.nil_append, List.set_append_right _ _ (Nat.le_refl _), Nat.sub_self]
  rfl
theorem n_in01 : vp_in 0 1 := by unfold vp_in; decide
theorem clL_13 : Cond.classLink RL 13 "java/lang/IllegalArgumentException" ∈ am_T := am_t2 213 rfl rfl
theorem clL_15 : Cond.classLink RL 15 "java/lang/IllegalStateException" ∈ am_T := am_t2 214 rfl rfl
theorem clL_43 : Cond.classLink RL 43 "java/lang/IndexOutOfBoundsException" ∈ am_T := am_t5 116 rfl rfl
theorem clL_52 : Cond.classLink RL 52 "java/util/NoSuchElementException" ∈ am_T := am_t5 155 rfl rfl
abbrev mL_call : am_M := (yL_call, cL_call, 9, some .int)
abbrev hhL_call : List (Nat × Nat × Nat × Nat) := [(0, 18, 21, 13), (0, 18, 25, 15)]
theorem cwL_call : Cond.codeWith yL_call cL_call 9 (some .int) hhL_call ∈ am_T := am_t2 212 rfl rfl
theorem mlL_call : Cond.methodLink RL 7 yX10_call ∈ am_T := am_t2 215 rfl rfl
theorem tkL_call_IA : n_takes RL hhL_call 13 "java/lang/IllegalArgumentException" 21 := ⟨[], ⟨0, 18, 21, 13⟩, [⟨0, 18, 25, 15⟩], rfl, rfl, by decide, by decide, clL_13, List.mem_of_getElem? (i := 0) rfl, by decide, fun z hz => by cases hz⟩
theorem tkL_call_IS : n_takes RL hhL_call 13 "java/lang/IllegalStateException" 25 := ⟨[⟨0, 18, 21, 13⟩], ⟨0, 18, 25, 15⟩, [], rfl, rfl, by decide, by decide, clL_15, List.mem_of_getElem? (i := 1) rfl, by decide, fun z hz => by
  simp only [List.mem_cons, List.not_mem_nil, or_false] at hz
  rcases hz with rfl
  · exact ⟨by decide, "java/lang/IllegalArgumentException", by decide, clL_13, by decide⟩⟩
theorem nw_call {B : k_B} {G : am_G} (hg : k_gb G B) (hm : (0, 0) ∈ G.2.2.2.2) {d : Nat} {I : am_I} {qo : Nat} {v : Nat → Int64} {p0 p1 p2 p3 p4 p5 : Int32} {Q' : Option Int32 → am_I → Prop} {X' : String → am_I → Prop} (hC : am_CX G d mX10_call [.inr (0, 0), .inl p0, .inl p1, .inl p2, .inl p3, .inl p4, .inl p5] I Q' X') (hX : ∀ Ex I', X' Ex I' → Ex = "java/lang/IllegalArgumentException" ∨ Ex = "java/lang/IllegalStateException") : n_C B (d + 1) mL_call hhL_call (([.inr (G.2.2.1 0 0, 0), .inl p0, .inl p1, .inl p2, .inl p3, .inl p4, .inl p5, .inr (qo, 0)] : List am_V).map (am_val (k_G B))) (am_ws G I ++ [(qo, .inl (B.2.2, 1, .inr (.inl (v))))]) (fun k w => ∃ (I' : am_I) (v' : Nat → Int64), w = am_ws G I' ++ [(qo, .inl (B.2.2, 1, .inr (.inl (v'))))] ∧ ((k = 0 ∧ ∃ r : Int32, Q' (some r) I' ∧ v' 0 = r.toInt64) ∨ (k = 1 ∧ X' "java/lang/IllegalArgumentException" I') ∨ (k = 2 ∧ X' "java/lang/IllegalStateException" I'))) := by
  refine n_of (by decide) (Nat.le_of_ble_eq_true rfl) rfl ?_
  refine n_aload (k := 7) (x := qo) dL_call_0 rfl ?_
  refine n_iconst (v := 0) dL_call_2 rfl ?_
  refine n_aload_n (k := 0) (x := G.2.2.1 0 0) dL_call_3 rfl ?_
  refine n_iload_n (k := 1) (x := p0) dL_call_4 rfl ?_
  refine n_iload_n (k := 2) (x := p1) dL_call_5 rfl ?_
  refine n_iload_n (k := 3) (x := p2) dL_call_6 rfl ?_
  refine n_iload (k := 4) (x := p3) dL_call_7 rfl ?_
  refine n_iload (k := 5) (x := p4) dL_call_9 rfl ?_
  refine n_iload (k := 6) (x := p5) dL_call_11 rfl ?_
  refine n_callX (i := 0) (j := 0) (as := [.inl p0, .inl p1, .inl p2, .inl p3, .inl p4, .inl p5]) (rest := [.int 0, .ref qo]) (w1 := []) (w3 := [(qo, .inl (B.2.2, 1, .inr (.inl v)))]) (hh := hhL_call) hg dL_call_13 lkX10_call mlL_call imX10_call seX10_call rfl rfl hm rfl (Nat.le_of_ble_eq_true rfl) rfl (by simp) (Nat.le_refl _) (Nat.le_refl _) (fun p e R s m args below meth c A Z h => ⟨h.1, h.2.1⟩) hC ?_ ?_
  · intro r I' hrs hq
    cases r with
    | none => cases hrs
    | some r =>
      refine n_i2l dL_call_16 ?_
      refine n_last (q0 := G.2.2.2.2.length) (a := qo) (n := 1) (i := 0) (f := v) dL_call_17 (by simp [am_ws]) n_in01 ?_
      refine n_goto (tgt := 29) dL_call_18 rfl ?_
      refine n_ws (ws' := am_ws G I' ++ [(qo, .inl (B.2.2, 1, .inr (.inl (vp_updL v 0 r.toInt64))))]) ?_ ?_
      · exact n_set1
      refine n_iconst (v := 0) dL_call_29 rfl ?_
      exact n_iret dL_call_30 rfl (Nat.le_refl _) (Nat.le_refl _) ⟨I', vp_updL v 0 r.toInt64, rfl, Or.inl ⟨rfl, r, hq, by simp [vp_updL]⟩⟩
  · intro Ex I' hX9
    rcases hX Ex I' hX9 with rfl | rfl
    · refine ⟨21, tkL_call_IA, fun q => ?_⟩
      refine n_astore (k := 8) dL_call_21 (by decide) ?_
      refine n_iconst (v := 1) dL_call_23 rfl ?_
      refine n_ws (ws' := am_ws G I' ++ [(qo, .inl (B.2.2, 1, .inr (.inl (v))))]) (by simp) ?_
      exact n_iret dL_call_24 rfl (Nat.le_refl _) (Nat.le_refl _) ⟨I', v, rfl, Or.inr (Or.inl ⟨rfl, hX9⟩)⟩
    · refine ⟨25, tkL_call_IS, fun q => ?_⟩
      refine n_astore (k := 8) dL_call_25 (by decide) ?_
      refine n_iconst (v := 2) dL_call_27 rfl ?_
      refine n_ws (ws' := am_ws G I' ++ [(qo, .inl (B.2.2, 1, .inr (.inl (v))))]) (by simp) ?_
      exact n_iret dL_call_28 rfl (Nat.le_refl _) (Nat.le_refl _) ⟨I', v, rfl, Or.inr (Or.inr (⟨rfl, hX9⟩))⟩
abbrev mL_delay : am_M := (yL_delay, cL_delay, 5, some .int)
abbrev hhL_delay : List (Nat × Nat × Nat × Nat) := [(0, 7, 10, 13)]
theorem cwL_delay : Cond.codeWith yL_delay cL_delay 5 (some .int) hhL_delay ∈ am_T := am_t4 165 rfl rfl
theorem mlL_delay : Cond.methodLink RL 17 yX10_delay ∈ am_T := am_t4 166 rfl rfl
theorem tkL_delay_IA : n_takes RL hhL_delay 4 "java/lang/IllegalArgumentException" 10 := ⟨[], ⟨0, 7, 10, 13⟩, [], rfl, rfl, by decide, by decide, clL_13, List.mem_of_getElem? (i := 0) rfl, by decide, fun z hz => by cases hz⟩
theorem nw_delay {B : k_B} {G : am_G} (hg : k_gb G B) (hm : (0, 0) ∈ G.2.2.2.2) {d : Nat} {I : am_I} {p0 p1 p2 : Int32} {Q' : Option Int32 → am_I → Prop} {X' : String → am_I → Prop} (hC : am_CX G d mX10_delay [.inr (0, 0), .inl p0, .inl p1, .inl p2] I Q' X') (hX : ∀ Ex I', X' Ex I' → Ex = "java/lang/IllegalArgumentException") : n_C B (d + 1) mL_delay hhL_delay (([.inr (G.2.2.1 0 0, 0), .inl p0, .inl p1, .inl p2] : List am_V).map (am_val (k_G B))) (am_ws G I) (fun k w => ∃ (I' : am_I), w = am_ws G I' ∧ ((k = 0 ∧ Q' none I') ∨ (k = 1 ∧ X' "java/lang/IllegalArgumentException" I'))) := by
  refine n_of (by decide) (Nat.le_of_ble_eq_true rfl) rfl ?_
  refine n_aload_n (k := 0) (x := G.2.2.1 0 0) dL_delay_0 rfl ?_
  refine n_iload_n (k := 1) (x := p0) dL_delay_1 rfl ?_
  refine n_iload_n (k := 2) (x := p1) dL_delay_2 rfl ?_
  refine n_iload_n (k := 3) (x := p2) dL_delay_3 rfl ?_
  refine n_callX (i := 0) (j := 0) (as := [.inl p0, .inl p1, .inl p2]) (rest := []) (w1 := []) (w3 := []) (hh := hhL_delay) hg dL_delay_4 lkX10_delay mlL_delay imX10_delay seX10_delay rfl rfl hm rfl (Nat.le_of_ble_eq_true rfl) rfl (by simp) (Nat.le_refl _) (Nat.le_refl _) (fun p e R s m args below meth c A Z h => ⟨h.1, h.2.1⟩) hC ?_ ?_
  · intro r I' hrs hq
    cases r with
    | some r => cases hrs
    | none =>
      refine n_goto (tgt := 14) dL_delay_7 rfl ?_
      refine n_ws (ws' := am_ws G I') (by simp) ?_
      refine n_iconst (v := 0) dL_delay_14 rfl ?_
      exact n_iret dL_delay_15 rfl (Nat.le_refl _) (Nat.le_refl _) ⟨I', rfl, Or.inl ⟨rfl, hq⟩⟩
  · intro Ex I' hX9
    rcases hX Ex I' hX9 with rfl
    · refine ⟨10, tkL_delay_IA, fun q => ?_⟩
      refine n_astore (k := 4) dL_delay_10 (by decide) ?_
      refine n_iconst (v := 1) dL_delay_12 rfl ?_
      refine n_ws (ws' := am_ws G I') (by simp) ?_
      exact n_iret dL_delay_13 rfl (Nat.le_refl _) (Nat.le_refl _) ⟨I', rfl, Or.inr (⟨rfl, hX9⟩)⟩
abbrev mL_tick : am_M := (yL_tick, cL_tick, 4, some .int)
abbrev hhL_tick : List (Nat × Nat × Nat × Nat) := [(0, 9, 12, 13)]
theorem cwL_tick : Cond.codeWith yL_tick cL_tick 4 (some .int) hhL_tick ∈ am_T := am_t4 173 rfl rfl
theorem mlL_tick : Cond.methodLink RL 21 yX10_tick ∈ am_T := am_t4 174 rfl rfl
theorem tkL_tick_IA : n_takes RL hhL_tick 4 "java/lang/IllegalArgumentException" 12 := ⟨[], ⟨0, 9, 12, 13⟩, [], rfl, rfl, by decide, by decide, clL_13, List.mem_of_getElem? (i := 0) rfl, by decide, fun z hz => by cases hz⟩
theorem nw_tick {B : k_B} {G : am_G} (hg : k_gb G B) (hm : (0, 0) ∈ G.2.2.2.2) {d : Nat} {I : am_I} {qo : Nat} {v : Nat → Int64} {p0 : Int32} {Q' : Option Int32 → am_I → Prop} {X' : String → am_I → Prop} (hC : am_CX G d mX10_tick [.inr (0, 0), .inl p0] I Q' X') (hX : ∀ Ex I', X' Ex I' → Ex = "java/lang/IllegalArgumentException") : n_C B (d + 1) mL_tick hhL_tick (([.inr (G.2.2.1 0 0, 0), .inl p0, .inr (qo, 0)] : List am_V).map (am_val (k_G B))) (am_ws G I ++ [(qo, .inl (B.2.2, 1, .inr (.inl (v))))]) (fun k w => ∃ (I' : am_I) (v' : Nat → Int64), w = am_ws G I' ++ [(qo, .inl (B.2.2, 1, .inr (.inl (v'))))] ∧ ((k = 0 ∧ ∃ r : Int32, Q' (some r) I' ∧ v' 0 = r.toInt64) ∨ (k = 1 ∧ X' "java/lang/IllegalArgumentException" I'))) := by
  refine n_of (by decide) (Nat.le_of_ble_eq_true rfl) rfl ?_
  refine n_aload_n (k := 2) (x := qo) dL_tick_0 rfl ?_
  refine n_iconst (v := 0) dL_tick_1 rfl ?_
  refine n_aload_n (k := 0) (x := G.2.2.1 0 0) dL_tick_2 rfl ?_
  refine n_iload_n (k := 1) (x := p0) dL_tick_3 rfl ?_
  refine n_callX (i := 0) (j := 0) (as := [.inl p0]) (rest := [.int 0, .ref qo]) (w1 := []) (w3 := [(qo, .inl (B.2.2, 1, .inr (.inl v)))]) (hh := hhL_tick) hg dL_tick_4 lkX10_tick mlL_tick imX10_tick seX10_tick rfl rfl hm rfl (Nat.le_of_ble_eq_true rfl) rfl (by simp) (Nat.le_refl _) (Nat.le_refl _) (fun p e R s m args below meth c A Z h => ⟨h.1, h.2.1⟩) hC ?_ ?_
  · intro r I' hrs hq
    cases r with
    | none => cases hrs
    | some r =>
      refine n_i2l dL_tick_7 ?_
      refine n_last (q0 := G.2.2.2.2.length) (a := qo) (n := 1) (i := 0) (f := v) dL_tick_8 (by simp [am_ws]) n_in01 ?_
      refine n_goto (tgt := 15) dL_tick_9 rfl ?_
      refine n_ws (ws' := am_ws G I' ++ [(qo, .inl (B.2.2, 1, .inr (.inl (vp_updL v 0 r.toInt64))))]) ?_ ?_
      · exact n_set1
      refine n_iconst (v := 0) dL_tick_15 rfl ?_
      exact n_iret dL_tick_16 rfl (Nat.le_refl _) (Nat.le_refl _) ⟨I', vp_updL v 0 r.toInt64, rfl, Or.inl ⟨rfl, r, hq, by simp [vp_updL]⟩⟩
  · intro Ex I' hX9
    rcases hX Ex I' hX9 with rfl
    · refine ⟨12, tkL_tick_IA, fun q => ?_⟩
      refine n_astore_n (k := 3) dL_tick_12 (by decide) ?_
      refine n_iconst (v := 1) dL_tick_13 rfl ?_
      refine n_ws (ws' := am_ws G I' ++ [(qo, .inl (B.2.2, 1, .inr (.inl (v))))]) (by simp) ?_
      exact n_iret dL_tick_14 rfl (Nat.le_refl _) (Nat.le_refl _) ⟨I', v, rfl, Or.inr (⟨rfl, hX9⟩)⟩
abbrev mL_crash : am_M := (yL_crash, cL_crash, 4, some .int)
abbrev hhL_crash : List (Nat × Nat × Nat × Nat) := [(0, 6, 9, 13), (0, 6, 12, 15)]
theorem cwL_crash : Cond.codeWith yL_crash cL_crash 4 (some .int) hhL_crash ∈ am_T := am_t5 31 rfl rfl
theorem mlL_crash : Cond.methodLink RL 25 yX10_crash ∈ am_T := am_t5 32 rfl rfl
theorem tkL_crash_IA : n_takes RL hhL_crash 3 "java/lang/IllegalArgumentException" 9 := ⟨[], ⟨0, 6, 9, 13⟩, [⟨0, 6, 12, 15⟩], rfl, rfl, by decide, by decide, clL_13, List.mem_of_getElem? (i := 0) rfl, by decide, fun z hz => by cases hz⟩
theorem tkL_crash_IS : n_takes RL hhL_crash 3 "java/lang/IllegalStateException" 12 := ⟨[⟨0, 6, 9, 13⟩], ⟨0, 6, 12, 15⟩, [], rfl, rfl, by decide, by decide, clL_15, List.mem_of_getElem? (i := 1) rfl, by decide, fun z hz => by
  simp only [List.mem_cons, List.not_mem_nil, or_false] at hz
  rcases hz with rfl
  · exact ⟨by decide, "java/lang/IllegalArgumentException", by decide, clL_13, by decide⟩⟩
theorem nw_crash {B : k_B} {G : am_G} (hg : k_gb G B) (hm : (0, 0) ∈ G.2.2.2.2) {d : Nat} {I : am_I} {p0 p1 : Int32} {Q' : Option Int32 → am_I → Prop} {X' : String → am_I → Prop} (hC : am_CX G d mX10_crash [.inr (0, 0), .inl p0, .inl p1] I Q' X') (hX : ∀ Ex I', X' Ex I' → Ex = "java/lang/IllegalArgumentException" ∨ Ex = "java/lang/IllegalStateException") : n_C B (d + 1) mL_crash hhL_crash (([.inr (G.2.2.1 0 0, 0), .inl p0, .inl p1] : List am_V).map (am_val (k_G B))) (am_ws G I) (fun k w => ∃ (I' : am_I), w = am_ws G I' ∧ ((k = 0 ∧ Q' none I') ∨ (k = 1 ∧ X' "java/lang/IllegalArgumentException" I') ∨ (k = 2 ∧ X' "java/lang/IllegalStateException" I'))) := by
  refine n_of (by decide) (Nat.le_of_ble_eq_true rfl) rfl ?_
  refine n_aload_n (k := 0) (x := G.2.2.1 0 0) dL_crash_0 rfl ?_
  refine n_iload_n (k := 1) (x := p0) dL_crash_1 rfl ?_
  refine n_iload_n (k := 2) (x := p1) dL_crash_2 rfl ?_
  refine n_callX (i := 0) (j := 0) (as := [.inl p0, .inl p1]) (rest := []) (w1 := []) (w3 := []) (hh := hhL_crash) hg dL_crash_3 lkX10_crash mlL_crash imX10_crash seX10_crash rfl rfl hm rfl (Nat.le_of_ble_eq_true rfl) rfl (by simp) (Nat.le_refl _) (Nat.le_refl _) (fun p e R s m args below meth c A Z h => ⟨h.1, h.2.1⟩) hC ?_ ?_
  · intro r I' hrs hq
    cases r with
    | some r => cases hrs
    | none =>
      refine n_goto (tgt := 15) dL_crash_6 rfl ?_
      refine n_ws (ws' := am_ws G I') (by simp) ?_
      refine n_iconst (v := 0) dL_crash_15 rfl ?_
      exact n_iret dL_crash_16 rfl (Nat.le_refl _) (Nat.le_refl _) ⟨I', rfl, Or.inl ⟨rfl, hq⟩⟩
  · intro Ex I' hX9
    rcases hX Ex I' hX9 with rfl | rfl
    · refine ⟨9, tkL_crash_IA, fun q => ?_⟩
      refine n_astore_n (k := 3) dL_crash_9 (by decide) ?_
      refine n_iconst (v := 1) dL_crash_10 rfl ?_
      refine n_ws (ws' := am_ws G I') (by simp) ?_
      exact n_iret dL_crash_11 rfl (Nat.le_refl _) (Nat.le_refl _) ⟨I', rfl, Or.inr (Or.inl ⟨rfl, hX9⟩)⟩
    · refine ⟨12, tkL_crash_IS, fun q => ?_⟩
      refine n_astore_n (k := 3) dL_crash_12 (by decide) ?_
      refine n_iconst (v := 2) dL_crash_13 rfl ?_
      refine n_ws (ws' := am_ws G I') (by simp) ?_
      exact n_iret dL_crash_14 rfl (Nat.le_refl _) (Nat.le_refl _) ⟨I', rfl, Or.inr (Or.inr (⟨rfl, hX9⟩))⟩
abbrev mL_recover : am_M := (yL_recover, cL_recover, 4, some .int)
abbrev hhL_recover : List (Nat × Nat × Nat × Nat) := [(0, 9, 12, 13), (0, 9, 15, 15)]
theorem cwL_recover : Cond.codeWith yL_recover cL_recover 4 (some .int) hhL_recover ∈ am_T := am_t5 73 rfl rfl
theorem mlL_recover : Cond.methodLink RL 29 yX10_recover ∈ am_T := am_t5 74 rfl rfl
theorem tkL_recover_IA : n_takes RL hhL_recover 4 "java/lang/IllegalArgumentException" 12 := ⟨[], ⟨0, 9, 12, 13⟩, [⟨0, 9, 15, 15⟩], rfl, rfl, by decide, by decide, clL_13, List.mem_of_getElem? (i := 0) rfl, by decide, fun z hz => by cases hz⟩
theorem tkL_recover_IS : n_takes RL hhL_recover 4 "java/lang/IllegalStateException" 15 := ⟨[⟨0, 9, 12, 13⟩], ⟨0, 9, 15, 15⟩, [], rfl, rfl, by decide, by decide, clL_15, List.mem_of_getElem? (i := 1) rfl, by decide, fun z hz => by
  simp only [List.mem_cons, List.not_mem_nil, or_false] at hz
  rcases hz with rfl
  · exact ⟨by decide, "java/lang/IllegalArgumentException", by decide, clL_13, by decide⟩⟩
theorem nw_recover {B : k_B} {G : am_G} (hg : k_gb G B) (hm : (0, 0) ∈ G.2.2.2.2) {d : Nat} {I : am_I} {qo : Nat} {v : Nat → Int64} {p0 : Int32} {Q' : Option Int32 → am_I → Prop} {X' : String → am_I → Prop} (hC : am_CX G d mX10_recover [.inr (0, 0), .inl p0] I Q' X') (hX : ∀ Ex I', X' Ex I' → Ex = "java/lang/IllegalArgumentException" ∨ Ex = "java/lang/IllegalStateException") : n_C B (d + 1) mL_recover hhL_recover (([.inr (G.2.2.1 0 0, 0), .inl p0, .inr (qo, 0)] : List am_V).map (am_val (k_G B))) (am_ws G I ++ [(qo, .inl (B.2.2, 1, .inr (.inl (v))))]) (fun k w => ∃ (I' : am_I) (v' : Nat → Int64), w = am_ws G I' ++ [(qo, .inl (B.2.2, 1, .inr (.inl (v'))))] ∧ ((k = 0 ∧ ∃ r : Int32, Q' (some r) I' ∧ v' 0 = r.toInt64) ∨ (k = 1 ∧ X' "java/lang/IllegalArgumentException" I') ∨ (k = 2 ∧ X' "java/lang/IllegalStateException" I'))) := by
  refine n_of (by decide) (Nat.le_of_ble_eq_true rfl) rfl ?_
  refine n_aload_n (k := 2) (x := qo) dL_recover_0 rfl ?_
  refine n_iconst (v := 0) dL_recover_1 rfl ?_
  refine n_aload_n (k := 0) (x := G.2.2.1 0 0) dL_recover_2 rfl ?_
  refine n_iload_n (k := 1) (x := p0) dL_recover_3 rfl ?_
  refine n_callX (i := 0) (j := 0) (as := [.inl p0]) (rest := [.int 0, .ref qo]) (w1 := []) (w3 := [(qo, .inl (B.2.2, 1, .inr (.inl v)))]) (hh := hhL_recover) hg dL_recover_4 lkX10_recover mlL_recover imX10_recover seX10_recover rfl rfl hm rfl (Nat.le_of_ble_eq_true rfl) rfl (by simp) (Nat.le_refl _) (Nat.le_refl _) (fun p e R s m args below meth c A Z h => ⟨h.1, h.2.1⟩) hC ?_ ?_
  · intro r I' hrs hq
    cases r with
    | none => cases hrs
    | some r =>
      refine n_i2l dL_recover_7 ?_
      refine n_last (q0 := G.2.2.2.2.length) (a := qo) (n := 1) (i := 0) (f := v) dL_recover_8 (by simp [am_ws]) n_in01 ?_
      refine n_goto (tgt := 18) dL_recover_9 rfl ?_
      refine n_ws (ws' := am_ws G I' ++ [(qo, .inl (B.2.2, 1, .inr (.inl (vp_updL v 0 r.toInt64))))]) ?_ ?_
      · exact n_set1
      refine n_iconst (v := 0) dL_recover_18 rfl ?_
      exact n_iret dL_recover_19 rfl (Nat.le_refl _) (Nat.le_refl _) ⟨I', vp_updL v 0 r.toInt64, rfl, Or.inl ⟨rfl, r, hq, by simp [vp_updL]⟩⟩
  · intro Ex I' hX9
    rcases hX Ex I' hX9 with rfl | rfl
    · refine ⟨12, tkL_recover_IA, fun q => ?_⟩
      refine n_astore_n (k := 3) dL_recover_12 (by decide) ?_
      refine n_iconst (v := 1) dL_recover_13 rfl ?_
      refine n_ws (ws' := am_ws G I' ++ [(qo, .inl (B.2.2, 1, .inr (.inl (v))))]) (by simp) ?_
      exact n_iret dL_recover_14 rfl (Nat.le_refl _) (Nat.le_refl _) ⟨I', v, rfl, Or.inr (Or.inl ⟨rfl, hX9⟩)⟩
    · refine ⟨15, tkL_recover_IS, fun q => ?_⟩
      refine n_astore_n (k := 3) dL_recover_15 (by decide) ?_
      refine n_iconst (v := 2) dL_recover_16 rfl ?_
      refine n_ws (ws' := am_ws G I' ++ [(qo, .inl (B.2.2, 1, .inr (.inl (v))))]) (by simp) ?_
      exact n_iret dL_recover_17 rfl (Nat.le_refl _) (Nat.le_refl _) ⟨I', v, rfl, Or.inr (Or.inr (⟨rfl, hX9⟩))⟩
abbrev mL_start : am_M := (yL_start, cL_start, 3, some .int)
abbrev hhL_start : List (Nat × Nat × Nat × Nat) := [(0, 5, 8, 13), (0, 5, 11, 15)]
theorem cwL_start : Cond.codeWith yL_start cL_start 3 (some .int) hhL_start ∈ am_T := am_t5 95 rfl rfl
theorem mlL_start : Cond.methodLink RL 32 yX10_start ∈ am_T := am_t5 96 rfl rfl
theorem tkL_start_IA : n_takes RL hhL_start 2 "java/lang/IllegalArgumentException" 8 := ⟨[], ⟨0, 5, 8, 13⟩, [⟨0, 5, 11, 15⟩], rfl, rfl, by decide, by decide, clL_13, List.mem_of_getElem? (i := 0) rfl, by decide, fun z hz => by cases hz⟩
theorem tkL_start_IS : n_takes RL hhL_start 2 "java/lang/IllegalStateException" 11 := ⟨[⟨0, 5, 8, 13⟩], ⟨0, 5, 11, 15⟩, [], rfl, rfl, by decide, by decide, clL_15, List.mem_of_getElem? (i := 1) rfl, by decide, fun z hz => by
  simp only [List.mem_cons, List.not_mem_nil, or_false] at hz
  rcases hz with rfl
  · exact ⟨by decide, "java/lang/IllegalArgumentException", by decide, clL_13, by decide⟩⟩
theorem nw_start {B : k_B} {G : am_G} (hg : k_gb G B) (hm : (0, 0) ∈ G.2.2.2.2) {d : Nat} {I : am_I} {p0 : Int32} {Q' : Option Int32 → am_I → Prop} {X' : String → am_I → Prop} (hC : am_CX G d mX10_start [.inr (0, 0), .inl p0] I Q' X') (hX : ∀ Ex I', X' Ex I' → Ex = "java/lang/IllegalArgumentException" ∨ Ex = "java/lang/IllegalStateException") : n_C B (d + 1) mL_start hhL_start (([.inr (G.2.2.1 0 0, 0), .inl p0] : List am_V).map (am_val (k_G B))) (am_ws G I) (fun k w => ∃ (I' : am_I), w = am_ws G I' ∧ ((k = 0 ∧ Q' none I') ∨ (k = 1 ∧ X' "java/lang/IllegalArgumentException" I') ∨ (k = 2 ∧ X' "java/lang/IllegalStateException" I'))) := by
  refine n_of (by decide) (Nat.le_of_ble_eq_true rfl) rfl ?_
  refine n_aload_n (k := 0) (x := G.2.2.1 0 0) dL_start_0 rfl ?_
  refine n_iload_n (k := 1) (x := p0) dL_start_1 rfl ?_
  refine n_callX (i := 0) (j := 0) (as := [.inl p0]) (rest := []) (w1 := []) (w3 := []) (hh := hhL_start) hg dL_start_2 lkX10_start mlL_start imX10_start seX10_start rfl rfl hm rfl (Nat.le_of_ble_eq_true rfl) rfl (by simp) (Nat.le_refl _) (Nat.le_refl _) (fun p e R s m args below meth c A Z h => ⟨h.1, h.2.1⟩) hC ?_ ?_
  · intro r I' hrs hq
    cases r with
    | some r => cases hrs
    | none =>
      refine n_goto (tgt := 14) dL_start_5 rfl ?_
      refine n_ws (ws' := am_ws G I') (by simp) ?_
      refine n_iconst (v := 0) dL_start_14 rfl ?_
      exact n_iret dL_start_15 rfl (Nat.le_refl _) (Nat.le_refl _) ⟨I', rfl, Or.inl ⟨rfl, hq⟩⟩
  · intro Ex I' hX9
    rcases hX Ex I' hX9 with rfl | rfl
    · refine ⟨8, tkL_start_IA, fun q => ?_⟩
      refine n_astore_n (k := 2) dL_start_8 (by decide) ?_
      refine n_iconst (v := 1) dL_start_9 rfl ?_
      refine n_ws (ws' := am_ws G I') (by simp) ?_
      exact n_iret dL_start_10 rfl (Nat.le_refl _) (Nat.le_refl _) ⟨I', rfl, Or.inr (Or.inl ⟨rfl, hX9⟩)⟩
    · refine ⟨11, tkL_start_IS, fun q => ?_⟩
      refine n_astore_n (k := 2) dL_start_11 (by decide) ?_
      refine n_iconst (v := 2) dL_start_12 rfl ?_
      refine n_ws (ws' := am_ws G I') (by simp) ?_
      exact n_iret dL_start_13 rfl (Nat.le_refl _) (Nat.le_refl _) ⟨I', rfl, Or.inr (Or.inr (⟨rfl, hX9⟩))⟩
abbrev mL_result : am_M := (yL_result, cL_result, 5, some .int)
abbrev hhL_result : List (Nat × Nat × Nat × Nat) := [(0, 10, 13, 13)]
theorem cwL_result : Cond.codeWith yL_result cL_result 5 (some .int) hhL_result ∈ am_T := am_t5 107 rfl rfl
theorem mlL_result : Cond.methodLink RL 36 yX10_result ∈ am_T := am_t5 108 rfl rfl
theorem tkL_result_IA : n_takes RL hhL_result 5 "java/lang/IllegalArgumentException" 13 := ⟨[], ⟨0, 10, 13, 13⟩, [], rfl, rfl, by decide, by decide, clL_13, List.mem_of_getElem? (i := 0) rfl, by decide, fun z hz => by cases hz⟩
theorem nw_result {B : k_B} {G : am_G} (hg : k_gb G B) (hm : (0, 0) ∈ G.2.2.2.2) {d : Nat} {I : am_I} {qo : Nat} {v : Nat → Int64} {p0 p1 : Int32} {Q' : Option Int32 → am_I → Prop} {X' : String → am_I → Prop} (hC : am_CX G d mX10_result [.inr (0, 0), .inl p0, .inl p1] I Q' X') (hX : ∀ Ex I', X' Ex I' → Ex = "java/lang/IllegalArgumentException") : n_C B (d + 1) mL_result hhL_result (([.inr (G.2.2.1 0 0, 0), .inl p0, .inl p1, .inr (qo, 0)] : List am_V).map (am_val (k_G B))) (am_ws G I ++ [(qo, .inl (B.2.2, 1, .inr (.inl (v))))]) (fun k w => ∃ (I' : am_I) (v' : Nat → Int64), w = am_ws G I' ++ [(qo, .inl (B.2.2, 1, .inr (.inl (v'))))] ∧ ((k = 0 ∧ ∃ r : Int32, Q' (some r) I' ∧ v' 0 = r.toInt64) ∨ (k = 1 ∧ X' "java/lang/IllegalArgumentException" I'))) := by
  refine n_of (by decide) (Nat.le_of_ble_eq_true rfl) rfl ?_
  refine n_aload_n (k := 3) (x := qo) dL_result_0 rfl ?_
  refine n_iconst (v := 0) dL_result_1 rfl ?_
  refine n_aload_n (k := 0) (x := G.2.2.1 0 0) dL_result_2 rfl ?_
  refine n_iload_n (k := 1) (x := p0) dL_result_3 rfl ?_
  refine n_iload_n (k := 2) (x := p1) dL_result_4 rfl ?_
  refine n_callX (i := 0) (j := 0) (as := [.inl p0, .inl p1]) (rest := [.int 0, .ref qo]) (w1 := []) (w3 := [(qo, .inl (B.2.2, 1, .inr (.inl v)))]) (hh := hhL_result) hg dL_result_5 lkX10_result mlL_result imX10_result seX10_result rfl rfl hm rfl (Nat.le_of_ble_eq_true rfl) rfl (by simp) (Nat.le_refl _) (Nat.le_refl _) (fun p e R s m args below meth c A Z h => ⟨h.1, h.2.1⟩) hC ?_ ?_
  · intro r I' hrs hq
    cases r with
    | none => cases hrs
    | some r =>
      refine n_i2l dL_result_8 ?_
      refine n_last (q0 := G.2.2.2.2.length) (a := qo) (n := 1) (i := 0) (f := v) dL_result_9 (by simp [am_ws]) n_in01 ?_
      refine n_goto (tgt := 17) dL_result_10 rfl ?_
      refine n_ws (ws' := am_ws G I' ++ [(qo, .inl (B.2.2, 1, .inr (.inl (vp_updL v 0 r.toInt64))))]) ?_ ?_
      · exact n_set1
      refine n_iconst (v := 0) dL_result_17 rfl ?_
      exact n_iret dL_result_18 rfl (Nat.le_refl _) (Nat.le_refl _) ⟨I', vp_updL v 0 r.toInt64, rfl, Or.inl ⟨rfl, r, hq, by simp [vp_updL]⟩⟩
  · intro Ex I' hX9
    rcases hX Ex I' hX9 with rfl
    · refine ⟨13, tkL_result_IA, fun q => ?_⟩
      refine n_astore (k := 4) dL_result_13 (by decide) ?_
      refine n_iconst (v := 1) dL_result_15 rfl ?_
      refine n_ws (ws' := am_ws G I' ++ [(qo, .inl (B.2.2, 1, .inr (.inl (v))))]) (by simp) ?_
      exact n_iret dL_result_16 rfl (Nat.le_refl _) (Nat.le_refl _) ⟨I', v, rfl, Or.inr (⟨rfl, hX9⟩)⟩
abbrev mL_history : am_M := (yL_history, cL_history, 5, some .int)
abbrev hhL_history : List (Nat × Nat × Nat × Nat) := [(0, 10, 13, 43), (0, 10, 17, 13)]
theorem cwL_history : Cond.codeWith yL_history cL_history 5 (some .int) hhL_history ∈ am_T := am_t5 115 rfl rfl
theorem mlL_history : Cond.methodLink RL 40 yX10_history ∈ am_T := am_t5 117 rfl rfl
theorem tkL_history_IX : n_takes RL hhL_history 5 "java/lang/IndexOutOfBoundsException" 13 := ⟨[], ⟨0, 10, 13, 43⟩, [⟨0, 10, 17, 13⟩], rfl, rfl, by decide, by decide, clL_43, List.mem_of_getElem? (i := 2) rfl, by decide, fun z hz => by cases hz⟩
theorem tkL_history_IA : n_takes RL hhL_history 5 "java/lang/IllegalArgumentException" 17 := ⟨[⟨0, 10, 13, 43⟩], ⟨0, 10, 17, 13⟩, [], rfl, rfl, by decide, by decide, clL_13, List.mem_of_getElem? (i := 0) rfl, by decide, fun z hz => by
  simp only [List.mem_cons, List.not_mem_nil, or_false] at hz
  rcases hz with rfl
  · exact ⟨by decide, "java/lang/IndexOutOfBoundsException", by decide, clL_43, by decide⟩⟩
theorem nw_history {B : k_B} {G : am_G} (hg : k_gb G B) (hm : (0, 0) ∈ G.2.2.2.2) {d : Nat} {I : am_I} {qo : Nat} {v : Nat → Int64} {p0 p1 : Int32} {Q' : Option Int32 → am_I → Prop} {X' : String → am_I → Prop} (hC : am_CX G d mX10_history [.inr (0, 0), .inl p0, .inl p1] I Q' X') (hX : ∀ Ex I', X' Ex I' → Ex = "java/lang/IndexOutOfBoundsException" ∨ Ex = "java/lang/IllegalArgumentException") : n_C B (d + 1) mL_history hhL_history (([.inr (G.2.2.1 0 0, 0), .inl p0, .inl p1, .inr (qo, 0)] : List am_V).map (am_val (k_G B))) (am_ws G I ++ [(qo, .inl (B.2.2, 1, .inr (.inl (v))))]) (fun k w => ∃ (I' : am_I) (v' : Nat → Int64), w = am_ws G I' ++ [(qo, .inl (B.2.2, 1, .inr (.inl (v'))))] ∧ ((k = 0 ∧ ∃ r : Int32, Q' (some r) I' ∧ v' 0 = r.toInt64) ∨ (k = 1 ∧ X' "java/lang/IndexOutOfBoundsException" I') ∨ (k = 2 ∧ X' "java/lang/IllegalArgumentException" I'))) := by
  refine n_of (by decide) (Nat.le_of_ble_eq_true rfl) rfl ?_
  refine n_aload_n (k := 3) (x := qo) dL_history_0 rfl ?_
  refine n_iconst (v := 0) dL_history_1 rfl ?_
  refine n_aload_n (k := 0) (x := G.2.2.1 0 0) dL_history_2 rfl ?_
  refine n_iload_n (k := 1) (x := p0) dL_history_3 rfl ?_
  refine n_iload_n (k := 2) (x := p1) dL_history_4 rfl ?_
  refine n_callX (i := 0) (j := 0) (as := [.inl p0, .inl p1]) (rest := [.int 0, .ref qo]) (w1 := []) (w3 := [(qo, .inl (B.2.2, 1, .inr (.inl v)))]) (hh := hhL_history) hg dL_history_5 lkX10_history mlL_history imX10_history seX10_history rfl rfl hm rfl (Nat.le_of_ble_eq_true rfl) rfl (by simp) (Nat.le_refl _) (Nat.le_refl _) (fun p e R s m args below meth c A Z h => ⟨h.1, h.2.1⟩) hC ?_ ?_
  · intro r I' hrs hq
    cases r with
    | none => cases hrs
    | some r =>
      refine n_i2l dL_history_8 ?_
      refine n_last (q0 := G.2.2.2.2.length) (a := qo) (n := 1) (i := 0) (f := v) dL_history_9 (by simp [am_ws]) n_in01 ?_
      refine n_goto (tgt := 21) dL_history_10 rfl ?_
      refine n_ws (ws' := am_ws G I' ++ [(qo, .inl (B.2.2, 1, .inr (.inl (vp_updL v 0 r.toInt64))))]) ?_ ?_
      · exact n_set1
      refine n_iconst (v := 0) dL_history_21 rfl ?_
      exact n_iret dL_history_22 rfl (Nat.le_refl _) (Nat.le_refl _) ⟨I', vp_updL v 0 r.toInt64, rfl, Or.inl ⟨rfl, r, hq, by simp [vp_updL]⟩⟩
  · intro Ex I' hX9
    rcases hX Ex I' hX9 with rfl | rfl
    · refine ⟨13, tkL_history_IX, fun q => ?_⟩
      refine n_astore (k := 4) dL_history_13 (by decide) ?_
      refine n_iconst (v := 1) dL_history_15 rfl ?_
      refine n_ws (ws' := am_ws G I' ++ [(qo, .inl (B.2.2, 1, .inr (.inl (v))))]) (by simp) ?_
      exact n_iret dL_history_16 rfl (Nat.le_refl _) (Nat.le_refl _) ⟨I', v, rfl, Or.inr (Or.inl ⟨rfl, hX9⟩)⟩
    · refine ⟨17, tkL_history_IA, fun q => ?_⟩
      refine n_astore (k := 4) dL_history_17 (by decide) ?_
      refine n_iconst (v := 2) dL_history_19 rfl ?_
      refine n_ws (ws' := am_ws G I' ++ [(qo, .inl (B.2.2, 1, .inr (.inl (v))))]) (by simp) ?_
      exact n_iret dL_history_20 rfl (Nat.le_refl _) (Nat.le_refl _) ⟨I', v, rfl, Or.inr (Or.inr (⟨rfl, hX9⟩))⟩
abbrev mL_word : am_M := (yL_word, cL_word, 5, some .int)
abbrev hhL_word : List (Nat × Nat × Nat × Nat) := [(0, 10, 13, 43)]
theorem cwL_word : Cond.codeWith yL_word cL_word 5 (some .int) hhL_word ∈ am_T := am_t5 145 rfl rfl
theorem mlL_word : Cond.methodLink RL 45 yX10_word ∈ am_T := am_t5 146 rfl rfl
theorem tkL_word_IX : n_takes RL hhL_word 5 "java/lang/IndexOutOfBoundsException" 13 := ⟨[], ⟨0, 10, 13, 43⟩, [], rfl, rfl, by decide, by decide, clL_43, List.mem_of_getElem? (i := 2) rfl, by decide, fun z hz => by cases hz⟩
theorem nw_word {B : k_B} {G : am_G} (hg : k_gb G B) (hm : (0, 0) ∈ G.2.2.2.2) {d : Nat} {I : am_I} {qo : Nat} {v : Nat → Int64} {p0 p1 : Int32} {Q' : Option Int32 → am_I → Prop} {X' : String → am_I → Prop} (hC : am_CX G d mX10_word [.inr (0, 0), .inl p0, .inl p1] I Q' X') (hX : ∀ Ex I', X' Ex I' → Ex = "java/lang/IndexOutOfBoundsException") : n_C B (d + 1) mL_word hhL_word (([.inr (G.2.2.1 0 0, 0), .inl p0, .inl p1, .inr (qo, 0)] : List am_V).map (am_val (k_G B))) (am_ws G I ++ [(qo, .inl (B.2.2, 1, .inr (.inl (v))))]) (fun k w => ∃ (I' : am_I) (v' : Nat → Int64), w = am_ws G I' ++ [(qo, .inl (B.2.2, 1, .inr (.inl (v'))))] ∧ ((k = 0 ∧ ∃ r : Int32, Q' (some r) I' ∧ v' 0 = r.toInt64) ∨ (k = 1 ∧ X' "java/lang/IndexOutOfBoundsException" I'))) := by
  refine n_of (by decide) (Nat.le_of_ble_eq_true rfl) rfl ?_
  refine n_aload_n (k := 3) (x := qo) dL_word_0 rfl ?_
  refine n_iconst (v := 0) dL_word_1 rfl ?_
  refine n_aload_n (k := 0) (x := G.2.2.1 0 0) dL_word_2 rfl ?_
  refine n_iload_n (k := 1) (x := p0) dL_word_3 rfl ?_
  refine n_iload_n (k := 2) (x := p1) dL_word_4 rfl ?_
  refine n_callX (i := 0) (j := 0) (as := [.inl p0, .inl p1]) (rest := [.int 0, .ref qo]) (w1 := []) (w3 := [(qo, .inl (B.2.2, 1, .inr (.inl v)))]) (hh := hhL_word) hg dL_word_5 lkX10_word mlL_word imX10_word seX10_word rfl rfl hm rfl (Nat.le_of_ble_eq_true rfl) rfl (by simp) (Nat.le_refl _) (Nat.le_refl _) (fun p e R s m args below meth c A Z h => ⟨h.1, h.2.1⟩) hC ?_ ?_
  · intro r I' hrs hq
    cases r with
    | none => cases hrs
    | some r =>
      refine n_i2l dL_word_8 ?_
      refine n_last (q0 := G.2.2.2.2.length) (a := qo) (n := 1) (i := 0) (f := v) dL_word_9 (by simp [am_ws]) n_in01 ?_
      refine n_goto (tgt := 17) dL_word_10 rfl ?_
      refine n_ws (ws' := am_ws G I' ++ [(qo, .inl (B.2.2, 1, .inr (.inl (vp_updL v 0 r.toInt64))))]) ?_ ?_
      · exact n_set1
      refine n_iconst (v := 0) dL_word_17 rfl ?_
      exact n_iret dL_word_18 rfl (Nat.le_refl _) (Nat.le_refl _) ⟨I', vp_updL v 0 r.toInt64, rfl, Or.inl ⟨rfl, r, hq, by simp [vp_updL]⟩⟩
  · intro Ex I' hX9
    rcases hX Ex I' hX9 with rfl
    · refine ⟨13, tkL_word_IX, fun q => ?_⟩
      refine n_astore (k := 4) dL_word_13 (by decide) ?_
      refine n_iconst (v := 1) dL_word_15 rfl ?_
      refine n_ws (ws' := am_ws G I' ++ [(qo, .inl (B.2.2, 1, .inr (.inl (v))))]) (by simp) ?_
      exact n_iret dL_word_16 rfl (Nat.le_refl _) (Nat.le_refl _) ⟨I', v, rfl, Or.inr (⟨rfl, hX9⟩)⟩
abbrev mL_cached : am_M := (yL_cached, cL_cached, 6, some .int)
abbrev hhL_cached : List (Nat × Nat × Nat × Nat) := [(0, 12, 15, 13), (0, 12, 19, 43), (0, 12, 23, 52)]
theorem cwL_cached : Cond.codeWith yL_cached cL_cached 6 (some .int) hhL_cached ∈ am_T := am_t5 154 rfl rfl
theorem mlL_cached : Cond.methodLink RL 48 yX10_cached ∈ am_T := am_t5 156 rfl rfl
theorem tkL_cached_IA : n_takes RL hhL_cached 7 "java/lang/IllegalArgumentException" 15 := ⟨[], ⟨0, 12, 15, 13⟩, [⟨0, 12, 19, 43⟩, ⟨0, 12, 23, 52⟩], rfl, rfl, by decide, by decide, clL_13, List.mem_of_getElem? (i := 0) rfl, by decide, fun z hz => by cases hz⟩
theorem tkL_cached_IX : n_takes RL hhL_cached 7 "java/lang/IndexOutOfBoundsException" 19 := ⟨[⟨0, 12, 15, 13⟩], ⟨0, 12, 19, 43⟩, [⟨0, 12, 23, 52⟩], rfl, rfl, by decide, by decide, clL_43, List.mem_of_getElem? (i := 2) rfl, by decide, fun z hz => by
  simp only [List.mem_cons, List.not_mem_nil, or_false] at hz
  rcases hz with rfl
  · exact ⟨by decide, "java/lang/IllegalArgumentException", by decide, clL_13, by decide⟩⟩
theorem tkL_cached_NS : n_takes RL hhL_cached 7 "java/util/NoSuchElementException" 23 := ⟨[⟨0, 12, 15, 13⟩, ⟨0, 12, 19, 43⟩], ⟨0, 12, 23, 52⟩, [], rfl, rfl, by decide, by decide, clL_52, List.mem_of_getElem? (i := 3) rfl, by decide, fun z hz => by
  simp only [List.mem_cons, List.not_mem_nil, or_false] at hz
  rcases hz with rfl | rfl
  · exact ⟨by decide, "java/lang/IllegalArgumentException", by decide, clL_13, by decide⟩
  · exact ⟨by decide, "java/lang/IndexOutOfBoundsException", by decide, clL_43, by decide⟩⟩
theorem nw_cached {B : k_B} {G : am_G} (hg : k_gb G B) (hm : (0, 0) ∈ G.2.2.2.2) {d : Nat} {I : am_I} {qo : Nat} {v : Nat → Int64} {p0 p1 p2 : Int32} {Q' : Option Int32 → am_I → Prop} {X' : String → am_I → Prop} (hC : am_CX G d mX10_cached [.inr (0, 0), .inl p0, .inl p1, .inl p2] I Q' X') (hX : ∀ Ex I', X' Ex I' → Ex = "java/lang/IllegalArgumentException" ∨ Ex = "java/lang/IndexOutOfBoundsException" ∨ Ex = "java/util/NoSuchElementException") : n_C B (d + 1) mL_cached hhL_cached (([.inr (G.2.2.1 0 0, 0), .inl p0, .inl p1, .inl p2, .inr (qo, 0)] : List am_V).map (am_val (k_G B))) (am_ws G I ++ [(qo, .inl (B.2.2, 1, .inr (.inl (v))))]) (fun k w => ∃ (I' : am_I) (v' : Nat → Int64), w = am_ws G I' ++ [(qo, .inl (B.2.2, 1, .inr (.inl (v'))))] ∧ ((k = 0 ∧ ∃ r : Int32, Q' (some r) I' ∧ v' 0 = r.toInt64) ∨ (k = 1 ∧ X' "java/lang/IllegalArgumentException" I') ∨ (k = 2 ∧ X' "java/lang/IndexOutOfBoundsException" I') ∨ (k = 3 ∧ X' "java/util/NoSuchElementException" I'))) := by
  refine n_of (by decide) (Nat.le_of_ble_eq_true rfl) rfl ?_
  refine n_aload (k := 4) (x := qo) dL_cached_0 rfl ?_
  refine n_iconst (v := 0) dL_cached_2 rfl ?_
  refine n_aload_n (k := 0) (x := G.2.2.1 0 0) dL_cached_3 rfl ?_
  refine n_iload_n (k := 1) (x := p0) dL_cached_4 rfl ?_
  refine n_iload_n (k := 2) (x := p1) dL_cached_5 rfl ?_
  refine n_iload_n (k := 3) (x := p2) dL_cached_6 rfl ?_
  refine n_callX (i := 0) (j := 0) (as := [.inl p0, .inl p1, .inl p2]) (rest := [.int 0, .ref qo]) (w1 := []) (w3 := [(qo, .inl (B.2.2, 1, .inr (.inl v)))]) (hh := hhL_cached) hg dL_cached_7 lkX10_cached mlL_cached imX10_cached seX10_cached rfl rfl hm rfl (Nat.le_of_ble_eq_true rfl) rfl (by simp) (Nat.le_refl _) (Nat.le_refl _) (fun p e R s m args below meth c A Z h => ⟨h.1, h.2.1⟩) hC ?_ ?_
  · intro r I' hrs hq
    cases r with
    | none => cases hrs
    | some r =>
      refine n_i2l dL_cached_10 ?_
      refine n_last (q0 := G.2.2.2.2.length) (a := qo) (n := 1) (i := 0) (f := v) dL_cached_11 (by simp [am_ws]) n_in01 ?_
      refine n_goto (tgt := 27) dL_cached_12 rfl ?_
      refine n_ws (ws' := am_ws G I' ++ [(qo, .inl (B.2.2, 1, .inr (.inl (vp_updL v 0 r.toInt64))))]) ?_ ?_
      · exact n_set1
      refine n_iconst (v := 0) dL_cached_27 rfl ?_
      exact n_iret dL_cached_28 rfl (Nat.le_refl _) (Nat.le_refl _) ⟨I', vp_updL v 0 r.toInt64, rfl, Or.inl ⟨rfl, r, hq, by simp [vp_updL]⟩⟩
  · intro Ex I' hX9
    rcases hX Ex I' hX9 with rfl | rfl | rfl
    · refine ⟨15, tkL_cached_IA, fun q => ?_⟩
      refine n_astore (k := 5) dL_cached_15 (by decide) ?_
      refine n_iconst (v := 1) dL_cached_17 rfl ?_
      refine n_ws (ws' := am_ws G I' ++ [(qo, .inl (B.2.2, 1, .inr (.inl (v))))]) (by simp) ?_
      exact n_iret dL_cached_18 rfl (Nat.le_refl _) (Nat.le_refl _) ⟨I', v, rfl, Or.inr (Or.inl ⟨rfl, hX9⟩)⟩
    · refine ⟨19, tkL_cached_IX, fun q => ?_⟩
      refine n_astore (k := 5) dL_cached_19 (by decide) ?_
      refine n_iconst (v := 2) dL_cached_21 rfl ?_
      refine n_ws (ws' := am_ws G I' ++ [(qo, .inl (B.2.2, 1, .inr (.inl (v))))]) (by simp) ?_
      exact n_iret dL_cached_22 rfl (Nat.le_refl _) (Nat.le_refl _) ⟨I', v, rfl, Or.inr (Or.inr (Or.inl ⟨rfl, hX9⟩))⟩
    · refine ⟨23, tkL_cached_NS, fun q => ?_⟩
      refine n_astore (k := 5) dL_cached_23 (by decide) ?_
      refine n_iconst (v := 3) dL_cached_25 rfl ?_
      refine n_ws (ws' := am_ws G I' ++ [(qo, .inl (B.2.2, 1, .inr (.inl (v))))]) (by simp) ?_
      exact n_iret dL_cached_26 rfl (Nat.le_refl _) (Nat.le_refl _) ⟨I', v, rfl, Or.inr (Or.inr (Or.inr (⟨rfl, hX9⟩)))⟩
abbrev mL_lock : am_M := (yL_lock, cL_lock, 6, some .int)
abbrev hhL_lock : List (Nat × Nat × Nat × Nat) := [(0, 12, 15, 13)]
theorem cwL_lock : Cond.codeWith yL_lock cL_lock 6 (some .int) hhL_lock ∈ am_T := am_t5 178 rfl rfl
theorem mlL_lock : Cond.methodLink RL 54 yX10_lock ∈ am_T := am_t5 179 rfl rfl
theorem tkL_lock_IA : n_takes RL hhL_lock 7 "java/lang/IllegalArgumentException" 15 := ⟨[], ⟨0, 12, 15, 13⟩, [], rfl, rfl, by decide, by decide, clL_13, List.mem_of_getElem? (i := 0) rfl, by decide, fun z hz => by cases hz⟩
theorem nw_lock {B : k_B} {G : am_G} (hg : k_gb G B) (hm : (0, 0) ∈ G.2.2.2.2) {d : Nat} {I : am_I} {qo : Nat} {v : Nat → Int64} {p0 p1 p2 : Int32} {Q' : Option Int32 → am_I → Prop} {X' : String → am_I → Prop} (hC : am_CX G d mX10_lock [.inr (0, 0), .inl p0, .inl p1, .inl p2] I Q' X') (hX : ∀ Ex I', X' Ex I' → Ex = "java/lang/IllegalArgumentException") : n_C B (d + 1) mL_lock hhL_lock (([.inr (G.2.2.1 0 0, 0), .inl p0, .inl p1, .inl p2, .inr (qo, 0)] : List am_V).map (am_val (k_G B))) (am_ws G I ++ [(qo, .inl (B.2.2, 1, .inr (.inl (v))))]) (fun k w => ∃ (I' : am_I) (v' : Nat → Int64), w = am_ws G I' ++ [(qo, .inl (B.2.2, 1, .inr (.inl (v'))))] ∧ ((k = 0 ∧ ∃ r : Int32, Q' (some r) I' ∧ v' 0 = r.toInt64) ∨ (k = 1 ∧ X' "java/lang/IllegalArgumentException" I'))) := by
  refine n_of (by decide) (Nat.le_of_ble_eq_true rfl) rfl ?_
  refine n_aload (k := 4) (x := qo) dL_lock_0 rfl ?_
  refine n_iconst (v := 0) dL_lock_2 rfl ?_
  refine n_aload_n (k := 0) (x := G.2.2.1 0 0) dL_lock_3 rfl ?_
  refine n_iload_n (k := 1) (x := p0) dL_lock_4 rfl ?_
  refine n_iload_n (k := 2) (x := p1) dL_lock_5 rfl ?_
  refine n_iload_n (k := 3) (x := p2) dL_lock_6 rfl ?_
  refine n_callX (i := 0) (j := 0) (as := [.inl p0, .inl p1, .inl p2]) (rest := [.int 0, .ref qo]) (w1 := []) (w3 := [(qo, .inl (B.2.2, 1, .inr (.inl v)))]) (hh := hhL_lock) hg dL_lock_7 lkX10_lock mlL_lock imX10_lock seX10_lock rfl rfl hm rfl (Nat.le_of_ble_eq_true rfl) rfl (by simp) (Nat.le_refl _) (Nat.le_refl _) (fun p e R s m args below meth c A Z h => ⟨h.1, h.2.1⟩) hC ?_ ?_
  · intro r I' hrs hq
    cases r with
    | none => cases hrs
    | some r =>
      refine n_i2l dL_lock_10 ?_
      refine n_last (q0 := G.2.2.2.2.length) (a := qo) (n := 1) (i := 0) (f := v) dL_lock_11 (by simp [am_ws]) n_in01 ?_
      refine n_goto (tgt := 19) dL_lock_12 rfl ?_
      refine n_ws (ws' := am_ws G I' ++ [(qo, .inl (B.2.2, 1, .inr (.inl (vp_updL v 0 r.toInt64))))]) ?_ ?_
      · exact n_set1
      refine n_iconst (v := 0) dL_lock_19 rfl ?_
      exact n_iret dL_lock_20 rfl (Nat.le_refl _) (Nat.le_refl _) ⟨I', vp_updL v 0 r.toInt64, rfl, Or.inl ⟨rfl, r, hq, by simp [vp_updL]⟩⟩
  · intro Ex I' hX9
    rcases hX Ex I' hX9 with rfl
    · refine ⟨15, tkL_lock_IA, fun q => ?_⟩
      refine n_astore (k := 5) dL_lock_15 (by decide) ?_
      refine n_iconst (v := 1) dL_lock_17 rfl ?_
      refine n_ws (ws' := am_ws G I' ++ [(qo, .inl (B.2.2, 1, .inr (.inl (v))))]) (by simp) ?_
      exact n_iret dL_lock_18 rfl (Nat.le_refl _) (Nat.le_refl _) ⟨I', v, rfl, Or.inr (⟨rfl, hX9⟩)⟩
abbrev mL_row : am_M := (yL_row, cL_row, 5, some .int)
abbrev hhL_row : List (Nat × Nat × Nat × Nat) := [(0, 10, 13, 13)]
theorem cwL_row : Cond.codeWith yL_row cL_row 5 (some .int) hhL_row ∈ am_T := am_t5 186 rfl rfl
theorem mlL_row : Cond.methodLink RL 57 yX10_row ∈ am_T := am_t5 187 rfl rfl
theorem tkL_row_IA : n_takes RL hhL_row 5 "java/lang/IllegalArgumentException" 13 := ⟨[], ⟨0, 10, 13, 13⟩, [], rfl, rfl, by decide, by decide, clL_13, List.mem_of_getElem? (i := 0) rfl, by decide, fun z hz => by cases hz⟩
theorem nw_row {B : k_B} {G : am_G} (hg : k_gb G B) (hm : (0, 0) ∈ G.2.2.2.2) {d : Nat} {I : am_I} {qo : Nat} {v : Nat → Int64} {p0 p1 : Int32} {Q' : Option Int32 → am_I → Prop} {X' : String → am_I → Prop} (hC : am_CX G d mX10_row [.inr (0, 0), .inl p0, .inl p1] I Q' X') (hX : ∀ Ex I', X' Ex I' → Ex = "java/lang/IllegalArgumentException") : n_C B (d + 1) mL_row hhL_row (([.inr (G.2.2.1 0 0, 0), .inl p0, .inl p1, .inr (qo, 0)] : List am_V).map (am_val (k_G B))) (am_ws G I ++ [(qo, .inl (B.2.2, 1, .inr (.inl (v))))]) (fun k w => ∃ (I' : am_I) (v' : Nat → Int64), w = am_ws G I' ++ [(qo, .inl (B.2.2, 1, .inr (.inl (v'))))] ∧ ((k = 0 ∧ ∃ r : Int32, Q' (some r) I' ∧ v' 0 = r.toInt64) ∨ (k = 1 ∧ X' "java/lang/IllegalArgumentException" I'))) := by
  refine n_of (by decide) (Nat.le_of_ble_eq_true rfl) rfl ?_
  refine n_aload_n (k := 3) (x := qo) dL_row_0 rfl ?_
  refine n_iconst (v := 0) dL_row_1 rfl ?_
  refine n_aload_n (k := 0) (x := G.2.2.1 0 0) dL_row_2 rfl ?_
  refine n_iload_n (k := 1) (x := p0) dL_row_3 rfl ?_
  refine n_iload_n (k := 2) (x := p1) dL_row_4 rfl ?_
  refine n_callX (i := 0) (j := 0) (as := [.inl p0, .inl p1]) (rest := [.int 0, .ref qo]) (w1 := []) (w3 := [(qo, .inl (B.2.2, 1, .inr (.inl v)))]) (hh := hhL_row) hg dL_row_5 lkX10_row mlL_row imX10_row seX10_row rfl rfl hm rfl (Nat.le_of_ble_eq_true rfl) rfl (by simp) (Nat.le_refl _) (Nat.le_refl _) (fun p e R s m args below meth c A Z h => ⟨h.1, h.2.1⟩) hC ?_ ?_
  · intro r I' hrs hq
    cases r with
    | none => cases hrs
    | some r =>
      refine n_i2l dL_row_8 ?_
      refine n_last (q0 := G.2.2.2.2.length) (a := qo) (n := 1) (i := 0) (f := v) dL_row_9 (by simp [am_ws]) n_in01 ?_
      refine n_goto (tgt := 17) dL_row_10 rfl ?_
      refine n_ws (ws' := am_ws G I' ++ [(qo, .inl (B.2.2, 1, .inr (.inl (vp_updL v 0 r.toInt64))))]) ?_ ?_
      · exact n_set1
      refine n_iconst (v := 0) dL_row_17 rfl ?_
      exact n_iret dL_row_18 rfl (Nat.le_refl _) (Nat.le_refl _) ⟨I', vp_updL v 0 r.toInt64, rfl, Or.inl ⟨rfl, r, hq, by simp [vp_updL]⟩⟩
  · intro Ex I' hX9
    rcases hX Ex I' hX9 with rfl
    · refine ⟨13, tkL_row_IA, fun q => ?_⟩
      refine n_astore (k := 4) dL_row_13 (by decide) ?_
      refine n_iconst (v := 1) dL_row_15 rfl ?_
      refine n_ws (ws' := am_ws G I' ++ [(qo, .inl (B.2.2, 1, .inr (.inl (v))))]) (by simp) ?_
      exact n_iret dL_row_16 rfl (Nat.le_refl _) (Nat.le_refl _) ⟨I', v, rfl, Or.inr (⟨rfl, hX9⟩)⟩
abbrev mL_message : am_M := (yL_message, cL_message, 5, some .int)
abbrev hhL_message : List (Nat × Nat × Nat × Nat) := [(0, 10, 13, 43), (0, 10, 17, 13)]
theorem cwL_message : Cond.codeWith yL_message cL_message 5 (some .int) hhL_message ∈ am_T := am_t5 194 rfl rfl
theorem mlL_message : Cond.methodLink RL 60 yX10_message ∈ am_T := am_t5 195 rfl rfl
theorem tkL_message_IX : n_takes RL hhL_message 5 "java/lang/IndexOutOfBoundsException" 13 := ⟨[], ⟨0, 10, 13, 43⟩, [⟨0, 10, 17, 13⟩], rfl, rfl, by decide, by decide, clL_43, List.mem_of_getElem? (i := 2) rfl, by decide, fun z hz => by cases hz⟩
theorem tkL_message_IA : n_takes RL hhL_message 5 "java/lang/IllegalArgumentException" 17 := ⟨[⟨0, 10, 13, 43⟩], ⟨0, 10, 17, 13⟩, [], rfl, rfl, by decide, by decide, clL_13, List.mem_of_getElem? (i := 0) rfl, by decide, fun z hz => by
  simp only [List.mem_cons, List.not_mem_nil, or_false] at hz
  rcases hz with rfl
  · exact ⟨by decide, "java/lang/IndexOutOfBoundsException", by decide, clL_43, by decide⟩⟩
theorem nw_message {B : k_B} {G : am_G} (hg : k_gb G B) (hm : (0, 0) ∈ G.2.2.2.2) {d : Nat} {I : am_I} {qo : Nat} {v : Nat → Int64} {p0 p1 : Int32} {Q' : Option Int32 → am_I → Prop} {X' : String → am_I → Prop} (hC : am_CX G d mX10_message [.inr (0, 0), .inl p0, .inl p1] I Q' X') (hX : ∀ Ex I', X' Ex I' → Ex = "java/lang/IndexOutOfBoundsException" ∨ Ex = "java/lang/IllegalArgumentException") : n_C B (d + 1) mL_message hhL_message (([.inr (G.2.2.1 0 0, 0), .inl p0, .inl p1, .inr (qo, 0)] : List am_V).map (am_val (k_G B))) (am_ws G I ++ [(qo, .inl (B.2.2, 1, .inr (.inl (v))))]) (fun k w => ∃ (I' : am_I) (v' : Nat → Int64), w = am_ws G I' ++ [(qo, .inl (B.2.2, 1, .inr (.inl (v'))))] ∧ ((k = 0 ∧ ∃ r : Int32, Q' (some r) I' ∧ v' 0 = r.toInt64) ∨ (k = 1 ∧ X' "java/lang/IndexOutOfBoundsException" I') ∨ (k = 2 ∧ X' "java/lang/IllegalArgumentException" I'))) := by
  refine n_of (by decide) (Nat.le_of_ble_eq_true rfl) rfl ?_
  refine n_aload_n (k := 3) (x := qo) dL_message_0 rfl ?_
  refine n_iconst (v := 0) dL_message_1 rfl ?_
  refine n_aload_n (k := 0) (x := G.2.2.1 0 0) dL_message_2 rfl ?_
  refine n_iload_n (k := 1) (x := p0) dL_message_3 rfl ?_
  refine n_iload_n (k := 2) (x := p1) dL_message_4 rfl ?_
  refine n_callX (i := 0) (j := 0) (as := [.inl p0, .inl p1]) (rest := [.int 0, .ref qo]) (w1 := []) (w3 := [(qo, .inl (B.2.2, 1, .inr (.inl v)))]) (hh := hhL_message) hg dL_message_5 lkX10_message mlL_message imX10_message seX10_message rfl rfl hm rfl (Nat.le_of_ble_eq_true rfl) rfl (by simp) (Nat.le_refl _) (Nat.le_refl _) (fun p e R s m args below meth c A Z h => ⟨h.1, h.2.1⟩) hC ?_ ?_
  · intro r I' hrs hq
    cases r with
    | none => cases hrs
    | some r =>
      refine n_i2l dL_message_8 ?_
      refine n_last (q0 := G.2.2.2.2.length) (a := qo) (n := 1) (i := 0) (f := v) dL_message_9 (by simp [am_ws]) n_in01 ?_
      refine n_goto (tgt := 21) dL_message_10 rfl ?_
      refine n_ws (ws' := am_ws G I' ++ [(qo, .inl (B.2.2, 1, .inr (.inl (vp_updL v 0 r.toInt64))))]) ?_ ?_
      · exact n_set1
      refine n_iconst (v := 0) dL_message_21 rfl ?_
      exact n_iret dL_message_22 rfl (Nat.le_refl _) (Nat.le_refl _) ⟨I', vp_updL v 0 r.toInt64, rfl, Or.inl ⟨rfl, r, hq, by simp [vp_updL]⟩⟩
  · intro Ex I' hX9
    rcases hX Ex I' hX9 with rfl | rfl
    · refine ⟨13, tkL_message_IX, fun q => ?_⟩
      refine n_astore (k := 4) dL_message_13 (by decide) ?_
      refine n_iconst (v := 1) dL_message_15 rfl ?_
      refine n_ws (ws' := am_ws G I' ++ [(qo, .inl (B.2.2, 1, .inr (.inl (v))))]) (by simp) ?_
      exact n_iret dL_message_16 rfl (Nat.le_refl _) (Nat.le_refl _) ⟨I', v, rfl, Or.inr (Or.inl ⟨rfl, hX9⟩)⟩
    · refine ⟨17, tkL_message_IA, fun q => ?_⟩
      refine n_astore (k := 4) dL_message_17 (by decide) ?_
      refine n_iconst (v := 2) dL_message_19 rfl ?_
      refine n_ws (ws' := am_ws G I' ++ [(qo, .inl (B.2.2, 1, .inr (.inl (v))))]) (by simp) ?_
      exact n_iret dL_message_20 rfl (Nat.le_refl _) (Nat.le_refl _) ⟨I', v, rfl, Or.inr (Or.inr (⟨rfl, hX9⟩))⟩
abbrev mL_node : am_M := (yL_node, cL_node, 5, some .int)
abbrev hhL_node : List (Nat × Nat × Nat × Nat) := [(0, 10, 13, 13)]
theorem cwL_node : Cond.codeWith yL_node cL_node 5 (some .int) hhL_node ∈ am_T := am_t5 202 rfl rfl
theorem mlL_node : Cond.methodLink RL 63 yX10_node ∈ am_T := am_t5 203 rfl rfl
theorem tkL_node_IA : n_takes RL hhL_node 5 "java/lang/IllegalArgumentException" 13 := ⟨[], ⟨0, 10, 13, 13⟩, [], rfl, rfl, by decide, by decide, clL_13, List.mem_of_getElem? (i := 0) rfl, by decide, fun z hz => by cases hz⟩
theorem nw_node {B : k_B} {G : am_G} (hg : k_gb G B) (hm : (0, 0) ∈ G.2.2.2.2) {d : Nat} {I : am_I} {qo : Nat} {v : Nat → Int64} {p0 p1 : Int32} {Q' : Option Int32 → am_I → Prop} {X' : String → am_I → Prop} (hC : am_CX G d mX10_node [.inr (0, 0), .inl p0, .inl p1] I Q' X') (hX : ∀ Ex I', X' Ex I' → Ex = "java/lang/IllegalArgumentException") : n_C B (d + 1) mL_node hhL_node (([.inr (G.2.2.1 0 0, 0), .inl p0, .inl p1, .inr (qo, 0)] : List am_V).map (am_val (k_G B))) (am_ws G I ++ [(qo, .inl (B.2.2, 1, .inr (.inl (v))))]) (fun k w => ∃ (I' : am_I) (v' : Nat → Int64), w = am_ws G I' ++ [(qo, .inl (B.2.2, 1, .inr (.inl (v'))))] ∧ ((k = 0 ∧ ∃ r : Int32, Q' (some r) I' ∧ v' 0 = r.toInt64) ∨ (k = 1 ∧ X' "java/lang/IllegalArgumentException" I'))) := by
  refine n_of (by decide) (Nat.le_of_ble_eq_true rfl) rfl ?_
  refine n_aload_n (k := 3) (x := qo) dL_node_0 rfl ?_
  refine n_iconst (v := 0) dL_node_1 rfl ?_
  refine n_aload_n (k := 0) (x := G.2.2.1 0 0) dL_node_2 rfl ?_
  refine n_iload_n (k := 1) (x := p0) dL_node_3 rfl ?_
  refine n_iload_n (k := 2) (x := p1) dL_node_4 rfl ?_
  refine n_callX (i := 0) (j := 0) (as := [.inl p0, .inl p1]) (rest := [.int 0, .ref qo]) (w1 := []) (w3 := [(qo, .inl (B.2.2, 1, .inr (.inl v)))]) (hh := hhL_node) hg dL_node_5 lkX10_node mlL_node imX10_node seX10_node rfl rfl hm rfl (Nat.le_of_ble_eq_true rfl) rfl (by simp) (Nat.le_refl _) (Nat.le_refl _) (fun p e R s m args below meth c A Z h => ⟨h.1, h.2.1⟩) hC ?_ ?_
  · intro r I' hrs hq
    cases r with
    | none => cases hrs
    | some r =>
      refine n_i2l dL_node_8 ?_
      refine n_last (q0 := G.2.2.2.2.length) (a := qo) (n := 1) (i := 0) (f := v) dL_node_9 (by simp [am_ws]) n_in01 ?_
      refine n_goto (tgt := 17) dL_node_10 rfl ?_
      refine n_ws (ws' := am_ws G I' ++ [(qo, .inl (B.2.2, 1, .inr (.inl (vp_updL v 0 r.toInt64))))]) ?_ ?_
      · exact n_set1
      refine n_iconst (v := 0) dL_node_17 rfl ?_
      exact n_iret dL_node_18 rfl (Nat.le_refl _) (Nat.le_refl _) ⟨I', vp_updL v 0 r.toInt64, rfl, Or.inl ⟨rfl, r, hq, by simp [vp_updL]⟩⟩
  · intro Ex I' hX9
    rcases hX Ex I' hX9 with rfl
    · refine ⟨13, tkL_node_IA, fun q => ?_⟩
      refine n_astore (k := 4) dL_node_13 (by decide) ?_
      refine n_iconst (v := 1) dL_node_15 rfl ?_
      refine n_ws (ws' := am_ws G I' ++ [(qo, .inl (B.2.2, 1, .inr (.inl (v))))]) (by simp) ?_
      exact n_iret dL_node_16 rfl (Nat.le_refl _) (Nat.le_refl _) ⟨I', v, rfl, Or.inr (⟨rfl, hX9⟩)⟩
abbrev mL_about : am_M := (yL_about, cL_about, 4, some .int)
abbrev hhL_about : List (Nat × Nat × Nat × Nat) := [(0, 9, 12, 13)]
theorem cwL_about : Cond.codeWith yL_about cL_about 4 (some .int) hhL_about ∈ am_T := am_t5 210 rfl rfl
theorem mlL_about : Cond.methodLink RL 66 yX10_about ∈ am_T := am_t5 211 rfl rfl
theorem tkL_about_IA : n_takes RL hhL_about 4 "java/lang/IllegalArgumentException" 12 := ⟨[], ⟨0, 9, 12, 13⟩, [], rfl, rfl, by decide, by decide, clL_13, List.mem_of_getElem? (i := 0) rfl, by decide, fun z hz => by cases hz⟩
theorem nw_about {B : k_B} {G : am_G} (hg : k_gb G B) (hm : (0, 0) ∈ G.2.2.2.2) {d : Nat} {I : am_I} {qo : Nat} {v : Nat → Int64} {p0 : Int32} {Q' : Option Int32 → am_I → Prop} {X' : String → am_I → Prop} (hC : am_CX G d mX10_about [.inr (0, 0), .inl p0] I Q' X') (hX : ∀ Ex I', X' Ex I' → Ex = "java/lang/IllegalArgumentException") : n_C B (d + 1) mL_about hhL_about (([.inr (G.2.2.1 0 0, 0), .inl p0, .inr (qo, 0)] : List am_V).map (am_val (k_G B))) (am_ws G I ++ [(qo, .inl (B.2.2, 1, .inr (.inl (v))))]) (fun k w => ∃ (I' : am_I) (v' : Nat → Int64), w = am_ws G I' ++ [(qo, .inl (B.2.2, 1, .inr (.inl (v'))))] ∧ ((k = 0 ∧ ∃ r : Int32, Q' (some r) I' ∧ v' 0 = r.toInt64) ∨ (k = 1 ∧ X' "java/lang/IllegalArgumentException" I'))) := by
  refine n_of (by decide) (Nat.le_of_ble_eq_true rfl) rfl ?_
  refine n_aload_n (k := 2) (x := qo) dL_about_0 rfl ?_
  refine n_iconst (v := 0) dL_about_1 rfl ?_
  refine n_aload_n (k := 0) (x := G.2.2.1 0 0) dL_about_2 rfl ?_
  refine n_iload_n (k := 1) (x := p0) dL_about_3 rfl ?_
  refine n_callX (i := 0) (j := 0) (as := [.inl p0]) (rest := [.int 0, .ref qo]) (w1 := []) (w3 := [(qo, .inl (B.2.2, 1, .inr (.inl v)))]) (hh := hhL_about) hg dL_about_4 lkX10_about mlL_about imX10_about seX10_about rfl rfl hm rfl (Nat.le_of_ble_eq_true rfl) rfl (by simp) (Nat.le_refl _) (Nat.le_refl _) (fun p e R s m args below meth c A Z h => ⟨h.1, h.2.1⟩) hC ?_ ?_
  · intro r I' hrs hq
    cases r with
    | none => cases hrs
    | some r =>
      refine n_i2l dL_about_7 ?_
      refine n_last (q0 := G.2.2.2.2.length) (a := qo) (n := 1) (i := 0) (f := v) dL_about_8 (by simp [am_ws]) n_in01 ?_
      refine n_goto (tgt := 15) dL_about_9 rfl ?_
      refine n_ws (ws' := am_ws G I' ++ [(qo, .inl (B.2.2, 1, .inr (.inl (vp_updL v 0 r.toInt64))))]) ?_ ?_
      · exact n_set1
      refine n_iconst (v := 0) dL_about_15 rfl ?_
      exact n_iret dL_about_16 rfl (Nat.le_refl _) (Nat.le_refl _) ⟨I', vp_updL v 0 r.toInt64, rfl, Or.inl ⟨rfl, r, hq, by simp [vp_updL]⟩⟩
  · intro Ex I' hX9
    rcases hX Ex I' hX9 with rfl
    · refine ⟨12, tkL_about_IA, fun q => ?_⟩
      refine n_astore_n (k := 3) dL_about_12 (by decide) ?_
      refine n_iconst (v := 1) dL_about_13 rfl ?_
      refine n_ws (ws' := am_ws G I' ++ [(qo, .inl (B.2.2, 1, .inr (.inl (v))))]) (by simp) ?_
      exact n_iret dL_about_14 rfl (Nat.le_refl _) (Nat.le_refl _) ⟨I', v, rfl, Or.inr (⟨rfl, hX9⟩)⟩
