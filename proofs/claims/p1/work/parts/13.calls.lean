section AMC
variable {G : am_G} {d : Nat} {M : am_M} {TH : Nat → List (Option am_V) → List am_V → am_I → Prop} {Q : Option Int32 → am_I → Prop} {pc : Nat} {lo : List (Option am_V)} {st : List am_V} {I : am_I}
theorem am_nw_warm {s U : State} (hW : s.WarmedH U.vm) (h : ∀ w ∈ am_nw, va_Nw w s) : ∀ w ∈ am_nw, va_Nw w U := by
  intro w hw
  have h1 := h w hw
  obtain ⟨q, -, rfl⟩ := List.mem_map.mp hw
  exact va_Nw.warmM hW h1
theorem am_nw_same {s U : State} (he : s.vm = U.vm) (h : ∀ w ∈ am_nw, va_Nw w s) : ∀ w ∈ am_nw, va_Nw w U := by
  intro w hw
  have h1 := h w hw
  obtain ⟨q, -, rfl⟩ := List.mem_map.mp hw
  exact va_Nw.same rfl he h1
theorem am_blind {sz : Nat} {av : List Value} : FrameBlind (va_Pc av (fun U => U.heap.size = sz ∧ am_B G I U)) := by
  intro a U g mk q
  obtain ⟨q0, q1, qP, qK, qD, qN⟩ := q
  exact ⟨q0, q1, qP, va_K.moved (u := U) (U := U.calling g mk a) (Vm.Alike.refl U.vm) qK, qD, am_nw_same (s := U) (U := U.calling g mk a) rfl qN⟩
/-- a contract out of a walk, of a method that the machine does not do by itself -/
theorem am_ofW {l : Launch} {y : MethodName} {ws ws' : List Cond} {rm : Room} {Pc : Array Value → State → Prop} {Qc : Array Value → State → Outcome → State → Prop} {mc ms : Nat} {free : Addr → Prop} {cc : ByteArray} {maxL : Nat} {ret : Option FieldType}
    (hy : plainFor y = true) (hw : ws = Cond.code y cc maxL ret :: ws')
    (body : ∀ p e s m args below meth c s₁, BodyLoose p l y (headSpec ws rm) cc maxL ret e s m args below meth c s₁ → c.maxLocals = maxL → Pc args s →
      W p l e (headSpec ws rm).room s m args below meth c s.heap [] 0 0 (MQ below Qc args s mc ms free) (entryFrame m args maxL)) : Met l y ws rm Pc Qc mc ms free := by
  refine MetFree.of_bodySF (code := cc) (maxLocals := maxL) (ret := ret) hy ?_ ?_
  · intro args s m h hn
    obtain ⟨meth, c, h1, h2, h3, h4, h5, h6, -, -⟩ := Cond.code_spec hn (atoms_spec (ws := ws) h _ (by rw [hw]; exact List.mem_cons_self))
    exact ⟨meth, c, h1, h2, h3, h4, h5, h6⟩
  · intro p e s m args below meth c s₁ B hml hP _
    obtain ⟨t, a1, o, b1, b2, b3⟩ := body p e s m args below meth c s₁ B hml hP s₁ (by rw [B.state]; rfl) (Stand.of_body B)
    exact ⟨t, o, a1, b1, b2, ⟨b3.1, b3.2⟩⟩
/-- the entry: a method's contract out of its body -/
theorem am_of {as : List am_V} (hy : plainFor M.1 = true) (hn : G.2.2.2.2.Nodup) (hl : as.length ≤ M.2.2.1) (hj : am_J G d M am_no Q 0 (as.map some ++ List.replicate (M.2.2.1 - as.length) none) [] I) : am_C G d M as I Q := by
  intro sz
  refine am_ofW (cc := M.2.1) (maxL := M.2.2.1) (ret := M.2.2.2) hy rfl ?_
  intro p e s m args below meth c s₁ B hml hv
  obtain ⟨rfl, hsz, hP, hK, hD0, hN⟩ := hv
  have hts := atoms_spec (ws := am_w M) B.pre
  have hown : s.vm.findClass M.1.cls = some m.cls := findClass_of_methodNamed B.named
  subst hsz
  have hAw : ∀ r ∈ G.2.2.2.2, am_A G s.heap.size (G.2.2.1 r.1 r.2) := fun r hr => Or.inl ⟨r, hr, rfl⟩
  have hD : va_D (am_A G s.heap.size) (am_ws G I) := hD0.weaken (fun k q hk _ => by
    simp only [am_ws, List.getElem?_map] at hk
    cases hr : G.2.2.2.2[k]? with
    | none => rw [hr] at hk; cases hk
    | some r => rw [hr] at hk; cases hk; exact hAw r (List.mem_of_getElem? hr))
  have hsl : ∀ vs : List am_V, lg_sl (vs.map (am_val G)) = vs.map (fun v => Slot.val (am_val G v)) := by
    intro vs
    induction vs with
    | nil => rfl
    | cons v t ih =>
      simp only [lg_sl, List.map_cons, List.flatMap_cons] at ih ⊢
      rw [ih, if_neg (by rw [am_val_cat]; decide)]
      rfl
  have hlen : (lg_sl (as.map (am_val G))).length = as.length := by rw [hsl, List.length_map]
  have hlv := lv_entry (as.map (am_val G)) (n := M.2.2.1) (by rw [hlen]; exact hl)
  rw [lg_entry_eq]
  have hL : am_L G M ((lg_sl (as.map (am_val G)) ++ List.replicate (M.2.2.1 - (lg_sl (as.map (am_val G))).length) Slot.unset).toArray) (as.map some ++ List.replicate (M.2.2.1 - as.length) none) := by
    refine ⟨hlv.1, hlv.2.1, by simp; omega, fun i v hi => ?_⟩
    rw [hsl]
    by_cases h : i < as.length
    · rw [List.getElem?_append_left (by simpa using h)] at hi
      rw [List.getElem?_map] at hi
      simp only [List.getElem?_toArray]
      rw [List.getElem?_append_left (by simpa using h), List.getElem?_map]
      cases hv : as[i]? with
      | none => rw [hv] at hi; cases hi
      | some w => rw [hv] at hi; cases hi; rfl
    · rw [List.getElem?_append_right (by simpa using h)] at hi
      have := List.eq_of_mem_replicate (List.mem_of_getElem? hi)
      cases this
  refine hj p e _ s m _ below meth c (am_A G s.heap.size) _ 0 0 s.heap [] _ ⟨⟨B.exec, B.bytes, B.returns, hml, hown, hts, B.notSynchronized⟩, ⟨fun q h => Or.inr h, hK, hN, hn, hAw⟩, ⟨Nat.le_refl _, Nat.le_refl _, Nat.zero_le _, Nat.zero_le _⟩, ?_, fun _ _ _ _ _ _ _ h => h.elim⟩ ⟨hP, hD, va_S.rf⟩ hL
  intro r I' H' locs' g hrs hq hH k T hT Xs
  obtain ⟨t, h1, o, h2, h3, ⟨ho, hh, hW⟩, h5⟩ := k T hT Xs
  refine ⟨t, h1, o, h2, h3, ?_, h5⟩
  have hB : am_B G I' t := ⟨by rw [hh]; exact hH.1, va_K.moved hW.alike hK, am_D hD0 I', am_nw_warm hW hN⟩
  have hr := B.returns
  have hF : va_F (am_A G s.heap.size) s t := hH.2.2.F hh
  subst ho
  cases hret : M.2.2.2 with
  | none =>
    cases r with
    | some v => rw [hret] at hrs; cases hrs
    | none => simp only [am_Qc, hret]; exact ⟨⟨I', rfl, hq, hB⟩, hF⟩
  | some ty =>
    cases r with
    | none => rw [hret] at hrs; cases hrs
    | some v => simp only [am_Qc, hret]; exact ⟨⟨v, I', rfl, hq, hB⟩, hF⟩
theorem am_sub {A : Nat → Prop} {s : State} {H : Heap} {locs : List Loc} (h1 : ∀ q : Nat, s.heap.size ≤ q → A q) (h2 : ∀ r ∈ G.2.2.2.2, A (G.2.2.1 r.1 r.2)) (hS : va_S A s.heap H locs) : ∀ q, am_A G H.size q → A q := by
  intro q h
  rcases h with ⟨r, hr, rfl⟩ | h
  · exact h2 r hr
  · exact h1 q (Nat.le_trans hS.1 h)
/-- behind a call -/
theorem am_back {M' : am_M} {Q' : Option Int32 → am_I → Prop} {rest : List am_V} (hk : ∀ (r : Option Int32) (I' : am_I), r.isSome = M'.2.2.2.isSome → Q' r I' → am_J G d M TH Q (pc + 3) lo (r.toList.map Sum.inl ++ rest) I')
    {p : Program} {e : Env} {R : Room} {s : State} {m : MethodId} {args : Array Value} {below : List Frame} {meth : Method} {c : Code} {A : Nat → Prop} {Z : State → Prop} {cells slots : Nat} {H : Heap} {locs : List Loc} {ls : Array Slot}
    (X : am_X G d M p e R s m args below meth c A Z cells slots TH Q) (hH : am_H G A s H locs I) (hL : am_L G M ls lo) {a : Array Value} {st0 : List Value} 
    (hr : va_Run p G.1.1 e R s m args below meth c H locs cells slots 0 0 (F0 m pc ls st0) (rest.map (am_val G)) (am_Qc G M' Q' (am_A G H.size) a) (am_A G H.size)) : W p G.1.1 e R s m args below meth c H locs cells slots Z (F0 m pc ls st0) := by
  have hF := am_sub X.2.1.1 X.2.1.2.2.2.2 hH.2.2
  cases hret : M'.2.2.2 with
  | none =>
    simp only [am_Qc, hret] at hr
    refine va_callv hr hH.2.2 (fun q _ h => hF q h) hF (fun u t H1 locs1 ht hvm hw hB hz hk1 hS => ?_)
    exact hk none u (by rw [hret]; rfl) hw p e R s m args below meth c A Z cells slots H1 locs1 ls X ⟨by rw [← ht]; exact hB.1, am_D hH.2.1 u, hS⟩ hL
  | some ty =>
    simp only [am_Qc, hret] at hr
    refine va_calli hr hH.2.2 (fun q _ h => hF q h) hF (fun r u t H1 locs1 ht hvm hw hB hz hk1 hS => ?_)
    exact hk (some r) u (by rw [hret]; rfl) hw p e R s m args below meth c A Z cells slots H1 locs1 ls X ⟨by rw [← ht]; exact hB.1, am_D hH.2.1 u, hS⟩ hL
theorem am_cats (l : List am_V) : ((l.map (am_val G)).map fun v => v.category).sum = l.length := by
  induction l with
  | nil => rfl
  | cons v t ih => simp only [List.map_cons, List.sum_cons, ih, am_val_cat, List.length_cons]; omega
theorem am_preB {p : Program} {e : Env} {R : Room} {s : State} {m : MethodId} {args : Array Value} {below : List Frame} {meth : Method} {c : Code} {A : Nat → Prop} {Z : State → Prop} {cells slots : Nat} {H : Heap} {locs : List Loc}
    (X : am_X G d M p e R s m args below meth c A Z cells slots TH Q) (hH : am_H G A s H locs I) {U : State} (hU : U.heap = H) (hW : s.WarmedH U.vm) : U.heap.size = H.size ∧ am_B G I U :=
  ⟨by rw [hU], by rw [hU]; exact hH.1, va_K.moved hW.alike X.2.1.2.1, hH.2.1.weaken (fun _ _ _ _ => trivial), am_nw_warm hW X.2.1.2.2.1⟩
/-- what a call's words say: any callee -/
def am_lk (M' : am_M) (na : Nat) : Prop := Cond.code M'.1 M'.2.1 M'.2.2.1 M'.2.2.2 ∈ am_T ∧ Cond.initialized M'.1.cls ∈ am_T ∧ (M'.1.cls ≠ "java/lang/invoke/MethodHandle" ∧ M'.1.cls ≠ "java/lang/invoke/VarHandle" ∧ (parseMethodDescriptor M'.1.desc).map (fun d => d.parameters.length) = some na) ∧ M'.2.2.1 ≤ 22
theorem am_ws' {M' : am_M} {na : Nat} (h : am_lk M' na) : GoodIn (am_w M) (am_w M') := am_gin (fun w hw => by
  rcases List.mem_cons.mp hw with rfl | h2
  · exact h.1
  · exact h2)
theorem am_callV {M' : am_M} {idx na i j : Nat} {as rest : List am_V} {Q' : Option Int32 → am_I → Prop} {T : u_T} {N : Nat} (hd : decode M.2.1 pc = .ok (.invokevirtual idx, 3)) (hlk : am_lk M' na)
    (hl : Cond.methodLink M.1.cls idx M'.1 ∈ am_T) (hin : Cond.instanceMethod M'.1 ∈ am_T) (hse : Cond.selects M'.1.cls M'.1 M'.1 ∈ am_T)
    (hci : vwCl[am_ci j]? = some (M'.1.cls, T, N)) (hk0 : am_k j = 0) (hm : (i, j) ∈ G.2.2.2.2) (hlen : as.length = na) (hrest : rest.length ≤ 8) (hst : st = as.reverse ++ .inr (i, j) :: rest)
    (hC : am_C G d M' (.inr (i, j) :: as) I Q') (hk : ∀ (r : Option Int32) (I' : am_I), r.isSome = M'.2.2.2.isSome → Q' r I' → am_J G (d + 1) M TH Q (pc + 3) lo (r.toList.map Sum.inl ++ rest) I') : am_J G (d + 1) M TH Q pc lo st I := by
  intro p e R s m args below meth c A Z cells slots H locs ls X hH hL
  obtain ⟨hx, hb, hr, hml, hown, hts, hlocks⟩ := id X.1
  obtain ⟨h1, h2, h3, h4⟩ := id hlk
  obtain ⟨q, -, hw⟩ := am_at hm I
  rw [am_cell0 hk0] at hw
  refine am_back hk X hH hL (a := (Value.ref (G.2.2.1 i j) :: as.map (am_val G)).toArray) (va_runV (As := as.map (am_val G)) (b := G.2.2.1 i j) (C := M'.1.cls) (index := idx) (n := na) ⟨hx, hb, hml, hown, hts⟩ (hC H.size)
    ⟨callB_of na hts (am_ws' hlk) rfl rfl rfl (hts _ (List.mem_cons_of_mem _ h2)) (hts _ (List.mem_cons_of_mem _ hl)) h3 ⟨?_, ?_⟩, hts _ (List.mem_cons_of_mem _ hin), hts _ (List.mem_cons_of_mem _ hse)⟩
    ⟨am_blind, va_recv X.2.1.2.1 hH.1 hci hw, fun U hU hW => ⟨rfl, am_preB X hH hU hW⟩⟩ rfl (by rw [List.length_map]; exact hlen) hL.1 ?_ (lv_room (by rw [am_cats]; exact hrest)) hd ⟨X.2.2.1.2.2.1, X.2.2.1.2.2.2⟩)
  · show d + 1 ≤ R.frames
    exact X.2.2.1.1
  · show 8 + (M'.2.2.1 + 11) + 41 * d ≤ R.locals
    have := X.2.2.1.2.1
    omega
  · show st.map (am_val G) = _
    rw [hst, List.map_append, List.map_reverse]
    rfl
theorem am_callS {M' : am_M} {idx na : Nat} {as rest : List am_V} {Q' : Option Int32 → am_I → Prop} (hd : decode M.2.1 pc = .ok (.invokestatic idx, 3)) (hlk : am_lk M' na)
    (hl : Cond.methodLink M.1.cls idx M'.1 ∈ am_T) (hin : Cond.static M'.1 ∈ am_T) (hlen : as.length = na) (hrest : rest.length ≤ 8) (hst : st = as.reverse ++ rest)
    (hC : am_C G d M' as I Q') (hk : ∀ (r : Option Int32) (I' : am_I), r.isSome = M'.2.2.2.isSome → Q' r I' → am_J G (d + 1) M TH Q (pc + 3) lo (r.toList.map Sum.inl ++ rest) I') : am_J G (d + 1) M TH Q pc lo st I := by
  intro p e R s m args below meth c A Z cells slots H locs ls X hH hL
  obtain ⟨hx, hb, hr, hml, hown, hts, hlocks⟩ := id X.1
  obtain ⟨h1, h2, h3, h4⟩ := id hlk
  refine am_back hk X hH hL (a := (as.map (am_val G)).toArray) (va_runS (As := as.map (am_val G)) (index := idx) (n := na) ⟨hx, hb, hml, hown, hts⟩ (hC H.size)
    ⟨callB_of na hts (am_ws' hlk) rfl rfl rfl (hts _ (List.mem_cons_of_mem _ h2)) (hts _ (List.mem_cons_of_mem _ hl)) h3 ⟨?_, ?_⟩, hts _ (List.mem_cons_of_mem _ hin)⟩
    ⟨am_blind, fun U hU hW => ⟨rfl, am_preB X hH hU hW⟩⟩ rfl (by rw [List.length_map]; exact hlen) hL.1 ?_ (lv_room (by rw [am_cats]; exact hrest)) hd ⟨X.2.2.1.2.2.1, X.2.2.1.2.2.2⟩)
  · show d + 1 ≤ R.frames
    exact X.2.2.1.1
  · show 8 + (M'.2.2.1 + 11) + 41 * d ≤ R.locals
    have := X.2.2.1.2.1
    omega
  · show st.map (am_val G) = _
    rw [hst, List.map_append, List.map_reverse]
theorem am_callSN {M' : am_M} {idx na : Nat} {host : String} {as rest : List am_V} {Q' : Option Int32 → am_I → Prop} (hd : decode M.2.1 pc = .ok (.invokestatic idx, 3)) (hlk : am_lk M' na)
    (hl : Cond.methodLinkNest M.1.cls idx M'.1 host ∈ am_nw) (hin : Cond.static M'.1 ∈ am_T) (hlen : as.length = na) (hrest : rest.length ≤ 8) (hst : st = as.reverse ++ rest)
    (hC : am_C G d M' as I Q') (hk : ∀ (r : Option Int32) (I' : am_I), r.isSome = M'.2.2.2.isSome → Q' r I' → am_J G (d + 1) M TH Q (pc + 3) lo (r.toList.map Sum.inl ++ rest) I') : am_J G (d + 1) M TH Q pc lo st I := by
  intro p e R s m args below meth c A Z cells slots H locs ls X hH hL
  obtain ⟨hx, hb, hr, hml, hown, hts, hlocks⟩ := id X.1
  obtain ⟨h1, h2, h3, h4⟩ := id hlk
  refine am_back hk X hH hL (a := (as.map (am_val G)).toArray) (va_runSN (host := host) (As := as.map (am_val G)) (index := idx) (n := na) ⟨hx, hb, hml, hown, hts⟩ (hC H.size)
    ⟨va_cnB na hts (am_ws' hlk) rfl rfl rfl (X.2.1.2.2.1 _ hl) (hts _ (List.mem_cons_of_mem _ h2)) h3 ⟨?_, ?_⟩, hts _ (List.mem_cons_of_mem _ hin), trivial⟩
    ⟨am_blind, fun U hU hW => ⟨rfl, am_preB X hH hU hW⟩⟩ rfl (by rw [List.length_map]; exact hlen) hL.1 ?_ (lv_room (by rw [am_cats]; exact hrest)) hd ⟨X.2.2.1.2.2.1, X.2.2.1.2.2.2⟩)
  · show d + 1 ≤ R.frames
    exact X.2.2.1.1
  · show 8 + (M'.2.2.1 + 11) + 41 * d ≤ R.locals
    have := X.2.2.1.2.1
    omega
  · show st.map (am_val G) = _
    rw [hst, List.map_append, List.map_reverse]
-- the contract's post may be weakened
theorem am_Jw {Q' : Option Int32 → am_I → Prop} (h : ∀ r I', Q r I' → Q' r I') (hj : am_J G d M TH Q pc lo st I) : am_J G d M TH Q' pc lo st I := by
  intro p e R s m args below meth c A Z cells slots H locs ls X hH hL
  exact hj p e R s m args below meth c A Z cells slots H locs ls ⟨X.1, X.2.1, X.2.2.1, fun r I' H' locs' g h1 h2 => X.2.2.2.1 r I' H' locs' g h1 (h r I' h2), X.2.2.2.2⟩ hH hL
theorem am_Cw {Q' : Option Int32 → am_I → Prop} {as : List am_V} (h : ∀ r I', Q r I' → Q' r I') (hc : am_C G d M as I Q) : am_C G d M as I Q' := by
  intro sz
  refine MetFree.mono (hc sz) (fun _ _ h => h) (fun _ _ _ _ _ h => h) (fun a s o t hp hq => ⟨?_, hq.2⟩)
  have h1 := hq.1
  cases hret : M.2.2.2 with
  | none =>
    simp only [am_Qc, hret] at h1 ⊢
    obtain ⟨⟨u, e1, e2, e3⟩, e4⟩ := h1
    exact ⟨⟨u, e1, h _ _ e2, e3⟩, e4⟩
  | some ty =>
    simp only [am_Qc, hret] at h1 ⊢
    obtain ⟨⟨r, u, e1, e2, e3⟩, e4⟩ := h1
    exact ⟨⟨r, u, e1, h _ _ e2, e3⟩, e4⟩
end AMC
