theorem k_D {A : Nat → Prop} {ws : va_W} : va_D A ws ↔ (ws.map Prod.fst).Nodup ∧ ∀ x ∈ ws, A x.1 := by
  constructor
  · intro h
    refine ⟨?_, fun x hx => ?_⟩
    · refine List.pairwise_iff_getElem.mpr (fun i j hi hj hij he => ?_)
      rw [List.length_map] at hi hj
      rw [List.getElem_map, List.getElem_map] at he
      have h2 := h.1 i j _ _ (List.getElem?_eq_getElem hi) (List.getElem?_eq_getElem hj) he
      omega
    · obtain ⟨k, hk⟩ := List.getElem?_of_mem hx
      exact h.2 k x hk
  · rintro ⟨h1, h2⟩
    refine ⟨fun i j p q hp hq he => ?_, fun k q hk => h2 q (List.mem_of_getElem? hk)⟩
    have hi := (List.getElem?_eq_some_iff.mp hp).1
    have hj := (List.getElem?_eq_some_iff.mp hq).1
    refine (List.getElem?_inj (by rw [List.length_map]; exact hi) h1).mp ?_
    rw [List.getElem?_map, List.getElem?_map, hp, hq]
    simp [he]
theorem k_P {D : va_G} {ws : va_W} {H : Heap} : va_P D vwCl ws H ↔ ∀ x ∈ ws, va_at D vwCl x H := by
  constructor
  · intro h x hx
    obtain ⟨k, hk⟩ := List.getElem?_of_mem hx
    exact h k x hk
  · intro h k x hk
    exact h x (List.mem_of_getElem? hk)
/-- what is around a call's world stays, and the new world is apart from it -/
theorem k_frame {D : va_G} {A : Nat → Prop} {w1 w2 w3 w4 : va_W} {H H1 : Heap} (hP : va_P D vwCl (w1 ++ w2 ++ w3) H) (hD : va_D A (w1 ++ w2 ++ w3)) (hk : ∀ q : Nat, q < H.size → ¬ k_A w2 H.size q → H1[q]? = H[q]?) (hP1 : va_P D vwCl w4 H1) (hD1 : va_D (k_A w2 H.size) w4) (hA : ∀ q, H.size ≤ q → A q) :
    va_P D vwCl (w1 ++ w4 ++ w3) H1 ∧ va_D A (w1 ++ w4 ++ w3) := by
  rw [k_P] at hP hP1
  rw [k_D] at hD hD1
  obtain ⟨hn, hA0⟩ := hD
  obtain ⟨hn1, hA1⟩ := hD1
  simp only [List.map_append, List.nodup_append, List.mem_append] at hn
  have hout : ∀ x : Nat × va_E, x ∈ w1 ∨ x ∈ w3 → x.1 < H.size ∧ ¬ k_A w2 H.size x.1 := by
    intro x hx
    have hlt : x.1 < H.size := (hP x (by simp only [List.mem_append]; rcases hx with h | h; exact Or.inl (Or.inl h); exact Or.inr h)).lt
    refine ⟨hlt, fun hq => ?_⟩
    rcases hq with ⟨y, hy, he⟩ | hq
    · rcases hx with h | h
      · exact hn.1.2.2 x.1 (List.mem_map_of_mem h) y.1 (List.mem_map_of_mem hy) he.symm
      · exact hn.2.2 y.1 (Or.inr (List.mem_map_of_mem hy)) x.1 (List.mem_map_of_mem h) he
    · omega
  constructor
  · rw [k_P]
    intro x hx
    simp only [List.mem_append] at hx
    have key : x ∈ w1 ∨ x ∈ w3 → va_at D vwCl x H1 := fun h => (hP x (by simp only [List.mem_append]; rcases h with h | h; exact Or.inl (Or.inl h); exact Or.inr h)).kept (hk x.1 (hout x h).1 (hout x h).2)
    rcases hx with (h | h) | h
    · exact key (Or.inl h)
    · exact hP1 x h
    · exact key (Or.inr h)
  · rw [k_D]
    have hsep : ∀ x : Nat × va_E, x ∈ w1 ∨ x ∈ w3 → ∀ y : Nat × va_E, y ∈ w4 → x.1 ≠ y.1 := fun x hx y hy he => (hout x hx).2 (by rw [he]; exact hA1 y hy)
    constructor
    · simp only [List.map_append, List.nodup_append, List.mem_append]
      refine ⟨⟨hn.1.1, hn1, ?_⟩, hn.2.1, ?_⟩
      · intro a ha b hb hab
        obtain ⟨x, hx, rfl⟩ := List.mem_map.mp ha
        obtain ⟨y, hy, rfl⟩ := List.mem_map.mp hb
        exact hsep x (Or.inl hx) y hy hab
      · intro a ha b hb hab
        obtain ⟨y, hy, rfl⟩ := List.mem_map.mp hb
        rcases ha with ha | ha
        · exact hn.2.2 a (Or.inl ha) y.1 (List.mem_map_of_mem hy) hab
        · obtain ⟨x, hx, rfl⟩ := List.mem_map.mp ha
          exact hsep y (Or.inr hy) x hx hab.symm
    · intro x hx
      simp only [List.mem_append] at hx
      rcases hx with (h | h) | h
      · exact hA0 x (by simp only [List.mem_append]; exact Or.inl (Or.inl h))
      · rcases hA1 x h with ⟨y, hy, he⟩ | hq
        · rw [← he]; exact hA0 y (by simp only [List.mem_append]; exact Or.inl (Or.inr hy))
        · exact hA _ hq
      · exact hA0 x (by simp only [List.mem_append]; exact Or.inr h)
section KC
variable {B : k_B} {d : Nat} {M : am_M} {mc ms : Nat} {Q : Option Int32 → va_W → Prop} {pc : Nat} {lo : List (Option am_V)} {st : List Value} {ws : va_W} {nc ns : Nat}
theorem k_blind {sz : Nat} {av : List Value} : FrameBlind (va_Pc av (fun U => U.heap.size = sz ∧ k_W B ws U)) := by
  intro a U g mk q
  obtain ⟨q0, q1, qP, qK, qA, qD, qN⟩ := q
  exact ⟨q0, q1, qP, va_K.moved (u := U) (U := U.calling g mk a) (Vm.Alike.refl U.vm) qK, va_AO.moved (u := U) (U := U.calling g mk a) (Vm.Alike.refl U.vm) qA, qD, am_nw_same (s := U) (U := U.calling g mk a) rfl qN⟩
/-- the entry: a contract out of a body -/
theorem k_of {as : List am_V} (hy : plainFor M.1 = true) (hl : as.length ≤ M.2.2.1) (hj : am_K B d M mc ms Q 0 (as.map some ++ List.replicate (M.2.2.1 - as.length) none) [] ws 0 0) : k_C B d mc ms M as ws Q := by
  intro sz
  refine am_ofW (cc := M.2.1) (maxL := M.2.2.1) (ret := M.2.2.2) hy rfl ?_
  intro p e s m args below meth c s₁ Bd hml hv
  obtain ⟨rfl, hsz, hP, hK, hAO, hD0, hN⟩ := hv
  have hts := atoms_spec (ws := am_w M) Bd.pre
  have hown : s.vm.findClass M.1.cls = some m.cls := findClass_of_methodNamed Bd.named
  have hin : meth.name = M.1.name := (name_of_methodNamed Bd.named Bd.method).1
  subst hsz
  have hD : va_D (k_A ws s.heap.size) ws := hD0.weaken (fun k q hk _ => Or.inl ⟨q, List.mem_of_getElem? hk, rfl⟩)
  have hsl : ∀ vs : List am_V, lg_sl (vs.map (am_val (k_G B))) = vs.map (fun v => Slot.val (am_val (k_G B) v)) := by
    intro vs
    induction vs with
    | nil => rfl
    | cons v t ih =>
      simp only [lg_sl, List.map_cons, List.flatMap_cons] at ih ⊢
      rw [ih, if_neg (by rw [am_val_cat]; decide)]
      rfl
  have hlen : (lg_sl (as.map (am_val (k_G B)))).length = as.length := by rw [hsl, List.length_map]
  have hlv := lv_entry (as.map (am_val (k_G B))) (n := M.2.2.1) (by rw [hlen]; exact hl)
  rw [lg_entry_eq]
  have hL : am_L (k_G B) M ((lg_sl (as.map (am_val (k_G B))) ++ List.replicate (M.2.2.1 - (lg_sl (as.map (am_val (k_G B)))).length) Slot.unset).toArray) (as.map some ++ List.replicate (M.2.2.1 - as.length) none) := by
    refine ⟨hlv.1, hlv.2.1, by simp; omega, fun i v hi => ?_⟩
    rw [hsl]
    by_cases h : i < as.length
    · rw [List.getElem?_append_left (by simpa using h)] at hi
      rw [List.getElem?_map] at hi
      simp only [List.getElem?_toArray]
      rw [List.getElem?_append_left (by simpa using h), List.getElem?_map]
      cases hv : as[i]? with
      | none => rw [hv] at hi; cases hi
      | some w => rw [hv] at hi; cases hi; rfl
    · rw [List.getElem?_append_right (by simpa using h)] at hi
      have := List.eq_of_mem_replicate (List.mem_of_getElem? hi)
      cases this
  refine hj p e _ s m _ below meth c (k_A ws s.heap.size) _ s.heap [] _ ⟨⟨Bd.exec, Bd.bytes, Bd.returns, hml, hown, fun w h => hts w (List.mem_cons_of_mem _ h), Bd.notSynchronized, hin⟩, ⟨fun q h => Or.inr h, hK, hAO, hN⟩, ⟨Nat.le_refl _, Nat.le_refl _, Nat.le_refl _, Nat.le_refl _⟩, ?_⟩ ⟨hP, hD, va_S.rf⟩ hL
  intro r ws' H' locs' g hrs hq hH k T hT Xs
  obtain ⟨t, h1, o, h2, h3, ⟨ho, hh, hW⟩, h5⟩ := k T hT Xs
  refine ⟨t, h1, o, h2, h3, ?_, h5⟩
  have hB : k_W B ws' t := ⟨by rw [hh]; exact hH.1, va_K.moved hW.alike hK, va_AO.moved hW.alike hAO, hH.2.1.weaken (fun _ _ _ _ => trivial), am_nw_warm hW hN⟩
  have hF : va_F (k_A ws s.heap.size) s t := hH.2.2.F hh
  subst ho
  cases hret : M.2.2.2 with
  | none =>
    cases r with
    | some v => rw [hret] at hrs; cases hrs
    | none => simp only [k_Qc, hret]; exact ⟨⟨ws', rfl, ⟨hq, hH.2.1⟩, hB⟩, hF⟩
  | some ty =>
    cases r with
    | none => rw [hret] at hrs; cases hrs
    | some v => simp only [k_Qc, hret]; exact ⟨⟨v, ws', rfl, ⟨hq, hH.2.1⟩, hB⟩, hF⟩
theorem k_sub {w1 w2 w3 : va_W} {A : Nat → Prop} {s : State} {H : Heap} {locs : List Loc} (hD : va_D A (w1 ++ w2 ++ w3)) (h1 : ∀ q : Nat, s.heap.size ≤ q → A q) (hS : va_S A s.heap H locs) : ∀ q, k_A w2 H.size q → A q := by
  intro q h
  rcases h with ⟨x, hx, rfl⟩ | h
  · exact (k_D.mp hD).2 x (by simp [hx])
  · exact h1 q (Nat.le_trans hS.1 h)
theorem k_mid {w1 w2 w3 : va_W} {D : va_G} {A : Nat → Prop} {H : Heap} (hP : va_P D vwCl (w1 ++ w2 ++ w3) H) (hD : va_D A (w1 ++ w2 ++ w3)) : va_P D vwCl w2 H ∧ va_D (fun _ => True) w2 := by
  refine ⟨k_P.mpr (fun x hx => k_P.mp hP x (by simp [hx])), k_D.mpr ⟨?_, fun _ _ => trivial⟩⟩
  have h := (k_D.mp hD).1
  simp only [List.map_append, List.nodup_append] at h
  exact h.1.2.1
theorem k_cats (l : List Value) (h : ∀ v ∈ l, v.category ≤ 2) : (l.map fun v => v.category).sum ≤ 2 * l.length := by
  induction l with
  | nil => exact Nat.le_refl _
  | cons v t ih =>
    have h1 := h v List.mem_cons_self
    have h2 := ih (fun w hw => h w (List.mem_cons_of_mem _ hw))
    simp only [List.map_cons, List.sum_cons, List.length_cons]
    omega
theorem k_cat2 (v : Value) : v.category ≤ 2 := by cases v <;> simp [Value.category]
/-- behind a call of a contract that makes cells -/
theorem k_back {M' : am_M} {Q' : Option Int32 → va_W → Prop} {w1 w2 w3 : va_W} {rest : List Value} {mc' ms' : Nat} (hw : ws = w1 ++ w2 ++ w3) (hk : ∀ (r : Option Int32) (w4 : va_W), r.isSome = M'.2.2.2.isSome → Q' r w4 → am_K B d M mc ms Q (pc + 3) lo (r.toList.map Value.int ++ rest) (w1 ++ w4 ++ w3) (nc + mc') (ns + ms'))
    {p : Program} {e : Env} {R : Room} {s : State} {m : MethodId} {args : Array Value} {below : List Frame} {meth : Method} {c : Code} {A : Nat → Prop} {Z : State → Prop} {H : Heap} {locs : List Loc} {ls : Array Slot}
    (X : k_X B d M mc ms p e R s m args below meth c A Z Q) (hH : k_H B A s H locs ws) (hL : am_L (k_G B) M ls lo) {a : Array Value} {st0 : List Value}
    (hr : va_Run p B.1.1 e R s m args below meth c H locs nc ns mc' ms' (F0 m pc ls st0) rest (k_Qc B M' Q' (k_A w2 H.size) a) (k_A w2 H.size)) : W p B.1.1 e R s m args below meth c H locs nc ns Z (F0 m pc ls st0) := by
  subst hw
  have hF := k_sub hH.2.1 X.2.1.1 hH.2.2
  have hA : ∀ q, H.size ≤ q → A q := fun q h => X.2.1.1 q (Nat.le_trans hH.2.2.1 h)
  cases hret : M'.2.2.2 with
  | none =>
    simp only [k_Qc, hret] at hr
    refine va_callv hr hH.2.2 (fun q _ h => hF q h) hF (fun u t H1 locs1 ht hvm hw hB hz hk1 hS => ?_)
    obtain ⟨g1, g2⟩ := k_frame hH.1 hH.2.1 hk1 (by rw [← ht]; exact hB.1) hw.2 hA
    exact hk none u (by rw [hret]; rfl) hw.1 p e R s m args below meth c A Z H1 locs1 ls X ⟨g1, g2, hS⟩ hL
  | some ty =>
    simp only [k_Qc, hret] at hr
    refine va_calli hr hH.2.2 (fun q _ h => hF q h) hF (fun r u t H1 locs1 ht hvm hw hB hz hk1 hS => ?_)
    obtain ⟨g1, g2⟩ := k_frame hH.1 hH.2.1 hk1 (by rw [← ht]; exact hB.1) hw.2 hA
    exact hk (some r) u (by rw [hret]; rfl) hw.1 p e R s m args below meth c A Z H1 locs1 ls X ⟨g1, g2, hS⟩ hL
theorem k_preB {w1 w2 w3 : va_W} {p : Program} {e : Env} {R : Room} {s : State} {m : MethodId} {args : Array Value} {below : List Frame} {meth : Method} {c : Code} {A : Nat → Prop} {Z : State → Prop} {H : Heap} {locs : List Loc}
    (X : k_X B d M mc ms p e R s m args below meth c A Z Q) (hH : k_H B A s H locs (w1 ++ w2 ++ w3)) {U : State} (hU : U.heap = H) (hW : s.WarmedH U.vm) : U.heap.size = H.size ∧ k_W B w2 U :=
  ⟨by rw [hU], by rw [hU]; exact (k_mid hH.1 hH.2.1).1, va_K.moved hW.alike X.2.1.2.1, va_AO.moved hW.alike X.2.1.2.2.1, (k_mid hH.1 hH.2.1).2, am_nw_warm hW X.2.1.2.2.2⟩
theorem k_gin {ws' : List Cond} (h : ∀ w ∈ ws', w ∈ am_T) : GoodIn am_T ws' := fun w hw => ⟨h w hw, am_good (h w hw)⟩
theorem k_ws' {M' : am_M} {na : Nat} (h : am_lk M' na) : GoodIn am_T (am_w M') := k_gin (fun w hw => by
  rcases List.mem_cons.mp hw with rfl | h2
  · exact h.1
  · exact h2)
/-- new C(..): the constructor's call -/
theorem k_callI {M' : am_M} {idx na o : Nat} {as : List am_V} {rest : List Value} {w1 w2 w3 : va_W} {mc' ms' : Nat} {Q' : Option Int32 → va_W → Prop} (hd : decode M.2.1 pc = .ok (.invokespecial idx, 3)) (hlk : am_lk M' na) (hl : Cond.methodLink M.1.cls idx M'.1 ∈ am_T) (hin : Cond.instanceMethod M'.1 ∈ am_T) (hni : M'.1.name = "<init>") (hnr : M'.2.2.2 = none)
    (hlen : as.length = na) (hrest : rest.length ≤ 4) (hst : st = (as.map (am_val (k_G B))).reverse ++ .ref o :: rest) (hw : ws = w1 ++ w2 ++ w3) (hc : nc + mc' ≤ mc) (hs : ns + ms' ≤ ms)
    (hC : k_C B d mc' ms' M' (.inr (o, 0) :: as) w2 Q') (hk : ∀ w4 : va_W, Q' none w4 → am_K B (d + 1) M mc ms Q (pc + 3) lo rest (w1 ++ w4 ++ w3) (nc + mc') (ns + ms')) : am_K B (d + 1) M mc ms Q pc lo st ws nc ns := by
  intro p e R s m args below meth c A Z H locs ls X hH hL
  obtain ⟨hx, hb, hr, hml, hown, hts, hlocks, hnm⟩ := id X.1
  obtain ⟨h1, h2, h3, h4⟩ := id hlk
  refine k_back (M' := M') (Q' := Q') (rest := rest) hw (fun r w4 hr hq => ?_) X hH hL (a := (Value.ref o :: as.map (am_val (k_G B))).toArray) (va_runI (As := as.map (am_val (k_G B))) (b := o) (index := idx) (n := na) (bytes := M'.2.1) (maxL := M'.2.2.1) ⟨hx, hb, hml, hown, hts⟩ (hC H.size)
    ⟨callB_of na hts (k_ws' hlk) (by rw [← hnr]) rfl rfl (hts _ h2) (hts _ hl) h3 ⟨?_, ?_⟩, hni, hts _ hin⟩
    ⟨k_blind, fun U hU hW => ⟨rfl, k_preB X (by rw [← hw]; exact hH) hU hW⟩⟩ rfl (by rw [List.length_map]; exact hlen) hL.1 ?_ (lv_room ?_) hd ⟨Nat.le_trans hc X.2.2.1.2.2.1, Nat.le_trans hs X.2.2.1.2.2.2⟩)
  · rw [hnr] at hr
    cases r with
    | some v => cases hr
    | none => exact hk w4 hq
  · show d + 1 ≤ R.frames
    exact X.2.2.1.1
  · show 8 + (M'.2.2.1 + 11) + 41 * d ≤ R.locals
    have := X.2.2.1.2.1
    omega
  · exact hst
  · have := k_cats rest (fun v _ => k_cat2 v)
    omega
theorem k_callIN {M' : am_M} {idx na o : Nat} {host : String} {as : List am_V} {rest : List Value} {w1 w2 w3 : va_W} {mc' ms' : Nat} {Q' : Option Int32 → va_W → Prop} (hd : decode M.2.1 pc = .ok (.invokespecial idx, 3)) (hlk : am_lk M' na) (hl : Cond.methodLinkNest M.1.cls idx M'.1 host ∈ am_nw) (hin : Cond.instanceMethod M'.1 ∈ am_T) (hni : M'.1.name = "<init>") (hnr : M'.2.2.2 = none)
    (hlen : as.length = na) (hrest : rest.length ≤ 4) (hst : st = (as.map (am_val (k_G B))).reverse ++ .ref o :: rest) (hw : ws = w1 ++ w2 ++ w3) (hc : nc + mc' ≤ mc) (hs : ns + ms' ≤ ms)
    (hC : k_C B d mc' ms' M' (.inr (o, 0) :: as) w2 Q') (hk : ∀ w4 : va_W, Q' none w4 → am_K B (d + 1) M mc ms Q (pc + 3) lo rest (w1 ++ w4 ++ w3) (nc + mc') (ns + ms')) : am_K B (d + 1) M mc ms Q pc lo st ws nc ns := by
  intro p e R s m args below meth c A Z H locs ls X hH hL
  obtain ⟨hx, hb, hr, hml, hown, hts, hlocks, hnm⟩ := id X.1
  obtain ⟨h1, h2, h3, h4⟩ := id hlk
  refine k_back (M' := M') (Q' := Q') (rest := rest) hw (fun r w4 hr hq => ?_) X hH hL (a := (Value.ref o :: as.map (am_val (k_G B))).toArray) (va_runIN (As := as.map (am_val (k_G B))) (b := o) (index := idx) (n := na) (bytes := M'.2.1) (maxL := M'.2.2.1) ⟨hx, hb, hml, hown, hts⟩ (hC H.size)
    ⟨va_cnB na hts (k_ws' hlk) (by rw [← hnr]) rfl rfl (X.2.1.2.2.2 _ hl) (hts _ h2) h3 ⟨?_, ?_⟩, hni, hts _ hin⟩
    ⟨k_blind, fun U hU hW => ⟨rfl, k_preB X (by rw [← hw]; exact hH) hU hW⟩⟩ rfl (by rw [List.length_map]; exact hlen) hL.1 ?_ (lv_room ?_) hd ⟨Nat.le_trans hc X.2.2.1.2.2.1, Nat.le_trans hs X.2.2.1.2.2.2⟩)
  · rw [hnr] at hr
    cases r with
    | some v => cases hr
    | none => exact hk w4 hq
  · show d + 1 ≤ R.frames
    exact X.2.2.1.1
  · show 8 + (M'.2.2.1 + 11) + 41 * d ≤ R.locals
    have := X.2.2.1.2.1
    omega
  · exact hst
  · have := k_cats rest (fun v _ => k_cat2 v)
    omega
/-- the world of the machine of roles, as a part -/
def k_gb (G : am_G) (B : k_B) : Prop := G.1 = B.1 ∧ G.2.1 = B.2.1
theorem k_toB {G : am_G} (hg : k_gb G B) {I : am_I} {U : State} (h : k_W B (am_ws G I) U) : am_B G I U := by
  obtain ⟨g1, g2⟩ := hg
  refine ⟨by rw [g1]; exact h.1, ?_, h.2.2.2.1, h.2.2.2.2⟩
  have h9 := h.2.1.sub (tys' := am_tys G) [0, 1, 2] (by simp [am_tys, g2])
  rw [g1]
  exact h9
theorem k_ofB {G : am_G} (hg : k_gb G B) {I : am_I} {U : State} (hP : am_B G I U) : va_P B.1.2 vwCl (am_ws G I) U.heap := by
  have := hP.1
  rw [hg.1] at this
  exact this
theorem k_Aeq {G : am_G} {I : am_I} {sz : Nat} : k_A (am_ws G I) sz = am_A G sz := by
  funext q
  apply propext
  constructor
  · rintro (⟨x, hx, rfl⟩ | h)
    · simp only [am_ws, List.mem_map] at hx
      obtain ⟨r, hr, rfl⟩ := hx
      exact Or.inl ⟨r, hr, rfl⟩
    · exact Or.inr h
  · rintro (⟨r, hr, rfl⟩ | h)
    · exact Or.inl ⟨_, List.mem_map.mpr ⟨r, hr, rfl⟩, rfl⟩
    · exact Or.inr h
/-- behind a call of a contract of roles -/
theorem k_backA {G : am_G} (hg : k_gb G B) {M' : am_M} {I : am_I} {Q' : Option Int32 → am_I → Prop} {w1 w3 : va_W} {rest : List Value} (hw : ws = w1 ++ am_ws G I ++ w3) (hk : ∀ (r : Option Int32) (I' : am_I), r.isSome = M'.2.2.2.isSome → Q' r I' → am_K B d M mc ms Q (pc + 3) lo (r.toList.map Value.int ++ rest) (w1 ++ am_ws G I' ++ w3) nc ns)
    {p : Program} {e : Env} {R : Room} {s : State} {m : MethodId} {args : Array Value} {below : List Frame} {meth : Method} {c : Code} {A : Nat → Prop} {Z : State → Prop} {H : Heap} {locs : List Loc} {ls : Array Slot}
    (X : k_X B d M mc ms p e R s m args below meth c A Z Q) (hH : k_H B A s H locs ws) (hL : am_L (k_G B) M ls lo) {a : Array Value} {st0 : List Value}
    (hr : va_Run p B.1.1 e R s m args below meth c H locs nc ns 0 0 (F0 m pc ls st0) rest (am_Qc G M' Q' (am_A G H.size) a) (am_A G H.size)) : W p B.1.1 e R s m args below meth c H locs nc ns Z (F0 m pc ls st0) := by
  subst hw
  have hF := k_sub hH.2.1 X.2.1.1 hH.2.2
  have hA : ∀ q, H.size ≤ q → A q := fun q h => X.2.1.1 q (Nat.le_trans hH.2.2.1 h)
  have hD2 : ∀ I' : am_I, va_D (k_A (am_ws G I) H.size) (am_ws G I') := fun I' => am_D ((k_mid hH.1 hH.2.1).2.weaken (fun k q hk _ => Or.inl ⟨q, List.mem_of_getElem? hk, rfl⟩)) I'
  rw [← k_Aeq (I := I)] at hr
  cases hret : M'.2.2.2 with
  | none =>
    simp only [am_Qc, hret] at hr
    refine va_callv hr hH.2.2 (fun q _ h => hF q h) hF (fun u t H1 locs1 ht hvm hw hB hz hk1 hS => ?_)
    obtain ⟨g1, g2⟩ := k_frame hH.1 hH.2.1 hk1 (by rw [← ht]; exact k_ofB hg hB) (hD2 u) hA
    exact hk none u (by rw [hret]; rfl) hw p e R s m args below meth c A Z H1 locs1 ls X ⟨g1, g2, hS⟩ hL
  | some ty =>
    simp only [am_Qc, hret] at hr
    refine va_calli hr hH.2.2 (fun q _ h => hF q h) hF (fun r u t H1 locs1 ht hvm hw hB hz hk1 hS => ?_)
    obtain ⟨g1, g2⟩ := k_frame hH.1 hH.2.1 hk1 (by rw [← ht]; exact k_ofB hg hB) (hD2 u) hA
    exact hk (some r) u (by rw [hret]; rfl) hw p e R s m args below meth c A Z H1 locs1 ls X ⟨g1, g2, hS⟩ hL
theorem k_callS {G : am_G} (hg : k_gb G B) {M' : am_M} {I : am_I} {idx na : Nat} {as : List am_V} {rest : List Value} {w1 w3 : va_W} {Q' : Option Int32 → am_I → Prop} (hd : decode M.2.1 pc = .ok (.invokestatic idx, 3)) (hlk : am_lk M' na) (hl : Cond.methodLink M.1.cls idx M'.1 ∈ am_T) (hin : Cond.static M'.1 ∈ am_T)
    (hlen : as.length = na) (hrest : rest.length ≤ 4) (hst : st = (as.map (am_val G)).reverse ++ rest) (hw : ws = w1 ++ am_ws G I ++ w3) (hc : nc ≤ mc) (hs : ns ≤ ms)
    (hC : am_C G d M' as I Q') (hk : ∀ (r : Option Int32) (I' : am_I), r.isSome = M'.2.2.2.isSome → Q' r I' → am_K B (d + 1) M mc ms Q (pc + 3) lo (r.toList.map Value.int ++ rest) (w1 ++ am_ws G I' ++ w3) nc ns) : am_K B (d + 1) M mc ms Q pc lo st ws nc ns := by
  intro p e R s m args below meth c A Z H locs ls X hH hL
  obtain ⟨hx, hb, hr, hml, hown, hts, hlocks, hnm⟩ := id X.1
  obtain ⟨h1, h2, h3, h4⟩ := id hlk
  have hC9 := hC H.size
  rw [hg.1] at hC9
  refine k_backA hg (M' := M') (Q' := Q') (rest := rest) hw hk X hH hL (a := (as.map (am_val G)).toArray) (va_runS (As := as.map (am_val G)) (index := idx) (n := na) (bytes := M'.2.1) (maxL := M'.2.2.1) (ret := M'.2.2.2) ⟨hx, hb, hml, hown, hts⟩ hC9
    ⟨callB_of na hts (k_ws' hlk) rfl rfl rfl (hts _ h2) (hts _ hl) h3 ⟨?_, ?_⟩, hts _ hin⟩
    ⟨am_blind, fun U hU hW => ⟨rfl, (k_preB X (by rw [← hw]; exact hH) hU hW).1, k_toB hg (k_preB X (by rw [← hw]; exact hH) hU hW).2⟩⟩ rfl (by rw [List.length_map]; exact hlen) hL.1 ?_ (lv_room ?_) hd ⟨Nat.le_trans hc X.2.2.1.2.2.1, Nat.le_trans hs X.2.2.1.2.2.2⟩)
  · show d + 1 ≤ R.frames
    exact X.2.2.1.1
  · show 8 + (M'.2.2.1 + 11) + 41 * d ≤ R.locals
    have := X.2.2.1.2.1
    omega
  · exact hst
  · have := k_cats rest (fun v _ => k_cat2 v)
    omega
/-- from here on the machine of roles -/
theorem k_J {G : am_G} (hg : k_gb G B) (hn : G.2.2.2.2.Nodup) (hcode : Cond.code M.1 M.2.1 M.2.2.1 M.2.2.2 ∈ am_T) {I : am_I} {lo' : List (Option am_V)} {st' : List am_V} {Q' : Option Int32 → am_I → Prop} (hw : ws = am_ws G I) (hst : st = st'.map (am_val G)) (hlo : lo.map (Option.map (am_val (k_G B))) = lo'.map (Option.map (am_val G))) (hc : nc = mc) (hs : ns = ms)
    (hQ : ∀ (r : Option Int32) (I' : am_I), Q' r I' → Q r (am_ws G I')) (hj : am_J G d M am_no Q' pc lo' st' I) : am_K B d M mc ms Q pc lo st ws nc ns := by
  intro p e R s m args below meth c A Z H locs ls X hH hL
  obtain ⟨hx, hb, hr, hml, hown, hts, hlocks, hnm⟩ := id X.1
  subst hw hst hc hs
  obtain ⟨Gm, Gc, Ga, Gn, Gr⟩ := G
  obtain ⟨B1, B2, B3⟩ := B
  obtain ⟨g1, g2⟩ := id hg
  change Gm = B1 at g1
  change Gc = B2 at g2
  subst g1 g2
  have hK3 : va_K Gm.2 vwCl (am_tys (Gm, Gc, Ga, Gn, Gr)) s := X.2.1.2.1.sub (tys' := am_tys (Gm, Gc, Ga, Gn, Gr)) [0, 1, 2] rfl
  have hin : ∀ r ∈ Gr, A (Ga r.1 r.2) := fun r hr => (k_D.mp hH.2.1).2 (Ga r.1 r.2, am_cell (Gm, Gc, Ga, Gn, Gr) (I r.1 r.2) r.1 r.2) (List.mem_map.mpr ⟨r, hr, rfl⟩)
  refine hj p e R s m args below meth c A Z nc ns H locs ls ⟨⟨hx, hb, hr, hml, hown, fun w hw => ?_, hlocks⟩, ⟨X.2.1.1, hK3, X.2.1.2.2.2, hn, hin⟩, X.2.2.1, fun r I' H' locs' g h1 h2 h3 h4 => X.2.2.2 r _ H' locs' g h1 (hQ r I' h2) h3 h4, fun _ _ _ _ _ _ _ h => h.elim⟩ hH ?_
  · rcases List.mem_cons.mp hw with rfl | h
    · exact hts _ hcode
    · exact hts w h
  · have hlen : lo.length = lo'.length := by
      have := congrArg List.length hlo
      simpa using this
    refine ⟨hL.1, hL.2.1, by rw [← hlen]; exact hL.2.2.1, fun i v hi => ?_⟩
    have h9 := congrArg (fun l => l[i]?) hlo
    simp only [List.getElem?_map, hi, Option.map_some] at h9
    cases hv : lo[i]? with
    | none => rw [hv] at h9; cases h9
    | some w =>
      cases w with
      | none => rw [hv] at h9; cases h9
      | some w =>
        rw [hv] at h9
        have h8 : am_val _ w = am_val _ v := Option.some.inj (Option.some.inj h9)
        rw [← h8]
        exact hL.2.2.2 i w hv
theorem k_widen {nc' ns' : Nat} (hc : nc ≤ nc') (hs : ns ≤ ns') (hk : am_K B d M mc ms Q pc lo st ws nc' ns') : am_K B d M mc ms Q pc lo st ws nc ns := by
  intro p e R s m args below meth c A Z H locs ls X hH hL
  obtain ⟨hx, hb, hr, hml, hown, hts, hlocks, hnm⟩ := id X.1
  exact W.widen (k := nc') (n := ns') hc hs (hk p e R s m args below meth c A Z H locs ls X hH hL)
theorem k_ws {ws' : va_W} (h : ws = ws') (hk : am_K B d M mc ms Q pc lo st ws' nc ns) : am_K B d M mc ms Q pc lo st ws nc ns := by rw [h]; exact hk
theorem k_lo {lo' : List (Option am_V)} (h : lo = lo') (hk : am_K B d M mc ms Q pc lo' st ws nc ns) : am_K B d M mc ms Q pc lo st ws nc ns := by rw [h]; exact hk
theorem k_st {st' : List Value} (h : st = st') (hk : am_K B d M mc ms Q pc lo st' ws nc ns) : am_K B d M mc ms Q pc lo st ws nc ns := by rw [h]; exact hk
theorem k_n {nc' ns' : Nat} (h1 : nc = nc') (h2 : ns = ns') (hk : am_K B d M mc ms Q pc lo st ws nc' ns') : am_K B d M mc ms Q pc lo st ws nc ns := by rw [h1, h2]; exact hk
/-- the constructor of the world's last cell -/
theorem k_ctor {M' : am_M} {idx na o : Nat} {as : List am_V} {rest : List Value} {w1 w2 : va_W} {mc' ms' : Nat} {Q' : Option Int32 → va_W → Prop} (hd : decode M.2.1 pc = .ok (.invokespecial idx, 3)) (hlk : am_lk M' na) (hl : Cond.methodLink M.1.cls idx M'.1 ∈ am_T) (hin : Cond.instanceMethod M'.1 ∈ am_T) (hni : M'.1.name = "<init>") (hnr : M'.2.2.2 = none)
    (hlen : as.length = na) (hrest : rest.length ≤ 4) (hst : st = (as.map (am_val (k_G B))).reverse ++ .ref o :: rest) (hw : ws = w1 ++ w2) (hc : nc + mc' ≤ mc) (hs : ns + ms' ≤ ms)
    (hC : k_C B d mc' ms' M' (.inr (o, 0) :: as) w2 Q') (hk : ∀ w4 : va_W, Q' none w4 → am_K B (d + 1) M mc ms Q (pc + 3) lo rest (w1 ++ w4) (nc + mc') (ns + ms')) : am_K B (d + 1) M mc ms Q pc lo st ws nc ns :=
  k_callI (w3 := []) hd hlk hl hin hni hnr hlen hrest hst (by rw [hw, List.append_nil]) hc hs hC (fun w4 h => by rw [List.append_nil]; exact hk w4 h)
theorem k_ctorN {M' : am_M} {idx na o : Nat} {host : String} {as : List am_V} {rest : List Value} {w1 w2 : va_W} {mc' ms' : Nat} {Q' : Option Int32 → va_W → Prop} (hd : decode M.2.1 pc = .ok (.invokespecial idx, 3)) (hlk : am_lk M' na) (hl : Cond.methodLinkNest M.1.cls idx M'.1 host ∈ am_nw) (hin : Cond.instanceMethod M'.1 ∈ am_T) (hni : M'.1.name = "<init>") (hnr : M'.2.2.2 = none)
    (hlen : as.length = na) (hrest : rest.length ≤ 4) (hst : st = (as.map (am_val (k_G B))).reverse ++ .ref o :: rest) (hw : ws = w1 ++ w2) (hc : nc + mc' ≤ mc) (hs : ns + ms' ≤ ms)
    (hC : k_C B d mc' ms' M' (.inr (o, 0) :: as) w2 Q') (hk : ∀ w4 : va_W, Q' none w4 → am_K B (d + 1) M mc ms Q (pc + 3) lo rest (w1 ++ w4) (nc + mc') (ns + ms')) : am_K B (d + 1) M mc ms Q pc lo st ws nc ns :=
  k_callIN (w3 := []) hd hlk hl hin hni hnr hlen hrest hst (by rw [hw, List.append_nil]) hc hs hC (fun w4 h => by rw [List.append_nil]; exact hk w4 h)
theorem k_callSN {host : String} {G : am_G} (hg : k_gb G B) {M' : am_M} {I : am_I} {idx na : Nat} {as : List am_V} {rest : List Value} {w1 w3 : va_W} {Q' : Option Int32 → am_I → Prop} (hd : decode M.2.1 pc = .ok (.invokestatic idx, 3)) (hlk : am_lk M' na) (hl : Cond.methodLinkNest M.1.cls idx M'.1 host ∈ am_nw) (hin : Cond.static M'.1 ∈ am_T)
    (hlen : as.length = na) (hrest : rest.length ≤ 4) (hst : st = (as.map (am_val G)).reverse ++ rest) (hw : ws = w1 ++ am_ws G I ++ w3) (hc : nc ≤ mc) (hs : ns ≤ ms)
    (hC : am_C G d M' as I Q') (hk : ∀ (r : Option Int32) (I' : am_I), r.isSome = M'.2.2.2.isSome → Q' r I' → am_K B (d + 1) M mc ms Q (pc + 3) lo (r.toList.map Value.int ++ rest) (w1 ++ am_ws G I' ++ w3) nc ns) : am_K B (d + 1) M mc ms Q pc lo st ws nc ns := by
  intro p e R s m args below meth c A Z H locs ls X hH hL
  obtain ⟨hx, hb, hr, hml, hown, hts, hlocks, hnm⟩ := id X.1
  obtain ⟨h1, h2, h3, h4⟩ := id hlk
  have hC9 := hC H.size
  rw [hg.1] at hC9
  refine k_backA hg (M' := M') (Q' := Q') (rest := rest) hw hk X hH hL (a := (as.map (am_val G)).toArray) (va_runSN (host := host) (As := as.map (am_val G)) (index := idx) (n := na) (bytes := M'.2.1) (maxL := M'.2.2.1) (ret := M'.2.2.2) ⟨hx, hb, hml, hown, hts⟩ hC9
    ⟨va_cnB na hts (k_ws' hlk) rfl rfl rfl (X.2.1.2.2.2 _ hl) (hts _ h2) h3 ⟨?_, ?_⟩, hts _ hin, trivial⟩
    ⟨am_blind, fun U hU hW => ⟨rfl, (k_preB X (by rw [← hw]; exact hH) hU hW).1, k_toB hg (k_preB X (by rw [← hw]; exact hH) hU hW).2⟩⟩ rfl (by rw [List.length_map]; exact hlen) hL.1 ?_ (lv_room ?_) hd ⟨Nat.le_trans hc X.2.2.1.2.2.1, Nat.le_trans hs X.2.2.1.2.2.2⟩)
  · show d + 1 ≤ R.frames
    exact X.2.2.1.1
  · show 8 + (M'.2.2.1 + 11) + 41 * d ≤ R.locals
    have := X.2.2.1.2.1
    omega
  · exact hst
  · have := k_cats rest (fun v _ => k_cat2 v)
    omega
/-- a static method that reads no cell -/
theorem k_pure {M' : am_M} {idx na : Nat} {as : List am_V} {rest : List Value} {v : Int32} (hd : decode M.2.1 pc = .ok (.invokestatic idx, 3)) (hlk : am_lk M' na) (hl : Cond.methodLink M.1.cls idx M'.1 ∈ am_T) (hin : Cond.static M'.1 ∈ am_T)
    (hlen : as.length = na) (hrest : rest.length ≤ 4) (hst : st = (as.map (am_val (k_G B))).reverse ++ rest) (hc : nc ≤ mc) (hs : ns ≤ ms)
    (hC : am_C (k_G B) d M' as (fun _ _ _ => 0) (am_E (some v) (fun _ _ _ => 0))) (hk : am_K B (d + 1) M mc ms Q (pc + 3) lo (.int v :: rest) ws nc ns) : am_K B (d + 1) M mc ms Q pc lo st ws nc ns := by
  refine k_callS (G := k_G B) (I := fun _ _ _ => 0) (w1 := ws) (w3 := []) ⟨rfl, rfl⟩ hd hlk hl hin hlen hrest hst (by simp [am_ws]) hc hs hC (fun r I' _ hq => ?_)
  obtain ⟨rfl, rfl⟩ := hq
  have h : ws ++ am_ws (k_G B) (fun _ _ _ => 0) ++ [] = ws := by simp [am_ws]
  rw [h]
  exact hk
theorem k_pureN {host : String} {M' : am_M} {idx na : Nat} {as : List am_V} {rest : List Value} {v : Int32} (hd : decode M.2.1 pc = .ok (.invokestatic idx, 3)) (hlk : am_lk M' na) (hl : Cond.methodLinkNest M.1.cls idx M'.1 host ∈ am_nw) (hin : Cond.static M'.1 ∈ am_T)
    (hlen : as.length = na) (hrest : rest.length ≤ 4) (hst : st = (as.map (am_val (k_G B))).reverse ++ rest) (hc : nc ≤ mc) (hs : ns ≤ ms)
    (hC : am_C (k_G B) d M' as (fun _ _ _ => 0) (am_E (some v) (fun _ _ _ => 0))) (hk : am_K B (d + 1) M mc ms Q (pc + 3) lo (.int v :: rest) ws nc ns) : am_K B (d + 1) M mc ms Q pc lo st ws nc ns := by
  refine k_callSN (G := k_G B) (I := fun _ _ _ => 0) (w1 := ws) (w3 := []) ⟨rfl, rfl⟩ hd hlk hl hin hlen hrest hst (by simp [am_ws]) hc hs hC (fun r I' _ hq => ?_)
  obtain ⟨rfl, rfl⟩ := hq
  have h : ws ++ am_ws (k_G B) (fun _ _ _ => 0) ++ [] = ws := by simp [am_ws]
  rw [h]
  exact hk
end KC
