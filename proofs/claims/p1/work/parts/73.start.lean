def R_law : String := "ClusterShelfLaw"
def lw_P (b : Addr) (xs : List Int32) (args : Array Value) (s : State) : Prop := args = #[.ref b] ∧ s.IntsAt b xs ∧ xs.length ≤ 8 ∧ (Jvm.Cond.and given_1 narrow_1).before args s = true
def lw_Q (_ : Array Value) (s : State) (o : Outcome) (t : State) : Prop := o = .returned (some (.int 1)) ∧ Framed s o t [] 600002 7302198
def lw_Z (below : List Frame) (a : Array Value) (s : State) : State → Prop := fun t => ∃ o, t.status = .running ∧ Ended t below o ∧ lw_Q a s o t
/-- the law's own end, with 1 on the stack, nothing written that was there before, its room as the claim has it -/
theorem lw_ret {p : Program} {l : Launch} {e : Env} {s : State} {m : MethodId} {below : List Frame} {meth : Method} {c : Code} {b : Nat} (hx : p.tables.exec = Jvm.exec) (hb : c.code = code) (hr : meth.sig.returnType = ret) (hlocks : meth.locks = false) {pc : Nat} {H : Heap} {ls : Array Slot} (hdg : decode code pc = .ok (.ireturn, 1)) : W p l e room_1 s m #[Value.ref b] below meth c H [] 600002 7302198 (lw_Z below #[Value.ref b] s) (F0 m pc ls [.int 1]) := by
  intro T hT X
  obtain ⟨fs, hret, hrun, hended, hW, hframe⟩ := X.leave (v := some (.int 1)) (hlocks := hlocks) (fun h => by rw [hr] at h; cases h)
  have hmeth' : T.vm.method? m = some meth := X.method'
  refine ⟨T.setFrames fs, ?_, .returned (some (.int 1)), hrun, hended, rfl, ⟨_, rfl⟩, hW, hframe⟩
  jvm_step X.here [X.here.top, hx, hb, hdg, hmeth', hr, ret, narrow_b1]
  (try refine ⟨rfl, ?_⟩); (try refine ⟨rfl, ?_⟩)
  first | (intro acts; rw [hret _ acts rfl rfl rfl]) | rw [hret _ _ rfl rfl rfl]
  exact Steps.refl _
/-- what holds at the law's entry: the machine, the code, the tables' words (any of lw_tbl by 'hts w (by decide +kernel)'), the script of L ints xs at the cell b, what the Statement gives of the start (any of its parts by flat_of_before) -/
def lw_At (p : Program) (s : State) (m : MethodId) (meth : Method) (c : Code) (b L : Nat) (xs : Nat → Int32) : Prop :=
  p.tables.exec = Jvm.exec ∧ c.code = code ∧ meth.sig.returnType = ret ∧ c.maxLocals = 7 ∧ s.vm.findClass R_law = some m.cls ∧ (∀ w ∈ lw_tbl, w.before #[Value.ref b] s = true) ∧ va_X b L xs s s.heap ∧ b < s.heap.size ∧ meth.locks = false ∧ (Jvm.Cond.and given_1 narrow_1).before #[Value.ref b] s = true
theorem st_nw : am_nw.all (fun w => decide (w ∈ lw_tbl) && w.onTables) = true := by decide +kernel
theorem st_tw : am_tw.all (fun w => decide (w ∈ lw_tbl)) = true := by decide +kernel
theorem st_sl : am_sl.all (fun q => decide (Cond.stringRef RX10 q.1 q.2 ∈ lw_tbl)) = true := by decide +kernel
theorem st_se : am_sl.all (fun q => decide (Cond.exactly (.string RX10 q.1) "java/lang/String" ∈ flatC (Jvm.Cond.and given_1 narrow_1))) = true := by decide +kernel
theorem st_nc : am_xs.all (fun a => am_xs.all (fun b => decide (a = b) || decide (Cond.not (.castable a b) ∈ flatC (Jvm.Cond.and given_1 narrow_1)))) = true := by decide +kernel
theorem st_zs : ([Cond.laysStatic Bundle.tN "UNASSIGNED_STACK" Bundle.steD, Cond.laysStatic Bundle.tN "SUPPRESSED_SENTINEL" Bundle.listD, Cond.initialized Bundle.tN, Cond.arrayOver (.object RX7)] : List Cond).all (fun w => decide (w ∈ lw_tbl)) = true := by decide +kernel
theorem st_zr : ([Cond.isRef (.static Bundle.tN "UNASSIGNED_STACK" Bundle.steD), Cond.isRef (.static Bundle.tN "SUPPRESSED_SENTINEL" Bundle.listD)] : List Cond).all (fun w => decide (w ∈ flatC (Jvm.Cond.and given_1 narrow_1))) = true := by decide +kernel
theorem st_mem {l : List Cond} {p : Cond → Bool} (h : l.all p = true) {w : Cond} (hw : w ∈ l) : p w = true := List.all_eq_true.mp h w hw
/-- what throws and catches need, at the start -/
theorem st_TW {s : State} {b : Nat} {A : Nat → Prop} (hts : ∀ w ∈ lw_tbl, w.before #[Value.ref b] s = true) (hgv : (Jvm.Cond.and given_1 narrow_1).before #[Value.ref b] s = true) (hA : ∀ a : Nat, a < s.heap.size → ¬ A a) : am_TW A s := by
  have hf := flat_of_before _ hgv
  have z1 : ∀ w ∈ ([Cond.laysStatic Bundle.tN "UNASSIGNED_STACK" Bundle.steD, Cond.laysStatic Bundle.tN "SUPPRESSED_SENTINEL" Bundle.listD, Cond.initialized Bundle.tN, Cond.arrayOver (.object RX7)] : List Cond), w.before #[Value.ref b] s = true := fun w hw => hts w (of_decide_eq_true (st_mem st_zs hw))
  have z2 : ∀ w ∈ ([Cond.isRef (.static Bundle.tN "UNASSIGNED_STACK" Bundle.steD), Cond.isRef (.static Bundle.tN "SUPPRESSED_SENTINEL" Bundle.listD)] : List Cond), w.before #[Value.ref b] s = true := fun w hw => hf w (of_decide_eq_true (st_mem st_zr hw))
  refine ⟨⟨vx_Zqof (z1 _ (by simp)) (z1 _ (by simp)) (z2 _ (by simp)) hA, vx_Zqof (z1 _ (by simp)) (z1 _ (by simp)) (z2 _ (by simp)) hA, fun q hq => ?_, fun w hw => ?_⟩, fun x hx y hy hxy => ?_⟩
  · have h1 := hts _ (of_decide_eq_true (List.all_eq_true.mp st_sl q hq))
    have h2 := hf _ (of_decide_eq_true (List.all_eq_true.mp st_se q hq))
    obtain ⟨a, c, cell, k, h3, -⟩ := Cond.exactly_spec (show (Cond.exactly (.string RX10 q.1) "java/lang/String").holds #[Value.ref b] s none s [] = true from h2)
    exact ⟨a, vk_R.of h1 h3⟩
  · exact va_any (am_tw_on w hw) (hts w (of_decide_eq_true (st_mem st_tw hw)))
  · have h1 := List.all_eq_true.mp (List.all_eq_true.mp st_nc x hx) y hy
    rw [Bool.or_eq_true] at h1
    rcases h1 with h1 | h1
    · exact absurd (of_decide_eq_true h1) hxy
    · exact va_Nc.of (hf _ (of_decide_eq_true h1))
theorem st_K {s : State} {b : Nat} (l : Launch) (hts0 : ∀ w ∈ lw_tbl, w.before #[Value.ref b] s = true) : ∃ B : k_B, B.1.1 = l ∧ va_K B.1.2 vwCl (k_tys B) s ∧ k_N B s ∧ ∀ w ∈ am_nw, va_Nw w s := by
  have hts : ∀ w ∈ am_T, w.before #[Value.ref b] s = true := fun w hw => hts0 w (List.mem_filter.mp hw).1
  obtain ⟨c0, iS0, hKn0⟩ := u_known (C := RX0) (T := TX0) (N := 2) (n := 2) hts (ux_0) (hts _ (am_t2 68 rfl rfl))
  obtain ⟨c1, iS1, hKn1⟩ := u_known (C := RX1) (T := TX1) (N := 3) (n := 3) hts (ux_1) (hts _ (am_t1 46 rfl rfl))
  obtain ⟨c2, iS2, hKn2⟩ := u_known (C := RX2) (T := TX2) (N := 8) (n := 8) hts (ux_2) (hts _ (am_t2 146 rfl rfl))
  obtain ⟨c3, iS3, hKn3⟩ := u_known (C := RX3) (T := TX3) (N := 9) (n := 9) hts (ux_3) (hts _ (am_t1 174 rfl rfl))
  obtain ⟨c4, iS4, hKn4⟩ := u_known (C := RX4) (T := TX4) (N := 7) (n := 7) hts (ux_4) (hts _ (am_t1 71 rfl rfl))
  obtain ⟨c5, iS5, hKn5⟩ := u_known (C := RX5) (T := TX5) (N := 5) (n := 5) hts (ux_5) (hts _ (am_t2 41 rfl rfl))
  obtain ⟨c6, iS6, hKn6⟩ := u_known (C := RX6) (T := TX6) (N := 5) (n := 5) hts (ux_6) (hts _ (am_t2 13 rfl rfl))
  obtain ⟨c7, iS7, hKn7⟩ := u_known (C := RX7) (T := TX7) (N := 7) (n := 7) hts (ux_7) (hts _ (am_t1 40 rfl rfl))
  obtain ⟨c8, iS8, hKn8⟩ := u_known (C := RX8) (T := TX8) (N := 12) (n := 12) hts (ux_8) (hts _ (am_t1 111 rfl rfl))
  obtain ⟨c9, iS9, hKn9⟩ := u_known (C := RX9) (T := TX9) (N := 17) (n := 17) hts (ux_9) (hts _ (am_t2 83 rfl rfl))
  obtain ⟨c10, iS10, hKn10⟩ := u_known (C := RX10) (T := TX10) (N := 10) (n := 10) hts (ux_10) (hts _ (am_t1 25 rfl rfl))
  obtain ⟨c11, iS11, hKn11⟩ := u_known (C := RX11) (T := TX11) (N := 71) (n := 71) hts (ux_11) (hts _ (am_t6 45 rfl rfl))
  obtain ⟨aI, kI, pI, i1, i2, i3⟩ := Cond.arrayClass_spec (show (Cond.arrayClass .int).holds #[Value.ref b] s none s [] = true from hts _ ar_I)
  obtain ⟨aZ, kZ, pZ, z1, z2, z3⟩ := Cond.arrayClass_spec (show (Cond.arrayClass .boolean).holds #[Value.ref b] s none s [] = true from hts _ ar_Z)
  obtain ⟨aL, kL, pL, l1, l2, l3⟩ := Cond.arrayClass_spec (show (Cond.arrayClass .long).holds #[Value.ref b] s none s [] = true from hts _ ar_L)
  have hO : (Cond.arrayOver (.object RX7)).before #[Value.ref b] s = true := hts0 _ (of_decide_eq_true (st_mem st_zs (by simp)))
  obtain ⟨pN, aN, kN, n1, n2, n3, n4, n5⟩ := Cond.arrayOver_spec hO
  refine ⟨((l, (fun k => ([c0, c1, c2, c3, c4, c5, c6, c7, c8, c9, c10, c11] : List ClassId).getD k c0, fun k => ([iS0, iS1, iS2, iS3, iS4, iS5, iS6, iS7, iS8, iS9, iS10, iS11] : List (Nat → Nat)).getD k iS0)), (aI, aZ, aN), aL), rfl, ⟨?_, ?_⟩, va_AO.of hO, fun w hw => ?_⟩
  · intro k q hq
    match k, hq with
    | 0, hq => cases hq; exact hKn0
    | 1, hq => cases hq; exact hKn1
    | 2, hq => cases hq; exact hKn2
    | 3, hq => cases hq; exact hKn3
    | 4, hq => cases hq; exact hKn4
    | 5, hq => cases hq; exact hKn5
    | 6, hq => cases hq; exact hKn6
    | 7, hq => cases hq; exact hKn7
    | 8, hq => cases hq; exact hKn8
    | 9, hq => cases hq; exact hKn9
    | 10, hq => cases hq; exact hKn10
    | 11, hq => cases hq; exact hKn11
    | k + 12, hq => simp [vwCl] at hq
  · intro k q hq
    match k, hq with
    | 0, hq => cases hq; exact ⟨fun n z => ⟨fun k h => (by cases h), kI, i2, pI, i3⟩, i1⟩
    | 1, hq => cases hq; exact ⟨fun n z => ⟨fun k h => (by cases h), kZ, z2, pZ, z3⟩, z1⟩
    | 2, hq => cases hq; exact ⟨fun n z => ⟨fun k h => (by cases h), kN, n3, pN, n4⟩, kN, pN, n3, n4, n1, n5⟩
    | 3, hq => cases hq; exact ⟨fun n z => ⟨fun k h => (by cases h), kL, l2, pL, l3⟩, l1⟩
    | k + 4, hq => simp at hq
  · have h1 := st_mem st_nw hw
    rw [Bool.and_eq_true] at h1
    exact va_any h1.2 (hts0 w (of_decide_eq_true h1.1))
/-- the walk of the law, out of its steps -/
theorem st_start {p : Program} {e : Env} {s : State} {m : MethodId} {below : List Frame} {meth : Method} {c : Code} (l : Launch) (htr : l.stackTraces = false) {b L : Nat} {xs : Nat → Int32} (hL : L ≤ 8) (C0 : lw_At p s m meth c b L xs) {Inv : Nat → Nat → am_I → am_I → Prop} (K : Nat) (hK : L < 1 + 7 * (K + 1)) (hK6 : K ≤ 1000) (h0 : ∀ n, 2 ≤ n → n ≤ 4 → Inv n K (am_fr n) (am_fr n)) (hs : ∀ (n : Nat) (G G' : am_G), G.1.1.stackTraces = false → am_ok G → am_okM G' → G.2.2.2.1 = n → G'.2.2.2.1 = n → l_all G G' (Inv n)) : W p l e room_1 s m #[Value.ref b] below meth c s.heap [] 0 0 (lw_Z below #[Value.ref b] s) (entryFrame m ([Value.ref b] : List Value).toArray 7) := by
  obtain ⟨hx, hb, hr, hml, hown, hts, hX, hbl, hlocks, hgv⟩ := id C0
  obtain ⟨B, hBl, hKv, hN, hnw⟩ := st_K (b := b) l hts
  subst hBl
  have hl := lv_entry ([.ref b] : List Value) (n := 7) (Nat.le_of_ble_eq_true rfl)
  rw [lg_entry_eq]
  generalize (lg_sl ([.ref b]) ++ List.replicate (7 - (lg_sl ([.ref b])).length) Slot.unset).toArray = ls at hl ⊢
  have hl : lv_has ls 7 [(0, .ref b)] := hl
  have hbd := am_cl_bd (l_c0 L xs)
  have hN9 := l_entry (B := B) (Inv := Inv) (b := b) (L := L) (n := am_cl (l_c0 L xs)) (xs := xs) (by omega) rfl K hK hK6 (h0 _ hbd.1 hbd.2) (fun G G' hg hg' hG hG' e1 e2 => hs _ G G' (by rw [hg.1]; exact htr) hG hG' e1 e2)
  refine hN9 p e room_1 s m #[Value.ref b] below meth c (fun q => s.heap.size ≤ q) (lw_Z below #[Value.ref b] s) s.heap [] ls ⟨⟨hx, hb, hr, hml, hown, fun w hw => hts w (List.mem_filter.mp hw).1, hlocks, trivial⟩, ⟨fun _ h => h, hKv, hN, hnw⟩, ⟨by decide, by decide, by decide, by decide⟩, st_TW hts hgv (fun a ha => Nat.not_le.mpr ha), ⟨hX, hbl, Nat.not_le.mpr hbl⟩, ?_⟩ ⟨fun k q h => by simp at h, ⟨fun i j p q h => by simp at h, fun k q h => by simp at h⟩, va_S.rf⟩ ⟨hl.1, hl.2.1, rfl, fun i v hi => ?_⟩
  · intro pc ls' H' locs' nc ns hd hS hc hs
    refine va_forget (fun q hq => hS.2.2 q hq) ?_
    refine W.widen (k := 600002) (n := 7302198) hc hs ?_
    exact lw_ret hx hb hr hlocks hd
  · match i, hi with
    | 0, hi => cases hi; exact lv_at hl 0 rfl
    | 1, hi => cases hi
    | 2, hi => cases hi
    | 3, hi => cases hi
    | 4, hi => cases hi
    | 5, hi => cases hi
    | 6, hi => cases hi
    | i + 7, hi => cases hi
