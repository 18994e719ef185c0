/-- the texts of the exceptions -/
def am_sl : List (Nat × String) := [(75, "no such node, kind or what it has"), (96, "the node is down, or has a call under way"), (114, "no such node or delay"), (119, "no such number of ticks"), (134, "no such node or number of words"), (136, "the node is down"), (164, "no such node"), (169, "the node is up or not joined"), (182, "the node is up or joined, or another one is down and joined"), (184, "no such node or what"), (207, "no such call"), (210, "no such what"), (219, "no such word"), (233, "the block isn't in the cache"), (242, "no such node, resource or what"), (265, "no such resource or what"), (279, "no such message")]
/-- words of a throw that are not good ones: they go with the state -/
def am_tw : List Cond := [.castable "java/lang/IllegalArgumentException" "java/lang/IllegalArgumentException", .castable "java/lang/IllegalStateException" "java/lang/IllegalStateException", .castable "java/lang/IndexOutOfBoundsException" "java/lang/IndexOutOfBoundsException", .castable "java/util/NoSuchElementException" "java/util/NoSuchElementException", .declares (Bundle.initS "java/lang/RuntimeException"), .declares (Bundle.initS "java/lang/Exception"), .declares (Bundle.initS "java/lang/Throwable")]
theorem am_tw_on : ∀ w ∈ am_tw, w.onTables = true := fun w h => List.all_eq_true.mp (show am_tw.all Cond.onTables = true by decide +kernel) w h
abbrev am_nm2 : List String := ["java/lang/RuntimeException", "java/lang/Exception"]
/-- what a throw needs of the state -/
def am_TS (A : Nat → Prop) (U : State) : Prop := vx_Zq Bundle.tN "UNASSIGNED_STACK" Bundle.steD A U U.heap ∧ vx_Zq Bundle.tN "SUPPRESSED_SENTINEL" Bundle.listD A U U.heap ∧ (∀ q ∈ am_sl, ∃ a, vk_R RX10 q.1 q.2 a U) ∧ ∀ w ∈ am_tw, w.before #[] U = true
/-- an exception's class and its constructor's place, by the words -/
def am_tok (ic : Nat) (E : String) : Prop := (∀ w ∈ vx_atS RX10 ic E am_nm2, w ∈ am_tw ∨ w ∈ am_T) ∧ (∀ w ∈ vx_atS RX10 ic E am_nm2, vx_ot w = true) ∧ Bundle.fit E = true ∧ Cond.initialized E ∈ am_T
/-- a throw of E by a plain constructor stands at pc -/
def am_ts0 (M : am_M) (pc : Nat) (E : String) : Prop := ∃ (ik is ic : Nat) (tx : String), (is, tx) ∈ am_sl ∧ am_tok ic E ∧ Cond.classLink RX10 ik E ∈ am_T ∧ decode M.2.1 pc = .ok (.new ik, 3) ∧ decode M.2.1 (pc + 3) = .ok (.dup, 1) ∧
  ((decode M.2.1 (pc + 4) = .ok (.ldc is, 2) ∧ decode M.2.1 (pc + 6) = .ok (.invokespecial ic, 3) ∧ decode M.2.1 (pc + 9) = .ok (.athrow, 1)) ∨ (decode M.2.1 (pc + 4) = .ok (.ldc_w is, 3) ∧ decode M.2.1 (pc + 7) = .ok (.invokespecial ic, 3) ∧ decode M.2.1 (pc + 10) = .ok (.athrow, 1)))
def am_nsB : ByteArray := prog_26_method_4_code
def am_nsA : List Cond := (am_atN RX10 235 "java/util/NoSuchElementException" "java/lang/RuntimeException" 13 am_nsB ["java/lang/Exception"]).filter vx_no
/-- a throw of E stands at pc -/
def am_ts (M : am_M) (pc : Nat) (E : String) : Prop := am_ts0 M pc E ∨ (E = "java/util/NoSuchElementException" ∧ decode M.2.1 pc = .ok (.new 231, 3) ∧ decode M.2.1 (pc + 3) = .ok (.dup, 1) ∧ decode M.2.1 (pc + 4) = .ok (.ldc 233, 2) ∧ decode M.2.1 (pc + 6) = .ok (.invokespecial 235, 3) ∧ decode M.2.1 (pc + 9) = .ok (.athrow, 1))
theorem am_ns1 : am_nsA.all (fun w => decide (w ∈ am_tw) || (decide (w ∈ lw_tbl) && goodWord w)) = true := by decide +kernel
theorem am_ns2 : ∀ w ∈ am_nsA, w ∈ am_tw ∨ w ∈ am_T := fun w hw => by
  have h := List.all_eq_true.mp am_ns1 w hw
  simp only [Bool.or_eq_true, Bool.and_eq_true, decide_eq_true_eq] at h
  rcases h with h | ⟨h1, h2⟩
  · exact Or.inl h
  · exact Or.inr (am_mem h1 h2)
theorem am_ns3 : ∀ w ∈ am_nsA, vx_ot w = true := fun w hw => List.all_eq_true.mp (show am_nsA.all vx_ot = true by decide +kernel) w hw
theorem am_ns4 : Cond.initialized "java/util/NoSuchElementException" ∈ am_T := am_t1 23 rfl rfl
theorem am_ns5 : Cond.classLink RX10 231 "java/util/NoSuchElementException" ∈ am_T := am_t5 160 rfl rfl
def am_rx (d : Nat) : Room := { frames := d, cells := 1, slots := 6, locals := 41 * d }
/-- THE CONTRACT of a method that returns so that Q, or throws an E with X -/
def am_CX (G : am_G) (d : Nat) (M : am_M) (as : List am_V) (I : am_I) (Q : Option Int32 → am_I → Prop) (X : String → am_I → Prop) : Prop :=
  ∀ sz : Nat, vx_Met G.1.1 M.1 (am_w M) (am_rx d) (va_Pc (as.map (am_val G)) (fun U => U.heap.size = sz ∧ am_B G I U ∧ am_TS (am_A G sz) U)) (am_Qc G M Q (am_A G sz)) (vx_X (S := am_I) (fun _ => True) (fun E u t => X E u ∧ va_P G.1.2 vwCl (am_ws G u) t.heap) (am_A G sz)) 1 6 (am_A G sz)
/-- the exits of a body that throws -/
def am_th (M : am_M) (X : String → am_I → Prop) : Nat → List (Option am_V) → List am_V → am_I → Prop := fun pc _ st J => st = [] ∧ ∃ E, am_ts M pc E ∧ X E J
/-- a world stays where its heap is only longer -/
theorem am_Pk {D : va_G} {ws : va_W} {H H1 : Heap} (h : va_P D vwCl ws H) (h2 : ∀ q : Nat, q < H.size → H1[q]? = H[q]?) : va_P D vwCl ws H1 := by
  refine h.kept (fun k q hk => h2 q.1 ?_)
  have h9 := h k q hk
  obtain ⟨a, b⟩ := q
  cases b with
  | inl a => exact (Array.getElem?_eq_some_iff.mp (show H[_]? = some _ from h9)).1
  | inr o =>
    obtain ⟨r, -, h8⟩ := (show ∃ r, _ from h9)
    obtain ⟨c, hc, -⟩ := h8
    exact (Array.getElem?_eq_some_iff.mp hc).1
theorem am_ofX {G : am_G} {d : Nat} {M : am_M} {Q : Option Int32 → am_I → Prop} {X : String → am_I → Prop} {I : am_I} {as : List am_V} (hl : G.1.1.stackTraces = false) (hM : M.1.cls = RX10) (hd : 6 ≤ d) (hn : G.2.2.2.2.Nodup) (hlen0 : as.length ≤ M.2.2.1)
    (hj : am_J G d M (am_th M X) Q 0 (as.map some ++ List.replicate (M.2.2.1 - as.length) none) [] I) : am_CX G d M as I Q X := by
  intro sz
  refine vx_ofW (cc := M.2.1) (maxL := M.2.2.1) (ret := M.2.2.2) (by rw [hM]; decide +kernel) rfl ?_
  intro p e s m args below meth c s₁ B hml hnt hv
  obtain ⟨rfl, hsz, ⟨hP, hK, hD0, hN⟩, hTS⟩ := hv
  have hts := atoms_spec (ws := am_w M) B.pre
  have hown : s.vm.findClass M.1.cls = some m.cls := findClass_of_methodNamed B.named
  subst hsz
  have hAw : ∀ r ∈ G.2.2.2.2, am_A G s.heap.size (G.2.2.1 r.1 r.2) := fun r hr => Or.inl ⟨r, hr, rfl⟩
  have hD : va_D (am_A G s.heap.size) (am_ws G I) := hD0.weaken (fun k q hk _ => by
    simp only [am_ws, List.getElem?_map] at hk
    cases hr : G.2.2.2.2[k]? with
    | none => rw [hr] at hk; cases hk
    | some r => rw [hr] at hk; cases hk; exact hAw r (List.mem_of_getElem? hr))
  have hsl : ∀ vs : List am_V, lg_sl (vs.map (am_val G)) = vs.map (fun v => Slot.val (am_val G v)) := by
    intro vs
    induction vs with
    | nil => rfl
    | cons v t ih =>
      simp only [lg_sl, List.map_cons, List.flatMap_cons] at ih ⊢
      rw [ih, if_neg (by rw [am_val_cat]; decide)]
      rfl
  have hlen : (lg_sl (as.map (am_val G))).length = as.length := by rw [hsl, List.length_map]
  have hlv := lv_entry (as.map (am_val G)) (n := M.2.2.1) (by rw [hlen]; exact hlen0)
  rw [lg_entry_eq]
  have hL : am_L G M ((lg_sl (as.map (am_val G)) ++ List.replicate (M.2.2.1 - (lg_sl (as.map (am_val G))).length) Slot.unset).toArray) (as.map some ++ List.replicate (M.2.2.1 - as.length) none) := by
    refine ⟨hlv.1, hlv.2.1, by simp; omega, fun i v hi => ?_⟩
    rw [hsl]
    by_cases h : i < as.length
    · rw [List.getElem?_append_left (by simpa using h)] at hi
      rw [List.getElem?_map] at hi
      simp only [List.getElem?_toArray]
      rw [List.getElem?_append_left (by simpa using h), List.getElem?_map]
      cases hv : as[i]? with
      | none => rw [hv] at hi; cases hi
      | some w => rw [hv] at hi; cases hi; rfl
    · rw [List.getElem?_append_right (by simpa using h)] at hi
      have := List.eq_of_mem_replicate (List.mem_of_getElem? hi)
      cases this
  refine hj p e _ s m _ below meth c (am_A G s.heap.size) _ 0 0 s.heap [] _ ⟨⟨B.exec, B.bytes, B.returns, hml, hown, hts, B.notSynchronized⟩, ⟨fun q h => Or.inr h, hK, hN, hn, hAw⟩, ⟨Nat.le_refl _, Nat.le_refl _, Nat.zero_le _, Nat.zero_le _⟩, ?_, ?_⟩ ⟨hP, hD, va_S.rf⟩ hL
  · intro r I' H' locs' g hrs hq hH k T hT Xs
    obtain ⟨t, h1, ob, h2, h3, ⟨ho, hh, hW⟩, L, ⟨f1, f2, f3⟩, h6⟩ := k T hT Xs
    refine ⟨t, h1, ob, h2, h3, Or.inl ⟨?_, L, ⟨f1, f2, f3.mono (by omega) (by omega)⟩, h6⟩⟩
    have hB : am_B G I' t := ⟨by rw [hh]; exact hH.1, va_K.moved hW.alike hK, am_D hD0 I', am_nw_warm hW hN⟩
    have hF : va_F (am_A G s.heap.size) s t := hH.2.2.F hh
    subst ho
    cases hret : M.2.2.2 with
    | none =>
      cases r with
      | some v => rw [hret] at hrs; cases hrs
      | none => simp only [am_Qc, hret]; exact ⟨⟨I', rfl, hq, hB⟩, hF⟩
    | some ty =>
      cases r with
      | none => rw [hret] at hrs; cases hrs
      | some v => simp only [am_Qc, hret]; exact ⟨⟨v, I', rfl, hq, hB⟩, hF⟩
  · intro pc lo st I' H' locs' ls hth hH hLs
    obtain ⟨rfl, E, hE, hX⟩ := hth
    have hmem : ∀ w ∈ am_T, w.before ((as.map (am_val G)).toArray) s = true := fun w h => hts w (List.mem_cons_of_mem _ h)
    have hxc : ∀ t : State, s.vm.Alike t.vm → H'.size ≤ t.heap.size → (∀ q : Nat, q < H'.size → t.heap[q]? = H'[q]?) → vx_X (S := am_I) (fun _ => True) (fun E u t => X E u ∧ va_P G.1.2 vwCl (am_ws G u) t.heap) (am_A G s.heap.size) E s t := fun t _ h1 h2 =>
      ⟨I', trivial, ⟨hX, am_Pk hH.1 h2⟩, Nat.le_trans hH.2.2.1 h1, fun q hq hnA => by rw [h2 q (Nat.lt_of_lt_of_le hq hH.2.2.1)]; exact hH.2.2.2.1 q hq hnA⟩
    rcases hE with ⟨ik, is, ic, tx, hs, ⟨k1, k2, k3, k4⟩, hcl, d0, d3, dr⟩ | ⟨rfl, d0, d3, d4, d6, d9⟩
    rotate_left
    · obtain ⟨sa, hsa⟩ := hTS.2.2.1 (233, "the block isn't in the cache") (by decide)
      have hat : ∀ w ∈ am_nsA, w.before ((as.map (am_val G)).toArray) s = true := fun w hw => by
        rcases am_ns2 w hw with h | h
        · exact va_any (am_tw_on w h) (hTS.2.2.2 w h)
        · exact hmem w h
      have hgood : ∀ w ∈ Cond.classLink RX10 231 "java/util/NoSuchElementException" :: Cond.initialized "java/util/NoSuchElementException" :: am_nsA, vx_ot w = true := fun w hw => by
        rcases List.mem_cons.mp hw with rfl | hw
        · rfl
        · rcases List.mem_cons.mp hw with rfl | hw
          · rfl
          · exact am_ns3 w hw
      rw [hM] at hown
      exact am_throwN (Y := "java/lang/RuntimeException") (names := ["java/lang/Exception"]) (index := 13) (bs := am_nsB) B.exec B.bytes hl hown (by decide +kernel) (by decide +kernel) (by decide +kernel) (by decide +kernel) (by decide +kernel) (by decide +kernel) (by decide +kernel) (hmem _ am_ns5) (hmem _ am_ns4) hsa hat hgood hTS.1 hTS.2.1 hH.2.2 (hLs.1.trans hml.symm) d0 d3 d4 d6 d9 (fun x hx => (hnt x hx).elim) (by show 1 + 4 < d; omega) (by show 0 + (13 * 3 + 43) ≤ 41 * d; omega) (Nat.le_refl _) (Nat.le_refl _) B.notSynchronized hxc hH.2.2.2.2 (Nat.le_refl _) (Nat.le_refl _)
    obtain ⟨sa, hsa⟩ := hTS.2.2.1 (is, tx) hs
    have hat : ∀ w ∈ vx_atS RX10 ic E am_nm2, w.before ((as.map (am_val G)).toArray) s = true := fun w hw => by
      rcases k1 w hw with h | h
      · exact va_any (am_tw_on w h) (hTS.2.2.2 w h)
      · exact hmem w h
    have hgood : ∀ w ∈ Cond.classLink RX10 ik E :: Cond.initialized E :: vx_atS RX10 ic E am_nm2, vx_ot w = true := fun w hw => by
      rcases List.mem_cons.mp hw with rfl | hw
      · rfl
      · rcases List.mem_cons.mp hw with rfl | hw
        · rfl
        · exact k2 w hw
    have hfr : am_nm2.length + 3 < (am_rx d).frames := by show 2 + 3 < d; omega
    have hlo : ((([] : List Value).map fun v => v.category).sum) + (13 * (am_nm2.length + 1) + 43) ≤ (am_rx d).locals := by show 0 + (13 * 3 + 43) ≤ 41 * d; omega
    rw [hM] at hown
    rcases dr with ⟨d4, d6, d9⟩ | ⟨d4, d7, d10⟩
    · exact vx_throwS B.exec B.bytes hl hown k3 (by decide +kernel) (hmem _ hcl) (hmem _ k4) hsa hat hgood hTS.1 hTS.2.1 hH.2.2 (hLs.1.trans hml.symm) d0 d3 d4 d6 d9 (fun x hx => (hnt x hx).elim) hfr hlo (Nat.le_refl _) (Nat.le_refl _) B.notSynchronized hxc hH.2.2.2.2 (Nat.le_refl _) (Nat.le_refl _)
    · exact vx_throwSW B.exec B.bytes hl hown k3 (by decide +kernel) (hmem _ hcl) (hmem _ k4) hsa hat hgood hTS.1 hTS.2.1 hH.2.2 (hLs.1.trans hml.symm) d0 d3 d4 d7 d10 (fun x hx => (hnt x hx).elim) hfr hlo (Nat.le_refl _) (Nat.le_refl _) B.notSynchronized hxc hH.2.2.2.2 (Nat.le_refl _) (Nat.le_refl _)
theorem tw_A : (vx_atS RX10 77 "java/lang/IllegalArgumentException" am_nm2).all (fun w => decide (w ∈ am_tw) || (decide (w ∈ lw_tbl) && goodWord w)) = true := by decide +kernel
theorem tk_A : am_tok 77 "java/lang/IllegalArgumentException" := by
  refine ⟨fun w hw => ?_, fun w hw => List.all_eq_true.mp (show (vx_atS RX10 77 "java/lang/IllegalArgumentException" am_nm2).all vx_ot = true by decide +kernel) w hw, by decide +kernel, am_t1 17 rfl rfl⟩
  have h := List.all_eq_true.mp tw_A w hw
  simp only [Bool.or_eq_true, Bool.and_eq_true, decide_eq_true_eq] at h
  rcases h with h | ⟨h1, h2⟩
  · exact Or.inl h
  · exact Or.inr (am_mem h1 h2)
theorem tc_A : Cond.classLink RX10 73 "java/lang/IllegalArgumentException" ∈ am_T := am_t2 229 rfl rfl
theorem tw_S : (vx_atS RX10 98 "java/lang/IllegalStateException" am_nm2).all (fun w => decide (w ∈ am_tw) || (decide (w ∈ lw_tbl) && goodWord w)) = true := by decide +kernel
theorem tk_S : am_tok 98 "java/lang/IllegalStateException" := by
  refine ⟨fun w hw => ?_, fun w hw => List.all_eq_true.mp (show (vx_atS RX10 98 "java/lang/IllegalStateException" am_nm2).all vx_ot = true by decide +kernel) w hw, by decide +kernel, am_t1 18 rfl rfl⟩
  have h := List.all_eq_true.mp tw_S w hw
  simp only [Bool.or_eq_true, Bool.and_eq_true, decide_eq_true_eq] at h
  rcases h with h | ⟨h1, h2⟩
  · exact Or.inl h
  · exact Or.inr (am_mem h1 h2)
theorem tc_S : Cond.classLink RX10 94 "java/lang/IllegalStateException" ∈ am_T := am_t3 58 rfl rfl
theorem tw_X : (vx_atS RX10 209 "java/lang/IndexOutOfBoundsException" am_nm2).all (fun w => decide (w ∈ am_tw) || (decide (w ∈ lw_tbl) && goodWord w)) = true := by decide +kernel
theorem tk_X : am_tok 209 "java/lang/IndexOutOfBoundsException" := by
  refine ⟨fun w hw => ?_, fun w hw => List.all_eq_true.mp (show (vx_atS RX10 209 "java/lang/IndexOutOfBoundsException" am_nm2).all vx_ot = true by decide +kernel) w hw, by decide +kernel, am_t1 22 rfl rfl⟩
  have h := List.all_eq_true.mp tw_X w hw
  simp only [Bool.or_eq_true, Bool.and_eq_true, decide_eq_true_eq] at h
  rcases h with h | ⟨h1, h2⟩
  · exact Or.inl h
  · exact Or.inr (am_mem h1 h2)
theorem tc_X : Cond.classLink RX10 205 "java/lang/IndexOutOfBoundsException" ∈ am_T := am_t5 126 rfl rfl
theorem ts_call_22 : am_ts mX10_call 22 "java/lang/IllegalArgumentException" := Or.inl ⟨73, 75, 77, _, List.mem_of_getElem? (i := 0) rfl, tk_A, tc_A, dX10_call_22, dX10_call_25, Or.inl ⟨dX10_call_26, dX10_call_28, dX10_call_31⟩⟩
theorem ts_call_60 : am_ts mX10_call 60 "java/lang/IllegalStateException" := Or.inl ⟨94, 96, 98, _, List.mem_of_getElem? (i := 1) rfl, tk_S, tc_S, dX10_call_60, dX10_call_63, Or.inl ⟨dX10_call_64, dX10_call_66, dX10_call_69⟩⟩
theorem ts_delay_27 : am_ts mX10_delay 27 "java/lang/IllegalArgumentException" := Or.inl ⟨73, 114, 77, _, List.mem_of_getElem? (i := 2) rfl, tk_A, tc_A, dX10_delay_27, dX10_delay_30, Or.inl ⟨dX10_delay_31, dX10_delay_33, dX10_delay_36⟩⟩
theorem ts_tick_10 : am_ts mX10_tick 10 "java/lang/IllegalArgumentException" := Or.inl ⟨73, 119, 77, _, List.mem_of_getElem? (i := 3) rfl, tk_A, tc_A, dX10_tick_10, dX10_tick_13, Or.inl ⟨dX10_tick_14, dX10_tick_16, dX10_tick_19⟩⟩
theorem ts_crash_18 : am_ts mX10_crash 18 "java/lang/IllegalArgumentException" := Or.inl ⟨73, 134, 77, _, List.mem_of_getElem? (i := 4) rfl, tk_A, tc_A, dX10_crash_18, dX10_crash_21, Or.inl ⟨dX10_crash_22, dX10_crash_24, dX10_crash_27⟩⟩
theorem ts_crash_42 : am_ts mX10_crash 42 "java/lang/IllegalStateException" := Or.inl ⟨94, 136, 98, _, List.mem_of_getElem? (i := 5) rfl, tk_S, tc_S, dX10_crash_42, dX10_crash_45, Or.inl ⟨dX10_crash_46, dX10_crash_48, dX10_crash_51⟩⟩
theorem ts_recover_8 : am_ts mX10_recover 8 "java/lang/IllegalArgumentException" := Or.inl ⟨73, 164, 77, _, List.mem_of_getElem? (i := 6) rfl, tk_A, tc_A, dX10_recover_8, dX10_recover_11, Or.inl ⟨dX10_recover_12, dX10_recover_14, dX10_recover_17⟩⟩
theorem ts_recover_42 : am_ts mX10_recover 42 "java/lang/IllegalStateException" := Or.inl ⟨94, 169, 98, _, List.mem_of_getElem? (i := 7) rfl, tk_S, tc_S, dX10_recover_42, dX10_recover_45, Or.inl ⟨dX10_recover_46, dX10_recover_48, dX10_recover_51⟩⟩
theorem ts_start_8 : am_ts mX10_start 8 "java/lang/IllegalArgumentException" := Or.inl ⟨73, 164, 77, _, List.mem_of_getElem? (i := 6) rfl, tk_A, tc_A, dX10_start_8, dX10_start_11, Or.inl ⟨dX10_start_12, dX10_start_14, dX10_start_17⟩⟩
theorem ts_start_46 : am_ts mX10_start 46 "java/lang/IllegalStateException" := Or.inl ⟨94, 182, 98, _, List.mem_of_getElem? (i := 8) rfl, tk_S, tc_S, dX10_start_46, dX10_start_49, Or.inl ⟨dX10_start_50, dX10_start_52, dX10_start_55⟩⟩
theorem ts_result_17 : am_ts mX10_result 17 "java/lang/IllegalArgumentException" := Or.inl ⟨73, 184, 77, _, List.mem_of_getElem? (i := 9) rfl, tk_A, tc_A, dX10_result_17, dX10_result_20, Or.inl ⟨dX10_result_21, dX10_result_23, dX10_result_26⟩⟩
theorem ts_history_15 : am_ts mX10_history 15 "java/lang/IndexOutOfBoundsException" := Or.inl ⟨205, 207, 209, _, List.mem_of_getElem? (i := 10) rfl, tk_X, tc_X, dX10_history_15, dX10_history_18, Or.inl ⟨dX10_history_19, dX10_history_21, dX10_history_24⟩⟩
theorem ts_history_35 : am_ts mX10_history 35 "java/lang/IllegalArgumentException" := Or.inl ⟨73, 210, 77, _, List.mem_of_getElem? (i := 11) rfl, tk_A, tc_A, dX10_history_35, dX10_history_38, Or.inl ⟨dX10_history_39, dX10_history_41, dX10_history_44⟩⟩
theorem ts_word_8 : am_ts mX10_word 8 "java/lang/IndexOutOfBoundsException" := Or.inl ⟨205, 219, 209, _, List.mem_of_getElem? (i := 12) rfl, tk_X, tc_X, dX10_word_8, dX10_word_11, Or.inl ⟨dX10_word_12, dX10_word_14, dX10_word_17⟩⟩
theorem ts_cached_8 : am_ts mX10_cached 8 "java/lang/IllegalArgumentException" := Or.inl ⟨73, 164, 77, _, List.mem_of_getElem? (i := 6) rfl, tk_A, tc_A, dX10_cached_8, dX10_cached_11, Or.inl ⟨dX10_cached_12, dX10_cached_14, dX10_cached_17⟩⟩
theorem ts_cached_26 : am_ts mX10_cached 26 "java/lang/IndexOutOfBoundsException" := Or.inl ⟨205, 219, 209, _, List.mem_of_getElem? (i := 12) rfl, tk_X, tc_X, dX10_cached_26, dX10_cached_29, Or.inl ⟨dX10_cached_30, dX10_cached_32, dX10_cached_35⟩⟩
theorem ts_cached_57 : am_ts mX10_cached 57 "java/util/NoSuchElementException" := Or.inr ⟨rfl, dX10_cached_57, dX10_cached_60, dX10_cached_61, dX10_cached_63, dX10_cached_66⟩
theorem ts_lock_24 : am_ts mX10_lock 24 "java/lang/IllegalArgumentException" := Or.inl ⟨73, 242, 77, _, List.mem_of_getElem? (i := 14) rfl, tk_A, tc_A, dX10_lock_24, dX10_lock_27, Or.inl ⟨dX10_lock_28, dX10_lock_30, dX10_lock_33⟩⟩
theorem ts_row_11 : am_ts mX10_row 11 "java/lang/IllegalArgumentException" := Or.inl ⟨73, 265, 77, _, List.mem_of_getElem? (i := 15) rfl, tk_A, tc_A, dX10_row_11, dX10_row_14, Or.inr ⟨dX10_row_15, dX10_row_18, dX10_row_21⟩⟩
theorem ts_message_15 : am_ts mX10_message 15 "java/lang/IndexOutOfBoundsException" := Or.inl ⟨205, 279, 209, _, List.mem_of_getElem? (i := 16) rfl, tk_X, tc_X, dX10_message_15, dX10_message_18, Or.inr ⟨dX10_message_19, dX10_message_22, dX10_message_25⟩⟩
theorem ts_message_36 : am_ts mX10_message 36 "java/lang/IllegalArgumentException" := Or.inl ⟨73, 210, 77, _, List.mem_of_getElem? (i := 11) rfl, tk_A, tc_A, dX10_message_36, dX10_message_39, Or.inl ⟨dX10_message_40, dX10_message_42, dX10_message_45⟩⟩
theorem ts_node_18 : am_ts mX10_node 18 "java/lang/IllegalArgumentException" := Or.inl ⟨73, 184, 77, _, List.mem_of_getElem? (i := 9) rfl, tk_A, tc_A, dX10_node_18, dX10_node_21, Or.inl ⟨dX10_node_22, dX10_node_24, dX10_node_27⟩⟩
theorem ts_about_125 : am_ts mX10_about 125 "java/lang/IllegalArgumentException" := Or.inl ⟨73, 210, 77, _, List.mem_of_getElem? (i := 11) rfl, tk_A, tc_A, dX10_about_125, dX10_about_128, Or.inl ⟨dX10_about_129, dX10_about_131, dX10_about_134⟩⟩
