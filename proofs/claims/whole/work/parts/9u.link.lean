theorem c_isin {n k : Nat} {I : am_I} (hk : k < 128) : gX10_isInode n (nI k) I = some (nI 1, I) := by
  have h1 : ¬ 128 ≤ k := by omega
  simp (disch := omega) only [gX10_isInode, bX10_isInode_16, bX10_isInode_15, bX10_isInode_0, z_ni0, z_le, h1, if_false, z_011, z_gdt]
theorem c_isinm {n : Nat} {I : am_I} : gX10_isInode n (-1 : Int32) I = some (nI 0, I) := by
  simp only [gX10_isInode, bX10_isInode_16, bX10_isInode_15, bX10_isInode_0, (by decide : (-1 : Int32) < 0), if_true, z_01, z_gdt]
section LINK
variable {n y : Nat} {Hd : Nat → Int} {F0 F F' : (Nat → Nat) → wS} {I0 J0 I J : am_I} {X : List Nat} {E : Nat → Prop} {gn : List Nat} {gp gp' pd pd' : Nat → Prop}
/-- how a call's kind comes out -/
def KD (n y : Nat) (Hd : Nat → Int) (F0 : (Nat → Nat) → wS) (I0 J0 : am_I) (c r : Option am_I) : Prop := ∃ I' J', c.bind (fun q => bX9_run_203 n q) = some I' ∧ r = some J' ∧ (EN y Hd F0 I0 J0 I' J' ∨ DN y Hd F0 I0 J0 (nI 1) I' J')
theorem kd_of {c r : Option am_I} (h : ∃ I' J', c = some I' ∧ r = some J' ∧ (EN y Hd F0 I0 J0 I' J' ∨ DN y Hd F0 I0 J0 (nI 1) I' J')) : KD n y Hd F0 I0 J0 c r := by
  obtain ⟨I', J', h1, h2, h3⟩ := h
  refine ⟨I', J', ?_, h2, h3⟩
  rw [h1, Option.bind_some]
  rcases h3 with h3 | h3
  · exact run_over (en_ne h3)
  · exact run_over (by rw [h3.2.1]; decide)
theorem kd_en {I' J' : am_I} {c r : Option am_I} (h1 : c = some I') (h2 : r = some J') (h3 : EN y Hd F0 I0 J0 I' J') : KD n y Hd F0 I0 J0 c r := kd_of ⟨I', J', h1, h2, Or.inl h3⟩
/-- the try ends with an entry put -/
theorem run_put {d t0 : Nat} {r r' : Option am_I} {v : Int32} (hd : d < 128) (h9 : I 0 15 9 = nI 0) (h13 : I 0 15 13 = nI d) (h16 : I 0 15 16 = (-1 : Int32)) (h10 : I 0 15 10 = v) (hX : X.length ≤ 5) (hp : PUT y Hd F0 I0 J0 X d t0 F I J (gX9_putEntry n I) r) (hlc : ∀ L, L y = 2 → ∀ s', PE (F L) s' d t0 → LR (F0 L) s') (hr : ∀ J', r = some J' → ((∃ I', EN y Hd F0 I0 J0 I' J') ∧ ∀ c, tH y J c → tH y J' c) ∨ (∃ I', (∃ X' F', TN y Hd F0 I0 J0 X' (fun _ => False) F' [] (fun _ => False) (fun _ => False) I' J') ∧ (∀ k' i, k' < 128 → ¬ k' = d → vw y J' (w_ib k') i = vw y J (w_ib k') i) ∧ (∀ c, tH y J c → tH y J' c) ∧ (∀ k, ¬ k = 56 → J' 0 60 k = J 0 60 k)) → ∃ w, r' = some (am_up J' 0 60 55 w) ∧ ((∃ I', EN y Hd F0 I0 J0 I' J') ∨ w = v)) : KD n y Hd F0 I0 J0 (some I) r' := by
  have h90 : I 0 15 9 = 0 := h9
  have hrun : bX9_run_203 n I = (gX9_putEntry n I).bind (fun q => bX9_run_249 n q) := by
    simp only [bX9_run_203, bX9_run_228, h90, if_true, h16, c_isinm, Option.bind_some, z_00, h13, c_isin hd, z_10, if_false]
  rcases hp with ⟨X', F', I', J', p1, p2, p3, p4, p5, p6, p7, p8, p9⟩ | ⟨I', J', p1, p2, p3⟩
  · obtain ⟨w, w1, w2⟩ := hr J' p2 (Or.inr ⟨I', ⟨X', F', p3⟩, p5, p6, p8⟩)
    refine ⟨am_up I' 0 15 9 (nI 1), am_up J' 0 60 55 w, ?_, w1, Or.inr ?_⟩
    · rw [Option.bind_some, hrun, p1, Option.bind_some]
      have e9 : I' 0 15 9 = 0 := by rw [p7 9 (by decide)]; exact h9
      simp only [bX9_run_249, bX9_run_261, e9, if_true, am_lt]
    · have hw : w = v := by
        rcases w2 with ⟨I'', hEN⟩ | hw
        · exfalso
          have o1 := ov_en (n := n) hEN.2
          rw [ov_rn p3.2] at o1
          have := congrArg (fun o => o.map Prod.fst) o1
          simp only [Option.map_some, Option.some.injEq] at this
          exact z_n01 this
        · exact hw
      subst hw
      refine ⟨⟨X', fun _ => False, F', [], fun _ => False, tr_up p3.1 (fun i j q => z_upj _ _ _ _ _ _ _ q) (fun k q => by rw [z_upk, if_neg (by omega)]) (fun i j q => z_upj _ _ _ _ _ _ _ q) (fun k q => by rw [z_upk, if_neg (by omega)]), by omega, fun _ q => q.elim, fun b => ⟨fun q => q.elim, fun q => absurd q List.not_mem_nil⟩, fun _ _ b q => absurd q List.not_mem_nil, fun L hL => hlc L hL _ (p9 L hL)⟩, ?_, ?_, ?_, ?_⟩
      · rw [z_upk, if_pos rfl]
      · rw [z_upk, if_neg (by decide)]; exact p3.2.2.1
      · rw [z_upk, if_neg (by decide)]; exact p3.2.2.2
      · rw [z_upk, if_neg (by decide), z_upk, if_pos rfl, p7 10 (by decide), h10]
  · obtain ⟨w, w1, w2⟩ := hr J' p2.1 (Or.inl ⟨⟨I', p3⟩, p2.2⟩)
    refine ⟨I', am_up J' 0 60 55 w, ?_, w1, Or.inl (en_55 p3)⟩
    rw [Option.bind_some, hrun, p1, Option.bind_some]
    have e9 : ¬ I' 0 15 9 = 0 := en_ne p3
    simp only [bX9_run_249, bX9_run_261, e9, if_false]
theorem c_pn {a b c d : Int32} : gX9_putNext n a b c d I = some (am_up (am_up (am_up (am_up I 0 15 13 a) 0 15 14 b) 0 15 15 c) 0 15 10 d) := by
  simp only [gX9_putNext, bX9_putNext_0, am_lt]
theorem tn_pn {a b c d : Int32} (h : TN y Hd F0 I0 J0 X E F gn gp pd I J) : TN y Hd F0 I0 J0 X E F gn gp pd (am_up (am_up (am_up (am_up I 0 15 13 a) 0 15 14 b) 0 15 15 c) 0 15 10 d) J := by
  refine ⟨tr_up h.1 (fun i j q => by simp (disch := omega) only [z_upj]) (fun k q => by rw [z_upk, if_neg (by omega), z_upk, if_neg (by omega), z_upk, if_neg (by omega), z_upk, if_neg (by omega)]) (fun _ _ _ => rfl) (fun _ _ => rfl), ?_⟩
  unfold rn
  rw [z_upk, if_neg (by decide), z_upk, if_neg (by decide), z_upk, if_neg (by decide), z_upk, if_neg (by decide)]
  exact h.2
theorem k_link {d k : Nat} {name : Int32} (hC : TC n y Hd I0 J0) (hM : ∀ r, r < 136 → Hd r ≤ 2) (h : TN0 y Hd F0 I0 J0 I J) (hd : d < 128) (hk : k < 128) (ha : I0 y 55 1 = nI d) (hb : I0 y 55 2 = name) (hc : I0 y 55 3 = nI k) (h16 : I 0 15 16 = (-1 : Int32)) (hn : ¬ name = nI 0) : KD n y Hd F0 I0 J0 (gX9_link n y I) (gX11_tryLink n (nI d) name (nI k) J) := by
  have hn4 := hC.2.1
  have hyn := hC.1
  rcases tn_dir (m := 2) hC h (fun _ q => q) hd (Or.inr rfl) with ⟨I1, J1, e1, e2, e3, e4, e5, e6, e7⟩ | ⟨I1, J1, e1, e2, e3⟩
  · obtain ⟨r, I2, J2, z, f1, f2, f3, f4, f5, f6, f7, f8, f9⟩ := tn_find name hC e3 (fun _ q => q) hd (by omega)
    rcases f9 with rfl | ⟨w, rfl, w1, w2, w3⟩
    · rcases tn_file (m := 2) hC f3 (fun _ q => q) hk (Or.inr rfl) with ⟨I3, J3, g1, g2, g3, g4, g5, g6, g7⟩ | ⟨I3, J3, g1, g2, g3⟩
      · have hHk : Hd k = 2 := by have := hM k (by omega); omega
        have hHd : Hd d = 2 := by have := hM d (by omega); omega
        have hdk : ¬ k = d := fun e => by
          rw [f4.1, e4.1, e, e6] at g6
          exact absurd g6 (by decide)
        have q1 := c_readc (n := n) (i := 1) hC g3 g7 (fun q => q) (by omega)
        have q2 := r_getc (n := n) (i := 1) (by omega) g7 (by omega) (tn_c g3).2
        obtain ⟨I4, J4, s1, s2, s3, s4, s5, s6, s7⟩ := tn_lset (v := vw y J3 (w_ib k) 1 + nI 1) hC (tn_X (w_ib k) g3) (fun _ q => q) hk hHk g7 (by rw [g4.1, g6]; decide) List.mem_cons_self (Nat.le_of_ble_eq_true rfl)
        have hv4 : vw y J4 (w_ib d) 0 = nI 2 := by rw [s4, w_up_b _ _ _ _ (fun e => hdk (w_ib_inj hd hk e).symm), g4.1, f4.1, e4.1]; exact e6
        have hput := tn_put (n := n) (d := d) (t := k) (name := name) hC hM (tn_pn (a := nI d) (b := name) (c := nI k) (d := vw y J3 (w_ib k) 1 + nI 1) s3) (Nat.le_of_ble_eq_true rfl) hd hHd hv4 hk (by simp only [z_upk]; rfl) (by simp only [z_upk]; rfl) (by simp only [z_upk]; rfl) hn
        have hI : gX9_link n y I = some (am_up (am_up (am_up (am_up I4 0 15 13 (nI d)) 0 15 14 name) 0 15 15 (nI k)) 0 15 10 (vw y J3 (w_ib k) 1 + nI 1)) := by
          simp only [gX9_link, bX9_link_0, tn_a h, ha, e1, Option.bind_some, z_10, if_false, tn_a e3, hb, f1, if_true, tn_a f3, hc, g1, tn_a g3, c_ib n k _ hk, q1, s1, tn_a s3, c_pn]
        have hJ : gX11_tryLink n (nI d) name (nI k) J = (gX11_putEntry n (nI d) name (nI k) J4).bind (fun q6 => (gX11_get n (nI (w_ib k)) (nI 1) q6).bind (fun q7 => some (am_up q7.2 0 60 55 q7.1))) := by
          simp only [gX11_tryLink, bX11_tryLink_0, e2, Option.bind_some, z_10, if_false, f2, if_true, g2, a_of hk, q2, a_si hk, s2, am_lt]
        rw [hI]
        refine run_put (d := d) (v := vw y J3 (w_ib k) 1 + nI 1) hd (by simp only [z_upk]; exact s3.2.1) (by simp only [z_upk]; rfl) ?_ (by simp only [z_upk]; rfl) (Nat.le_of_ble_eq_true rfl) hput (fun L hL s' hpe => lr_link (tr_wf h.1 hL).1.1 hd hk (by rw [tr_vw g3.1 hL (of_ib hk) (by omega) (by omega)]) hpe) (fun J' hJ' hh => ?_)
        · rw [z_upk, if_neg (by decide), z_upk, if_neg (by decide), z_upk, if_neg (by decide), z_upk, if_neg (by decide), s6 16 (by decide), g4.2.2.1, f4.2.2.1, e4.2.2.1]
          exact h16
        · rw [hJ, hJ', Option.bind_some]
          have hk4 : tH y J4 (w_ib k) := (s5 _).mpr (Or.inl g7)
          rcases hh with ⟨⟨I', hEN⟩, t3⟩ | ⟨I', ⟨X', F', t1⟩, t2, t3, t4⟩
          · obtain ⟨X9, E9, F9, gn9, gp9, pd9, t9⟩ := hEN.1
            have q := r_getc (n := n) (i := 1) (by omega) (t3 _ hk4) (by omega) (tr_fr t9).2.2.2
            rw [q, Option.bind_some]
            exact ⟨_, rfl, Or.inl ⟨I', hEN⟩⟩
          · have q := r_getc (n := n) (i := 1) (by omega) (t3 _ hk4) (by omega) (tn_c t1).2
            rw [q, Option.bind_some]
            refine ⟨_, rfl, Or.inr ?_⟩
            show vw y J' (w_ib k) 1 = _
            rw [t2 k 1 hk hdk, s4, w_up_at]
      · refine kd_en (I' := I3) (J' := J3) ?_ ?_ g3
        · simp only [gX9_link, bX9_link_0, tn_a h, ha, e1, Option.bind_some, z_10, if_false, tn_a e3, hb, f1, if_true, tn_a f3, hc, g1, z_00]
        · simp only [gX11_tryLink, bX11_tryLink_0, e2, Option.bind_some, z_10, if_false, f2, if_true, g2, z_00]
    · have hm := z_m1n (a := w) (by omega)
      obtain ⟨I3, J3, g1, g2, g3⟩ := tn_fail (n := n) (f := (-6 : Int32)) f3 (by decide)
      refine kd_en (I' := I3) (J' := J3) ?_ ?_ g3
      · simp only [gX9_link, bX9_link_0, tn_a h, ha, e1, Option.bind_some, z_10, if_false, tn_a e3, hb, f1, hm, g1]
      · simp only [gX11_tryLink, bX11_tryLink_0, e2, Option.bind_some, z_10, if_false, f2, hm, g2]
  · refine kd_en (I' := I1) (J' := J1) ?_ ?_ e3
    · simp only [gX9_link, bX9_link_0, tn_a h, ha, e1, Option.bind_some, z_00, if_true]
    · simp only [gX11_tryLink, bX11_tryLink_0, e2, Option.bind_some, z_00, if_true]
end LINK
