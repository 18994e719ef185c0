section KINDS
variable {n y : Nat} {Hd : Nat → Int} {F0 F F' : (Nat → Nat) → wS} {I0 J0 I J : am_I} {X : List Nat} {E : Nat → Prop} {gn : List Nat} {gp gp' pd pd' : Nat → Prop}
theorem sc_entry {d z i : Nat} {V : wS} (hz : z ≤ 384) (hi : i < 192) : scR n d z i V (fun f w c J => bX11_tryEntry_26 n f (nI d) (nI i) (nI z) (nI c) (nI w) J) (fun _ J => gX11_fail n (-3 : Int32) J) (fun x J => some (am_up J 0 60 55 x)) (fun _ J => J) (fun w c _ => c ≤ w / 2) := by
  refine ⟨fun x J => ⟨fun _ _ _ => rfl, fun _ _ => rfl⟩, fun f w c J hw hw2 => ?_, fun f w c J x J' hw hwo hP => ?_, fun w c J J' _ h => h, fun w c x J hw _ _ hP => ?_, fun w c J h => h⟩
  · simp (disch := omega) only [bX11_tryEntry_26, z_le, hw, if_true, z_bs]
  · have hw' : ¬ z ≤ w := by omega
    have hc : c < 2 ^ 31 := by omega
    by_cases hx : x = nI 0
    · have hx0 : x = 0 := hx
      rw [if_neg (fun e => e.1 hx), if_pos hx]
      show bX11_tryEntry_26 n (f + 1) (nI d) (nI i) (nI z) (nI c) (nI w) J = bX11_tryEntry_26 n f (nI d) (nI i) (nI z) (nI c) (nI (w + 2)) J'
      conv => lhs; unfold bX11_tryEntry_26
      simp (disch := omega) only [z_le, hw', if_false, hwo, Option.bind_some, hx0, if_true, bX11_tryEntry_59, bX11_tryEntry_73, nI_add]
    · have hx0 : ¬ x = 0 := hx
      by_cases hci : c = i
      · rw [if_pos ⟨hx, hci⟩]
        subst hci
        show bX11_tryEntry_26 n (f + 1) (nI d) (nI c) (nI z) (nI c) (nI w) J = _
        conv => lhs; unfold bX11_tryEntry_26
        simp (disch := omega) only [z_le, hw', if_false, hwo, Option.bind_some, hx0, if_true, am_lt]
      · rw [if_neg (fun e => hci e.2), if_neg hx]
        show bX11_tryEntry_26 n (f + 1) (nI d) (nI i) (nI z) (nI c) (nI w) J = bX11_tryEntry_26 n f (nI d) (nI i) (nI z) (nI (c + 1)) (nI (w + 2)) J'
        conv => lhs; unfold bX11_tryEntry_26
        simp (disch := omega) only [z_le, hw', if_false, hwo, Option.bind_some, hx0, z_eq, hci, bX11_tryEntry_59, bX11_tryEntry_73, nI_add]
  · show (if x = nI 0 then c else c + 1) ≤ (w + 2) / 2
    split <;> omega
theorem sc_count {d z : Nat} {V : wS} (hz : z ≤ 384) : scR n d z 192 V (fun f w _ J => bX11_tryCount_22 n f (nI d) (nI z) (nI w) J) (fun _ J => some J) (fun _ _ => none) (fun x J => am_up J 0 60 55 (if x = nI 0 then J 0 60 55 else J 0 60 55 + nI 1)) (fun w c J => J 0 60 55 = nI c ∧ c ≤ w / 2) := by
  refine ⟨fun x J => ⟨fun a b q => z_upj _ _ _ _ _ _ _ q, fun k q => (z_upk _ _ _ _ _ _).trans (if_neg q)⟩, fun f w c J hw hw2 => ?_, fun f w c J x J' hw hwo hP => ?_, fun w c J J' e h => by show J' 0 60 55 = nI c ∧ c ≤ w / 2; rw [e]; exact h, fun w c x J hw _ _ hP => ?_, fun w c J h => h.2⟩
  · simp (disch := omega) only [bX11_tryCount_22, z_le, hw, if_true]
  · have hw' : ¬ z ≤ w := by omega
    rw [if_neg (fun e => by have := hP.2; have := e.2; omega)]
    show bX11_tryCount_22 n (f + 1) (nI d) (nI z) (nI w) J = bX11_tryCount_22 n f (nI d) (nI z) (nI (w + 2)) (am_up J' 0 60 55 (if x = nI 0 then J' 0 60 55 else J' 0 60 55 + nI 1))
    conv => lhs; unfold bX11_tryCount_22
    by_cases hx : x = nI 0
    · have hx0 : x = 0 := hx
      rw [if_pos hx]
      simp (disch := omega) only [z_le, hw', if_false, hwo, Option.bind_some, hx0, if_true, bX11_tryCount_50, am_lt, nI_add]
    · have hx0 : ¬ x = 0 := hx
      rw [if_neg hx]
      simp (disch := omega) only [z_le, hw', if_false, hwo, Option.bind_some, hx0, bX11_tryCount_50, am_lt, nI_add]
  · show am_up J 0 60 55 (if x = nI 0 then J 0 60 55 else J 0 60 55 + nI 1) 0 60 55 = nI (if x = nI 0 then c else c + 1) ∧ (if x = nI 0 then c else c + 1) ≤ (w + 2) / 2
    rw [z_upk, if_pos rfl]
    have hP : J 0 60 55 = nI c ∧ c ≤ w / 2 := hP
    by_cases hx : x = nI 0
    · rw [if_pos hx, if_pos hx]
      exact ⟨hP.1, by have := hP.2; omega⟩
    · rw [if_neg hx, if_neg hx, hP.1, nI_add]
      exact ⟨rfl, by have := hP.2; omega⟩
theorem sc_has {d z : Nat} {V : wS} (hz : z ≤ 384) : scR n d z 0 V (fun f w _ J => bX11_hasEntry_9 n f (nI d) (nI z) (nI w) J) (fun _ J => some (nI 0, J)) (fun _ J => some (nI 1, J)) (fun _ J => J) (fun w c J => c = 0 ∧ J 0 60 55 = nI 0 ∧ w % 2 = 0 ∧ ∀ w', w' < w → w' % 2 = 0 → v_nm V d w' = nI 0) := by
  refine ⟨fun x J => ⟨fun _ _ _ => rfl, fun _ _ => rfl⟩, fun f w c J hw hw2 => ?_, fun f w c J x J' hw hwo hP => ?_, fun w c J J' e h => ⟨h.1, by rw [e]; exact h.2.1, h.2.2⟩, fun w c x J hw hxm hn hP => ?_, fun w c J h => by have := h.1; omega⟩
  · simp (disch := omega) only [bX11_hasEntry_9, z_le, hw, if_true]
  · have hw' : ¬ z ≤ w := by omega
    have hP : c = 0 := hP.1
    subst hP
    by_cases hx : x = nI 0
    · have hx0 : x = 0 := hx
      rw [if_neg (fun e => e.1 hx)]
      show bX11_hasEntry_9 n (f + 1) (nI d) (nI z) (nI w) J = bX11_hasEntry_9 n f (nI d) (nI z) (nI (w + 2)) J'
      conv => lhs; unfold bX11_hasEntry_9
      simp (disch := omega) only [z_le, hw', if_false, hwo, Option.bind_some, hx0, if_true, nI_add]
    · have hx0 : ¬ x = 0 := hx
      rw [if_pos ⟨hx, rfl⟩]
      show bX11_hasEntry_9 n (f + 1) (nI d) (nI z) (nI w) J = _
      conv => lhs; unfold bX11_hasEntry_9
      simp (disch := omega) only [z_le, hw', if_false, hwo, Option.bind_some, hx0]
  · have hP2 : c = 0 := hP.1
    subst hP2
    have hx : x = nI 0 := Classical.byContradiction (fun e => hn ⟨e, rfl⟩)
    obtain ⟨-, h1, h2, h3⟩ := hP
    refine ⟨?_, h1, by omega, fun w' h4 h5 => ?_⟩
    · show (if x = nI 0 then 0 else 0 + 1) = 0
      rw [if_pos hx]
    · by_cases e : w' < w
      · exact h3 w' e h5
      · obtain rfl : w' = w := by omega
        rw [← hxm]
        exact hx
/-- the class's scan, on both sides, from its size on -/
theorem tn_scan {ρ : Type} {d i : Nat} {R : Nat → Nat → Nat → Nat → am_I → Option ρ} {Dn : Nat → am_I → Option ρ} {Fd : Int32 → am_I → Option ρ} {U : Int32 → am_I → am_I} {P : Nat → Nat → am_I → Prop} (hR : ∀ z, z ≤ 384 → scR n d z i (vw y J) (R z) Dn Fd U P) (hC : TC n y Hd I0 J0) (h : TN y Hd F0 I0 J0 X E F gn gp pd I J) (hE : ∀ b, ¬ E b) (hd : d < 128) (hH : 0 < Hd d) (hi : i ≤ 192) (hP : ∀ J', J' 0 60 = J 0 60 → P 0 0 J') :
    ∃ z J1, (z ≤ 384 ∧ vw y J (w_ib d) 2 = nI z) ∧ gX11_ofInode n (nI d) (nI 2) J = some (nI z, J1) ∧
    ((∃ x I' J', (¬ x = nI 0 ∧ 2 * i < z) ∧ gX9_nameOf n (nI d) (nI i) I = some (x, I') ∧ R z am_fu 0 0 J1 = Fd x J' ∧ TN y Hd F0 I0 J0 X E F gn gp pd I' J' ∧ RO2 y I J I' J' ∧ tH y J' (w_ib d))
    ∨ (∃ c' w' I' J', gX9_nameOf n (nI d) (nI i) I = some (nI 0, I') ∧ R z am_fu 0 0 J1 = Dn c' J' ∧ TN y Hd F0 I0 J0 X E F gn gp pd I' J' ∧ RO2 y I J I' J' ∧ tH y J' (w_ib d) ∧ I' 0 15 10 = nI c' ∧ P w' c' J' ∧ z ≤ w')) := by
  obtain ⟨I1, J1, z, z1, z2, z3, e1, e2, e3, e4, e5⟩ := tn_size hC h hE hd hH
  have hu : u55 (fun _ J => J) := fun x J => ⟨fun _ _ _ => rfl, fun _ _ => rfl⟩
  obtain ⟨t1, t2⟩ := tn_u hu (nI 0) (nI 0) e3
  refine ⟨z, J1, ⟨z1, z3⟩, e2, ?_⟩
  have hn : gX9_nameOf n (nI d) (nI i) I = bX9_nameOf_14 n am_fu (nI d) (nI i) (nI z) (nI (16 * 0)) (am_up I1 0 15 10 (nI 0)) := by
    rw [gX9_nameOf, bX9_nameOf_0, e1, Option.bind_some]
    rfl
  rcases nm_out (hR z z1) hC hE hd hH z1 hi 24 0 0 0 am_fu am_fu _ J1 (by omega) (fu_lt (by omega)) (fu_lt (by omega)) t1 (by rw [z_upk, if_pos rfl]) (hP J1 e4.2.2.2) (Or.inl rfl) e4.1 with ⟨x, I', J', s0, s1, s2, s3, s4⟩ | ⟨c', w', I', J', s1, s2, s3, s4, s5, s6⟩
  · exact Or.inl ⟨x, I', J', s0, hn.trans s1, s2, s3, (e4.to2.tr t2).tr s4, s4.2.1 _ (t2.2.1 _ e5)⟩
  · exact Or.inr ⟨c', w', I', J', hn.trans s1, s2, s3, (e4.to2.tr t2).tr s4, s4.2.1 _ (t2.2.1 _ e5), s5, s6⟩
theorem k_entry {d i : Nat} (hC : TC n y Hd I0 J0) (h : TN0 y Hd F0 I0 J0 I J) (hd : d < 128) (hi : i < 192) (ha : I0 y 55 1 = nI d) (hb : I0 y 55 2 = nI i) : ∃ I' J', gX9_entry n y I = some I' ∧ gX11_tryEntry n (nI d) (nI i) J = some J' ∧ (EN y Hd F0 I0 J0 I' J' ∨ DN y Hd F0 I0 J0 (nI 1) I' J') := by
  rcases tn_dir (m := 1) hC h (fun _ q => q) hd (Or.inl rfl) with ⟨I1, J1, e1, e2, e3, e4, e5, e6, e7⟩ | ⟨I1, J1, e1, e2, e3⟩
  · obtain ⟨z, J2, z1, e8, ⟨x, I3, J3, s0, s1, s2, s3, s4, s5⟩ | ⟨c', w', I3, J3, s1, s2, s3, s4, s5, s6, s7⟩⟩ := tn_scan (fun z hz => sc_entry (n := n) (d := d) (z := z) (i := i) hz hi) hC e3 (fun _ q => q) hd (by omega) (by omega) (fun _ _ => Nat.zero_le _)
    · have hx0 : ¬ x = (0 : Int32) := s0.1
      refine ⟨_, _, ?_, ?_, Or.inr (tn_done0 (v := x) s3)⟩
      · simp only [gX9_entry, bX9_entry_0, tn_a h, ha, e1, Option.bind_some, z_10, if_false, tn_a e3, hb, s1, hx0, c_fin]
      · rw [gX11_tryEntry, bX11_tryEntry_0, e2, Option.bind_some]
        show (if nI 1 = (0 : Int32) then _ else _) = _
        rw [if_neg (by decide), e8, Option.bind_some]
        exact s2
    · obtain ⟨I4, J4, g1, g2, g3⟩ := tn_fail (n := n) (f := (-3 : Int32)) s3 (by decide)
      refine ⟨I4, J4, ?_, ?_, Or.inl g3⟩
      · simp only [gX9_entry, bX9_entry_0, tn_a h, ha, e1, Option.bind_some, z_10, if_false, tn_a e3, hb, s1, z_00, if_true, g1]
      · rw [gX11_tryEntry, bX11_tryEntry_0, e2, Option.bind_some]
        show (if nI 1 = (0 : Int32) then _ else _) = _
        rw [if_neg (by decide), e8, Option.bind_some]
        exact s2.trans g2.1
  · refine ⟨I1, J1, ?_, ?_, Or.inl e3⟩
    · simp only [gX9_entry, bX9_entry_0, tn_a h, ha, e1, Option.bind_some, z_00, if_true]
    · simp only [gX11_tryEntry, bX11_tryEntry_0, e2, Option.bind_some, z_00, if_true]
theorem k_count {d : Nat} (hC : TC n y Hd I0 J0) (h : TN0 y Hd F0 I0 J0 I J) (hd : d < 128) (ha : I0 y 55 1 = nI d) (h55 : J 0 60 55 = nI 0) : ∃ I' J', gX9_count n y I = some I' ∧ gX11_tryCount n (nI d) J = some J' ∧ (EN y Hd F0 I0 J0 I' J' ∨ DN y Hd F0 I0 J0 (nI 1) I' J') := by
  rcases tn_dir (m := 1) hC h (fun _ q => q) hd (Or.inl rfl) with ⟨I1, J1, e1, e2, e3, e4, e5, e6, e7⟩ | ⟨I1, J1, e1, e2, e3⟩
  · obtain ⟨z, J2, z1, e8, ⟨x, I3, J3, s0, s1, s2, s3, s4, s5⟩ | ⟨c', w', I3, J3, s1, s2, s3, s4, s5, s6, s7⟩⟩ := tn_scan (fun z hz => sc_count (n := n) (d := d) (z := z) hz) hC e3 (fun _ q => q) hd (by omega) (by omega) (fun J' e => ⟨by rw [e, e4.2.2.2]; exact h55, Nat.zero_le _⟩)
    · exact absurd s0.2 (by have := z1.1; omega)
    · have hd2 := tn_done0 (v := nI c') s3
      refine ⟨am_up (am_up I3 0 15 9 (nI 1)) 0 15 10 (nI c'), J3, ?_, ?_, Or.inr ?_⟩
      · simp only [gX9_count, bX9_count_0, bX9_count_32, tn_a h, ha, e1, Option.bind_some, z_10, if_false, tn_a e3, s1, c_fin, s6]
      · rw [gX11_tryCount, bX11_tryCount_0, e2, Option.bind_some]
        show (if nI 1 = (0 : Int32) then _ else _) = _
        rw [if_neg (by decide), e8, Option.bind_some]
        exact s2
      · have e : am_up J3 0 60 55 (nI c') = J3 := by
          funext a b k
          rw [z_up]
          by_cases q : a = 0 ∧ b = 60 ∧ k = 55
          · rw [if_pos q, q.1, q.2.1, q.2.2, s7.1.1]
          · rw [if_neg q]
        rw [e] at hd2
        exact hd2
  · refine ⟨I1, J1, ?_, ?_, Or.inl e3⟩
    · simp only [gX9_count, bX9_count_0, bX9_count_32, tn_a h, ha, e1, Option.bind_some, z_00, if_true]
    · simp only [gX11_tryCount, bX11_tryCount_0, e2, Option.bind_some, z_00, if_true]
end KINDS
