
section DOWN
variable {n sz y r : Nat} {lg fb jl : Nat → List Nat} {K K' : Nat → Nat → Int} {I J I' J' : am_I} {L : Nat → Nat}
/-- a cached block has the store's words -/
theorem ch_w {b : Nat} (h : CTI n sz lg fb jl K I J) (hy : y < n) (hU : J 0 65 y = nI 1) (hL : L y = 2) (hb : tH y J b) (ho : w_of (sST n lg fb jl I J L) b r) : 0 < K y r ∧ ∀ i, i < 16 → J 0 67 (16 * (640 * y + b) + i) = sST n lg fb jl I J L b i := by
  obtain ⟨d1, d2⟩ := h.2.2.2.1 y hy hU L hL
  obtain ⟨r', s1, s2, s3⟩ := d2 b hb
  have e : r' = r := of_eq (h.1 L).1 s1 ho
  rw [e] at s2
  refine ⟨s2, fun i hi => ?_⟩
  have := d1 b r ho s2 i hi
  exact (tv_c hb).symm.trans this
theorem ptr_of (h : CTI n sz lg fb jl K I J) (hy : y < n) (hU : J 0 65 y = nI 1) : PTR y r J := fun hr hc => by
  have hL : (fun _ => 2 : Nat → Nat) y = 2 := rfl
  have hi := ch_w (L := fun _ => 2) (r := r) h hy hU hL ⟨w_ib_lt hr, hc⟩ (of_ib hr)
  have hA := (h.1 (fun _ => 2)).1.1.1
  have hB := (h.1 (fun _ => 2)).1.1.2.1
  refine ⟨fun j hj => ?_, fun b hD hb hcb => ?_⟩
  · rw [hi.2 (3 + j) (by omega)]
    by_cases e : j < 8
    · have := hA r j hr (by omega)
      unfold w_pl at this
      rw [if_pos e] at this
      exact this
    · have := hA r 24 hr (by decide)
      unfold w_pl at this
      rw [if_neg (by decide), if_pos rfl] at this
      rw [show 3 + j = 11 from by omega]
      exact this
  · rw [hi.2 11 (by decide)] at hb
    have ho : w_own (sST n lg fb jl I J (fun _ => 2)) r 24 b := ⟨hr, by decide, hD, by
      unfold w_pl
      rw [if_neg (by decide), if_pos rfl]
      exact hb⟩
    have hx := ch_w (L := fun _ => 2) (r := r) h hy hU hL ⟨w_D_lt hD, hcb⟩ (of_own ho)
    refine ⟨fun j hj => ?_, fun j hj q => ?_⟩
    · rw [hx.2 j hj]
      have := hA r (8 + j) hr (by omega)
      unfold w_pl at this
      have hn0 : ¬ sF (yY lg fb jl) (wW (cC J) (fwI I) (dD J) fb jl) (dD J) (fun _ => 2) n (w_ib r) 11 = nI 0 := fun e => by
        have h0 := w_nI (a := b) (b := 0) (by have := w_D_lt hD; omega) (by decide) (hb.symm.trans e)
        have := hD.1
        omega
      have hb' : sF (yY lg fb jl) (wW (cC J) (fwI I) (dD J) fb jl) (dD J) (fun _ => 2) n (w_ib r) 11 = nI b := hb
      rw [if_neg (by omega), if_neg (by omega), if_neg hn0, hb', nI_clamp (w_Dlt hD), Nat.add_sub_cancel_left] at this
      exact this
    · rw [hi.2 (3 + j) (by omega)] at q
      have ho2 : w_own (sST n lg fb jl I J (fun _ => 2)) r j b := ⟨hr, by omega, hD, by
        unfold w_pl
        rw [if_pos hj]
        exact q⟩
      have := (hB r j r 24 b ho2 ho).2
      omega
/-- what leaves with a resource is what belongs to it -/
theorem dr_of {b : Nat} (h : CTI n sz lg fb jl K I J) (hy : y < n) (hU : J 0 65 y = nI 1) (hr : r < 136) (hL : L y = 2) (hb : tH y J b) : (if r < 128 then fgt y r J b else b = w_mp (r - 128)) ↔ w_of (sST n lg fb jl I J L) b r := by
  have hA := (h.1 L).1.1.1
  obtain ⟨r0, s1, s2, s3⟩ := (h.2.2.2.1 y hy hU L hL).2 b hb
  have hb128 := of_pos s1
  have hbl := of_lt s1
  have hpt : ∀ v : Int32, w_pt v → v = nI b → w_D b := fun v hv e => by
    rcases hv with q | ⟨c, q1, q2⟩
    · have := w_nI (a := b) (b := 0) (by omega) (by decide) (e.symm.trans q); omega
    · have := w_nI (a := b) (b := c) (by omega) (by have := w_D_lt q2; omega) (e.symm.trans q1)
      rw [this]; exact q2
  by_cases hr2 : r < 128
  · rw [if_pos hr2]
    constructor
    · rintro ⟨c1, c2⟩
      have hi := ch_w (r := r) h hy hU hL ⟨w_ib_lt hr2, c1⟩ (of_ib hr2)
      rcases c2 with e | ⟨j, j1, j2⟩ | e | ⟨c, j, k1, k2, k3, k4, k5, k6⟩
      · rw [e]; exact of_ib hr2
      · rw [hi.2 (3 + j) (by omega)] at j2
        have hp : w_pl (sST n lg fb jl I J L) r j = nI b := by
          unfold w_pl
          rw [if_pos j1]; exact j2
        exact of_own (p := j) ⟨hr2, by omega, hpt _ (hA r j hr2 (by omega)) hp, hp⟩
      · rw [hi.2 11 (by decide)] at e
        have hp : w_pl (sST n lg fb jl I J L) r 24 = nI b := by
          unfold w_pl
          rw [if_neg (by decide), if_pos rfl]; exact e
        exact of_own (p := 24) ⟨hr2, by decide, hpt _ (hA r 24 hr2 (by decide)) hp, hp⟩
      · rw [hi.2 11 (by decide)] at k2
        have hn0 : ¬ sST n lg fb jl I J L (w_ib r) 11 = nI 0 := fun q => k3 (w_nI (b := 0) (by omega) (by decide) (k2.symm.trans q))
        obtain ⟨x, x1, x2, x3⟩ := w_ix hA hr2 hn0
        have hcx : c = x := w_nI (by omega) (by have := w_Dlt x2; omega) (k2.symm.trans x1)
        rw [hcx] at k4 k6
        have hx := ch_w (r := r) h hy hU hL ⟨w_D_lt x2, k4⟩ (of_own x3)
        rw [hx.2 j k5] at k6
        have hp : w_pl (sST n lg fb jl I J L) r (8 + j) = nI b := by
          unfold w_pl
          have x1' : sST n lg fb jl I J L (w_ib r) 11 = nI x := x1
          rw [if_neg (by omega), if_neg (by omega), if_neg hn0, x1', nI_clamp (w_Dlt x2), Nat.add_sub_cancel_left]
          exact k6
        exact of_own (p := 8 + j) ⟨hr2, by omega, hpt _ (hA r (8 + j) hr2 (by omega)) hp, hp⟩
    · intro ho
      have e : r0 = r := of_eq (h.1 L).1 s1 ho
      rw [e] at s3
      rcases ho with ⟨-, e⟩ | ⟨p, hp⟩ | ⟨g, -, e, -⟩
      · rw [e] at hb ⊢
        exact ⟨hb.2, Or.inl rfl⟩
      · obtain ⟨u1, u2⟩ := s3 p hp
        have hi := ch_w (r := r) h hy hU hL u1 (of_ib hr2)
        refine ⟨u1.2, Or.inr ?_⟩
        have hpl := hp.2.2.2
        by_cases p8 : p < 8
        · left
          refine ⟨p, p8, ?_⟩
          unfold w_pl at hpl
          rw [if_pos p8] at hpl
          rw [hi.2 (3 + p) (by omega)]
          exact hpl
        · right
          by_cases p24 : p = 24
          · left
            unfold w_pl at hpl
            rw [if_neg p8, if_pos p24] at hpl
            rw [hi.2 11 (by decide)]
            exact hpl
          · right
            have hp25 := hp.2.1
            obtain ⟨x, x1, x2, x3⟩ := ix_of hA hp (by omega) (by omega)
            have hxc := u2 (by omega) (by omega)
            rw [x1, nI_clamp (w_Dlt x2)] at hxc
            have hx := ch_w (r := r) h hy hU hL hxc (of_own x3)
            have x1' : sST n lg fb jl I J L (w_ib r) 11 = nI x := x1
            have hn0 : ¬ sST n lg fb jl I J L (w_ib r) 11 = nI 0 := fun q => by
              have h0 := w_nI (a := x) (b := 0) (by have := w_D_lt x2; omega) (by decide) (x1.symm.trans q)
              have := x2.1
              omega
            refine ⟨x, p - 8, w_D_lt x2, by rw [hi.2 11 (by decide)]; exact x1, fun q => by have := x2.1; omega, hxc.2, by omega, ?_⟩
            unfold w_pl at hpl
            rw [if_neg p8, if_neg p24, if_neg hn0, x1', nI_clamp (w_Dlt x2)] at hpl
            rw [hx.2 (p - 8) (by omega)]
            exact hpl
      · omega
  · rw [if_neg hr2]
    constructor
    · intro e
      obtain ⟨g, rfl⟩ : ∃ g, r = 128 + g := ⟨r - 128, by omega⟩
      rw [Nat.add_sub_cancel_left] at e
      rw [e]
      exact of_mp (by omega)
    · rintro (⟨e, -⟩ | ⟨p, hp⟩ | ⟨g, g1, g2, g3⟩)
      · exact absurd e hr2
      · exact absurd hp.1 hr2
      · rw [g3, g2, Nat.add_sub_cancel_left]
end DOWN
