
def zc (V : wS) (g d m : Nat) : Nat := v_sum (fun j => if vb V g (d + j) = true then 0 else 1) m
theorem zc_s (V : wS) (g d m : Nat) : zc V g d (m + 1) = (if vb V g d = true then 0 else 1) + zc V g (d + 1) m := by
  unfold zc
  rw [Nat.add_comm m 1, v_sum_add]
  show (0 + (if vb V g (d + 0) = true then 0 else 1)) + _ = _
  rw [Nat.zero_add, Nat.add_zero]
  refine congrArg _ (v_sum_cg m (fun i _ => ?_))
  rw [Nat.add_assoc]
theorem v_co (b : Nat → Bool) : ∀ m, v_sum (fun i => if b i = true then 0 else 1) m + v_sum (fun i => if b i = true then 1 else 0) m = m
  | 0 => rfl
  | m + 1 => by
    have := v_co b m
    rw [v_sum, v_sum]
    cases b m
    · show _ + 1 + (_ + 0) = _
      omega
    · show _ + 0 + (_ + 1) = _
      omega
theorem zc_47 (V : wS) (g : Nat) : zc V g 0 47 + (v_ones (V (w_mp g) 1) 32 + v_ones (V (w_mp g) 2) 15) = 47 := by
  unfold zc v_ones
  show v_sum (fun j => if vb V g (0 + j) = true then 0 else 1) (32 + 15) + _ = _
  rw [v_sum_add]
  have h1 : v_sum (fun j => if vb V g (0 + j) = true then 0 else 1) 32 = v_sum (fun i => if bt (V (w_mp g) 1) i = true then 0 else 1) 32 := v_sum_cg 32 (fun i hi => by
    show (if vb V g (0 + i) = true then 0 else 1) = _
    unfold vb
    rw [Nat.zero_add, show i / 32 = 0 from by omega, show i % 32 = i from by omega])
  have h2 : v_sum (fun i => if vb V g (0 + (32 + i)) = true then 0 else 1) 15 = v_sum (fun i => if bt (V (w_mp g) 2) i = true then 0 else 1) 15 := v_sum_cg 15 (fun i hi => by
    show (if vb V g (0 + (32 + i)) = true then 0 else 1) = _
    unfold vb
    rw [Nat.zero_add, show (32 + i) / 32 = 1 from by omega, show (32 + i) % 32 = i from by omega])
  rw [h1, h2]
  have a := v_co (fun i => bt (V (w_mp g) 1) i) 32
  have b := v_co (fun i => bt (V (w_mp g) 2) i) 15
  omega
theorem up_up {J : am_I} {i j k : Nat} {v v' : Int32} : am_up (am_up J i j k v) i j k v' = am_up J i j k v' := by
  funext a b c
  rw [z_up, z_up, z_up]
  by_cases q : a = i ∧ b = j ∧ c = k
  · rw [if_pos q, if_pos q]
  · rw [if_neg q, if_neg q, if_neg q]
section ROOM
variable {n y : Nat} {Hd : Nat → Int} {F0 F F' : (Nat → Nat) → wS} {I0 J0 I J : am_I} {X : List Nat} {E : Nat → Prop} {gn : List Nat} {gp gp' pd pd' : Nat → Prop}
theorem vw_55 {v : Int32} : vw y (am_up J 0 60 55 v) = vw y J := vw_eq (fun c j _ _ => by unfold t_v; simp (disch := omega) only [z_upj])
theorem tH_55 {v : Int32} {c : Nat} : tH y (am_up J 0 60 55 v) c ↔ tH y J c := by
  unfold tH
  simp (disch := omega) only [z_upj]
theorem rr_scan {k2 : Int32 → am_I → Option am_I} {g : Nat} (hy : y < 4) (h51 : J 0 60 51 = nI y) (hg : g < 8) (hb : tH y J (w_mp g)) : ∀ (m d c fu : Nat), d + m = 47 → m < fu → bX11_tryRoom_24 n k2 fu (nI g) (nI d) (am_up J 0 60 55 (nI c)) = k2 (nI (g + 1)) (am_up J 0 60 55 (nI (c + zc (vw y J) g d m))) := by
  intro m
  induction m with
  | zero =>
    intro d c fu hd hf
    obtain ⟨fu, rfl⟩ : ∃ f, fu = f + 1 := ⟨fu - 1, by omega⟩
    obtain rfl : d = 47 := by omega
    conv => lhs; unfold bX11_tryRoom_24
    simp (disch := omega) only [z_le, Nat.le_refl, if_true, nI_add]
    rfl
  | succ m ih =>
    intro d c fu hd hf
    obtain ⟨fu, rfl⟩ : ∃ f, fu = f + 1 := ⟨fu - 1, by omega⟩
    have hle : ¬ 47 ≤ d := by omega
    have hm : d - d / 32 * 32 = d % 32 := by omega
    have q := r_getc (n := n) (y := y) (J := am_up J 0 60 55 (nI c)) (b := w_mp g) (i := 1 + d / 32) hy (tH_55.mpr hb) (by omega) (by rw [z_upk, if_neg (by decide)]; exact h51)
    rw [vw_55] at q
    have h55 : am_up J 0 60 55 (nI c) 0 60 55 = nI c := by rw [z_upk, if_pos rfl]
    have hb0 := z_bit0 (m := d % 32) (vw y J (w_mp g) (1 + d / 32)) (by omega)
    rw [zc_s]
    conv => lhs; unfold bX11_tryRoom_24
    simp (disch := omega) only [z_le, hle, if_false, a_mp, Option.bind_some, pk_div, nI_add, q, pk_mul, pk_sub, hm]
    by_cases e : bt (vw y J (w_mp g) (1 + d / 32)) (d % 32) = false
    · have ev : vb (vw y J) g d = false := e
      rw [if_pos (hb0.mpr e), ev, if_neg (by decide)]
      show am_lt (am_up (am_up J 0 60 55 (nI c)) 0 60 55 (am_up J 0 60 55 (nI c) 0 60 55 + nI 1)) (fun I1 => bX11_tryRoom_24 n k2 fu (nI g) (nI d + nI 1) I1) = _
      rw [am_lt, up_up, h55, nI_add, nI_add, ih (d + 1) (c + 1) fu (by omega) (by omega)]
      rw [Nat.add_assoc]
    · have ev : vb (vw y J) g d = true := by
        have e2 : vb (vw y J) g d = bt (vw y J (w_mp g) (1 + d / 32)) (d % 32) := rfl
        rw [e2]
        revert e
        cases bt (vw y J (w_mp g) (1 + d / 32)) (d % 32) <;> simp
      rw [if_neg (fun h => e (hb0.mp h)), ev, if_pos rfl, Nat.zero_add]
      show am_lt (am_up (am_up J 0 60 55 (nI c)) 0 60 55 (am_up J 0 60 55 (nI c) 0 60 55)) (fun I1 => bX11_tryRoom_24 n k2 fu (nI g) (nI d + nI 1) I1) = _
      rw [am_lt, up_up, h55, nI_add, ih (d + 1) c fu (by omega) (by omega)]
theorem rr_first {k2 : Int32 → am_I → Option am_I} {v : Int32} {g : Nat} {J1 : am_I} (fu : Nat) (g1 : gX11_get n (nI (w_mp g)) (nI 1) J = some (v, J1)) (q : gX11_get n (nI (w_mp g)) (nI 1) J1 = some (v, J1)) : bX11_tryRoom_24 n k2 (fu + 1) (nI g) (nI 0) J = bX11_tryRoom_24 n k2 (fu + 1) (nI g) (nI 0) J1 := by
  conv => lhs; unfold bX11_tryRoom_24
  conv => rhs; unfold bX11_tryRoom_24
  simp (disch := omega) only [z_le, (by decide : ¬ 47 ≤ 0), if_false, a_mp, Option.bind_some, pk_div, nI_add, (by decide : 1 + 0 / 32 = 1), g1, q]
theorem rm_lp (hC : TC n y Hd I0 J0) : ∀ (m g c fu fur : Nat) (I J : am_I), g + m = 8 → m < fu → m < fur → c ≤ 47 * g → J 0 60 55 = nI c → TN0 y Hd F0 I0 J0 I J → ∃ I' J', bX9_room_4 n fu (nI c) (nI g) I = some I' ∧ bX11_tryRoom_2 n fur (nI g) J = some J' ∧ (EN y Hd F0 I0 J0 I' J' ∨ DN y Hd F0 I0 J0 (nI 1) I' J') := by
  have hn4 := hC.2.1
  have hyn := hC.1
  obtain ⟨f, hf, hfb⟩ := fu_ex
  intro m
  induction m with
  | zero =>
    intro g c fu fur I J hg hfu hfur hc h55 h
    obtain ⟨fu, rfl⟩ : ∃ f, fu = f + 1 := ⟨fu - 1, by omega⟩
    obtain ⟨fur, rfl⟩ : ∃ f, fur = f + 1 := ⟨fur - 1, by omega⟩
    obtain rfl : g = 8 := by omega
    have hd := tn_done0 (v := nI c) h
    have e : am_up J 0 60 55 (nI c) = J := by
      conv => lhs; rw [← h55, up_same]
    rw [e] at hd
    refine ⟨_, _, ?_, ?_, Or.inr hd⟩
    · conv => lhs; unfold bX9_room_4
      simp (disch := omega) only [z_le, Nat.le_refl, if_true, c_fin, Option.bind_some]
    · conv => lhs; unfold bX11_tryRoom_2
      simp (disch := omega) only [z_le, Nat.le_refl, if_true]
  | succ m ih =>
    intro g c fu fur I J hg hfu hfur hc h55 h
    obtain ⟨fu, rfl⟩ : ∃ f, fu = f + 1 := ⟨fu - 1, by omega⟩
    obtain ⟨fur, rfl⟩ : ∃ f, fur = f + 1 := ⟨fur - 1, by omega⟩
    have hle : ¬ 8 ≤ g := by omega
    have hg8 : g < 8 := by omega
    have cI : bX9_room_4 n (fu + 1) (nI c) (nI g) I = (gX9_meet n (nI (128 + g)) (nI 1) I).bind (fun q3 => if q3.1 = 0 then (some q3.2) else ((gX9_read n (nI (w_mp g)) (nI 1) q3.2).bind (fun q5 => (gX9_read n (nI (w_mp g)) (nI 2) q5.2).bind (fun q8 => bX9_room_4 n fu (nI c + (((nI 47) - nI (v_ones q5.1 32)) - nI (v_ones (q8.1 &&& nI 32767) 32))) (nI (g + 1)) q8.2)))) := by
      conv => lhs; unfold bX9_room_4
      simp (disch := omega) only [z_le, hle, if_false, gX10_mapResource, bX10_mapResource_0, nI_add, Option.bind_some, c_mp, z_bc]
    have cJ : bX11_tryRoom_2 n (fur + 1) (nI g) J = (gX11_meets n (nI (128 + g)) (nI 1) J).bind (fun q1 => if q1.1 = 0 then (some q1.2) else (bX11_tryRoom_24 n (bX11_tryRoom_2 n fur) am_fu (nI g) (nI 0) q1.2)) := by
      conv => lhs; unfold bX11_tryRoom_2
      simp (disch := omega) only [z_le, hle, if_false, nI_add]
    rw [cI, cJ]
    rcases tn_meet (r := 128 + g) (m := 1) hC h (by omega) (Or.inl rfl) with ⟨hH, e1, e2⟩ | ⟨I1, J1, e1, e2, e3⟩
    · rw [e1, e2, Option.bind_some, Option.bind_some]
      obtain ⟨I1, J1, f1, f2, f3, f4, f5⟩ := tn_rdv (i := 1) hC h (w_mp_lt hg8) (by decide) (fun q => q) (Or.inr (Or.inr (Or.inl ⟨g, hg8, rfl, by omega⟩)))
      have q1 := c_readc (n := n) (i := 2) hC f3 f5 (fun q => q) (by omega)
      have q2 := r_getc (n := n) (i := 1) (by omega) f5 (by omega) (tn_c f3).2
      rw [f4.1] at q1 q2
      have dJ := rr_first (n := n) (k2 := bX11_tryRoom_2 n fur) f f2 q2
      rw [← hf] at dJ
      have h551 : J1 0 60 55 = nI c := by rw [f4.2.2.2]; exact h55
      have eJ : am_up J1 0 60 55 (nI c) = J1 := by
        conv => lhs; rw [← h551, up_same]
      have rs := rr_scan (n := n) (k2 := bX11_tryRoom_2 n fur) (J := J1) (by omega) (tn_c f3).2 hg8 f5 47 0 c am_fu (by omega) (fu_lt (by omega))
      rw [eJ, f4.1] at rs
      have z47 := zc_47 (vw y J) g
      show ∃ I' J', (if nI 1 = (0 : Int32) then _ else ((gX9_read n (nI (w_mp g)) (nI 1) I).bind _)) = some I' ∧ (if nI 1 = (0 : Int32) then _ else (bX11_tryRoom_24 n (bX11_tryRoom_2 n fur) am_fu (nI g) (nI 0) J)) = some J' ∧ _
      rw [if_neg (by decide), if_neg (by decide), f1, Option.bind_some, dJ, rs]
      show ∃ I' J', ((gX9_read n (nI (w_mp g)) (nI 2) I1).bind _) = some I' ∧ _
      rw [q1, Option.bind_some]
      show ∃ I' J', bX9_room_4 n fu (nI c + (((nI 47) - nI (v_ones (vw y J (w_mp g) 1) 32)) - nI (v_ones (vw y J (w_mp g) 2 &&& nI 32767) 32))) (nI (g + 1)) I1 = some I' ∧ _
      rw [ones_15, pk_sub (by omega), pk_sub (by omega), nI_add, show 47 - v_ones (vw y J (w_mp g) 1) 32 - v_ones (vw y J (w_mp g) 2) 15 = zc (vw y J) g 0 47 from by omega]
      have hu : u55 (fun x J => am_up J 0 60 55 x) := fun x J => ⟨fun a b q => z_upj _ _ _ _ _ _ _ q, fun k q => (z_upk _ _ _ _ _ _).trans (if_neg q)⟩
      exact ih (g + 1) (c + zc (vw y J) g 0 47) fu fur I1 _ (by omega) (by omega) (by omega) (by omega) (by rw [z_upk, if_pos rfl]) (tn_u0 hu (nI (c + zc (vw y J) g 0 47)) f3).1
    · rw [e1, e2.1, Option.bind_some, Option.bind_some]
      exact ⟨I1, J1, if_pos rfl, if_pos rfl, Or.inl e3⟩
theorem k_room (hC : TC n y Hd I0 J0) (h : TN0 y Hd F0 I0 J0 I J) (h55 : J 0 60 55 = nI 0) : ∃ I' J', gX9_room n I = some I' ∧ gX11_tryRoom n J = some J' ∧ (EN y Hd F0 I0 J0 I' J' ∨ DN y Hd F0 I0 J0 (nI 1) I' J') := by
  rw [gX9_room, bX9_room_0, gX11_tryRoom, bX11_tryRoom_0]
  exact rm_lp hC 8 0 0 am_fu am_fu I J (by omega) (fu_lt (by omega)) (fu_lt (by omega)) (by omega) h55 h
end ROOM
