
section CR4
variable {n T e x : Nat} {I J I' J' : am_I} {g : Nat → Nat}
/-- a call that is under way is lost -/
theorem cr_task {I2 J1 J2 : am_I} (hx : x < 4) (hS : TS x I J) (h11 : ¬ J 0 87 x = nI 1 → I x 55 11 = nI 0) (hW : WL I J) (hT : I 0 0 7 = J 0 60 2) (hg : gX11_noteGone n (nI x) J1 = some J2) (oI : ∀ a b, ¬ (a = 0 ∧ (b = 1 ∨ b = 14)) → I2 a b = I a b) (oJ : ∀ a b, ¬ (a = 0 ∧ (b = 64 ∨ b = 125)) → J2 a b = J a b) (hH : ∀ z, z < 4 → (J2 0 64 (16 * (1 + 24 * z) + 2) = nI 0 ∨ J2 0 64 (16 * (1 + 24 * z) + 2) = nI 1)) : ∃ I3 J5, (∀ k : am_I → Option ((Option Int32 ⊕ Nat) × am_I), (if (I2 x 55 5) = (nI 1) then ((gX8_end n x (nI 4) (nI 0) (I2 0 0 7) I2).bind (fun q5 => am_lt (am_up q5 0 0 9 ((q5 0 0 9) + (nI 1))) (fun I6 => k I6))) else (k I2)) = k I3) ∧ bX11_crash_117 n (nI x) J1 = bX11_crash_185 n (nI x) J5
    ∧ (∀ a b, ¬ (a = x ∧ b = 55) → ¬ (a = 0 ∧ b = 0) → I3 a b = I2 a b) ∧ (∀ k, ¬ k = 9 → I3 0 0 k = I2 0 0 k) ∧ (∀ a b, ¬ (a = 0 ∧ (b = 60 ∨ b = 65 ∨ b = 71 ∨ b = 87 ∨ b = 88 ∨ b = 90)) → J5 a b = J2 a b) ∧ (∀ k, ¬ k = 50 → J5 0 60 k = J2 0 60 k) ∧ (∀ k, J5 0 65 k = if k = x then nI 0 else J 0 65 k) ∧ (∀ k, J5 0 71 k = if k = x then nI 0 else J 0 71 k) ∧ (∀ j k, j = 87 ∨ j = 88 ∨ j = 90 → ¬ k = x → J5 0 j k = J 0 j k) ∧ TS x I3 J5 ∧ I3 x 55 11 = nI 0 ∧ ¬ J5 0 87 x = nI 1 ∧ WL I3 J5 := by
  have gx : am_inb (nI x) 4 = true := by rw [z_inb (by omega)]; exact decide_eq_true hx
  have kx : (nI x).toNatClampNeg = x := z_clamp (by omega)
  obtain ⟨s1, s2, s3, s4, s5, s6, s7, v, s8, s9⟩ := hS
  let J4 : am_I := am_up (am_up J2 0 71 x (nI 0)) 0 65 x (nI 0)
  have o4 : ∀ a b, ¬ (a = 0 ∧ (b = 65 ∨ b = 71)) → J4 a b = J2 a b := fun a b q => (z_upj _ _ _ _ _ _ _ (by omega)).trans (z_upj _ _ _ _ _ _ _ (by omega))
  have k65 : ∀ k, J4 0 65 k = if k = x then nI 0 else J 0 65 k := fun k => by
    show am_up (am_up J2 0 71 x (nI 0)) 0 65 x (nI 0) 0 65 k = _
    rw [z_upk, z_upj _ _ _ _ _ _ _ (by omega), oJ 0 65 (by omega)]
  have k71 : ∀ k, J4 0 71 k = if k = x then nI 0 else J 0 71 k := fun k => by
    show am_up (am_up J2 0 71 x (nI 0)) 0 65 x (nI 0) 0 71 k = _
    rw [z_upj _ _ _ _ _ _ _ (by omega), z_upk, oJ 0 71 (by omega)]
  have e87 : J4 0 87 = J 0 87 := (o4 0 87 (by omega)).trans (oJ 0 87 (by omega))
  have i55 : I2 x 55 = I x 55 := oI x 55 (by omega)
  have hgo : bX11_crash_117 n (nI x) J1 = (gX11_isCalling n (nI x) J4).bind (fun q6 => if q6.1 = 0 then (bX11_crash_185 n (nI x) q6.2) else (am_gd (am_inb (nI x) 4) (am_lt (am_up q6.2 0 87 x (nI 4)) (fun I8 => am_gd (am_inb (nI x) 4) (am_lt (am_up I8 0 88 x (nI 0)) (fun I10 => am_gd (am_inb (nI x) 4) (am_gd (am_inb (nI x) 4) (am_lt (am_up I10 0 90 x ((I10 0 60 2) - (I10 0 89 x))) (fun I13 => am_lt (am_up I13 0 60 50 ((I13 0 60 50) + (nI 1))) (fun I14 => bX11_crash_185 n (nI x) I14)))))))))) := by
    unfold bX11_crash_117
    rw [hg, Option.bind_some, am_gd_of gx, am_lt, am_gd_of gx, am_lt, kx]
  by_cases c : J 0 87 x = nI 1
  · have isc : gX11_isCalling n (nI x) J4 = some (nI 1, J4) := by
      rw [gX11_isCalling, bX11_isCalling_0, am_gd_of gx, kx, e87, if_pos c]; rfl
    let J5 : am_I := am_up (am_up (am_up (am_up J4 0 87 x (nI 4)) 0 88 x (nI 0)) 0 90 x (J 0 60 2 - J 0 89 x)) 0 60 50 (J 0 60 50 + nI 1)
    have e60 : J4 0 60 = J 0 60 := (o4 0 60 (by omega)).trans (oJ 0 60 (by omega))
    have e89 : J4 0 89 = J 0 89 := (o4 0 89 (by omega)).trans (oJ 0 89 (by omega))
    have o5 : ∀ a b, ¬ (a = 0 ∧ (b = 60 ∨ b = 87 ∨ b = 88 ∨ b = 90)) → J5 a b = J4 a b := fun a b q => (z_upj _ _ _ _ _ _ _ (by omega)).trans ((z_upj _ _ _ _ _ _ _ (by omega)).trans ((z_upj _ _ _ _ _ _ _ (by omega)).trans (z_upj _ _ _ _ _ _ _ (by omega))))
    have k87 : ∀ k, J5 0 87 k = if k = x then nI 4 else J 0 87 k := fun k => by
      show am_up (am_up (am_up (am_up J4 0 87 x (nI 4)) 0 88 x (nI 0)) 0 90 x (J 0 60 2 - J 0 89 x)) 0 60 50 (J 0 60 50 + nI 1) 0 87 k = _
      rw [z_upj _ _ _ _ _ _ _ (by omega), z_upj _ _ _ _ _ _ _ (by omega), z_upj _ _ _ _ _ _ _ (by omega), z_upk, e87]
    have k88 : ∀ k, ¬ k = x → J5 0 88 k = J 0 88 k := fun k q => by
      show am_up (am_up (am_up (am_up J4 0 87 x (nI 4)) 0 88 x (nI 0)) 0 90 x (J 0 60 2 - J 0 89 x)) 0 60 50 (J 0 60 50 + nI 1) 0 88 k = _
      rw [z_upj _ _ _ _ _ _ _ (by omega), z_upj _ _ _ _ _ _ _ (by omega), z_upk, if_neg q, z_upj _ _ _ _ _ _ _ (by omega), o4 0 88 (by omega), oJ 0 88 (by omega)]
    have k90 : ∀ k, J5 0 90 k = if k = x then J 0 60 2 - J 0 89 x else J 0 90 k := fun k => by
      show am_up (am_up (am_up (am_up J4 0 87 x (nI 4)) 0 88 x (nI 0)) 0 90 x (J 0 60 2 - J 0 89 x)) 0 60 50 (J 0 60 50 + nI 1) 0 90 k = _
      rw [z_upj _ _ _ _ _ _ _ (by omega), z_upk, z_upj _ _ _ _ _ _ _ (by omega), z_upj _ _ _ _ _ _ _ (by omega), o4 0 90 (by omega), oJ 0 90 (by omega)]
    have k60 : ∀ k, J5 0 60 k = if k = 50 then J 0 60 50 + nI 1 else J 0 60 k := fun k => by
      show am_up (am_up (am_up (am_up J4 0 87 x (nI 4)) 0 88 x (nI 0)) 0 90 x (J 0 60 2 - J 0 89 x)) 0 60 50 (J 0 60 50 + nI 1) 0 60 k = _
      rw [z_upk, z_upj _ _ _ _ _ _ _ (by omega), z_upj _ _ _ _ _ _ _ (by omega), z_upj _ _ _ _ _ _ _ (by omega), e60]
    let I3 : am_I := am_up (am_up (am_up (am_up (am_up I2 x 55 5 (nI 4)) x 55 6 (nI 0)) x 55 8 (I2 0 0 7 - I2 x 55 7)) x 55 11 (nI 0)) 0 0 9 (I 0 0 9 + nI 1)
    have oi : ∀ a b, ¬ (a = x ∧ b = 55) → ¬ (a = 0 ∧ b = 0) → I3 a b = I2 a b := fun a b q q' => (z_upj _ _ _ _ _ _ _ q').trans ((z_upj _ _ _ _ _ _ _ q).trans ((z_upj _ _ _ _ _ _ _ q).trans ((z_upj _ _ _ _ _ _ _ q).trans (z_upj _ _ _ _ _ _ _ q))))
    have i00 : ∀ k, I3 0 0 k = if k = 9 then I 0 0 9 + nI 1 else I2 0 0 k := fun k => by
      show am_up (am_up (am_up (am_up (am_up I2 x 55 5 (nI 4)) x 55 6 (nI 0)) x 55 8 (I2 0 0 7 - I2 x 55 7)) x 55 11 (nI 0)) 0 0 9 (I 0 0 9 + nI 1) 0 0 k = _
      rw [z_upk, z_upj _ _ _ _ _ _ _ (by omega), z_upj _ _ _ _ _ _ _ (by omega), z_upj _ _ _ _ _ _ _ (by omega), z_upj _ _ _ _ _ _ _ (by omega)]
    have k55 : ∀ k, I3 x 55 k = if k = 11 then nI 0 else if k = 8 then I 0 0 7 - I x 55 7 else if k = 6 then nI 0 else if k = 5 then nI 4 else I x 55 k := fun k => by
      show am_up (am_up (am_up (am_up (am_up I2 x 55 5 (nI 4)) x 55 6 (nI 0)) x 55 8 (I2 0 0 7 - I2 x 55 7)) x 55 11 (nI 0)) 0 0 9 (I 0 0 9 + nI 1) x 55 k = _
      rw [z_upj _ _ _ _ _ _ _ (by omega), z_upk, z_upk, z_upk, z_upk, i55, oI 0 0 (by omega)]
    refine ⟨I3, J5, fun k => ?_, ?_, oi, fun k q => by rw [i00, if_neg q], fun a b q => (o5 a b (by omega)).trans (o4 a b (by omega)), fun k q => by rw [k60, if_neg q, oJ 0 60 (by omega)], fun k => by rw [o5 0 65 (by omega)]; exact k65 k, fun k => by rw [o5 0 71 (by omega)]; exact k71 k, fun j k hj hk => ?_, ?_, by rw [k55, if_pos rfl], by rw [k87, if_pos rfl]; decide, ?_⟩
    · rw [if_pos (by rw [i55, s2]; exact c)]
      have g8 : gX8_end n x (nI 4) (nI 0) (I2 0 0 7) I2 = some (am_up (am_up (am_up (am_up I2 x 55 5 (nI 4)) x 55 6 (nI 0)) x 55 8 (I2 0 0 7 - I2 x 55 7)) x 55 11 (nI 0)) := by
        simp only [gX8_end, bX8_end_0, am_lt, z_upk, (by decide : ¬ (7 : Nat) = 6), (by decide : ¬ (7 : Nat) = 5), if_false]
      rw [g8, Option.bind_some, am_lt]
      have e9 : am_up (am_up (am_up (am_up I2 x 55 5 (nI 4)) x 55 6 (nI 0)) x 55 8 (I2 0 0 7 - I2 x 55 7)) x 55 11 (nI 0) 0 0 9 = I 0 0 9 := by
        rw [z_upj _ _ _ _ _ _ _ (by omega), z_upj _ _ _ _ _ _ _ (by omega), z_upj _ _ _ _ _ _ _ (by omega), z_upj _ _ _ _ _ _ _ (by omega), oI 0 0 (by omega)]
      rw [e9]
    · rw [hgo, isc, Option.bind_some]
      dsimp only
      rw [if_neg n10, am_gd_of gx, am_lt, am_gd_of gx, am_lt, am_gd_of gx, am_gd_of gx, am_lt, am_lt]
      have q1 : am_up (am_up J4 0 87 x (nI 4)) 0 88 x (nI 0) 0 60 = J 0 60 := by rw [z_upj _ _ _ _ _ _ _ (by omega), z_upj _ _ _ _ _ _ _ (by omega), e60]
      have q2 : am_up (am_up J4 0 87 x (nI 4)) 0 88 x (nI 0) 0 89 = J 0 89 := by rw [z_upj _ _ _ _ _ _ _ (by omega), z_upj _ _ _ _ _ _ _ (by omega), e89]
      rw [q1, q2]
      have q3 : am_up (am_up (am_up J4 0 87 x (nI 4)) 0 88 x (nI 0)) 0 90 x (J 0 60 2 - J 0 89 x) 0 60 = J 0 60 := by rw [z_upj _ _ _ _ _ _ _ (by omega), q1]
      rw [q3]
    · rcases hj with rfl | rfl | rfl
      · rw [k87, if_neg hk]
      · exact k88 k hk
      · rw [k90, if_neg hk]
    · refine ⟨fun c hc => by rw [k55, if_neg (by omega), if_neg (by omega), if_neg (by omega), if_neg (by omega), o5 0 (82 + c) (by omega), o4 0 (82 + c) (by omega), oJ 0 (82 + c) (by omega)]; exact s1 c hc, by rw [k55, if_neg (by omega), if_neg (by omega), if_neg (by omega), if_pos rfl, k87, if_pos rfl], by rw [k55, if_neg (by omega), if_neg (by omega), if_neg (by omega), if_neg (by omega), o5 0 89 (by omega), e89]; exact s3, by rw [k55, if_neg (by omega), if_pos rfl, k90, if_pos rfl, hT, s3], by rw [k55, if_neg (by omega), if_neg (by omega), if_neg (by omega), if_neg (by omega), o5 0 91 (by omega), o4 0 91 (by omega), oJ 0 91 (by omega)]; exact s5, by rw [k55, if_neg (by omega), if_neg (by omega), if_neg (by omega), if_neg (by omega), o5 0 92 (by omega), o4 0 92 (by omega), oJ 0 92 (by omega)]; exact s6, ?_, 4, by omega, by rw [k87, if_pos rfl]⟩
      rw [k55, if_neg (by omega), if_neg (by omega), if_pos rfl, k87, if_pos rfl, if_neg (by decide)]
    · unfold WL at hW ⊢
      rw [i00, if_neg (by omega), i00, if_pos rfl, k60, if_neg (by omega), k60, if_pos rfl, oI 0 0 (by omega), hW.1, hW.2.1, o5 0 64 (by omega), o4 0 64 (by omega)]
      exact ⟨rfl, rfl, hH⟩
  · have isc : gX11_isCalling n (nI x) J4 = some (nI 0, J4) := by
      rw [gX11_isCalling, bX11_isCalling_0, am_gd_of gx, kx, e87, if_neg c]; rfl
    refine ⟨I2, J4, fun k => by rw [if_neg (by rw [i55, s2]; exact c)], ?_, fun _ _ _ _ => rfl, fun _ _ => rfl, fun a b q => o4 a b (by omega), fun k _ => by rw [o4 0 60 (by omega)], k65, k71, fun j k hj hk => by rw [o4 0 j (by omega), oJ 0 j (by omega)], ?_, by rw [i55]; exact h11 c, by rw [e87]; exact c, ?_⟩
    · rw [hgo, isc, Option.bind_some]
      dsimp only
      rw [if_pos n00]
    · have oj : ∀ j, (82 ≤ j ∧ j ≤ 92) → J4 0 j = J 0 j := fun j q => (o4 0 j (by omega)).trans (oJ 0 j (by omega))
      unfold TS
      rw [i55, oj 87 (by omega), oj 88 (by omega), oj 89 (by omega), oj 90 (by omega), oj 91 (by omega), oj 92 (by omega)]
      exact ⟨fun c hc => by rw [oj (82 + c) (by omega)]; exact s1 c hc, s2, s3, s4, s5, s6, s7, v, s8, s9⟩
    · unfold WL at hW ⊢
      rw [oI 0 0 (by omega), o4 0 60 (by omega), oJ 0 60 (by omega), o4 0 64 (by omega)]
      exact ⟨hW.1, hW.2.1, hH⟩
end CR4
