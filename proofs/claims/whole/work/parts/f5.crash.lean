
section CR5
variable {n T e x : Nat} {I J I' J' : am_I} {g : Nat → Nat}
theorem cnt_0 {f : Nat → Int32} : ∀ k, (∀ b, b < k → f b = nI 0) → cnt f k = 0
  | 0, _ => rfl
  | k + 1, h => by
    show cnt f k + _ = 0
    rw [cnt_0 k (fun b hb => h b (by omega)), h k (by omega)]
    rfl
theorem cs_mono {J J' : am_I} : ∀ k, (∀ z, z < k → cal J' z ≤ cal J z) → cs k J' ≤ cs k J
  | 0, _ => Nat.le_refl _
  | k + 1, h => by
    have := cs_mono k (fun z hz => h z (by omega))
    have := h k (by omega)
    show cs k J' + cal J' k ≤ cs k J + cal J k
    omega
/-- A NODE CRASHES, all of both sides -/
theorem gs_crash {t : Nat} (hx : x < n) (ht : t < 16) (hG : GS n T e g I J) (h01 : g 0 = g 1) (hU : J 0 65 x = nI 1) : ∃ I' J' g', (gX10_tear n x (nI t) I).bind (fun q3 => (gX0_lose n (nI x) q3).bind (fun q4 => if (q4 x 55 5) = (nI 1) then ((gX8_end n x (nI 4) (nI 0) (q4 0 0 7) q4).bind (fun q5 => am_lt (am_up q5 0 0 9 ((q5 0 0 9) + (nI 1))) (fun I6 => bX10_crash_100 n (nI x) x I6))) else (bX10_crash_100 n (nI x) x q4))) = some (.inl none, I')
    ∧ am_gd (am_inb (nI x) 4) (if (J 0 72 x) ≤ 0 then (bX11_crash_117 n (nI x) J) else (am_gd (am_inb (nI x) 4) (am_gd (am_inb (((nI 36) * (nI x)) + (J 0 73 x)) 144) ((gX11_putWords n (J 0 74 ((((nI 36) * (nI x)) + (J 0 73 x)).toNatClampNeg)) ((nI 16) * (((nI 36) * (nI x)) + (J 0 73 x))) (nI t) J).bind (fun q5 => (gX11_isCounting n (nI x) q5).bind (fun q6 => if q6.1 = 0 then (bX11_crash_117 n (nI x) q6.2) else (if (nI t) ≤ (nI 2) then (bX11_crash_117 n (nI x) q6.2) else ((gX11_noteSafe n (nI x) q6.2).bind (fun q7 => bX11_crash_117 n (nI x) q7))))))))) = some J'
    ∧ GS n T e g' I' J' ∧ g' 0 = g' 1 ∧ cs n J' ≤ cs n J ∧ J' 0 60 0 = J 0 60 0 := by
  obtain ⟨rw, gv, cl, A, jl, ⟨ms, H, B, K, lg, fb, fq, mk, h⟩, rfl, hns, hW⟩ := hG
  have hn := h.1.2
  have hx4 : x < 4 := by omega
  obtain ⟨f, hf, hf1⟩ := fu_ex
  have hML := h.2.1
  have hdu := h.2.2.2.2.2.2.2.2.2.2.2.2
  have hlen := pl_len h.2.2.2.2.2.2.1 hn
  have e0 : due T ms = [] := List.eq_nil_of_length_eq_zero (by have := hdu.2.1; omega)
  have hall : ∀ a, a ∈ ms → T < a 5 := fun a ha => by
    have := (List.filter_eq_nil_iff.mp e0) a ha
    rw [decide_eq_true_eq] at this
    omega
  have elat : lat T ms = ms := List.filter_eq_self.mpr (fun a ha => decide_eq_true (hall a ha))
  have elat' : lat T (ms.filter (kp x)) = ms.filter (kp x) := List.filter_eq_self.mpr (fun a ha => decide_eq_true (hall a (List.mem_filter.mp ha).1))
  have hC0 := hML.1
  rw [elat] at hC0
  obtain ⟨c1, c2, c3, c4, c5, c6⟩ := h.2.2.2.2.1 x hx
  obtain ⟨hPx, hSx, hstx⟩ := hns x hx
  obtain ⟨I2, J1, J2, t1, t2, t3, t4, t5, t6, t7, t8, t9⟩ := p_tear hx ht h
  obtain ⟨I3, J5, u1, u2, u3, u4, u5, u6, u7, u8, u9, u10, u11, u12, u13⟩ := cr_task (n := n) hx4 hSx (fun q => by
    rcases hstx with w | w
    · exact absurd w.1 q
    · exact w.2.1) hW (by rw [hML.2.2.2.1, hML.2.2.2.2.1]) t3 t6 t7 (by
    rcases t9 with ⟨-, q2⟩ | ⟨-, q2⟩
    · rw [q2]; exact hW.2.2
    · exact hd_wr (many := t) hx4 (fun b hb => ((h.2.2.2.2.2.2.2.2.2.2.1 x hx).1.2.2 b hb).1) c3.2.2.2.2.2.2.2.1 q2 hW.2.2)
  obtain ⟨I4, d1, d2, d3, d4, d5, d6, d7, d8, d9, d10, d11⟩ := c_dark (n := n) (x := x) (I := I3)
  obtain ⟨J6, r1, r2, r3, r4, r5, r6, r7⟩ := r_none (n := n) (x := x) (J := J5) hx4
  -- the class forgets messages
  have i4 : ∀ a b, ¬ (a = x ∧ 40 ≤ b) → ¬ (a = 0 ∧ (b = 0 ∨ b = 1 ∨ b = 14)) → I4 a b = I a b := fun a b q1 q2 => by rw [d11 a b (by omega), u3 a b (by omega) (by omega), t6 a b (by omega)]
  have j6 : ∀ a b, ¬ (a = 0 ∧ (b = 60 ∨ b = 64 ∨ b = 65 ∨ (68 ≤ b ∧ b ≤ 73) ∨ (76 ≤ b ∧ b ≤ 80) ∨ b = 87 ∨ b = 88 ∨ b = 90 ∨ b = 93 ∨ b = 125)) → J6 a b = J a b := fun a b q => by rw [r7 a b (by omega), u5 a b (by omega), t7 a b (by omega)]
  have j66 : ∀ k, ¬ k = 50 → J6 0 60 k = J 0 60 k := fun k q => by rw [r7 0 60 (by omega), u6 k q, t7 0 60 (by omega)]
  obtain ⟨I5, f1, f2, f3, f4, f5⟩ := fgm_lp (n := n) (x := x) hx4 ms [] 0 am_fu I4 (by rw [hf]; omega) (Nat.le_refl _) (by omega) (by rw [i4 0 9 (by omega) (by omega), Nat.zero_add]; exact hC0.1) (fun k m hk => by simp at hk) (fun k m hk c hc => by rw [i4 0 11 (by omega) (by omega), Nat.zero_add]; exact hC0.2.2 k m hk c hc) hC0.2.1
  rw [List.nil_append] at f2 f3
  have hMS6 : MSr n I5 J6 rw gv cl := ms_cg h.2.2.1 (fun j h4 h8 => by rw [f4 0 j (by omega), i4 0 j (by omega) (by omega)]) (fun j h4 h8 => j6 0 j (by omega))
  have hj6 : ∀ z, z < n → I5 z 40 6 = J6 0 66 z := fun z hz => by
    rw [f4 z 40 (by omega), j6 0 66 (by omega)]
    by_cases ez : z = x
    · rw [ez, d2, if_neg (by omega), u3 x 40 (by omega) (by omega), t6 x 40 (by omega)]; exact c2
    · rw [i4 z 40 (by omega) (by omega)]; exact (h.2.2.2.2.1 z hz).2.1
  obtain ⟨I6, J7, m1, m2, m3, m4, m5⟩ := mw_lp (n := n) (x := x) h.1.1 hn hx (J 0 66) 136 0 am_fu am_fu I5 J6 rw gv cl (by omega) (by rw [hf]; omega) (by rw [hf]; omega) (j6 0 66 (by omega)) (by rw [j66 1 (by omega)]; exact hML.2.2.2.2.2.2.2.2.2.2) hj6 hMS6
  have hR7 : mR J7 ms := ⟨by rw [m5 0 60 (by omega), j66 38 (by omega)]; exact hML.2.1.1, hML.2.1.2.1, fun k m hk c hc => by rw [m5 0 (101 + c) (by omega), j6 0 (101 + c) (by omega)]; exact hML.2.1.2.2 k m hk c hc⟩
  obtain ⟨J8, g1, g2, g3, g4⟩ := rf_lp (n := n) (x := x) hx4 ms [] am_fu J7 (by rw [List.nil_append]; exact hR7) (by rw [List.nil_append]; omega) (by rw [hf]; omega)
  rw [List.nil_append] at g2
  obtain ⟨J9, l1, l2, l3⟩ := ld_lp (n := n) (x := x) hx4 4 0 am_fu J8 (by omega) (by rw [hf]; omega)
  -- frames
  have OI : ∀ a b, ¬ (a = x ∧ 40 ≤ b) → ¬ (a = 0 ∧ (b = 0 ∨ b = 1 ∨ b = 4 ∨ b = 5 ∨ b = 8 ∨ b = 9 ∨ b = 11 ∨ b = 14)) → I6 a b = I a b := fun a b q1 q2 => by rw [m4 a b (by omega), f4 a b (by omega), i4 a b q1 (by omega)]
  have OX : ∀ b, 40 ≤ b → I6 x b = I4 x b := fun b q => by rw [m4 x b (by omega), f4 x b (by omega)]
  have O6 : ∀ a b, ¬ (a = 0 ∧ (b = 60 ∨ (94 ≤ b ∧ b ≤ 96) ∨ (101 ≤ b ∧ b ≤ 106) ∨ b = 108)) → J9 a b = J6 a b := fun a b q => by rw [l3 a b (by omega), g3 a b (by omega), m5 a b (by omega)]
  have OJ : ∀ a b, ¬ (a = 0 ∧ (b = 60 ∨ b = 64 ∨ b = 65 ∨ (68 ≤ b ∧ b ≤ 73) ∨ (76 ≤ b ∧ b ≤ 80) ∨ b = 87 ∨ b = 88 ∨ b = 90 ∨ (93 ≤ b ∧ b ≤ 96) ∨ (101 ≤ b ∧ b ≤ 106) ∨ b = 108 ∨ b = 125)) → J9 a b = J a b := fun a b q => by rw [O6 a b (by omega), j6 a b (by omega)]
  have O60 : ∀ k, ¬ k = 38 → J9 0 60 k = J5 0 60 k := fun k q => by rw [l3 0 60 (by omega), g4 k q, m5 0 60 (by omega), r7 0 60 (by omega)]
  have O60' : ∀ k, ¬ (k = 38 ∨ k = 50) → J9 0 60 k = J 0 60 k := fun k q => by rw [O60 k (by omega), u6 k (by omega), t7 0 60 (by omega)]
  have k65 : ∀ k, J9 0 65 k = if k = x then nI 0 else J 0 65 k := fun k => by rw [O6 0 65 (by omega), r7 0 65 (by omega)]; exact u7 k
  have k71 : ∀ k, J9 0 71 k = if k = x then nI 0 else J 0 71 k := fun k => by rw [O6 0 71 (by omega), r7 0 71 (by omega)]; exact u8 k
  have kx0 : ∀ j k, j = 70 ∨ j = 72 ∨ j = 73 ∨ j = 93 → J9 0 j k = if k = x then nI 0 else J 0 j k := fun j k hj => by rw [O6 0 j (by omega), r4 j k hj, u5 0 j (by omega), t7 0 j (by omega)]
  have k68 : ∀ j k, j = 68 ∨ j = 69 → J9 0 j k = if 640 * x ≤ k ∧ k < 640 * x + 640 then nI 0 else J 0 j k := fun j k hj => by
    rw [O6 0 j (by omega)]
    rcases hj with rfl | rfl
    · rw [r2 k, u5 0 68 (by omega), t7 0 68 (by omega)]
    · rw [r3 k, u5 0 69 (by omega), t7 0 69 (by omega)]
  have k76 : ∀ j k, j = 76 ∨ j = 77 ∨ j = 79 ∨ j = 80 → J9 0 j k = if 136 * x ≤ k ∧ k < 136 * x + 136 then nI 0 else J 0 j k := fun j k hj => by rw [O6 0 j (by omega), r5 j k hj, u5 0 j (by omega), t7 0 j (by omega)]
  have k78 : ∀ k, J9 0 78 k = if 136 * x ≤ k ∧ k < 136 * x + 136 then (-1 : Int32) else J 0 78 k := fun k => by rw [O6 0 78 (by omega), r6 k, u5 0 78 (by omega), t7 0 78 (by omega)]
  have k87 : ∀ j k, j = 87 ∨ j = 88 ∨ j = 90 → ¬ k = x → J9 0 j k = J 0 j k := fun j k hj hk => by rw [O6 0 j (by omega), r7 0 j (by omega)]; exact u9 j k hj hk
  have k125 : J9 0 125 = J2 0 125 := by rw [O6 0 125 (by omega), r7 0 125 (by omega), u5 0 125 (by omega)]
  have k126 : J9 0 126 = J 0 126 := OJ 0 126 (by omega)
  have k64 : J9 0 64 = J2 0 64 := by rw [O6 0 64 (by omega), r7 0 64 (by omega), u5 0 64 (by omega)]
  have I61 : I6 0 1 = I2 0 1 := by rw [m4 0 1 (by omega), f4 0 1 (by omega), d11 0 1 (by omega), u3 0 1 (by omega) (by omega)]
  have I614 : I6 0 14 = I2 0 14 := by rw [m4 0 14 (by omega), f4 0 14 (by omega), d11 0 14 (by omega), u3 0 14 (by omega) (by omega)]
  have I600 : I6 0 0 = I3 0 0 := by rw [m4 0 0 (by omega), f4 0 0 (by omega), d11 0 0 (by omega)]
  have j93 : J9 0 66 = J 0 66 := OJ 0 66 (by omega)
  have i47 : ∀ z, I6 z 47 = I z 47 := fun z => by
    by_cases ez : z = x
    · rw [ez, OX 47 (by omega), d11 x 47 (by omega), u3 x 47 (by omega) (by omega), t6 x 47 (by omega)]
    · exact OI z 47 (by omega) (by omega)
  have hUo : ∀ z, ¬ z = x → J9 0 65 z = J 0 65 z := fun z hz => by rw [k65, if_neg hz]
  have hUx : J9 0 65 x = nI 0 := by rw [k65, if_pos rfl]
  have h65iff : ∀ z, J9 0 65 z = nI 1 ↔ J 0 65 z = nI 1 ∧ ¬ z = x := fun z => by
    rw [k65]
    by_cases c : z = x
    · rw [if_pos c]; exact ⟨fun q => absurd q (by decide), fun q => absurd c q.2⟩
    · rw [if_neg c]; exact ⟨fun q => ⟨q, c⟩, fun q => q.1⟩
  have h67 : ∀ z b i, ¬ z = x → b < 640 → i < 16 → J9 0 67 (16 * (640 * z + b) + i) = J 0 67 (16 * (640 * z + b) + i) := fun z b i _ _ _ => by rw [OJ 0 67 (by omega)]
  have h68 : ∀ z b, ¬ z = x → b < 640 → J9 0 68 (640 * z + b) = J 0 68 (640 * z + b) := fun z b hz hb => by rw [k68 68 _ (Or.inl rfl), if_neg (by omega)]
  obtain ⟨jl', hjl, hC, hF⟩ : ∃ jl', (∀ z, ¬ z = x → jl' z = jl z) ∧ CTI n e (setN lg x []) (setN fb x []) jl' K I6 J9 ∧ ∀ z, z < n → FJ z (dD J9) (setN fb x [] z) (jl' z) (fq z) (fwI I6 z) := by
    rcases t9 with ⟨q1, q2⟩ | ⟨q1, q2⟩
    · obtain ⟨w1, w2⟩ := cti_fin (y := x) (I' := I6) (J' := J9) h.2.2.2.2.2.2.2.2.2.1 q1 h.2.2.2.2.2.2.2.2.2.2.1 (by rw [k64, q2]) i47 h65iff h67 h68
      have efb : setN fb x [] = fb := funext fun z => by
        by_cases c : z = x
        · rw [c, setN_s, q1]
        · rw [setN_o c]
      exact ⟨jl, fun _ _ => rfl, by rw [efb]; exact w1, by rw [efb]; exact w2⟩
    · obtain ⟨jl1, w1, w2⟩ := cti_torn (y := x) (many := t) (I' := I6) (J' := J9) h.2.2.2.2.2.2.2.2.2.1 hn hx (by omega) h.2.2.2.2.2.2.2.2.2.2.1 q1 (c3.2.2.2.2.2.2.2.2.2.2 q1).1 (fun k => by rw [k64]; exact q2 k) i47 h65iff h67 h68
      exact ⟨setN jl x jl1, fun z hz => setN_o hz, w1, w2⟩
  have hmm : ∀ s, (0 ≤ s ∧ mst n (J 0 66) s n 0 = nI x) ↔ mrr n J s = x := fun s => by
    have hj := ((h.2.2.2.2.2.1 x hx).2.1 hU).1
    have q := mst_ok (J := J) (r := s) h.1.1 hn hx (by rw [hj]; decide)
    rw [q.2, z_eq (by omega) (by omega)]
    exact ⟨fun w => w.2, fun w => ⟨Nat.zero_le _, w⟩⟩
  have hMS : MSr n I6 J9 (fun s => if 0 ≤ s ∧ mst n (J 0 66) s n 0 = nI x then [] else rw s) (gvt (fun s y => if 0 ≤ s ∧ mst n (J 0 66) s n 0 = nI x then 0 else gv s y) 0) (fun s y => if 0 ≤ s ∧ mst n (J 0 66) s n 0 = nI x then 0 else cl s y) := ms_gve (ms_cg m3 (fun _ _ _ => rfl) (fun j q1 q2 => by rw [l3 0 j (by omega), g3 0 j (by omega)])) (fun r hr => gvt_r (by omega))
  have hCm : mC I6 (lat T (ms.filter (kp x))) := by
    rw [elat']
    exact ⟨by rw [m4 0 9 (by omega)]; exact f3, fun m hm => hML.2.1.2.1 m (List.mem_filter.mp hm).1, fun k m hk c hc => by rw [m4 0 11 (by omega)]; exact f2 k m hk c hc⟩
  have hRm : mR J9 (ms.filter (kp x)) := ⟨by rw [l3 0 60 (by omega)]; exact g2.1, g2.2.1, fun k m hk c hc => by rw [l3 0 (101 + c) (by omega)]; exact g2.2.2 k m hk c hc⟩
  have hML' : MLr n T I6 J9 (ms.filter (kp x)) := ml_crash hML hn hx hCm hRm (by rw [m4 0 9 (by omega), f5 4 (by omega), i4 0 9 (by omega) (by omega)]) (O60' 39 (by omega)) (by rw [I600, u4 7 (by omega), t6 0 0 (by omega)]) (O60' 2 (by omega)) (OI 0 10 (by omega) (by omega)) (OJ 0 107 (by omega)) (fun f t hf ht => by
    rw [l2 f t hf ht, g3 0 108 (by omega), m5 0 108 (by omega), j6 0 108 (by omega)]
    by_cases c : f = x ∨ t = x
    · rw [if_pos c, if_pos (by omega)]
    · rw [if_neg c, if_neg (by omega)]) (fun z hz => by
    by_cases ez : z = x
    · rw [ez, OX 40 (by omega), d2, if_pos rfl, hUx]
      exact ⟨rfl, Or.inl rfl⟩
    · rw [OI z 40 (by omega) (by omega), hUo z ez]; exact hML.2.2.2.2.2.2.2.2.2.1 z hz) (O60' 1 (by omega))
  have hBK : BKr I6 J9 e := by
    have := t4
    unfold BKr at this ⊢
    rw [OI 0 13 (by omega) (by omega), I614, O60' 49 (by omega), O60' 63 (by omega), k125, k126]
    rw [t6 0 13 (by omega), t7 0 60 (by omega), t7 0 126 (by omega)] at this
    exact this
  have hND : NDr x I6 J9 [] [] (fq x) (mk x) (fun _ => 0) (fun _ => 0) (fun _ => 0) := by
    refine ⟨by rw [OX 40 (by omega), d2, if_neg (by omega), u3 x 40 (by omega) (by omega), t6 x 40 (by omega)]; exact c1, by rw [OX 40 (by omega), d2, if_neg (by omega), u3 x 40 (by omega) (by omega), t6 x 40 (by omega), j93]; exact c2, ?_, ?_, fun r hr => ?_, fun r hr => ?_⟩
    · refine ⟨⟨List.Pairwise.nil, fun b hb => by simp at hb, Nat.zero_le _, fun b hb => ?_⟩, by rw [kx0 70 x (by omega), if_pos rfl]; rfl, by rw [OX 44 (by omega)]; exact d5, fun k b hk => by simp at hk, by rw [OX 44 (by omega), d8, u3 x 44 (by omega) (by omega), t6 x 44 (by omega)]; exact c3.2.2.2.2.1, by rw [OX 44 (by omega), d7, k71, if_pos rfl], by rw [OX 44 (by omega)]; exact d6, Nat.zero_le _, fun b hb => by simp at hb, fun _ => ⟨by rw [kx0 72 x (by omega), if_pos rfl], by rw [kx0 73 x (by omega), if_pos rfl]⟩, fun q => absurd rfl q⟩
      rw [k68 69 _ (Or.inr rfl), if_pos (by omega), if_neg (by simp)]
    · have z68 : ∀ b, b < 640 → J9 0 68 (640 * x + b) = nI 0 := fun b hb => by rw [k68 68 _ (Or.inl rfl), if_pos (by omega)]
      refine ⟨fun b hb => ?_, ?_, fun b i hb _ q => ?_, z68 0 (by omega)⟩
      · rw [z68 b hb, OX 43 (by omega)]
        exact ⟨d4 b hb, Or.inl rfl⟩
      · rw [OX 41 (by omega), OX 43 (by omega), cnt_0 640 d4]; exact d3
      · rw [z68 b hb] at q; exact absurd q (by decide)
    · rw [OX 49 (by omega), OX 50 (by omega), OX 51 (by omega), k76 76 _ (by omega), k76 77 _ (by omega), k78, if_pos (by omega), if_pos (by omega), if_pos (by omega)]
      exact ⟨(d10 r hr).1, (d10 r hr).2.1, (d10 r hr).2.2.1⟩
    · rw [k76 76 _ (by omega), k76 77 _ (by omega), k78, if_pos (by omega), if_pos (by omega), if_pos (by omega)]
      exact ⟨⟨Nat.zero_le _, rfl⟩, rfl, ⟨Nat.zero_le _, rfl⟩, fun q => absurd rfl q⟩
  have hMK : MKr n e J9 (setN fb x []) fq mk := fun z hz => by
    obtain ⟨n1, n2, n3⟩ := h.2.2.2.2.2.2.2.2.2.2.2.1 z hz
    rw [k125, k126]
    by_cases ez : z = x
    · subst ez
      rw [setN_s]
      refine ⟨fun q => absurd rfl q, fun k hk q1 q2 => ?_, fun q => absurd rfl q⟩
      obtain ⟨w1, w2⟩ := t5 k hk
      rw [w1] at q1
      exact absurd q1 (w2 q2).2
    · rw [setN_o ez]
      refine ⟨n1, fun k hk q1 q2 => ?_, fun w1 w2 k hk hm q1 q2 => ?_⟩
      · obtain ⟨v1, v2⟩ := t5 k hk
        rw [v1] at q1
        exact n2 k hk q1 (v2 q2).1
      · obtain ⟨v1, v2⟩ := t5 k hk
        rw [v1] at q1
        exact n3 w1 w2 k hk hm q1 (v2 q2).1
  have hTID : TID I6 J9 := by
    have := h.2.2.2.2.2.2.2.2.1
    unfold TID at this ⊢
    rw [OJ 0 120 (by omega), OI 0 19 (by omega) (by omega), OI 0 15 (by omega) (by omega)]
    exact this
  have edue : due T (ms.filter (kp x)) = [] := List.filter_eq_nil_iff.mpr (fun a ha => by
    have := hall a (List.mem_filter.mp ha).1
    rw [decide_eq_true_eq]; omega)
  have hco := co_crash (I' := I6) (J' := J9) h hx hU hUx hUo hjl hC hF (fun k hk => by rw [I61, k64]; exact t8 k hk) hML' hMS (fun r _ => by
    by_cases c : mrr n J r = x
    · rw [if_pos c, if_pos ((hmm r).mpr c)]
    · rw [if_neg c, if_neg (fun q => c ((hmm r).mp q))]) (fun r y hr => by
    rw [gvt_r (by omega)]
    by_cases c : mrr n J r = x
    · rw [if_pos c, if_pos ((hmm r).mpr c)]
    · rw [if_neg c, if_neg (fun q => c ((hmm r).mp q))]) (fun r y _ => by
    by_cases c : mrr n J r = x
    · rw [if_pos c, if_pos ((hmm r).mpr c)]
    · rw [if_neg c, if_neg (fun q => c ((hmm r).mp q))]) hBK hND (by rw [k71, if_pos rfl]) (fun b hb => by rw [k68 68 _ (Or.inl rfl), if_pos (by omega)]) (fun z b hz q1 q2 q3 => OI z b (by omega) (by omega)) j93 (OJ 0 67 (by omega)) ⟨OJ 0 74 (by omega), OJ 0 75 (by omega)⟩ (fun z hz => ⟨fun b hb => ⟨h68 z b hz hb, by rw [k68 69 _ (Or.inr rfl), if_neg (by omega)]⟩, ⟨by rw [kx0 70 z (by omega), if_neg hz], by rw [k71, if_neg hz], by rw [kx0 72 z (by omega), if_neg hz], by rw [kx0 73 z (by omega), if_neg hz]⟩, fun r hr => ⟨by rw [k76 76 _ (by omega), if_neg (by omega)], by rw [k76 77 _ (by omega), if_neg (by omega)], by rw [k78, if_neg (by omega)]⟩⟩) hTID hMK ⟨fun k m hk => by rw [edue] at hk; simp at hk, by rw [edue]; rfl, Nat.zero_le _, fun k m _ hk => absurd hk (by show ¬ k < 0; omega)⟩
  have ncal : ¬ J9 0 87 x = nI 1 := by rw [O6 0 87 (by omega), r7 0 87 (by omega)]; exact u12
  have i55 : I6 x 55 = I3 x 55 := by rw [OX 55 (by omega), d11 x 55 (by omega)]
  have j8x : ∀ j, 82 ≤ j → j ≤ 92 → J9 0 j = J5 0 j := fun j q1 q2 => by rw [O6 0 j (by omega), r7 0 j (by omega)]
  refine ⟨I6, J9, gvt (fun s y => if 0 ≤ s ∧ mst n (J 0 66) s n 0 = nI x then 0 else gv s y) 0 136, ?_, ?_, ⟨_, _, _, _, _, ⟨_, _, _, _, _, _, _, _, hco⟩, rfl, fun z hz => ?_, ?_⟩, rfl, cs_mono n (fun z hz => ?_), O60' 0 (by omega)⟩
  · have e1 : (gX10_tear n x (nI t) I).bind (fun q3 => (gX0_lose n (nI x) q3).bind (fun q4 => if (q4 x 55 5) = (nI 1) then ((gX8_end n x (nI 4) (nI 0) (q4 0 0 7) q4).bind (fun q5 => am_lt (am_up q5 0 0 9 ((q5 0 0 9) + (nI 1))) (fun I6 => bX10_crash_100 n (nI x) x I6))) else (bX10_crash_100 n (nI x) x q4))) = ((gX10_tear n x (nI t) I).bind (fun q3 => gX0_lose n (nI x) q3)).bind (fun q4 => if (q4 x 55 5) = (nI 1) then ((gX8_end n x (nI 4) (nI 0) (q4 0 0 7) q4).bind (fun q5 => am_lt (am_up q5 0 0 9 ((q5 0 0 9) + (nI 1))) (fun I6 => bX10_crash_100 n (nI x) x I6))) else (bX10_crash_100 n (nI x) x q4)) := by
      cases gX10_tear n x (nI t) I <;> rfl
    rw [e1, t1, Option.bind_some, u1 (fun I6 => bX10_crash_100 n (nI x) x I6)]
    unfold bX10_crash_100
    rw [d1, Option.bind_some, gX5_forget, bX5_forget_0]
    rw [show bX5_forget_4 n am_fu (nI x) (nI 0) (nI 0) I4 = some I5 from f1, Option.bind_some]
    exact m1
  · rw [t2, u2]
    unfold bX11_crash_185
    rw [r1, Option.bind_some, m2]
    rw [show bX11_crash_226 n am_fu (nI x) (nI 0) J7 = bX11_crash_275 n am_fu (nI x) (nI 0) J8 from g1]
    exact l1
  · by_cases ez : z = x
    · subst ez
      refine ⟨fun r hr => ?_, ?_, Or.inr ⟨ncal, by rw [i55]; exact u11, by rw [OX 48 (by omega)]; exact d9, fun c hc => by rw [OX 54 (by omega)]; exact (d10 c hc).2.2.2.2, fun r hr => ?_⟩⟩
      · have z79 : J9 0 79 (136 * z + r) = nI 0 := by rw [k76 79 _ (by omega), if_pos (by omega)]
        refine ⟨by rw [OX 52 (by omega), z79]; exact (d10 r hr).2.2.2.1, Or.inr ⟨z79, Or.inl ⟨by rw [k78, if_pos (by omega)], by rw [k76 80 _ (by omega), if_pos (by omega)]⟩⟩⟩
      · unfold TS at u10 ⊢
        rw [i55, j8x 87 (by omega) (by omega), j8x 88 (by omega) (by omega), j8x 89 (by omega) (by omega), j8x 90 (by omega) (by omega), j8x 91 (by omega) (by omega), j8x 92 (by omega) (by omega)]
        exact ⟨fun c hc => by rw [j8x (82 + c) (by omega) (by omega)]; exact u10.1 c hc, u10.2⟩
      · rw [k76 79 _ (by omega), k76 77 _ (by omega), if_pos (by omega), if_pos (by omega)]
        exact ⟨rfl, rfl⟩
    · refine (ns_cg (fun b hb => OI z b (by omega) (by omega)) (fun j r q1 q2 q3 => ?_) (fun j hj => ?_) (hns z hz)).1
      · by_cases c78 : j = 78
        · rw [c78, k78, if_neg (by omega)]
        · by_cases c81 : j = 81
          · rw [c81, OJ 0 81 (by omega)]
          · rw [k76 j _ (by omega), if_neg (by omega)]
      · by_cases c1 : j = 65
        · rw [c1, hUo z ez]
        · by_cases c2 : j = 72 ∨ j = 93
          · rw [kx0 j z (by omega), if_neg ez]
          · by_cases c3 : j = 87 ∨ j = 88 ∨ j = 90
            · exact k87 j z c3 ez
            · rw [OJ 0 j (by omega)]
  · unfold WL at u13 ⊢
    rw [I600, O60 48 (by omega), O60 50 (by omega), show J9 0 64 = J5 0 64 by rw [k64, u5 0 64 (by omega)]]
    exact u13
  · unfold cal
    by_cases ez : z = x
    · rw [ez, if_neg ncal]; exact Nat.zero_le _
    · rw [k87 87 z (by omega) ez]; exact Nat.le_refl _
end CR5
