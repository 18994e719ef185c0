theorem svp_len (sv : List Nat) (b : Nat) : (svp sv b).length ≤ sv.length + 1 := by
  unfold svp
  split
  · omega
  · rw [List.length_append, List.length_singleton]; omega
section FIN
variable {n y : Nat} {Hd : Nat → Int} {F0 F F' : (Nat → Nat) → wS} {I0 J0 I J : am_I} {X : List Nat} {E : Nat → Prop} {gn : List Nat} {gp gp' pd pd' : Nat → Prop}
/-- the reference sets an inode's words to 0, one by one -/
theorem r_zero {t : Nat} {B : wS} (hy : y < 4) (ht : t < 128) : ∀ (m i fu : Nat) (sv : List Nat) (J : am_I), i + m = 16 → m < fu → pr_ref y B sv J → w_ib t ∈ sv → (∀ c, c ∈ sv → J 0 68 (640 * y + c) = nI 1) → sv.length < 640 → ∃ J', bX11_giveAll_160 n fu (nI t) (nI i) J = some J' ∧ pr_ref y B sv J' ∧ (∀ c j, c < 640 → j < 16 → t_v y J' c j = if c = w_ib t ∧ i ≤ j then nI 0 else t_v y J c j) ∧ (∀ c, c < 640 → J' 0 68 (640 * y + c) = J 0 68 (640 * y + c)) ∧ fJ y J J' ∧ (∀ k, ¬ k = 56 → J' 0 60 k = J 0 60 k) ∧ J' 0 123 = J 0 123 := by
  intro m
  induction m with
  | zero =>
    intro i fu sv J hi hf h hm hsv hl
    obtain ⟨fu, rfl⟩ : ∃ f, fu = f + 1 := ⟨fu - 1, by omega⟩
    obtain rfl : i = 16 := by omega
    refine ⟨J, ?_, h, fun c j _ hj => (if_neg (by omega)).symm, fun _ _ => rfl, fJ.rf, fun _ _ => rfl, rfl⟩
    conv => lhs; unfold bX11_giveAll_160
    simp (disch := omega) only [z_le, Nat.le_refl, if_true]
  | succ m ih =>
    intro i fu sv J hi hf h hm hsv hl
    obtain ⟨fu, rfl⟩ : ∃ f, fu = f + 1 := ⟨fu - 1, by omega⟩
    have hle : ¬ 16 ≤ i := by omega
    obtain ⟨J1, e1, e2, e3, e4, e5, e6, e7⟩ := r_set (n := n) (v := nI 0) hy (w_ib_lt ht) (by omega : i < 16) h hsv hl
    have eB : Bm (J 0 68 (640 * y + w_ib t)) (J 0 64) B (w_ib t) = B := by unfold Bm; rw [if_pos (hsv _ hm)]
    have es : svp sv (w_ib t) = sv := by unfold svp; rw [if_pos hm]
    rw [eB, es] at e2
    have h68 : ∀ c, c < 640 → J1 0 68 (640 * y + c) = J 0 68 (640 * y + c) := fun c hc => by
      rw [e4 c hc]
      split
      · next e => rw [e]; exact (hsv _ hm).symm
      · rfl
    obtain ⟨J2, f1, f2, f3, f4, f5, f6, f7⟩ := ih (i + 1) fu sv J1 (by omega) (by omega) e2 hm (fun c hc => by rw [h68 c (h.2.2.2.1 c hc)]; exact hsv c hc) hl
    refine ⟨J2, ?_, f2, fun c j hc hj => ?_, fun c hc => by rw [f4 c hc, h68 c hc], e5.tr f5, fun k q => (f6 k q).trans (e6 k q), f7.trans e7⟩
    · rw [← f1]
      conv => lhs; unfold bX11_giveAll_160
      simp (disch := omega) only [z_le, hle, if_false, a_si ht, e1, Option.bind_some, nI_add]
    · rw [f3 c j hc hj, e3 c j hc hj]
      by_cases e : c = w_ib t ∧ i + 1 ≤ j
      · rw [if_pos e, if_pos ⟨e.1, by omega⟩]
      · rw [if_neg e]
        unfold w_up
        by_cases e2 : c = w_ib t ∧ j = i
        · rw [if_pos e2, if_pos ⟨e2.1, by omega⟩]
        · rw [if_neg e2, if_neg (by omega)]
theorem tn_fin {t x : Nat} (hC : TC n y Hd I0 J0) (hM : ∀ r, r < 136 → Hd r ≤ 2) (h : TN y Hd F0 I0 J0 X E F gn (fun c => c ∈ gn) (fun _ => False) I J) (hE : ∀ c, E c → c = w_ib t ∨ c = x) (hEx : w_D x ∨ x = w_ib t) (ht : t < 128) (hH : Hd t = 2) (hX : X.length ≤ 18) (htX : w_ib t ∈ X) (hib : tH y J (w_ib t)) (hG : ∀ p b, w_own (vw y J) t p b → b ∈ gn) (hG2 : ∀ b, b ∈ gn → ∃ p, w_own (vw y J) t p b) :
    (∃ I' J' F', bX9_giveInodeBack_49 n (nI t) (nI (w_ib t)) I = some I' ∧ bX11_giveAll_108 n (nI t) J = some J' ∧ TN y Hd F0 I0 J0 X (fun c => c = x ∧ ¬ c = w_ib t) F' gn (fun c => c ∈ gn) (fun _ => False) I' J' ∧ (∀ L, L y = 2 → ∀ b, b ∈ gn → ∀ k p, ¬ w_own (F' L) k p b) ∧ (∀ k, ¬ k = 5 → I' 0 15 k = I 0 15 k) ∧ (∀ k, ¬ k = 56 → J' 0 60 k = J 0 60 k) ∧ (∀ L c i, ¬ c = w_ib t → (∀ g, ¬ c = w_mp g) → F' L c i = F L c i) ∧ ∀ L i, F' L (w_ib t) i = nI 0)
    ∨ (∃ I' J', bX9_giveInodeBack_49 n (nI t) (nI (w_ib t)) I = some I' ∧ bX11_giveAll_108 n (nI t) J = some J' ∧ EN y Hd F0 I0 J0 I' J') := by
  have hn4 := hC.2.1
  have hyn := hC.1
  have hg : t / 16 < 8 := by omega
  have hEm : ∀ g, ¬ E (w_mp g) := fun g q => (hE _ q).elim (fun e => w_ib_mp ht e.symm) (fun e => hEx.elim (fun hx => w_mp_D g (e ▸ hx)) (fun hx => w_ib_mp ht (e.trans hx).symm))
  have hmm : t - t / 16 * 16 = t % 16 := by omega
  obtain ⟨f0, hf0, hfb0⟩ := fu_ex
  rcases tn_meet (r := 128 + t / 16) (m := 2) hC h (by omega) (Or.inr rfl) with ⟨hHm, e1, e2⟩ | ⟨I1, J1, e1, e2, e3⟩
  · have hHm2 : Hd (128 + t / 16) = 2 := by have := hM (128 + t / 16) (by omega); omega
    obtain ⟨I1, J1, f1, f2, f3, f4, f5⟩ := tn_rdv (i := 0) hC h (w_mp_lt hg) (by omega) (hEm _) (Or.inr (Or.inr (Or.inl ⟨_, hg, rfl, by omega⟩)))
    have hib1 := f4.2.1 _ hib
    obtain ⟨⟨B, sv, cv, p1, p2, p3, p4, p5, p6, p7, p8, p9, p10, p11, p12, p13, p14, p15⟩, hrn⟩ := id f3
    have hl := tr_len p2.2.2.1 p10
    have hl2 := pigeon sv cv p1.2.2.1 p8
    -- the map, both sides
    obtain ⟨J2, a1, a2, a3, a4, a5, a6, a7⟩ := r_set (n := n) (v := vw y J (w_mp (t / 16)) 0 &&& ((nI 1 <<< (nI (t % 16) &&& 31)) ^^^ (-1 : Int32))) (by omega) (w_mp_lt hg) (by omega : 0 < 16) p1 p3 (by omega)
    obtain ⟨I2, b1, b2, b3, b4, b5, b6, b7⟩ := c_set (n := n) (v := vw y J (w_mp (t / 16)) 0 &&& ((nI 1 <<< (nI (t % 16) &&& 31)) ^^^ (-1 : Int32))) (D := J1 0 64) (by omega) hC.1 (w_mp_lt hg) (by omega : 0 < 16) p2 p4 p5 (Or.inr (by omega))
    have eBm : Bm (J1 0 68 (640 * y + w_mp (t / 16))) (J1 0 64) B (w_mp (t / 16)) = B := by unfold Bm; rw [if_pos f5.2]
    rw [eBm] at a2
    rw [p6 _ (w_mp_lt hg), eBm] at b2
    have h68a : ∀ c, c < 640 → J2 0 68 (640 * y + c) = J1 0 68 (640 * y + c) := fun c hc => by
      rw [a4 c hc]
      split
      · next e => rw [e]; exact f5.2.symm
      · rfl
    have hlen2 := svp_len sv (w_mp (t / 16))
    have hlen3 := svp_len cv (w_mp (t / 16))
    -- the inode, both sides
    obtain ⟨J3, c1, c2, c3, c4, c5, c6, c7⟩ := r_set (n := n) (v := nI 0) (by omega) (w_ib_lt ht) (by omega : 0 < 16) a2 (fun c hc => by
      rw [h68a c (a2.2.2.2.1 c hc)]
      rcases svp_mem.mp hc with q | q
      · exact p3 c q
      · rw [q]; exact f5.2) (by omega)
    have hib2 : J2 0 68 (640 * y + w_ib t) = nI 1 := by rw [h68a _ (w_ib_lt ht)]; exact hib1.2
    have eB2 : Bm (J2 0 68 (640 * y + w_ib t)) (J2 0 64) B (w_ib t) = B := by unfold Bm; rw [if_pos hib2]
    rw [eB2] at c2
    have h68b : ∀ c, c < 640 → J3 0 68 (640 * y + c) = J1 0 68 (640 * y + c) := fun c hc => by
      rw [c4 c hc, h68a c hc]
      split
      · next e => rw [e]; exact hib1.2.symm
      · rfl
    have hsv3 : ∀ c, c ∈ svp (svp sv (w_mp (t / 16))) (w_ib t) → J1 0 68 (640 * y + c) = nI 1 := fun c hc => by
      rcases svp_mem.mp hc with q | q
      · rcases svp_mem.mp q with q | q
        · exact p3 c q
        · rw [q]; exact f5.2
      · rw [q]; exact hib1.2
    have hlen4 := svp_len (svp sv (w_mp (t / 16))) (w_ib t)
    obtain ⟨J4, d1, d2, d3, d4, d5, d6, d7⟩ := r_zero (n := n) (t := t) (B := B) (by omega) ht 15 1 (f0 + 0) (svp (svp sv (w_mp (t / 16))) (w_ib t)) J3 (by omega) (by omega) c2 (svp_mem.mpr (Or.inr rfl)) (fun c hc => by rw [h68b c (c2.2.2.2.1 c hc)]; exact hsv3 c hc) (by omega)
    obtain ⟨I3, u1, u2, u3, u4, u5, u6, u7⟩ := c_clear (n := n) (by omega) hC.1 (w_ib_lt ht) b2 (Or.inr (by omega))
    have h68 : ∀ c, c < 640 → J4 0 68 (640 * y + c) = J1 0 68 (640 * y + c) := fun c hc => by rw [d4 c hc, h68b c hc]
    have h43 : ∀ c, c < 640 → I3 y 43 c = J1 0 68 (640 * y + c) := fun c hc => by
      rw [u4 c hc]
      split
      · next e => rw [e]; exact hib1.2.symm
      · rw [b4 c hc]
        split
        · next e => rw [e]; exact f5.2.symm
        · exact p6 c hc
    have hVJ : vw y J4 = w_cl (w_up (vw y J1) (w_mp (t / 16)) 0 (vw y J (w_mp (t / 16)) 0 &&& ((nI 1 <<< (nI (t % 16) &&& 31)) ^^^ (-1 : Int32)))) (w_ib t) := by
      rw [← vw_up (w_mp_lt hg) (by omega) a3]
      refine vw_cl (fun c j hc hj => ?_)
      rw [d3 c j hc hj, c3 c j hc hj]
      unfold w_cl w_up
      by_cases e : c = w_ib t
      · by_cases e1 : 1 ≤ j
        · rw [if_pos ⟨e, e1⟩, if_pos e]
        · rw [if_neg (fun q => e1 q.2), if_pos ⟨e, by omega⟩, if_pos e]
      · rw [if_neg (fun q => e q.1), if_neg (fun q => e q.1), if_neg e]
    have hmi : ¬ w_mp (t / 16) = w_ib t := fun e => w_ib_mp ht e.symm
    refine Or.inl ⟨I3, J4, fun L => w_cl (w_up (F L) (w_mp (t / 16)) 0 (vw y J (w_mp (t / 16)) 0 &&& ((nI 1 <<< (nI (t % 16) &&& 31)) ^^^ (-1 : Int32)))) (w_ib t), ?_, ?_, ⟨⟨B, svp (svp sv (w_mp (t / 16))) (w_ib t), svp (svp cv (w_mp (t / 16))) (w_ib t), d2, u2, fun c hc => by rw [h68 c (c2.2.2.2.1 c hc)]; exact hsv3 c hc, fun c hc => ?_, fun k hk => ?_, fun c hc => by rw [h43 c hc, h68 c hc], fun c j hc hj hE' => ?_, fun c hc => ?_, fun c hc => ?_, fun c hc => ?_, ?_, p12.tr (fI.tr b5 u5), p13.tr ((a5.tr c5).tr d5), fun L hL => ?_, p15⟩, ?_⟩, fun L hL b hb k p ho => ?_, fun k q => ?_, fun k q => ?_, fun L c i h1 h2 => (if_neg h1).trans (w_up_b _ _ _ _ (h2 _)), fun L i => if_pos rfl⟩
    · simp (disch := omega) only [bX9_giveInodeBack_49, bX9_giveInodeBack_102, gX10_mapResource, bX10_mapResource_0, pk_div, nI_add, Option.bind_some, e1, z_10, if_false, c_mp, f1, pk_mul, pk_sub, hmm, b1, u1]
    · have hz : bX11_giveAll_160 n am_fu (nI t) (nI 0) J2 = some J4 := by
        rw [hf0, ← d1]
        conv => lhs; unfold bX11_giveAll_160
        simp (disch := omega) only [z_le, (by decide : ¬ 16 ≤ 0), if_false, a_si ht, c1, Option.bind_some, nI_add]
        rfl
      rw [bX11_giveAll_108, pk_div (by omega) (by decide) (by decide), nI_add, e2, Option.bind_some]
      show (if nI 1 = (0 : Int32) then _ else _) = _
      rw [if_neg (by decide), a_mp, Option.bind_some]
      show ((gX11_mapOf n (nI (t / 16)) J).bind _) = _
      rw [a_mp, Option.bind_some]
      show ((gX11_get n (nI (w_mp (t / 16))) (nI 0) J).bind _) = _
      rw [f2, Option.bind_some]
      show ((gX11_set n (nI (w_mp (t / 16))) (nI 0) (vw y J (w_mp (t / 16)) 0 &&& ((nI 1 <<< ((nI t - nI (t / 16) * nI 16) &&& 31)) ^^^ (-1 : Int32))) J1).bind (fun q5 => bX11_giveAll_160 n am_fu (nI t) (nI 0) q5)) = _
      rw [pk_mul, pk_sub (by omega), hmm, a1, Option.bind_some]
      exact hz
    · rw [h43 c (u2.2.2.2.1 c hc)]
      rcases svp_mem.mp hc with q | q
      · rcases svp_mem.mp q with q | q
        · rw [← p6 c (p2.2.2.2.1 c q)]; exact p4 c q
        · rw [q]; exact f5.2
      · rw [q]; exact hib1.2
    · rw [u5 0 1 (by omega) (by omega), b5 0 1 (by omega) (by omega), d5.1 0 64 (by omega), c5.1 0 64 (by omega), a5.1 0 64 (by omega)]
      exact p5 k hk
    · have hj4 : t_v y J4 c j = vw y J4 c j := (vw_at hc hj).symm
      rw [u3 c j hc hj, hj4, hVJ]
      unfold w_cl
      by_cases e : c = w_ib t
      · rw [if_pos e, if_pos e]
      · rw [if_neg e, if_neg e, b3 c j hc hj]
        unfold w_up
        rw [vw_at hc hj, p7 c j hc hj (fun q => (hE c q).elim e (fun q2 => hE' ⟨q2, e⟩))]
    · rcases svp_mem.mp hc with q | q
      · rcases svp_mem.mp q with q | q
        · exact svp_mem.mpr (Or.inl (svp_mem.mpr (Or.inl (p8 c q))))
        · exact svp_mem.mpr (Or.inl (svp_mem.mpr (Or.inr q)))
      · exact svp_mem.mpr (Or.inr q)
    · rcases svp_mem.mp hc with q | q
      · rcases svp_mem.mp q with q | q
        · rcases p9 c q with q | q
          · exact Or.inl (svp_mem.mpr (Or.inl (svp_mem.mpr (Or.inl q))))
          · by_cases e : c = w_ib t
            · exact Or.inl (svp_mem.mpr (Or.inr e))
            · exact Or.inr ⟨(hE c q).resolve_left e, e⟩
        · exact Or.inl (svp_mem.mpr (Or.inl (svp_mem.mpr (Or.inr q))))
      · exact Or.inl (svp_mem.mpr (Or.inr q))
    · rcases svp_mem.mp hc with q | q
      · rcases svp_mem.mp q with q | q
        · exact p10 c q
        · exact Or.inr ⟨_, hg, q⟩
      · exact Or.inl (q ▸ htX)
    · rw [d6 61 (by decide), c6 61 (by decide), a6 61 (by decide), d7, c7, a7, u6 7 (by decide), b6 7 (by decide), u7, b7]
      exact p11
    · have hT1 := ti_cg (V' := vw y J1) (p14 L hL) (fun b i hb hi => vw_at hb hi) (fun _ => Iff.rfl) (fun _ => Iff.rfl) (fun _ => Iff.rfl) (fun _ => Iff.rfl)
      have hT2 := ti_fin (V' := vw y J4) (v := vw y J (w_mp (t / 16)) 0 &&& ((nI 1 <<< (nI (t % 16) &&& 31)) ^^^ (-1 : Int32))) hT1 ht hH hHm2 (fun p b ho => hG p b (by rw [← f4.1]; exact (tr_own f3.1 hL (by omega)).mp ho)) hib1 f5 (fun i hi => by rw [z_bclr _ (by omega) hi, ← f4.1, tr_vw f3.1 hL (of_mp hg) (by omega) (by omega)]) (fun b hb i => ?_) (fun i hi => ?_) (fun i hi => ?_)
      · refine ti_cg hT2 (fun b i hb hi => (vw_at hb hi).symm) (fun c => ?_) (fun _ => Iff.rfl) (fun c => ?_) (fun _ => Iff.rfl)
        · show c ∈ svp (svp sv (w_mp (t / 16))) (w_ib t) ↔ (c ∈ sv ∨ (c = w_mp (t / 16) ∨ c = w_ib t))
          rw [svp_mem, svp_mem, or_assoc]
        · unfold tH
          constructor
          · rintro ⟨q1, q2⟩
            exact ⟨q1, by rw [← h68 c q1]; exact q2⟩
          · rintro ⟨q1, q2⟩
            exact ⟨q1, by rw [h68 c q1]; exact q2⟩
      · rw [hVJ]
        unfold w_cl
        rw [if_neg (fun e => hb (Or.inr e)), w_up_b _ _ _ _ (fun e => hb (Or.inl e))]
      · rw [hVJ]
        unfold w_cl
        rw [if_neg hmi]
        unfold w_up
        by_cases e : i = 0
        · rw [if_pos ⟨rfl, e⟩, if_pos e]
        · rw [if_neg (fun q => e q.2), if_neg e]
      · rw [hVJ]
        exact if_pos rfl
    · unfold rn
      rw [u6 9 (by decide), b6 9 (by decide), d6 52 (by decide), c6 52 (by decide), a6 52 (by decide), d6 54 (by decide), c6 54 (by decide), a6 54 (by decide)]
      exact hrn
    · -- what was given back is nobody's now
      have hA := (tr_wf f3.1 hL)
      obtain ⟨pt, hpt⟩ := hG2 b hb
      have hpt2 : w_own (F L) t pt b := (tr_own f3.1 hL (by omega)).mpr (by rw [f4.1]; exact hpt)
      by_cases e : k = t
      · have q4 := ho.2.2.2
        have hz : ∀ i, i < 16 → w_cl (w_up (F L) (w_mp (t / 16)) 0 (vw y J (w_mp (t / 16)) 0 &&& ((nI 1 <<< (nI (t % 16) &&& 31)) ^^^ (-1 : Int32)))) (w_ib t) (w_ib t) i = nI 0 := fun i _ => if_pos rfl
        subst e
        exact x_nowned ht hz p b ho
      · have : w_own (F L) k p b := by
          refine ⟨ho.1, ho.2.1, ho.2.2.1, ?_⟩
          rw [← ho.2.2.2]
          symm
          refine w_pl_cg (fun i => ?_) (fun i h0 => ?_)
          · show (if _ then _ else _) = _
            rw [if_neg (fun e2 => e (w_ib_inj ho.1 ht e2)), w_up_b _ _ _ _ (w_ib_mp ho.1)]
          · obtain ⟨z, z1, z2, -⟩ := w_ix hA.1.1 ho.1 h0
            rw [z1, nI_clamp (w_Dlt z2)]
            show (if _ then _ else _) = _
            rw [if_neg (fun e2 : z = w_ib t => w_ib_D ht (e2 ▸ z2)), w_up_b _ _ _ _ (fun e2 : z = w_mp (t / 16) => w_mp_D _ (e2 ▸ z2))]
        exact e (hA.1.2.1 k p t pt b this hpt2).1
    · rw [u6 k q, b6 k q, f4.2.2.1]
    · rw [d6 k q, c6 k q, a6 k q, f4.2.2.2]
  · refine Or.inr ⟨I1, J1, ?_, ?_, e3⟩
    · simp (disch := omega) only [bX9_giveInodeBack_49, bX9_giveInodeBack_102, gX10_mapResource, bX10_mapResource_0, pk_div, nI_add, Option.bind_some, e1, z_00, if_true]
    · simp (disch := omega) only [bX11_giveAll_108, pk_div, nI_add, e2, Option.bind_some, z_00, if_true]
end FIN
