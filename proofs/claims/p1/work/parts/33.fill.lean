/-- Arrays.fill -/
theorem c_fill {G : am_G} (hn : G.2.2.2.2.Nodup) {d : Nat} {i j : Nat} (hm : (i, j) ∈ G.2.2.2.2) (hkj : am_k j = 1) (h31 : am_len G.2.2.2.1 j < 2 ^ 31) (v : Int32) (I : am_I) : am_C G d mJ7_fill_53178 [.inr (i, j), .inl v] I (am_E none (am_upf I i j (am_fil (I i j) (am_len G.2.2.2.1 j) v))) := by
  have L : ∀ m a : Nat, a + m = am_len G.2.2.2.1 j → am_J G d mJ7_fill_53178 am_no (am_E none (am_upf I i j (am_fil (I i j) (am_len G.2.2.2.1 j) v))) 5 [some (.inr (i, j)), some (.inl v), some (.inl (nI a)), some (.inl (nI (am_len G.2.2.2.1 j)))] [] (am_upf I i j (am_fil (I i j) a v)) := by
    intro m
    induction m with
    | zero =>
      intro a ha
      refine am_iload_n dJ7_fill_53178_5 rfl ?_
      refine am_iload_n dJ7_fill_53178_6 rfl ?_
      refine am_icmp_ge (tgt := 20) dJ7_fill_53178_7 (by decide) (fun _ => ?_) (fun h => absurd ((nI_leI (by omega) (by omega)).mpr (by omega)) h)
      refine am_vret dJ7_fill_53178_20 rfl ⟨rfl, ?_⟩
      rw [show a = am_len G.2.2.2.1 j by omega]
    | succ m ih =>
      intro a ha
      refine am_iload_n dJ7_fill_53178_5 rfl ?_
      refine am_iload_n dJ7_fill_53178_6 rfl ?_
      refine am_icmp_ge (tgt := 20) dJ7_fill_53178_7 (by decide) (fun h => absurd ((nI_leI (by omega) (by omega)).mp h) (by omega)) (fun _ => ?_)
      refine am_aload_n dJ7_fill_53178_10 rfl ?_
      refine am_iload_n dJ7_fill_53178_11 rfl ?_
      refine am_iload_n dJ7_fill_53178_12 rfl ?_
      refine am_iast (a := a) dJ7_fill_53178_13 hm hkj rfl (by omega) h31 ?_
      refine am_iinc (v := nI (a + 1)) dJ7_fill_53178_14 rfl (nI_add _ _) ?_
      refine am_goto (tgt := 5) dJ7_fill_53178_17 (by decide) ?_
      rw [am_up_upf, am_fils]
      exact ih (a + 1) (by omega)
  refine am_of (by decide +kernel) hn (Nat.le_of_ble_eq_true rfl) ?_
  refine am_iconst (v := nI 0) dJ7_fill_53178_0 (by decide) ?_
  refine am_istore_n dJ7_fill_53178_1 (by decide) ?_
  refine am_aload_n dJ7_fill_53178_2 rfl ?_
  refine am_alen1 dJ7_fill_53178_3 hm hkj ?_
  refine am_istore_n dJ7_fill_53178_4 (by decide) ?_
  have := L (am_len G.2.2.2.1 j) 0 (by omega)
  rw [am_fil0, am_upf_self] at this
  exact this
