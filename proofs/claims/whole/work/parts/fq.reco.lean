
section RECO
variable {n : Nat} {I J : am_I} {lg fb jl : Nat → List Nat}
/-- the store as it would be, so many nodes done -/
noncomputable def sR (lg fb jl : Nat → List Nat) (I J : am_I) (m : Nat) : wS := sF (yY lg fb jl) (wW (cC J) (fwI I) (dD J) fb jl) (dD J) (fun _ => 0) m
theorem sR_s {z b i : Nat} : sR lg fb jl I J (z + 1) b i = cif (b ∈ jl z) (dD J (3 + 24 * z + (jl z).idxOf b) i) (sR lg fb jl I J z b i) := by
  unfold sR
  rw [sF]
  by_cases c : b ∈ jl z
  · refine (cif_pos (Or.inr (Or.inr (y0.mpr c)))).trans (Eq.trans ?_ (cif_pos c).symm)
    unfold lw
    refine (cif_neg (fun q => absurd q.1 (by omega))).trans ((cif_neg (fun q => absurd q.1 (by omega))).trans ?_)
    unfold wW
    rw [if_neg (by omega), if_neg (by omega), if_pos rfl]
  · refine (cif_neg (fun q => ?_)).trans (cif_neg c).symm
    rcases q with q | q | q
    · exact absurd q.1 (by omega)
    · exact absurd q.1 (by omega)
    · exact c (y0.mp q)
def f127 (J J' : am_I) : Prop := ∀ a b, ¬ (a = 0 ∧ b = 127) → J' a b = J a b
def f22 (I I' : am_I) : Prop := ∀ a b, ¬ (a = 0 ∧ b = 22) → I' a b = I a b
/-- a block is copied -/
theorem r_112 {k29 : Int32 → am_I → Option am_I} {k87 : Int32 → Int32 → Int32 → Int32 → am_I → Option am_I} {l1 l3 : Int32} {h j b : Nat} (hb : b < 640) (hh : h + 2 + j < 640) : ∀ (m i fu : Nat) (J : am_I), i + m = 16 → m < fu → ∃ J', bX11_asRecovered_112 n k29 k87 fu l1 (nI h) l3 (nI j) (nI b) (nI i) J = k87 l1 (nI h) l3 (nI (j + 1)) J' ∧ (∀ k, J' 0 127 k = if 16 * b + i ≤ k ∧ k < 16 * b + 16 then J 0 64 (16 * (h + 2 + j) + (k - 16 * b)) else J 0 127 k) ∧ f127 J J' := by
  intro m
  induction m with
  | zero =>
    intro i fu J hi hfu
    obtain ⟨fu, rfl⟩ : ∃ f, fu = f + 1 := ⟨fu - 1, by omega⟩
    refine ⟨J, ?_, fun k => by rw [if_neg (by omega)], fun _ _ _ => rfl⟩
    unfold bX11_asRecovered_112
    dsimp only
    rw [if_pos (by rw [z_le (by omega) (by omega)]; omega), nI_add]
  | succ m ih =>
    intro i fu J hi hfu
    obtain ⟨fu, rfl⟩ : ∃ f, fu = f + 1 := ⟨fu - 1, by omega⟩
    obtain ⟨J', h1, h2, h3⟩ := ih (i + 1) fu (am_up J 0 127 (16 * b + i) (J 0 64 (16 * (h + 2 + j) + i))) (by omega) (by omega)
    refine ⟨J', ?_, fun k => ?_, fun a c q => (h3 a c q).trans (z_upj _ _ _ _ _ _ _ q)⟩
    · conv => lhs; unfold bX11_asRecovered_112
      dsimp only
      rw [if_neg (by rw [z_le (by omega) (by omega)]; omega), nI_add, nI_add, pk_mul, nI_add, am_gd_of (by rw [z_inb (by omega)]; exact decide_eq_true (by omega)), pk_mul, nI_add, am_gd_of (by rw [z_inb (by omega)]; exact decide_eq_true (by omega)), am_lt, z_clamp (by omega), z_clamp (by omega), nI_add]
      exact h1
    · rw [h2 k, z_upj _ _ _ _ _ _ _ (show ¬ (0 = 0 ∧ 64 = 127) by omega), z_upk]
      by_cases c : 16 * b + (i + 1) ≤ k ∧ k < 16 * b + 16
      · rw [if_pos c, if_pos (by omega)]
      · rw [if_neg c]
        by_cases d : k = 16 * b + i
        · rw [if_pos d, if_pos (by omega), d, show 16 * b + i - 16 * b = i by omega]
        · rw [if_neg d, if_neg (by omega)]
theorem tk_s {l : List Nat} {j b : Nat} (h : l[j]? = some b) (c : Nat) : c ∈ l.take (j + 1) ↔ c ∈ l.take j ∨ c = b := by
  rw [List.take_add_one, h, List.mem_append]
  exact or_congr Iff.rfl (by simp)
theorem tk_m {l : List Nat} (hn : l.Nodup) {j c : Nat} (hc : c ∈ l) : c ∈ l.take j ↔ l.idxOf c < j := by
  obtain ⟨h1, h2⟩ := idx_get hc
  constructor
  · intro q
    obtain ⟨k, hk⟩ := List.mem_iff_getElem?.mp q
    by_cases d : k < j
    · rw [List.getElem?_take_of_lt d] at hk
      rw [idx_of hn hk]
      exact d
    · rw [List.getElem?_eq_none_iff.mpr (by rw [List.length_take]; omega)] at hk
      exact absurd hk (by simp)
  · intro q
    exact List.mem_iff_getElem?.mpr ⟨l.idxOf c, by rw [List.getElem?_take_of_lt q]; exact h1⟩
/-- a node's images, the reference -/
theorem r_87 {k29 : Int32 → am_I → Option am_I} {z : Nat} {l : List Nat} {base : wS} (hz : z < 4) (hl : l.length ≤ 16) (hnd : l.Nodup) (h640 : ∀ b, b ∈ l → b < 640) : ∀ (m j fu : Nat) (J : am_I), j + m = l.length → m < fu → (∀ k b, l[k]? = some b → dD J (2 + 24 * z) k = nI b) → (∀ b i, b < 640 → i < 16 → J 0 127 (16 * b + i) = cif (b ∈ l.take j) (dD J (3 + 24 * z + l.idxOf b) i) (base b i)) → ∃ J', bX11_asRecovered_87 n k29 fu (nI z) (nI (1 + 24 * z)) (nI l.length) (nI j) J = k29 (nI (z + 1)) J' ∧ (∀ b i, b < 640 → i < 16 → J' 0 127 (16 * b + i) = cif (b ∈ l) (dD J (3 + 24 * z + l.idxOf b) i) (base b i)) ∧ f127 J J' := by
  intro m
  induction m with
  | zero =>
    intro j fu J hj hfu ht hb
    obtain ⟨fu, rfl⟩ : ∃ f, fu = f + 1 := ⟨fu - 1, by omega⟩
    refine ⟨J, ?_, fun b i hb1 hi => ?_, fun _ _ _ => rfl⟩
    · unfold bX11_asRecovered_87
      dsimp only
      rw [if_pos (by rw [z_le (by omega) (by omega)]; omega), nI_add]
    · have := hb b i hb1 hi
      rw [List.take_of_length_le (by omega)] at this
      exact this
  | succ m ih =>
    intro j fu J hj hfu ht hb
    obtain ⟨fu, rfl⟩ : ∃ f, fu = f + 1 := ⟨fu - 1, by omega⟩
    obtain ⟨b, hjb⟩ : ∃ b, l[j]? = some b := ⟨_, List.getElem?_eq_getElem (by omega)⟩
    have hbm := List.mem_of_getElem? hjb
    have hb6 := h640 b hbm
    have hidx := idx_of hnd hjb
    obtain ⟨f, hf, hf1⟩ := fu_ex
    obtain ⟨J1, c1, c2, c3⟩ := r_112 (n := n) (k29 := k29) (k87 := bX11_asRecovered_87 n k29 fu) (l1 := nI z) (l3 := nI l.length) (h := 1 + 24 * z) (j := j) (b := b) hb6 (by omega) 16 0 am_fu J (by omega) (by rw [hf]; omega)
    have eD : dD J1 = dD J := by unfold dD; rw [c3 0 64 (by omega)]
    obtain ⟨J', g1, g2, g3⟩ := ih (j + 1) fu J1 (by omega) (by omega) (by rw [eD]; exact ht) (fun b' i hb' hi => by
      rw [c2, eD]
      by_cases d : b' = b
      · subst d
        rw [if_pos (by omega), cif_pos ((tk_s hjb b').mpr (Or.inr rfl)), hidx]
        show J 0 64 (16 * (1 + 24 * z + 2 + j) + (16 * b' + i - 16 * b')) = J 0 64 (16 * (3 + 24 * z + j) + i)
        exact congrArg (J 0 64) (by omega)
      · rw [if_neg (by omega), hb b' i hb' hi]
        by_cases e : b' ∈ l.take j
        · rw [cif_pos e, cif_pos ((tk_s hjb b').mpr (Or.inl e))]
        · rw [cif_neg e, cif_neg (fun q => ((tk_s hjb b').mp q).elim e d)])
    refine ⟨J', ?_, by rw [eD] at g2; exact g2, fun a c q => (g3 a c q).trans (c3 a c q)⟩
    have ht' : J 0 64 (16 * (2 + 24 * z) + j) = nI b := ht j b hjb
    conv => lhs; unfold bX11_asRecovered_87
    dsimp only
    rw [if_neg (by rw [z_le (by omega) (by omega)]; omega), nI_add, pk_mul, nI_add, am_gd_of (by rw [z_inb (by omega)]; exact decide_eq_true (by omega)), z_clamp (by omega), show 16 * (1 + 24 * z + 1) + j = 16 * (2 + 24 * z) + j by omega, ht', c1, g1]
/-- a node's images, the class -/
theorem c_83 {k24 : Int32 → am_I → Option am_I} {z : Nat} {l : List Nat} {D base : wS} (hz : z < 4) (hl : l.length ≤ 16) (hnd : l.Nodup) (h640 : ∀ b, b ∈ l → b < 640) (ht : ∀ k b, l[k]? = some b → D (2 + 24 * z) k = nI b) : ∀ (m j fu : Nat) (I : am_I), j + m = l.length → m < fu → (∀ b i, b < 640 → i < 16 → I 0 1 (16 * b + i) = D b i) → (∀ b, b < 640 → ∃ σ : Nat, σ < 640 ∧ I 0 22 b = nI σ ∧ ∀ i, i < 16 → D σ i = cif (b ∈ l.take j) (D (3 + 24 * z + l.idxOf b) i) (base b i)) → ∃ I', bX2_recoverAll_83 n k24 fu (nI z) (nI (1 + 24 * z)) (nI l.length) (nI j) I = k24 (nI (z + 1)) I' ∧ (∀ b, b < 640 → ∃ σ : Nat, σ < 640 ∧ I' 0 22 b = nI σ ∧ ∀ i, i < 16 → D σ i = cif (b ∈ l) (D (3 + 24 * z + l.idxOf b) i) (base b i)) ∧ f22 I I' := by
  intro m
  induction m with
  | zero =>
    intro j fu I hj hfu hD hb
    obtain ⟨fu, rfl⟩ : ∃ f, fu = f + 1 := ⟨fu - 1, by omega⟩
    refine ⟨I, ?_, fun b hb1 => ?_, fun _ _ _ => rfl⟩
    · unfold bX2_recoverAll_83
      dsimp only
      rw [if_pos (by rw [z_le (by omega) (by omega)]; omega), bX2_recoverAll_133, nI_add]
    · have := hb b hb1
      rw [List.take_of_length_le (by omega)] at this
      exact this
  | succ m ih =>
    intro j fu I hj hfu hD hb
    obtain ⟨fu, rfl⟩ : ∃ f, fu = f + 1 := ⟨fu - 1, by omega⟩
    obtain ⟨b, hjb⟩ : ∃ b, l[j]? = some b := ⟨_, List.getElem?_eq_getElem (by omega)⟩
    have hbm := List.mem_of_getElem? hjb
    have hb6 := h640 b hbm
    have hidx := idx_of hnd hjb
    obtain ⟨I', g1, g2, g3⟩ := ih (j + 1) fu (am_up I 0 22 b (nI (3 + 24 * z + j))) (by omega) (by omega) (fun b' i hb' hi => by rw [z_upj _ _ _ _ _ _ _ (by omega)]; exact hD b' i hb' hi) (fun b' hb' => by
      rw [z_upk]
      by_cases d : b' = b
      · subst d
        refine ⟨3 + 24 * z + j, by omega, if_pos rfl, fun i hi => ?_⟩
        rw [cif_pos ((tk_s hjb b').mpr (Or.inr rfl)), hidx]
      · obtain ⟨σ, s1, s2, s3⟩ := hb b' hb'
        refine ⟨σ, s1, by rw [if_neg d]; exact s2, fun i hi => ?_⟩
        rw [s3 i hi]
        by_cases e : b' ∈ l.take j
        · rw [cif_pos e, cif_pos ((tk_s hjb b').mpr (Or.inl e))]
        · rw [cif_neg e, cif_neg (fun q => ((tk_s hjb b').mp q).elim e d)])
    refine ⟨I', ?_, g2, fun a c q => (g3 a c q).trans (z_upj _ _ _ _ _ _ _ q)⟩
    have ht' : I 0 1 (16 * (2 + 24 * z) + j) = nI b := (hD _ _ (by omega) (by omega)).trans (ht j b hjb)
    have isb : gX10_isBlock n (nI b) I = some (nI 1, I) := by
      rw [gX10_isBlock, bX10_isBlock_0, z_0, if_neg (by rw [z_lt (by omega) (by omega)]; omega), if_neg (by rw [z_le (by omega) (by omega)]; omega)]
      rfl
    have ea : (nI (1 + 24 * z) + nI 1) * nI 16 + nI j = nI (16 * (2 + 24 * z) + j) := by
      rw [nI_add, pk_mul, nI_add]
      exact congrArg nI (by omega)
    have eb : nI (1 + 24 * z) + nI 2 + nI j = nI (3 + 24 * z + j) := by
      rw [nI_add, nI_add]
      exact congrArg nI (by omega)
    conv => lhs; unfold bX2_recoverAll_83
    dsimp only
    rw [if_neg (by rw [z_le (by omega) (by omega)]; omega), ea, am_gd_of (by rw [z_inb (by omega)]; exact decide_eq_true (by omega)), z_clamp (by omega), ht', isb, Option.bind_some]
    dsimp only
    rw [if_neg n10, am_gd_of (by rw [z_inb (by omega)]; exact decide_eq_true hb6), eb, z_clamp (by omega), am_lt, bX2_recoverAll_127, nI_add]
    exact g1
/-- what a head tells of a node -/
theorem fj_h {z fq : Nat} {D fw : wS} {fbz jlz : List Nat} (h : FJ z D fbz jlz fq fw) : (D (1 + 24 * z) 2 = nI 1 → ¬ jlz = [] ∧ D (1 + 24 * z) 1 = nI jlz.length ∧ ∀ k b, jlz[k]? = some b → D (2 + 24 * z) k = nI b) ∧ (¬ D (1 + 24 * z) 2 = nI 1 → jlz = []) ∧ jlz.length ≤ 16 ∧ jlz.Nodup ∧ ∀ b, b ∈ jlz → b < 640 := by
  obtain ⟨h1, ⟨h2, h3, h4⟩, h5, h6, h7⟩ := h
  refine ⟨fun q => ⟨h5.mp q, (h6 (h5.mp q)).1, (h6 (h5.mp q)).2⟩, fun q => Classical.byContradiction fun w => q (h5.mpr w), h3, h2, fun b hb => (h4 b hb).2⟩
theorem sR_no {z b i : Nat} (h : jl z = []) : sR lg fb jl I J (z + 1) b i = sR lg fb jl I J z b i := by
  rw [sR_s, h]
  exact cif_neg List.not_mem_nil
/-- all nodes, the reference -/
theorem r_29 {I0 J0 : am_I} {fq : Nat → Nat} {fw : Nat → wS} (hn : n ≤ 4) (h1 : J0 0 60 1 = nI n) (hF : ∀ z, z < n → FJ z (dD J0) (fb z) (jl z) (fq z) (fw z)) (hj : ∀ z, z < n → (J0 0 66 z = nI 0 ∨ J0 0 66 z = nI 1) ∧ (¬ J0 0 66 z = nI 1 → jl z = [])) : ∀ (m z fu : Nat) (J : am_I), z + m = n → m < fu → f127 J0 J → (∀ b i, b < 640 → i < 16 → J 0 127 (16 * b + i) = sR lg fb jl I0 J0 z b i) → ∃ J', bX11_asRecovered_29 n fu (nI z) J = some J' ∧ (∀ b i, b < 640 → i < 16 → J' 0 127 (16 * b + i) = sR lg fb jl I0 J0 n b i) ∧ f127 J0 J' := by
  obtain ⟨f, hf, hf1⟩ := fu_ex
  intro m
  induction m with
  | zero =>
    intro z fu J hz hfu hfr hb
    obtain ⟨fu, rfl⟩ : ∃ f, fu = f + 1 := ⟨fu - 1, by omega⟩
    refine ⟨J, ?_, by rw [show n = z by omega]; exact hb, hfr⟩
    unfold bX11_asRecovered_29
    dsimp only
    rw [hfr 0 60 (by omega), h1, if_pos (by rw [z_le (by omega) (by omega)]; omega)]
  | succ m ih =>
    intro z fu J hz hfu hfr hb
    obtain ⟨fu, rfl⟩ : ∃ f, fu = f + 1 := ⟨fu - 1, by omega⟩
    obtain ⟨d1, d2⟩ := hj z (by omega)
    obtain ⟨e1, e2, e3, e4, e5⟩ := fj_h (hF z (by omega))
    have ek : nI 1 + nI 24 * nI z = nI (1 + 24 * z) := by rw [pk_mul, nI_add]
    have m2 : nI 16 * nI (1 + 24 * z) + nI 2 = nI (16 * (1 + 24 * z) + 2) := by rw [pk_mul, nI_add]
    have m1 : nI 16 * nI (1 + 24 * z) + nI 1 = nI (16 * (1 + 24 * z) + 1) := by rw [pk_mul, nI_add]
    have c0 : ∀ c, c < 16 → am_inb (nI (16 * (1 + 24 * z) + c)) 10240 = true := fun c hc => by rw [z_inb (by omega)]; exact decide_eq_true (by omega)
    have head : bX11_asRecovered_29 n (fu + 1) (nI z) J = if J0 0 66 z = nI 1 ∧ dD J0 (1 + 24 * z) 2 = nI 1 then bX11_asRecovered_87 n (bX11_asRecovered_29 n fu) am_fu (nI z) (nI (1 + 24 * z)) (dD J0 (1 + 24 * z) 1) (nI 0) J else bX11_asRecovered_87 n (bX11_asRecovered_29 n fu) am_fu (nI z) (nI (1 + 24 * z)) (nI 0) (nI 0) J := by
      conv => lhs; unfold bX11_asRecovered_29
      dsimp only
      rw [hfr 0 60 (by omega), h1, if_neg (by rw [z_le (by omega) (by omega)]; omega), am_gd_of (by rw [z_inb (by omega)]; exact decide_eq_true (by omega)), z_clamp (by omega), hfr 0 66 (by omega), ek, m2, am_gd_of (c0 2 (by omega)), z_clamp (by omega), hfr 0 64 (by omega), m1, am_gd_of (c0 1 (by omega)), z_clamp (by omega)]
      rcases d1 with q | q
      · rw [if_pos (show J0 0 66 z = 0 from q), if_neg (fun w => by rw [q] at w; exact absurd w.1 (by decide))]
        rfl
      · rw [if_neg (show ¬ J0 0 66 z = 0 by rw [q]; decide)]
        by_cases w : dD J0 (1 + 24 * z) 2 = nI 1
        · rw [if_pos (show J0 0 64 (16 * (1 + 24 * z) + 2) = nI 1 from w), if_pos ⟨q, w⟩]
          rfl
        · rw [if_neg (show ¬ J0 0 64 (16 * (1 + 24 * z) + 2) = nI 1 from w), if_neg (fun v => w v.2)]
          rfl
    have eD : dD J = dD J0 := by unfold dD; rw [hfr 0 64 (by omega)]
    by_cases c : J0 0 66 z = nI 1 ∧ dD J0 (1 + 24 * z) 2 = nI 1
    · obtain ⟨g1, g2, g3⟩ := e1 c.2
      obtain ⟨J1, p1, p2, p3⟩ := r_87 (n := n) (k29 := bX11_asRecovered_29 n fu) (z := z) (base := sR lg fb jl I0 J0 z) (by omega) e3 e4 e5 (jl z).length 0 am_fu J (by omega) (by rw [hf]; omega) (by rw [eD]; exact g3) (fun b i hb1 hi => by rw [hb b i hb1 hi, List.take_zero, cif_neg List.not_mem_nil])
      obtain ⟨J', q1, q2, q3⟩ := ih (z + 1) fu J1 (by omega) (by omega) (fun a b q => (p3 a b q).trans (hfr a b q)) (fun b i hb1 hi => by rw [p2 b i hb1 hi, sR_s, eD])
      exact ⟨J', by rw [head, if_pos c, g2, p1, q1], q2, q3⟩
    · have hnil : jl z = [] := by
        by_cases q : J0 0 66 z = nI 1
        · exact e2 (fun w => c ⟨q, w⟩)
        · exact d2 q
      obtain ⟨J', q1, q2, q3⟩ := ih (z + 1) fu J (by omega) (by omega) hfr (fun b i hb1 hi => by rw [sR_no hnil]; exact hb b i hb1 hi)
      refine ⟨J', ?_, q2, q3⟩
      rw [head, if_neg c, hf]
      conv => lhs; unfold bX11_asRecovered_87
      dsimp only
      rw [if_pos (by decide), nI_add]
      exact q1
theorem r_asr2 : ∀ (m k fu : Nat) (J : am_I), k + m = 10240 → m < fu → ∃ J', bX11_asRecovered_2 n fu (nI k) J = bX11_asRecovered_29 n am_fu (nI 0) J' ∧ (∀ c, J' 0 127 c = if k ≤ c ∧ c < 10240 then J 0 64 c else J 0 127 c) ∧ f127 J J' := by
  intro m
  induction m with
  | zero =>
    intro k fu J hk hfu
    obtain ⟨fu, rfl⟩ : ∃ f, fu = f + 1 := ⟨fu - 1, by omega⟩
    refine ⟨J, ?_, fun c => by rw [if_neg (by omega)], fun _ _ _ => rfl⟩
    unfold bX11_asRecovered_2
    dsimp only
    rw [if_pos (by rw [z_le (by omega) (by omega)]; omega)]
  | succ m ih =>
    intro k fu J hk hfu
    obtain ⟨fu, rfl⟩ : ∃ f, fu = f + 1 := ⟨fu - 1, by omega⟩
    have ga : am_inb (nI k) 10240 = true := by rw [z_inb (by omega)]; exact decide_eq_true (by omega)
    obtain ⟨J', h1, h2, h3⟩ := ih (k + 1) fu (am_up J 0 127 k (J 0 64 k)) (by omega) (by omega)
    refine ⟨J', ?_, fun c => ?_, fun a b q => (h3 a b q).trans (z_upj _ _ _ _ _ _ _ q)⟩
    · conv => lhs; unfold bX11_asRecovered_2
      dsimp only
      rw [if_neg (by rw [z_le (by omega) (by omega)]; omega), am_gd_of ga, am_gd_of ga, z_clamp (by omega), am_lt, nI_add]
      exact h1
    · rw [h2 c, z_upj _ _ _ _ _ _ _ (show ¬ (0 = 0 ∧ 64 = 127) by omega), z_upk]
      by_cases d : k + 1 ≤ c ∧ c < 10240
      · rw [if_pos d, if_pos (by omega)]
      · rw [if_neg d]
        by_cases e : c = k
        · rw [if_pos e, if_pos (by omega), e]
        · rw [if_neg e, if_neg (by omega)]
/-- all nodes, the class -/
theorem c_24 {I0 J0 : am_I} {fq : Nat → Nat} {fw : Nat → wS} (hn : n ≤ 4) (hd : ∀ k, k < 10240 → I0 0 1 k = J0 0 64 k) (hF : ∀ z, z < n → FJ z (dD J0) (fb z) (jl z) (fq z) (fw z)) (hj : ∀ z, z < n → I0 z 40 6 = J0 0 66 z ∧ (J0 0 66 z = nI 0 ∨ J0 0 66 z = nI 1) ∧ (¬ J0 0 66 z = nI 1 → jl z = [])) : ∀ (m z fu : Nat) (I : am_I), z + m = n → m < fu → f22 I0 I → (∀ b, b < 640 → ∃ σ : Nat, σ < 640 ∧ I 0 22 b = nI σ ∧ ∀ i, i < 16 → dD J0 σ i = sR lg fb jl I0 J0 z b i) → ∃ I', bX2_recoverAll_24 n fu (nI z) I = some I' ∧ (∀ b, b < 640 → ∃ σ : Nat, σ < 640 ∧ I' 0 22 b = nI σ ∧ ∀ i, i < 16 → dD J0 σ i = sR lg fb jl I0 J0 n b i) ∧ f22 I0 I' := by
  obtain ⟨f, hf, hf1⟩ := fu_ex
  intro m
  induction m with
  | zero =>
    intro z fu I hz hfu hfr hb
    obtain ⟨fu, rfl⟩ : ∃ f, fu = f + 1 := ⟨fu - 1, by omega⟩
    refine ⟨I, ?_, by rw [show n = z by omega]; exact hb, hfr⟩
    unfold bX2_recoverAll_24
    dsimp only
    rw [if_pos (by rw [z_le (by omega) (by omega)]; omega)]
  | succ m ih =>
    intro z fu I hz hfu hfr hb
    obtain ⟨fu, rfl⟩ : ∃ f, fu = f + 1 := ⟨fu - 1, by omega⟩
    obtain ⟨d0, d1, d2⟩ := hj z (by omega)
    obtain ⟨e1, e2, e3, e4, e5⟩ := fj_h (hF z (by omega))
    have hD : ∀ b i, b < 640 → i < 16 → I 0 1 (16 * b + i) = dD J0 b i := fun b i hb1 hi => by rw [hfr 0 1 (by omega)]; exact hd _ (by omega)
    have hb1 : gX10_headBlock n (nI z) I = some (nI (1 + 24 * z), I) := by rw [gX10_headBlock, bX10_headBlock_0, pk_mul, nI_add]
    have m2 : nI (1 + 24 * z) * nI 16 + nI 2 = nI (16 * (1 + 24 * z) + 2) := by rw [pk_mul, nI_add, Nat.mul_comm _ 16]
    have m1 : nI (1 + 24 * z) * nI 16 + nI 1 = nI (16 * (1 + 24 * z) + 1) := by rw [pk_mul, nI_add, Nat.mul_comm _ 16]
    have c0 : ∀ c, c < 16 → am_inb (nI (16 * (1 + 24 * z) + c)) 10240 = true := fun c hc => by rw [z_inb (by omega)]; exact decide_eq_true (by omega)
    have head : bX2_recoverAll_24 n (fu + 1) (nI z) I = if J0 0 66 z = nI 1 ∧ dD J0 (1 + 24 * z) 2 = nI 1 then bX2_recoverAll_83 n (bX2_recoverAll_24 n fu) am_fu (nI z) (nI (1 + 24 * z)) (if nI 16 ≤ dD J0 (1 + 24 * z) 1 then nI 16 else dD J0 (1 + 24 * z) 1) (nI 0) I else bX2_recoverAll_24 n fu (nI (z + 1)) I := by
      conv => lhs; unfold bX2_recoverAll_24
      dsimp only
      rw [if_neg (by rw [z_le (by omega) (by omega)]; omega), hb1, Option.bind_some]
      dsimp only
      rw [am_gd_of (by rw [z_inb (by omega)]; exact decide_eq_true (by omega)), z_clamp (by omega)]
      have e6 : I z 40 6 = J0 0 66 z := by rw [hfr z 40 (by omega), d0]
      have k2 : (nI (16 * (1 + 24 * z) + 2)).toNatClampNeg = 16 * (1 + 24 * z) + 2 := z_clamp (by omega)
      have k1 : (nI (16 * (1 + 24 * z) + 1)).toNatClampNeg = 16 * (1 + 24 * z) + 1 := z_clamp (by omega)
      have a2 : I 0 1 (16 * (1 + 24 * z) + 2) = dD J0 (1 + 24 * z) 2 := hD _ 2 (by omega) (by omega)
      have a1 : I 0 1 (16 * (1 + 24 * z) + 1) = dD J0 (1 + 24 * z) 1 := hD _ 1 (by omega) (by omega)
      have e33 : bX2_recoverAll_133 n (bX2_recoverAll_24 n fu) (nI z) I = bX2_recoverAll_24 n fu (nI (z + 1)) I := by rw [bX2_recoverAll_133, nI_add]
      simp only [e6, m2, m1, k2, k1, a2, a1, am_gd_of (c0 2 (by omega)), am_gd_of (c0 1 (by omega)), e33]
      rcases d1 with q | q
      · rw [if_pos (show J0 0 66 z = 0 from q), if_neg (fun w => by rw [q] at w; exact absurd w.1 (by decide))]
      · rw [if_neg (show ¬ J0 0 66 z = 0 by rw [q]; decide)]
        by_cases w : dD J0 (1 + 24 * z) 2 = nI 1
        · rw [if_pos w, if_pos (show J0 0 66 z = nI 1 ∧ dD J0 (1 + 24 * z) 2 = nI 1 from ⟨q, w⟩)]
        · rw [if_neg w, if_neg (show ¬ (J0 0 66 z = nI 1 ∧ dD J0 (1 + 24 * z) 2 = nI 1) from fun v => w v.2)]
    by_cases c : J0 0 66 z = nI 1 ∧ dD J0 (1 + 24 * z) 2 = nI 1
    · obtain ⟨g1, g2, g3⟩ := e1 c.2
      have emin : (if nI 16 ≤ nI (jl z).length then nI 16 else nI (jl z).length) = nI (jl z).length := by
        by_cases w : (jl z).length = 16
        · rw [w, if_pos (by rw [z_le (by omega) (by omega)]; omega)]
        · rw [if_neg (by rw [z_le (by omega) (by omega)]; omega)]
      obtain ⟨I1, p1, p2, p3⟩ := c_83 (n := n) (k24 := bX2_recoverAll_24 n fu) (z := z) (base := sR lg fb jl I0 J0 z) (by omega) e3 e4 e5 g3 (jl z).length 0 am_fu I (by omega) (by rw [hf]; omega) hD (fun b hb1 => by
        obtain ⟨σ, s1, s2, s3⟩ := hb b hb1
        exact ⟨σ, s1, s2, fun i hi => by rw [s3 i hi, List.take_zero, cif_neg List.not_mem_nil]⟩)
      obtain ⟨I', q1, q2, q3⟩ := ih (z + 1) fu I1 (by omega) (by omega) (fun a b q => (p3 a b q).trans (hfr a b q)) (fun b hb1 => by
        obtain ⟨σ, s1, s2, s3⟩ := p2 b hb1
        exact ⟨σ, s1, s2, fun i hi => by rw [s3 i hi, sR_s]⟩)
      exact ⟨I', by rw [head, if_pos c, g2, emin, p1, q1], q2, q3⟩
    · have hnil : jl z = [] := by
        by_cases q : J0 0 66 z = nI 1
        · exact e2 (fun w => c ⟨q, w⟩)
        · exact d2 q
      obtain ⟨I', q1, q2, q3⟩ := ih (z + 1) fu I (by omega) (by omega) hfr (fun b hb1 => by
        obtain ⟨σ, s1, s2, s3⟩ := hb b hb1
        exact ⟨σ, s1, s2, fun i hi => by rw [s3 i hi, sR_no hnil]⟩)
      exact ⟨I', by rw [head, if_neg c, q1], q2, q3⟩
theorem c_rec2 : ∀ (m k fu : Nat) (I : am_I), k + m = 640 → m < fu → ∃ I', bX2_recoverAll_2 n fu (nI k) I = bX2_recoverAll_24 n am_fu (nI 0) I' ∧ (∀ c, I' 0 22 c = if k ≤ c ∧ c < 640 then nI c else I 0 22 c) ∧ f22 I I' := by
  intro m
  induction m with
  | zero =>
    intro k fu I hk hfu
    obtain ⟨fu, rfl⟩ : ∃ f, fu = f + 1 := ⟨fu - 1, by omega⟩
    refine ⟨I, ?_, fun c => by rw [if_neg (by omega)], fun _ _ _ => rfl⟩
    unfold bX2_recoverAll_2
    dsimp only
    rw [if_pos (by rw [z_le (by omega) (by omega)]; omega)]
  | succ m ih =>
    intro k fu I hk hfu
    obtain ⟨fu, rfl⟩ : ∃ f, fu = f + 1 := ⟨fu - 1, by omega⟩
    obtain ⟨I', h1, h2, h3⟩ := ih (k + 1) fu (am_up I 0 22 k (nI k)) (by omega) (by omega)
    refine ⟨I', ?_, fun c => ?_, fun a b q => (h3 a b q).trans (z_upj _ _ _ _ _ _ _ q)⟩
    · conv => lhs; unfold bX2_recoverAll_2
      dsimp only
      rw [if_neg (by rw [z_le (by omega) (by omega)]; omega), am_gd_of (by rw [z_inb (by omega)]; exact decide_eq_true (by omega)), z_clamp (by omega), am_lt, nI_add]
      exact h1
    · rw [h2 c, z_upk]
      by_cases d : k + 1 ≤ c ∧ c < 640
      · rw [if_pos d, if_pos (by omega)]
      · rw [if_neg d]
        by_cases e : c = k
        · rw [if_pos e, if_pos (by omega), e]
        · rw [if_neg e, if_neg (by omega)]
/-- THE DISK AS RECOVERED, both sides -/
theorem k_reco {fq : Nat → Nat} {fw : Nat → wS} (hn : n ≤ 4) (h1 : J 0 60 1 = nI n) (hd : ∀ k, k < 10240 → I 0 1 k = J 0 64 k) (hF : ∀ z, z < n → FJ z (dD J) (fb z) (jl z) (fq z) (fw z)) (hj : ∀ z, z < n → I z 40 6 = J 0 66 z ∧ (J 0 66 z = nI 0 ∨ J 0 66 z = nI 1) ∧ (¬ J 0 66 z = nI 1 → jl z = [])) : ∃ I' J', gX2_recoverAll n I = some I' ∧ gX11_asRecovered n J = some J' ∧ SV (sR lg fb jl I J n) I' J' ∧ f22 I I' ∧ f127 J J' := by
  obtain ⟨f, hf, hf1⟩ := fu_ex
  have hd' : ∀ b i, b < 640 → i < 16 → I 0 1 (16 * b + i) = dD J b i := fun b i hb hi => hd _ (by omega)
  obtain ⟨I1, p1, p2, p3⟩ := c_rec2 (n := n) 640 0 am_fu I (by omega) (by rw [hf]; omega)
  obtain ⟨J1, q1, q2, q3⟩ := r_asr2 (n := n) 10240 0 am_fu J (by omega) (by unfold am_fu; omega)
  obtain ⟨I', u1, u2, u3⟩ := c_24 (n := n) (lg := lg) hn hd hF hj n 0 am_fu I1 (by omega) (by rw [hf]; omega) p3 (fun b hb => ⟨b, hb, by rw [p2, if_pos ⟨by omega, hb⟩], fun i hi => rfl⟩)
  obtain ⟨J', v1, v2, v3⟩ := r_29 (n := n) (lg := lg) (I0 := I) hn h1 hF (fun z hz => (hj z hz).2) n 0 am_fu J1 (by omega) (by rw [hf]; omega) q3 (fun b i hb hi => by
    rw [q2, if_pos ⟨by omega, by omega⟩]
    rfl)
  refine ⟨I', J', by rw [gX2_recoverAll, bX2_recoverAll_0, p1, u1], by rw [gX11_asRecovered, bX11_asRecovered_0, q1, v1], ⟨fun b hb => ?_, v2⟩, u3, v3⟩
  obtain ⟨σ, s1, s2, s3⟩ := u2 b hb
  exact ⟨σ, s1, s2, fun i hi => by rw [u3 0 1 (by omega), hd' σ i s1 hi]; exact s3 i hi⟩
end RECO
