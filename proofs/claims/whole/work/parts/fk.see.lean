
/-- the store that looking sees: the class by sources, the reference by a copy -/
def SV (S : wS) (I J : am_I) : Prop := (∀ b, b < 640 → ∃ σ : Nat, σ < 640 ∧ I 0 22 b = nI σ ∧ ∀ i, i < 16 → I 0 1 (16 * σ + i) = S b i) ∧ ∀ b i, b < 640 → i < 16 → J 0 127 (16 * b + i) = S b i
section SEE
variable {n : Nat} {S : wS} {I J : am_I}
theorem sv_fr {I' J' : am_I} (h : SV S I J) (h1 : I' 0 1 = I 0 1) (h2 : I' 0 22 = I 0 22) (h3 : J' 0 127 = J 0 127) : SV S I' J' := by
  unfold SV at h ⊢
  rw [h1, h2, h3]
  exact h
theorem w_D640 {b : Nat} (h : w_D b) : b < 640 := h.2.1
theorem x_isw1 {b i : Nat} (hb : b < 640) (hi : i < 16) : gX10_isWord n (nI b) (nI i) I = some (nI 1, I) := by
  rw [gX10_isWord, bX10_isWord_0, z_0, if_neg (by rw [z_lt (by omega) (by omega)]; omega), if_neg (by rw [z_le (by omega) (by omega)]; omega), if_neg (by rw [z_lt (by omega) (by omega)]; omega), if_neg (by rw [z_le (by omega) (by omega)]; omega)]
  rfl
theorem sv_at {b i : Nat} (h : SV S I J) (hb : b < 640) (hi : i < 16) : gX2_at n (nI b) (nI i) I = some (S b i, I) := by
  obtain ⟨s, h1, h2, h3⟩ := h.1 b hb
  rw [gX2_at, bX2_at_0, x_isw1 hb hi, Option.bind_some]
  dsimp only
  rw [if_neg n10, am_gd_of (by rw [z_inb (by omega)]; exact decide_eq_true hb), z_clamp (by omega), h2, pk_mul, nI_add, am_gd_of (by rw [z_inb (by omega)]; exact decide_eq_true (by omega)), z_clamp (by omega), Nat.mul_comm s 16, h3 i hi]
  rfl
theorem sv_kind {k : Nat} (h : SV S I J) (hk : k < 128) : gX2_kindOf n (nI k) I = some (S (w_ib k) 0, I) := by
  rw [gX2_kindOf, bX2_kindOf_0, c_ib n k I hk, Option.bind_some]
  dsimp only
  rw [sv_at h (w_ib_lt hk) (by omega), Option.bind_some]
theorem sv_ai {k i : Nat} (h : SV S I J) (hk : k < 128) (hi : i < 16) : gX11_allInode n (nI k) (nI i) J = some (S (w_ib k) i, J) := by
  have := w_ib_lt hk
  rw [gX11_allInode, bX11_allInode_0, a_ib n k J hk, Option.bind_some]
  dsimp only
  rw [pk_mul, nI_add, am_gd_of (by rw [z_inb (by omega)]; exact decide_eq_true (by omega)), z_clamp (by omega), h.2 _ _ this hi]
theorem a_isd0 : gX11_isData n (nI 0) J = some (nI 0, J) := by
  rw [gX11_isData, bX11_isData_0, x_in0 (Or.inl (by decide)) (by omega), Option.bind_some]
  dsimp only
  rw [if_pos n00]
  rfl
theorem a_isd1 {b : Nat} (hb : w_D b) : gX11_isData n (nI b) J = some (nI 1, J) := by
  obtain ⟨h1, h2, h3⟩ := hb
  rw [gX11_isData, bX11_isData_0, x_in1 h1 (by omega) (by omega), Option.bind_some]
  dsimp only
  rw [if_neg n10, pk_sub (by omega), z_mod (by omega) (by omega) (by omega), if_neg (by rw [z_le (by omega) (by omega)]; omega)]
  rfl
theorem c_isd1 {b : Nat} (hb : w_D b) : gX10_isData n (nI b) I = some (nI 1, I) := by
  obtain ⟨h1, h2, h3⟩ := hb
  rw [gX10_isData, bX10_isData_0, if_neg (by rw [z_lt (by omega) (by omega)]; omega), if_neg (by rw [z_le (by omega) (by omega)]; omega), pk_sub (by omega), z_mod (by omega) (by omega) (by omega), if_neg (by rw [z_lt (by omega) (by omega)]; omega)]
  rfl
theorem s_61 {x : Int32} {w : Nat} (h : SV S I J) (hw : w < 384) (hx : w_pt x) : bX11_allWord_61 n (nI w) x J = some (if x = nI 0 then nI 0 else S x.toNatClampNeg (w % 16), J) := by
  rcases hx with rfl | ⟨b, rfl, hb⟩
  · rw [bX11_allWord_61, x_in0 (Or.inl (by decide)) (by omega), Option.bind_some]
    dsimp only
    rw [if_pos n00, if_pos rfl]
    rfl
  · have h2 := w_D640 hb
    have h1 := hb.1
    rw [bX11_allWord_61, x_in1 (by omega) (by omega) (by omega), Option.bind_some]
    dsimp only
    rw [if_neg n10, z_mod (by omega) (by omega) (by omega), pk_mul, nI_add, am_gd_of (by rw [z_inb (by omega)]; exact decide_eq_true (by omega)), z_clamp (by omega), h.2 b _ h2 (by omega), if_neg (w_D0 hb), z_clamp (by omega)]
    rfl
theorem sv_aw {k w : Nat} (h : SV S I J) (hA : w_A S) (hk : k < 128) (hw : w < 384) : gX11_allWord n (nI k) (nI w) J = some (v_nm S k w, J) := by
  have hp := hA k (w / 16) hk (by omega)
  rw [gX11_allWord, bX11_allWord_0]
  by_cases c : 128 ≤ w
  · have e : w_pl S k (w / 16) = if S (w_ib k) 11 = nI 0 then nI 0 else S (S (w_ib k) 11).toNatClampNeg (w / 16 - 8) := by
      unfold w_pl
      rw [if_neg (by omega), if_neg (by omega)]
    rw [if_pos (by rw [z_le (by omega) (by omega)]; omega), sv_ai h hk (by omega), Option.bind_some]
    dsimp only
    by_cases d : S (w_ib k) 11 = nI 0
    · rw [if_pos d] at e
      rw [d, a_isd0, Option.bind_some]
      dsimp only
      rw [if_pos n00, s_61 h hw (Or.inl rfl), if_pos rfl]
      unfold v_nm
      rw [e, if_pos rfl]
    · obtain ⟨b, b1, b2, -⟩ := w_ix hA hk d
      have hb := w_D640 b2
      rw [if_neg d, b1, z_clamp (by omega)] at e
      rw [b1, a_isd1 b2, Option.bind_some]
      dsimp only
      rw [if_neg n10, sv_ai h hk (by omega), Option.bind_some]
      dsimp only
      rw [b1, pk_div (by omega) (by omega) (by omega), pk_mul, nI_add, pk_sub (by omega), am_gd_of (by rw [z_inb (by omega)]; exact decide_eq_true (by omega)), z_clamp (by omega), show 16 * b + w / 16 - 8 = 16 * b + (w / 16 - 8) by omega, h.2 b _ hb (by omega), ← e, s_61 h hw hp]
      rfl
  · have e : w_pl S k (w / 16) = S (w_ib k) (3 + w / 16) := by
      unfold w_pl
      rw [if_pos (by omega)]
    rw [if_neg (by rw [z_le (by omega) (by omega)]; omega), pk_div (by omega) (by omega) (by omega), nI_add, sv_ai h hk (by omega), Option.bind_some]
    dsimp only
    rw [← e, s_61 h hw hp]
    rfl
/-- the class's block of an entry -/
theorem s_blk {fu d w z : Nat} (h : SV S I J) (hA : w_A S) (hd : d < 128) (hw : w < 384) (hz : w < z) (hz2 : z ≤ 384) : bX2_followEntries_30 n (fu + 1) (nI (w_ib d)) (nI z) (S (w_ib d) 11) (nI w) I = bX2_followEntries_82 n (bX2_followEntries_30 n fu) (nI (w_ib d)) (nI z) (S (w_ib d) 11) (nI w) (w_pl S d (w / 16)) I := by
  conv => lhs; unfold bX2_followEntries_30
  dsimp only
  rw [if_neg (by rw [z_le (by omega) (by omega)]; omega), pk_div (by omega) (by omega) (by omega)]
  by_cases c : 128 ≤ w
  · have e : w_pl S d (w / 16) = if S (w_ib d) 11 = nI 0 then nI 0 else S (S (w_ib d) 11).toNatClampNeg (w / 16 - 8) := by
      unfold w_pl
      rw [if_neg (by omega), if_neg (by omega)]
    rw [if_pos (by rw [z_le (by omega) (by omega)]; omega), e]
    by_cases c2 : S (w_ib d) 11 = nI 0
    · rw [if_pos (show S (w_ib d) 11 = 0 from c2), if_pos c2]
    · obtain ⟨b, b1, b2, -⟩ := w_ix hA hd c2
      have hb := w_D640 b2
      rw [if_neg (show ¬ S (w_ib d) 11 = 0 from c2), if_neg c2, b1, pk_sub (by omega), sv_at h hb (by omega), Option.bind_some, z_clamp (by omega)]
  · have e : w_pl S d (w / 16) = S (w_ib d) (3 + w / 16) := by
      unfold w_pl
      rw [if_pos (by omega)]
    rw [if_neg (by rw [z_le (by omega) (by omega)]; omega), nI_add, sv_at h (w_ib_lt hd) (by omega), Option.bind_some, e]
end SEE
/-- what the walks change -/
def FW (I J I' J' : am_I) : Prop := (∀ a b, ¬ (a = 0 ∧ (b = 21 ∨ (23 ≤ b ∧ b ≤ 26))) → I' a b = I a b) ∧ ∀ a b, ¬ (a = 0 ∧ (128 ≤ b ∧ b ≤ 131)) → J' a b = J a b
theorem FW.rf {I J : am_I} : FW I J I J := ⟨fun _ _ _ => rfl, fun _ _ _ => rfl⟩
theorem FW.tr {I J I' J' I'' J'' : am_I} (h : FW I J I' J') (h' : FW I' J' I'' J'') : FW I J I'' J'' := ⟨fun a b q => (h'.1 a b q).trans (h.1 a b q), fun a b q => (h'.2 a b q).trans (h.2 a b q)⟩
theorem sv_fw {S : wS} {I J I' J' : am_I} (h : SV S I J) (f : FW I J I' J') : SV S I' J' := sv_fr h (f.1 0 1 (by omega)) (f.1 0 22 (by omega)) (f.2 0 127 (by omega))
theorem fw_I {I J : am_I} {b k : Nat} {v : Int32} (hb : b = 21 ∨ (23 ≤ b ∧ b ≤ 26)) : FW I J (am_up I 0 b k v) J := ⟨fun _ _ q => z_upj _ _ _ _ _ _ _ (by omega), fun _ _ _ => rfl⟩
theorem fw_J {I J : am_I} {b k : Nat} {v : Int32} (hb : 128 ≤ b ∧ b ≤ 131) : FW I J I (am_up J 0 b k v) := ⟨fun _ _ _ => rfl, fun _ _ q => z_upj _ _ _ _ _ _ _ (by omega)⟩
/-- a directory -/
def dr (S : wS) (t : Nat) : Bool := decide (S (w_ib t) 0 = nI 2)
/-- THE WALKS: what both have found so far -/
def WK (S : wS) (I J : am_I) (Q : List Nat) (b : Nat) : Prop :=
  b ≤ 1 ∧ I 0 21 7 = nI b ∧ (∀ t, t < 128 → I 0 23 t = J 0 129 t ∧ (S (w_ib t) 0 = nI 0 → J 0 129 t = nI 0)) ∧ (∀ t, t < 128 → I 0 24 t = J 0 128 t ∧ (J 0 128 t = nI 0 ∨ J 0 128 t = nI 1)) ∧ Q.Nodup ∧ (∀ t, t ∈ Q → t < 128 ∧ J 0 128 t = nI 1) ∧ (∀ k t, Q[k]? = some t → J 0 130 k = nI t) ∧ I 0 21 5 = nI (Q.filter (dr S)).length ∧ ∀ k t, (Q.filter (dr S))[k]? = some t → I 0 25 k = nI t
section WALK
variable {n : Nat} {S : wS} {I J : am_I} {Q : List Nat} {b t : Nat}
theorem wk_len (h : WK S I J Q b) : Q.length ≤ 128 := by
  have := pigeon Q (List.range 128) h.2.2.2.2.1 (fun a ha => List.mem_range.mpr (h.2.2.2.2.2.1 a ha).1)
  rw [List.length_range] at this
  exact this
theorem wk_nm (h : WK S I J Q b) (hk : ¬ S (w_ib t) 0 = nI 0) : WK S (am_up I 0 23 t (I 0 23 t + nI 1)) (am_up J 0 129 t (J 0 129 t + nI 1)) Q b := by
  obtain ⟨h1, h2, h3, h4, h5, h6, h7, h8, h9⟩ := h
  have oI : ∀ j, ¬ j = 23 → am_up I 0 23 t (I 0 23 t + nI 1) 0 j = I 0 j := fun j q => z_upj _ _ _ _ _ _ _ (by omega)
  have oJ : ∀ j, ¬ j = 129 → am_up J 0 129 t (J 0 129 t + nI 1) 0 j = J 0 j := fun j q => z_upj _ _ _ _ _ _ _ (by omega)
  refine ⟨h1, by rw [oI 21 (by omega)]; exact h2, fun u hu => ?_, fun u hu => by rw [oI 24 (by omega), oJ 128 (by omega)]; exact h4 u hu, h5, fun u hu => by rw [oJ 128 (by omega)]; exact h6 u hu, fun k u hk => by rw [oJ 130 (by omega)]; exact h7 k u hk, by rw [oI 21 (by omega)]; exact h8, fun k u hk => by rw [oI 25 (by omega)]; exact h9 k u hk⟩
  rw [z_upk, z_upk]
  by_cases c : u = t
  · subst c
    rw [if_pos rfl, if_pos rfl, (h3 u hu).1]
    exact ⟨rfl, fun q => absurd q hk⟩
  · rw [if_neg c, if_neg c]
    exact h3 u hu
theorem wk_bad (h : WK S I J Q b) : WK S (am_up I 0 21 7 (nI 1)) J Q 1 := by
  obtain ⟨h1, h2, h3, h4, h5, h6, h7, h8, h9⟩ := h
  have oI : ∀ j, ¬ j = 21 → am_up I 0 21 7 (nI 1) 0 j = I 0 j := fun j q => z_upj _ _ _ _ _ _ _ (by omega)
  exact ⟨by omega, by rw [z_upk, if_pos rfl], fun u hu => by rw [oI 23 (by omega)]; exact h3 u hu, fun u hu => by rw [oI 24 (by omega)]; exact h4 u hu, h5, h6, h7, by rw [z_upk, if_neg (by omega)]; exact h8, fun k u hk => by rw [oI 25 (by omega)]; exact h9 k u hk⟩
/-- an inode is reached for the first time -/
theorem wk_rc (hs : SV S I J) (h : WK S I J Q b) (ht : t < 128) (h0 : J 0 128 t = nI 0) : ∃ I', gX2_reach n (nI t) I = some I' ∧ WK S I' (am_up (am_up J 0 128 t (nI 1)) 0 130 Q.length (nI t)) (Q ++ [t]) b ∧ Q.length < 128 ∧ FW I J I' (am_up (am_up J 0 128 t (nI 1)) 0 130 Q.length (nI t)) := by
  have hl := wk_len h
  obtain ⟨h1, h2, h3, h4, h5, h6, h7, h8, h9⟩ := h
  have hnt : ¬ t ∈ Q := fun q => by
    have := (h6 t q).2
    rw [h0] at this
    exact absurd this (by decide)
  have hq : Q.length < 128 := by
    have := pigeon (t :: Q) (List.range 128) (List.nodup_cons.mpr ⟨hnt, h5⟩) (fun a ha => by
      rcases List.mem_cons.mp ha with rfl | c
      · exact List.mem_range.mpr ht
      · exact List.mem_range.mpr (h6 a c).1)
    rw [List.length_range, List.length_cons] at this
    omega
  have hf : (Q.filter (dr S)).length ≤ Q.length := List.length_filter_le _ _
  have ga : am_inb (nI t) 128 = true := by rw [z_inb (by omega)]; exact decide_eq_true ht
  have ka : (nI t).toNatClampNeg = t := z_clamp (by omega)
  have hs3 : SV S (am_up I 0 24 t (nI 1)) J := sv_fw hs (fw_I (by omega))
  have o21 : am_up I 0 24 t (nI 1) 0 21 = I 0 21 := z_upj _ _ _ _ _ _ _ (by omega)
  have e0 : gX2_reach n (nI t) I = if S (w_ib t) 0 = nI 2 then some (am_up (am_up (am_up I 0 24 t (nI 1)) 0 25 (Q.filter (dr S)).length (nI t)) 0 21 5 (nI ((Q.filter (dr S)).length + 1))) else some (am_up I 0 24 t (nI 1)) := by
    rw [gX2_reach, bX2_reach_0, am_gd_of ga, ka, if_pos (show I 0 24 t = 0 by rw [(h4 t ht).1, h0]; rfl), am_gd_of ga, am_lt, sv_kind hs3 ht, Option.bind_some]
    dsimp only
    by_cases c : S (w_ib t) 0 = nI 2
    · have e5 : am_up I 0 24 t (nI 1) 0 21 5 = nI (Q.filter (dr S)).length := by rw [o21]; exact h8
      rw [if_pos c, if_pos c]
      simp only [e5]
      rw [if_neg (by rw [z_le (by omega) (by omega)]; omega), am_gd_of (by rw [z_inb (by omega)]; exact decide_eq_true (by omega)), z_clamp (by omega), am_lt, am_lt, z_upj _ _ _ _ _ _ _ (show ¬ (0 = 0 ∧ 21 = 25) by omega), o21, h8, nI_add]
      rfl
    · rw [if_neg c, if_neg c]
      rfl
  have jo : ∀ j, ¬ (j = 128 ∨ j = 130) → am_up (am_up J 0 128 t (nI 1)) 0 130 Q.length (nI t) 0 j = J 0 j := fun j q => (z_upj _ _ _ _ _ _ _ (by omega)).trans (z_upj _ _ _ _ _ _ _ (by omega))
  have j128 : ∀ k, am_up (am_up J 0 128 t (nI 1)) 0 130 Q.length (nI t) 0 128 k = if k = t then nI 1 else J 0 128 k := fun k => by rw [z_upj _ _ _ _ _ _ _ (by omega), z_upk]
  have j130 : ∀ k, am_up (am_up J 0 128 t (nI 1)) 0 130 Q.length (nI t) 0 130 k = if k = Q.length then nI t else J 0 130 k := fun k => by rw [z_upk, z_upj _ _ _ _ _ _ _ (by omega)]
  have hnd : (Q ++ [t]).Nodup := List.nodup_append.mpr ⟨h5, by simp, fun a ha c hc e => by
    rw [List.mem_singleton.mp hc] at e
    rw [e] at ha
    exact hnt ha⟩
  have hmem : ∀ u, u ∈ Q ++ [t] → u < 128 ∧ am_up (am_up J 0 128 t (nI 1)) 0 130 Q.length (nI t) 0 128 u = nI 1 := fun u hu => by
    rw [j128]
    rcases List.mem_append.mp hu with c | c
    · refine ⟨(h6 u c).1, ?_⟩
      by_cases d : u = t
      · rw [if_pos d]
      · rw [if_neg d]
        exact (h6 u c).2
    · rw [List.mem_singleton.mp c]
      exact ⟨ht, if_pos rfl⟩
  have hget : ∀ k u, (Q ++ [t])[k]? = some u → am_up (am_up J 0 128 t (nI 1)) 0 130 Q.length (nI t) 0 130 k = nI u := fun k u hk => by
    rw [j130]
    by_cases c : k = Q.length
    · rw [if_pos c]
      rw [c, List.getElem?_append_right (Nat.le_refl _), Nat.sub_self] at hk
      exact congrArg nI (Option.some.inj hk)
    · rw [if_neg c]
      by_cases d : k < Q.length
      · rw [List.getElem?_append_left d] at hk
        exact h7 k u hk
      · rw [List.getElem?_append_right (by omega)] at hk
        have : 1 ≤ k - Q.length := by omega
        rw [List.getElem?_eq_none_iff.mpr (by rw [List.length_singleton]; omega)] at hk
        exact absurd hk (by simp)
  have h3' : ∀ u, u < 128 → I 0 23 u = am_up (am_up J 0 128 t (nI 1)) 0 130 Q.length (nI t) 0 129 u ∧ (S (w_ib u) 0 = nI 0 → am_up (am_up J 0 128 t (nI 1)) 0 130 Q.length (nI t) 0 129 u = nI 0) := fun u hu => by
    rw [jo 129 (by omega)]
    exact h3 u hu
  have h4' : ∀ u, u < 128 → (if u = t then nI 1 else I 0 24 u) = am_up (am_up J 0 128 t (nI 1)) 0 130 Q.length (nI t) 0 128 u ∧ (am_up (am_up J 0 128 t (nI 1)) 0 130 Q.length (nI t) 0 128 u = nI 0 ∨ am_up (am_up J 0 128 t (nI 1)) 0 130 Q.length (nI t) 0 128 u = nI 1) := fun u hu => by
    rw [j128]
    by_cases d : u = t
    · rw [if_pos d, if_pos d]
      exact ⟨rfl, Or.inr rfl⟩
    · rw [if_neg d, if_neg d]
      exact h4 u hu
  have fwJ : FW I J I (am_up (am_up J 0 128 t (nI 1)) 0 130 Q.length (nI t)) := (fw_J (b := 128) (by omega)).tr (fw_J (b := 130) (by omega))
  by_cases c : S (w_ib t) 0 = nI 2
  · have hdr : dr S t = true := decide_eq_true c
    have ef : (Q ++ [t]).filter (dr S) = Q.filter (dr S) ++ [t] := by
      rw [List.filter_append, List.filter_cons_of_pos hdr, List.filter_nil]
    rw [if_pos c] at e0
    refine ⟨_, e0, ⟨h1, ?_, fun u hu => ?_, fun u hu => ?_, hnd, hmem, hget, ?_, fun k u hk => ?_⟩, hq, ?_⟩
    · rw [z_upk, if_neg (by omega), z_upj _ _ _ _ _ _ _ (by omega), o21]
      exact h2
    · rw [z_upj _ _ _ _ _ _ _ (by omega), z_upj _ _ _ _ _ _ _ (by omega), z_upj _ _ _ _ _ _ _ (by omega)]
      exact h3' u hu
    · rw [z_upj _ _ _ _ _ _ _ (show ¬ (0 = 0 ∧ 24 = 21) by omega), z_upj _ _ _ _ _ _ _ (show ¬ (0 = 0 ∧ 24 = 25) by omega), z_upk]
      exact h4' u hu
    · rw [z_upk, if_pos rfl, ef, List.length_append, List.length_singleton]
    · rw [z_upj _ _ _ _ _ _ _ (by omega), z_upk, z_upj _ _ _ _ _ _ _ (by omega)]
      rw [ef] at hk
      by_cases d : k = (Q.filter (dr S)).length
      · rw [if_pos d]
        rw [d, List.getElem?_append_right (Nat.le_refl _), Nat.sub_self] at hk
        exact congrArg nI (Option.some.inj hk)
      · rw [if_neg d]
        by_cases d2 : k < (Q.filter (dr S)).length
        · rw [List.getElem?_append_left d2] at hk
          exact h9 k u hk
        · rw [List.getElem?_append_right (by omega)] at hk
          rw [List.getElem?_eq_none_iff.mpr (by rw [List.length_singleton]; omega)] at hk
          exact absurd hk (by simp)
    · exact (((fw_I (b := 24) (by omega)).tr (fw_I (b := 25) (by omega))).tr (fw_I (b := 21) (by omega))).tr ⟨fun _ _ _ => rfl, fwJ.2⟩
  · have hdr : ¬ dr S t = true := fun q => c (of_decide_eq_true q)
    have ef : (Q ++ [t]).filter (dr S) = Q.filter (dr S) := by
      rw [List.filter_append, List.filter_cons_of_neg hdr, List.filter_nil, List.append_nil]
    rw [if_neg c] at e0
    refine ⟨_, e0, ⟨h1, by rw [o21]; exact h2, fun u hu => ?_, fun u hu => ?_, hnd, hmem, hget, by rw [o21, ef]; exact h8, fun k u hk => ?_⟩, hq, ?_⟩
    · rw [z_upj _ _ _ _ _ _ _ (by omega)]
      exact h3' u hu
    · rw [z_upk]
      exact h4' u hu
    · rw [z_upj _ _ _ _ _ _ _ (by omega)]
      rw [ef] at hk
      exact h9 k u hk
    · exact (fw_I (b := 24) (by omega)).tr ⟨fun _ _ _ => rfl, fwJ.2⟩
/-- an inode that is reached already -/
theorem wk_old (h : WK S I J Q b) (ht : t < 128) (h1 : J 0 128 t = nI 1) : gX2_reach n (nI t) I = some I := by
  have ga : am_inb (nI t) 128 = true := by rw [z_inb (by omega)]; exact decide_eq_true ht
  rw [gX2_reach, bX2_reach_0, am_gd_of ga, z_clamp (by omega), if_neg (show ¬ I 0 24 t = 0 by rw [(h.2.2.2.1 t ht).1, h1]; decide)]
  rfl
end WALK
