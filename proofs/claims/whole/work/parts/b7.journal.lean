
/-- a node's log and flush, both sides -/
def JNr (x : Nat) (I J : am_I) (lg fb : List Nat) (fq mk : Nat) : Prop :=
  LGr x J lg ∧ J 0 70 x = nI lg.length ∧ I x 44 2 = nI lg.length ∧ (∀ k b, lg[k]? = some b → I x 45 k = nI b)
  ∧ I x 44 0 = nI (1 + 24 * x) ∧ I x 44 7 = J 0 71 x ∧ I x 44 5 = nI fb.length ∧ fb.length ≤ 16 ∧ (∀ b, b ∈ fb → b < 640)
  ∧ (fb = [] → J 0 72 x = nI 0 ∧ J 0 73 x = nI 0)
  ∧ (¬ fb = [] → fq < 2 * fb.length + 3 ∧ I x 44 6 = nI fq ∧ J 0 73 x = nI fq ∧ (∀ k b, fb[k]? = some b → I x 46 k = nI b) ∧ WR J x (2 * fb.length + 3) (wb x fb) (ww fb (J 0 71 x) (fun k i => I x 47 (16 * k + i))) ∧ I x 44 8 = nI mk)
section JN
variable {n x : Nat} {I J : am_I} {lg fb : List Nat} {fq mk : Nat}
theorem o_lp {ed : Int32} (hlen : lg.length ≤ 16) (h640 : ∀ b, b ∈ lg → b < 640) : ∀ (q j fu : Nat) (I : am_I), j + q = lg.length → q < fu → I x 44 2 = nI lg.length → (∀ k b, lg[k]? = some b → I x 45 k = nI b) → ∃ I', bX3_open_10 n fu x x ed (nI j) I = some I' ∧ (∀ k, I' x 46 k = if j ≤ k ∧ k < lg.length then I x 45 k else I x 46 k) ∧ (∀ k i, k < 16 → i < 16 → I' x 47 (16 * k + i) = if j ≤ k ∧ k < lg.length then I x 42 (16 * lg.getD k 0 + i) else I x 47 (16 * k + i)) ∧ I' x 44 5 = nI lg.length ∧ I' x 44 2 = nI 0 ∧ I' x 44 6 = nI 0 ∧ I' x 44 7 = I x 44 7 + nI 1 ∧ I' x 44 8 = ed ∧ (∀ k, ¬ (k = 2 ∨ (5 ≤ k ∧ k ≤ 8)) → I' x 44 k = I x 44 k) ∧ (∀ a b, ¬ (a = x ∧ (b = 44 ∨ b = 46 ∨ b = 47)) → I' a b = I a b) := by
  intro q
  induction q with
  | zero =>
    intro j fu I hj hf h2 h45
    obtain ⟨fu, rfl⟩ : ∃ f, fu = f + 1 := ⟨fu - 1, by omega⟩
    obtain rfl : j = lg.length := by omega
    refine ⟨am_up (am_up (am_up (am_up (am_up I x 44 5 (nI lg.length)) x 44 2 (nI 0)) x 44 6 (nI 0)) x 44 7 (I x 44 7 + nI 1)) x 44 8 ed, ?_, fun k => ?_, fun k i _ _ => ?_, ?_, ?_, ?_, ?_, ?_, fun k q => ?_, fun a b q => ?_⟩
    · conv => lhs; unfold bX3_open_10
      simp (disch := omega) only [h2, z_le, Nat.le_refl, if_true, am_lt, z_upk, (by decide : ¬ (7 : Nat) = 5), (by decide : ¬ (7 : Nat) = 2), (by decide : ¬ (7 : Nat) = 6), if_false]
    · rw [if_neg (by omega)]
      simp (disch := omega) only [z_upj]
    · rw [if_neg (by omega)]
      simp (disch := omega) only [z_upj]
    · simp only [z_upk]; rfl
    · simp only [z_upk]; rfl
    · simp only [z_upk]; rfl
    · simp only [z_upk]; rfl
    · simp only [z_upk]; rfl
    · rw [z_upk, if_neg (by omega), z_upk, if_neg (by omega), z_upk, if_neg (by omega), z_upk, if_neg (by omega), z_upk, if_neg (by omega)]
    · simp (disch := omega) only [z_upj]
  | succ q ih =>
    intro j fu I hj hf h2 h45
    obtain ⟨fu, rfl⟩ : ∃ f, fu = f + 1 := ⟨fu - 1, by omega⟩
    have hlt : j < lg.length := by omega
    obtain ⟨b, hb⟩ : ∃ b, lg[j]? = some b := ⟨lg[j], List.getElem?_eq_getElem hlt⟩
    have hb640 := h640 b (List.mem_of_getElem? hb)
    have hgd := getD_some hb
    have h45j := h45 j b hb
    have hle : ¬ lg.length ≤ j := by omega
    have g1 : j < 16 := by omega
    have w47 : ∀ k i, k < 16 → i < 16 → va_cpy (I x 42) (I x 47) (b * 16) (j * 16) 16 (16 * k + i) = if k = j then I x 42 (16 * b + i) else I x 47 (16 * k + i) := fun k i hk hi => by
      unfold va_cpy
      by_cases e : k = j
      · subst e
        rw [if_pos (by omega), if_pos rfl]
        exact congrArg _ (by omega)
      · rw [if_neg (by omega), if_neg e]
    obtain ⟨I', e1, e2, e3, e4, e5, e6, e7, e8, e9, e10⟩ := ih (j + 1) fu (am_upf (am_up I x 46 j (nI b)) x 47 (va_cpy (I x 42) (I x 47) (b * 16) (j * 16) 16)) (by omega) (by omega) (by rw [z_upfj _ _ _ _ _ _ (by omega), z_upj _ _ _ _ _ _ _ (by omega)]; exact h2) (fun k b hk => by rw [z_upfj _ _ _ _ _ _ (by omega), z_upj _ _ _ _ _ _ _ (by omega)]; exact h45 k b hk)
    refine ⟨I', ?_, fun k => ?_, fun k i hk hi => ?_, e4, e5, e6, ?_, e8, fun k q => ?_, fun a c q => ?_⟩
    · rw [← e1]
      conv => lhs; unfold bX3_open_10
      simp (disch := omega) only [h2, z_le, hle, if_false, z_inb, g1, decide_true, z_gdt, z_clamp, h45j, am_lt, z_upj, pk_mul, z_cpb, nI_add]
    · rw [e2 k, z_upfj _ _ _ _ _ _ (by omega), z_upfj _ _ _ _ _ _ (by omega), z_upj _ _ _ _ _ _ _ (by omega), z_upk]
      by_cases e : j + 1 ≤ k ∧ k < lg.length
      · rw [if_pos e, if_pos (by omega)]
      · rw [if_neg e]
        by_cases ek : k = j
        · rw [if_pos ek, if_pos (by omega), ek, h45j]
        · rw [if_neg ek, if_neg (by omega)]
    · rw [e3 k i hk hi, z_upfs, z_upfj _ _ _ _ _ _ (by omega), z_upj _ _ _ _ _ _ _ (by omega), w47 k i hk hi]
      by_cases e : j + 1 ≤ k ∧ k < lg.length
      · rw [if_pos e, if_pos (by omega)]
      · rw [if_neg e]
        by_cases ek : k = j
        · rw [if_pos ek, if_pos (by omega), ek, hgd]
        · rw [if_neg ek, if_neg (by omega)]
    · rw [e7, z_upfj _ _ _ _ _ _ (by omega), z_upj _ _ _ _ _ _ _ (by omega)]
    · rw [e9 k q, z_upfj _ _ _ _ _ _ (by omega), z_upj _ _ _ _ _ _ _ (by omega)]
    · rw [e10 a c q, z_upfj _ _ _ _ _ _ (by omega), z_upj _ _ _ _ _ _ _ (by omega)]
theorem c_isfl {c : Nat} (hc : c ≤ 16) (h : I x 44 5 = nI c) : gX3_isFlushing n x I = some (nI (if c = 0 then 0 else 1), I) := by
  rw [gX3_isFlushing, bX3_isFlushing_0, h]
  by_cases e : c = 0
  · subst e
    rw [if_pos (by decide), bX3_isFlushing_12, z_01]
    rfl
  · rw [if_neg (by rw [z_0, z_le (by omega) (by decide)]; omega), if_neg e, bX3_isFlushing_12, z_011]
    rfl
/-- both sides begin a flush -/
theorem p_bfl {t ed : Nat} (hx : x < 4) (ht : t ≤ 400) (h63 : J 0 60 63 = nI t) (hed : I 0 13 1 = nI ed) (h : JNr x I J lg [] fq mk) (hlg : ¬ lg = []) (hw : ∀ b i, b ∈ lg → i < 16 → I x 42 (16 * b + i) = J 0 67 (16 * (640 * x + b) + i)) : ∃ I' J', gX10_beginFlush n x I = some I' ∧ gX11_beginFlush n (nI x) J = some J' ∧ JNr x I' J' [] lg 0 ed ∧ (∀ k, J' 0 126 k = if k < t ∧ J 0 125 (10 * k) = nI x ∧ J 0 125 (10 * k + 9) = nI 1 then nI 1 else J 0 126 k) ∧ fBf x J J' ∧ (∀ a b, ¬ (a = x ∧ (b = 44 ∨ b = 46 ∨ b = 47)) → I' a b = I a b) ∧ (∀ k i, k < lg.length → i < 16 → I' x 47 (16 * k + i) = J 0 67 (16 * (640 * x + lg.getD k 0) + i)) := by
  obtain ⟨h1, h2, h3, h4, h5, h6, h7, h8, h9, h10, h11⟩ := h
  obtain ⟨J', e1, e2, e3, e4, e5, e6, e7, e8⟩ := r_bfl (n := n) hx ht h63 h1
  obtain ⟨I', f1, f2, f3, f4, f5, f6, f7, f8, f9, f10⟩ := o_lp (n := n) (x := x) (ed := nI ed) h1.2.2.1 h1.2.1 lg.length 0 am_fu I (by omega) (fu_lt (by have := h1.2.2.1; omega)) h3 h4
  have hlen : ¬ lg.length = 0 := fun e => hlg (List.length_eq_zero_iff.mp e)
  have hl16 := h1.2.2.1
  have e2' : WR J' x (2 * lg.length + 3) (wb x lg) (ww lg (J' 0 71 x) (fun k i => J 0 67 (16 * (640 * x + lg.getD k 0) + i))) := by
    rw [e3]
    exact e2
  refine ⟨I', J', ?_, e1, ⟨⟨List.Pairwise.nil, fun b hb => absurd hb List.not_mem_nil, Nat.zero_le _, fun b hb => ?_⟩, e5, f5, fun k b hk => by simp at hk, ?_, ?_, f4, hl16, h1.2.1, fun e => absurd e hlg, fun _ => ⟨by omega, f6, e4, fun k b hk => ?_, wr_cg e2' (fun _ _ => rfl) (fun k i hk hi => ?_), f8⟩⟩, e7, e8, f10, fun j i hj hi => ?_⟩
  · have h0 : ¬ nI lg.length = (0 : Int32) := fun e => hlen (w_nI (b := 0) (by omega) (by decide) e)
    rw [gX10_beginFlush, bX10_beginFlush_0, c_isfl (c := 0) (by decide) h7, Option.bind_some]
    show (if nI 0 = (0 : Int32) then ((gX3_open n x x (I 0 13 1) I).bind _) else _) = _
    rw [if_pos (show nI 0 = (0 : Int32) from rfl), hed, gX3_open, bX3_open_0, h3, if_neg h0, f1, Option.bind_some]
    rfl
  · rw [e6 b hb, if_neg List.not_mem_nil]
  · rw [f9 0 (by omega)]; exact h5
  · rw [f7, e3, h6]
  · rw [f2 k, if_pos ⟨Nat.zero_le _, get_lt hk⟩]
    exact h4 k b hk
  · have hfw : ∀ j, j < lg.length → I' x 47 (16 * j + i) = J 0 67 (16 * (640 * x + lg.getD j 0) + i) := fun j hj => by
      rw [f3 j i (by omega) hi, if_pos ⟨Nat.zero_le _, hj⟩]
      refine hw _ i ?_ hi
      rw [getD_some (List.getElem?_eq_getElem hj)]
      exact List.getElem_mem hj
    unfold ww
    by_cases a1 : k < lg.length
    · rw [if_pos a1, if_pos a1]
      exact hfw k a1
    · rw [if_neg a1, if_neg a1]
      by_cases a2 : k = lg.length
      · rw [if_pos a2, if_pos a2]
      · rw [if_neg a2, if_neg a2]
        by_cases a3 : k < 2 * lg.length + 2 ∧ ¬ k = lg.length + 1
        · rw [if_pos a3, if_pos a3]
          exact hfw _ (by omega)
        · rw [if_neg a3, if_neg a3]
  · rw [f3 j i (by omega) hi, if_pos ⟨Nat.zero_le _, hj⟩]
    refine hw _ i ?_ hi
    rw [getD_some (List.getElem?_eq_getElem hj)]
    exact List.getElem_mem hj
end JN
