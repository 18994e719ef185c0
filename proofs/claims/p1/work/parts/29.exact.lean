/-- an exact end: this answer, this state -/
def am_E (v : Option Int32) (J : am_I) : Option Int32 → am_I → Prop := fun r I' => r = v ∧ I' = J
section AME
variable {G : am_G} {d : Nat} {M : am_M} {TH : Nat → List (Option am_V) → List am_V → am_I → Prop} {Q : Option Int32 → am_I → Prop} {pc : Nat} {lo : List (Option am_V)} {st : List am_V} {I : am_I}
theorem am_callVx {M' : am_M} {idx na i j : Nat} {as rest : List am_V} {T : u_T} {N : Nat} {v : Int32} {J : am_I} (hd : decode M.2.1 pc = .ok (.invokevirtual idx, 3)) (hlk : am_lk M' na) (hl : Cond.methodLink M.1.cls idx M'.1 ∈ am_T) (hin : Cond.instanceMethod M'.1 ∈ am_T) (hse : Cond.selects M'.1.cls M'.1 M'.1 ∈ am_T) (hci : vwCl[am_ci j]? = some (M'.1.cls, T, N)) (hk0 : am_k j = 0) (hm : (i, j) ∈ G.2.2.2.2) (hlen : as.length = na) (hrest : rest.length ≤ 8) (hst : st = as.reverse ++ .inr (i, j) :: rest) (hC : am_C G d M' (.inr (i, j) :: as) I (am_E (some v) J)) (hk : am_J G (d + 1) M TH Q (pc + 3) lo (.inl v :: rest) J) : am_J G (d + 1) M TH Q pc lo st I :=
  am_callV hd hlk hl hin hse hci hk0 hm hlen hrest hst hC (fun r I' _ hq => by obtain ⟨rfl, rfl⟩ := hq; exact hk)
theorem am_callVe {M' : am_M} {idx na i j : Nat} {as rest : List am_V} {T : u_T} {N : Nat} {J : am_I} (hd : decode M.2.1 pc = .ok (.invokevirtual idx, 3)) (hlk : am_lk M' na) (hl : Cond.methodLink M.1.cls idx M'.1 ∈ am_T) (hin : Cond.instanceMethod M'.1 ∈ am_T) (hse : Cond.selects M'.1.cls M'.1 M'.1 ∈ am_T) (hci : vwCl[am_ci j]? = some (M'.1.cls, T, N)) (hk0 : am_k j = 0) (hm : (i, j) ∈ G.2.2.2.2) (hlen : as.length = na) (hrest : rest.length ≤ 8) (hst : st = as.reverse ++ .inr (i, j) :: rest) (hC : am_C G d M' (.inr (i, j) :: as) I (am_E none J)) (hk : am_J G (d + 1) M TH Q (pc + 3) lo rest J) : am_J G (d + 1) M TH Q pc lo st I :=
  am_callV hd hlk hl hin hse hci hk0 hm hlen hrest hst hC (fun r I' _ hq => by obtain ⟨rfl, rfl⟩ := hq; exact hk)
theorem am_callVi {M' : am_M} {idx na i j : Nat} {as rest : List am_V} {T : u_T} {N : Nat} {Q' : Option Int32 → am_I → Prop} (hd : decode M.2.1 pc = .ok (.invokevirtual idx, 3)) (hlk : am_lk M' na) (hl : Cond.methodLink M.1.cls idx M'.1 ∈ am_T) (hin : Cond.instanceMethod M'.1 ∈ am_T) (hse : Cond.selects M'.1.cls M'.1 M'.1 ∈ am_T) (hci : vwCl[am_ci j]? = some (M'.1.cls, T, N)) (hk0 : am_k j = 0) (hm : (i, j) ∈ G.2.2.2.2) (hlen : as.length = na) (hrest : rest.length ≤ 8) (hst : st = as.reverse ++ .inr (i, j) :: rest) (hC : am_C G d M' (.inr (i, j) :: as) I Q') (hret : M'.2.2.2.isSome = true) (hk : ∀ (r : Int32) (I' : am_I), Q' (some r) I' → am_J G (d + 1) M TH Q (pc + 3) lo (.inl r :: rest) I') : am_J G (d + 1) M TH Q pc lo st I :=
  am_callV hd hlk hl hin hse hci hk0 hm hlen hrest hst hC (fun r I' hrs hq => by
    rw [hret] at hrs
    cases r with
    | none => cases hrs
    | some r => exact hk r I' hq)
theorem am_callVv {M' : am_M} {idx na i j : Nat} {as rest : List am_V} {T : u_T} {N : Nat} {Q' : Option Int32 → am_I → Prop} (hd : decode M.2.1 pc = .ok (.invokevirtual idx, 3)) (hlk : am_lk M' na) (hl : Cond.methodLink M.1.cls idx M'.1 ∈ am_T) (hin : Cond.instanceMethod M'.1 ∈ am_T) (hse : Cond.selects M'.1.cls M'.1 M'.1 ∈ am_T) (hci : vwCl[am_ci j]? = some (M'.1.cls, T, N)) (hk0 : am_k j = 0) (hm : (i, j) ∈ G.2.2.2.2) (hlen : as.length = na) (hrest : rest.length ≤ 8) (hst : st = as.reverse ++ .inr (i, j) :: rest) (hC : am_C G d M' (.inr (i, j) :: as) I Q') (hret : M'.2.2.2.isSome = false) (hk : ∀ (I' : am_I), Q' none I' → am_J G (d + 1) M TH Q (pc + 3) lo rest I') : am_J G (d + 1) M TH Q pc lo st I :=
  am_callV hd hlk hl hin hse hci hk0 hm hlen hrest hst hC (fun r I' hrs hq => by
    rw [hret] at hrs
    cases r with
    | none => exact hk I' hq
    | some r => cases hrs)
theorem am_callSx {M' : am_M} {idx na : Nat} {as rest : List am_V} {v : Int32} {J : am_I} (hd : decode M.2.1 pc = .ok (.invokestatic idx, 3)) (hlk : am_lk M' na) (hl : Cond.methodLink M.1.cls idx M'.1 ∈ am_T) (hin : Cond.static M'.1 ∈ am_T) (hlen : as.length = na) (hrest : rest.length ≤ 8) (hst : st = as.reverse ++ rest) (hC : am_C G d M' as I (am_E (some v) J)) (hk : am_J G (d + 1) M TH Q (pc + 3) lo (.inl v :: rest) J) : am_J G (d + 1) M TH Q pc lo st I :=
  am_callS hd hlk hl hin hlen hrest hst hC (fun r I' _ hq => by obtain ⟨rfl, rfl⟩ := hq; exact hk)
theorem am_callSe {M' : am_M} {idx na : Nat} {as rest : List am_V} {J : am_I} (hd : decode M.2.1 pc = .ok (.invokestatic idx, 3)) (hlk : am_lk M' na) (hl : Cond.methodLink M.1.cls idx M'.1 ∈ am_T) (hin : Cond.static M'.1 ∈ am_T) (hlen : as.length = na) (hrest : rest.length ≤ 8) (hst : st = as.reverse ++ rest) (hC : am_C G d M' as I (am_E none J)) (hk : am_J G (d + 1) M TH Q (pc + 3) lo rest J) : am_J G (d + 1) M TH Q pc lo st I :=
  am_callS hd hlk hl hin hlen hrest hst hC (fun r I' _ hq => by obtain ⟨rfl, rfl⟩ := hq; exact hk)
theorem am_callSi {M' : am_M} {idx na : Nat} {as rest : List am_V} {Q' : Option Int32 → am_I → Prop} (hd : decode M.2.1 pc = .ok (.invokestatic idx, 3)) (hlk : am_lk M' na) (hl : Cond.methodLink M.1.cls idx M'.1 ∈ am_T) (hin : Cond.static M'.1 ∈ am_T) (hlen : as.length = na) (hrest : rest.length ≤ 8) (hst : st = as.reverse ++ rest) (hC : am_C G d M' as I Q') (hret : M'.2.2.2.isSome = true) (hk : ∀ (r : Int32) (I' : am_I), Q' (some r) I' → am_J G (d + 1) M TH Q (pc + 3) lo (.inl r :: rest) I') : am_J G (d + 1) M TH Q pc lo st I :=
  am_callS hd hlk hl hin hlen hrest hst hC (fun r I' hrs hq => by
    rw [hret] at hrs
    cases r with
    | none => cases hrs
    | some r => exact hk r I' hq)
theorem am_callSv {M' : am_M} {idx na : Nat} {as rest : List am_V} {Q' : Option Int32 → am_I → Prop} (hd : decode M.2.1 pc = .ok (.invokestatic idx, 3)) (hlk : am_lk M' na) (hl : Cond.methodLink M.1.cls idx M'.1 ∈ am_T) (hin : Cond.static M'.1 ∈ am_T) (hlen : as.length = na) (hrest : rest.length ≤ 8) (hst : st = as.reverse ++ rest) (hC : am_C G d M' as I Q') (hret : M'.2.2.2.isSome = false) (hk : ∀ (I' : am_I), Q' none I' → am_J G (d + 1) M TH Q (pc + 3) lo rest I') : am_J G (d + 1) M TH Q pc lo st I :=
  am_callS hd hlk hl hin hlen hrest hst hC (fun r I' hrs hq => by
    rw [hret] at hrs
    cases r with
    | none => exact hk I' hq
    | some r => cases hrs)
theorem am_callSNx {M' : am_M} {idx na : Nat} {host : String} {as rest : List am_V} {v : Int32} {J : am_I} (hd : decode M.2.1 pc = .ok (.invokestatic idx, 3)) (hlk : am_lk M' na) (hl : Cond.methodLinkNest M.1.cls idx M'.1 host ∈ am_nw) (hin : Cond.static M'.1 ∈ am_T) (hlen : as.length = na) (hrest : rest.length ≤ 8) (hst : st = as.reverse ++ rest) (hC : am_C G d M' as I (am_E (some v) J)) (hk : am_J G (d + 1) M TH Q (pc + 3) lo (.inl v :: rest) J) : am_J G (d + 1) M TH Q pc lo st I :=
  am_callSN hd hlk hl hin hlen hrest hst hC (fun r I' _ hq => by obtain ⟨rfl, rfl⟩ := hq; exact hk)
theorem am_callSNe {M' : am_M} {idx na : Nat} {host : String} {as rest : List am_V} {J : am_I} (hd : decode M.2.1 pc = .ok (.invokestatic idx, 3)) (hlk : am_lk M' na) (hl : Cond.methodLinkNest M.1.cls idx M'.1 host ∈ am_nw) (hin : Cond.static M'.1 ∈ am_T) (hlen : as.length = na) (hrest : rest.length ≤ 8) (hst : st = as.reverse ++ rest) (hC : am_C G d M' as I (am_E none J)) (hk : am_J G (d + 1) M TH Q (pc + 3) lo rest J) : am_J G (d + 1) M TH Q pc lo st I :=
  am_callSN hd hlk hl hin hlen hrest hst hC (fun r I' _ hq => by obtain ⟨rfl, rfl⟩ := hq; exact hk)
theorem am_callSNi {M' : am_M} {idx na : Nat} {host : String} {as rest : List am_V} {Q' : Option Int32 → am_I → Prop} (hd : decode M.2.1 pc = .ok (.invokestatic idx, 3)) (hlk : am_lk M' na) (hl : Cond.methodLinkNest M.1.cls idx M'.1 host ∈ am_nw) (hin : Cond.static M'.1 ∈ am_T) (hlen : as.length = na) (hrest : rest.length ≤ 8) (hst : st = as.reverse ++ rest) (hC : am_C G d M' as I Q') (hret : M'.2.2.2.isSome = true) (hk : ∀ (r : Int32) (I' : am_I), Q' (some r) I' → am_J G (d + 1) M TH Q (pc + 3) lo (.inl r :: rest) I') : am_J G (d + 1) M TH Q pc lo st I :=
  am_callSN hd hlk hl hin hlen hrest hst hC (fun r I' hrs hq => by
    rw [hret] at hrs
    cases r with
    | none => cases hrs
    | some r => exact hk r I' hq)
theorem am_callSNv {M' : am_M} {idx na : Nat} {host : String} {as rest : List am_V} {Q' : Option Int32 → am_I → Prop} (hd : decode M.2.1 pc = .ok (.invokestatic idx, 3)) (hlk : am_lk M' na) (hl : Cond.methodLinkNest M.1.cls idx M'.1 host ∈ am_nw) (hin : Cond.static M'.1 ∈ am_T) (hlen : as.length = na) (hrest : rest.length ≤ 8) (hst : st = as.reverse ++ rest) (hC : am_C G d M' as I Q') (hret : M'.2.2.2.isSome = false) (hk : ∀ (I' : am_I), Q' none I' → am_J G (d + 1) M TH Q (pc + 3) lo rest I') : am_J G (d + 1) M TH Q pc lo st I :=
  am_callSN hd hlk hl hin hlen hrest hst hC (fun r I' hrs hq => by
    rw [hret] at hrs
    cases r with
    | none => exact hk I' hq
    | some r => cases hrs)
end AME
