theorem c_meetNo {G : am_G} (hG : am_ok G) {d : Nat} {r : Nat} (hr : r < 136) (x : Int32) {i : Nat} (hi : i < G.2.2.2.1) (I : am_I)  (hnd : I 0 15 8 = nI i) (hp : I i 52 r = nI 0) : am_C G d mX9_meet [.inr (0, 15), .inl (nI r), .inl x] I (am_E (some (nI 0)) (am_up (am_up (am_up I 0 15 9 (nI 3)) 0 15 11 (nI r)) 0 15 12 x)) := by
  have hn4 := hG.hi
  refine am_of (by decide +kernel) hG.nd (Nat.le_of_ble_eq_true rfl) ?_
  refine am_aload_n dX9_meet_0 rfl ?_
  refine am_get (v := .inr (i, 40)) dX9_meet_1 fl_9_31 (hG.m0 (by decide)) (by show some (Value.ref (G.2.2.1 (I 0 15 8).toNatClampNeg 40)) = some (Value.ref (G.2.2.1 i 40)); rw [show I 0 15 8 = nI i from (by simp [am_up, am_upf, upd, hnd, hp]), nI_clamp (by omega)]) ?_
  refine am_get (v := .inr (i, 48)) dX9_meet_4 fl_9_157 (hG.mn hi (by decide) (by decide)) rfl ?_
  refine am_get (v := .inr (i, 52)) dX9_meet_7 fl_9_161 (hG.mn hi (by decide) (by decide)) rfl ?_
  refine am_iload_n dX9_meet_10 rfl ?_
  refine am_zald (a := r) dX9_meet_11 (hG.mn hi (by decide) (by decide)) rfl rfl (show r < 136 from (by omega)) (show 136 < 2 ^ 31 by decide) ?_
  refine am_top (show I i 52 r = nI 0 from (by simp [am_up, am_upf, upd, hnd, hp])) ?_
  refine am_if_eq (tgt := 33) dX9_meet_12 (by decide) (fun _ => ?_) (fun h => absurd h (by decide))
  refine am_aload_n dX9_meet_33 rfl ?_
  refine am_iconst (v := nI 3) dX9_meet_34 (by decide) ?_
  refine am_put (x := nI 3) dX9_meet_35 fp_9_41 (hG.m0 (by decide)) (Nat.le_of_ble_eq_true rfl) rfl ?_
  refine am_aload_n dX9_meet_38 rfl ?_
  refine am_iload_n dX9_meet_39 rfl ?_
  refine am_put (x := nI r) dX9_meet_40 fp_9_169 (hG.m0 (by decide)) (Nat.le_of_ble_eq_true rfl) rfl ?_
  refine am_aload_n dX9_meet_43 rfl ?_
  refine am_iload_n dX9_meet_44 rfl ?_
  refine am_put (x := x) dX9_meet_45 fp_9_172 (hG.m0 (by decide)) (Nat.le_of_ble_eq_true rfl) rfl ?_
  refine am_iconst (v := nI 0) dX9_meet_48 (by decide) ?_
  refine am_iret dX9_meet_49 rfl (am_nz (by decide)).1 ?_
  exact ⟨rfl, rfl⟩
theorem c_meetDirNo {G : am_G} (hG : am_ok G) {d : Nat} {r : Nat} (hr : r < 136) (x : Int32) {i : Nat} (hi : i < G.2.2.2.1) (I : am_I)  (hnd : I 0 15 8 = nI i) (hp : I i 52 r = nI 0) : am_C G (d + 1) mX9_meetDirectory [.inr (0, 15), .inl (nI r), .inl x] I (am_E (some (nI 0)) (am_up (am_up (am_up I 0 15 9 (nI 3)) 0 15 11 (nI r)) 0 15 12 x)) := by
  have hn4 := hG.hi
  refine am_of (by decide +kernel) hG.nd (Nat.le_of_ble_eq_true rfl) ?_
  refine am_aload_n dX9_meetDirectory_0 rfl ?_
  refine am_iload_n dX9_meetDirectory_1 rfl ?_
  refine am_iload_n dX9_meetDirectory_2 rfl ?_
  refine am_callVx (i := 0) (j := 15) (as := [.inl (nI r), .inl x]) (rest := []) dX9_meetDirectory_3 lkX9_meet ml_X9_211 imX9_meet seX9_meet rfl rfl (hG.m0 (by decide)) rfl (Nat.le_of_ble_eq_true rfl) rfl (c_meetNo hG (by omega) x hi I (by simp [am_up, am_upf, upd, hnd, hp]) (by simp [am_up, am_upf, upd, hnd, hp])) ?_
  refine am_if_eq (tgt := 35) dX9_meetDirectory_6 (by decide) (fun _ => ?_) (fun h => absurd h (by decide))
  refine am_iconst (v := nI 0) dX9_meetDirectory_35 (by decide) ?_
  refine am_iret dX9_meetDirectory_36 rfl (am_nz (by decide)).1 ?_
  exact ⟨rfl, rfl⟩
theorem c_meetFileNo {G : am_G} (hG : am_ok G) {d : Nat} {r : Nat} (hr : r < 136) (x : Int32) {i : Nat} (hi : i < G.2.2.2.1) (I : am_I)  (hnd : I 0 15 8 = nI i) (hp : I i 52 r = nI 0) : am_C G (d + 1) mX9_meetFile [.inr (0, 15), .inl (nI r), .inl x] I (am_E (some (nI 0)) (am_up (am_up (am_up I 0 15 9 (nI 3)) 0 15 11 (nI r)) 0 15 12 x)) := by
  have hn4 := hG.hi
  refine am_of (by decide +kernel) hG.nd (Nat.le_of_ble_eq_true rfl) ?_
  refine am_aload_n dX9_meetFile_0 rfl ?_
  refine am_iload_n dX9_meetFile_1 rfl ?_
  refine am_iload_n dX9_meetFile_2 rfl ?_
  refine am_callVx (i := 0) (j := 15) (as := [.inl (nI r), .inl x]) (rest := []) dX9_meetFile_3 lkX9_meet ml_X9_211 imX9_meet seX9_meet rfl rfl (hG.m0 (by decide)) rfl (Nat.le_of_ble_eq_true rfl) rfl (c_meetNo hG (by omega) x hi I (by simp [am_up, am_upf, upd, hnd, hp]) (by simp [am_up, am_upf, upd, hnd, hp])) ?_
  refine am_if_eq (tgt := 35) dX9_meetFile_6 (by decide) (fun _ => ?_) (fun h => absurd h (by decide))
  refine am_iconst (v := nI 0) dX9_meetFile_35 (by decide) ?_
  refine am_iret dX9_meetFile_36 rfl (am_nz (by decide)).1 ?_
  exact ⟨rfl, rfl⟩
theorem c_seekNo {G : am_G} (hG : am_ok G) {d : Nat} {i a : Nat} (hi : i < G.2.2.2.1) (hab : a < 128) (I : am_I)  (hnd : I 0 15 8 = nI i) (hp : I i 52 a = nI 0) (ha : I i 55 1 = nI a) : am_C G (d + 2) mX9_seek [.inr (0, 15), .inr (i, 55)] I (am_E none (am_up (am_up (am_up I 0 15 9 (nI 3)) 0 15 11 (nI a)) 0 15 12 (nI 1))) := by
  have hn4 := hG.hi
  refine am_of (by decide +kernel) hG.nd (Nat.le_of_ble_eq_true rfl) ?_
  refine am_aload_n dX9_seek_0 rfl ?_
  refine am_aload_n dX9_seek_1 rfl ?_
  refine am_get (v := .inl (I i 55 1)) dX9_seek_2 fl_9_271 (hG.mn hi (by decide) (by decide)) rfl ?_
  refine am_top (show I i 55 1 = nI a from (by simp [am_up, am_upf, upd, hnd, hp, ha])) ?_
  refine am_iconst (v := nI 1) dX9_seek_5 (by decide) ?_
  refine am_callVx (i := 0) (j := 15) (as := [.inl (nI a), .inl (nI 1)]) (rest := []) dX9_seek_6 lkX9_meetDirectory ml_X9_274 imX9_meetDirectory seX9_meetDirectory rfl rfl (hG.m0 (by decide)) rfl (Nat.le_of_ble_eq_true rfl) rfl (c_meetDirNo hG (by omega) (nI 1) hi I (by simp [am_up, am_upf, upd, hnd, hp, ha]) (by simp [am_up, am_upf, upd, hnd, hp, ha])) ?_
  refine am_if_ne (tgt := 13) dX9_seek_9 (by decide) (fun h => absurd h (by decide)) (fun _ => ?_)
  refine am_vret dX9_seek_12 rfl ?_
  exact ⟨rfl, rfl⟩
theorem c_makeNo {G : am_G} (hG : am_ok G) {d : Nat} {i a : Nat} (hi : i < G.2.2.2.1) (hab : a < 128) (I : am_I)  (hnd : I 0 15 8 = nI i) (hp : I i 52 a = nI 0) (ha : I i 55 1 = nI a) : am_C G (d + 2) mX9_make [.inr (0, 15), .inr (i, 55)] I (am_E none (am_up (am_up (am_up I 0 15 9 (nI 3)) 0 15 11 (nI a)) 0 15 12 (nI 2))) := by
  have hn4 := hG.hi
  refine am_of (by decide +kernel) hG.nd (Nat.le_of_ble_eq_true rfl) ?_
  refine am_aload_n dX9_make_0 rfl ?_
  refine am_aload_n dX9_make_1 rfl ?_
  refine am_get (v := .inl (I i 55 1)) dX9_make_2 fl_9_271 (hG.mn hi (by decide) (by decide)) rfl ?_
  refine am_top (show I i 55 1 = nI a from (by simp [am_up, am_upf, upd, hnd, hp, ha])) ?_
  refine am_iconst (v := nI 2) dX9_make_5 (by decide) ?_
  refine am_callVx (i := 0) (j := 15) (as := [.inl (nI a), .inl (nI 2)]) (rest := []) dX9_make_6 lkX9_meetDirectory ml_X9_274 imX9_meetDirectory seX9_meetDirectory rfl rfl (hG.m0 (by decide)) rfl (Nat.le_of_ble_eq_true rfl) rfl (c_meetDirNo hG (by omega) (nI 2) hi I (by simp [am_up, am_upf, upd, hnd, hp, ha]) (by simp [am_up, am_upf, upd, hnd, hp, ha])) ?_
  refine am_if_ne (tgt := 13) dX9_make_9 (by decide) (fun h => absurd h (by decide)) (fun _ => ?_)
  refine am_vret dX9_make_12 rfl ?_
  exact ⟨rfl, rfl⟩
theorem c_removeNo {G : am_G} (hG : am_ok G) {d : Nat} {i a : Nat} (hi : i < G.2.2.2.1) (hab : a < 128) (I : am_I)  (hnd : I 0 15 8 = nI i) (hp : I i 52 a = nI 0) (ha : I i 55 1 = nI a) : am_C G (d + 2) mX9_remove [.inr (0, 15), .inr (i, 55)] I (am_E none (am_up (am_up (am_up I 0 15 9 (nI 3)) 0 15 11 (nI a)) 0 15 12 (nI 2))) := by
  have hn4 := hG.hi
  refine am_of (by decide +kernel) hG.nd (Nat.le_of_ble_eq_true rfl) ?_
  refine am_aload_n dX9_remove_0 rfl ?_
  refine am_aload_n dX9_remove_1 rfl ?_
  refine am_get (v := .inl (I i 55 1)) dX9_remove_2 fl_9_271 (hG.mn hi (by decide) (by decide)) rfl ?_
  refine am_top (show I i 55 1 = nI a from (by simp [am_up, am_upf, upd, hnd, hp, ha])) ?_
  refine am_iconst (v := nI 2) dX9_remove_5 (by decide) ?_
  refine am_callVx (i := 0) (j := 15) (as := [.inl (nI a), .inl (nI 2)]) (rest := []) dX9_remove_6 lkX9_meetDirectory ml_X9_274 imX9_meetDirectory seX9_meetDirectory rfl rfl (hG.m0 (by decide)) rfl (Nat.le_of_ble_eq_true rfl) rfl (c_meetDirNo hG (by omega) (nI 2) hi I (by simp [am_up, am_upf, upd, hnd, hp, ha]) (by simp [am_up, am_upf, upd, hnd, hp, ha])) ?_
  refine am_if_ne (tgt := 13) dX9_remove_9 (by decide) (fun h => absurd h (by decide)) (fun _ => ?_)
  refine am_vret dX9_remove_12 rfl ?_
  exact ⟨rfl, rfl⟩
theorem c_linkNo {G : am_G} (hG : am_ok G) {d : Nat} {i a : Nat} (hi : i < G.2.2.2.1) (hab : a < 128) (I : am_I)  (hnd : I 0 15 8 = nI i) (hp : I i 52 a = nI 0) (ha : I i 55 1 = nI a) : am_C G (d + 2) mX9_link [.inr (0, 15), .inr (i, 55)] I (am_E none (am_up (am_up (am_up I 0 15 9 (nI 3)) 0 15 11 (nI a)) 0 15 12 (nI 2))) := by
  have hn4 := hG.hi
  refine am_of (by decide +kernel) hG.nd (Nat.le_of_ble_eq_true rfl) ?_
  refine am_aload_n dX9_link_0 rfl ?_
  refine am_aload_n dX9_link_1 rfl ?_
  refine am_get (v := .inl (I i 55 1)) dX9_link_2 fl_9_271 (hG.mn hi (by decide) (by decide)) rfl ?_
  refine am_top (show I i 55 1 = nI a from (by simp [am_up, am_upf, upd, hnd, hp, ha])) ?_
  refine am_iconst (v := nI 2) dX9_link_5 (by decide) ?_
  refine am_callVx (i := 0) (j := 15) (as := [.inl (nI a), .inl (nI 2)]) (rest := []) dX9_link_6 lkX9_meetDirectory ml_X9_274 imX9_meetDirectory seX9_meetDirectory rfl rfl (hG.m0 (by decide)) rfl (Nat.le_of_ble_eq_true rfl) rfl (c_meetDirNo hG (by omega) (nI 2) hi I (by simp [am_up, am_upf, upd, hnd, hp, ha]) (by simp [am_up, am_upf, upd, hnd, hp, ha])) ?_
  refine am_if_ne (tgt := 13) dX9_link_9 (by decide) (fun h => absurd h (by decide)) (fun _ => ?_)
  refine am_vret dX9_link_12 rfl ?_
  exact ⟨rfl, rfl⟩
theorem c_renameNo {G : am_G} (hG : am_ok G) {d : Nat} {i a : Nat} (hi : i < G.2.2.2.1) (hab : a < 128) (I : am_I)  (hnd : I 0 15 8 = nI i) (hp : I i 52 a = nI 0) (ha : I i 55 1 = nI a) : am_C G (d + 2) mX9_rename [.inr (0, 15), .inr (i, 55)] I (am_E none (am_up (am_up (am_up I 0 15 9 (nI 3)) 0 15 11 (nI a)) 0 15 12 (nI 2))) := by
  have hn4 := hG.hi
  refine am_of (by decide +kernel) hG.nd (Nat.le_of_ble_eq_true rfl) ?_
  refine am_aload_n dX9_rename_0 rfl ?_
  refine am_aload_n dX9_rename_1 rfl ?_
  refine am_get (v := .inl (I i 55 1)) dX9_rename_2 fl_9_271 (hG.mn hi (by decide) (by decide)) rfl ?_
  refine am_top (show I i 55 1 = nI a from (by simp [am_up, am_upf, upd, hnd, hp, ha])) ?_
  refine am_iconst (v := nI 2) dX9_rename_5 (by decide) ?_
  refine am_callVx (i := 0) (j := 15) (as := [.inl (nI a), .inl (nI 2)]) (rest := []) dX9_rename_6 lkX9_meetDirectory ml_X9_274 imX9_meetDirectory seX9_meetDirectory rfl rfl (hG.m0 (by decide)) rfl (Nat.le_of_ble_eq_true rfl) rfl (c_meetDirNo hG (by omega) (nI 2) hi I (by simp [am_up, am_upf, upd, hnd, hp, ha]) (by simp [am_up, am_upf, upd, hnd, hp, ha])) ?_
  refine am_if_eq (tgt := 24) dX9_rename_9 (by decide) (fun _ => ?_) (fun h => absurd h (by decide))
  refine am_vret dX9_rename_24 rfl ?_
  exact ⟨rfl, rfl⟩
theorem c_readWordNo {G : am_G} (hG : am_ok G) {d : Nat} {i a : Nat} (hi : i < G.2.2.2.1) (hab : a < 128) (I : am_I)  (hnd : I 0 15 8 = nI i) (hp : I i 52 a = nI 0) (ha : I i 55 1 = nI a) : am_C G (d + 2) mX9_readWord [.inr (0, 15), .inr (i, 55)] I (am_E none (am_up (am_up (am_up I 0 15 9 (nI 3)) 0 15 11 (nI a)) 0 15 12 (nI 1))) := by
  have hn4 := hG.hi
  refine am_of (by decide +kernel) hG.nd (Nat.le_of_ble_eq_true rfl) ?_
  refine am_aload_n dX9_readWord_0 rfl ?_
  refine am_aload_n dX9_readWord_1 rfl ?_
  refine am_get (v := .inl (I i 55 1)) dX9_readWord_2 fl_9_271 (hG.mn hi (by decide) (by decide)) rfl ?_
  refine am_top (show I i 55 1 = nI a from (by simp [am_up, am_upf, upd, hnd, hp, ha])) ?_
  refine am_iconst (v := nI 1) dX9_readWord_5 (by decide) ?_
  refine am_callVx (i := 0) (j := 15) (as := [.inl (nI a), .inl (nI 1)]) (rest := []) dX9_readWord_6 lkX9_meetFile ml_X9_303 imX9_meetFile seX9_meetFile rfl rfl (hG.m0 (by decide)) rfl (Nat.le_of_ble_eq_true rfl) rfl (c_meetFileNo hG (by omega) (nI 1) hi I (by simp [am_up, am_upf, upd, hnd, hp, ha]) (by simp [am_up, am_upf, upd, hnd, hp, ha])) ?_
  refine am_if_ne (tgt := 13) dX9_readWord_9 (by decide) (fun h => absurd h (by decide)) (fun _ => ?_)
  refine am_vret dX9_readWord_12 rfl ?_
  exact ⟨rfl, rfl⟩
theorem c_writeWordNo {G : am_G} (hG : am_ok G) {d : Nat} {i a : Nat} (hi : i < G.2.2.2.1) (hab : a < 128) (I : am_I)  (hnd : I 0 15 8 = nI i) (hp : I i 52 a = nI 0) (ha : I i 55 1 = nI a) : am_C G (d + 2) mX9_writeWord [.inr (0, 15), .inr (i, 55)] I (am_E none (am_up (am_up (am_up I 0 15 9 (nI 3)) 0 15 11 (nI a)) 0 15 12 (nI 2))) := by
  have hn4 := hG.hi
  refine am_of (by decide +kernel) hG.nd (Nat.le_of_ble_eq_true rfl) ?_
  refine am_aload_n dX9_writeWord_0 rfl ?_
  refine am_aload_n dX9_writeWord_1 rfl ?_
  refine am_get (v := .inl (I i 55 1)) dX9_writeWord_2 fl_9_271 (hG.mn hi (by decide) (by decide)) rfl ?_
  refine am_top (show I i 55 1 = nI a from (by simp [am_up, am_upf, upd, hnd, hp, ha])) ?_
  refine am_iconst (v := nI 2) dX9_writeWord_5 (by decide) ?_
  refine am_callVx (i := 0) (j := 15) (as := [.inl (nI a), .inl (nI 2)]) (rest := []) dX9_writeWord_6 lkX9_meetFile ml_X9_303 imX9_meetFile seX9_meetFile rfl rfl (hG.m0 (by decide)) rfl (Nat.le_of_ble_eq_true rfl) rfl (c_meetFileNo hG (by omega) (nI 2) hi I (by simp [am_up, am_upf, upd, hnd, hp, ha]) (by simp [am_up, am_upf, upd, hnd, hp, ha])) ?_
  refine am_if_ne (tgt := 13) dX9_writeWord_9 (by decide) (fun h => absurd h (by decide)) (fun _ => ?_)
  refine am_vret dX9_writeWord_12 rfl ?_
  exact ⟨rfl, rfl⟩
theorem c_cutNo {G : am_G} (hG : am_ok G) {d : Nat} {i a : Nat} (hi : i < G.2.2.2.1) (hab : a < 128) (I : am_I)  (hnd : I 0 15 8 = nI i) (hp : I i 52 a = nI 0) (ha : I i 55 1 = nI a) : am_C G (d + 2) mX9_cut [.inr (0, 15), .inr (i, 55)] I (am_E none (am_up (am_up (am_up I 0 15 9 (nI 3)) 0 15 11 (nI a)) 0 15 12 (nI 2))) := by
  have hn4 := hG.hi
  refine am_of (by decide +kernel) hG.nd (Nat.le_of_ble_eq_true rfl) ?_
  refine am_aload_n dX9_cut_0 rfl ?_
  refine am_aload_n dX9_cut_1 rfl ?_
  refine am_get (v := .inl (I i 55 1)) dX9_cut_2 fl_9_271 (hG.mn hi (by decide) (by decide)) rfl ?_
  refine am_top (show I i 55 1 = nI a from (by simp [am_up, am_upf, upd, hnd, hp, ha])) ?_
  refine am_iconst (v := nI 2) dX9_cut_5 (by decide) ?_
  refine am_callVx (i := 0) (j := 15) (as := [.inl (nI a), .inl (nI 2)]) (rest := []) dX9_cut_6 lkX9_meetFile ml_X9_303 imX9_meetFile seX9_meetFile rfl rfl (hG.m0 (by decide)) rfl (Nat.le_of_ble_eq_true rfl) rfl (c_meetFileNo hG (by omega) (nI 2) hi I (by simp [am_up, am_upf, upd, hnd, hp, ha]) (by simp [am_up, am_upf, upd, hnd, hp, ha])) ?_
  refine am_if_ne (tgt := 13) dX9_cut_9 (by decide) (fun h => absurd h (by decide)) (fun _ => ?_)
  refine am_vret dX9_cut_12 rfl ?_
  exact ⟨rfl, rfl⟩
theorem c_entryNo {G : am_G} (hG : am_ok G) {d : Nat} {i a : Nat} (hi : i < G.2.2.2.1) (hab : a < 128) (I : am_I)  (hnd : I 0 15 8 = nI i) (hp : I i 52 a = nI 0) (ha : I i 55 1 = nI a) : am_C G (d + 2) mX9_entry [.inr (0, 15), .inr (i, 55)] I (am_E none (am_up (am_up (am_up I 0 15 9 (nI 3)) 0 15 11 (nI a)) 0 15 12 (nI 1))) := by
  have hn4 := hG.hi
  refine am_of (by decide +kernel) hG.nd (Nat.le_of_ble_eq_true rfl) ?_
  refine am_aload_n dX9_entry_0 rfl ?_
  refine am_aload_n dX9_entry_1 rfl ?_
  refine am_get (v := .inl (I i 55 1)) dX9_entry_2 fl_9_271 (hG.mn hi (by decide) (by decide)) rfl ?_
  refine am_top (show I i 55 1 = nI a from (by simp [am_up, am_upf, upd, hnd, hp, ha])) ?_
  refine am_iconst (v := nI 1) dX9_entry_5 (by decide) ?_
  refine am_callVx (i := 0) (j := 15) (as := [.inl (nI a), .inl (nI 1)]) (rest := []) dX9_entry_6 lkX9_meetDirectory ml_X9_274 imX9_meetDirectory seX9_meetDirectory rfl rfl (hG.m0 (by decide)) rfl (Nat.le_of_ble_eq_true rfl) rfl (c_meetDirNo hG (by omega) (nI 1) hi I (by simp [am_up, am_upf, upd, hnd, hp, ha]) (by simp [am_up, am_upf, upd, hnd, hp, ha])) ?_
  refine am_if_ne (tgt := 13) dX9_entry_9 (by decide) (fun h => absurd h (by decide)) (fun _ => ?_)
  refine am_vret dX9_entry_12 rfl ?_
  exact ⟨rfl, rfl⟩
theorem c_statNo {G : am_G} (hG : am_ok G) {d : Nat} {i a : Nat} (hi : i < G.2.2.2.1) (hab : a < 128) (I : am_I)  (hnd : I 0 15 8 = nI i) (hp : I i 52 a = nI 0) (ha : I i 55 1 = nI a) : am_C G (d + 2) mX9_stat [.inr (0, 15), .inr (i, 55)] I (am_E none (am_up (am_up (am_up I 0 15 9 (nI 3)) 0 15 11 (nI a)) 0 15 12 (nI 1))) := by
  have hn4 := hG.hi
  refine am_of (by decide +kernel) hG.nd (Nat.le_of_ble_eq_true rfl) ?_
  refine am_aload_n dX9_stat_0 rfl ?_
  refine am_aload_n dX9_stat_1 rfl ?_
  refine am_get (v := .inl (I i 55 1)) dX9_stat_2 fl_9_271 (hG.mn hi (by decide) (by decide)) rfl ?_
  refine am_top (show I i 55 1 = nI a from (by simp [am_up, am_upf, upd, hnd, hp, ha])) ?_
  refine am_iconst (v := nI 1) dX9_stat_5 (by decide) ?_
  refine am_callVx (i := 0) (j := 15) (as := [.inl (nI a), .inl (nI 1)]) (rest := []) dX9_stat_6 lkX9_meet ml_X9_211 imX9_meet seX9_meet rfl rfl (hG.m0 (by decide)) rfl (Nat.le_of_ble_eq_true rfl) rfl (c_meetNo hG (by omega) (nI 1) hi I (by simp [am_up, am_upf, upd, hnd, hp, ha]) (by simp [am_up, am_upf, upd, hnd, hp, ha])) ?_
  refine am_if_ne (tgt := 13) dX9_stat_9 (by decide) (fun h => absurd h (by decide)) (fun _ => ?_)
  refine am_vret dX9_stat_12 rfl ?_
  exact ⟨rfl, rfl⟩
theorem c_countNo {G : am_G} (hG : am_ok G) {d : Nat} {i a : Nat} (hi : i < G.2.2.2.1) (hab : a < 128) (I : am_I)  (hnd : I 0 15 8 = nI i) (hp : I i 52 a = nI 0) (ha : I i 55 1 = nI a) : am_C G (d + 2) mX9_count [.inr (0, 15), .inr (i, 55)] I (am_E none (am_up (am_up (am_up I 0 15 9 (nI 3)) 0 15 11 (nI a)) 0 15 12 (nI 1))) := by
  have hn4 := hG.hi
  refine am_of (by decide +kernel) hG.nd (Nat.le_of_ble_eq_true rfl) ?_
  refine am_aload_n dX9_count_0 rfl ?_
  refine am_aload_n dX9_count_1 rfl ?_
  refine am_get (v := .inl (I i 55 1)) dX9_count_2 fl_9_271 (hG.mn hi (by decide) (by decide)) rfl ?_
  refine am_top (show I i 55 1 = nI a from (by simp [am_up, am_upf, upd, hnd, hp, ha])) ?_
  refine am_iconst (v := nI 1) dX9_count_5 (by decide) ?_
  refine am_callVx (i := 0) (j := 15) (as := [.inl (nI a), .inl (nI 1)]) (rest := []) dX9_count_6 lkX9_meetDirectory ml_X9_274 imX9_meetDirectory seX9_meetDirectory rfl rfl (hG.m0 (by decide)) rfl (Nat.le_of_ble_eq_true rfl) rfl (c_meetDirNo hG (by omega) (nI 1) hi I (by simp [am_up, am_upf, upd, hnd, hp, ha]) (by simp [am_up, am_upf, upd, hnd, hp, ha])) ?_
  refine am_if_eq (tgt := 32) dX9_count_9 (by decide) (fun _ => ?_) (fun h => absurd h (by decide))
  refine am_vret dX9_count_32 rfl ?_
  exact ⟨rfl, rfl⟩
theorem c_roomNo {G : am_G} (hG : am_ok G) {d : Nat} {i : Nat} (hi : i < G.2.2.2.1) (I : am_I)  (hnd : I 0 15 8 = nI i) (hp : I i 52 128 = nI 0) : am_C G (d + 2) mX9_room [.inr (0, 15)] I (am_E none (am_up (am_up (am_up I 0 15 9 (nI 3)) 0 15 11 (nI 128)) 0 15 12 (nI 1))) := by
  have hn4 := hG.hi
  refine am_of (by decide +kernel) hG.nd (Nat.le_of_ble_eq_true rfl) ?_
  refine am_iconst (v := nI 0) dX9_room_0 (by decide) ?_
  refine am_istore_n dX9_room_1 (by decide) ?_
  refine am_iconst (v := nI 0) dX9_room_2 (by decide) ?_
  refine am_istore_n dX9_room_3 (by decide) ?_
  refine am_iload_n dX9_room_4 rfl ?_
  refine am_bipush (v := nI 8) dX9_room_5 (by decide) ?_
  refine am_icmp_ge (tgt := 64) dX9_room_7 (by decide) (fun h => absurd h (by decide)) (fun _ => ?_)
  refine am_aload_n dX9_room_10 rfl ?_
  refine am_iload_n dX9_room_11 rfl ?_
  refine am_callSNx (as := [.inl (nI 0)]) (rest := [.inr (0, 15)]) dX9_room_12 lkX10_mapResource nl_X9_208 isX10_mapResource rfl (Nat.le_of_ble_eq_true rfl) rfl (c_mapResource hG.nd (g := 0) (by omega) I) ?_
  refine am_iconst (v := nI 1) dX9_room_15 (by decide) ?_
  refine am_callVx (i := 0) (j := 15) (as := [.inl (nI 128), .inl (nI 1)]) (rest := []) dX9_room_16 lkX9_meet ml_X9_211 imX9_meet seX9_meet rfl rfl (hG.m0 (by decide)) rfl (Nat.le_of_ble_eq_true rfl) rfl (c_meetNo hG (by omega) (nI 1) hi I (by simp [am_up, am_upf, upd, hnd, hp]) (by simp [am_up, am_upf, upd, hnd, hp])) ?_
  refine am_if_ne (tgt := 23) dX9_room_19 (by decide) (fun h => absurd h (by decide)) (fun _ => ?_)
  refine am_vret dX9_room_22 rfl ?_
  exact ⟨rfl, rfl⟩
