theorem d_Inodes_inodePlace_0 : decode b_Inodes_inodePlace 0 = .ok (.sipush 1600, 3) := by decide +kernel
theorem d_Inodes_inodePlace_3 : decode b_Inodes_inodePlace 3 = .ok (.bipush 32, 2) := by decide +kernel
theorem d_Inodes_inodePlace_5 : decode b_Inodes_inodePlace 5 = .ok (.iload_n 0, 1) := by decide +kernel
theorem d_Inodes_inodePlace_6 : decode b_Inodes_inodePlace 6 = .ok (.imul, 1) := by decide +kernel
theorem d_Inodes_inodePlace_7 : decode b_Inodes_inodePlace 7 = .ok (.iadd, 1) := by decide +kernel
theorem d_Inodes_inodePlace_8 : decode b_Inodes_inodePlace 8 = .ok (.ireturn, 1) := by decide +kernel
set_option maxHeartbeats 4000000 in
set_option maxRecDepth 100000 in
theorem c_Inodes_inodePlace (l : Launch) (i : Nat) : RoI l y_Inodes_inodePlace w_Inodes_inodePlace ({ frames := 0, cells := 0, slots := 0, locals := 0 }) [.int (nI i)] (fun _ => True) (nI (1600 + 32 * i)) := by
  refine Met.ofW (cc := b_Inodes_inodePlace) (maxL := 1) (ret := (some .int)) (by decide) rfl ?_
  intro p e s m args below meth c s₁ B hml hv
  obtain ⟨rfl, -⟩ := hv
  have hx := B.exec
  have hb := B.bytes
  have hr := B.returns
  have hts := atoms_spec (ws := w_Inodes_inodePlace) B.pre
  have hTB : ∀ w ∈ lw_tb, w.before _ s = true := fun w h => hts w (List.mem_cons_of_mem _ h)
  have hown : s.vm.findClass R_Inodes = some m.cls := findClass_of_methodNamed B.named
  have hlocks := B.notSynchronized
  have hS : va_S (fun _ => False) s.heap s.heap [] := va_S.rf
  have hP : va_P (fun _ => 0, fun _ _ => 0) cl5 [] s.heap := fun k q h => by simp at h
  have hl := lv_entry ([.int (nI i)]) (n := 1) (Nat.le_of_ble_eq_true rfl)
  rw [lg_entry_eq]
  generalize (lg_sl ([.int (nI i)]) ++ List.replicate (1 - (lg_sl ([.int (nI i)])).length) Slot.unset).toArray = ls at hl ⊢
  have hl : lv_has ls 1 [(0, .int (nI i))] := hl
  refine lv_sipush (v := nI 1600) hx hb d_Inodes_inodePlace_0 (by decide +kernel) ?_
  refine lv_bipush (v := nI 32) hx hb d_Inodes_inodePlace_3 (by decide +kernel) ?_
  refine lv_iload_n hx hb d_Inodes_inodePlace_5 rfl (lv_at hl 0 rfl) ?_
  refine gz_imul hx hb d_Inodes_inodePlace_6 ?_
  refine gz_iadd hx hb d_Inodes_inodePlace_7 ?_
  exact W.iret (v := nI (1600 + (32 * i))) hx hb hr (fun tt9 ht9 hW9 => ⟨⟨_, (), rfl, rfl, trivial⟩, hS.F ht9⟩) hS.2.2 d_Inodes_inodePlace_8
theorem d_Inodes_extentPlace_0 : decode b_Inodes_extentPlace 0 = .ok (.iload_n 0, 1) := by decide +kernel
theorem d_Inodes_extentPlace_1 : decode b_Inodes_extentPlace 1 = .ok (.invokestatic 15, 3) := by decide +kernel
theorem d_Inodes_extentPlace_4 : decode b_Inodes_extentPlace 4 = .ok (.iconst 4, 1) := by decide +kernel
theorem d_Inodes_extentPlace_5 : decode b_Inodes_extentPlace 5 = .ok (.iadd, 1) := by decide +kernel
theorem d_Inodes_extentPlace_6 : decode b_Inodes_extentPlace 6 = .ok (.iconst 3, 1) := by decide +kernel
theorem d_Inodes_extentPlace_7 : decode b_Inodes_extentPlace 7 = .ok (.iload_n 1, 1) := by decide +kernel
theorem d_Inodes_extentPlace_8 : decode b_Inodes_extentPlace 8 = .ok (.imul, 1) := by decide +kernel
theorem d_Inodes_extentPlace_9 : decode b_Inodes_extentPlace 9 = .ok (.iadd, 1) := by decide +kernel
theorem d_Inodes_extentPlace_10 : decode b_Inodes_extentPlace 10 = .ok (.ireturn, 1) := by decide +kernel
set_option maxHeartbeats 4000000 in
set_option maxRecDepth 100000 in
theorem c_Inodes_extentPlace (l : Launch) (i j : Nat) : RoI l y_Inodes_extentPlace w_Inodes_extentPlace ({ frames := 1, cells := 0, slots := 0, locals := 20 }) [.int (nI i), .int (nI j)] (fun _ => True) (nI (1600 + 32 * i + 4 + 3 * j)) := by
  refine Met.ofW (cc := b_Inodes_extentPlace) (maxL := 2) (ret := (some .int)) (by decide) rfl ?_
  intro p e s m args below meth c s₁ B hml hv
  obtain ⟨rfl, -⟩ := hv
  have hx := B.exec
  have hb := B.bytes
  have hr := B.returns
  have hts := atoms_spec (ws := w_Inodes_extentPlace) B.pre
  have hTB : ∀ w ∈ lw_tb, w.before _ s = true := fun w h => hts w (List.mem_cons_of_mem _ h)
  have hown : s.vm.findClass R_Inodes = some m.cls := findClass_of_methodNamed B.named
  have hlocks := B.notSynchronized
  have hS : va_S (fun _ => False) s.heap s.heap [] := va_S.rf
  have hP : va_P (fun _ => 0, fun _ _ => 0) cl5 [] s.heap := fun k q h => by simp at h
  have hl := lv_entry ([.int (nI i), .int (nI j)]) (n := 2) (Nat.le_of_ble_eq_true rfl)
  rw [lg_entry_eq]
  generalize (lg_sl ([.int (nI i), .int (nI j)]) ++ List.replicate (2 - (lg_sl ([.int (nI i), .int (nI j)])).length) Slot.unset).toArray = ls at hl ⊢
  have hl : lv_has ls 2 [(0, .int (nI i)), (1, .int (nI j))] := hl
  refine lv_iload_n hx hb d_Inodes_extentPlace_0 rfl (lv_at hl 0 rfl) ?_
  refine gz_roS (As := [.int (nI i)]) (rest := []) ⟨hx, hb, hml, hown, hTB⟩ (c_Inodes_inodePlace l i) (cwS 1 hTB (gd_S k_147 k_148 k_54 k_149) rfl rfl rfl (by decide +kernel) ⟨Nat.le_of_ble_eq_true rfl, Nat.le_of_ble_eq_true rfl⟩) hP rfl hl.1 rfl (Nat.le_of_ble_eq_true rfl) d_Inodes_extentPlace_1 ⟨Nat.zero_le _, Nat.zero_le _⟩ hS (fun H locs hP hS => ?_)
  refine lv_iconst (v := nI 4) hx hb d_Inodes_extentPlace_4 (by decide +kernel) ?_
  refine gz_iadd hx hb d_Inodes_extentPlace_5 ?_
  refine lv_iconst (v := nI 3) hx hb d_Inodes_extentPlace_6 (by decide +kernel) ?_
  refine lv_iload_n hx hb d_Inodes_extentPlace_7 rfl (lv_at hl 1 rfl) ?_
  refine gz_imul hx hb d_Inodes_extentPlace_8 ?_
  refine gz_iadd hx hb d_Inodes_extentPlace_9 ?_
  exact W.iret (v := nI (((1600 + 32 * i) + 4) + (3 * j))) hx hb hr (fun tt9 ht9 hW9 => ⟨⟨_, (), rfl, rfl, trivial⟩, hS.F ht9⟩) hS.2.2 d_Inodes_extentPlace_10
theorem d_Inodes_blocksFor_0 : decode b_Inodes_blocksFor 0 = .ok (.iload_n 0, 1) := by decide +kernel
theorem d_Inodes_blocksFor_1 : decode b_Inodes_blocksFor 1 = .ok (.bipush 64, 2) := by decide +kernel
theorem d_Inodes_blocksFor_3 : decode b_Inodes_blocksFor 3 = .ok (.iadd, 1) := by decide +kernel
theorem d_Inodes_blocksFor_4 : decode b_Inodes_blocksFor 4 = .ok (.iconst 1, 1) := by decide +kernel
theorem d_Inodes_blocksFor_5 : decode b_Inodes_blocksFor 5 = .ok (.isub, 1) := by decide +kernel
theorem d_Inodes_blocksFor_6 : decode b_Inodes_blocksFor 6 = .ok (.bipush 64, 2) := by decide +kernel
theorem d_Inodes_blocksFor_8 : decode b_Inodes_blocksFor 8 = .ok (.idiv, 1) := by decide +kernel
theorem d_Inodes_blocksFor_9 : decode b_Inodes_blocksFor 9 = .ok (.ireturn, 1) := by decide +kernel
set_option maxHeartbeats 4000000 in
set_option maxRecDepth 100000 in
theorem c_Inodes_blocksFor (l : Launch) (n : Nat) (hn : n < 2000000000) : RoI l y_Inodes_blocksFor w_Inodes_blocksFor ({ frames := 0, cells := 0, slots := 0, locals := 0 }) [.int (nI n)] (fun _ => True) (nI (blk n)) := by
  refine Met.ofW (cc := b_Inodes_blocksFor) (maxL := 1) (ret := (some .int)) (by decide) rfl ?_
  intro p e s m args below meth c s₁ B hml hv
  obtain ⟨rfl, -⟩ := hv
  have hx := B.exec
  have hb := B.bytes
  have hr := B.returns
  have hts := atoms_spec (ws := w_Inodes_blocksFor) B.pre
  have hTB : ∀ w ∈ lw_tb, w.before _ s = true := fun w h => hts w (List.mem_cons_of_mem _ h)
  have hown : s.vm.findClass R_Inodes = some m.cls := findClass_of_methodNamed B.named
  have hlocks := B.notSynchronized
  have hS : va_S (fun _ => False) s.heap s.heap [] := va_S.rf
  have hP : va_P (fun _ => 0, fun _ _ => 0) cl5 [] s.heap := fun k q h => by simp at h
  have hl := lv_entry ([.int (nI n)]) (n := 1) (Nat.le_of_ble_eq_true rfl)
  rw [lg_entry_eq]
  generalize (lg_sl ([.int (nI n)]) ++ List.replicate (1 - (lg_sl ([.int (nI n)])).length) Slot.unset).toArray = ls at hl ⊢
  have hl : lv_has ls 1 [(0, .int (nI n))] := hl
  refine lv_iload_n hx hb d_Inodes_blocksFor_0 rfl (lv_at hl 0 rfl) ?_
  refine lv_bipush (v := nI 64) hx hb d_Inodes_blocksFor_1 (by decide +kernel) ?_
  refine gz_iadd hx hb d_Inodes_blocksFor_3 ?_
  refine lv_iconst (v := nI 1) hx hb d_Inodes_blocksFor_4 (by decide +kernel) ?_
  refine gz_isub hx hb d_Inodes_blocksFor_5 (by omega) ?_
  refine lv_bipush (v := nI 64) hx hb d_Inodes_blocksFor_6 (by decide +kernel) ?_
  refine gz_idiv hx hb d_Inodes_blocksFor_8 (by omega) (by decide) (by decide) ?_
  exact W.iret (v := nI (((n + 64) - 1) / 64)) hx hb hr (fun tt9 ht9 hW9 => ⟨⟨_, (), rfl, rfl, trivial⟩, hS.F ht9⟩) hS.2.2 d_Inodes_blocksFor_9
theorem d_Inodes_kind_0 : decode b_Inodes_kind 0 = .ok (.aload_n 0, 1) := by decide +kernel
theorem d_Inodes_kind_1 : decode b_Inodes_kind 1 = .ok (.getfield 9, 3) := by decide +kernel
theorem d_Inodes_kind_4 : decode b_Inodes_kind 4 = .ok (.iload_n 1, 1) := by decide +kernel
theorem d_Inodes_kind_5 : decode b_Inodes_kind 5 = .ok (.invokestatic 15, 3) := by decide +kernel
theorem d_Inodes_kind_8 : decode b_Inodes_kind 8 = .ok (.invokevirtual 19, 3) := by decide +kernel
theorem d_Inodes_kind_11 : decode b_Inodes_kind 11 = .ok (.ireturn, 1) := by decide +kernel
set_option maxHeartbeats 4000000 in
set_option maxRecDepth 100000 in
theorem c_Inodes_kind (l : Launch) (D : va_G) (g : Nat → Nat) (k : Nat → ClassId) (L : Nat) (hL0 : 96 ≤ L) (hL : L ≤ 768) (u : DSt) (i : Nat) : RoI l y_Inodes_kind w_Inodes_kind ({ frames := 1, cells := 0, slots := 0, locals := 21 }) [.ref (g 6), .int (nI i)] (RoP D cl5 (tyC k) (wI g k L u)) (nI (iK L (dNow u) i)) := by
  refine Met.ofW (cc := b_Inodes_kind) (maxL := 2) (ret := (some .int)) (by decide) rfl ?_
  intro p e s m args below meth c s₁ B hml hv
  obtain ⟨rfl, hP, hK⟩ := hv
  have hx := B.exec
  have hb := B.bytes
  have hr := B.returns
  have hts := atoms_spec (ws := w_Inodes_kind) B.pre
  have hTB : ∀ w ∈ lw_tb, w.before _ s = true := fun w h => hts w (List.mem_cons_of_mem _ h)
  have hown : s.vm.findClass R_Inodes = some m.cls := findClass_of_methodNamed B.named
  have hlocks := B.notSynchronized
  have hS : va_S (fun _ => False) s.heap s.heap [] := va_S.rf
  have hl := lv_entry ([.ref (g 6), .int (nI i)]) (n := 2) (Nat.le_of_ble_eq_true rfl)
  rw [lg_entry_eq]
  generalize (lg_sl ([.ref (g 6), .int (nI i)]) ++ List.replicate (2 - (lg_sl ([.ref (g 6), .int (nI i)])).length) Slot.unset).toArray = ls at hl ⊢
  have hl : lv_has ls 2 [(0, .ref (g 6)), (1, .int (nI i))] := hl
  refine lv_aload_n hx hb d_Inodes_kind_0 rfl (lv_at hl 0 rfl) ?_
  refine va_get (D := D) (ci := 2) (v := .ref (g 0)) (C := R_Inodes) (T := T_Inodes) (N := 1) hx hb hTB in_Inodes hown hK hP 0 rfl rfl 0 (by decide) (hTB _ k_122) (fun _ h9 => h9) rfl d_Inodes_kind_1 ?_
  refine lv_iload_n hx hb d_Inodes_kind_4 rfl (lv_at hl 1 rfl) ?_
  refine gz_roS (As := [.int (nI i)]) (rest := [.ref (g 0)]) ⟨hx, hb, hml, hown, hTB⟩ (c_Inodes_inodePlace l i) (cwS 1 hTB (gd_S k_147 k_148 k_54 k_149) rfl rfl rfl (by decide +kernel) ⟨Nat.le_of_ble_eq_true rfl, Nat.le_of_ble_eq_true rfl⟩) hP rfl hl.1 rfl (Nat.le_of_ble_eq_true rfl) d_Inodes_kind_5 ⟨Nat.zero_le _, Nat.zero_le _⟩ hS (fun H locs hP hS => ?_)
  refine gz_roV (As := [.int (nI (1600 + 32 * i))]) (rest := []) (wc := (wD g k L u)) ⟨hx, hb, hml, hown, hTB⟩ (c_Disk_byteAt l D g k L hL0 hL u (nI (1600 + 32 * i))) (cwV 1 hTB (gd_V k_344 k_345 k_346 k_52 k_347) rfl rfl rfl (by decide +kernel) ⟨Nat.le_of_ble_eq_true rfl, Nat.le_of_ble_eq_true rfl⟩) hK hP [1, 2, 3, 4, 5, 6] rfl 1 rfl rfl rfl hl.1 rfl (Nat.le_of_ble_eq_true rfl) d_Inodes_kind_8 ⟨Nat.zero_le _, Nat.zero_le _⟩ hS (fun H locs hP hS => ?_)
  have := bN_lt L (dNow u) (nI (1600 + 32 * i))
  exact W.iret (v := nI (bN L (dNow u) (nI (1600 + 32 * i)))) hx hb hr (fun tt9 ht9 hW9 => ⟨⟨_, (), rfl, rfl, trivial⟩, hS.F ht9⟩) hS.2.2 d_Inodes_kind_11
theorem d_Inodes_size_0 : decode b_Inodes_size 0 = .ok (.aload_n 0, 1) := by decide +kernel
theorem d_Inodes_size_1 : decode b_Inodes_size 1 = .ok (.getfield 9, 3) := by decide +kernel
theorem d_Inodes_size_4 : decode b_Inodes_size 4 = .ok (.iload_n 1, 1) := by decide +kernel
theorem d_Inodes_size_5 : decode b_Inodes_size 5 = .ok (.invokestatic 15, 3) := by decide +kernel
theorem d_Inodes_size_8 : decode b_Inodes_size 8 = .ok (.iconst 2, 1) := by decide +kernel
theorem d_Inodes_size_9 : decode b_Inodes_size 9 = .ok (.iadd, 1) := by decide +kernel
theorem d_Inodes_size_10 : decode b_Inodes_size 10 = .ok (.invokevirtual 24, 3) := by decide +kernel
theorem d_Inodes_size_13 : decode b_Inodes_size 13 = .ok (.ireturn, 1) := by decide +kernel
set_option maxHeartbeats 4000000 in
set_option maxRecDepth 100000 in
theorem c_Inodes_size (l : Launch) (D : va_G) (g : Nat → Nat) (k : Nat → ClassId) (L : Nat) (hL0 : 96 ≤ L) (hL : L ≤ 768) (u : DSt) (i : Nat) : RoI l y_Inodes_size w_Inodes_size ({ frames := 2, cells := 0, slots := 0, locals := 42 }) [.ref (g 6), .int (nI i)] (RoP D cl5 (tyC k) (wI g k L u)) (nI (iS L (dNow u) i)) := by
  refine Met.ofW (cc := b_Inodes_size) (maxL := 2) (ret := (some .int)) (by decide) rfl ?_
  intro p e s m args below meth c s₁ B hml hv
  obtain ⟨rfl, hP, hK⟩ := hv
  have hx := B.exec
  have hb := B.bytes
  have hr := B.returns
  have hts := atoms_spec (ws := w_Inodes_size) B.pre
  have hTB : ∀ w ∈ lw_tb, w.before _ s = true := fun w h => hts w (List.mem_cons_of_mem _ h)
  have hown : s.vm.findClass R_Inodes = some m.cls := findClass_of_methodNamed B.named
  have hlocks := B.notSynchronized
  have hS : va_S (fun _ => False) s.heap s.heap [] := va_S.rf
  have hl := lv_entry ([.ref (g 6), .int (nI i)]) (n := 2) (Nat.le_of_ble_eq_true rfl)
  rw [lg_entry_eq]
  generalize (lg_sl ([.ref (g 6), .int (nI i)]) ++ List.replicate (2 - (lg_sl ([.ref (g 6), .int (nI i)])).length) Slot.unset).toArray = ls at hl ⊢
  have hl : lv_has ls 2 [(0, .ref (g 6)), (1, .int (nI i))] := hl
  refine lv_aload_n hx hb d_Inodes_size_0 rfl (lv_at hl 0 rfl) ?_
  refine va_get (D := D) (ci := 2) (v := .ref (g 0)) (C := R_Inodes) (T := T_Inodes) (N := 1) hx hb hTB in_Inodes hown hK hP 0 rfl rfl 0 (by decide) (hTB _ k_122) (fun _ h9 => h9) rfl d_Inodes_size_1 ?_
  refine lv_iload_n hx hb d_Inodes_size_4 rfl (lv_at hl 1 rfl) ?_
  refine gz_roS (As := [.int (nI i)]) (rest := [.ref (g 0)]) ⟨hx, hb, hml, hown, hTB⟩ (c_Inodes_inodePlace l i) (cwS 1 hTB (gd_S k_147 k_148 k_54 k_149) rfl rfl rfl (by decide +kernel) ⟨Nat.le_of_ble_eq_true rfl, Nat.le_of_ble_eq_true rfl⟩) hP rfl hl.1 rfl (Nat.le_of_ble_eq_true rfl) d_Inodes_size_5 ⟨Nat.zero_le _, Nat.zero_le _⟩ hS (fun H locs hP hS => ?_)
  refine lv_iconst (v := nI 2) hx hb d_Inodes_size_8 (by decide +kernel) ?_
  refine gz_iadd hx hb d_Inodes_size_9 ?_
  refine gz_roV (As := [.int (nI ((1600 + 32 * i) + 2))]) (rest := []) (wc := (wD g k L u)) ⟨hx, hb, hml, hown, hTB⟩ (c_Disk_pairAt l D g k L hL0 hL u (nI ((1600 + 32 * i) + 2))) (cwV 1 hTB (gd_V k_356 k_357 k_358 k_52 k_359) rfl rfl rfl (by decide +kernel) ⟨Nat.le_of_ble_eq_true rfl, Nat.le_of_ble_eq_true rfl⟩) hK hP [1, 2, 3, 4, 5, 6] rfl 1 rfl rfl rfl hl.1 rfl (Nat.le_of_ble_eq_true rfl) d_Inodes_size_10 ⟨Nat.zero_le _, Nat.zero_le _⟩ hS (fun H locs hP hS => ?_)
  have := pN_lt L (dNow u) (nI ((1600 + 32 * i) + 2))
  exact W.iret (v := nI (pN L (dNow u) (nI ((1600 + 32 * i) + 2)))) hx hb hr (fun tt9 ht9 hW9 => ⟨⟨_, (), rfl, rfl, trivial⟩, hS.F ht9⟩) hS.2.2 d_Inodes_size_13
theorem d_Inodes_extents_0 : decode b_Inodes_extents 0 = .ok (.aload_n 0, 1) := by decide +kernel
theorem d_Inodes_extents_1 : decode b_Inodes_extents 1 = .ok (.getfield 9, 3) := by decide +kernel
theorem d_Inodes_extents_4 : decode b_Inodes_extents 4 = .ok (.iload_n 1, 1) := by decide +kernel
theorem d_Inodes_extents_5 : decode b_Inodes_extents 5 = .ok (.invokestatic 15, 3) := by decide +kernel
theorem d_Inodes_extents_8 : decode b_Inodes_extents 8 = .ok (.iconst 1, 1) := by decide +kernel
theorem d_Inodes_extents_9 : decode b_Inodes_extents 9 = .ok (.iadd, 1) := by decide +kernel
theorem d_Inodes_extents_10 : decode b_Inodes_extents 10 = .ok (.invokevirtual 19, 3) := by decide +kernel
theorem d_Inodes_extents_13 : decode b_Inodes_extents 13 = .ok (.ireturn, 1) := by decide +kernel
set_option maxHeartbeats 4000000 in
set_option maxRecDepth 100000 in
theorem c_Inodes_extents (l : Launch) (D : va_G) (g : Nat → Nat) (k : Nat → ClassId) (L : Nat) (hL0 : 96 ≤ L) (hL : L ≤ 768) (u : DSt) (i : Nat) : RoI l y_Inodes_extents w_Inodes_extents ({ frames := 1, cells := 0, slots := 0, locals := 21 }) [.ref (g 6), .int (nI i)] (RoP D cl5 (tyC k) (wI g k L u)) (nI (iX L (dNow u) i)) := by
  refine Met.ofW (cc := b_Inodes_extents) (maxL := 2) (ret := (some .int)) (by decide) rfl ?_
  intro p e s m args below meth c s₁ B hml hv
  obtain ⟨rfl, hP, hK⟩ := hv
  have hx := B.exec
  have hb := B.bytes
  have hr := B.returns
  have hts := atoms_spec (ws := w_Inodes_extents) B.pre
  have hTB : ∀ w ∈ lw_tb, w.before _ s = true := fun w h => hts w (List.mem_cons_of_mem _ h)
  have hown : s.vm.findClass R_Inodes = some m.cls := findClass_of_methodNamed B.named
  have hlocks := B.notSynchronized
  have hS : va_S (fun _ => False) s.heap s.heap [] := va_S.rf
  have hl := lv_entry ([.ref (g 6), .int (nI i)]) (n := 2) (Nat.le_of_ble_eq_true rfl)
  rw [lg_entry_eq]
  generalize (lg_sl ([.ref (g 6), .int (nI i)]) ++ List.replicate (2 - (lg_sl ([.ref (g 6), .int (nI i)])).length) Slot.unset).toArray = ls at hl ⊢
  have hl : lv_has ls 2 [(0, .ref (g 6)), (1, .int (nI i))] := hl
  refine lv_aload_n hx hb d_Inodes_extents_0 rfl (lv_at hl 0 rfl) ?_
  refine va_get (D := D) (ci := 2) (v := .ref (g 0)) (C := R_Inodes) (T := T_Inodes) (N := 1) hx hb hTB in_Inodes hown hK hP 0 rfl rfl 0 (by decide) (hTB _ k_122) (fun _ h9 => h9) rfl d_Inodes_extents_1 ?_
  refine lv_iload_n hx hb d_Inodes_extents_4 rfl (lv_at hl 1 rfl) ?_
  refine gz_roS (As := [.int (nI i)]) (rest := [.ref (g 0)]) ⟨hx, hb, hml, hown, hTB⟩ (c_Inodes_inodePlace l i) (cwS 1 hTB (gd_S k_147 k_148 k_54 k_149) rfl rfl rfl (by decide +kernel) ⟨Nat.le_of_ble_eq_true rfl, Nat.le_of_ble_eq_true rfl⟩) hP rfl hl.1 rfl (Nat.le_of_ble_eq_true rfl) d_Inodes_extents_5 ⟨Nat.zero_le _, Nat.zero_le _⟩ hS (fun H locs hP hS => ?_)
  refine lv_iconst (v := nI 1) hx hb d_Inodes_extents_8 (by decide +kernel) ?_
  refine gz_iadd hx hb d_Inodes_extents_9 ?_
  refine gz_roV (As := [.int (nI ((1600 + 32 * i) + 1))]) (rest := []) (wc := (wD g k L u)) ⟨hx, hb, hml, hown, hTB⟩ (c_Disk_byteAt l D g k L hL0 hL u (nI ((1600 + 32 * i) + 1))) (cwV 1 hTB (gd_V k_344 k_345 k_346 k_52 k_347) rfl rfl rfl (by decide +kernel) ⟨Nat.le_of_ble_eq_true rfl, Nat.le_of_ble_eq_true rfl⟩) hK hP [1, 2, 3, 4, 5, 6] rfl 1 rfl rfl rfl hl.1 rfl (Nat.le_of_ble_eq_true rfl) d_Inodes_extents_10 ⟨Nat.zero_le _, Nat.zero_le _⟩ hS (fun H locs hP hS => ?_)
  have := bN_lt L (dNow u) (nI ((1600 + 32 * i) + 1))
  exact W.iret (v := nI (bN L (dNow u) (nI ((1600 + 32 * i) + 1)))) hx hb hr (fun tt9 ht9 hW9 => ⟨⟨_, (), rfl, rfl, trivial⟩, hS.F ht9⟩) hS.2.2 d_Inodes_extents_13
theorem d_Inodes_extentFirst_0 : decode b_Inodes_extentFirst 0 = .ok (.aload_n 0, 1) := by decide +kernel
theorem d_Inodes_extentFirst_1 : decode b_Inodes_extentFirst 1 = .ok (.getfield 9, 3) := by decide +kernel
theorem d_Inodes_extentFirst_4 : decode b_Inodes_extentFirst 4 = .ok (.iload_n 1, 1) := by decide +kernel
theorem d_Inodes_extentFirst_5 : decode b_Inodes_extentFirst 5 = .ok (.iload_n 2, 1) := by decide +kernel
theorem d_Inodes_extentFirst_6 : decode b_Inodes_extentFirst 6 = .ok (.invokestatic 27, 3) := by decide +kernel
theorem d_Inodes_extentFirst_9 : decode b_Inodes_extentFirst 9 = .ok (.invokevirtual 24, 3) := by decide +kernel
theorem d_Inodes_extentFirst_12 : decode b_Inodes_extentFirst 12 = .ok (.ireturn, 1) := by decide +kernel
set_option maxHeartbeats 4000000 in
set_option maxRecDepth 100000 in
theorem c_Inodes_extentFirst (l : Launch) (D : va_G) (g : Nat → Nat) (k : Nat → ClassId) (L : Nat) (hL0 : 96 ≤ L) (hL : L ≤ 768) (u : DSt) (i j : Nat) : RoI l y_Inodes_extentFirst w_Inodes_extentFirst ({ frames := 2, cells := 0, slots := 0, locals := 42 }) [.ref (g 6), .int (nI i), .int (nI j)] (RoP D cl5 (tyC k) (wI g k L u)) (nI (xF L (dNow u) i j)) := by
  refine Met.ofW (cc := b_Inodes_extentFirst) (maxL := 3) (ret := (some .int)) (by decide) rfl ?_
  intro p e s m args below meth c s₁ B hml hv
  obtain ⟨rfl, hP, hK⟩ := hv
  have hx := B.exec
  have hb := B.bytes
  have hr := B.returns
  have hts := atoms_spec (ws := w_Inodes_extentFirst) B.pre
  have hTB : ∀ w ∈ lw_tb, w.before _ s = true := fun w h => hts w (List.mem_cons_of_mem _ h)
  have hown : s.vm.findClass R_Inodes = some m.cls := findClass_of_methodNamed B.named
  have hlocks := B.notSynchronized
  have hS : va_S (fun _ => False) s.heap s.heap [] := va_S.rf
  have hl := lv_entry ([.ref (g 6), .int (nI i), .int (nI j)]) (n := 3) (Nat.le_of_ble_eq_true rfl)
  rw [lg_entry_eq]
  generalize (lg_sl ([.ref (g 6), .int (nI i), .int (nI j)]) ++ List.replicate (3 - (lg_sl ([.ref (g 6), .int (nI i), .int (nI j)])).length) Slot.unset).toArray = ls at hl ⊢
  have hl : lv_has ls 3 [(0, .ref (g 6)), (1, .int (nI i)), (2, .int (nI j))] := hl
  refine lv_aload_n hx hb d_Inodes_extentFirst_0 rfl (lv_at hl 0 rfl) ?_
  refine va_get (D := D) (ci := 2) (v := .ref (g 0)) (C := R_Inodes) (T := T_Inodes) (N := 1) hx hb hTB in_Inodes hown hK hP 0 rfl rfl 0 (by decide) (hTB _ k_122) (fun _ h9 => h9) rfl d_Inodes_extentFirst_1 ?_
  refine lv_iload_n hx hb d_Inodes_extentFirst_4 rfl (lv_at hl 1 rfl) ?_
  refine lv_iload_n hx hb d_Inodes_extentFirst_5 rfl (lv_at hl 2 rfl) ?_
  refine gz_roS (As := [.int (nI i), .int (nI j)]) (rest := [.ref (g 0)]) ⟨hx, hb, hml, hown, hTB⟩ (c_Inodes_extentPlace l i j) (cwS 2 hTB (gd_S k_373 k_374 k_54 k_375) rfl rfl rfl (by decide +kernel) ⟨Nat.le_of_ble_eq_true rfl, Nat.le_of_ble_eq_true rfl⟩) hP rfl hl.1 rfl (Nat.le_of_ble_eq_true rfl) d_Inodes_extentFirst_6 ⟨Nat.zero_le _, Nat.zero_le _⟩ hS (fun H locs hP hS => ?_)
  refine gz_roV (As := [.int (nI (1600 + 32 * i + 4 + 3 * j))]) (rest := []) (wc := (wD g k L u)) ⟨hx, hb, hml, hown, hTB⟩ (c_Disk_pairAt l D g k L hL0 hL u (nI (1600 + 32 * i + 4 + 3 * j))) (cwV 1 hTB (gd_V k_356 k_357 k_358 k_52 k_359) rfl rfl rfl (by decide +kernel) ⟨Nat.le_of_ble_eq_true rfl, Nat.le_of_ble_eq_true rfl⟩) hK hP [1, 2, 3, 4, 5, 6] rfl 1 rfl rfl rfl hl.1 rfl (Nat.le_of_ble_eq_true rfl) d_Inodes_extentFirst_9 ⟨Nat.zero_le _, Nat.zero_le _⟩ hS (fun H locs hP hS => ?_)
  have := pN_lt L (dNow u) (nI (1600 + 32 * i + 4 + 3 * j))
  exact W.iret (v := nI (pN L (dNow u) (nI (1600 + 32 * i + 4 + 3 * j)))) hx hb hr (fun tt9 ht9 hW9 => ⟨⟨_, (), rfl, rfl, trivial⟩, hS.F ht9⟩) hS.2.2 d_Inodes_extentFirst_12
theorem d_Inodes_extentLength_0 : decode b_Inodes_extentLength 0 = .ok (.aload_n 0, 1) := by decide +kernel
theorem d_Inodes_extentLength_1 : decode b_Inodes_extentLength 1 = .ok (.getfield 9, 3) := by decide +kernel
theorem d_Inodes_extentLength_4 : decode b_Inodes_extentLength 4 = .ok (.iload_n 1, 1) := by decide +kernel
theorem d_Inodes_extentLength_5 : decode b_Inodes_extentLength 5 = .ok (.iload_n 2, 1) := by decide +kernel
theorem d_Inodes_extentLength_6 : decode b_Inodes_extentLength 6 = .ok (.invokestatic 27, 3) := by decide +kernel
theorem d_Inodes_extentLength_9 : decode b_Inodes_extentLength 9 = .ok (.iconst 2, 1) := by decide +kernel
theorem d_Inodes_extentLength_10 : decode b_Inodes_extentLength 10 = .ok (.iadd, 1) := by decide +kernel
theorem d_Inodes_extentLength_11 : decode b_Inodes_extentLength 11 = .ok (.invokevirtual 19, 3) := by decide +kernel
theorem d_Inodes_extentLength_14 : decode b_Inodes_extentLength 14 = .ok (.ireturn, 1) := by decide +kernel
set_option maxHeartbeats 4000000 in
set_option maxRecDepth 100000 in
theorem c_Inodes_extentLength (l : Launch) (D : va_G) (g : Nat → Nat) (k : Nat → ClassId) (L : Nat) (hL0 : 96 ≤ L) (hL : L ≤ 768) (u : DSt) (i j : Nat) : RoI l y_Inodes_extentLength w_Inodes_extentLength ({ frames := 2, cells := 0, slots := 0, locals := 41 }) [.ref (g 6), .int (nI i), .int (nI j)] (RoP D cl5 (tyC k) (wI g k L u)) (nI (xL L (dNow u) i j)) := by
  refine Met.ofW (cc := b_Inodes_extentLength) (maxL := 3) (ret := (some .int)) (by decide) rfl ?_
  intro p e s m args below meth c s₁ B hml hv
  obtain ⟨rfl, hP, hK⟩ := hv
  have hx := B.exec
  have hb := B.bytes
  have hr := B.returns
  have hts := atoms_spec (ws := w_Inodes_extentLength) B.pre
  have hTB : ∀ w ∈ lw_tb, w.before _ s = true := fun w h => hts w (List.mem_cons_of_mem _ h)
  have hown : s.vm.findClass R_Inodes = some m.cls := findClass_of_methodNamed B.named
  have hlocks := B.notSynchronized
  have hS : va_S (fun _ => False) s.heap s.heap [] := va_S.rf
  have hl := lv_entry ([.ref (g 6), .int (nI i), .int (nI j)]) (n := 3) (Nat.le_of_ble_eq_true rfl)
  rw [lg_entry_eq]
  generalize (lg_sl ([.ref (g 6), .int (nI i), .int (nI j)]) ++ List.replicate (3 - (lg_sl ([.ref (g 6), .int (nI i), .int (nI j)])).length) Slot.unset).toArray = ls at hl ⊢
  have hl : lv_has ls 3 [(0, .ref (g 6)), (1, .int (nI i)), (2, .int (nI j))] := hl
  refine lv_aload_n hx hb d_Inodes_extentLength_0 rfl (lv_at hl 0 rfl) ?_
  refine va_get (D := D) (ci := 2) (v := .ref (g 0)) (C := R_Inodes) (T := T_Inodes) (N := 1) hx hb hTB in_Inodes hown hK hP 0 rfl rfl 0 (by decide) (hTB _ k_122) (fun _ h9 => h9) rfl d_Inodes_extentLength_1 ?_
  refine lv_iload_n hx hb d_Inodes_extentLength_4 rfl (lv_at hl 1 rfl) ?_
  refine lv_iload_n hx hb d_Inodes_extentLength_5 rfl (lv_at hl 2 rfl) ?_
  refine gz_roS (As := [.int (nI i), .int (nI j)]) (rest := [.ref (g 0)]) ⟨hx, hb, hml, hown, hTB⟩ (c_Inodes_extentPlace l i j) (cwS 2 hTB (gd_S k_373 k_374 k_54 k_375) rfl rfl rfl (by decide +kernel) ⟨Nat.le_of_ble_eq_true rfl, Nat.le_of_ble_eq_true rfl⟩) hP rfl hl.1 rfl (Nat.le_of_ble_eq_true rfl) d_Inodes_extentLength_6 ⟨Nat.zero_le _, Nat.zero_le _⟩ hS (fun H locs hP hS => ?_)
  refine lv_iconst (v := nI 2) hx hb d_Inodes_extentLength_9 (by decide +kernel) ?_
  refine gz_iadd hx hb d_Inodes_extentLength_10 ?_
  refine gz_roV (As := [.int (nI ((1600 + 32 * i + 4 + 3 * j) + 2))]) (rest := []) (wc := (wD g k L u)) ⟨hx, hb, hml, hown, hTB⟩ (c_Disk_byteAt l D g k L hL0 hL u (nI ((1600 + 32 * i + 4 + 3 * j) + 2))) (cwV 1 hTB (gd_V k_344 k_345 k_346 k_52 k_347) rfl rfl rfl (by decide +kernel) ⟨Nat.le_of_ble_eq_true rfl, Nat.le_of_ble_eq_true rfl⟩) hK hP [1, 2, 3, 4, 5, 6] rfl 1 rfl rfl rfl hl.1 rfl (Nat.le_of_ble_eq_true rfl) d_Inodes_extentLength_11 ⟨Nat.zero_le _, Nat.zero_le _⟩ hS (fun H locs hP hS => ?_)
  have := bN_lt L (dNow u) (nI ((1600 + 32 * i + 4 + 3 * j) + 2))
  exact W.iret (v := nI (bN L (dNow u) (nI ((1600 + 32 * i + 4 + 3 * j) + 2)))) hx hb hr (fun tt9 ht9 hW9 => ⟨⟨_, (), rfl, rfl, trivial⟩, hS.F ht9⟩) hS.2.2 d_Inodes_extentLength_14
theorem d_Inodes_leastFree_0 : decode b_Inodes_leastFree 0 = .ok (.iconst 0, 1) := by decide +kernel
theorem d_Inodes_leastFree_1 : decode b_Inodes_leastFree 1 = .ok (.istore_n 1, 1) := by decide +kernel
theorem d_Inodes_leastFree_2 : decode b_Inodes_leastFree 2 = .ok (.iload_n 1, 1) := by decide +kernel
theorem d_Inodes_leastFree_3 : decode b_Inodes_leastFree 3 = .ok (.bipush 64, 2) := by decide +kernel
theorem d_Inodes_leastFree_5 : decode b_Inodes_leastFree 5 = .ok (.if_icmp .ge 19, 3) := by decide +kernel
theorem d_Inodes_leastFree_8 : decode b_Inodes_leastFree 8 = .ok (.aload_n 0, 1) := by decide +kernel
theorem d_Inodes_leastFree_9 : decode b_Inodes_leastFree 9 = .ok (.iload_n 1, 1) := by decide +kernel
theorem d_Inodes_leastFree_10 : decode b_Inodes_leastFree 10 = .ok (.invokevirtual 31, 3) := by decide +kernel
theorem d_Inodes_leastFree_13 : decode b_Inodes_leastFree 13 = .ok (.ifCond .ne 5, 3) := by decide +kernel
theorem d_Inodes_leastFree_16 : decode b_Inodes_leastFree 16 = .ok (.iload_n 1, 1) := by decide +kernel
theorem d_Inodes_leastFree_17 : decode b_Inodes_leastFree 17 = .ok (.ireturn, 1) := by decide +kernel
theorem d_Inodes_leastFree_18 : decode b_Inodes_leastFree 18 = .ok (.iinc 1 1, 3) := by decide +kernel
theorem d_Inodes_leastFree_21 : decode b_Inodes_leastFree 21 = .ok (.goto (-19), 3) := by decide +kernel
theorem d_Inodes_leastFree_24 : decode b_Inodes_leastFree 24 = .ok (.iconst (-1), 1) := by decide +kernel
theorem d_Inodes_leastFree_25 : decode b_Inodes_leastFree 25 = .ok (.ireturn, 1) := by decide +kernel
set_option maxHeartbeats 4000000 in
set_option maxRecDepth 100000 in
theorem c_Inodes_leastFree (l : Launch) (D : va_G) (g : Nat → Nat) (k : Nat → ClassId) (L : Nat) (hL0 : 96 ≤ L) (hL : L ≤ 768) (u : DSt) : RoI l y_Inodes_leastFree w_Inodes_leastFree ({ frames := 2, cells := 0, slots := 0, locals := 42 }) [.ref (g 6)] (RoP D cl5 (tyC k) (wI g k L u)) (ilf L (dNow u)) := by
  refine Met.ofW (cc := b_Inodes_leastFree) (maxL := 2) (ret := (some .int)) (by decide) rfl ?_
  intro p e s m args below meth c s₁ B hml hv
  obtain ⟨rfl, hP, hK⟩ := hv
  have hx := B.exec
  have hb := B.bytes
  have hr := B.returns
  have hts := atoms_spec (ws := w_Inodes_leastFree) B.pre
  have hTB : ∀ w ∈ lw_tb, w.before _ s = true := fun w h => hts w (List.mem_cons_of_mem _ h)
  have hown : s.vm.findClass R_Inodes = some m.cls := findClass_of_methodNamed B.named
  have hlocks := B.notSynchronized
  have hS : va_S (fun _ => False) s.heap s.heap [] := va_S.rf
  have hl := lv_entry ([.ref (g 6)]) (n := 2) (Nat.le_of_ble_eq_true rfl)
  rw [lg_entry_eq]
  generalize (lg_sl ([.ref (g 6)]) ++ List.replicate (2 - (lg_sl ([.ref (g 6)])).length) Slot.unset).toArray = ls at hl ⊢
  have hl : lv_has ls 2 [(0, .ref (g 6))] := hl
  refine lv_iconst (v := nI 0) hx hb d_Inodes_leastFree_0 (by decide +kernel) ?_
  refine lv_istore_n (lv' := [(1, .int (nI 0)), (0, .ref (g 6))]) hx hb d_Inodes_leastFree_1 rfl hl (by decide) rfl (fun ls hl => ?_)
  refine gz_loop 2 (fun (zz : Nat) H locs ls => match zz with | i => va_P D cl5 (wI g k L u) H ∧ va_S (fun _ => False) s.heap H locs ∧ lv_has ls 2 [(0, .ref (g 6)), (1, .int (nI i))] ∧ (i ≤ 64) ∧ (ilG L (dNow u) (64 - i) i = ilf L (dNow u))) (fun (zz : Nat) => match zz with | i => 64 - i) (fun zz H locs ls hI ih2 => ?_) (0) ⟨hP, hS, lv_sub hl [1, 0] rfl, (by omega), rfl⟩
  obtain ⟨i, rfl⟩ : ∃ z, z = zz := ⟨_, rfl⟩
  obtain ⟨hP, hS, hl, hi1, hi2⟩ := hI
  refine lv_iload_n hx hb d_Inodes_leastFree_2 rfl (lv_at hl 1 rfl) ?_
  refine lv_bipush (v := nI 64) hx hb d_Inodes_leastFree_3 (by decide +kernel) ?_
  refine gz_icmp_ge (tgt := 24) hx hb d_Inodes_leastFree_5 (by decide) (by omega) (by omega) (fun h5 => ?_) (fun h5 => ?_)
  · refine lv_iconst (v := (-1)) hx hb d_Inodes_leastFree_24 (by decide +kernel) ?_
    exact W.iret (v := (-1)) hx hb hr (fun tt9 ht9 hW9 => ⟨⟨_, (), rfl, (by rw [← hi2, show 64 - i = 0 by omega]; rfl), trivial⟩, hS.F ht9⟩) hS.2.2 d_Inodes_leastFree_25
  · refine lv_aload_n hx hb d_Inodes_leastFree_8 rfl (lv_at hl 0 rfl) ?_
    refine lv_iload_n hx hb d_Inodes_leastFree_9 rfl (lv_at hl 1 rfl) ?_
    refine gz_roV (As := [.int (nI i)]) (rest := []) (wc := (wI g k L u)) ⟨hx, hb, hml, hown, hTB⟩ (c_Inodes_kind l D g k L hL0 hL u i) (cwV 1 hTB (gd_V k_385 k_341 k_342 k_54 k_343) rfl rfl rfl (by decide +kernel) ⟨Nat.le_of_ble_eq_true rfl, Nat.le_of_ble_eq_true rfl⟩) hK hP [0, 1, 2, 3, 4, 5, 6] rfl 0 rfl rfl rfl hl.1 rfl (Nat.le_of_ble_eq_true rfl) d_Inodes_leastFree_10 ⟨Nat.zero_le _, Nat.zero_le _⟩ hS (fun H locs hP hS => ?_)
    have := iK_lt L (dNow u) i
    refine gz_if_ne (tgt := 18) hx hb d_Inodes_leastFree_13 (by decide) (by omega) (fun h13 => ?_) (fun h13 => ?_)
    · refine lv_iinc (v := nI (i + 1)) (lv' := [(1, .int (nI (i + 1))), (0, .ref (g 6))]) hx hb d_Inodes_leastFree_18 hl (k := 1) rfl (nI_add i 1) (by decide) rfl (fun ls hl => ?_)
      refine lv_goto (tgt := 2) hx hb d_Inodes_leastFree_21 (by decide) ?_
      exact ih2 (i + 1) _ _ _ (by first | omega | (dsimp only; omega)) ⟨hP, hS, lv_sub hl [1, 0] rfl, (by omega), (by rw [← hi2, show 64 - i = (64 - (i + 1)) + 1 by omega, ilG, if_neg h13])⟩
    · refine lv_iload_n hx hb d_Inodes_leastFree_16 rfl (lv_at hl 1 rfl) ?_
      exact W.iret (v := nI i) hx hb hr (fun tt9 ht9 hW9 => ⟨⟨_, (), rfl, (by rw [← hi2, show 64 - i = (64 - (i + 1)) + 1 by omega, ilG, if_pos h13]), trivial⟩, hS.F ht9⟩) hS.2.2 d_Inodes_leastFree_17
theorem d_Inodes_ofKind_0 : decode b_Inodes_ofKind 0 = .ok (.iconst 0, 1) := by decide +kernel
theorem d_Inodes_ofKind_1 : decode b_Inodes_ofKind 1 = .ok (.istore_n 2, 1) := by decide +kernel
theorem d_Inodes_ofKind_2 : decode b_Inodes_ofKind 2 = .ok (.iconst 0, 1) := by decide +kernel
theorem d_Inodes_ofKind_3 : decode b_Inodes_ofKind 3 = .ok (.istore_n 3, 1) := by decide +kernel
theorem d_Inodes_ofKind_4 : decode b_Inodes_ofKind 4 = .ok (.iload_n 3, 1) := by decide +kernel
theorem d_Inodes_ofKind_5 : decode b_Inodes_ofKind 5 = .ok (.bipush 64, 2) := by decide +kernel
theorem d_Inodes_ofKind_7 : decode b_Inodes_ofKind 7 = .ok (.if_icmp .ge 21, 3) := by decide +kernel
theorem d_Inodes_ofKind_10 : decode b_Inodes_ofKind 10 = .ok (.aload_n 0, 1) := by decide +kernel
theorem d_Inodes_ofKind_11 : decode b_Inodes_ofKind 11 = .ok (.iload_n 3, 1) := by decide +kernel
theorem d_Inodes_ofKind_12 : decode b_Inodes_ofKind 12 = .ok (.invokevirtual 31, 3) := by decide +kernel
theorem d_Inodes_ofKind_15 : decode b_Inodes_ofKind 15 = .ok (.iload_n 1, 1) := by decide +kernel
theorem d_Inodes_ofKind_16 : decode b_Inodes_ofKind 16 = .ok (.if_icmp .ne 6, 3) := by decide +kernel
theorem d_Inodes_ofKind_19 : decode b_Inodes_ofKind 19 = .ok (.iinc 2 1, 3) := by decide +kernel
theorem d_Inodes_ofKind_22 : decode b_Inodes_ofKind 22 = .ok (.iinc 3 1, 3) := by decide +kernel
theorem d_Inodes_ofKind_25 : decode b_Inodes_ofKind 25 = .ok (.goto (-21), 3) := by decide +kernel
theorem d_Inodes_ofKind_28 : decode b_Inodes_ofKind 28 = .ok (.iload_n 2, 1) := by decide +kernel
theorem d_Inodes_ofKind_29 : decode b_Inodes_ofKind 29 = .ok (.ireturn, 1) := by decide +kernel
set_option maxHeartbeats 4000000 in
set_option maxRecDepth 100000 in
theorem c_Inodes_ofKind (l : Launch) (D : va_G) (g : Nat → Nat) (k : Nat → ClassId) (L : Nat) (hL0 : 96 ≤ L) (hL : L ≤ 768) (u : DSt) (c0 : Nat) (hc0 : c0 < 256) : RoI l y_Inodes_ofKind w_Inodes_ofKind ({ frames := 2, cells := 0, slots := 0, locals := 42 }) [.ref (g 6), .int (nI c0)] (RoP D cl5 (tyC k) (wI g k L u)) (nI (iok L (dNow u) c0)) := by
  refine Met.ofW (cc := b_Inodes_ofKind) (maxL := 4) (ret := (some .int)) (by decide) rfl ?_
  intro p e s m args below meth c s₁ B hml hv
  obtain ⟨rfl, hP, hK⟩ := hv
  have hx := B.exec
  have hb := B.bytes
  have hr := B.returns
  have hts := atoms_spec (ws := w_Inodes_ofKind) B.pre
  have hTB : ∀ w ∈ lw_tb, w.before _ s = true := fun w h => hts w (List.mem_cons_of_mem _ h)
  have hown : s.vm.findClass R_Inodes = some m.cls := findClass_of_methodNamed B.named
  have hlocks := B.notSynchronized
  have hS : va_S (fun _ => False) s.heap s.heap [] := va_S.rf
  have hl := lv_entry ([.ref (g 6), .int (nI c0)]) (n := 4) (Nat.le_of_ble_eq_true rfl)
  rw [lg_entry_eq]
  generalize (lg_sl ([.ref (g 6), .int (nI c0)]) ++ List.replicate (4 - (lg_sl ([.ref (g 6), .int (nI c0)])).length) Slot.unset).toArray = ls at hl ⊢
  have hl : lv_has ls 4 [(0, .ref (g 6)), (1, .int (nI c0))] := hl
  refine lv_iconst (v := nI 0) hx hb d_Inodes_ofKind_0 (by decide +kernel) ?_
  refine lv_istore_n (lv' := [(2, .int (nI 0)), (0, .ref (g 6)), (1, .int (nI c0))]) hx hb d_Inodes_ofKind_1 rfl hl (by decide) rfl (fun ls hl => ?_)
  refine lv_iconst (v := nI 0) hx hb d_Inodes_ofKind_2 (by decide +kernel) ?_
  refine lv_istore_n (lv' := [(3, .int (nI 0)), (2, .int (nI 0)), (0, .ref (g 6)), (1, .int (nI c0))]) hx hb d_Inodes_ofKind_3 rfl hl (by decide) rfl (fun ls hl => ?_)
  refine gz_loop 4 (fun (zz : (Nat × Nat)) H locs ls => match zz with | (n, i) => va_P D cl5 (wI g k L u) H ∧ va_S (fun _ => False) s.heap H locs ∧ lv_has ls 4 [(0, .ref (g 6)), (1, .int (nI c0)), (2, .int (nI n)), (3, .int (nI i))] ∧ (i ≤ 64) ∧ (n + ikG L (dNow u) c0 (64 - i) i = iok L (dNow u) c0) ∧ (n ≤ i)) (fun (zz : (Nat × Nat)) => match zz with | (n, i) => 64 - i) (fun zz H locs ls hI ih4 => ?_) (0, 0) ⟨hP, hS, lv_sub hl [2, 3, 1, 0] rfl, (by omega), (Nat.zero_add _), (by omega)⟩
  obtain ⟨n, i⟩ := zz
  obtain ⟨hP, hS, hl, hi1, hi2, hi3⟩ := hI
  refine lv_iload_n hx hb d_Inodes_ofKind_4 rfl (lv_at hl 3 rfl) ?_
  refine lv_bipush (v := nI 64) hx hb d_Inodes_ofKind_5 (by decide +kernel) ?_
  refine gz_icmp_ge (tgt := 28) hx hb d_Inodes_ofKind_7 (by decide) (by omega) (by omega) (fun h7 => ?_) (fun h7 => ?_)
  · refine lv_iload_n hx hb d_Inodes_ofKind_28 rfl (lv_at hl 2 rfl) ?_
    exact W.iret (v := nI n) hx hb hr (fun tt9 ht9 hW9 => ⟨⟨_, (), rfl, (by rw [← hi2, show 64 - i = 0 by omega]; rfl), trivial⟩, hS.F ht9⟩) hS.2.2 d_Inodes_ofKind_29
  · refine lv_aload_n hx hb d_Inodes_ofKind_10 rfl (lv_at hl 0 rfl) ?_
    refine lv_iload_n hx hb d_Inodes_ofKind_11 rfl (lv_at hl 3 rfl) ?_
    refine gz_roV (As := [.int (nI i)]) (rest := []) (wc := (wI g k L u)) ⟨hx, hb, hml, hown, hTB⟩ (c_Inodes_kind l D g k L hL0 hL u i) (cwV 1 hTB (gd_V k_385 k_341 k_342 k_54 k_343) rfl rfl rfl (by decide +kernel) ⟨Nat.le_of_ble_eq_true rfl, Nat.le_of_ble_eq_true rfl⟩) hK hP [0, 1, 2, 3, 4, 5, 6] rfl 0 rfl rfl rfl hl.1 rfl (Nat.le_of_ble_eq_true rfl) d_Inodes_ofKind_12 ⟨Nat.zero_le _, Nat.zero_le _⟩ hS (fun H locs hP hS => ?_)
    have := iK_lt L (dNow u) i
    refine lv_iload_n hx hb d_Inodes_ofKind_15 rfl (lv_at hl 1 rfl) ?_
    refine gz_icmp_ne (tgt := 22) hx hb d_Inodes_ofKind_16 (by decide) (by omega) (by omega) (fun h16 => ?_) (fun h16 => ?_)
    · refine lv_iinc (v := nI (i + 1)) (lv' := [(3, .int (nI (i + 1))), (0, .ref (g 6)), (1, .int (nI c0)), (2, .int (nI n))]) hx hb d_Inodes_ofKind_22 hl (k := 3) rfl (nI_add i 1) (by decide) rfl (fun ls hl => ?_)
      refine lv_goto (tgt := 4) hx hb d_Inodes_ofKind_25 (by decide) ?_
      exact ih4 (n, i + 1) _ _ _ (by first | omega | (dsimp only; omega)) ⟨hP, hS, lv_sub hl [1, 2, 3, 0] rfl, (by omega), (by rw [← hi2, show 64 - i = (64 - (i + 1)) + 1 by omega, ikG]; first | (rw [if_pos h16]; omega) | (rw [if_neg h16]; omega)), (by omega)⟩
    · refine lv_iinc (v := nI (n + 1)) (lv' := [(2, .int (nI (n + 1))), (0, .ref (g 6)), (1, .int (nI c0)), (3, .int (nI i))]) hx hb d_Inodes_ofKind_19 hl (k := 2) rfl (nI_add n 1) (by decide) rfl (fun ls hl => ?_)
      refine lv_iinc (v := nI (i + 1)) (lv' := [(3, .int (nI (i + 1))), (2, .int (nI (n + 1))), (0, .ref (g 6)), (1, .int (nI c0))]) hx hb d_Inodes_ofKind_22 hl (k := 3) rfl (nI_add i 1) (by decide) rfl (fun ls hl => ?_)
      refine lv_goto (tgt := 4) hx hb d_Inodes_ofKind_25 (by decide) ?_
      exact ih4 (n + 1, i + 1) _ _ _ (by first | omega | (dsimp only; omega)) ⟨hP, hS, lv_sub hl [2, 3, 1, 0] rfl, (by omega), (by rw [← hi2, show 64 - i = (64 - (i + 1)) + 1 by omega, ikG]; first | (rw [if_pos h16]; omega) | (rw [if_neg h16]; omega)), (by omega)⟩
theorem d_Inodes_placeOf_0 : decode b_Inodes_placeOf 0 = .ok (.iload_n 2, 1) := by decide +kernel
theorem d_Inodes_placeOf_1 : decode b_Inodes_placeOf 1 = .ok (.istore_n 3, 1) := by decide +kernel
theorem d_Inodes_placeOf_2 : decode b_Inodes_placeOf 2 = .ok (.aload_n 0, 1) := by decide +kernel
theorem d_Inodes_placeOf_3 : decode b_Inodes_placeOf 3 = .ok (.iload_n 1, 1) := by decide +kernel
theorem d_Inodes_placeOf_4 : decode b_Inodes_placeOf 4 = .ok (.invokevirtual 67, 3) := by decide +kernel
theorem d_Inodes_placeOf_7 : decode b_Inodes_placeOf 7 = .ok (.istore 4, 2) := by decide +kernel
theorem d_Inodes_placeOf_9 : decode b_Inodes_placeOf 9 = .ok (.iconst 0, 1) := by decide +kernel
theorem d_Inodes_placeOf_10 : decode b_Inodes_placeOf 10 = .ok (.istore 5, 2) := by decide +kernel
theorem d_Inodes_placeOf_12 : decode b_Inodes_placeOf 12 = .ok (.iload 5, 2) := by decide +kernel
theorem d_Inodes_placeOf_14 : decode b_Inodes_placeOf 14 = .ok (.iload 4, 2) := by decide +kernel
theorem d_Inodes_placeOf_16 : decode b_Inodes_placeOf 16 = .ok (.if_icmp .ge 45, 3) := by decide +kernel
theorem d_Inodes_placeOf_19 : decode b_Inodes_placeOf 19 = .ok (.aload_n 0, 1) := by decide +kernel
theorem d_Inodes_placeOf_20 : decode b_Inodes_placeOf 20 = .ok (.iload_n 1, 1) := by decide +kernel
theorem d_Inodes_placeOf_21 : decode b_Inodes_placeOf 21 = .ok (.iload 5, 2) := by decide +kernel
theorem d_Inodes_placeOf_23 : decode b_Inodes_placeOf 23 = .ok (.invokevirtual 70, 3) := by decide +kernel
theorem d_Inodes_placeOf_26 : decode b_Inodes_placeOf 26 = .ok (.bipush 64, 2) := by decide +kernel
theorem d_Inodes_placeOf_28 : decode b_Inodes_placeOf 28 = .ok (.imul, 1) := by decide +kernel
theorem d_Inodes_placeOf_29 : decode b_Inodes_placeOf 29 = .ok (.istore 6, 2) := by decide +kernel
theorem d_Inodes_placeOf_31 : decode b_Inodes_placeOf 31 = .ok (.iload_n 3, 1) := by decide +kernel
theorem d_Inodes_placeOf_32 : decode b_Inodes_placeOf 32 = .ok (.iload 6, 2) := by decide +kernel
theorem d_Inodes_placeOf_34 : decode b_Inodes_placeOf 34 = .ok (.if_icmp .ge 16, 3) := by decide +kernel
theorem d_Inodes_placeOf_37 : decode b_Inodes_placeOf 37 = .ok (.aload_n 0, 1) := by decide +kernel
theorem d_Inodes_placeOf_38 : decode b_Inodes_placeOf 38 = .ok (.iload_n 1, 1) := by decide +kernel
theorem d_Inodes_placeOf_39 : decode b_Inodes_placeOf 39 = .ok (.iload 5, 2) := by decide +kernel
theorem d_Inodes_placeOf_41 : decode b_Inodes_placeOf 41 = .ok (.invokevirtual 73, 3) := by decide +kernel
theorem d_Inodes_placeOf_44 : decode b_Inodes_placeOf 44 = .ok (.bipush 64, 2) := by decide +kernel
theorem d_Inodes_placeOf_46 : decode b_Inodes_placeOf 46 = .ok (.imul, 1) := by decide +kernel
theorem d_Inodes_placeOf_47 : decode b_Inodes_placeOf 47 = .ok (.iload_n 3, 1) := by decide +kernel
theorem d_Inodes_placeOf_48 : decode b_Inodes_placeOf 48 = .ok (.iadd, 1) := by decide +kernel
theorem d_Inodes_placeOf_49 : decode b_Inodes_placeOf 49 = .ok (.ireturn, 1) := by decide +kernel
theorem d_Inodes_placeOf_50 : decode b_Inodes_placeOf 50 = .ok (.iload_n 3, 1) := by decide +kernel
theorem d_Inodes_placeOf_51 : decode b_Inodes_placeOf 51 = .ok (.iload 6, 2) := by decide +kernel
theorem d_Inodes_placeOf_53 : decode b_Inodes_placeOf 53 = .ok (.isub, 1) := by decide +kernel
theorem d_Inodes_placeOf_54 : decode b_Inodes_placeOf 54 = .ok (.istore_n 3, 1) := by decide +kernel
theorem d_Inodes_placeOf_55 : decode b_Inodes_placeOf 55 = .ok (.iinc 5 1, 3) := by decide +kernel
theorem d_Inodes_placeOf_58 : decode b_Inodes_placeOf 58 = .ok (.goto (-46), 3) := by decide +kernel
theorem d_Inodes_placeOf_61 : decode b_Inodes_placeOf 61 = .ok (.iconst (-1), 1) := by decide +kernel
theorem d_Inodes_placeOf_62 : decode b_Inodes_placeOf 62 = .ok (.ireturn, 1) := by decide +kernel
set_option maxHeartbeats 4000000 in
set_option maxRecDepth 100000 in
theorem c_Inodes_placeOf (l : Launch) (D : va_G) (g : Nat → Nat) (k : Nat → ClassId) (L : Nat) (hL0 : 96 ≤ L) (hL : L ≤ 768) (u : DSt) (i t0 : Nat) (ht0 : t0 < 1000000000) : RoI l y_Inodes_placeOf w_Inodes_placeOf ({ frames := 3, cells := 0, slots := 0, locals := 64 }) [.ref (g 6), .int (nI i), .int (nI t0)] (RoP D cl5 (tyC k) (wI g k L u)) (plc L (dNow u) i t0) := by
  refine Met.ofW (cc := b_Inodes_placeOf) (maxL := 7) (ret := (some .int)) (by decide) rfl ?_
  intro p e s m args below meth c s₁ B hml hv
  obtain ⟨rfl, hP, hK⟩ := hv
  have hx := B.exec
  have hb := B.bytes
  have hr := B.returns
  have hts := atoms_spec (ws := w_Inodes_placeOf) B.pre
  have hTB : ∀ w ∈ lw_tb, w.before _ s = true := fun w h => hts w (List.mem_cons_of_mem _ h)
  have hown : s.vm.findClass R_Inodes = some m.cls := findClass_of_methodNamed B.named
  have hlocks := B.notSynchronized
  have hS : va_S (fun _ => False) s.heap s.heap [] := va_S.rf
  have hl := lv_entry ([.ref (g 6), .int (nI i), .int (nI t0)]) (n := 7) (Nat.le_of_ble_eq_true rfl)
  rw [lg_entry_eq]
  generalize (lg_sl ([.ref (g 6), .int (nI i), .int (nI t0)]) ++ List.replicate (7 - (lg_sl ([.ref (g 6), .int (nI i), .int (nI t0)])).length) Slot.unset).toArray = ls at hl ⊢
  have hl : lv_has ls 7 [(0, .ref (g 6)), (1, .int (nI i)), (2, .int (nI t0))] := hl
  refine lv_iload_n hx hb d_Inodes_placeOf_0 rfl (lv_at hl 2 rfl) ?_
  refine lv_istore_n (lv' := [(3, .int (nI t0)), (0, .ref (g 6)), (1, .int (nI i)), (2, .int (nI t0))]) hx hb d_Inodes_placeOf_1 rfl hl (by decide) rfl (fun ls hl => ?_)
  refine lv_aload_n hx hb d_Inodes_placeOf_2 rfl (lv_at hl 1 rfl) ?_
  refine lv_iload_n hx hb d_Inodes_placeOf_3 rfl (lv_at hl 2 rfl) ?_
  refine gz_roV (As := [.int (nI i)]) (rest := []) (wc := (wI g k L u)) ⟨hx, hb, hml, hown, hTB⟩ (c_Inodes_extents l D g k L hL0 hL u i) (cwV 1 hTB (gd_V k_365 k_366 k_367 k_54 k_368) rfl rfl rfl (by decide +kernel) ⟨Nat.le_of_ble_eq_true rfl, Nat.le_of_ble_eq_true rfl⟩) hK hP [0, 1, 2, 3, 4, 5, 6] rfl 0 rfl rfl rfl hl.1 rfl (Nat.le_of_ble_eq_true rfl) d_Inodes_placeOf_4 ⟨Nat.zero_le _, Nat.zero_le _⟩ hS (fun H locs hP hS => ?_)
  have := iX_lt L (dNow u) i
  refine lv_istore (lv' := [(4, .int (nI (iX L (dNow u) i))), (3, .int (nI t0)), (0, .ref (g 6)), (1, .int (nI i)), (2, .int (nI t0))]) hx hb d_Inodes_placeOf_7 hl (by decide) rfl (fun ls hl => ?_)
  refine lv_iconst (v := nI 0) hx hb d_Inodes_placeOf_9 (by decide +kernel) ?_
  refine lv_istore (lv' := [(5, .int (nI 0)), (4, .int (nI (iX L (dNow u) i))), (3, .int (nI t0)), (0, .ref (g 6)), (1, .int (nI i)), (2, .int (nI t0))]) hx hb d_Inodes_placeOf_10 hl (by decide) rfl (fun ls hl => ?_)
  refine gz_loop 12 (fun (zz : (Nat × Nat)) H locs ls => match zz with | (j, t) => va_P D cl5 (wI g k L u) H ∧ va_S (fun _ => False) s.heap H locs ∧ lv_has ls 7 [(0, .ref (g 6)), (1, .int (nI i)), (3, .int (nI t)), (4, .int (nI (iX L (dNow u) i))), (5, .int (nI j))] ∧ (j ≤ iX L (dNow u) i) ∧ (t ≤ t0) ∧ (plG L (dNow u) i (iX L (dNow u) i - j) j t = plc L (dNow u) i t0)) (fun (zz : (Nat × Nat)) => match zz with | (j, t) => iX L (dNow u) i - j) (fun zz H locs ls hI ih12 => ?_) (0, t0) ⟨hP, hS, lv_sub hl [3, 4, 2, 1, 0] rfl, (by omega), (by omega), rfl⟩
  obtain ⟨j, t⟩ := zz
  obtain ⟨hP, hS, hl, hj1, hj2, hj3⟩ := hI
  refine lv_iload hx hb d_Inodes_placeOf_12 (lv_at hl 4 rfl) ?_
  refine lv_iload hx hb d_Inodes_placeOf_14 (lv_at hl 3 rfl) ?_
  refine gz_icmp_ge (tgt := 61) hx hb d_Inodes_placeOf_16 (by decide) (by omega) (by omega) (fun h16 => ?_) (fun h16 => ?_)
  · refine lv_iconst (v := (-1)) hx hb d_Inodes_placeOf_61 (by decide +kernel) ?_
    exact W.iret (v := (-1)) hx hb hr (fun tt9 ht9 hW9 => ⟨⟨_, (), rfl, (by rw [← hj3, show iX L (dNow u) i - j = 0 by omega]; rfl), trivial⟩, hS.F ht9⟩) hS.2.2 d_Inodes_placeOf_62
  · refine lv_aload_n hx hb d_Inodes_placeOf_19 rfl (lv_at hl 0 rfl) ?_
    refine lv_iload_n hx hb d_Inodes_placeOf_20 rfl (lv_at hl 1 rfl) ?_
    refine lv_iload hx hb d_Inodes_placeOf_21 (lv_at hl 4 rfl) ?_
    refine gz_roV (As := [.int (nI i), .int (nI j)]) (rest := []) (wc := (wI g k L u)) ⟨hx, hb, hml, hown, hTB⟩ (c_Inodes_extentLength l D g k L hL0 hL u i j) (cwV 2 hTB (gd_V k_369 k_370 k_371 k_54 k_372) rfl rfl rfl (by decide +kernel) ⟨Nat.le_of_ble_eq_true rfl, Nat.le_of_ble_eq_true rfl⟩) hK hP [0, 1, 2, 3, 4, 5, 6] rfl 0 rfl rfl rfl hl.1 rfl (Nat.le_of_ble_eq_true rfl) d_Inodes_placeOf_23 ⟨Nat.zero_le _, Nat.zero_le _⟩ hS (fun H locs hP hS => ?_)
    have := xL_lt L (dNow u) i j
    refine lv_bipush (v := nI 64) hx hb d_Inodes_placeOf_26 (by decide +kernel) ?_
    refine gz_imul hx hb d_Inodes_placeOf_28 ?_
    refine lv_istore (lv' := [(6, .int (nI ((xL L (dNow u) i j) * 64))), (0, .ref (g 6)), (1, .int (nI i)), (3, .int (nI t)), (4, .int (nI (iX L (dNow u) i))), (5, .int (nI j))]) hx hb d_Inodes_placeOf_29 hl (by decide) rfl (fun ls hl => ?_)
    refine lv_iload_n hx hb d_Inodes_placeOf_31 rfl (lv_at hl 3 rfl) ?_
    refine lv_iload hx hb d_Inodes_placeOf_32 (lv_at hl 0 rfl) ?_
    refine gz_icmp_ge (tgt := 50) hx hb d_Inodes_placeOf_34 (by decide) (by omega) (by omega) (fun h34 => ?_) (fun h34 => ?_)
    · refine lv_iload_n hx hb d_Inodes_placeOf_50 rfl (lv_at hl 3 rfl) ?_
      refine lv_iload hx hb d_Inodes_placeOf_51 (lv_at hl 0 rfl) ?_
      refine gz_isub hx hb d_Inodes_placeOf_53 (by omega) ?_
      refine lv_istore_n (lv' := [(3, .int (nI (t - ((xL L (dNow u) i j) * 64)))), (6, .int (nI ((xL L (dNow u) i j) * 64))), (0, .ref (g 6)), (1, .int (nI i)), (4, .int (nI (iX L (dNow u) i))), (5, .int (nI j))]) hx hb d_Inodes_placeOf_54 rfl hl (by decide) rfl (fun ls hl => ?_)
      refine lv_iinc (v := nI (j + 1)) (lv' := [(5, .int (nI (j + 1))), (3, .int (nI (t - ((xL L (dNow u) i j) * 64)))), (6, .int (nI ((xL L (dNow u) i j) * 64))), (0, .ref (g 6)), (1, .int (nI i)), (4, .int (nI (iX L (dNow u) i)))]) hx hb d_Inodes_placeOf_55 hl (k := 5) rfl (nI_add j 1) (by decide) rfl (fun ls hl => ?_)
      refine lv_goto (tgt := 12) hx hb d_Inodes_placeOf_58 (by decide) ?_
      exact ih12 (j + 1, t - ((xL L (dNow u) i j) * 64)) _ _ _ (by first | omega | (dsimp only; omega)) ⟨hP, hS, lv_sub hl [3, 4, 1, 5, 0] rfl, (by omega), (by omega), (by rw [← hj3, show iX L (dNow u) i - j = (iX L (dNow u) i - (j + 1)) + 1 by omega, plG, if_neg (by omega)])⟩
    · refine lv_aload_n hx hb d_Inodes_placeOf_37 rfl (lv_at hl 1 rfl) ?_
      refine lv_iload_n hx hb d_Inodes_placeOf_38 rfl (lv_at hl 2 rfl) ?_
      refine lv_iload hx hb d_Inodes_placeOf_39 (lv_at hl 5 rfl) ?_
      refine gz_roV (As := [.int (nI i), .int (nI j)]) (rest := []) (wc := (wI g k L u)) ⟨hx, hb, hml, hown, hTB⟩ (c_Inodes_extentFirst l D g k L hL0 hL u i j) (cwV 2 hTB (gd_V k_376 k_377 k_378 k_54 k_379) rfl rfl rfl (by decide +kernel) ⟨Nat.le_of_ble_eq_true rfl, Nat.le_of_ble_eq_true rfl⟩) hK hP [0, 1, 2, 3, 4, 5, 6] rfl 0 rfl rfl rfl hl.1 rfl (Nat.le_of_ble_eq_true rfl) d_Inodes_placeOf_41 ⟨Nat.zero_le _, Nat.zero_le _⟩ hS (fun H locs hP hS => ?_)
      have := xF_lt L (dNow u) i j
      refine lv_bipush (v := nI 64) hx hb d_Inodes_placeOf_44 (by decide +kernel) ?_
      refine gz_imul hx hb d_Inodes_placeOf_46 ?_
      refine lv_iload_n hx hb d_Inodes_placeOf_47 rfl (lv_at hl 3 rfl) ?_
      refine gz_iadd hx hb d_Inodes_placeOf_48 ?_
      exact W.iret (v := nI (((xF L (dNow u) i j) * 64) + t)) hx hb hr (fun tt9 ht9 hW9 => ⟨⟨_, (), rfl, (by rw [← hj3, show iX L (dNow u) i - j = (iX L (dNow u) i - (j + 1)) + 1 by omega, plG, if_pos h34]), trivial⟩, hS.F ht9⟩) hS.2.2 d_Inodes_placeOf_49
theorem d_Inodes_begin_0 : decode b_Inodes_begin 0 = .ok (.aload_n 0, 1) := by decide +kernel
theorem d_Inodes_begin_1 : decode b_Inodes_begin 1 = .ok (.getfield 9, 3) := by decide +kernel
theorem d_Inodes_begin_4 : decode b_Inodes_begin 4 = .ok (.iload_n 1, 1) := by decide +kernel
theorem d_Inodes_begin_5 : decode b_Inodes_begin 5 = .ok (.invokestatic 15, 3) := by decide +kernel
theorem d_Inodes_begin_8 : decode b_Inodes_begin 8 = .ok (.iload_n 2, 1) := by decide +kernel
theorem d_Inodes_begin_9 : decode b_Inodes_begin 9 = .ok (.invokevirtual 34, 3) := by decide +kernel
theorem d_Inodes_begin_12 : decode b_Inodes_begin 12 = .ok (.return_, 1) := by decide +kernel
set_option maxHeartbeats 4000000 in
set_option maxRecDepth 100000 in
theorem c_Inodes_begin (l : Launch) (D : va_G) (g : Nat → Nat) (k : Nat → ClassId) (L : Nat) (hL0 : 96 ≤ L) (hL : L ≤ 768) (u : DSt) (i : Nat) (v : Int32) : MuV l y_Inodes_begin w_Inodes_begin ({ frames := 3, cells := 0, slots := 0, locals := 106 }) [.ref (g 6), .int (nI i), .int (v)] D cl5 (tyC k) (wI g k L u) (wI g k L (setB L u (nI (1600 + 32 * i)) v)) := by
  intro sz
  refine Met.ofW (cc := b_Inodes_begin) (maxL := 3) (ret := none) (by decide) rfl ?_
  intro p e s m args below meth c s₁ B hml hv
  obtain ⟨rfl, hsz, hP, hK, hD0⟩ := hv
  have hx := B.exec
  have hb := B.bytes
  have hr := B.returns
  have hts := atoms_spec (ws := w_Inodes_begin) B.pre
  have hTB : ∀ w ∈ lw_tb, w.before _ s = true := fun w h => hts w (List.mem_cons_of_mem _ h)
  have hown : s.vm.findClass R_Inodes = some m.cls := findClass_of_methodNamed B.named
  have hlocks := B.notSynchronized
  subst hsz
  have hD := hD0.self (sz := s.heap.size)
  generalize hAe : va_A (wI g k L u) s.heap.size = A at hD ⊢
  have hA : ∀ q : Nat, s.heap.size ≤ q → A q := fun q h => by rw [← hAe]; exact Or.inr h
  have hS : va_S A s.heap s.heap [] := va_S.rf
  have hl := lv_entry ([.ref (g 6), .int (nI i), .int (v)]) (n := 3) (Nat.le_of_ble_eq_true rfl)
  rw [lg_entry_eq]
  generalize (lg_sl ([.ref (g 6), .int (nI i), .int (v)]) ++ List.replicate (3 - (lg_sl ([.ref (g 6), .int (nI i), .int (v)])).length) Slot.unset).toArray = ls at hl ⊢
  have hl : lv_has ls 3 [(0, .ref (g 6)), (1, .int (nI i)), (2, .int (v))] := hl
  refine lv_aload_n hx hb d_Inodes_begin_0 rfl (lv_at hl 0 rfl) ?_
  refine va_get (D := D) (ci := 2) (v := .ref (g 0)) (C := R_Inodes) (T := T_Inodes) (N := 1) hx hb hTB in_Inodes hown hK hP 0 rfl rfl 0 (by decide) (hTB _ k_122) (fun _ h9 => h9) rfl d_Inodes_begin_1 ?_
  refine lv_iload_n hx hb d_Inodes_begin_4 rfl (lv_at hl 1 rfl) ?_
  refine gz_roS (As := [.int (nI i)]) (rest := [.ref (g 0)]) ⟨hx, hb, hml, hown, hTB⟩ (c_Inodes_inodePlace l i) (cwS 1 hTB (gd_S k_147 k_148 k_54 k_149) rfl rfl rfl (by decide +kernel) ⟨Nat.le_of_ble_eq_true rfl, Nat.le_of_ble_eq_true rfl⟩) hP rfl hl.1 rfl (Nat.le_of_ble_eq_true rfl) d_Inodes_begin_5 ⟨Nat.zero_le _, Nat.zero_le _⟩ hS (fun H locs hP hS => ?_)
  refine lv_iload_n hx hb d_Inodes_begin_8 rfl (lv_at hl 2 rfl) ?_
  refine gz_muV (As := [.int (nI (1600 + 32 * i)), .int (v)]) (rest := []) (wc := (wD g k L u)) (w1 := (wD g k L (setB L u (nI (1600 + 32 * i)) v))) (wr := (hI g)) ⟨hx, hb, hml, hown, hTB⟩ (c_Disk_setByte l D g k L hL0 hL u (nI (1600 + 32 * i)) v) (cwV 2 hTB (gd_V k_150 k_151 k_152 k_52 k_153) rfl rfl rfl (by decide +kernel) ⟨Nat.le_of_ble_eq_true rfl, Nat.le_of_ble_eq_true rfl⟩) hK hP hD hA [1, 2, 3, 4, 5, 6] [0] rfl rfl (by decide) rfl (by decide) (by decide) 1 rfl rfl rfl hl.1 rfl (Nat.le_of_ble_eq_true rfl) d_Inodes_begin_9 ⟨Nat.zero_le _, Nat.zero_le _⟩ hS (fun H locs hP hD hS => ?_)
  have hP : va_P D cl5 (wI g k L (setB L u (nI (1600 + 32 * i)) v)) H := hP
  have hD : va_D A (wI g k L (setB L u (nI (1600 + 32 * i)) v)) := hD
  have hP9 : va_P D cl5 (wI g k L (setB L u (nI (1600 + 32 * i)) v)) H := hP
  have hD9 : va_D A (wI g k L (setB L u (nI (1600 + 32 * i)) v)) := hD
  exact W.vret hx hb hr (fun tt9 ht9 hW9 => ⟨⟨(), rfl, trivial, ⟨by rw [ht9]; exact hP9, hD9⟩⟩, hS.F ht9⟩) hS.2.2 d_Inodes_begin_12
theorem d_Inodes_takeBlock_0 : decode b_Inodes_takeBlock 0 = .ok (.aload_n 0, 1) := by decide +kernel
theorem d_Inodes_takeBlock_1 : decode b_Inodes_takeBlock 1 = .ok (.iload_n 1, 1) := by decide +kernel
theorem d_Inodes_takeBlock_2 : decode b_Inodes_takeBlock 2 = .ok (.invokevirtual 67, 3) := by decide +kernel
theorem d_Inodes_takeBlock_5 : decode b_Inodes_takeBlock 5 = .ok (.istore_n 2, 1) := by decide +kernel
theorem d_Inodes_takeBlock_6 : decode b_Inodes_takeBlock 6 = .ok (.iload_n 2, 1) := by decide +kernel
theorem d_Inodes_takeBlock_7 : decode b_Inodes_takeBlock 7 = .ok (.ifCond .le 73, 3) := by decide +kernel
theorem d_Inodes_takeBlock_10 : decode b_Inodes_takeBlock 10 = .ok (.aload_n 0, 1) := by decide +kernel
theorem d_Inodes_takeBlock_11 : decode b_Inodes_takeBlock 11 = .ok (.iload_n 1, 1) := by decide +kernel
theorem d_Inodes_takeBlock_12 : decode b_Inodes_takeBlock 12 = .ok (.iload_n 2, 1) := by decide +kernel
theorem d_Inodes_takeBlock_13 : decode b_Inodes_takeBlock 13 = .ok (.iconst 1, 1) := by decide +kernel
theorem d_Inodes_takeBlock_14 : decode b_Inodes_takeBlock 14 = .ok (.isub, 1) := by decide +kernel
theorem d_Inodes_takeBlock_15 : decode b_Inodes_takeBlock 15 = .ok (.invokevirtual 70, 3) := by decide +kernel
theorem d_Inodes_takeBlock_18 : decode b_Inodes_takeBlock 18 = .ok (.istore_n 3, 1) := by decide +kernel
theorem d_Inodes_takeBlock_19 : decode b_Inodes_takeBlock 19 = .ok (.aload_n 0, 1) := by decide +kernel
theorem d_Inodes_takeBlock_20 : decode b_Inodes_takeBlock 20 = .ok (.iload_n 1, 1) := by decide +kernel
theorem d_Inodes_takeBlock_21 : decode b_Inodes_takeBlock 21 = .ok (.iload_n 2, 1) := by decide +kernel
theorem d_Inodes_takeBlock_22 : decode b_Inodes_takeBlock 22 = .ok (.iconst 1, 1) := by decide +kernel
theorem d_Inodes_takeBlock_23 : decode b_Inodes_takeBlock 23 = .ok (.isub, 1) := by decide +kernel
theorem d_Inodes_takeBlock_24 : decode b_Inodes_takeBlock 24 = .ok (.invokevirtual 73, 3) := by decide +kernel
theorem d_Inodes_takeBlock_27 : decode b_Inodes_takeBlock 27 = .ok (.iload_n 3, 1) := by decide +kernel
theorem d_Inodes_takeBlock_28 : decode b_Inodes_takeBlock 28 = .ok (.iadd, 1) := by decide +kernel
theorem d_Inodes_takeBlock_29 : decode b_Inodes_takeBlock 29 = .ok (.istore 4, 2) := by decide +kernel
theorem d_Inodes_takeBlock_31 : decode b_Inodes_takeBlock 31 = .ok (.iload_n 3, 1) := by decide +kernel
theorem d_Inodes_takeBlock_32 : decode b_Inodes_takeBlock 32 = .ok (.sipush 255, 3) := by decide +kernel
theorem d_Inodes_takeBlock_35 : decode b_Inodes_takeBlock 35 = .ok (.if_icmp .ge 45, 3) := by decide +kernel
theorem d_Inodes_takeBlock_38 : decode b_Inodes_takeBlock 38 = .ok (.aload_n 0, 1) := by decide +kernel
theorem d_Inodes_takeBlock_39 : decode b_Inodes_takeBlock 39 = .ok (.getfield 9, 3) := by decide +kernel
theorem d_Inodes_takeBlock_42 : decode b_Inodes_takeBlock 42 = .ok (.iload 4, 2) := by decide +kernel
theorem d_Inodes_takeBlock_44 : decode b_Inodes_takeBlock 44 = .ok (.invokevirtual 76, 3) := by decide +kernel
theorem d_Inodes_takeBlock_47 : decode b_Inodes_takeBlock 47 = .ok (.ifCond .eq 33, 3) := by decide +kernel
theorem d_Inodes_takeBlock_50 : decode b_Inodes_takeBlock 50 = .ok (.aload_n 0, 1) := by decide +kernel
theorem d_Inodes_takeBlock_51 : decode b_Inodes_takeBlock 51 = .ok (.getfield 9, 3) := by decide +kernel
theorem d_Inodes_takeBlock_54 : decode b_Inodes_takeBlock 54 = .ok (.iload 4, 2) := by decide +kernel
theorem d_Inodes_takeBlock_56 : decode b_Inodes_takeBlock 56 = .ok (.invokevirtual 79, 3) := by decide +kernel
theorem d_Inodes_takeBlock_59 : decode b_Inodes_takeBlock 59 = .ok (.aload_n 0, 1) := by decide +kernel
theorem d_Inodes_takeBlock_60 : decode b_Inodes_takeBlock 60 = .ok (.getfield 9, 3) := by decide +kernel
theorem d_Inodes_takeBlock_63 : decode b_Inodes_takeBlock 63 = .ok (.iload_n 1, 1) := by decide +kernel
theorem d_Inodes_takeBlock_64 : decode b_Inodes_takeBlock 64 = .ok (.iload_n 2, 1) := by decide +kernel
theorem d_Inodes_takeBlock_65 : decode b_Inodes_takeBlock 65 = .ok (.iconst 1, 1) := by decide +kernel
theorem d_Inodes_takeBlock_66 : decode b_Inodes_takeBlock 66 = .ok (.isub, 1) := by decide +kernel
theorem d_Inodes_takeBlock_67 : decode b_Inodes_takeBlock 67 = .ok (.invokestatic 27, 3) := by decide +kernel
theorem d_Inodes_takeBlock_70 : decode b_Inodes_takeBlock 70 = .ok (.iconst 2, 1) := by decide +kernel
theorem d_Inodes_takeBlock_71 : decode b_Inodes_takeBlock 71 = .ok (.iadd, 1) := by decide +kernel
theorem d_Inodes_takeBlock_72 : decode b_Inodes_takeBlock 72 = .ok (.iload_n 3, 1) := by decide +kernel
theorem d_Inodes_takeBlock_73 : decode b_Inodes_takeBlock 73 = .ok (.iconst 1, 1) := by decide +kernel
theorem d_Inodes_takeBlock_74 : decode b_Inodes_takeBlock 74 = .ok (.iadd, 1) := by decide +kernel
theorem d_Inodes_takeBlock_75 : decode b_Inodes_takeBlock 75 = .ok (.invokevirtual 34, 3) := by decide +kernel
theorem d_Inodes_takeBlock_78 : decode b_Inodes_takeBlock 78 = .ok (.iconst 1, 1) := by decide +kernel
theorem d_Inodes_takeBlock_79 : decode b_Inodes_takeBlock 79 = .ok (.ireturn, 1) := by decide +kernel
theorem d_Inodes_takeBlock_80 : decode b_Inodes_takeBlock 80 = .ok (.aload_n 0, 1) := by decide +kernel
theorem d_Inodes_takeBlock_81 : decode b_Inodes_takeBlock 81 = .ok (.getfield 9, 3) := by decide +kernel
theorem d_Inodes_takeBlock_84 : decode b_Inodes_takeBlock 84 = .ok (.invokevirtual 81, 3) := by decide +kernel
theorem d_Inodes_takeBlock_87 : decode b_Inodes_takeBlock 87 = .ok (.istore_n 3, 1) := by decide +kernel
theorem d_Inodes_takeBlock_88 : decode b_Inodes_takeBlock 88 = .ok (.iload_n 3, 1) := by decide +kernel
theorem d_Inodes_takeBlock_89 : decode b_Inodes_takeBlock 89 = .ok (.iconst (-1), 1) := by decide +kernel
theorem d_Inodes_takeBlock_90 : decode b_Inodes_takeBlock 90 = .ok (.if_icmp .eq 9, 3) := by decide +kernel
theorem d_Inodes_takeBlock_93 : decode b_Inodes_takeBlock 93 = .ok (.iload_n 2, 1) := by decide +kernel
theorem d_Inodes_takeBlock_94 : decode b_Inodes_takeBlock 94 = .ok (.bipush 8, 2) := by decide +kernel
theorem d_Inodes_takeBlock_96 : decode b_Inodes_takeBlock 96 = .ok (.if_icmp .lt 5, 3) := by decide +kernel
theorem d_Inodes_takeBlock_99 : decode b_Inodes_takeBlock 99 = .ok (.iconst 0, 1) := by decide +kernel
theorem d_Inodes_takeBlock_100 : decode b_Inodes_takeBlock 100 = .ok (.ireturn, 1) := by decide +kernel
theorem d_Inodes_takeBlock_101 : decode b_Inodes_takeBlock 101 = .ok (.aload_n 0, 1) := by decide +kernel
theorem d_Inodes_takeBlock_102 : decode b_Inodes_takeBlock 102 = .ok (.getfield 9, 3) := by decide +kernel
theorem d_Inodes_takeBlock_105 : decode b_Inodes_takeBlock 105 = .ok (.iload_n 3, 1) := by decide +kernel
theorem d_Inodes_takeBlock_106 : decode b_Inodes_takeBlock 106 = .ok (.invokevirtual 79, 3) := by decide +kernel
theorem d_Inodes_takeBlock_109 : decode b_Inodes_takeBlock 109 = .ok (.aload_n 0, 1) := by decide +kernel
theorem d_Inodes_takeBlock_110 : decode b_Inodes_takeBlock 110 = .ok (.getfield 9, 3) := by decide +kernel
theorem d_Inodes_takeBlock_113 : decode b_Inodes_takeBlock 113 = .ok (.iload_n 1, 1) := by decide +kernel
theorem d_Inodes_takeBlock_114 : decode b_Inodes_takeBlock 114 = .ok (.invokestatic 15, 3) := by decide +kernel
theorem d_Inodes_takeBlock_117 : decode b_Inodes_takeBlock 117 = .ok (.iconst 1, 1) := by decide +kernel
theorem d_Inodes_takeBlock_118 : decode b_Inodes_takeBlock 118 = .ok (.iadd, 1) := by decide +kernel
theorem d_Inodes_takeBlock_119 : decode b_Inodes_takeBlock 119 = .ok (.iload_n 2, 1) := by decide +kernel
theorem d_Inodes_takeBlock_120 : decode b_Inodes_takeBlock 120 = .ok (.iconst 1, 1) := by decide +kernel
theorem d_Inodes_takeBlock_121 : decode b_Inodes_takeBlock 121 = .ok (.iadd, 1) := by decide +kernel
theorem d_Inodes_takeBlock_122 : decode b_Inodes_takeBlock 122 = .ok (.invokevirtual 34, 3) := by decide +kernel
theorem d_Inodes_takeBlock_125 : decode b_Inodes_takeBlock 125 = .ok (.aload_n 0, 1) := by decide +kernel
theorem d_Inodes_takeBlock_126 : decode b_Inodes_takeBlock 126 = .ok (.getfield 9, 3) := by decide +kernel
theorem d_Inodes_takeBlock_129 : decode b_Inodes_takeBlock 129 = .ok (.iload_n 1, 1) := by decide +kernel
theorem d_Inodes_takeBlock_130 : decode b_Inodes_takeBlock 130 = .ok (.iload_n 2, 1) := by decide +kernel
theorem d_Inodes_takeBlock_131 : decode b_Inodes_takeBlock 131 = .ok (.invokestatic 27, 3) := by decide +kernel
theorem d_Inodes_takeBlock_134 : decode b_Inodes_takeBlock 134 = .ok (.iload_n 3, 1) := by decide +kernel
theorem d_Inodes_takeBlock_135 : decode b_Inodes_takeBlock 135 = .ok (.invokevirtual 64, 3) := by decide +kernel
theorem d_Inodes_takeBlock_138 : decode b_Inodes_takeBlock 138 = .ok (.aload_n 0, 1) := by decide +kernel
theorem d_Inodes_takeBlock_139 : decode b_Inodes_takeBlock 139 = .ok (.getfield 9, 3) := by decide +kernel
theorem d_Inodes_takeBlock_142 : decode b_Inodes_takeBlock 142 = .ok (.iload_n 1, 1) := by decide +kernel
theorem d_Inodes_takeBlock_143 : decode b_Inodes_takeBlock 143 = .ok (.iload_n 2, 1) := by decide +kernel
theorem d_Inodes_takeBlock_144 : decode b_Inodes_takeBlock 144 = .ok (.invokestatic 27, 3) := by decide +kernel
theorem d_Inodes_takeBlock_147 : decode b_Inodes_takeBlock 147 = .ok (.iconst 2, 1) := by decide +kernel
theorem d_Inodes_takeBlock_148 : decode b_Inodes_takeBlock 148 = .ok (.iadd, 1) := by decide +kernel
theorem d_Inodes_takeBlock_149 : decode b_Inodes_takeBlock 149 = .ok (.iconst 1, 1) := by decide +kernel
theorem d_Inodes_takeBlock_150 : decode b_Inodes_takeBlock 150 = .ok (.invokevirtual 34, 3) := by decide +kernel
theorem d_Inodes_takeBlock_153 : decode b_Inodes_takeBlock 153 = .ok (.iconst 1, 1) := by decide +kernel
theorem d_Inodes_takeBlock_154 : decode b_Inodes_takeBlock 154 = .ok (.ireturn, 1) := by decide +kernel
set_option maxHeartbeats 4000000 in
set_option maxRecDepth 100000 in
theorem c_Inodes_takeBlock (l : Launch) (D : va_G) (g : Nat → Nat) (k : Nat → ClassId) (L : Nat) (hL0 : 96 ≤ L) (hL : L ≤ 768) (u : DSt) (i : Nat) : MuI l y_Inodes_takeBlock w_Inodes_takeBlock ({ frames := 4, cells := 0, slots := 0, locals := 128 }) [.ref (g 6), .int (nI i)] D cl5 (tyC k) (wI g k L u) (wI g k L ((tkI L u i).2)) (zI (tkI L u i).1) := by
  intro sz
  refine Met.ofW (cc := b_Inodes_takeBlock) (maxL := 5) (ret := (some .boolean)) (by decide) rfl ?_
  intro p e s m args below meth c s₁ B hml hv
  obtain ⟨rfl, hsz, hP, hK, hD0⟩ := hv
  have hx := B.exec
  have hb := B.bytes
  have hr := B.returns
  have hts := atoms_spec (ws := w_Inodes_takeBlock) B.pre
  have hTB : ∀ w ∈ lw_tb, w.before _ s = true := fun w h => hts w (List.mem_cons_of_mem _ h)
  have hown : s.vm.findClass R_Inodes = some m.cls := findClass_of_methodNamed B.named
  have hlocks := B.notSynchronized
  subst hsz
  have hD := hD0.self (sz := s.heap.size)
  generalize hAe : va_A (wI g k L u) s.heap.size = A at hD ⊢
  have hA : ∀ q : Nat, s.heap.size ≤ q → A q := fun q h => by rw [← hAe]; exact Or.inr h
  have hS : va_S A s.heap s.heap [] := va_S.rf
  have hl := lv_entry ([.ref (g 6), .int (nI i)]) (n := 5) (Nat.le_of_ble_eq_true rfl)
  rw [lg_entry_eq]
  generalize (lg_sl ([.ref (g 6), .int (nI i)]) ++ List.replicate (5 - (lg_sl ([.ref (g 6), .int (nI i)])).length) Slot.unset).toArray = ls at hl ⊢
  have hl : lv_has ls 5 [(0, .ref (g 6)), (1, .int (nI i))] := hl
  refine lv_aload_n hx hb d_Inodes_takeBlock_0 rfl (lv_at hl 0 rfl) ?_
  refine lv_iload_n hx hb d_Inodes_takeBlock_1 rfl (lv_at hl 1 rfl) ?_
  refine gz_roV (As := [.int (nI i)]) (rest := []) (wc := (wI g k L u)) ⟨hx, hb, hml, hown, hTB⟩ (c_Inodes_extents l D g k L hL0 hL u i) (cwV 1 hTB (gd_V k_365 k_366 k_367 k_54 k_368) rfl rfl rfl (by decide +kernel) ⟨Nat.le_of_ble_eq_true rfl, Nat.le_of_ble_eq_true rfl⟩) hK hP [0, 1, 2, 3, 4, 5, 6] rfl 0 rfl rfl rfl hl.1 rfl (Nat.le_of_ble_eq_true rfl) d_Inodes_takeBlock_2 ⟨Nat.zero_le _, Nat.zero_le _⟩ hS (fun H locs hP hS => ?_)
  have := iX_lt L (dNow u) i
  refine lv_istore_n (lv' := [(2, .int (nI (iX L (dNow u) i))), (0, .ref (g 6)), (1, .int (nI i))]) hx hb d_Inodes_takeBlock_5 rfl hl (by decide) rfl (fun ls hl => ?_)
  refine lv_iload_n hx hb d_Inodes_takeBlock_6 rfl (lv_at hl 0 rfl) ?_
  refine gz_if_le (tgt := 80) hx hb d_Inodes_takeBlock_7 (by decide) (by omega) (fun h7 => ?_) (fun h7 => ?_)
  · have hno : ¬ tkC L (dNow u) i := fun z => by have := z.1; omega
    refine lv_aload_n hx hb d_Inodes_takeBlock_80 rfl (lv_at hl 1 rfl) ?_
    refine va_get (D := D) (ci := 2) (v := .ref (g 0)) (C := R_Inodes) (T := T_Inodes) (N := 1) hx hb hTB in_Inodes hown hK hP 0 rfl rfl 0 (by decide) (hTB _ k_122) (fun _ h9 => h9) rfl d_Inodes_takeBlock_81 ?_
    refine gz_roV (As := []) (rest := []) (wc := (wD g k L u)) ⟨hx, hb, hml, hown, hTB⟩ (c_Disk_leastFree l D g k L hL0 hL u) (cwV 0 hTB (gd_V k_408 k_409 k_410 k_52 k_411) rfl rfl rfl (by decide +kernel) ⟨Nat.le_of_ble_eq_true rfl, Nat.le_of_ble_eq_true rfl⟩) hK hP [1, 2, 3, 4, 5, 6] rfl 1 rfl rfl rfl hl.1 rfl (Nat.le_of_ble_eq_true rfl) d_Inodes_takeBlock_84 ⟨Nat.zero_le _, Nat.zero_le _⟩ hS (fun H locs hP hS => ?_)
    refine lv_istore_n (lv' := [(3, .int (lfr L (dNow u))), (2, .int (nI (iX L (dNow u) i))), (0, .ref (g 6)), (1, .int (nI i))]) hx hb d_Inodes_takeBlock_87 rfl hl (by decide) rfl (fun ls hl => ?_)
    refine lv_iload_n hx hb d_Inodes_takeBlock_88 rfl (lv_at hl 0 rfl) ?_
    refine lv_iconst (v := (-1)) hx hb d_Inodes_takeBlock_89 (by decide +kernel) ?_
    refine lv_icmp_eq (tgt := 99) hx hb d_Inodes_takeBlock_90 (by decide) (fun h90 => ?_) (fun h90 => ?_)
    · refine lv_iconst (v := nI 0) hx hb d_Inodes_takeBlock_99 (by decide +kernel) ?_
      have hP9 : va_P D cl5 (wI g k L ((tkI L u i).2)) H := (by rw [tkI_n hno (by first | exact Or.inl h90 | exact Or.inr h96)]; exact hP)
      have hD9 : va_D A (wI g k L ((tkI L u i).2)) := (by rw [tkI_n hno (by first | exact Or.inl h90 | exact Or.inr h96)]; exact hD)
      exact W.zret (v := nI 0) (ty := .boolean) hx hb hr (by decide +kernel) (fun tt9 ht9 hW9 => ⟨⟨_, (), rfl, (by rw [tkI_n hno (by first | exact Or.inl h90 | exact Or.inr h96)]; rfl), ⟨by rw [ht9]; exact hP9, hD9⟩⟩, hS.F ht9⟩) hS.2.2 d_Inodes_takeBlock_100
    · refine lv_iload_n hx hb d_Inodes_takeBlock_93 rfl (lv_at hl 1 rfl) ?_
      refine lv_bipush (v := nI 8) hx hb d_Inodes_takeBlock_94 (by decide +kernel) ?_
      refine gz_icmp_lt (tgt := 101) hx hb d_Inodes_takeBlock_96 (by decide) (by omega) (by omega) (fun h96 => ?_) (fun h96 => ?_)
      · refine lv_aload_n hx hb d_Inodes_takeBlock_101 rfl (lv_at hl 2 rfl) ?_
        refine va_get (D := D) (ci := 2) (v := .ref (g 0)) (C := R_Inodes) (T := T_Inodes) (N := 1) hx hb hTB in_Inodes hown hK hP 0 rfl rfl 0 (by decide) (hTB _ k_122) (fun _ h9 => h9) rfl d_Inodes_takeBlock_102 ?_
        refine lv_iload_n hx hb d_Inodes_takeBlock_105 rfl (lv_at hl 0 rfl) ?_
        refine gz_muV (As := [.int (lfr L (dNow u))]) (rest := []) (wc := (wD g k L u)) (w1 := (wD g k L (tkB L u (lfr L (dNow u))))) (wr := (hI g)) ⟨hx, hb, hml, hown, hTB⟩ (c_Disk_takeBlock l D g k L hL0 hL u (lfr L (dNow u))) (cwV 1 hTB (gd_V k_404 k_405 k_406 k_52 k_407) rfl rfl rfl (by decide +kernel) ⟨Nat.le_of_ble_eq_true rfl, Nat.le_of_ble_eq_true rfl⟩) hK hP hD hA [1, 2, 3, 4, 5, 6] [0] rfl rfl (by decide) rfl (by decide) (by decide) 1 rfl rfl rfl hl.1 rfl (Nat.le_of_ble_eq_true rfl) d_Inodes_takeBlock_106 ⟨Nat.zero_le _, Nat.zero_le _⟩ hS (fun H locs hP hD hS => ?_)
        have hP : va_P D cl5 (wI g k L (tkB L u (lfr L (dNow u)))) H := hP
        have hD : va_D A (wI g k L (tkB L u (lfr L (dNow u)))) := hD
        refine lv_aload_n hx hb d_Inodes_takeBlock_109 rfl (lv_at hl 2 rfl) ?_
        refine va_get (D := D) (ci := 2) (v := .ref (g 0)) (C := R_Inodes) (T := T_Inodes) (N := 1) hx hb hTB in_Inodes hown hK hP 0 rfl rfl 0 (by decide) (hTB _ k_122) (fun _ h9 => h9) rfl d_Inodes_takeBlock_110 ?_
        refine lv_iload_n hx hb d_Inodes_takeBlock_113 rfl (lv_at hl 3 rfl) ?_
        refine gz_roS (As := [.int (nI i)]) (rest := [.ref (g 0)]) ⟨hx, hb, hml, hown, hTB⟩ (c_Inodes_inodePlace l i) (cwS 1 hTB (gd_S k_147 k_148 k_54 k_149) rfl rfl rfl (by decide +kernel) ⟨Nat.le_of_ble_eq_true rfl, Nat.le_of_ble_eq_true rfl⟩) hP rfl hl.1 rfl (Nat.le_of_ble_eq_true rfl) d_Inodes_takeBlock_114 ⟨Nat.zero_le _, Nat.zero_le _⟩ hS (fun H locs hP hS => ?_)
        refine lv_iconst (v := nI 1) hx hb d_Inodes_takeBlock_117 (by decide +kernel) ?_
        refine gz_iadd hx hb d_Inodes_takeBlock_118 ?_
        refine lv_iload_n hx hb d_Inodes_takeBlock_119 rfl (lv_at hl 1 rfl) ?_
        refine lv_iconst (v := nI 1) hx hb d_Inodes_takeBlock_120 (by decide +kernel) ?_
        refine gz_iadd hx hb d_Inodes_takeBlock_121 ?_
        refine gz_muV (As := [.int (nI ((1600 + 32 * i) + 1)), .int (nI ((iX L (dNow u) i) + 1))]) (rest := []) (wc := (wD g k L (tkB L u (lfr L (dNow u))))) (w1 := (wD g k L (setB L (tkB L u (lfr L (dNow u))) (nI ((1600 + 32 * i) + 1)) (nI ((iX L (dNow u) i) + 1))))) (wr := (hI g)) ⟨hx, hb, hml, hown, hTB⟩ (c_Disk_setByte l D g k L hL0 hL (tkB L u (lfr L (dNow u))) (nI ((1600 + 32 * i) + 1)) (nI ((iX L (dNow u) i) + 1))) (cwV 2 hTB (gd_V k_150 k_151 k_152 k_52 k_153) rfl rfl rfl (by decide +kernel) ⟨Nat.le_of_ble_eq_true rfl, Nat.le_of_ble_eq_true rfl⟩) hK hP hD hA [1, 2, 3, 4, 5, 6] [0] rfl rfl (by decide) rfl (by decide) (by decide) 1 rfl rfl rfl hl.1 rfl (Nat.le_of_ble_eq_true rfl) d_Inodes_takeBlock_122 ⟨Nat.zero_le _, Nat.zero_le _⟩ hS (fun H locs hP hD hS => ?_)
        have hP : va_P D cl5 (wI g k L (setB L (tkB L u (lfr L (dNow u))) (nI ((1600 + 32 * i) + 1)) (nI ((iX L (dNow u) i) + 1)))) H := hP
        have hD : va_D A (wI g k L (setB L (tkB L u (lfr L (dNow u))) (nI ((1600 + 32 * i) + 1)) (nI ((iX L (dNow u) i) + 1)))) := hD
        refine lv_aload_n hx hb d_Inodes_takeBlock_125 rfl (lv_at hl 2 rfl) ?_
        refine va_get (D := D) (ci := 2) (v := .ref (g 0)) (C := R_Inodes) (T := T_Inodes) (N := 1) hx hb hTB in_Inodes hown hK hP 0 rfl rfl 0 (by decide) (hTB _ k_122) (fun _ h9 => h9) rfl d_Inodes_takeBlock_126 ?_
        refine lv_iload_n hx hb d_Inodes_takeBlock_129 rfl (lv_at hl 3 rfl) ?_
        refine lv_iload_n hx hb d_Inodes_takeBlock_130 rfl (lv_at hl 1 rfl) ?_
        refine gz_roS (As := [.int (nI i), .int (nI (iX L (dNow u) i))]) (rest := [.ref (g 0)]) ⟨hx, hb, hml, hown, hTB⟩ (c_Inodes_extentPlace l i (iX L (dNow u) i)) (cwS 2 hTB (gd_S k_373 k_374 k_54 k_375) rfl rfl rfl (by decide +kernel) ⟨Nat.le_of_ble_eq_true rfl, Nat.le_of_ble_eq_true rfl⟩) hP rfl hl.1 rfl (Nat.le_of_ble_eq_true rfl) d_Inodes_takeBlock_131 ⟨Nat.zero_le _, Nat.zero_le _⟩ hS (fun H locs hP hS => ?_)
        refine lv_iload_n hx hb d_Inodes_takeBlock_134 rfl (lv_at hl 0 rfl) ?_
        refine gz_muV (As := [.int (nI (1600 + 32 * i + 4 + 3 * (iX L (dNow u) i))), .int (lfr L (dNow u))]) (rest := []) (wc := (wD g k L (setB L (tkB L u (lfr L (dNow u))) (nI ((1600 + 32 * i) + 1)) (nI ((iX L (dNow u) i) + 1))))) (w1 := (wD g k L (setP L (setB L (tkB L u (lfr L (dNow u))) (nI ((1600 + 32 * i) + 1)) (nI ((iX L (dNow u) i) + 1))) (nI (1600 + 32 * i + 4 + 3 * (iX L (dNow u) i))) (lfr L (dNow u))))) (wr := (hI g)) ⟨hx, hb, hml, hown, hTB⟩ (c_Disk_setPair l D g k L hL0 hL (setB L (tkB L u (lfr L (dNow u))) (nI ((1600 + 32 * i) + 1)) (nI ((iX L (dNow u) i) + 1))) (nI (1600 + 32 * i + 4 + 3 * (iX L (dNow u) i))) (lfr L (dNow u))) (cwV 2 hTB (gd_V k_412 k_413 k_414 k_52 k_415) rfl rfl rfl (by decide +kernel) ⟨Nat.le_of_ble_eq_true rfl, Nat.le_of_ble_eq_true rfl⟩) hK hP hD hA [1, 2, 3, 4, 5, 6] [0] rfl rfl (by decide) rfl (by decide) (by decide) 1 rfl rfl rfl hl.1 rfl (Nat.le_of_ble_eq_true rfl) d_Inodes_takeBlock_135 ⟨Nat.zero_le _, Nat.zero_le _⟩ hS (fun H locs hP hD hS => ?_)
        have hP : va_P D cl5 (wI g k L (setP L (setB L (tkB L u (lfr L (dNow u))) (nI ((1600 + 32 * i) + 1)) (nI ((iX L (dNow u) i) + 1))) (nI (1600 + 32 * i + 4 + 3 * (iX L (dNow u) i))) (lfr L (dNow u)))) H := hP
        have hD : va_D A (wI g k L (setP L (setB L (tkB L u (lfr L (dNow u))) (nI ((1600 + 32 * i) + 1)) (nI ((iX L (dNow u) i) + 1))) (nI (1600 + 32 * i + 4 + 3 * (iX L (dNow u) i))) (lfr L (dNow u)))) := hD
        refine lv_aload_n hx hb d_Inodes_takeBlock_138 rfl (lv_at hl 2 rfl) ?_
        refine va_get (D := D) (ci := 2) (v := .ref (g 0)) (C := R_Inodes) (T := T_Inodes) (N := 1) hx hb hTB in_Inodes hown hK hP 0 rfl rfl 0 (by decide) (hTB _ k_122) (fun _ h9 => h9) rfl d_Inodes_takeBlock_139 ?_
        refine lv_iload_n hx hb d_Inodes_takeBlock_142 rfl (lv_at hl 3 rfl) ?_
        refine lv_iload_n hx hb d_Inodes_takeBlock_143 rfl (lv_at hl 1 rfl) ?_
        refine gz_roS (As := [.int (nI i), .int (nI (iX L (dNow u) i))]) (rest := [.ref (g 0)]) ⟨hx, hb, hml, hown, hTB⟩ (c_Inodes_extentPlace l i (iX L (dNow u) i)) (cwS 2 hTB (gd_S k_373 k_374 k_54 k_375) rfl rfl rfl (by decide +kernel) ⟨Nat.le_of_ble_eq_true rfl, Nat.le_of_ble_eq_true rfl⟩) hP rfl hl.1 rfl (Nat.le_of_ble_eq_true rfl) d_Inodes_takeBlock_144 ⟨Nat.zero_le _, Nat.zero_le _⟩ hS (fun H locs hP hS => ?_)
        refine lv_iconst (v := nI 2) hx hb d_Inodes_takeBlock_147 (by decide +kernel) ?_
        refine gz_iadd hx hb d_Inodes_takeBlock_148 ?_
        refine lv_iconst (v := nI 1) hx hb d_Inodes_takeBlock_149 (by decide +kernel) ?_
        refine gz_muV (As := [.int (nI ((1600 + 32 * i + 4 + 3 * (iX L (dNow u) i)) + 2)), .int (nI 1)]) (rest := []) (wc := (wD g k L (setP L (setB L (tkB L u (lfr L (dNow u))) (nI ((1600 + 32 * i) + 1)) (nI ((iX L (dNow u) i) + 1))) (nI (1600 + 32 * i + 4 + 3 * (iX L (dNow u) i))) (lfr L (dNow u))))) (w1 := (wD g k L (setB L (setP L (setB L (tkB L u (lfr L (dNow u))) (nI ((1600 + 32 * i) + 1)) (nI ((iX L (dNow u) i) + 1))) (nI (1600 + 32 * i + 4 + 3 * (iX L (dNow u) i))) (lfr L (dNow u))) (nI ((1600 + 32 * i + 4 + 3 * (iX L (dNow u) i)) + 2)) (nI 1)))) (wr := (hI g)) ⟨hx, hb, hml, hown, hTB⟩ (c_Disk_setByte l D g k L hL0 hL (setP L (setB L (tkB L u (lfr L (dNow u))) (nI ((1600 + 32 * i) + 1)) (nI ((iX L (dNow u) i) + 1))) (nI (1600 + 32 * i + 4 + 3 * (iX L (dNow u) i))) (lfr L (dNow u))) (nI ((1600 + 32 * i + 4 + 3 * (iX L (dNow u) i)) + 2)) (nI 1)) (cwV 2 hTB (gd_V k_150 k_151 k_152 k_52 k_153) rfl rfl rfl (by decide +kernel) ⟨Nat.le_of_ble_eq_true rfl, Nat.le_of_ble_eq_true rfl⟩) hK hP hD hA [1, 2, 3, 4, 5, 6] [0] rfl rfl (by decide) rfl (by decide) (by decide) 1 rfl rfl rfl hl.1 rfl (Nat.le_of_ble_eq_true rfl) d_Inodes_takeBlock_150 ⟨Nat.zero_le _, Nat.zero_le _⟩ hS (fun H locs hP hD hS => ?_)
        have hP : va_P D cl5 (wI g k L (setB L (setP L (setB L (tkB L u (lfr L (dNow u))) (nI ((1600 + 32 * i) + 1)) (nI ((iX L (dNow u) i) + 1))) (nI (1600 + 32 * i + 4 + 3 * (iX L (dNow u) i))) (lfr L (dNow u))) (nI ((1600 + 32 * i + 4 + 3 * (iX L (dNow u) i)) + 2)) (nI 1))) H := hP
        have hD : va_D A (wI g k L (setB L (setP L (setB L (tkB L u (lfr L (dNow u))) (nI ((1600 + 32 * i) + 1)) (nI ((iX L (dNow u) i) + 1))) (nI (1600 + 32 * i + 4 + 3 * (iX L (dNow u) i))) (lfr L (dNow u))) (nI ((1600 + 32 * i + 4 + 3 * (iX L (dNow u) i)) + 2)) (nI 1))) := hD
        refine lv_iconst (v := nI 1) hx hb d_Inodes_takeBlock_153 (by decide +kernel) ?_
        have hP9 : va_P D cl5 (wI g k L ((tkI L u i).2)) H := (by rw [tkI_l hno h90 h96]; exact hP)
        have hD9 : va_D A (wI g k L ((tkI L u i).2)) := (by rw [tkI_l hno h90 h96]; exact hD)
        exact W.zret (v := nI 1) (ty := .boolean) hx hb hr (by decide +kernel) (fun tt9 ht9 hW9 => ⟨⟨_, (), rfl, (by rw [tkI_l hno h90 h96]; rfl), ⟨by rw [ht9]; exact hP9, hD9⟩⟩, hS.F ht9⟩) hS.2.2 d_Inodes_takeBlock_154
      · refine lv_iconst (v := nI 0) hx hb d_Inodes_takeBlock_99 (by decide +kernel) ?_
        have hP9 : va_P D cl5 (wI g k L ((tkI L u i).2)) H := (by rw [tkI_n hno (by first | exact Or.inl h90 | exact Or.inr h96)]; exact hP)
        have hD9 : va_D A (wI g k L ((tkI L u i).2)) := (by rw [tkI_n hno (by first | exact Or.inl h90 | exact Or.inr h96)]; exact hD)
        exact W.zret (v := nI 0) (ty := .boolean) hx hb hr (by decide +kernel) (fun tt9 ht9 hW9 => ⟨⟨_, (), rfl, (by rw [tkI_n hno (by first | exact Or.inl h90 | exact Or.inr h96)]; rfl), ⟨by rw [ht9]; exact hP9, hD9⟩⟩, hS.F ht9⟩) hS.2.2 d_Inodes_takeBlock_100
  · refine lv_aload_n hx hb d_Inodes_takeBlock_10 rfl (lv_at hl 1 rfl) ?_
    refine lv_iload_n hx hb d_Inodes_takeBlock_11 rfl (lv_at hl 2 rfl) ?_
    refine lv_iload_n hx hb d_Inodes_takeBlock_12 rfl (lv_at hl 0 rfl) ?_
    refine lv_iconst (v := nI 1) hx hb d_Inodes_takeBlock_13 (by decide +kernel) ?_
    refine gz_isub hx hb d_Inodes_takeBlock_14 (by omega) ?_
    refine gz_roV (As := [.int (nI i), .int (nI ((iX L (dNow u) i) - 1))]) (rest := []) (wc := (wI g k L u)) ⟨hx, hb, hml, hown, hTB⟩ (c_Inodes_extentLength l D g k L hL0 hL u i ((iX L (dNow u) i) - 1)) (cwV 2 hTB (gd_V k_369 k_370 k_371 k_54 k_372) rfl rfl rfl (by decide +kernel) ⟨Nat.le_of_ble_eq_true rfl, Nat.le_of_ble_eq_true rfl⟩) hK hP [0, 1, 2, 3, 4, 5, 6] rfl 0 rfl rfl rfl hl.1 rfl (Nat.le_of_ble_eq_true rfl) d_Inodes_takeBlock_15 ⟨Nat.zero_le _, Nat.zero_le _⟩ hS (fun H locs hP hS => ?_)
    have := xL_lt L (dNow u) i ((iX L (dNow u) i) - 1)
    refine lv_istore_n (lv' := [(3, .int (nI (xL L (dNow u) i ((iX L (dNow u) i) - 1)))), (2, .int (nI (iX L (dNow u) i))), (0, .ref (g 6)), (1, .int (nI i))]) hx hb d_Inodes_takeBlock_18 rfl hl (by decide) rfl (fun ls hl => ?_)
    refine lv_aload_n hx hb d_Inodes_takeBlock_19 rfl (lv_at hl 2 rfl) ?_
    refine lv_iload_n hx hb d_Inodes_takeBlock_20 rfl (lv_at hl 3 rfl) ?_
    refine lv_iload_n hx hb d_Inodes_takeBlock_21 rfl (lv_at hl 1 rfl) ?_
    refine lv_iconst (v := nI 1) hx hb d_Inodes_takeBlock_22 (by decide +kernel) ?_
    refine gz_isub hx hb d_Inodes_takeBlock_23 (by omega) ?_
    refine gz_roV (As := [.int (nI i), .int (nI ((iX L (dNow u) i) - 1))]) (rest := []) (wc := (wI g k L u)) ⟨hx, hb, hml, hown, hTB⟩ (c_Inodes_extentFirst l D g k L hL0 hL u i ((iX L (dNow u) i) - 1)) (cwV 2 hTB (gd_V k_376 k_377 k_378 k_54 k_379) rfl rfl rfl (by decide +kernel) ⟨Nat.le_of_ble_eq_true rfl, Nat.le_of_ble_eq_true rfl⟩) hK hP [0, 1, 2, 3, 4, 5, 6] rfl 0 rfl rfl rfl hl.1 rfl (Nat.le_of_ble_eq_true rfl) d_Inodes_takeBlock_24 ⟨Nat.zero_le _, Nat.zero_le _⟩ hS (fun H locs hP hS => ?_)
    have := xF_lt L (dNow u) i ((iX L (dNow u) i) - 1)
    refine lv_iload_n hx hb d_Inodes_takeBlock_27 rfl (lv_at hl 0 rfl) ?_
    refine gz_iadd hx hb d_Inodes_takeBlock_28 ?_
    refine lv_istore (lv' := [(4, .int (nI ((xF L (dNow u) i ((iX L (dNow u) i) - 1)) + (xL L (dNow u) i ((iX L (dNow u) i) - 1))))), (3, .int (nI (xL L (dNow u) i ((iX L (dNow u) i) - 1)))), (2, .int (nI (iX L (dNow u) i))), (0, .ref (g 6)), (1, .int (nI i))]) hx hb d_Inodes_takeBlock_29 hl (by decide) rfl (fun ls hl => ?_)
    refine lv_iload_n hx hb d_Inodes_takeBlock_31 rfl (lv_at hl 1 rfl) ?_
    refine lv_sipush (v := nI 255) hx hb d_Inodes_takeBlock_32 (by decide +kernel) ?_
    refine gz_icmp_ge (tgt := 80) hx hb d_Inodes_takeBlock_35 (by decide) (by omega) (by omega) (fun h35 => ?_) (fun h35 => ?_)
    · have hno : ¬ tkC L (dNow u) i := fun z => by have := z.2.1; omega
      refine lv_aload_n hx hb d_Inodes_takeBlock_80 rfl (lv_at hl 3 rfl) ?_
      refine va_get (D := D) (ci := 2) (v := .ref (g 0)) (C := R_Inodes) (T := T_Inodes) (N := 1) hx hb hTB in_Inodes hown hK hP 0 rfl rfl 0 (by decide) (hTB _ k_122) (fun _ h9 => h9) rfl d_Inodes_takeBlock_81 ?_
      refine gz_roV (As := []) (rest := []) (wc := (wD g k L u)) ⟨hx, hb, hml, hown, hTB⟩ (c_Disk_leastFree l D g k L hL0 hL u) (cwV 0 hTB (gd_V k_408 k_409 k_410 k_52 k_411) rfl rfl rfl (by decide +kernel) ⟨Nat.le_of_ble_eq_true rfl, Nat.le_of_ble_eq_true rfl⟩) hK hP [1, 2, 3, 4, 5, 6] rfl 1 rfl rfl rfl hl.1 rfl (Nat.le_of_ble_eq_true rfl) d_Inodes_takeBlock_84 ⟨Nat.zero_le _, Nat.zero_le _⟩ hS (fun H locs hP hS => ?_)
      refine lv_istore_n (lv' := [(3, .int (lfr L (dNow u))), (4, .int (nI ((xF L (dNow u) i ((iX L (dNow u) i) - 1)) + (xL L (dNow u) i ((iX L (dNow u) i) - 1))))), (2, .int (nI (iX L (dNow u) i))), (0, .ref (g 6)), (1, .int (nI i))]) hx hb d_Inodes_takeBlock_87 rfl hl (by decide) rfl (fun ls hl => ?_)
      refine lv_iload_n hx hb d_Inodes_takeBlock_88 rfl (lv_at hl 0 rfl) ?_
      refine lv_iconst (v := (-1)) hx hb d_Inodes_takeBlock_89 (by decide +kernel) ?_
      refine lv_icmp_eq (tgt := 99) hx hb d_Inodes_takeBlock_90 (by decide) (fun h90 => ?_) (fun h90 => ?_)
      · refine lv_iconst (v := nI 0) hx hb d_Inodes_takeBlock_99 (by decide +kernel) ?_
        have hP9 : va_P D cl5 (wI g k L ((tkI L u i).2)) H := (by rw [tkI_n hno (by first | exact Or.inl h90 | exact Or.inr h96)]; exact hP)
        have hD9 : va_D A (wI g k L ((tkI L u i).2)) := (by rw [tkI_n hno (by first | exact Or.inl h90 | exact Or.inr h96)]; exact hD)
        exact W.zret (v := nI 0) (ty := .boolean) hx hb hr (by decide +kernel) (fun tt9 ht9 hW9 => ⟨⟨_, (), rfl, (by rw [tkI_n hno (by first | exact Or.inl h90 | exact Or.inr h96)]; rfl), ⟨by rw [ht9]; exact hP9, hD9⟩⟩, hS.F ht9⟩) hS.2.2 d_Inodes_takeBlock_100
      · refine lv_iload_n hx hb d_Inodes_takeBlock_93 rfl (lv_at hl 2 rfl) ?_
        refine lv_bipush (v := nI 8) hx hb d_Inodes_takeBlock_94 (by decide +kernel) ?_
        refine gz_icmp_lt (tgt := 101) hx hb d_Inodes_takeBlock_96 (by decide) (by omega) (by omega) (fun h96 => ?_) (fun h96 => ?_)
        · refine lv_aload_n hx hb d_Inodes_takeBlock_101 rfl (lv_at hl 3 rfl) ?_
          refine va_get (D := D) (ci := 2) (v := .ref (g 0)) (C := R_Inodes) (T := T_Inodes) (N := 1) hx hb hTB in_Inodes hown hK hP 0 rfl rfl 0 (by decide) (hTB _ k_122) (fun _ h9 => h9) rfl d_Inodes_takeBlock_102 ?_
          refine lv_iload_n hx hb d_Inodes_takeBlock_105 rfl (lv_at hl 0 rfl) ?_
          refine gz_muV (As := [.int (lfr L (dNow u))]) (rest := []) (wc := (wD g k L u)) (w1 := (wD g k L (tkB L u (lfr L (dNow u))))) (wr := (hI g)) ⟨hx, hb, hml, hown, hTB⟩ (c_Disk_takeBlock l D g k L hL0 hL u (lfr L (dNow u))) (cwV 1 hTB (gd_V k_404 k_405 k_406 k_52 k_407) rfl rfl rfl (by decide +kernel) ⟨Nat.le_of_ble_eq_true rfl, Nat.le_of_ble_eq_true rfl⟩) hK hP hD hA [1, 2, 3, 4, 5, 6] [0] rfl rfl (by decide) rfl (by decide) (by decide) 1 rfl rfl rfl hl.1 rfl (Nat.le_of_ble_eq_true rfl) d_Inodes_takeBlock_106 ⟨Nat.zero_le _, Nat.zero_le _⟩ hS (fun H locs hP hD hS => ?_)
          have hP : va_P D cl5 (wI g k L (tkB L u (lfr L (dNow u)))) H := hP
          have hD : va_D A (wI g k L (tkB L u (lfr L (dNow u)))) := hD
          refine lv_aload_n hx hb d_Inodes_takeBlock_109 rfl (lv_at hl 3 rfl) ?_
          refine va_get (D := D) (ci := 2) (v := .ref (g 0)) (C := R_Inodes) (T := T_Inodes) (N := 1) hx hb hTB in_Inodes hown hK hP 0 rfl rfl 0 (by decide) (hTB _ k_122) (fun _ h9 => h9) rfl d_Inodes_takeBlock_110 ?_
          refine lv_iload_n hx hb d_Inodes_takeBlock_113 rfl (lv_at hl 4 rfl) ?_
          refine gz_roS (As := [.int (nI i)]) (rest := [.ref (g 0)]) ⟨hx, hb, hml, hown, hTB⟩ (c_Inodes_inodePlace l i) (cwS 1 hTB (gd_S k_147 k_148 k_54 k_149) rfl rfl rfl (by decide +kernel) ⟨Nat.le_of_ble_eq_true rfl, Nat.le_of_ble_eq_true rfl⟩) hP rfl hl.1 rfl (Nat.le_of_ble_eq_true rfl) d_Inodes_takeBlock_114 ⟨Nat.zero_le _, Nat.zero_le _⟩ hS (fun H locs hP hS => ?_)
          refine lv_iconst (v := nI 1) hx hb d_Inodes_takeBlock_117 (by decide +kernel) ?_
          refine gz_iadd hx hb d_Inodes_takeBlock_118 ?_
          refine lv_iload_n hx hb d_Inodes_takeBlock_119 rfl (lv_at hl 2 rfl) ?_
          refine lv_iconst (v := nI 1) hx hb d_Inodes_takeBlock_120 (by decide +kernel) ?_
          refine gz_iadd hx hb d_Inodes_takeBlock_121 ?_
          refine gz_muV (As := [.int (nI ((1600 + 32 * i) + 1)), .int (nI ((iX L (dNow u) i) + 1))]) (rest := []) (wc := (wD g k L (tkB L u (lfr L (dNow u))))) (w1 := (wD g k L (setB L (tkB L u (lfr L (dNow u))) (nI ((1600 + 32 * i) + 1)) (nI ((iX L (dNow u) i) + 1))))) (wr := (hI g)) ⟨hx, hb, hml, hown, hTB⟩ (c_Disk_setByte l D g k L hL0 hL (tkB L u (lfr L (dNow u))) (nI ((1600 + 32 * i) + 1)) (nI ((iX L (dNow u) i) + 1))) (cwV 2 hTB (gd_V k_150 k_151 k_152 k_52 k_153) rfl rfl rfl (by decide +kernel) ⟨Nat.le_of_ble_eq_true rfl, Nat.le_of_ble_eq_true rfl⟩) hK hP hD hA [1, 2, 3, 4, 5, 6] [0] rfl rfl (by decide) rfl (by decide) (by decide) 1 rfl rfl rfl hl.1 rfl (Nat.le_of_ble_eq_true rfl) d_Inodes_takeBlock_122 ⟨Nat.zero_le _, Nat.zero_le _⟩ hS (fun H locs hP hD hS => ?_)
          have hP : va_P D cl5 (wI g k L (setB L (tkB L u (lfr L (dNow u))) (nI ((1600 + 32 * i) + 1)) (nI ((iX L (dNow u) i) + 1)))) H := hP
          have hD : va_D A (wI g k L (setB L (tkB L u (lfr L (dNow u))) (nI ((1600 + 32 * i) + 1)) (nI ((iX L (dNow u) i) + 1)))) := hD
          refine lv_aload_n hx hb d_Inodes_takeBlock_125 rfl (lv_at hl 3 rfl) ?_
          refine va_get (D := D) (ci := 2) (v := .ref (g 0)) (C := R_Inodes) (T := T_Inodes) (N := 1) hx hb hTB in_Inodes hown hK hP 0 rfl rfl 0 (by decide) (hTB _ k_122) (fun _ h9 => h9) rfl d_Inodes_takeBlock_126 ?_
          refine lv_iload_n hx hb d_Inodes_takeBlock_129 rfl (lv_at hl 4 rfl) ?_
          refine lv_iload_n hx hb d_Inodes_takeBlock_130 rfl (lv_at hl 2 rfl) ?_
          refine gz_roS (As := [.int (nI i), .int (nI (iX L (dNow u) i))]) (rest := [.ref (g 0)]) ⟨hx, hb, hml, hown, hTB⟩ (c_Inodes_extentPlace l i (iX L (dNow u) i)) (cwS 2 hTB (gd_S k_373 k_374 k_54 k_375) rfl rfl rfl (by decide +kernel) ⟨Nat.le_of_ble_eq_true rfl, Nat.le_of_ble_eq_true rfl⟩) hP rfl hl.1 rfl (Nat.le_of_ble_eq_true rfl) d_Inodes_takeBlock_131 ⟨Nat.zero_le _, Nat.zero_le _⟩ hS (fun H locs hP hS => ?_)
          refine lv_iload_n hx hb d_Inodes_takeBlock_134 rfl (lv_at hl 0 rfl) ?_
          refine gz_muV (As := [.int (nI (1600 + 32 * i + 4 + 3 * (iX L (dNow u) i))), .int (lfr L (dNow u))]) (rest := []) (wc := (wD g k L (setB L (tkB L u (lfr L (dNow u))) (nI ((1600 + 32 * i) + 1)) (nI ((iX L (dNow u) i) + 1))))) (w1 := (wD g k L (setP L (setB L (tkB L u (lfr L (dNow u))) (nI ((1600 + 32 * i) + 1)) (nI ((iX L (dNow u) i) + 1))) (nI (1600 + 32 * i + 4 + 3 * (iX L (dNow u) i))) (lfr L (dNow u))))) (wr := (hI g)) ⟨hx, hb, hml, hown, hTB⟩ (c_Disk_setPair l D g k L hL0 hL (setB L (tkB L u (lfr L (dNow u))) (nI ((1600 + 32 * i) + 1)) (nI ((iX L (dNow u) i) + 1))) (nI (1600 + 32 * i + 4 + 3 * (iX L (dNow u) i))) (lfr L (dNow u))) (cwV 2 hTB (gd_V k_412 k_413 k_414 k_52 k_415) rfl rfl rfl (by decide +kernel) ⟨Nat.le_of_ble_eq_true rfl, Nat.le_of_ble_eq_true rfl⟩) hK hP hD hA [1, 2, 3, 4, 5, 6] [0] rfl rfl (by decide) rfl (by decide) (by decide) 1 rfl rfl rfl hl.1 rfl (Nat.le_of_ble_eq_true rfl) d_Inodes_takeBlock_135 ⟨Nat.zero_le _, Nat.zero_le _⟩ hS (fun H locs hP hD hS => ?_)
          have hP : va_P D cl5 (wI g k L (setP L (setB L (tkB L u (lfr L (dNow u))) (nI ((1600 + 32 * i) + 1)) (nI ((iX L (dNow u) i) + 1))) (nI (1600 + 32 * i + 4 + 3 * (iX L (dNow u) i))) (lfr L (dNow u)))) H := hP
          have hD : va_D A (wI g k L (setP L (setB L (tkB L u (lfr L (dNow u))) (nI ((1600 + 32 * i) + 1)) (nI ((iX L (dNow u) i) + 1))) (nI (1600 + 32 * i + 4 + 3 * (iX L (dNow u) i))) (lfr L (dNow u)))) := hD
          refine lv_aload_n hx hb d_Inodes_takeBlock_138 rfl (lv_at hl 3 rfl) ?_
          refine va_get (D := D) (ci := 2) (v := .ref (g 0)) (C := R_Inodes) (T := T_Inodes) (N := 1) hx hb hTB in_Inodes hown hK hP 0 rfl rfl 0 (by decide) (hTB _ k_122) (fun _ h9 => h9) rfl d_Inodes_takeBlock_139 ?_
          refine lv_iload_n hx hb d_Inodes_takeBlock_142 rfl (lv_at hl 4 rfl) ?_
          refine lv_iload_n hx hb d_Inodes_takeBlock_143 rfl (lv_at hl 2 rfl) ?_
          refine gz_roS (As := [.int (nI i), .int (nI (iX L (dNow u) i))]) (rest := [.ref (g 0)]) ⟨hx, hb, hml, hown, hTB⟩ (c_Inodes_extentPlace l i (iX L (dNow u) i)) (cwS 2 hTB (gd_S k_373 k_374 k_54 k_375) rfl rfl rfl (by decide +kernel) ⟨Nat.le_of_ble_eq_true rfl, Nat.le_of_ble_eq_true rfl⟩) hP rfl hl.1 rfl (Nat.le_of_ble_eq_true rfl) d_Inodes_takeBlock_144 ⟨Nat.zero_le _, Nat.zero_le _⟩ hS (fun H locs hP hS => ?_)
          refine lv_iconst (v := nI 2) hx hb d_Inodes_takeBlock_147 (by decide +kernel) ?_
          refine gz_iadd hx hb d_Inodes_takeBlock_148 ?_
          refine lv_iconst (v := nI 1) hx hb d_Inodes_takeBlock_149 (by decide +kernel) ?_
          refine gz_muV (As := [.int (nI ((1600 + 32 * i + 4 + 3 * (iX L (dNow u) i)) + 2)), .int (nI 1)]) (rest := []) (wc := (wD g k L (setP L (setB L (tkB L u (lfr L (dNow u))) (nI ((1600 + 32 * i) + 1)) (nI ((iX L (dNow u) i) + 1))) (nI (1600 + 32 * i + 4 + 3 * (iX L (dNow u) i))) (lfr L (dNow u))))) (w1 := (wD g k L (setB L (setP L (setB L (tkB L u (lfr L (dNow u))) (nI ((1600 + 32 * i) + 1)) (nI ((iX L (dNow u) i) + 1))) (nI (1600 + 32 * i + 4 + 3 * (iX L (dNow u) i))) (lfr L (dNow u))) (nI ((1600 + 32 * i + 4 + 3 * (iX L (dNow u) i)) + 2)) (nI 1)))) (wr := (hI g)) ⟨hx, hb, hml, hown, hTB⟩ (c_Disk_setByte l D g k L hL0 hL (setP L (setB L (tkB L u (lfr L (dNow u))) (nI ((1600 + 32 * i) + 1)) (nI ((iX L (dNow u) i) + 1))) (nI (1600 + 32 * i + 4 + 3 * (iX L (dNow u) i))) (lfr L (dNow u))) (nI ((1600 + 32 * i + 4 + 3 * (iX L (dNow u) i)) + 2)) (nI 1)) (cwV 2 hTB (gd_V k_150 k_151 k_152 k_52 k_153) rfl rfl rfl (by decide +kernel) ⟨Nat.le_of_ble_eq_true rfl, Nat.le_of_ble_eq_true rfl⟩) hK hP hD hA [1, 2, 3, 4, 5, 6] [0] rfl rfl (by decide) rfl (by decide) (by decide) 1 rfl rfl rfl hl.1 rfl (Nat.le_of_ble_eq_true rfl) d_Inodes_takeBlock_150 ⟨Nat.zero_le _, Nat.zero_le _⟩ hS (fun H locs hP hD hS => ?_)
          have hP : va_P D cl5 (wI g k L (setB L (setP L (setB L (tkB L u (lfr L (dNow u))) (nI ((1600 + 32 * i) + 1)) (nI ((iX L (dNow u) i) + 1))) (nI (1600 + 32 * i + 4 + 3 * (iX L (dNow u) i))) (lfr L (dNow u))) (nI ((1600 + 32 * i + 4 + 3 * (iX L (dNow u) i)) + 2)) (nI 1))) H := hP
          have hD : va_D A (wI g k L (setB L (setP L (setB L (tkB L u (lfr L (dNow u))) (nI ((1600 + 32 * i) + 1)) (nI ((iX L (dNow u) i) + 1))) (nI (1600 + 32 * i + 4 + 3 * (iX L (dNow u) i))) (lfr L (dNow u))) (nI ((1600 + 32 * i + 4 + 3 * (iX L (dNow u) i)) + 2)) (nI 1))) := hD
          refine lv_iconst (v := nI 1) hx hb d_Inodes_takeBlock_153 (by decide +kernel) ?_
          have hP9 : va_P D cl5 (wI g k L ((tkI L u i).2)) H := (by rw [tkI_l hno h90 h96]; exact hP)
          have hD9 : va_D A (wI g k L ((tkI L u i).2)) := (by rw [tkI_l hno h90 h96]; exact hD)
          exact W.zret (v := nI 1) (ty := .boolean) hx hb hr (by decide +kernel) (fun tt9 ht9 hW9 => ⟨⟨_, (), rfl, (by rw [tkI_l hno h90 h96]; rfl), ⟨by rw [ht9]; exact hP9, hD9⟩⟩, hS.F ht9⟩) hS.2.2 d_Inodes_takeBlock_154
        · refine lv_iconst (v := nI 0) hx hb d_Inodes_takeBlock_99 (by decide +kernel) ?_
          have hP9 : va_P D cl5 (wI g k L ((tkI L u i).2)) H := (by rw [tkI_n hno (by first | exact Or.inl h90 | exact Or.inr h96)]; exact hP)
          have hD9 : va_D A (wI g k L ((tkI L u i).2)) := (by rw [tkI_n hno (by first | exact Or.inl h90 | exact Or.inr h96)]; exact hD)
          exact W.zret (v := nI 0) (ty := .boolean) hx hb hr (by decide +kernel) (fun tt9 ht9 hW9 => ⟨⟨_, (), rfl, (by rw [tkI_n hno (by first | exact Or.inl h90 | exact Or.inr h96)]; rfl), ⟨by rw [ht9]; exact hP9, hD9⟩⟩, hS.F ht9⟩) hS.2.2 d_Inodes_takeBlock_100
    · refine lv_aload_n hx hb d_Inodes_takeBlock_38 rfl (lv_at hl 3 rfl) ?_
      refine va_get (D := D) (ci := 2) (v := .ref (g 0)) (C := R_Inodes) (T := T_Inodes) (N := 1) hx hb hTB in_Inodes hown hK hP 0 rfl rfl 0 (by decide) (hTB _ k_122) (fun _ h9 => h9) rfl d_Inodes_takeBlock_39 ?_
      refine lv_iload hx hb d_Inodes_takeBlock_42 (lv_at hl 0 rfl) ?_
      refine gz_roV (As := [.int (nI ((xF L (dNow u) i ((iX L (dNow u) i) - 1)) + (xL L (dNow u) i ((iX L (dNow u) i) - 1))))]) (rest := []) (wc := (wD g k L u)) ⟨hx, hb, hml, hown, hTB⟩ (c_Disk_isFree l D g k L hL0 hL u (nI ((xF L (dNow u) i ((iX L (dNow u) i) - 1)) + (xL L (dNow u) i ((iX L (dNow u) i) - 1))))) (cwV 1 hTB (gd_V k_403 k_176 k_177 k_52 k_178) rfl rfl rfl (by decide +kernel) ⟨Nat.le_of_ble_eq_true rfl, Nat.le_of_ble_eq_true rfl⟩) hK hP [1, 2, 3, 4, 5, 6] rfl 1 rfl rfl rfl hl.1 rfl (Nat.le_of_ble_eq_true rfl) d_Inodes_takeBlock_44 ⟨Nat.zero_le _, Nat.zero_le _⟩ hS (fun H locs hP hS => ?_)
      refine gz_ifz_eq (tgt := 80) hx hb d_Inodes_takeBlock_47 (by decide) (fun h47 => ?_) (fun h47 => ?_)
      · have hno : ¬ tkC L (dNow u) i := fun z => by rw [z.2.2] at h47; cases h47
        refine lv_aload_n hx hb d_Inodes_takeBlock_80 rfl (lv_at hl 3 rfl) ?_
        refine va_get (D := D) (ci := 2) (v := .ref (g 0)) (C := R_Inodes) (T := T_Inodes) (N := 1) hx hb hTB in_Inodes hown hK hP 0 rfl rfl 0 (by decide) (hTB _ k_122) (fun _ h9 => h9) rfl d_Inodes_takeBlock_81 ?_
        refine gz_roV (As := []) (rest := []) (wc := (wD g k L u)) ⟨hx, hb, hml, hown, hTB⟩ (c_Disk_leastFree l D g k L hL0 hL u) (cwV 0 hTB (gd_V k_408 k_409 k_410 k_52 k_411) rfl rfl rfl (by decide +kernel) ⟨Nat.le_of_ble_eq_true rfl, Nat.le_of_ble_eq_true rfl⟩) hK hP [1, 2, 3, 4, 5, 6] rfl 1 rfl rfl rfl hl.1 rfl (Nat.le_of_ble_eq_true rfl) d_Inodes_takeBlock_84 ⟨Nat.zero_le _, Nat.zero_le _⟩ hS (fun H locs hP hS => ?_)
        refine lv_istore_n (lv' := [(3, .int (lfr L (dNow u))), (4, .int (nI ((xF L (dNow u) i ((iX L (dNow u) i) - 1)) + (xL L (dNow u) i ((iX L (dNow u) i) - 1))))), (2, .int (nI (iX L (dNow u) i))), (0, .ref (g 6)), (1, .int (nI i))]) hx hb d_Inodes_takeBlock_87 rfl hl (by decide) rfl (fun ls hl => ?_)
        refine lv_iload_n hx hb d_Inodes_takeBlock_88 rfl (lv_at hl 0 rfl) ?_
        refine lv_iconst (v := (-1)) hx hb d_Inodes_takeBlock_89 (by decide +kernel) ?_
        refine lv_icmp_eq (tgt := 99) hx hb d_Inodes_takeBlock_90 (by decide) (fun h90 => ?_) (fun h90 => ?_)
        · refine lv_iconst (v := nI 0) hx hb d_Inodes_takeBlock_99 (by decide +kernel) ?_
          have hP9 : va_P D cl5 (wI g k L ((tkI L u i).2)) H := (by rw [tkI_n hno (by first | exact Or.inl h90 | exact Or.inr h96)]; exact hP)
          have hD9 : va_D A (wI g k L ((tkI L u i).2)) := (by rw [tkI_n hno (by first | exact Or.inl h90 | exact Or.inr h96)]; exact hD)
          exact W.zret (v := nI 0) (ty := .boolean) hx hb hr (by decide +kernel) (fun tt9 ht9 hW9 => ⟨⟨_, (), rfl, (by rw [tkI_n hno (by first | exact Or.inl h90 | exact Or.inr h96)]; rfl), ⟨by rw [ht9]; exact hP9, hD9⟩⟩, hS.F ht9⟩) hS.2.2 d_Inodes_takeBlock_100
        · refine lv_iload_n hx hb d_Inodes_takeBlock_93 rfl (lv_at hl 2 rfl) ?_
          refine lv_bipush (v := nI 8) hx hb d_Inodes_takeBlock_94 (by decide +kernel) ?_
          refine gz_icmp_lt (tgt := 101) hx hb d_Inodes_takeBlock_96 (by decide) (by omega) (by omega) (fun h96 => ?_) (fun h96 => ?_)
          · refine lv_aload_n hx hb d_Inodes_takeBlock_101 rfl (lv_at hl 3 rfl) ?_
            refine va_get (D := D) (ci := 2) (v := .ref (g 0)) (C := R_Inodes) (T := T_Inodes) (N := 1) hx hb hTB in_Inodes hown hK hP 0 rfl rfl 0 (by decide) (hTB _ k_122) (fun _ h9 => h9) rfl d_Inodes_takeBlock_102 ?_
            refine lv_iload_n hx hb d_Inodes_takeBlock_105 rfl (lv_at hl 0 rfl) ?_
            refine gz_muV (As := [.int (lfr L (dNow u))]) (rest := []) (wc := (wD g k L u)) (w1 := (wD g k L (tkB L u (lfr L (dNow u))))) (wr := (hI g)) ⟨hx, hb, hml, hown, hTB⟩ (c_Disk_takeBlock l D g k L hL0 hL u (lfr L (dNow u))) (cwV 1 hTB (gd_V k_404 k_405 k_406 k_52 k_407) rfl rfl rfl (by decide +kernel) ⟨Nat.le_of_ble_eq_true rfl, Nat.le_of_ble_eq_true rfl⟩) hK hP hD hA [1, 2, 3, 4, 5, 6] [0] rfl rfl (by decide) rfl (by decide) (by decide) 1 rfl rfl rfl hl.1 rfl (Nat.le_of_ble_eq_true rfl) d_Inodes_takeBlock_106 ⟨Nat.zero_le _, Nat.zero_le _⟩ hS (fun H locs hP hD hS => ?_)
            have hP : va_P D cl5 (wI g k L (tkB L u (lfr L (dNow u)))) H := hP
            have hD : va_D A (wI g k L (tkB L u (lfr L (dNow u)))) := hD
            refine lv_aload_n hx hb d_Inodes_takeBlock_109 rfl (lv_at hl 3 rfl) ?_
            refine va_get (D := D) (ci := 2) (v := .ref (g 0)) (C := R_Inodes) (T := T_Inodes) (N := 1) hx hb hTB in_Inodes hown hK hP 0 rfl rfl 0 (by decide) (hTB _ k_122) (fun _ h9 => h9) rfl d_Inodes_takeBlock_110 ?_
            refine lv_iload_n hx hb d_Inodes_takeBlock_113 rfl (lv_at hl 4 rfl) ?_
            refine gz_roS (As := [.int (nI i)]) (rest := [.ref (g 0)]) ⟨hx, hb, hml, hown, hTB⟩ (c_Inodes_inodePlace l i) (cwS 1 hTB (gd_S k_147 k_148 k_54 k_149) rfl rfl rfl (by decide +kernel) ⟨Nat.le_of_ble_eq_true rfl, Nat.le_of_ble_eq_true rfl⟩) hP rfl hl.1 rfl (Nat.le_of_ble_eq_true rfl) d_Inodes_takeBlock_114 ⟨Nat.zero_le _, Nat.zero_le _⟩ hS (fun H locs hP hS => ?_)
            refine lv_iconst (v := nI 1) hx hb d_Inodes_takeBlock_117 (by decide +kernel) ?_
            refine gz_iadd hx hb d_Inodes_takeBlock_118 ?_
            refine lv_iload_n hx hb d_Inodes_takeBlock_119 rfl (lv_at hl 2 rfl) ?_
            refine lv_iconst (v := nI 1) hx hb d_Inodes_takeBlock_120 (by decide +kernel) ?_
            refine gz_iadd hx hb d_Inodes_takeBlock_121 ?_
            refine gz_muV (As := [.int (nI ((1600 + 32 * i) + 1)), .int (nI ((iX L (dNow u) i) + 1))]) (rest := []) (wc := (wD g k L (tkB L u (lfr L (dNow u))))) (w1 := (wD g k L (setB L (tkB L u (lfr L (dNow u))) (nI ((1600 + 32 * i) + 1)) (nI ((iX L (dNow u) i) + 1))))) (wr := (hI g)) ⟨hx, hb, hml, hown, hTB⟩ (c_Disk_setByte l D g k L hL0 hL (tkB L u (lfr L (dNow u))) (nI ((1600 + 32 * i) + 1)) (nI ((iX L (dNow u) i) + 1))) (cwV 2 hTB (gd_V k_150 k_151 k_152 k_52 k_153) rfl rfl rfl (by decide +kernel) ⟨Nat.le_of_ble_eq_true rfl, Nat.le_of_ble_eq_true rfl⟩) hK hP hD hA [1, 2, 3, 4, 5, 6] [0] rfl rfl (by decide) rfl (by decide) (by decide) 1 rfl rfl rfl hl.1 rfl (Nat.le_of_ble_eq_true rfl) d_Inodes_takeBlock_122 ⟨Nat.zero_le _, Nat.zero_le _⟩ hS (fun H locs hP hD hS => ?_)
            have hP : va_P D cl5 (wI g k L (setB L (tkB L u (lfr L (dNow u))) (nI ((1600 + 32 * i) + 1)) (nI ((iX L (dNow u) i) + 1)))) H := hP
            have hD : va_D A (wI g k L (setB L (tkB L u (lfr L (dNow u))) (nI ((1600 + 32 * i) + 1)) (nI ((iX L (dNow u) i) + 1)))) := hD
            refine lv_aload_n hx hb d_Inodes_takeBlock_125 rfl (lv_at hl 3 rfl) ?_
            refine va_get (D := D) (ci := 2) (v := .ref (g 0)) (C := R_Inodes) (T := T_Inodes) (N := 1) hx hb hTB in_Inodes hown hK hP 0 rfl rfl 0 (by decide) (hTB _ k_122) (fun _ h9 => h9) rfl d_Inodes_takeBlock_126 ?_
            refine lv_iload_n hx hb d_Inodes_takeBlock_129 rfl (lv_at hl 4 rfl) ?_
            refine lv_iload_n hx hb d_Inodes_takeBlock_130 rfl (lv_at hl 2 rfl) ?_
            refine gz_roS (As := [.int (nI i), .int (nI (iX L (dNow u) i))]) (rest := [.ref (g 0)]) ⟨hx, hb, hml, hown, hTB⟩ (c_Inodes_extentPlace l i (iX L (dNow u) i)) (cwS 2 hTB (gd_S k_373 k_374 k_54 k_375) rfl rfl rfl (by decide +kernel) ⟨Nat.le_of_ble_eq_true rfl, Nat.le_of_ble_eq_true rfl⟩) hP rfl hl.1 rfl (Nat.le_of_ble_eq_true rfl) d_Inodes_takeBlock_131 ⟨Nat.zero_le _, Nat.zero_le _⟩ hS (fun H locs hP hS => ?_)
            refine lv_iload_n hx hb d_Inodes_takeBlock_134 rfl (lv_at hl 0 rfl) ?_
            refine gz_muV (As := [.int (nI (1600 + 32 * i + 4 + 3 * (iX L (dNow u) i))), .int (lfr L (dNow u))]) (rest := []) (wc := (wD g k L (setB L (tkB L u (lfr L (dNow u))) (nI ((1600 + 32 * i) + 1)) (nI ((iX L (dNow u) i) + 1))))) (w1 := (wD g k L (setP L (setB L (tkB L u (lfr L (dNow u))) (nI ((1600 + 32 * i) + 1)) (nI ((iX L (dNow u) i) + 1))) (nI (1600 + 32 * i + 4 + 3 * (iX L (dNow u) i))) (lfr L (dNow u))))) (wr := (hI g)) ⟨hx, hb, hml, hown, hTB⟩ (c_Disk_setPair l D g k L hL0 hL (setB L (tkB L u (lfr L (dNow u))) (nI ((1600 + 32 * i) + 1)) (nI ((iX L (dNow u) i) + 1))) (nI (1600 + 32 * i + 4 + 3 * (iX L (dNow u) i))) (lfr L (dNow u))) (cwV 2 hTB (gd_V k_412 k_413 k_414 k_52 k_415) rfl rfl rfl (by decide +kernel) ⟨Nat.le_of_ble_eq_true rfl, Nat.le_of_ble_eq_true rfl⟩) hK hP hD hA [1, 2, 3, 4, 5, 6] [0] rfl rfl (by decide) rfl (by decide) (by decide) 1 rfl rfl rfl hl.1 rfl (Nat.le_of_ble_eq_true rfl) d_Inodes_takeBlock_135 ⟨Nat.zero_le _, Nat.zero_le _⟩ hS (fun H locs hP hD hS => ?_)
            have hP : va_P D cl5 (wI g k L (setP L (setB L (tkB L u (lfr L (dNow u))) (nI ((1600 + 32 * i) + 1)) (nI ((iX L (dNow u) i) + 1))) (nI (1600 + 32 * i + 4 + 3 * (iX L (dNow u) i))) (lfr L (dNow u)))) H := hP
            have hD : va_D A (wI g k L (setP L (setB L (tkB L u (lfr L (dNow u))) (nI ((1600 + 32 * i) + 1)) (nI ((iX L (dNow u) i) + 1))) (nI (1600 + 32 * i + 4 + 3 * (iX L (dNow u) i))) (lfr L (dNow u)))) := hD
            refine lv_aload_n hx hb d_Inodes_takeBlock_138 rfl (lv_at hl 3 rfl) ?_
            refine va_get (D := D) (ci := 2) (v := .ref (g 0)) (C := R_Inodes) (T := T_Inodes) (N := 1) hx hb hTB in_Inodes hown hK hP 0 rfl rfl 0 (by decide) (hTB _ k_122) (fun _ h9 => h9) rfl d_Inodes_takeBlock_139 ?_
            refine lv_iload_n hx hb d_Inodes_takeBlock_142 rfl (lv_at hl 4 rfl) ?_
            refine lv_iload_n hx hb d_Inodes_takeBlock_143 rfl (lv_at hl 2 rfl) ?_
            refine gz_roS (As := [.int (nI i), .int (nI (iX L (dNow u) i))]) (rest := [.ref (g 0)]) ⟨hx, hb, hml, hown, hTB⟩ (c_Inodes_extentPlace l i (iX L (dNow u) i)) (cwS 2 hTB (gd_S k_373 k_374 k_54 k_375) rfl rfl rfl (by decide +kernel) ⟨Nat.le_of_ble_eq_true rfl, Nat.le_of_ble_eq_true rfl⟩) hP rfl hl.1 rfl (Nat.le_of_ble_eq_true rfl) d_Inodes_takeBlock_144 ⟨Nat.zero_le _, Nat.zero_le _⟩ hS (fun H locs hP hS => ?_)
            refine lv_iconst (v := nI 2) hx hb d_Inodes_takeBlock_147 (by decide +kernel) ?_
            refine gz_iadd hx hb d_Inodes_takeBlock_148 ?_
            refine lv_iconst (v := nI 1) hx hb d_Inodes_takeBlock_149 (by decide +kernel) ?_
            refine gz_muV (As := [.int (nI ((1600 + 32 * i + 4 + 3 * (iX L (dNow u) i)) + 2)), .int (nI 1)]) (rest := []) (wc := (wD g k L (setP L (setB L (tkB L u (lfr L (dNow u))) (nI ((1600 + 32 * i) + 1)) (nI ((iX L (dNow u) i) + 1))) (nI (1600 + 32 * i + 4 + 3 * (iX L (dNow u) i))) (lfr L (dNow u))))) (w1 := (wD g k L (setB L (setP L (setB L (tkB L u (lfr L (dNow u))) (nI ((1600 + 32 * i) + 1)) (nI ((iX L (dNow u) i) + 1))) (nI (1600 + 32 * i + 4 + 3 * (iX L (dNow u) i))) (lfr L (dNow u))) (nI ((1600 + 32 * i + 4 + 3 * (iX L (dNow u) i)) + 2)) (nI 1)))) (wr := (hI g)) ⟨hx, hb, hml, hown, hTB⟩ (c_Disk_setByte l D g k L hL0 hL (setP L (setB L (tkB L u (lfr L (dNow u))) (nI ((1600 + 32 * i) + 1)) (nI ((iX L (dNow u) i) + 1))) (nI (1600 + 32 * i + 4 + 3 * (iX L (dNow u) i))) (lfr L (dNow u))) (nI ((1600 + 32 * i + 4 + 3 * (iX L (dNow u) i)) + 2)) (nI 1)) (cwV 2 hTB (gd_V k_150 k_151 k_152 k_52 k_153) rfl rfl rfl (by decide +kernel) ⟨Nat.le_of_ble_eq_true rfl, Nat.le_of_ble_eq_true rfl⟩) hK hP hD hA [1, 2, 3, 4, 5, 6] [0] rfl rfl (by decide) rfl (by decide) (by decide) 1 rfl rfl rfl hl.1 rfl (Nat.le_of_ble_eq_true rfl) d_Inodes_takeBlock_150 ⟨Nat.zero_le _, Nat.zero_le _⟩ hS (fun H locs hP hD hS => ?_)
            have hP : va_P D cl5 (wI g k L (setB L (setP L (setB L (tkB L u (lfr L (dNow u))) (nI ((1600 + 32 * i) + 1)) (nI ((iX L (dNow u) i) + 1))) (nI (1600 + 32 * i + 4 + 3 * (iX L (dNow u) i))) (lfr L (dNow u))) (nI ((1600 + 32 * i + 4 + 3 * (iX L (dNow u) i)) + 2)) (nI 1))) H := hP
            have hD : va_D A (wI g k L (setB L (setP L (setB L (tkB L u (lfr L (dNow u))) (nI ((1600 + 32 * i) + 1)) (nI ((iX L (dNow u) i) + 1))) (nI (1600 + 32 * i + 4 + 3 * (iX L (dNow u) i))) (lfr L (dNow u))) (nI ((1600 + 32 * i + 4 + 3 * (iX L (dNow u) i)) + 2)) (nI 1))) := hD
            refine lv_iconst (v := nI 1) hx hb d_Inodes_takeBlock_153 (by decide +kernel) ?_
            have hP9 : va_P D cl5 (wI g k L ((tkI L u i).2)) H := (by rw [tkI_l hno h90 h96]; exact hP)
            have hD9 : va_D A (wI g k L ((tkI L u i).2)) := (by rw [tkI_l hno h90 h96]; exact hD)
            exact W.zret (v := nI 1) (ty := .boolean) hx hb hr (by decide +kernel) (fun tt9 ht9 hW9 => ⟨⟨_, (), rfl, (by rw [tkI_l hno h90 h96]; rfl), ⟨by rw [ht9]; exact hP9, hD9⟩⟩, hS.F ht9⟩) hS.2.2 d_Inodes_takeBlock_154
          · refine lv_iconst (v := nI 0) hx hb d_Inodes_takeBlock_99 (by decide +kernel) ?_
            have hP9 : va_P D cl5 (wI g k L ((tkI L u i).2)) H := (by rw [tkI_n hno (by first | exact Or.inl h90 | exact Or.inr h96)]; exact hP)
            have hD9 : va_D A (wI g k L ((tkI L u i).2)) := (by rw [tkI_n hno (by first | exact Or.inl h90 | exact Or.inr h96)]; exact hD)
            exact W.zret (v := nI 0) (ty := .boolean) hx hb hr (by decide +kernel) (fun tt9 ht9 hW9 => ⟨⟨_, (), rfl, (by rw [tkI_n hno (by first | exact Or.inl h90 | exact Or.inr h96)]; rfl), ⟨by rw [ht9]; exact hP9, hD9⟩⟩, hS.F ht9⟩) hS.2.2 d_Inodes_takeBlock_100
      · refine lv_aload_n hx hb d_Inodes_takeBlock_50 rfl (lv_at hl 3 rfl) ?_
        refine va_get (D := D) (ci := 2) (v := .ref (g 0)) (C := R_Inodes) (T := T_Inodes) (N := 1) hx hb hTB in_Inodes hown hK hP 0 rfl rfl 0 (by decide) (hTB _ k_122) (fun _ h9 => h9) rfl d_Inodes_takeBlock_51 ?_
        refine lv_iload hx hb d_Inodes_takeBlock_54 (lv_at hl 0 rfl) ?_
        refine gz_muV (As := [.int (nI ((xF L (dNow u) i ((iX L (dNow u) i) - 1)) + (xL L (dNow u) i ((iX L (dNow u) i) - 1))))]) (rest := []) (wc := (wD g k L u)) (w1 := (wD g k L (tkB L u (nI ((xF L (dNow u) i ((iX L (dNow u) i) - 1)) + (xL L (dNow u) i ((iX L (dNow u) i) - 1))))))) (wr := (hI g)) ⟨hx, hb, hml, hown, hTB⟩ (c_Disk_takeBlock l D g k L hL0 hL u (nI ((xF L (dNow u) i ((iX L (dNow u) i) - 1)) + (xL L (dNow u) i ((iX L (dNow u) i) - 1))))) (cwV 1 hTB (gd_V k_404 k_405 k_406 k_52 k_407) rfl rfl rfl (by decide +kernel) ⟨Nat.le_of_ble_eq_true rfl, Nat.le_of_ble_eq_true rfl⟩) hK hP hD hA [1, 2, 3, 4, 5, 6] [0] rfl rfl (by decide) rfl (by decide) (by decide) 1 rfl rfl rfl hl.1 rfl (Nat.le_of_ble_eq_true rfl) d_Inodes_takeBlock_56 ⟨Nat.zero_le _, Nat.zero_le _⟩ hS (fun H locs hP hD hS => ?_)
        have hP : va_P D cl5 (wI g k L (tkB L u (nI ((xF L (dNow u) i ((iX L (dNow u) i) - 1)) + (xL L (dNow u) i ((iX L (dNow u) i) - 1)))))) H := hP
        have hD : va_D A (wI g k L (tkB L u (nI ((xF L (dNow u) i ((iX L (dNow u) i) - 1)) + (xL L (dNow u) i ((iX L (dNow u) i) - 1)))))) := hD
        refine lv_aload_n hx hb d_Inodes_takeBlock_59 rfl (lv_at hl 3 rfl) ?_
        refine va_get (D := D) (ci := 2) (v := .ref (g 0)) (C := R_Inodes) (T := T_Inodes) (N := 1) hx hb hTB in_Inodes hown hK hP 0 rfl rfl 0 (by decide) (hTB _ k_122) (fun _ h9 => h9) rfl d_Inodes_takeBlock_60 ?_
        refine lv_iload_n hx hb d_Inodes_takeBlock_63 rfl (lv_at hl 4 rfl) ?_
        refine lv_iload_n hx hb d_Inodes_takeBlock_64 rfl (lv_at hl 2 rfl) ?_
        refine lv_iconst (v := nI 1) hx hb d_Inodes_takeBlock_65 (by decide +kernel) ?_
        refine gz_isub hx hb d_Inodes_takeBlock_66 (by omega) ?_
        refine gz_roS (As := [.int (nI i), .int (nI ((iX L (dNow u) i) - 1))]) (rest := [.ref (g 0)]) ⟨hx, hb, hml, hown, hTB⟩ (c_Inodes_extentPlace l i ((iX L (dNow u) i) - 1)) (cwS 2 hTB (gd_S k_373 k_374 k_54 k_375) rfl rfl rfl (by decide +kernel) ⟨Nat.le_of_ble_eq_true rfl, Nat.le_of_ble_eq_true rfl⟩) hP rfl hl.1 rfl (Nat.le_of_ble_eq_true rfl) d_Inodes_takeBlock_67 ⟨Nat.zero_le _, Nat.zero_le _⟩ hS (fun H locs hP hS => ?_)
        refine lv_iconst (v := nI 2) hx hb d_Inodes_takeBlock_70 (by decide +kernel) ?_
        refine gz_iadd hx hb d_Inodes_takeBlock_71 ?_
        refine lv_iload_n hx hb d_Inodes_takeBlock_72 rfl (lv_at hl 1 rfl) ?_
        refine lv_iconst (v := nI 1) hx hb d_Inodes_takeBlock_73 (by decide +kernel) ?_
        refine gz_iadd hx hb d_Inodes_takeBlock_74 ?_
        refine gz_muV (As := [.int (nI ((1600 + 32 * i + 4 + 3 * ((iX L (dNow u) i) - 1)) + 2)), .int (nI ((xL L (dNow u) i ((iX L (dNow u) i) - 1)) + 1))]) (rest := []) (wc := (wD g k L (tkB L u (nI ((xF L (dNow u) i ((iX L (dNow u) i) - 1)) + (xL L (dNow u) i ((iX L (dNow u) i) - 1))))))) (w1 := (wD g k L (setB L (tkB L u (nI ((xF L (dNow u) i ((iX L (dNow u) i) - 1)) + (xL L (dNow u) i ((iX L (dNow u) i) - 1))))) (nI ((1600 + 32 * i + 4 + 3 * ((iX L (dNow u) i) - 1)) + 2)) (nI ((xL L (dNow u) i ((iX L (dNow u) i) - 1)) + 1))))) (wr := (hI g)) ⟨hx, hb, hml, hown, hTB⟩ (c_Disk_setByte l D g k L hL0 hL (tkB L u (nI ((xF L (dNow u) i ((iX L (dNow u) i) - 1)) + (xL L (dNow u) i ((iX L (dNow u) i) - 1))))) (nI ((1600 + 32 * i + 4 + 3 * ((iX L (dNow u) i) - 1)) + 2)) (nI ((xL L (dNow u) i ((iX L (dNow u) i) - 1)) + 1))) (cwV 2 hTB (gd_V k_150 k_151 k_152 k_52 k_153) rfl rfl rfl (by decide +kernel) ⟨Nat.le_of_ble_eq_true rfl, Nat.le_of_ble_eq_true rfl⟩) hK hP hD hA [1, 2, 3, 4, 5, 6] [0] rfl rfl (by decide) rfl (by decide) (by decide) 1 rfl rfl rfl hl.1 rfl (Nat.le_of_ble_eq_true rfl) d_Inodes_takeBlock_75 ⟨Nat.zero_le _, Nat.zero_le _⟩ hS (fun H locs hP hD hS => ?_)
        have hP : va_P D cl5 (wI g k L (setB L (tkB L u (nI ((xF L (dNow u) i ((iX L (dNow u) i) - 1)) + (xL L (dNow u) i ((iX L (dNow u) i) - 1))))) (nI ((1600 + 32 * i + 4 + 3 * ((iX L (dNow u) i) - 1)) + 2)) (nI ((xL L (dNow u) i ((iX L (dNow u) i) - 1)) + 1)))) H := hP
        have hD : va_D A (wI g k L (setB L (tkB L u (nI ((xF L (dNow u) i ((iX L (dNow u) i) - 1)) + (xL L (dNow u) i ((iX L (dNow u) i) - 1))))) (nI ((1600 + 32 * i + 4 + 3 * ((iX L (dNow u) i) - 1)) + 2)) (nI ((xL L (dNow u) i ((iX L (dNow u) i) - 1)) + 1)))) := hD
        refine lv_iconst (v := nI 1) hx hb d_Inodes_takeBlock_78 (by decide +kernel) ?_
        have hP9 : va_P D cl5 (wI g k L ((tkI L u i).2)) H := (by rw [tkI_a ⟨h7, h35, h47⟩]; exact hP)
        have hD9 : va_D A (wI g k L ((tkI L u i).2)) := (by rw [tkI_a ⟨h7, h35, h47⟩]; exact hD)
        exact W.zret (v := nI 1) (ty := .boolean) hx hb hr (by decide +kernel) (fun tt9 ht9 hW9 => ⟨⟨_, (), rfl, (by rw [tkI_a ⟨h7, h35, h47⟩]; rfl), ⟨by rw [ht9]; exact hP9, hD9⟩⟩, hS.F ht9⟩) hS.2.2 d_Inodes_takeBlock_79
theorem d_Inodes_giveBlockBack_0 : decode b_Inodes_giveBlockBack 0 = .ok (.aload_n 0, 1) := by decide +kernel
theorem d_Inodes_giveBlockBack_1 : decode b_Inodes_giveBlockBack 1 = .ok (.iload_n 1, 1) := by decide +kernel
theorem d_Inodes_giveBlockBack_2 : decode b_Inodes_giveBlockBack 2 = .ok (.invokevirtual 67, 3) := by decide +kernel
theorem d_Inodes_giveBlockBack_5 : decode b_Inodes_giveBlockBack 5 = .ok (.iconst 1, 1) := by decide +kernel
theorem d_Inodes_giveBlockBack_6 : decode b_Inodes_giveBlockBack 6 = .ok (.isub, 1) := by decide +kernel
theorem d_Inodes_giveBlockBack_7 : decode b_Inodes_giveBlockBack 7 = .ok (.istore_n 2, 1) := by decide +kernel
theorem d_Inodes_giveBlockBack_8 : decode b_Inodes_giveBlockBack 8 = .ok (.iload_n 2, 1) := by decide +kernel
theorem d_Inodes_giveBlockBack_9 : decode b_Inodes_giveBlockBack 9 = .ok (.ifCond .ge 4, 3) := by decide +kernel
theorem d_Inodes_giveBlockBack_12 : decode b_Inodes_giveBlockBack 12 = .ok (.return_, 1) := by decide +kernel
theorem d_Inodes_giveBlockBack_13 : decode b_Inodes_giveBlockBack 13 = .ok (.aload_n 0, 1) := by decide +kernel
theorem d_Inodes_giveBlockBack_14 : decode b_Inodes_giveBlockBack 14 = .ok (.iload_n 1, 1) := by decide +kernel
theorem d_Inodes_giveBlockBack_15 : decode b_Inodes_giveBlockBack 15 = .ok (.iload_n 2, 1) := by decide +kernel
theorem d_Inodes_giveBlockBack_16 : decode b_Inodes_giveBlockBack 16 = .ok (.invokevirtual 70, 3) := by decide +kernel
theorem d_Inodes_giveBlockBack_19 : decode b_Inodes_giveBlockBack 19 = .ok (.istore_n 3, 1) := by decide +kernel
theorem d_Inodes_giveBlockBack_20 : decode b_Inodes_giveBlockBack 20 = .ok (.aload_n 0, 1) := by decide +kernel
theorem d_Inodes_giveBlockBack_21 : decode b_Inodes_giveBlockBack 21 = .ok (.getfield 9, 3) := by decide +kernel
theorem d_Inodes_giveBlockBack_24 : decode b_Inodes_giveBlockBack 24 = .ok (.aload_n 0, 1) := by decide +kernel
theorem d_Inodes_giveBlockBack_25 : decode b_Inodes_giveBlockBack 25 = .ok (.iload_n 1, 1) := by decide +kernel
theorem d_Inodes_giveBlockBack_26 : decode b_Inodes_giveBlockBack 26 = .ok (.iload_n 2, 1) := by decide +kernel
theorem d_Inodes_giveBlockBack_27 : decode b_Inodes_giveBlockBack 27 = .ok (.invokevirtual 73, 3) := by decide +kernel
theorem d_Inodes_giveBlockBack_30 : decode b_Inodes_giveBlockBack 30 = .ok (.iload_n 3, 1) := by decide +kernel
theorem d_Inodes_giveBlockBack_31 : decode b_Inodes_giveBlockBack 31 = .ok (.iadd, 1) := by decide +kernel
theorem d_Inodes_giveBlockBack_32 : decode b_Inodes_giveBlockBack 32 = .ok (.iconst 1, 1) := by decide +kernel
theorem d_Inodes_giveBlockBack_33 : decode b_Inodes_giveBlockBack 33 = .ok (.isub, 1) := by decide +kernel
theorem d_Inodes_giveBlockBack_34 : decode b_Inodes_giveBlockBack 34 = .ok (.invokevirtual 85, 3) := by decide +kernel
theorem d_Inodes_giveBlockBack_37 : decode b_Inodes_giveBlockBack 37 = .ok (.aload_n 0, 1) := by decide +kernel
theorem d_Inodes_giveBlockBack_38 : decode b_Inodes_giveBlockBack 38 = .ok (.getfield 9, 3) := by decide +kernel
theorem d_Inodes_giveBlockBack_41 : decode b_Inodes_giveBlockBack 41 = .ok (.iload_n 1, 1) := by decide +kernel
theorem d_Inodes_giveBlockBack_42 : decode b_Inodes_giveBlockBack 42 = .ok (.iload_n 2, 1) := by decide +kernel
theorem d_Inodes_giveBlockBack_43 : decode b_Inodes_giveBlockBack 43 = .ok (.invokestatic 27, 3) := by decide +kernel
theorem d_Inodes_giveBlockBack_46 : decode b_Inodes_giveBlockBack 46 = .ok (.iconst 2, 1) := by decide +kernel
theorem d_Inodes_giveBlockBack_47 : decode b_Inodes_giveBlockBack 47 = .ok (.iadd, 1) := by decide +kernel
theorem d_Inodes_giveBlockBack_48 : decode b_Inodes_giveBlockBack 48 = .ok (.iload_n 3, 1) := by decide +kernel
theorem d_Inodes_giveBlockBack_49 : decode b_Inodes_giveBlockBack 49 = .ok (.iconst 1, 1) := by decide +kernel
theorem d_Inodes_giveBlockBack_50 : decode b_Inodes_giveBlockBack 50 = .ok (.isub, 1) := by decide +kernel
theorem d_Inodes_giveBlockBack_51 : decode b_Inodes_giveBlockBack 51 = .ok (.invokevirtual 34, 3) := by decide +kernel
theorem d_Inodes_giveBlockBack_54 : decode b_Inodes_giveBlockBack 54 = .ok (.iload_n 3, 1) := by decide +kernel
theorem d_Inodes_giveBlockBack_55 : decode b_Inodes_giveBlockBack 55 = .ok (.iconst 1, 1) := by decide +kernel
theorem d_Inodes_giveBlockBack_56 : decode b_Inodes_giveBlockBack 56 = .ok (.if_icmp .ne 30, 3) := by decide +kernel
theorem d_Inodes_giveBlockBack_59 : decode b_Inodes_giveBlockBack 59 = .ok (.aload_n 0, 1) := by decide +kernel
theorem d_Inodes_giveBlockBack_60 : decode b_Inodes_giveBlockBack 60 = .ok (.getfield 9, 3) := by decide +kernel
theorem d_Inodes_giveBlockBack_63 : decode b_Inodes_giveBlockBack 63 = .ok (.iload_n 1, 1) := by decide +kernel
theorem d_Inodes_giveBlockBack_64 : decode b_Inodes_giveBlockBack 64 = .ok (.iload_n 2, 1) := by decide +kernel
theorem d_Inodes_giveBlockBack_65 : decode b_Inodes_giveBlockBack 65 = .ok (.invokestatic 27, 3) := by decide +kernel
theorem d_Inodes_giveBlockBack_68 : decode b_Inodes_giveBlockBack 68 = .ok (.iconst 0, 1) := by decide +kernel
theorem d_Inodes_giveBlockBack_69 : decode b_Inodes_giveBlockBack 69 = .ok (.invokevirtual 64, 3) := by decide +kernel
theorem d_Inodes_giveBlockBack_72 : decode b_Inodes_giveBlockBack 72 = .ok (.aload_n 0, 1) := by decide +kernel
theorem d_Inodes_giveBlockBack_73 : decode b_Inodes_giveBlockBack 73 = .ok (.getfield 9, 3) := by decide +kernel
theorem d_Inodes_giveBlockBack_76 : decode b_Inodes_giveBlockBack 76 = .ok (.iload_n 1, 1) := by decide +kernel
theorem d_Inodes_giveBlockBack_77 : decode b_Inodes_giveBlockBack 77 = .ok (.invokestatic 15, 3) := by decide +kernel
theorem d_Inodes_giveBlockBack_80 : decode b_Inodes_giveBlockBack 80 = .ok (.iconst 1, 1) := by decide +kernel
theorem d_Inodes_giveBlockBack_81 : decode b_Inodes_giveBlockBack 81 = .ok (.iadd, 1) := by decide +kernel
theorem d_Inodes_giveBlockBack_82 : decode b_Inodes_giveBlockBack 82 = .ok (.iload_n 2, 1) := by decide +kernel
theorem d_Inodes_giveBlockBack_83 : decode b_Inodes_giveBlockBack 83 = .ok (.invokevirtual 34, 3) := by decide +kernel
theorem d_Inodes_giveBlockBack_86 : decode b_Inodes_giveBlockBack 86 = .ok (.return_, 1) := by decide +kernel
set_option maxHeartbeats 4000000 in
set_option maxRecDepth 100000 in
theorem c_Inodes_giveBlockBack (l : Launch) (D : va_G) (g : Nat → Nat) (k : Nat → ClassId) (L : Nat) (hL0 : 96 ≤ L) (hL : L ≤ 768) (u : DSt) (i : Nat) : MuV l y_Inodes_giveBlockBack w_Inodes_giveBlockBack ({ frames := 4, cells := 0, slots := 0, locals := 128 }) [.ref (g 6), .int (nI i)] D cl5 (tyC k) (wI g k L u) (wI g k L (gvI L u i)) := by
  intro sz
  refine Met.ofW (cc := b_Inodes_giveBlockBack) (maxL := 4) (ret := none) (by decide) rfl ?_
  intro p e s m args below meth c s₁ B hml hv
  obtain ⟨rfl, hsz, hP, hK, hD0⟩ := hv
  have hx := B.exec
  have hb := B.bytes
  have hr := B.returns
  have hts := atoms_spec (ws := w_Inodes_giveBlockBack) B.pre
  have hTB : ∀ w ∈ lw_tb, w.before _ s = true := fun w h => hts w (List.mem_cons_of_mem _ h)
  have hown : s.vm.findClass R_Inodes = some m.cls := findClass_of_methodNamed B.named
  have hlocks := B.notSynchronized
  subst hsz
  have hD := hD0.self (sz := s.heap.size)
  generalize hAe : va_A (wI g k L u) s.heap.size = A at hD ⊢
  have hA : ∀ q : Nat, s.heap.size ≤ q → A q := fun q h => by rw [← hAe]; exact Or.inr h
  have hS : va_S A s.heap s.heap [] := va_S.rf
  have hl := lv_entry ([.ref (g 6), .int (nI i)]) (n := 4) (Nat.le_of_ble_eq_true rfl)
  rw [lg_entry_eq]
  generalize (lg_sl ([.ref (g 6), .int (nI i)]) ++ List.replicate (4 - (lg_sl ([.ref (g 6), .int (nI i)])).length) Slot.unset).toArray = ls at hl ⊢
  have hl : lv_has ls 4 [(0, .ref (g 6)), (1, .int (nI i))] := hl
  refine lv_aload_n hx hb d_Inodes_giveBlockBack_0 rfl (lv_at hl 0 rfl) ?_
  refine lv_iload_n hx hb d_Inodes_giveBlockBack_1 rfl (lv_at hl 1 rfl) ?_
  refine gz_roV (As := [.int (nI i)]) (rest := []) (wc := (wI g k L u)) ⟨hx, hb, hml, hown, hTB⟩ (c_Inodes_extents l D g k L hL0 hL u i) (cwV 1 hTB (gd_V k_365 k_366 k_367 k_54 k_368) rfl rfl rfl (by decide +kernel) ⟨Nat.le_of_ble_eq_true rfl, Nat.le_of_ble_eq_true rfl⟩) hK hP [0, 1, 2, 3, 4, 5, 6] rfl 0 rfl rfl rfl hl.1 rfl (Nat.le_of_ble_eq_true rfl) d_Inodes_giveBlockBack_2 ⟨Nat.zero_le _, Nat.zero_le _⟩ hS (fun H locs hP hS => ?_)
  have := iX_lt L (dNow u) i
  refine lv_iconst (v := nI 1) hx hb d_Inodes_giveBlockBack_5 (by decide +kernel) ?_
  refine lv_isub hx hb d_Inodes_giveBlockBack_6 ?_
  refine lv_istore_n (lv' := [(2, .int ((nI (iX L (dNow u) i)) - (nI 1))), (0, .ref (g 6)), (1, .int (nI i))]) hx hb d_Inodes_giveBlockBack_7 rfl hl (by decide) rfl (fun ls hl => ?_)
  refine lv_iload_n hx hb d_Inodes_giveBlockBack_8 rfl (lv_at hl 0 rfl) ?_
  refine lv_if_ge (tgt := 13) hx hb d_Inodes_giveBlockBack_9 (by decide) (fun h9 => ?_) (fun h9 => ?_)
  · have he : 1 ≤ iX L (dNow u) i := sub1_ge (by omega) h9
    have hl : lv_has ls 4 [(2, .int (nI (iX L (dNow u) i - 1))), (0, .ref (g 6)), (1, .int (nI i))] := by rw [← pk_sub he]; exact hl
    refine lv_aload_n hx hb d_Inodes_giveBlockBack_13 rfl (lv_at hl 1 rfl) ?_
    refine lv_iload_n hx hb d_Inodes_giveBlockBack_14 rfl (lv_at hl 2 rfl) ?_
    refine lv_iload_n hx hb d_Inodes_giveBlockBack_15 rfl (lv_at hl 0 rfl) ?_
    refine gz_roV (As := [.int (nI i), .int (nI (iX L (dNow u) i - 1))]) (rest := []) (wc := (wI g k L u)) ⟨hx, hb, hml, hown, hTB⟩ (c_Inodes_extentLength l D g k L hL0 hL u i (iX L (dNow u) i - 1)) (cwV 2 hTB (gd_V k_369 k_370 k_371 k_54 k_372) rfl rfl rfl (by decide +kernel) ⟨Nat.le_of_ble_eq_true rfl, Nat.le_of_ble_eq_true rfl⟩) hK hP [0, 1, 2, 3, 4, 5, 6] rfl 0 rfl rfl rfl hl.1 rfl (Nat.le_of_ble_eq_true rfl) d_Inodes_giveBlockBack_16 ⟨Nat.zero_le _, Nat.zero_le _⟩ hS (fun H locs hP hS => ?_)
    have := xL_lt L (dNow u) i (iX L (dNow u) i - 1)
    refine lv_istore_n (lv' := [(3, .int (nI (xL L (dNow u) i (iX L (dNow u) i - 1)))), (2, .int (nI (iX L (dNow u) i - 1))), (0, .ref (g 6)), (1, .int (nI i))]) hx hb d_Inodes_giveBlockBack_19 rfl hl (by decide) rfl (fun ls hl => ?_)
    refine lv_aload_n hx hb d_Inodes_giveBlockBack_20 rfl (lv_at hl 2 rfl) ?_
    refine va_get (D := D) (ci := 2) (v := .ref (g 0)) (C := R_Inodes) (T := T_Inodes) (N := 1) hx hb hTB in_Inodes hown hK hP 0 rfl rfl 0 (by decide) (hTB _ k_122) (fun _ h9 => h9) rfl d_Inodes_giveBlockBack_21 ?_
    refine lv_aload_n hx hb d_Inodes_giveBlockBack_24 rfl (lv_at hl 2 rfl) ?_
    refine lv_iload_n hx hb d_Inodes_giveBlockBack_25 rfl (lv_at hl 3 rfl) ?_
    refine lv_iload_n hx hb d_Inodes_giveBlockBack_26 rfl (lv_at hl 1 rfl) ?_
    refine gz_roV (As := [.int (nI i), .int (nI (iX L (dNow u) i - 1))]) (rest := [.ref (g 0)]) (wc := (wI g k L u)) ⟨hx, hb, hml, hown, hTB⟩ (c_Inodes_extentFirst l D g k L hL0 hL u i (iX L (dNow u) i - 1)) (cwV 2 hTB (gd_V k_376 k_377 k_378 k_54 k_379) rfl rfl rfl (by decide +kernel) ⟨Nat.le_of_ble_eq_true rfl, Nat.le_of_ble_eq_true rfl⟩) hK hP [0, 1, 2, 3, 4, 5, 6] rfl 0 rfl rfl rfl hl.1 rfl (Nat.le_of_ble_eq_true rfl) d_Inodes_giveBlockBack_27 ⟨Nat.zero_le _, Nat.zero_le _⟩ hS (fun H locs hP hS => ?_)
    have := xF_lt L (dNow u) i (iX L (dNow u) i - 1)
    refine lv_iload_n hx hb d_Inodes_giveBlockBack_30 rfl (lv_at hl 0 rfl) ?_
    refine gz_iadd hx hb d_Inodes_giveBlockBack_31 ?_
    refine lv_iconst (v := nI 1) hx hb d_Inodes_giveBlockBack_32 (by decide +kernel) ?_
    refine lv_isub hx hb d_Inodes_giveBlockBack_33 ?_
    refine gz_muV (As := [.int ((nI ((xF L (dNow u) i (iX L (dNow u) i - 1)) + (xL L (dNow u) i (iX L (dNow u) i - 1)))) - (nI 1))]) (rest := []) (wc := (wD g k L u)) (w1 := (wD g k L (gvB L u ((nI ((xF L (dNow u) i (iX L (dNow u) i - 1)) + (xL L (dNow u) i (iX L (dNow u) i - 1)))) - (nI 1))))) (wr := (hI g)) ⟨hx, hb, hml, hown, hTB⟩ (c_Disk_giveBlockBack l D g k L hL0 hL u ((nI ((xF L (dNow u) i (iX L (dNow u) i - 1)) + (xL L (dNow u) i (iX L (dNow u) i - 1)))) - (nI 1))) (cwV 1 hTB (gd_V k_421 k_422 k_423 k_52 k_424) rfl rfl rfl (by decide +kernel) ⟨Nat.le_of_ble_eq_true rfl, Nat.le_of_ble_eq_true rfl⟩) hK hP hD hA [1, 2, 3, 4, 5, 6] [0] rfl rfl (by decide) rfl (by decide) (by decide) 1 rfl rfl rfl hl.1 rfl (Nat.le_of_ble_eq_true rfl) d_Inodes_giveBlockBack_34 ⟨Nat.zero_le _, Nat.zero_le _⟩ hS (fun H locs hP hD hS => ?_)
    have hP : va_P D cl5 (wI g k L (gvB L u ((nI ((xF L (dNow u) i (iX L (dNow u) i - 1)) + (xL L (dNow u) i (iX L (dNow u) i - 1)))) - (nI 1)))) H := hP
    have hD : va_D A (wI g k L (gvB L u ((nI ((xF L (dNow u) i (iX L (dNow u) i - 1)) + (xL L (dNow u) i (iX L (dNow u) i - 1)))) - (nI 1)))) := hD
    refine lv_aload_n hx hb d_Inodes_giveBlockBack_37 rfl (lv_at hl 2 rfl) ?_
    refine va_get (D := D) (ci := 2) (v := .ref (g 0)) (C := R_Inodes) (T := T_Inodes) (N := 1) hx hb hTB in_Inodes hown hK hP 0 rfl rfl 0 (by decide) (hTB _ k_122) (fun _ h9 => h9) rfl d_Inodes_giveBlockBack_38 ?_
    refine lv_iload_n hx hb d_Inodes_giveBlockBack_41 rfl (lv_at hl 3 rfl) ?_
    refine lv_iload_n hx hb d_Inodes_giveBlockBack_42 rfl (lv_at hl 1 rfl) ?_
    refine gz_roS (As := [.int (nI i), .int (nI (iX L (dNow u) i - 1))]) (rest := [.ref (g 0)]) ⟨hx, hb, hml, hown, hTB⟩ (c_Inodes_extentPlace l i (iX L (dNow u) i - 1)) (cwS 2 hTB (gd_S k_373 k_374 k_54 k_375) rfl rfl rfl (by decide +kernel) ⟨Nat.le_of_ble_eq_true rfl, Nat.le_of_ble_eq_true rfl⟩) hP rfl hl.1 rfl (Nat.le_of_ble_eq_true rfl) d_Inodes_giveBlockBack_43 ⟨Nat.zero_le _, Nat.zero_le _⟩ hS (fun H locs hP hS => ?_)
    refine lv_iconst (v := nI 2) hx hb d_Inodes_giveBlockBack_46 (by decide +kernel) ?_
    refine gz_iadd hx hb d_Inodes_giveBlockBack_47 ?_
    refine lv_iload_n hx hb d_Inodes_giveBlockBack_48 rfl (lv_at hl 0 rfl) ?_
    refine lv_iconst (v := nI 1) hx hb d_Inodes_giveBlockBack_49 (by decide +kernel) ?_
    refine lv_isub hx hb d_Inodes_giveBlockBack_50 ?_
    refine gz_muV (As := [.int (nI ((1600 + 32 * i + 4 + 3 * (iX L (dNow u) i - 1)) + 2)), .int ((nI (xL L (dNow u) i (iX L (dNow u) i - 1))) - (nI 1))]) (rest := []) (wc := (wD g k L (gvB L u ((nI ((xF L (dNow u) i (iX L (dNow u) i - 1)) + (xL L (dNow u) i (iX L (dNow u) i - 1)))) - (nI 1))))) (w1 := (wD g k L (setB L (gvB L u ((nI ((xF L (dNow u) i (iX L (dNow u) i - 1)) + (xL L (dNow u) i (iX L (dNow u) i - 1)))) - (nI 1))) (nI ((1600 + 32 * i + 4 + 3 * (iX L (dNow u) i - 1)) + 2)) ((nI (xL L (dNow u) i (iX L (dNow u) i - 1))) - (nI 1))))) (wr := (hI g)) ⟨hx, hb, hml, hown, hTB⟩ (c_Disk_setByte l D g k L hL0 hL (gvB L u ((nI ((xF L (dNow u) i (iX L (dNow u) i - 1)) + (xL L (dNow u) i (iX L (dNow u) i - 1)))) - (nI 1))) (nI ((1600 + 32 * i + 4 + 3 * (iX L (dNow u) i - 1)) + 2)) ((nI (xL L (dNow u) i (iX L (dNow u) i - 1))) - (nI 1))) (cwV 2 hTB (gd_V k_150 k_151 k_152 k_52 k_153) rfl rfl rfl (by decide +kernel) ⟨Nat.le_of_ble_eq_true rfl, Nat.le_of_ble_eq_true rfl⟩) hK hP hD hA [1, 2, 3, 4, 5, 6] [0] rfl rfl (by decide) rfl (by decide) (by decide) 1 rfl rfl rfl hl.1 rfl (Nat.le_of_ble_eq_true rfl) d_Inodes_giveBlockBack_51 ⟨Nat.zero_le _, Nat.zero_le _⟩ hS (fun H locs hP hD hS => ?_)
    have hP : va_P D cl5 (wI g k L (setB L (gvB L u ((nI ((xF L (dNow u) i (iX L (dNow u) i - 1)) + (xL L (dNow u) i (iX L (dNow u) i - 1)))) - (nI 1))) (nI ((1600 + 32 * i + 4 + 3 * (iX L (dNow u) i - 1)) + 2)) ((nI (xL L (dNow u) i (iX L (dNow u) i - 1))) - (nI 1)))) H := hP
    have hD : va_D A (wI g k L (setB L (gvB L u ((nI ((xF L (dNow u) i (iX L (dNow u) i - 1)) + (xL L (dNow u) i (iX L (dNow u) i - 1)))) - (nI 1))) (nI ((1600 + 32 * i + 4 + 3 * (iX L (dNow u) i - 1)) + 2)) ((nI (xL L (dNow u) i (iX L (dNow u) i - 1))) - (nI 1)))) := hD
    refine lv_iload_n hx hb d_Inodes_giveBlockBack_54 rfl (lv_at hl 0 rfl) ?_
    refine lv_iconst (v := nI 1) hx hb d_Inodes_giveBlockBack_55 (by decide +kernel) ?_
    refine gz_icmp_ne (tgt := 86) hx hb d_Inodes_giveBlockBack_56 (by decide) (by omega) (by omega) (fun h56 => ?_) (fun h56 => ?_)
    · have hP9 : va_P D cl5 (wI g k L (gvI L u i)) H := (by rw [gvI_n he h56]; exact hP)
      have hD9 : va_D A (wI g k L (gvI L u i)) := (by rw [gvI_n he h56]; exact hD)
      exact W.vret hx hb hr (fun tt9 ht9 hW9 => ⟨⟨(), rfl, trivial, ⟨by rw [ht9]; exact hP9, hD9⟩⟩, hS.F ht9⟩) hS.2.2 d_Inodes_giveBlockBack_86
    · refine lv_aload_n hx hb d_Inodes_giveBlockBack_59 rfl (lv_at hl 2 rfl) ?_
      refine va_get (D := D) (ci := 2) (v := .ref (g 0)) (C := R_Inodes) (T := T_Inodes) (N := 1) hx hb hTB in_Inodes hown hK hP 0 rfl rfl 0 (by decide) (hTB _ k_122) (fun _ h9 => h9) rfl d_Inodes_giveBlockBack_60 ?_
      refine lv_iload_n hx hb d_Inodes_giveBlockBack_63 rfl (lv_at hl 3 rfl) ?_
      refine lv_iload_n hx hb d_Inodes_giveBlockBack_64 rfl (lv_at hl 1 rfl) ?_
      refine gz_roS (As := [.int (nI i), .int (nI (iX L (dNow u) i - 1))]) (rest := [.ref (g 0)]) ⟨hx, hb, hml, hown, hTB⟩ (c_Inodes_extentPlace l i (iX L (dNow u) i - 1)) (cwS 2 hTB (gd_S k_373 k_374 k_54 k_375) rfl rfl rfl (by decide +kernel) ⟨Nat.le_of_ble_eq_true rfl, Nat.le_of_ble_eq_true rfl⟩) hP rfl hl.1 rfl (Nat.le_of_ble_eq_true rfl) d_Inodes_giveBlockBack_65 ⟨Nat.zero_le _, Nat.zero_le _⟩ hS (fun H locs hP hS => ?_)
      refine lv_iconst (v := nI 0) hx hb d_Inodes_giveBlockBack_68 (by decide +kernel) ?_
      refine gz_muV (As := [.int (nI (1600 + 32 * i + 4 + 3 * (iX L (dNow u) i - 1))), .int (nI 0)]) (rest := []) (wc := (wD g k L (setB L (gvB L u ((nI ((xF L (dNow u) i (iX L (dNow u) i - 1)) + (xL L (dNow u) i (iX L (dNow u) i - 1)))) - (nI 1))) (nI ((1600 + 32 * i + 4 + 3 * (iX L (dNow u) i - 1)) + 2)) ((nI (xL L (dNow u) i (iX L (dNow u) i - 1))) - (nI 1))))) (w1 := (wD g k L (setP L (setB L (gvB L u ((nI ((xF L (dNow u) i (iX L (dNow u) i - 1)) + (xL L (dNow u) i (iX L (dNow u) i - 1)))) - (nI 1))) (nI ((1600 + 32 * i + 4 + 3 * (iX L (dNow u) i - 1)) + 2)) ((nI (xL L (dNow u) i (iX L (dNow u) i - 1))) - (nI 1))) (nI (1600 + 32 * i + 4 + 3 * (iX L (dNow u) i - 1))) (nI 0)))) (wr := (hI g)) ⟨hx, hb, hml, hown, hTB⟩ (c_Disk_setPair l D g k L hL0 hL (setB L (gvB L u ((nI ((xF L (dNow u) i (iX L (dNow u) i - 1)) + (xL L (dNow u) i (iX L (dNow u) i - 1)))) - (nI 1))) (nI ((1600 + 32 * i + 4 + 3 * (iX L (dNow u) i - 1)) + 2)) ((nI (xL L (dNow u) i (iX L (dNow u) i - 1))) - (nI 1))) (nI (1600 + 32 * i + 4 + 3 * (iX L (dNow u) i - 1))) (nI 0)) (cwV 2 hTB (gd_V k_412 k_413 k_414 k_52 k_415) rfl rfl rfl (by decide +kernel) ⟨Nat.le_of_ble_eq_true rfl, Nat.le_of_ble_eq_true rfl⟩) hK hP hD hA [1, 2, 3, 4, 5, 6] [0] rfl rfl (by decide) rfl (by decide) (by decide) 1 rfl rfl rfl hl.1 rfl (Nat.le_of_ble_eq_true rfl) d_Inodes_giveBlockBack_69 ⟨Nat.zero_le _, Nat.zero_le _⟩ hS (fun H locs hP hD hS => ?_)
      have hP : va_P D cl5 (wI g k L (setP L (setB L (gvB L u ((nI ((xF L (dNow u) i (iX L (dNow u) i - 1)) + (xL L (dNow u) i (iX L (dNow u) i - 1)))) - (nI 1))) (nI ((1600 + 32 * i + 4 + 3 * (iX L (dNow u) i - 1)) + 2)) ((nI (xL L (dNow u) i (iX L (dNow u) i - 1))) - (nI 1))) (nI (1600 + 32 * i + 4 + 3 * (iX L (dNow u) i - 1))) (nI 0))) H := hP
      have hD : va_D A (wI g k L (setP L (setB L (gvB L u ((nI ((xF L (dNow u) i (iX L (dNow u) i - 1)) + (xL L (dNow u) i (iX L (dNow u) i - 1)))) - (nI 1))) (nI ((1600 + 32 * i + 4 + 3 * (iX L (dNow u) i - 1)) + 2)) ((nI (xL L (dNow u) i (iX L (dNow u) i - 1))) - (nI 1))) (nI (1600 + 32 * i + 4 + 3 * (iX L (dNow u) i - 1))) (nI 0))) := hD
      refine lv_aload_n hx hb d_Inodes_giveBlockBack_72 rfl (lv_at hl 2 rfl) ?_
      refine va_get (D := D) (ci := 2) (v := .ref (g 0)) (C := R_Inodes) (T := T_Inodes) (N := 1) hx hb hTB in_Inodes hown hK hP 0 rfl rfl 0 (by decide) (hTB _ k_122) (fun _ h9 => h9) rfl d_Inodes_giveBlockBack_73 ?_
      refine lv_iload_n hx hb d_Inodes_giveBlockBack_76 rfl (lv_at hl 3 rfl) ?_
      refine gz_roS (As := [.int (nI i)]) (rest := [.ref (g 0)]) ⟨hx, hb, hml, hown, hTB⟩ (c_Inodes_inodePlace l i) (cwS 1 hTB (gd_S k_147 k_148 k_54 k_149) rfl rfl rfl (by decide +kernel) ⟨Nat.le_of_ble_eq_true rfl, Nat.le_of_ble_eq_true rfl⟩) hP rfl hl.1 rfl (Nat.le_of_ble_eq_true rfl) d_Inodes_giveBlockBack_77 ⟨Nat.zero_le _, Nat.zero_le _⟩ hS (fun H locs hP hS => ?_)
      refine lv_iconst (v := nI 1) hx hb d_Inodes_giveBlockBack_80 (by decide +kernel) ?_
      refine gz_iadd hx hb d_Inodes_giveBlockBack_81 ?_
      refine lv_iload_n hx hb d_Inodes_giveBlockBack_82 rfl (lv_at hl 1 rfl) ?_
      refine gz_muV (As := [.int (nI ((1600 + 32 * i) + 1)), .int (nI (iX L (dNow u) i - 1))]) (rest := []) (wc := (wD g k L (setP L (setB L (gvB L u ((nI ((xF L (dNow u) i (iX L (dNow u) i - 1)) + (xL L (dNow u) i (iX L (dNow u) i - 1)))) - (nI 1))) (nI ((1600 + 32 * i + 4 + 3 * (iX L (dNow u) i - 1)) + 2)) ((nI (xL L (dNow u) i (iX L (dNow u) i - 1))) - (nI 1))) (nI (1600 + 32 * i + 4 + 3 * (iX L (dNow u) i - 1))) (nI 0)))) (w1 := (wD g k L (setB L (setP L (setB L (gvB L u ((nI ((xF L (dNow u) i (iX L (dNow u) i - 1)) + (xL L (dNow u) i (iX L (dNow u) i - 1)))) - (nI 1))) (nI ((1600 + 32 * i + 4 + 3 * (iX L (dNow u) i - 1)) + 2)) ((nI (xL L (dNow u) i (iX L (dNow u) i - 1))) - (nI 1))) (nI (1600 + 32 * i + 4 + 3 * (iX L (dNow u) i - 1))) (nI 0)) (nI ((1600 + 32 * i) + 1)) (nI (iX L (dNow u) i - 1))))) (wr := (hI g)) ⟨hx, hb, hml, hown, hTB⟩ (c_Disk_setByte l D g k L hL0 hL (setP L (setB L (gvB L u ((nI ((xF L (dNow u) i (iX L (dNow u) i - 1)) + (xL L (dNow u) i (iX L (dNow u) i - 1)))) - (nI 1))) (nI ((1600 + 32 * i + 4 + 3 * (iX L (dNow u) i - 1)) + 2)) ((nI (xL L (dNow u) i (iX L (dNow u) i - 1))) - (nI 1))) (nI (1600 + 32 * i + 4 + 3 * (iX L (dNow u) i - 1))) (nI 0)) (nI ((1600 + 32 * i) + 1)) (nI (iX L (dNow u) i - 1))) (cwV 2 hTB (gd_V k_150 k_151 k_152 k_52 k_153) rfl rfl rfl (by decide +kernel) ⟨Nat.le_of_ble_eq_true rfl, Nat.le_of_ble_eq_true rfl⟩) hK hP hD hA [1, 2, 3, 4, 5, 6] [0] rfl rfl (by decide) rfl (by decide) (by decide) 1 rfl rfl rfl hl.1 rfl (Nat.le_of_ble_eq_true rfl) d_Inodes_giveBlockBack_83 ⟨Nat.zero_le _, Nat.zero_le _⟩ hS (fun H locs hP hD hS => ?_)
      have hP : va_P D cl5 (wI g k L (setB L (setP L (setB L (gvB L u ((nI ((xF L (dNow u) i (iX L (dNow u) i - 1)) + (xL L (dNow u) i (iX L (dNow u) i - 1)))) - (nI 1))) (nI ((1600 + 32 * i + 4 + 3 * (iX L (dNow u) i - 1)) + 2)) ((nI (xL L (dNow u) i (iX L (dNow u) i - 1))) - (nI 1))) (nI (1600 + 32 * i + 4 + 3 * (iX L (dNow u) i - 1))) (nI 0)) (nI ((1600 + 32 * i) + 1)) (nI (iX L (dNow u) i - 1)))) H := hP
      have hD : va_D A (wI g k L (setB L (setP L (setB L (gvB L u ((nI ((xF L (dNow u) i (iX L (dNow u) i - 1)) + (xL L (dNow u) i (iX L (dNow u) i - 1)))) - (nI 1))) (nI ((1600 + 32 * i + 4 + 3 * (iX L (dNow u) i - 1)) + 2)) ((nI (xL L (dNow u) i (iX L (dNow u) i - 1))) - (nI 1))) (nI (1600 + 32 * i + 4 + 3 * (iX L (dNow u) i - 1))) (nI 0)) (nI ((1600 + 32 * i) + 1)) (nI (iX L (dNow u) i - 1)))) := hD
      have hP9 : va_P D cl5 (wI g k L (gvI L u i)) H := (by rw [gvI_1 he h56]; exact hP)
      have hD9 : va_D A (wI g k L (gvI L u i)) := (by rw [gvI_1 he h56]; exact hD)
      exact W.vret hx hb hr (fun tt9 ht9 hW9 => ⟨⟨(), rfl, trivial, ⟨by rw [ht9]; exact hP9, hD9⟩⟩, hS.F ht9⟩) hS.2.2 d_Inodes_giveBlockBack_86
  · have hP9 : va_P D cl5 (wI g k L (gvI L u i)) H := (by rw [gvI_0 (sub1_lt (by omega) h9)]; exact hP)
    have hD9 : va_D A (wI g k L (gvI L u i)) := (by rw [gvI_0 (sub1_lt (by omega) h9)]; exact hD)
    exact W.vret hx hb hr (fun tt9 ht9 hW9 => ⟨⟨(), rfl, trivial, ⟨by rw [ht9]; exact hP9, hD9⟩⟩, hS.F ht9⟩) hS.2.2 d_Inodes_giveBlockBack_12
theorem d_Inodes_resize_0 : decode b_Inodes_resize 0 = .ok (.aload_n 0, 1) := by decide +kernel
theorem d_Inodes_resize_1 : decode b_Inodes_resize 1 = .ok (.iload_n 1, 1) := by decide +kernel
theorem d_Inodes_resize_2 : decode b_Inodes_resize 2 = .ok (.invokevirtual 42, 3) := by decide +kernel
theorem d_Inodes_resize_5 : decode b_Inodes_resize 5 = .ok (.istore_n 3, 1) := by decide +kernel
theorem d_Inodes_resize_6 : decode b_Inodes_resize 6 = .ok (.iload_n 3, 1) := by decide +kernel
theorem d_Inodes_resize_7 : decode b_Inodes_resize 7 = .ok (.invokestatic 45, 3) := by decide +kernel
theorem d_Inodes_resize_10 : decode b_Inodes_resize 10 = .ok (.istore 4, 2) := by decide +kernel
theorem d_Inodes_resize_12 : decode b_Inodes_resize 12 = .ok (.iload_n 2, 1) := by decide +kernel
theorem d_Inodes_resize_13 : decode b_Inodes_resize 13 = .ok (.invokestatic 45, 3) := by decide +kernel
theorem d_Inodes_resize_16 : decode b_Inodes_resize 16 = .ok (.istore 5, 2) := by decide +kernel
theorem d_Inodes_resize_18 : decode b_Inodes_resize 18 = .ok (.iload 4, 2) := by decide +kernel
theorem d_Inodes_resize_20 : decode b_Inodes_resize 20 = .ok (.istore 6, 2) := by decide +kernel
theorem d_Inodes_resize_22 : decode b_Inodes_resize 22 = .ok (.iload 6, 2) := by decide +kernel
theorem d_Inodes_resize_24 : decode b_Inodes_resize 24 = .ok (.iload 5, 2) := by decide +kernel
theorem d_Inodes_resize_26 : decode b_Inodes_resize 26 = .ok (.if_icmp .ge 19, 3) := by decide +kernel
theorem d_Inodes_resize_29 : decode b_Inodes_resize 29 = .ok (.aload_n 0, 1) := by decide +kernel
theorem d_Inodes_resize_30 : decode b_Inodes_resize 30 = .ok (.iload_n 1, 1) := by decide +kernel
theorem d_Inodes_resize_31 : decode b_Inodes_resize 31 = .ok (.invokevirtual 48, 3) := by decide +kernel
theorem d_Inodes_resize_34 : decode b_Inodes_resize 34 = .ok (.ifCond .ne 5, 3) := by decide +kernel
theorem d_Inodes_resize_37 : decode b_Inodes_resize 37 = .ok (.iconst 0, 1) := by decide +kernel
theorem d_Inodes_resize_38 : decode b_Inodes_resize 38 = .ok (.ireturn, 1) := by decide +kernel
theorem d_Inodes_resize_39 : decode b_Inodes_resize 39 = .ok (.iinc 6 1, 3) := by decide +kernel
theorem d_Inodes_resize_42 : decode b_Inodes_resize 42 = .ok (.goto (-20), 3) := by decide +kernel
theorem d_Inodes_resize_45 : decode b_Inodes_resize 45 = .ok (.iload 4, 2) := by decide +kernel
theorem d_Inodes_resize_47 : decode b_Inodes_resize 47 = .ok (.istore 6, 2) := by decide +kernel
theorem d_Inodes_resize_49 : decode b_Inodes_resize 49 = .ok (.iload 6, 2) := by decide +kernel
theorem d_Inodes_resize_51 : decode b_Inodes_resize 51 = .ok (.iload 5, 2) := by decide +kernel
theorem d_Inodes_resize_53 : decode b_Inodes_resize 53 = .ok (.if_icmp .le 14, 3) := by decide +kernel
theorem d_Inodes_resize_56 : decode b_Inodes_resize 56 = .ok (.aload_n 0, 1) := by decide +kernel
theorem d_Inodes_resize_57 : decode b_Inodes_resize 57 = .ok (.iload_n 1, 1) := by decide +kernel
theorem d_Inodes_resize_58 : decode b_Inodes_resize 58 = .ok (.invokevirtual 52, 3) := by decide +kernel
theorem d_Inodes_resize_61 : decode b_Inodes_resize 61 = .ok (.iinc 6 (-1), 3) := by decide +kernel
theorem d_Inodes_resize_64 : decode b_Inodes_resize 64 = .ok (.goto (-15), 3) := by decide +kernel
theorem d_Inodes_resize_67 : decode b_Inodes_resize 67 = .ok (.iload_n 3, 1) := by decide +kernel
theorem d_Inodes_resize_68 : decode b_Inodes_resize 68 = .ok (.iload 5, 2) := by decide +kernel
theorem d_Inodes_resize_70 : decode b_Inodes_resize 70 = .ok (.bipush 64, 2) := by decide +kernel
theorem d_Inodes_resize_72 : decode b_Inodes_resize 72 = .ok (.imul, 1) := by decide +kernel
theorem d_Inodes_resize_73 : decode b_Inodes_resize 73 = .ok (.invokestatic 56, 3) := by decide +kernel
theorem d_Inodes_resize_76 : decode b_Inodes_resize 76 = .ok (.istore 6, 2) := by decide +kernel
theorem d_Inodes_resize_78 : decode b_Inodes_resize 78 = .ok (.iload_n 2, 1) := by decide +kernel
theorem d_Inodes_resize_79 : decode b_Inodes_resize 79 = .ok (.istore 7, 2) := by decide +kernel
theorem d_Inodes_resize_81 : decode b_Inodes_resize 81 = .ok (.iload 7, 2) := by decide +kernel
theorem d_Inodes_resize_83 : decode b_Inodes_resize 83 = .ok (.iload 6, 2) := by decide +kernel
theorem d_Inodes_resize_85 : decode b_Inodes_resize 85 = .ok (.if_icmp .ge 24, 3) := by decide +kernel
theorem d_Inodes_resize_88 : decode b_Inodes_resize 88 = .ok (.aload_n 0, 1) := by decide +kernel
theorem d_Inodes_resize_89 : decode b_Inodes_resize 89 = .ok (.getfield 9, 3) := by decide +kernel
theorem d_Inodes_resize_92 : decode b_Inodes_resize 92 = .ok (.aload_n 0, 1) := by decide +kernel
theorem d_Inodes_resize_93 : decode b_Inodes_resize 93 = .ok (.iload_n 1, 1) := by decide +kernel
theorem d_Inodes_resize_94 : decode b_Inodes_resize 94 = .ok (.iload 7, 2) := by decide +kernel
theorem d_Inodes_resize_96 : decode b_Inodes_resize 96 = .ok (.invokevirtual 61, 3) := by decide +kernel
theorem d_Inodes_resize_99 : decode b_Inodes_resize 99 = .ok (.iconst 0, 1) := by decide +kernel
theorem d_Inodes_resize_100 : decode b_Inodes_resize 100 = .ok (.invokevirtual 34, 3) := by decide +kernel
theorem d_Inodes_resize_103 : decode b_Inodes_resize 103 = .ok (.iinc 7 1, 3) := by decide +kernel
theorem d_Inodes_resize_106 : decode b_Inodes_resize 106 = .ok (.goto (-25), 3) := by decide +kernel
theorem d_Inodes_resize_109 : decode b_Inodes_resize 109 = .ok (.aload_n 0, 1) := by decide +kernel
theorem d_Inodes_resize_110 : decode b_Inodes_resize 110 = .ok (.getfield 9, 3) := by decide +kernel
theorem d_Inodes_resize_113 : decode b_Inodes_resize 113 = .ok (.iload_n 1, 1) := by decide +kernel
theorem d_Inodes_resize_114 : decode b_Inodes_resize 114 = .ok (.invokestatic 15, 3) := by decide +kernel
theorem d_Inodes_resize_117 : decode b_Inodes_resize 117 = .ok (.iconst 2, 1) := by decide +kernel
theorem d_Inodes_resize_118 : decode b_Inodes_resize 118 = .ok (.iadd, 1) := by decide +kernel
theorem d_Inodes_resize_119 : decode b_Inodes_resize 119 = .ok (.iload_n 2, 1) := by decide +kernel
theorem d_Inodes_resize_120 : decode b_Inodes_resize 120 = .ok (.invokevirtual 64, 3) := by decide +kernel
theorem d_Inodes_resize_123 : decode b_Inodes_resize 123 = .ok (.iconst 1, 1) := by decide +kernel
theorem d_Inodes_resize_124 : decode b_Inodes_resize 124 = .ok (.ireturn, 1) := by decide +kernel
set_option maxHeartbeats 4000000 in
set_option maxRecDepth 100000 in
theorem c_Inodes_resize (l : Launch) (D : va_G) (g : Nat → Nat) (k : Nat → ClassId) (L : Nat) (hL0 : 96 ≤ L) (hL : L ≤ 768) (u : DSt) (i n : Nat) (hn0 : n < 1000000) : MuI l y_Inodes_resize w_Inodes_resize ({ frames := 5, cells := 0, slots := 0, locals := 152 }) [.ref (g 6), .int (nI i), .int (nI n)] D cl5 (tyC k) (wI g k L u) (wI g k L ((rsz L u i n).2)) (zI (rsz L u i n).1) := by
  intro sz
  refine Met.ofW (cc := b_Inodes_resize) (maxL := 8) (ret := (some .boolean)) (by decide) rfl ?_
  intro p e s m args below meth c s₁ B hml hv
  obtain ⟨rfl, hsz, hP, hK, hD0⟩ := hv
  have hx := B.exec
  have hb := B.bytes
  have hr := B.returns
  have hts := atoms_spec (ws := w_Inodes_resize) B.pre
  have hTB : ∀ w ∈ lw_tb, w.before _ s = true := fun w h => hts w (List.mem_cons_of_mem _ h)
  have hown : s.vm.findClass R_Inodes = some m.cls := findClass_of_methodNamed B.named
  have hlocks := B.notSynchronized
  subst hsz
  have hD := hD0.self (sz := s.heap.size)
  generalize hAe : va_A (wI g k L u) s.heap.size = A at hD ⊢
  have hA : ∀ q : Nat, s.heap.size ≤ q → A q := fun q h => by rw [← hAe]; exact Or.inr h
  have hS : va_S A s.heap s.heap [] := va_S.rf
  have hl := lv_entry ([.ref (g 6), .int (nI i), .int (nI n)]) (n := 8) (Nat.le_of_ble_eq_true rfl)
  rw [lg_entry_eq]
  generalize (lg_sl ([.ref (g 6), .int (nI i), .int (nI n)]) ++ List.replicate (8 - (lg_sl ([.ref (g 6), .int (nI i), .int (nI n)])).length) Slot.unset).toArray = ls at hl ⊢
  have hl : lv_has ls 8 [(0, .ref (g 6)), (1, .int (nI i)), (2, .int (nI n))] := hl
  refine lv_aload_n hx hb d_Inodes_resize_0 rfl (lv_at hl 0 rfl) ?_
  refine lv_iload_n hx hb d_Inodes_resize_1 rfl (lv_at hl 1 rfl) ?_
  refine gz_roV (As := [.int (nI i)]) (rest := []) (wc := (wI g k L u)) ⟨hx, hb, hml, hown, hTB⟩ (c_Inodes_size l D g k L hL0 hL u i) (cwV 1 hTB (gd_V k_395 k_353 k_354 k_54 k_355) rfl rfl rfl (by decide +kernel) ⟨Nat.le_of_ble_eq_true rfl, Nat.le_of_ble_eq_true rfl⟩) hK hP [0, 1, 2, 3, 4, 5, 6] rfl 0 rfl rfl rfl hl.1 rfl (Nat.le_of_ble_eq_true rfl) d_Inodes_resize_2 ⟨Nat.zero_le _, Nat.zero_le _⟩ hS (fun H locs hP hS => ?_)
  have := iS_lt L (dNow u) i
  refine lv_istore_n (lv' := [(3, .int (nI (iS L (dNow u) i))), (0, .ref (g 6)), (1, .int (nI i)), (2, .int (nI n))]) hx hb d_Inodes_resize_5 rfl hl (by decide) rfl (fun ls hl => ?_)
  refine lv_iload_n hx hb d_Inodes_resize_6 rfl (lv_at hl 0 rfl) ?_
  refine gz_roS (As := [.int (nI (iS L (dNow u) i))]) (rest := []) ⟨hx, hb, hml, hown, hTB⟩ (c_Inodes_blocksFor l (iS L (dNow u) i) (by omega)) (cwS 1 hTB (gd_S k_396 k_397 k_54 k_398) rfl rfl rfl (by decide +kernel) ⟨Nat.le_of_ble_eq_true rfl, Nat.le_of_ble_eq_true rfl⟩) hP rfl hl.1 rfl (Nat.le_of_ble_eq_true rfl) d_Inodes_resize_7 ⟨Nat.zero_le _, Nat.zero_le _⟩ hS (fun H locs hP hS => ?_)
  have : blk (iS L (dNow u) i) = ((iS L (dNow u) i) + 64 - 1) / 64 := rfl
  refine lv_istore (lv' := [(4, .int (nI (blk (iS L (dNow u) i)))), (3, .int (nI (iS L (dNow u) i))), (0, .ref (g 6)), (1, .int (nI i)), (2, .int (nI n))]) hx hb d_Inodes_resize_10 hl (by decide) rfl (fun ls hl => ?_)
  refine lv_iload_n hx hb d_Inodes_resize_12 rfl (lv_at hl 4 rfl) ?_
  refine gz_roS (As := [.int (nI n)]) (rest := []) ⟨hx, hb, hml, hown, hTB⟩ (c_Inodes_blocksFor l n (by omega)) (cwS 1 hTB (gd_S k_396 k_397 k_54 k_398) rfl rfl rfl (by decide +kernel) ⟨Nat.le_of_ble_eq_true rfl, Nat.le_of_ble_eq_true rfl⟩) hP rfl hl.1 rfl (Nat.le_of_ble_eq_true rfl) d_Inodes_resize_13 ⟨Nat.zero_le _, Nat.zero_le _⟩ hS (fun H locs hP hS => ?_)
  have : blk n = (n + 64 - 1) / 64 := rfl
  refine lv_istore (lv' := [(5, .int (nI (blk n))), (4, .int (nI (blk (iS L (dNow u) i)))), (3, .int (nI (iS L (dNow u) i))), (0, .ref (g 6)), (1, .int (nI i)), (2, .int (nI n))]) hx hb d_Inodes_resize_16 hl (by decide) rfl (fun ls hl => ?_)
  refine lv_iload hx hb d_Inodes_resize_18 (lv_at hl 1 rfl) ?_
  refine lv_istore (lv' := [(6, .int (nI (blk (iS L (dNow u) i)))), (5, .int (nI (blk n))), (4, .int (nI (blk (iS L (dNow u) i)))), (3, .int (nI (iS L (dNow u) i))), (0, .ref (g 6)), (1, .int (nI i)), (2, .int (nI n))]) hx hb d_Inodes_resize_20 hl (by decide) rfl (fun ls hl => ?_)
  refine gz_loop 22 (fun (zz : (Nat × DSt)) H locs ls => match zz with | (m1, v) => va_P D cl5 (wI g k L v) H ∧ va_D A (wI g k L v) ∧ va_S A s.heap H locs ∧ lv_has ls 8 [(0, .ref (g 6)), (1, .int (nI i)), (2, .int (nI n)), (3, .int (nI (iS L (dNow u) i))), (4, .int (nI (blk (iS L (dNow u) i)))), (5, .int (nI (blk n))), (6, .int (nI m1))] ∧ (m1 = blk (iS L (dNow u) i) ∨ m1 ≤ blk n) ∧ (rtG L i (blk n - m1) v = rs1 L u i n) ∧ (m1 ≤ 4000000)) (fun (zz : (Nat × DSt)) => match zz with | (m1, v) => blk n - m1) (fun zz H locs ls hI ih22 => ?_) (blk (iS L (dNow u) i), u) ⟨hP, hD, hS, lv_sub hl [4, 5, 6, 3, 2, 1, 0] rfl, (Or.inl rfl), rfl, (by omega)⟩
  obtain ⟨m1, v⟩ := zz
  obtain ⟨hP, hD, hS, hl, hm0, hm1, hm2⟩ := hI
  refine lv_iload hx hb d_Inodes_resize_22 (lv_at hl 6 rfl) ?_
  refine lv_iload hx hb d_Inodes_resize_24 (lv_at hl 5 rfl) ?_
  refine gz_icmp_ge (tgt := 45) hx hb d_Inodes_resize_26 (by decide) (by omega) (by omega) (fun h26 => ?_) (fun h26 => ?_)
  · rw [show blk n - m1 = 0 by omega] at hm1
    have hm1 : (true, v) = rs1 L u i n := hm1
    have hv1 : (rs1 L u i n).1 = true := by rw [← hm1]
    have hv2 : v = (rs1 L u i n).2 := by rw [← hm1]
    subst hv2
    refine lv_iload hx hb d_Inodes_resize_45 (lv_at hl 4 rfl) ?_
    refine lv_istore (lv' := [(6, .int (nI (blk (iS L (dNow u) i)))), (0, .ref (g 6)), (1, .int (nI i)), (2, .int (nI n)), (3, .int (nI (iS L (dNow u) i))), (4, .int (nI (blk (iS L (dNow u) i)))), (5, .int (nI (blk n)))]) hx hb d_Inodes_resize_47 hl (by decide) rfl (fun ls hl => ?_)
    refine gz_loop 49 (fun (zz : (Nat × DSt)) H locs ls => match zz with | (m2, v) => va_P D cl5 (wI g k L v) H ∧ va_D A (wI g k L v) ∧ va_S A s.heap H locs ∧ lv_has ls 8 [(0, .ref (g 6)), (1, .int (nI i)), (2, .int (nI n)), (3, .int (nI (iS L (dNow u) i))), (4, .int (nI (blk (iS L (dNow u) i)))), (5, .int (nI (blk n))), (6, .int (nI m2))] ∧ (rgG L i (m2 - blk n) v = rs2 L u i n) ∧ (m2 ≤ 4000000)) (fun (zz : (Nat × DSt)) => match zz with | (m2, v) => m2) (fun zz H locs ls hI ih49 => ?_) (blk (iS L (dNow u) i), (rs1 L u i n).2) ⟨hP, hD, hS, lv_sub hl [1, 2, 3, 4, 5, 6, 0] rfl, rfl, (by omega)⟩
    obtain ⟨m2, v⟩ := zz
    obtain ⟨hP, hD, hS, hl, hm3, hm4⟩ := hI
    refine lv_iload hx hb d_Inodes_resize_49 (lv_at hl 6 rfl) ?_
    refine lv_iload hx hb d_Inodes_resize_51 (lv_at hl 5 rfl) ?_
    refine gz_icmp_le (tgt := 67) hx hb d_Inodes_resize_53 (by decide) (by omega) (by omega) (fun h53 => ?_) (fun h53 => ?_)
    · rw [show m2 - blk n = 0 by omega] at hm3
      have hm3 : v = rs2 L u i n := hm3
      subst hm3
      refine lv_iload_n hx hb d_Inodes_resize_67 rfl (lv_at hl 3 rfl) ?_
      refine lv_iload hx hb d_Inodes_resize_68 (lv_at hl 5 rfl) ?_
      refine lv_bipush (v := nI 64) hx hb d_Inodes_resize_70 (by decide +kernel) ?_
      refine gz_imul hx hb d_Inodes_resize_72 ?_
      refine gz_mmin hx hb (hml.trans hl.1.symm) hown (hTB _ k_425) (hTB _ k_426) (hTB _ k_62) (hTB _ k_427) (Nat.le_of_ble_eq_true rfl) (Nat.le_of_ble_eq_true rfl) (Nat.zero_le _) (Nat.zero_le _) (by omega) (by omega) d_Inodes_resize_73 ?_
      refine lv_istore (lv' := [(6, .int (nI (min (iS L (dNow u) i) ((blk n) * 64)))), (0, .ref (g 6)), (1, .int (nI i)), (2, .int (nI n)), (3, .int (nI (iS L (dNow u) i))), (4, .int (nI (blk (iS L (dNow u) i)))), (5, .int (nI (blk n)))]) hx hb d_Inodes_resize_76 hl (by decide) rfl (fun ls hl => ?_)
      refine lv_iload_n hx hb d_Inodes_resize_78 rfl (lv_at hl 3 rfl) ?_
      refine lv_istore (lv' := [(7, .int (nI n)), (6, .int (nI (min (iS L (dNow u) i) ((blk n) * 64)))), (0, .ref (g 6)), (1, .int (nI i)), (2, .int (nI n)), (3, .int (nI (iS L (dNow u) i))), (4, .int (nI (blk (iS L (dNow u) i)))), (5, .int (nI (blk n)))]) hx hb d_Inodes_resize_79 hl (by decide) rfl (fun ls hl => ?_)
      refine gz_loop 81 (fun (zz : (Nat × DSt)) H locs ls => match zz with | (t, v) => va_P D cl5 (wI g k L v) H ∧ va_D A (wI g k L v) ∧ va_S A s.heap H locs ∧ lv_has ls 8 [(0, .ref (g 6)), (1, .int (nI i)), (2, .int (nI n)), (6, .int (nI (min (iS L (dNow u) i) (blk n * 64)))), (7, .int (nI t))] ∧ (rzG L i (min (iS L (dNow u) i) (blk n * 64) - t) t v = rs3 L u i n) ∧ (n ≤ t) ∧ (t ≤ 4000000)) (fun (zz : (Nat × DSt)) => match zz with | (t, v) => min (iS L (dNow u) i) (blk n * 64) - t) (fun zz H locs ls hI ih81 => ?_) (n, rs2 L u i n) ⟨hP, hD, hS, lv_sub hl [2, 3, 4, 1, 0] rfl, rfl, (by omega), (by omega)⟩
      obtain ⟨t, v⟩ := zz
      obtain ⟨hP, hD, hS, hl, ht1, ht2, ht3⟩ := hI
      refine lv_iload hx hb d_Inodes_resize_81 (lv_at hl 4 rfl) ?_
      refine lv_iload hx hb d_Inodes_resize_83 (lv_at hl 3 rfl) ?_
      refine gz_icmp_ge (tgt := 109) hx hb d_Inodes_resize_85 (by decide) (by omega) (by omega) (fun h85 => ?_) (fun h85 => ?_)
      · rw [show min (iS L (dNow u) i) (blk n * 64) - t = 0 by omega] at ht1
        have ht1 : v = rs3 L u i n := ht1
        subst ht1
        refine lv_aload_n hx hb d_Inodes_resize_109 rfl (lv_at hl 0 rfl) ?_
        refine va_get (D := D) (ci := 2) (v := .ref (g 0)) (C := R_Inodes) (T := T_Inodes) (N := 1) hx hb hTB in_Inodes hown hK hP 0 rfl rfl 0 (by decide) (hTB _ k_122) (fun _ h9 => h9) rfl d_Inodes_resize_110 ?_
        refine lv_iload_n hx hb d_Inodes_resize_113 rfl (lv_at hl 1 rfl) ?_
        refine gz_roS (As := [.int (nI i)]) (rest := [.ref (g 0)]) ⟨hx, hb, hml, hown, hTB⟩ (c_Inodes_inodePlace l i) (cwS 1 hTB (gd_S k_147 k_148 k_54 k_149) rfl rfl rfl (by decide +kernel) ⟨Nat.le_of_ble_eq_true rfl, Nat.le_of_ble_eq_true rfl⟩) hP rfl hl.1 rfl (Nat.le_of_ble_eq_true rfl) d_Inodes_resize_114 ⟨Nat.zero_le _, Nat.zero_le _⟩ hS (fun H locs hP hS => ?_)
        refine lv_iconst (v := nI 2) hx hb d_Inodes_resize_117 (by decide +kernel) ?_
        refine gz_iadd hx hb d_Inodes_resize_118 ?_
        refine lv_iload_n hx hb d_Inodes_resize_119 rfl (lv_at hl 2 rfl) ?_
        refine gz_muV (As := [.int (nI ((1600 + 32 * i) + 2)), .int (nI n)]) (rest := []) (wc := (wD g k L (rs3 L u i n))) (w1 := (wD g k L (setP L (rs3 L u i n) (nI ((1600 + 32 * i) + 2)) (nI n)))) (wr := (hI g)) ⟨hx, hb, hml, hown, hTB⟩ (c_Disk_setPair l D g k L hL0 hL (rs3 L u i n) (nI ((1600 + 32 * i) + 2)) (nI n)) (cwV 2 hTB (gd_V k_412 k_413 k_414 k_52 k_415) rfl rfl rfl (by decide +kernel) ⟨Nat.le_of_ble_eq_true rfl, Nat.le_of_ble_eq_true rfl⟩) hK hP hD hA [1, 2, 3, 4, 5, 6] [0] rfl rfl (by decide) rfl (by decide) (by decide) 1 rfl rfl rfl hl.1 rfl (Nat.le_of_ble_eq_true rfl) d_Inodes_resize_120 ⟨Nat.zero_le _, Nat.zero_le _⟩ hS (fun H locs hP hD hS => ?_)
        have hP : va_P D cl5 (wI g k L (setP L (rs3 L u i n) (nI ((1600 + 32 * i) + 2)) (nI n))) H := hP
        have hD : va_D A (wI g k L (setP L (rs3 L u i n) (nI ((1600 + 32 * i) + 2)) (nI n))) := hD
        refine lv_iconst (v := nI 1) hx hb d_Inodes_resize_123 (by decide +kernel) ?_
        have hP9 : va_P D cl5 (wI g k L ((rsz L u i n).2)) H := (by unfold rsz; rw [if_pos hv1]; exact hP)
        have hD9 : va_D A (wI g k L ((rsz L u i n).2)) := (by unfold rsz; rw [if_pos hv1]; exact hD)
        exact W.zret (v := nI 1) (ty := .boolean) hx hb hr (by decide +kernel) (fun tt9 ht9 hW9 => ⟨⟨_, (), rfl, (by unfold rsz; rw [if_pos hv1]; rfl), ⟨by rw [ht9]; exact hP9, hD9⟩⟩, hS.F ht9⟩) hS.2.2 d_Inodes_resize_124
      · refine lv_aload_n hx hb d_Inodes_resize_88 rfl (lv_at hl 0 rfl) ?_
        refine va_get (D := D) (ci := 2) (v := .ref (g 0)) (C := R_Inodes) (T := T_Inodes) (N := 1) hx hb hTB in_Inodes hown hK hP 0 rfl rfl 0 (by decide) (hTB _ k_122) (fun _ h9 => h9) rfl d_Inodes_resize_89 ?_
        refine lv_aload_n hx hb d_Inodes_resize_92 rfl (lv_at hl 0 rfl) ?_
        refine lv_iload_n hx hb d_Inodes_resize_93 rfl (lv_at hl 1 rfl) ?_
        refine lv_iload hx hb d_Inodes_resize_94 (lv_at hl 4 rfl) ?_
        refine gz_roV (As := [.int (nI i), .int (nI t)]) (rest := [.ref (g 0)]) (wc := (wI g k L v)) ⟨hx, hb, hml, hown, hTB⟩ (c_Inodes_placeOf l D g k L hL0 hL v i t (by omega)) (cwV 2 hTB (gd_V k_428 k_362 k_363 k_54 k_364) rfl rfl rfl (by decide +kernel) ⟨Nat.le_of_ble_eq_true rfl, Nat.le_of_ble_eq_true rfl⟩) hK hP [0, 1, 2, 3, 4, 5, 6] rfl 0 rfl rfl rfl hl.1 rfl (Nat.le_of_ble_eq_true rfl) d_Inodes_resize_96 ⟨Nat.zero_le _, Nat.zero_le _⟩ hS (fun H locs hP hS => ?_)
        refine lv_iconst (v := nI 0) hx hb d_Inodes_resize_99 (by decide +kernel) ?_
        refine gz_muV (As := [.int (plc L (dNow v) i t), .int (nI 0)]) (rest := []) (wc := (wD g k L v)) (w1 := (wD g k L (setB L v (plc L (dNow v) i t) (nI 0)))) (wr := (hI g)) ⟨hx, hb, hml, hown, hTB⟩ (c_Disk_setByte l D g k L hL0 hL v (plc L (dNow v) i t) (nI 0)) (cwV 2 hTB (gd_V k_150 k_151 k_152 k_52 k_153) rfl rfl rfl (by decide +kernel) ⟨Nat.le_of_ble_eq_true rfl, Nat.le_of_ble_eq_true rfl⟩) hK hP hD hA [1, 2, 3, 4, 5, 6] [0] rfl rfl (by decide) rfl (by decide) (by decide) 1 rfl rfl rfl hl.1 rfl (Nat.le_of_ble_eq_true rfl) d_Inodes_resize_100 ⟨Nat.zero_le _, Nat.zero_le _⟩ hS (fun H locs hP hD hS => ?_)
        have hP : va_P D cl5 (wI g k L (setB L v (plc L (dNow v) i t) (nI 0))) H := hP
        have hD : va_D A (wI g k L (setB L v (plc L (dNow v) i t) (nI 0))) := hD
        refine lv_iinc (v := nI (t + 1)) (lv' := [(7, .int (nI (t + 1))), (0, .ref (g 6)), (1, .int (nI i)), (2, .int (nI n)), (6, .int (nI (min (iS L (dNow u) i) (blk n * 64))))]) hx hb d_Inodes_resize_103 hl (k := 4) rfl (nI_add t 1) (by decide) rfl (fun ls hl => ?_)
        refine lv_goto (tgt := 81) hx hb d_Inodes_resize_106 (by decide) ?_
        exact ih81 (t + 1, setB L v (plc L (dNow v) i t) (nI 0)) _ _ _ (by first | omega | (dsimp only; omega)) ⟨hP, hD, hS, lv_sub hl [1, 2, 3, 4, 0] rfl, (by rw [← ht1, show min (iS L (dNow u) i) (blk n * 64) - t = (min (iS L (dNow u) i) (blk n * 64) - (t + 1)) + 1 by omega, rzG]), (by omega), (by omega)⟩
    · refine lv_aload_n hx hb d_Inodes_resize_56 rfl (lv_at hl 0 rfl) ?_
      refine lv_iload_n hx hb d_Inodes_resize_57 rfl (lv_at hl 1 rfl) ?_
      refine gz_muV (As := [.int (nI i)]) (rest := []) (wc := (wI g k L v)) (w1 := (wI g k L (gvI L v i))) (wr := ([])) ⟨hx, hb, hml, hown, hTB⟩ (c_Inodes_giveBlockBack l D g k L hL0 hL v i) (cwV 1 hTB (gd_V k_417 k_419 k_10 k_54 k_420) rfl rfl rfl (by decide +kernel) ⟨Nat.le_of_ble_eq_true rfl, Nat.le_of_ble_eq_true rfl⟩) hK hP hD hA [0, 1, 2, 3, 4, 5, 6] [] rfl rfl (by decide) rfl (by decide) (by decide) 0 rfl rfl rfl hl.1 rfl (Nat.le_of_ble_eq_true rfl) d_Inodes_resize_58 ⟨Nat.zero_le _, Nat.zero_le _⟩ hS (fun H locs hP hD hS => ?_)
      have hP : va_P D cl5 (wI g k L (gvI L v i)) H := hP
      have hD : va_D A (wI g k L (gvI L v i)) := hD
      refine lv_iinc (v := nI (m2 - 1)) (lv' := [(6, .int (nI (m2 - 1))), (0, .ref (g 6)), (1, .int (nI i)), (2, .int (nI n)), (3, .int (nI (iS L (dNow u) i))), (4, .int (nI (blk (iS L (dNow u) i)))), (5, .int (nI (blk n)))]) hx hb d_Inodes_resize_61 hl (k := 6) rfl (gz_dec (k := 1) (by omega)) (by decide) rfl (fun ls hl => ?_)
      refine lv_goto (tgt := 49) hx hb d_Inodes_resize_64 (by decide) ?_
      exact ih49 (m2 - 1, gvI L v i) _ _ _ (by first | omega | (dsimp only; omega)) ⟨hP, hD, hS, lv_sub hl [1, 2, 3, 4, 5, 6, 0] rfl, (by rw [← hm3, show m2 - blk n = (m2 - 1 - blk n) + 1 by omega, rgG]), (by omega)⟩
  · refine lv_aload_n hx hb d_Inodes_resize_29 rfl (lv_at hl 0 rfl) ?_
    refine lv_iload_n hx hb d_Inodes_resize_30 rfl (lv_at hl 1 rfl) ?_
    refine gz_muI (As := [.int (nI i)]) (rest := []) (wc := (wI g k L v)) (w1 := (wI g k L ((tkI L v i).2))) (wr := ([])) ⟨hx, hb, hml, hown, hTB⟩ (c_Inodes_takeBlock l D g k L hL0 hL v i) (cwV 1 hTB (gd_V k_399 k_401 k_9 k_54 k_402) rfl rfl rfl (by decide +kernel) ⟨Nat.le_of_ble_eq_true rfl, Nat.le_of_ble_eq_true rfl⟩) hK hP hD hA [0, 1, 2, 3, 4, 5, 6] [] rfl rfl (by decide) rfl (by decide) (by decide) 0 rfl rfl rfl hl.1 rfl (Nat.le_of_ble_eq_true rfl) d_Inodes_resize_31 ⟨Nat.zero_le _, Nat.zero_le _⟩ hS (fun H locs hP hD hS => ?_)
    have hP : va_P D cl5 (wI g k L ((tkI L v i).2)) H := hP
    have hD : va_D A (wI g k L ((tkI L v i).2)) := hD
    refine gz_ifz_ne (tgt := 39) hx hb d_Inodes_resize_34 (by decide) (fun h34 => ?_) (fun h34 => ?_)
    · refine lv_iinc (v := nI (m1 + 1)) (lv' := [(6, .int (nI (m1 + 1))), (0, .ref (g 6)), (1, .int (nI i)), (2, .int (nI n)), (3, .int (nI (iS L (dNow u) i))), (4, .int (nI (blk (iS L (dNow u) i)))), (5, .int (nI (blk n)))]) hx hb d_Inodes_resize_39 hl (k := 6) rfl (nI_add m1 1) (by decide) rfl (fun ls hl => ?_)
      refine lv_goto (tgt := 22) hx hb d_Inodes_resize_42 (by decide) ?_
      exact ih22 (m1 + 1, (tkI L v i).2) _ _ _ (by first | omega | (dsimp only; omega)) ⟨hP, hD, hS, lv_sub hl [1, 2, 3, 4, 5, 6, 0] rfl, (by omega), (by rw [← hm1, show blk n - m1 = (blk n - (m1 + 1)) + 1 by omega, rtG, if_pos h34]), (by omega)⟩
    · have hf : rs1 L u i n = (false, (tkI L v i).2) := by rw [← hm1, show blk n - m1 = (blk n - (m1 + 1)) + 1 by omega, rtG, if_neg (by rw [h34]; decide)]
      refine lv_iconst (v := nI 0) hx hb d_Inodes_resize_37 (by decide +kernel) ?_
      have hP9 : va_P D cl5 (wI g k L ((rsz L u i n).2)) H := (by unfold rsz; rw [hf]; exact hP)
      have hD9 : va_D A (wI g k L ((rsz L u i n).2)) := (by unfold rsz; rw [hf]; exact hD)
      exact W.zret (v := nI 0) (ty := .boolean) hx hb hr (by decide +kernel) (fun tt9 ht9 hW9 => ⟨⟨_, (), rfl, (by unfold rsz; rw [hf]; rfl), ⟨by rw [ht9]; exact hP9, hD9⟩⟩, hS.F ht9⟩) hS.2.2 d_Inodes_resize_38
theorem d_Inodes_release_0 : decode b_Inodes_release 0 = .ok (.aload_n 0, 1) := by decide +kernel
theorem d_Inodes_release_1 : decode b_Inodes_release 1 = .ok (.iload_n 1, 1) := by decide +kernel
theorem d_Inodes_release_2 : decode b_Inodes_release 2 = .ok (.iconst 0, 1) := by decide +kernel
theorem d_Inodes_release_3 : decode b_Inodes_release 3 = .ok (.invokevirtual 38, 3) := by decide +kernel
theorem d_Inodes_release_6 : decode b_Inodes_release 6 = .ok (.pop, 1) := by decide +kernel
theorem d_Inodes_release_7 : decode b_Inodes_release 7 = .ok (.aload_n 0, 1) := by decide +kernel
theorem d_Inodes_release_8 : decode b_Inodes_release 8 = .ok (.getfield 9, 3) := by decide +kernel
theorem d_Inodes_release_11 : decode b_Inodes_release 11 = .ok (.iload_n 1, 1) := by decide +kernel
theorem d_Inodes_release_12 : decode b_Inodes_release 12 = .ok (.invokestatic 15, 3) := by decide +kernel
theorem d_Inodes_release_15 : decode b_Inodes_release 15 = .ok (.iconst 0, 1) := by decide +kernel
theorem d_Inodes_release_16 : decode b_Inodes_release 16 = .ok (.invokevirtual 34, 3) := by decide +kernel
theorem d_Inodes_release_19 : decode b_Inodes_release 19 = .ok (.return_, 1) := by decide +kernel
set_option maxHeartbeats 4000000 in
set_option maxRecDepth 100000 in
theorem c_Inodes_release (l : Launch) (D : va_G) (g : Nat → Nat) (k : Nat → ClassId) (L : Nat) (hL0 : 96 ≤ L) (hL : L ≤ 768) (u : DSt) (i : Nat) : MuV l y_Inodes_release w_Inodes_release ({ frames := 6, cells := 0, slots := 0, locals := 179 }) [.ref (g 6), .int (nI i)] D cl5 (tyC k) (wI g k L u) (wI g k L (rel L u i)) := by
  intro sz
  refine Met.ofW (cc := b_Inodes_release) (maxL := 2) (ret := none) (by decide) rfl ?_
  intro p e s m args below meth c s₁ B hml hv
  obtain ⟨rfl, hsz, hP, hK, hD0⟩ := hv
  have hx := B.exec
  have hb := B.bytes
  have hr := B.returns
  have hts := atoms_spec (ws := w_Inodes_release) B.pre
  have hTB : ∀ w ∈ lw_tb, w.before _ s = true := fun w h => hts w (List.mem_cons_of_mem _ h)
  have hown : s.vm.findClass R_Inodes = some m.cls := findClass_of_methodNamed B.named
  have hlocks := B.notSynchronized
  subst hsz
  have hD := hD0.self (sz := s.heap.size)
  generalize hAe : va_A (wI g k L u) s.heap.size = A at hD ⊢
  have hA : ∀ q : Nat, s.heap.size ≤ q → A q := fun q h => by rw [← hAe]; exact Or.inr h
  have hS : va_S A s.heap s.heap [] := va_S.rf
  have hl := lv_entry ([.ref (g 6), .int (nI i)]) (n := 2) (Nat.le_of_ble_eq_true rfl)
  rw [lg_entry_eq]
  generalize (lg_sl ([.ref (g 6), .int (nI i)]) ++ List.replicate (2 - (lg_sl ([.ref (g 6), .int (nI i)])).length) Slot.unset).toArray = ls at hl ⊢
  have hl : lv_has ls 2 [(0, .ref (g 6)), (1, .int (nI i))] := hl
  refine lv_aload_n hx hb d_Inodes_release_0 rfl (lv_at hl 0 rfl) ?_
  refine lv_iload_n hx hb d_Inodes_release_1 rfl (lv_at hl 1 rfl) ?_
  refine lv_iconst (v := nI 0) hx hb d_Inodes_release_2 (by decide +kernel) ?_
  refine gz_muI (As := [.int (nI i), .int (nI 0)]) (rest := []) (wc := (wI g k L u)) (w1 := (wI g k L ((rsz L u i 0).2))) (wr := ([])) ⟨hx, hb, hml, hown, hTB⟩ (c_Inodes_resize l D g k L hL0 hL u i 0 (by omega)) (cwV 2 hTB (gd_V k_538 k_392 k_393 k_54 k_394) rfl rfl rfl (by decide +kernel) ⟨Nat.le_of_ble_eq_true rfl, Nat.le_of_ble_eq_true rfl⟩) hK hP hD hA [0, 1, 2, 3, 4, 5, 6] [] rfl rfl (by decide) rfl (by decide) (by decide) 0 rfl rfl rfl hl.1 rfl (Nat.le_of_ble_eq_true rfl) d_Inodes_release_3 ⟨Nat.zero_le _, Nat.zero_le _⟩ hS (fun H locs hP hD hS => ?_)
  have hP : va_P D cl5 (wI g k L ((rsz L u i 0).2)) H := hP
  have hD : va_D A (wI g k L ((rsz L u i 0).2)) := hD
  refine lv_pop hx hb d_Inodes_release_6 rfl ?_
  refine lv_aload_n hx hb d_Inodes_release_7 rfl (lv_at hl 0 rfl) ?_
  refine va_get (D := D) (ci := 2) (v := .ref (g 0)) (C := R_Inodes) (T := T_Inodes) (N := 1) hx hb hTB in_Inodes hown hK hP 0 rfl rfl 0 (by decide) (hTB _ k_122) (fun _ h9 => h9) rfl d_Inodes_release_8 ?_
  refine lv_iload_n hx hb d_Inodes_release_11 rfl (lv_at hl 1 rfl) ?_
  refine gz_roS (As := [.int (nI i)]) (rest := [.ref (g 0)]) ⟨hx, hb, hml, hown, hTB⟩ (c_Inodes_inodePlace l i) (cwS 1 hTB (gd_S k_147 k_148 k_54 k_149) rfl rfl rfl (by decide +kernel) ⟨Nat.le_of_ble_eq_true rfl, Nat.le_of_ble_eq_true rfl⟩) hP rfl hl.1 rfl (Nat.le_of_ble_eq_true rfl) d_Inodes_release_12 ⟨Nat.zero_le _, Nat.zero_le _⟩ hS (fun H locs hP hS => ?_)
  refine lv_iconst (v := nI 0) hx hb d_Inodes_release_15 (by decide +kernel) ?_
  refine gz_muV (As := [.int (nI (1600 + 32 * i)), .int (nI 0)]) (rest := []) (wc := (wD g k L ((rsz L u i 0).2))) (w1 := (wD g k L (setB L ((rsz L u i 0).2) (nI (1600 + 32 * i)) (nI 0)))) (wr := (hI g)) ⟨hx, hb, hml, hown, hTB⟩ (c_Disk_setByte l D g k L hL0 hL ((rsz L u i 0).2) (nI (1600 + 32 * i)) (nI 0)) (cwV 2 hTB (gd_V k_150 k_151 k_152 k_52 k_153) rfl rfl rfl (by decide +kernel) ⟨Nat.le_of_ble_eq_true rfl, Nat.le_of_ble_eq_true rfl⟩) hK hP hD hA [1, 2, 3, 4, 5, 6] [0] rfl rfl (by decide) rfl (by decide) (by decide) 1 rfl rfl rfl hl.1 rfl (Nat.le_of_ble_eq_true rfl) d_Inodes_release_16 ⟨Nat.zero_le _, Nat.zero_le _⟩ hS (fun H locs hP hD hS => ?_)
  have hP : va_P D cl5 (wI g k L (setB L ((rsz L u i 0).2) (nI (1600 + 32 * i)) (nI 0))) H := hP
  have hD : va_D A (wI g k L (setB L ((rsz L u i 0).2) (nI (1600 + 32 * i)) (nI 0))) := hD
  have hP9 : va_P D cl5 (wI g k L (rel L u i)) H := hP
  have hD9 : va_D A (wI g k L (rel L u i)) := hD
  exact W.vret hx hb hr (fun tt9 ht9 hW9 => ⟨⟨(), rfl, trivial, ⟨by rw [ht9]; exact hP9, hD9⟩⟩, hS.F ht9⟩) hS.2.2 d_Inodes_release_19
