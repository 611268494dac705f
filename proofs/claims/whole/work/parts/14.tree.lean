theorem d_Tree_checkInode_0 : decode b_Tree_checkInode 0 = .ok (.iload_n 0, 1) := by decide +kernel
theorem d_Tree_checkInode_1 : decode b_Tree_checkInode 1 = .ok (.ifCond .lt 9, 3) := by decide +kernel
theorem d_Tree_checkInode_4 : decode b_Tree_checkInode 4 = .ok (.iload_n 0, 1) := by decide +kernel
theorem d_Tree_checkInode_5 : decode b_Tree_checkInode 5 = .ok (.bipush 64, 2) := by decide +kernel
theorem d_Tree_checkInode_7 : decode b_Tree_checkInode 7 = .ok (.if_icmp .lt 13, 3) := by decide +kernel
theorem d_Tree_checkInode_10 : decode b_Tree_checkInode 10 = .ok (.new 54, 3) := by decide +kernel
theorem d_Tree_checkInode_13 : decode b_Tree_checkInode 13 = .ok (.dup, 1) := by decide +kernel
theorem d_Tree_checkInode_14 : decode b_Tree_checkInode 14 = .ok (.ldc 188, 2) := by decide +kernel
theorem d_Tree_checkInode_16 : decode b_Tree_checkInode 16 = .ok (.invokespecial 58, 3) := by decide +kernel
theorem d_Tree_checkInode_19 : decode b_Tree_checkInode 19 = .ok (.athrow, 1) := by decide +kernel
theorem d_Tree_checkInode_20 : decode b_Tree_checkInode 20 = .ok (.return_, 1) := by decide +kernel
set_option maxHeartbeats 4000000 in
set_option maxRecDepth 100000 in
theorem c_Tree_checkInode (l : Launch) (i : Nat) (hi0 : i < 64) : RoU l y_Tree_checkInode w_Tree_checkInode ({ frames := 7, cells := 0, slots := 0, locals := 110 }) [.int (nI i)] (fun _ => True) := by
  refine Met.ofW (cc := b_Tree_checkInode) (maxL := 1) (ret := none) (by decide) rfl ?_
  intro p e s m args below meth c s₁ B hml hv
  obtain ⟨rfl, -⟩ := hv
  have hx := B.exec
  have hb := B.bytes
  have hr := B.returns
  have hts := atoms_spec (ws := w_Tree_checkInode) B.pre
  have hTB : ∀ w ∈ lw_tb, w.before _ s = true := fun w h => hts w (List.mem_cons_of_mem _ h)
  have hown : s.vm.findClass R_Tree = some m.cls := findClass_of_methodNamed B.named
  have hlocks := B.notSynchronized
  have hS : va_S (fun _ => False) s.heap s.heap [] := va_S.rf
  have hP : va_P (fun _ => 0, fun _ _ => 0) cl5 [] s.heap := fun k q h => by simp at h
  have hl := lv_entry ([.int (nI i)]) (n := 1) (Nat.le_of_ble_eq_true rfl)
  rw [lg_entry_eq]
  generalize (lg_sl ([.int (nI i)]) ++ List.replicate (1 - (lg_sl ([.int (nI i)])).length) Slot.unset).toArray = ls at hl ⊢
  have hl : lv_has ls 1 [(0, .int (nI i))] := hl
  refine lv_iload_n hx hb d_Tree_checkInode_0 rfl (lv_at hl 0 rfl) ?_
  refine gz_if_lt (tgt := 10) hx hb d_Tree_checkInode_1 (by decide) (by omega) ?_
  refine lv_iload_n hx hb d_Tree_checkInode_4 rfl (lv_at hl 0 rfl) ?_
  refine lv_bipush (v := nI 64) hx hb d_Tree_checkInode_5 (by decide +kernel) ?_
  refine gz_icmp_lt (tgt := 20) hx hb d_Tree_checkInode_7 (by decide) (by omega) (by omega) (fun h7 => ?_) (fun h7 => ?_)
  · exact W.vret hx hb hr (fun tt9 ht9 hW9 => ⟨⟨(), rfl, trivial, trivial⟩, hS.F ht9⟩) hS.2.2 d_Tree_checkInode_20
  · exact absurd h7 (by omega)
theorem d_Tree_checkName_0 : decode b_Tree_checkName 0 = .ok (.iload_n 0, 1) := by decide +kernel
theorem d_Tree_checkName_1 : decode b_Tree_checkName 1 = .ok (.iconst 1, 1) := by decide +kernel
theorem d_Tree_checkName_2 : decode b_Tree_checkName 2 = .ok (.if_icmp .lt 9, 3) := by decide +kernel
theorem d_Tree_checkName_5 : decode b_Tree_checkName 5 = .ok (.iload_n 0, 1) := by decide +kernel
theorem d_Tree_checkName_6 : decode b_Tree_checkName 6 = .ok (.ldc 190, 2) := by decide +kernel
theorem d_Tree_checkName_8 : decode b_Tree_checkName 8 = .ok (.if_icmp .le 13, 3) := by decide +kernel
theorem d_Tree_checkName_11 : decode b_Tree_checkName 11 = .ok (.new 54, 3) := by decide +kernel
theorem d_Tree_checkName_14 : decode b_Tree_checkName 14 = .ok (.dup, 1) := by decide +kernel
theorem d_Tree_checkName_15 : decode b_Tree_checkName 15 = .ok (.ldc 191, 2) := by decide +kernel
theorem d_Tree_checkName_17 : decode b_Tree_checkName 17 = .ok (.invokespecial 58, 3) := by decide +kernel
theorem d_Tree_checkName_20 : decode b_Tree_checkName 20 = .ok (.athrow, 1) := by decide +kernel
theorem d_Tree_checkName_21 : decode b_Tree_checkName 21 = .ok (.return_, 1) := by decide +kernel
set_option maxHeartbeats 4000000 in
set_option maxRecDepth 100000 in
theorem c_Tree_checkName (l : Launch) (w : Nat) (hw1 : 1 ≤ w) (hw2 : w ≤ 65535) : RoU l y_Tree_checkName w_Tree_checkName ({ frames := 7, cells := 0, slots := 0, locals := 110 }) [.int (nI w)] (fun _ => True) := by
  refine Met.ofW (cc := b_Tree_checkName) (maxL := 1) (ret := none) (by decide) rfl ?_
  intro p e s m args below meth c s₁ B hml hv
  obtain ⟨rfl, -⟩ := hv
  have hx := B.exec
  have hb := B.bytes
  have hr := B.returns
  have hts := atoms_spec (ws := w_Tree_checkName) B.pre
  have hTB : ∀ w ∈ lw_tb, w.before _ s = true := fun w h => hts w (List.mem_cons_of_mem _ h)
  have hown : s.vm.findClass R_Tree = some m.cls := findClass_of_methodNamed B.named
  have hlocks := B.notSynchronized
  have hS : va_S (fun _ => False) s.heap s.heap [] := va_S.rf
  have hP : va_P (fun _ => 0, fun _ _ => 0) cl5 [] s.heap := fun k q h => by simp at h
  have hl := lv_entry ([.int (nI w)]) (n := 1) (Nat.le_of_ble_eq_true rfl)
  rw [lg_entry_eq]
  generalize (lg_sl ([.int (nI w)]) ++ List.replicate (1 - (lg_sl ([.int (nI w)])).length) Slot.unset).toArray = ls at hl ⊢
  have hl : lv_has ls 1 [(0, .int (nI w))] := hl
  refine lv_iload_n hx hb d_Tree_checkName_0 rfl (lv_at hl 0 rfl) ?_
  refine lv_iconst (v := nI 1) hx hb d_Tree_checkName_1 (by decide +kernel) ?_
  refine gz_icmp_lt (tgt := 11) hx hb d_Tree_checkName_2 (by decide) (by omega) (by omega) (fun h2 => ?_) (fun h2 => ?_)
  · exact absurd h2 (by omega)
  · refine lv_iload_n hx hb d_Tree_checkName_5 rfl (lv_at hl 0 rfl) ?_
    refine lv_ldc (v := nI 65535) hx hb hown (hTB _ k_334) d_Tree_checkName_6 ?_
    refine gz_icmp_le (tgt := 21) hx hb d_Tree_checkName_8 (by decide) (by omega) (by omega) (fun h8 => ?_) (fun h8 => ?_)
    · exact W.vret hx hb hr (fun tt9 ht9 hW9 => ⟨⟨(), rfl, trivial, trivial⟩, hS.F ht9⟩) hS.2.2 d_Tree_checkName_21
    · exact absurd h8 (by omega)
theorem d_Tree_kindFault_0 : decode b_Tree_kindFault 0 = .ok (.aload_n 0, 1) := by decide +kernel
theorem d_Tree_kindFault_1 : decode b_Tree_kindFault 1 = .ok (.getfield 23, 3) := by decide +kernel
theorem d_Tree_kindFault_4 : decode b_Tree_kindFault 4 = .ok (.iload_n 1, 1) := by decide +kernel
theorem d_Tree_kindFault_5 : decode b_Tree_kindFault 5 = .ok (.invokevirtual 152, 3) := by decide +kernel
theorem d_Tree_kindFault_8 : decode b_Tree_kindFault 8 = .ok (.istore_n 3, 1) := by decide +kernel
theorem d_Tree_kindFault_9 : decode b_Tree_kindFault 9 = .ok (.iload_n 3, 1) := by decide +kernel
theorem d_Tree_kindFault_10 : decode b_Tree_kindFault 10 = .ok (.ifCond .ne 5, 3) := by decide +kernel
theorem d_Tree_kindFault_13 : decode b_Tree_kindFault 13 = .ok (.iconst (-1), 1) := by decide +kernel
theorem d_Tree_kindFault_14 : decode b_Tree_kindFault 14 = .ok (.ireturn, 1) := by decide +kernel
theorem d_Tree_kindFault_15 : decode b_Tree_kindFault 15 = .ok (.iload_n 3, 1) := by decide +kernel
theorem d_Tree_kindFault_16 : decode b_Tree_kindFault 16 = .ok (.iload_n 2, 1) := by decide +kernel
theorem d_Tree_kindFault_17 : decode b_Tree_kindFault 17 = .ok (.if_icmp .ne 7, 3) := by decide +kernel
theorem d_Tree_kindFault_20 : decode b_Tree_kindFault 20 = .ok (.iconst 0, 1) := by decide +kernel
theorem d_Tree_kindFault_21 : decode b_Tree_kindFault 21 = .ok (.goto 5, 3) := by decide +kernel
theorem d_Tree_kindFault_24 : decode b_Tree_kindFault 24 = .ok (.bipush (-5), 2) := by decide +kernel
theorem d_Tree_kindFault_26 : decode b_Tree_kindFault 26 = .ok (.ireturn, 1) := by decide +kernel
set_option maxHeartbeats 4000000 in
set_option maxRecDepth 100000 in
theorem c_Tree_kindFault (l : Launch) (D : va_G) (g : Nat → Nat) (k : Nat → ClassId) (L : Nat) (hL0 : 96 ≤ L) (hL : L ≤ 768) (u : DSt) (f0 : Nat → Int32) (tl : Nat) (tp : Nat → Int32) (i c0 : Nat) (hc0 : c0 < 256) : RoI l y_Tree_kindFault w_Tree_kindFault ({ frames := 2, cells := 0, slots := 0, locals := 42 }) [.ref (g 9), .int (nI i), .int (nI c0)] (RoP D cl5 (tyC k) (wT g k L u f0 tl tp)) (kfl (iK L (dNow u) i) c0) := by
  refine Met.ofW (cc := b_Tree_kindFault) (maxL := 4) (ret := (some .int)) (by decide) rfl ?_
  intro p e s m args below meth c s₁ B hml hv
  obtain ⟨rfl, hP, hK⟩ := hv
  have hx := B.exec
  have hb := B.bytes
  have hr := B.returns
  have hts := atoms_spec (ws := w_Tree_kindFault) B.pre
  have hTB : ∀ w ∈ lw_tb, w.before _ s = true := fun w h => hts w (List.mem_cons_of_mem _ h)
  have hown : s.vm.findClass R_Tree = some m.cls := findClass_of_methodNamed B.named
  have hlocks := B.notSynchronized
  have hS : va_S (fun _ => False) s.heap s.heap [] := va_S.rf
  have hl := lv_entry ([.ref (g 9), .int (nI i), .int (nI c0)]) (n := 4) (Nat.le_of_ble_eq_true rfl)
  rw [lg_entry_eq]
  generalize (lg_sl ([.ref (g 9), .int (nI i), .int (nI c0)]) ++ List.replicate (4 - (lg_sl ([.ref (g 9), .int (nI i), .int (nI c0)])).length) Slot.unset).toArray = ls at hl ⊢
  have hl : lv_has ls 4 [(0, .ref (g 9)), (1, .int (nI i)), (2, .int (nI c0))] := hl
  refine lv_aload_n hx hb d_Tree_kindFault_0 rfl (lv_at hl 0 rfl) ?_
  refine va_get (D := D) (ci := 3) (v := .ref (g 6)) (C := R_Tree) (T := T_Tree) (N := 5) hx hb hTB in_Tree hown hK hP 0 rfl rfl 1 (by decide) (hTB _ k_196) (fun _ h9 => h9) rfl d_Tree_kindFault_1 ?_
  refine lv_iload_n hx hb d_Tree_kindFault_4 rfl (lv_at hl 1 rfl) ?_
  refine gz_roV (As := [.int (nI i)]) (rest := []) (wc := (wI g k L u)) ⟨hx, hb, hml, hown, hTB⟩ (c_Inodes_kind l D g k L hL0 hL u i) (cwV 1 hTB (gd_V k_340 k_341 k_342 k_54 k_343) rfl rfl rfl (by decide +kernel) ⟨Nat.le_of_ble_eq_true rfl, Nat.le_of_ble_eq_true rfl⟩) hK hP [4, 5, 6, 7, 8, 9, 10] rfl 4 rfl rfl rfl hl.1 rfl (Nat.le_of_ble_eq_true rfl) d_Tree_kindFault_5 ⟨Nat.zero_le _, Nat.zero_le _⟩ hS (fun H locs hP hS => ?_)
  have := iK_lt L (dNow u) i
  refine lv_istore_n (lv' := [(3, .int (nI (iK L (dNow u) i))), (0, .ref (g 9)), (1, .int (nI i)), (2, .int (nI c0))]) hx hb d_Tree_kindFault_8 rfl hl (by decide) rfl (fun ls hl => ?_)
  refine lv_iload_n hx hb d_Tree_kindFault_9 rfl (lv_at hl 0 rfl) ?_
  refine gz_if_ne (tgt := 15) hx hb d_Tree_kindFault_10 (by decide) (by omega) (fun h10 => ?_) (fun h10 => ?_)
  · refine lv_iload_n hx hb d_Tree_kindFault_15 rfl (lv_at hl 0 rfl) ?_
    refine lv_iload_n hx hb d_Tree_kindFault_16 rfl (lv_at hl 3 rfl) ?_
    refine gz_icmp_ne (tgt := 24) hx hb d_Tree_kindFault_17 (by decide) (by omega) (by omega) (fun h17 => ?_) (fun h17 => ?_)
    · refine lv_bipush (v := (-5)) hx hb d_Tree_kindFault_24 (by decide +kernel) ?_
      exact W.iret (v := (-5)) hx hb hr (fun tt9 ht9 hW9 => ⟨⟨_, (), rfl, (by unfold kfl; rw [if_neg h10, if_neg h17]), trivial⟩, hS.F ht9⟩) hS.2.2 d_Tree_kindFault_26
    · refine lv_iconst (v := nI 0) hx hb d_Tree_kindFault_20 (by decide +kernel) ?_
      refine lv_goto (tgt := 26) hx hb d_Tree_kindFault_21 (by decide) ?_
      exact W.iret (v := nI 0) hx hb hr (fun tt9 ht9 hW9 => ⟨⟨_, (), rfl, (by unfold kfl; rw [if_neg h10, if_pos h17]), trivial⟩, hS.F ht9⟩) hS.2.2 d_Tree_kindFault_26
  · refine lv_iconst (v := (-1)) hx hb d_Tree_kindFault_13 (by decide +kernel) ?_
    exact W.iret (v := (-1)) hx hb hr (fun tt9 ht9 hW9 => ⟨⟨_, (), rfl, (by unfold kfl; rw [if_pos h10]), trivial⟩, hS.F ht9⟩) hS.2.2 d_Tree_kindFault_14
theorem d_Tree_entryOrFault_0 : decode b_Tree_entryOrFault 0 = .ok (.aload_n 0, 1) := by decide +kernel
theorem d_Tree_entryOrFault_1 : decode b_Tree_entryOrFault 1 = .ok (.iload_n 1, 1) := by decide +kernel
theorem d_Tree_entryOrFault_2 : decode b_Tree_entryOrFault 2 = .ok (.iconst 2, 1) := by decide +kernel
theorem d_Tree_entryOrFault_3 : decode b_Tree_entryOrFault 3 = .ok (.invokevirtual 72, 3) := by decide +kernel
theorem d_Tree_entryOrFault_6 : decode b_Tree_entryOrFault 6 = .ok (.istore_n 3, 1) := by decide +kernel
theorem d_Tree_entryOrFault_7 : decode b_Tree_entryOrFault 7 = .ok (.iload_n 3, 1) := by decide +kernel
theorem d_Tree_entryOrFault_8 : decode b_Tree_entryOrFault 8 = .ok (.ifCond .ge 5, 3) := by decide +kernel
theorem d_Tree_entryOrFault_11 : decode b_Tree_entryOrFault 11 = .ok (.iload_n 3, 1) := by decide +kernel
theorem d_Tree_entryOrFault_12 : decode b_Tree_entryOrFault 12 = .ok (.ireturn, 1) := by decide +kernel
theorem d_Tree_entryOrFault_13 : decode b_Tree_entryOrFault 13 = .ok (.aload_n 0, 1) := by decide +kernel
theorem d_Tree_entryOrFault_14 : decode b_Tree_entryOrFault 14 = .ok (.getfield 32, 3) := by decide +kernel
theorem d_Tree_entryOrFault_17 : decode b_Tree_entryOrFault 17 = .ok (.iload_n 1, 1) := by decide +kernel
theorem d_Tree_entryOrFault_18 : decode b_Tree_entryOrFault 18 = .ok (.iload_n 2, 1) := by decide +kernel
theorem d_Tree_entryOrFault_19 : decode b_Tree_entryOrFault 19 = .ok (.invokevirtual 76, 3) := by decide +kernel
theorem d_Tree_entryOrFault_22 : decode b_Tree_entryOrFault 22 = .ok (.istore 4, 2) := by decide +kernel
theorem d_Tree_entryOrFault_24 : decode b_Tree_entryOrFault 24 = .ok (.iload 4, 2) := by decide +kernel
theorem d_Tree_entryOrFault_26 : decode b_Tree_entryOrFault 26 = .ok (.iconst (-1), 1) := by decide +kernel
theorem d_Tree_entryOrFault_27 : decode b_Tree_entryOrFault 27 = .ok (.if_icmp .ne 7, 3) := by decide +kernel
theorem d_Tree_entryOrFault_30 : decode b_Tree_entryOrFault 30 = .ok (.iconst (-1), 1) := by decide +kernel
theorem d_Tree_entryOrFault_31 : decode b_Tree_entryOrFault 31 = .ok (.goto 5, 3) := by decide +kernel
theorem d_Tree_entryOrFault_34 : decode b_Tree_entryOrFault 34 = .ok (.iload 4, 2) := by decide +kernel
theorem d_Tree_entryOrFault_36 : decode b_Tree_entryOrFault 36 = .ok (.ireturn, 1) := by decide +kernel
set_option maxHeartbeats 4000000 in
set_option maxRecDepth 100000 in
theorem c_Tree_entryOrFault (l : Launch) (D : va_G) (g : Nat → Nat) (k : Nat → ClassId) (L : Nat) (hL0 : 96 ≤ L) (hL : L ≤ 768) (u : DSt) (f0 : Nat → Int32) (tl : Nat) (tp : Nat → Int32) (d w : Nat) (hw0 : w < 65536) : RoI l y_Tree_entryOrFault w_Tree_entryOrFault ({ frames := 5, cells := 0, slots := 0, locals := 115 }) [.ref (g 9), .int (nI d), .int (nI w)] (RoP D cl5 (tyC k) (wT g k L u f0 tl tp)) (eof L (dNow u) d w) := by
  refine Met.ofW (cc := b_Tree_entryOrFault) (maxL := 5) (ret := (some .int)) (by decide) rfl ?_
  intro p e s m args below meth c s₁ B hml hv
  obtain ⟨rfl, hP, hK⟩ := hv
  have hx := B.exec
  have hb := B.bytes
  have hr := B.returns
  have hts := atoms_spec (ws := w_Tree_entryOrFault) B.pre
  have hTB : ∀ w ∈ lw_tb, w.before _ s = true := fun w h => hts w (List.mem_cons_of_mem _ h)
  have hown : s.vm.findClass R_Tree = some m.cls := findClass_of_methodNamed B.named
  have hlocks := B.notSynchronized
  have hS : va_S (fun _ => False) s.heap s.heap [] := va_S.rf
  have hl := lv_entry ([.ref (g 9), .int (nI d), .int (nI w)]) (n := 5) (Nat.le_of_ble_eq_true rfl)
  rw [lg_entry_eq]
  generalize (lg_sl ([.ref (g 9), .int (nI d), .int (nI w)]) ++ List.replicate (5 - (lg_sl ([.ref (g 9), .int (nI d), .int (nI w)])).length) Slot.unset).toArray = ls at hl ⊢
  have hl : lv_has ls 5 [(0, .ref (g 9)), (1, .int (nI d)), (2, .int (nI w))] := hl
  refine lv_aload_n hx hb d_Tree_entryOrFault_0 rfl (lv_at hl 0 rfl) ?_
  refine lv_iload_n hx hb d_Tree_entryOrFault_1 rfl (lv_at hl 1 rfl) ?_
  refine lv_iconst (v := nI 2) hx hb d_Tree_entryOrFault_2 (by decide +kernel) ?_
  refine gz_roV (As := [.int (nI d), .int (nI 2)]) (rest := []) (wc := (wT g k L u f0 tl tp)) ⟨hx, hb, hml, hown, hTB⟩ (c_Tree_kindFault l D g k L hL0 hL u f0 tl tp d 2 (by decide)) (cwV 2 hTB (gd_V k_336 k_338 k_8 k_51 k_339) rfl rfl rfl (by decide +kernel) ⟨Nat.le_of_ble_eq_true rfl, Nat.le_of_ble_eq_true rfl⟩) hK hP [0, 1, 2, 3, 4, 5, 6, 7, 8, 9, 10] rfl 0 rfl rfl rfl hl.1 rfl (Nat.le_of_ble_eq_true rfl) d_Tree_entryOrFault_3 ⟨Nat.zero_le _, Nat.zero_le _⟩ hS (fun H locs hP hS => ?_)
  refine lv_istore_n (lv' := [(3, .int (kfl (iK L (dNow u) d) 2)), (0, .ref (g 9)), (1, .int (nI d)), (2, .int (nI w))]) hx hb d_Tree_entryOrFault_6 rfl hl (by decide) rfl (fun ls hl => ?_)
  refine lv_iload_n hx hb d_Tree_entryOrFault_7 rfl (lv_at hl 0 rfl) ?_
  refine lv_if_ge (tgt := 13) hx hb d_Tree_entryOrFault_8 (by decide) (fun h8 => ?_) (fun h8 => ?_)
  · refine lv_aload_n hx hb d_Tree_entryOrFault_13 rfl (lv_at hl 1 rfl) ?_
    refine va_get (D := D) (ci := 3) (v := .ref (g 7)) (C := R_Tree) (T := T_Tree) (N := 5) hx hb hTB in_Tree hown hK hP 0 rfl rfl 2 (by decide) (hTB _ k_197) (fun _ h9 => h9) rfl d_Tree_entryOrFault_14 ?_
    refine lv_iload_n hx hb d_Tree_entryOrFault_17 rfl (lv_at hl 2 rfl) ?_
    refine lv_iload_n hx hb d_Tree_entryOrFault_18 rfl (lv_at hl 3 rfl) ?_
    refine gz_roV (As := [.int (nI d), .int (nI w)]) (rest := []) (wc := (wR g k L u f0)) ⟨hx, hb, hml, hown, hTB⟩ (c_Dirs_entryNamed l D g k L hL0 hL u f0 d w (by omega)) (cwV 2 hTB (gd_V k_348 k_349 k_350 k_55 k_351) rfl rfl rfl (by decide +kernel) ⟨Nat.le_of_ble_eq_true rfl, Nat.le_of_ble_eq_true rfl⟩) hK hP [2, 3, 4, 5, 6, 7, 8, 9, 10] rfl 2 rfl rfl rfl hl.1 rfl (Nat.le_of_ble_eq_true rfl) d_Tree_entryOrFault_19 ⟨Nat.zero_le _, Nat.zero_le _⟩ hS (fun H locs hP hS => ?_)
    refine lv_istore (lv' := [(4, .int (ent L (dNow u) d w)), (3, .int (kfl (iK L (dNow u) d) 2)), (0, .ref (g 9)), (1, .int (nI d)), (2, .int (nI w))]) hx hb d_Tree_entryOrFault_22 hl (by decide) rfl (fun ls hl => ?_)
    refine lv_iload hx hb d_Tree_entryOrFault_24 (lv_at hl 0 rfl) ?_
    refine lv_iconst (v := (-1)) hx hb d_Tree_entryOrFault_26 (by decide +kernel) ?_
    refine lv_icmp_ne (tgt := 34) hx hb d_Tree_entryOrFault_27 (by decide) (fun h27 => ?_) (fun h27 => ?_)
    · refine lv_iload hx hb d_Tree_entryOrFault_34 (lv_at hl 0 rfl) ?_
      exact W.iret (v := ent L (dNow u) d w) hx hb hr (fun tt9 ht9 hW9 => ⟨⟨_, (), rfl, (by unfold eof; rw [if_pos h8]), trivial⟩, hS.F ht9⟩) hS.2.2 d_Tree_entryOrFault_36
    · refine lv_iconst (v := (-1)) hx hb d_Tree_entryOrFault_30 (by decide +kernel) ?_
      refine lv_goto (tgt := 36) hx hb d_Tree_entryOrFault_31 (by decide) ?_
      exact W.iret (v := (-1)) hx hb hr (fun tt9 ht9 hW9 => ⟨⟨_, (), rfl, (by unfold eof; rw [if_pos h8, h27]), trivial⟩, hS.F ht9⟩) hS.2.2 d_Tree_entryOrFault_36
  · refine lv_iload_n hx hb d_Tree_entryOrFault_11 rfl (lv_at hl 0 rfl) ?_
    exact W.iret (v := kfl (iK L (dNow u) d) 2) hx hb hr (fun tt9 ht9 hW9 => ⟨⟨_, (), rfl, (by unfold eof; rw [if_neg h8]), trivial⟩, hS.F ht9⟩) hS.2.2 d_Tree_entryOrFault_12
theorem d_Tree_hasEntries_0 : decode b_Tree_hasEntries 0 = .ok (.aload_n 0, 1) := by decide +kernel
theorem d_Tree_hasEntries_1 : decode b_Tree_hasEntries 1 = .ok (.getfield 23, 3) := by decide +kernel
theorem d_Tree_hasEntries_4 : decode b_Tree_hasEntries 4 = .ok (.iload_n 1, 1) := by decide +kernel
theorem d_Tree_hasEntries_5 : decode b_Tree_hasEntries 5 = .ok (.invokevirtual 152, 3) := by decide +kernel
theorem d_Tree_hasEntries_8 : decode b_Tree_hasEntries 8 = .ok (.iconst 2, 1) := by decide +kernel
theorem d_Tree_hasEntries_9 : decode b_Tree_hasEntries 9 = .ok (.if_icmp .ne 18, 3) := by decide +kernel
theorem d_Tree_hasEntries_12 : decode b_Tree_hasEntries 12 = .ok (.aload_n 0, 1) := by decide +kernel
theorem d_Tree_hasEntries_13 : decode b_Tree_hasEntries 13 = .ok (.getfield 32, 3) := by decide +kernel
theorem d_Tree_hasEntries_16 : decode b_Tree_hasEntries 16 = .ok (.iload_n 1, 1) := by decide +kernel
theorem d_Tree_hasEntries_17 : decode b_Tree_hasEntries 17 = .ok (.invokevirtual 196, 3) := by decide +kernel
theorem d_Tree_hasEntries_20 : decode b_Tree_hasEntries 20 = .ok (.ifCond .ne 7, 3) := by decide +kernel
theorem d_Tree_hasEntries_23 : decode b_Tree_hasEntries 23 = .ok (.iconst 1, 1) := by decide +kernel
theorem d_Tree_hasEntries_24 : decode b_Tree_hasEntries 24 = .ok (.goto 4, 3) := by decide +kernel
theorem d_Tree_hasEntries_27 : decode b_Tree_hasEntries 27 = .ok (.iconst 0, 1) := by decide +kernel
theorem d_Tree_hasEntries_28 : decode b_Tree_hasEntries 28 = .ok (.ireturn, 1) := by decide +kernel
set_option maxHeartbeats 4000000 in
set_option maxRecDepth 100000 in
theorem c_Tree_hasEntries (l : Launch) (D : va_G) (g : Nat → Nat) (k : Nat → ClassId) (L : Nat) (hL0 : 96 ≤ L) (hL : L ≤ 768) (u : DSt) (f0 : Nat → Int32) (tl : Nat) (tp : Nat → Int32) (i : Nat) : RoI l y_Tree_hasEntries w_Tree_hasEntries ({ frames := 5, cells := 0, slots := 0, locals := 113 }) [.ref (g 9), .int (nI i)] (RoP D cl5 (tyC k) (wT g k L u f0 tl tp)) (zI (hsE L (dNow u) i)) := by
  refine Met.ofW (cc := b_Tree_hasEntries) (maxL := 2) (ret := (some .boolean)) (by decide) rfl ?_
  intro p e s m args below meth c s₁ B hml hv
  obtain ⟨rfl, hP, hK⟩ := hv
  have hx := B.exec
  have hb := B.bytes
  have hr := B.returns
  have hts := atoms_spec (ws := w_Tree_hasEntries) B.pre
  have hTB : ∀ w ∈ lw_tb, w.before _ s = true := fun w h => hts w (List.mem_cons_of_mem _ h)
  have hown : s.vm.findClass R_Tree = some m.cls := findClass_of_methodNamed B.named
  have hlocks := B.notSynchronized
  have hS : va_S (fun _ => False) s.heap s.heap [] := va_S.rf
  have hl := lv_entry ([.ref (g 9), .int (nI i)]) (n := 2) (Nat.le_of_ble_eq_true rfl)
  rw [lg_entry_eq]
  generalize (lg_sl ([.ref (g 9), .int (nI i)]) ++ List.replicate (2 - (lg_sl ([.ref (g 9), .int (nI i)])).length) Slot.unset).toArray = ls at hl ⊢
  have hl : lv_has ls 2 [(0, .ref (g 9)), (1, .int (nI i))] := hl
  refine lv_aload_n hx hb d_Tree_hasEntries_0 rfl (lv_at hl 0 rfl) ?_
  refine va_get (D := D) (ci := 3) (v := .ref (g 6)) (C := R_Tree) (T := T_Tree) (N := 5) hx hb hTB in_Tree hown hK hP 0 rfl rfl 1 (by decide) (hTB _ k_196) (fun _ h9 => h9) rfl d_Tree_hasEntries_1 ?_
  refine lv_iload_n hx hb d_Tree_hasEntries_4 rfl (lv_at hl 1 rfl) ?_
  refine gz_roV (As := [.int (nI i)]) (rest := []) (wc := (wI g k L u)) ⟨hx, hb, hml, hown, hTB⟩ (c_Inodes_kind l D g k L hL0 hL u i) (cwV 1 hTB (gd_V k_340 k_341 k_342 k_54 k_343) rfl rfl rfl (by decide +kernel) ⟨Nat.le_of_ble_eq_true rfl, Nat.le_of_ble_eq_true rfl⟩) hK hP [4, 5, 6, 7, 8, 9, 10] rfl 4 rfl rfl rfl hl.1 rfl (Nat.le_of_ble_eq_true rfl) d_Tree_hasEntries_5 ⟨Nat.zero_le _, Nat.zero_le _⟩ hS (fun H locs hP hS => ?_)
  have := iK_lt L (dNow u) i
  refine lv_iconst (v := nI 2) hx hb d_Tree_hasEntries_8 (by decide +kernel) ?_
  refine gz_icmp_ne (tgt := 27) hx hb d_Tree_hasEntries_9 (by decide) (by omega) (by omega) (fun h9 => ?_) (fun h9 => ?_)
  · refine lv_iconst (v := nI 0) hx hb d_Tree_hasEntries_27 (by decide +kernel) ?_
    exact W.zret (v := nI 0) (ty := .boolean) hx hb hr (by decide +kernel) (fun tt9 ht9 hW9 => ⟨⟨_, (), rfl, (by unfold hsE; rw [decide_eq_false h9]; rfl), trivial⟩, hS.F ht9⟩) hS.2.2 d_Tree_hasEntries_28
  · refine lv_aload_n hx hb d_Tree_hasEntries_12 rfl (lv_at hl 0 rfl) ?_
    refine va_get (D := D) (ci := 3) (v := .ref (g 7)) (C := R_Tree) (T := T_Tree) (N := 5) hx hb hTB in_Tree hown hK hP 0 rfl rfl 2 (by decide) (hTB _ k_197) (fun _ h9 => h9) rfl d_Tree_hasEntries_13 ?_
    refine lv_iload_n hx hb d_Tree_hasEntries_16 rfl (lv_at hl 1 rfl) ?_
    refine gz_roV (As := [.int (nI i)]) (rest := []) (wc := (wR g k L u f0)) ⟨hx, hb, hml, hown, hTB⟩ (c_Dirs_isEmpty l D g k L hL0 hL u f0 i) (cwV 1 hTB (gd_V k_516 k_517 k_518 k_55 k_519) rfl rfl rfl (by decide +kernel) ⟨Nat.le_of_ble_eq_true rfl, Nat.le_of_ble_eq_true rfl⟩) hK hP [2, 3, 4, 5, 6, 7, 8, 9, 10] rfl 2 rfl rfl rfl hl.1 rfl (Nat.le_of_ble_eq_true rfl) d_Tree_hasEntries_17 ⟨Nat.zero_le _, Nat.zero_le _⟩ hS (fun H locs hP hS => ?_)
    refine gz_ifz_ne (tgt := 27) hx hb d_Tree_hasEntries_20 (by decide) (fun h20 => ?_) (fun h20 => ?_)
    · refine lv_iconst (v := nI 0) hx hb d_Tree_hasEntries_27 (by decide +kernel) ?_
      exact W.zret (v := nI 0) (ty := .boolean) hx hb hr (by decide +kernel) (fun tt9 ht9 hW9 => ⟨⟨_, (), rfl, (by unfold hsE; rw [decide_eq_true h9, h20]; rfl), trivial⟩, hS.F ht9⟩) hS.2.2 d_Tree_hasEntries_28
    · refine lv_iconst (v := nI 1) hx hb d_Tree_hasEntries_23 (by decide +kernel) ?_
      refine lv_goto (tgt := 28) hx hb d_Tree_hasEntries_24 (by decide) ?_
      exact W.zret (v := nI 1) (ty := .boolean) hx hb hr (by decide +kernel) (fun tt9 ht9 hW9 => ⟨⟨_, (), rfl, (by unfold hsE; rw [decide_eq_true h9, h20]; rfl), trivial⟩, hS.F ht9⟩) hS.2.2 d_Tree_hasEntries_28
theorem d_Tree_moveFault_0 : decode b_Tree_moveFault 0 = .ok (.aload_n 0, 1) := by decide +kernel
theorem d_Tree_moveFault_1 : decode b_Tree_moveFault 1 = .ok (.getfield 23, 3) := by decide +kernel
theorem d_Tree_moveFault_4 : decode b_Tree_moveFault 4 = .ok (.iload_n 1, 1) := by decide +kernel
theorem d_Tree_moveFault_5 : decode b_Tree_moveFault 5 = .ok (.invokevirtual 152, 3) := by decide +kernel
theorem d_Tree_moveFault_8 : decode b_Tree_moveFault 8 = .ok (.iconst 2, 1) := by decide +kernel
theorem d_Tree_moveFault_9 : decode b_Tree_moveFault 9 = .ok (.if_icmp .ne 7, 3) := by decide +kernel
theorem d_Tree_moveFault_12 : decode b_Tree_moveFault 12 = .ok (.iconst 1, 1) := by decide +kernel
theorem d_Tree_moveFault_13 : decode b_Tree_moveFault 13 = .ok (.goto 4, 3) := by decide +kernel
theorem d_Tree_moveFault_16 : decode b_Tree_moveFault 16 = .ok (.iconst 0, 1) := by decide +kernel
theorem d_Tree_moveFault_17 : decode b_Tree_moveFault 17 = .ok (.istore 4, 2) := by decide +kernel
theorem d_Tree_moveFault_19 : decode b_Tree_moveFault 19 = .ok (.iload_n 3, 1) := by decide +kernel
theorem d_Tree_moveFault_20 : decode b_Tree_moveFault 20 = .ok (.iconst (-1), 1) := by decide +kernel
theorem d_Tree_moveFault_21 : decode b_Tree_moveFault 21 = .ok (.if_icmp .eq 51, 3) := by decide +kernel
theorem d_Tree_moveFault_24 : decode b_Tree_moveFault 24 = .ok (.aload_n 0, 1) := by decide +kernel
theorem d_Tree_moveFault_25 : decode b_Tree_moveFault 25 = .ok (.getfield 32, 3) := by decide +kernel
theorem d_Tree_moveFault_28 : decode b_Tree_moveFault 28 = .ok (.iload_n 3, 1) := by decide +kernel
theorem d_Tree_moveFault_29 : decode b_Tree_moveFault 29 = .ok (.invokevirtual 93, 3) := by decide +kernel
theorem d_Tree_moveFault_32 : decode b_Tree_moveFault 32 = .ok (.istore 5, 2) := by decide +kernel
theorem d_Tree_moveFault_34 : decode b_Tree_moveFault 34 = .ok (.iload 4, 2) := by decide +kernel
theorem d_Tree_moveFault_36 : decode b_Tree_moveFault 36 = .ok (.aload_n 0, 1) := by decide +kernel
theorem d_Tree_moveFault_37 : decode b_Tree_moveFault 37 = .ok (.getfield 23, 3) := by decide +kernel
theorem d_Tree_moveFault_40 : decode b_Tree_moveFault 40 = .ok (.iload 5, 2) := by decide +kernel
theorem d_Tree_moveFault_42 : decode b_Tree_moveFault 42 = .ok (.invokevirtual 152, 3) := by decide +kernel
theorem d_Tree_moveFault_45 : decode b_Tree_moveFault 45 = .ok (.iconst 2, 1) := by decide +kernel
theorem d_Tree_moveFault_46 : decode b_Tree_moveFault 46 = .ok (.if_icmp .ne 7, 3) := by decide +kernel
theorem d_Tree_moveFault_49 : decode b_Tree_moveFault 49 = .ok (.iconst 1, 1) := by decide +kernel
theorem d_Tree_moveFault_50 : decode b_Tree_moveFault 50 = .ok (.goto 4, 3) := by decide +kernel
theorem d_Tree_moveFault_53 : decode b_Tree_moveFault 53 = .ok (.iconst 0, 1) := by decide +kernel
theorem d_Tree_moveFault_54 : decode b_Tree_moveFault 54 = .ok (.if_icmp .eq 6, 3) := by decide +kernel
theorem d_Tree_moveFault_57 : decode b_Tree_moveFault 57 = .ok (.bipush (-5), 2) := by decide +kernel
theorem d_Tree_moveFault_59 : decode b_Tree_moveFault 59 = .ok (.ireturn, 1) := by decide +kernel
theorem d_Tree_moveFault_60 : decode b_Tree_moveFault 60 = .ok (.aload_n 0, 1) := by decide +kernel
theorem d_Tree_moveFault_61 : decode b_Tree_moveFault 61 = .ok (.iload 5, 2) := by decide +kernel
theorem d_Tree_moveFault_63 : decode b_Tree_moveFault 63 = .ok (.invokevirtual 137, 3) := by decide +kernel
theorem d_Tree_moveFault_66 : decode b_Tree_moveFault 66 = .ok (.ifCond .eq 6, 3) := by decide +kernel
theorem d_Tree_moveFault_69 : decode b_Tree_moveFault 69 = .ok (.bipush (-6), 2) := by decide +kernel
theorem d_Tree_moveFault_71 : decode b_Tree_moveFault 71 = .ok (.ireturn, 1) := by decide +kernel
theorem d_Tree_moveFault_72 : decode b_Tree_moveFault 72 = .ok (.iload 4, 2) := by decide +kernel
theorem d_Tree_moveFault_74 : decode b_Tree_moveFault 74 = .ok (.ifCond .eq 20, 3) := by decide +kernel
theorem d_Tree_moveFault_77 : decode b_Tree_moveFault 77 = .ok (.aload_n 0, 1) := by decide +kernel
theorem d_Tree_moveFault_78 : decode b_Tree_moveFault 78 = .ok (.getfield 32, 3) := by decide +kernel
theorem d_Tree_moveFault_81 : decode b_Tree_moveFault 81 = .ok (.iload_n 2, 1) := by decide +kernel
theorem d_Tree_moveFault_82 : decode b_Tree_moveFault 82 = .ok (.iload_n 1, 1) := by decide +kernel
theorem d_Tree_moveFault_83 : decode b_Tree_moveFault 83 = .ok (.invokevirtual 193, 3) := by decide +kernel
theorem d_Tree_moveFault_86 : decode b_Tree_moveFault 86 = .ok (.ifCond .eq 8, 3) := by decide +kernel
theorem d_Tree_moveFault_89 : decode b_Tree_moveFault 89 = .ok (.bipush (-7), 2) := by decide +kernel
theorem d_Tree_moveFault_91 : decode b_Tree_moveFault 91 = .ok (.goto 4, 3) := by decide +kernel
theorem d_Tree_moveFault_94 : decode b_Tree_moveFault 94 = .ok (.iconst 0, 1) := by decide +kernel
theorem d_Tree_moveFault_95 : decode b_Tree_moveFault 95 = .ok (.ireturn, 1) := by decide +kernel
set_option maxHeartbeats 4000000 in
set_option maxRecDepth 100000 in
theorem c_Tree_moveFault (l : Launch) (D : va_G) (g : Nat → Nat) (k : Nat → ClassId) (L : Nat) (hL0 : 96 ≤ L) (hL : L ≤ 768) (u : DSt) (f0 : Nat → Int32) (tl : Nat) (tp : Nat → Int32) (i d : Nat) (x : Int32) (hd0 : d < 64) : MuI l y_Tree_moveFault w_Tree_moveFault ({ frames := 6, cells := 0, slots := 0, locals := 138 }) [.ref (g 9), .int (nI i), .int (nI d), .int (x)] D cl5 (tyC k) (wT g k L u f0 tl tp) (wT g k L u (mvP L (dNow u) f0 i x) tl tp) (mvF L (dNow u) f0 i d x) := by
  intro sz
  refine Met.ofW (cc := b_Tree_moveFault) (maxL := 6) (ret := (some .int)) (by decide) rfl ?_
  intro p e s m args below meth c s₁ B hml hv
  obtain ⟨rfl, hsz, hP, hK, hD0⟩ := hv
  have hx := B.exec
  have hb := B.bytes
  have hr := B.returns
  have hts := atoms_spec (ws := w_Tree_moveFault) B.pre
  have hTB : ∀ w ∈ lw_tb, w.before _ s = true := fun w h => hts w (List.mem_cons_of_mem _ h)
  have hown : s.vm.findClass R_Tree = some m.cls := findClass_of_methodNamed B.named
  have hlocks := B.notSynchronized
  subst hsz
  have hD := hD0.self (sz := s.heap.size)
  generalize hAe : va_A (wT g k L u f0 tl tp) s.heap.size = A at hD ⊢
  have hA : ∀ q : Nat, s.heap.size ≤ q → A q := fun q h => by rw [← hAe]; exact Or.inr h
  have hS : va_S A s.heap s.heap [] := va_S.rf
  have hl := lv_entry ([.ref (g 9), .int (nI i), .int (nI d), .int (x)]) (n := 6) (Nat.le_of_ble_eq_true rfl)
  rw [lg_entry_eq]
  generalize (lg_sl ([.ref (g 9), .int (nI i), .int (nI d), .int (x)]) ++ List.replicate (6 - (lg_sl ([.ref (g 9), .int (nI i), .int (nI d), .int (x)])).length) Slot.unset).toArray = ls at hl ⊢
  have hl : lv_has ls 6 [(0, .ref (g 9)), (1, .int (nI i)), (2, .int (nI d)), (3, .int (x))] := hl
  refine lv_aload_n hx hb d_Tree_moveFault_0 rfl (lv_at hl 0 rfl) ?_
  refine va_get (D := D) (ci := 3) (v := .ref (g 6)) (C := R_Tree) (T := T_Tree) (N := 5) hx hb hTB in_Tree hown hK hP 0 rfl rfl 1 (by decide) (hTB _ k_196) (fun _ h9 => h9) rfl d_Tree_moveFault_1 ?_
  refine lv_iload_n hx hb d_Tree_moveFault_4 rfl (lv_at hl 1 rfl) ?_
  refine gz_roV (As := [.int (nI i)]) (rest := []) (wc := (wI g k L u)) ⟨hx, hb, hml, hown, hTB⟩ (c_Inodes_kind l D g k L hL0 hL u i) (cwV 1 hTB (gd_V k_340 k_341 k_342 k_54 k_343) rfl rfl rfl (by decide +kernel) ⟨Nat.le_of_ble_eq_true rfl, Nat.le_of_ble_eq_true rfl⟩) hK hP [4, 5, 6, 7, 8, 9, 10] rfl 4 rfl rfl rfl hl.1 rfl (Nat.le_of_ble_eq_true rfl) d_Tree_moveFault_5 ⟨Nat.zero_le _, Nat.zero_le _⟩ hS (fun H locs hP hS => ?_)
  have := iK_lt L (dNow u) i
  refine lv_iconst (v := nI 2) hx hb d_Tree_moveFault_8 (by decide +kernel) ?_
  refine gz_icmp_ne (tgt := 16) hx hb d_Tree_moveFault_9 (by decide) (by omega) (by omega) (fun h9 => ?_) (fun h9 => ?_)
  · refine lv_iconst (v := nI 0) hx hb d_Tree_moveFault_16 (by decide +kernel) ?_
    refine lv_istore (lv' := [(4, .int (nI 0)), (0, .ref (g 9)), (1, .int (nI i)), (2, .int (nI d)), (3, .int (x))]) hx hb d_Tree_moveFault_17 hl (by decide) rfl (fun ls hl => ?_)
    refine lv_iload_n hx hb d_Tree_moveFault_19 rfl (lv_at hl 4 rfl) ?_
    refine lv_iconst (v := (-1)) hx hb d_Tree_moveFault_20 (by decide +kernel) ?_
    refine lv_icmp_eq (tgt := 72) hx hb d_Tree_moveFault_21 (by decide) (fun h21 => ?_) (fun h21 => ?_)
    · refine lv_iload hx hb d_Tree_moveFault_72 (lv_at hl 0 rfl) ?_
      refine gz_if_eq (tgt := 94) hx hb d_Tree_moveFault_74 (by decide) (by decide) (fun h74 => ?_) (fun h74 => absurd h74 (by decide))
      refine lv_iconst (v := nI 0) hx hb d_Tree_moveFault_94 (by decide +kernel) ?_
      have hP9 : va_P D cl5 (wT g k L u (mvP L (dNow u) f0 i x) tl tp) H := (by rw [show mvP L (dNow u) f0 i x = f0 from by unfold mvP; simp [h9, h21]]; exact hP)
      have hD9 : va_D A (wT g k L u (mvP L (dNow u) f0 i x) tl tp) := (by rw [show mvP L (dNow u) f0 i x = f0 from by unfold mvP; simp [h9, h21]]; exact hD)
      exact W.iret (v := nI 0) hx hb hr (fun tt9 ht9 hW9 => ⟨⟨_, (), rfl, (by unfold mvF; simp [h9, h21]; try rfl), ⟨by rw [ht9]; exact hP9, hD9⟩⟩, hS.F ht9⟩) hS.2.2 d_Tree_moveFault_95
    · refine lv_aload_n hx hb d_Tree_moveFault_24 rfl (lv_at hl 1 rfl) ?_
      refine va_get (D := D) (ci := 3) (v := .ref (g 7)) (C := R_Tree) (T := T_Tree) (N := 5) hx hb hTB in_Tree hown hK hP 0 rfl rfl 2 (by decide) (hTB _ k_197) (fun _ h9 => h9) rfl d_Tree_moveFault_25 ?_
      refine lv_iload_n hx hb d_Tree_moveFault_28 rfl (lv_at hl 4 rfl) ?_
      refine gz_roV (As := [.int (x)]) (rest := []) (wc := (wR g k L u f0)) ⟨hx, hb, hml, hown, hTB⟩ (c_Dirs_inodeOf l D g k L hL0 hL u f0 x) (cwV 1 hTB (gd_V k_450 k_451 k_452 k_55 k_453) rfl rfl rfl (by decide +kernel) ⟨Nat.le_of_ble_eq_true rfl, Nat.le_of_ble_eq_true rfl⟩) hK hP [2, 3, 4, 5, 6, 7, 8, 9, 10] rfl 2 rfl rfl rfl hl.1 rfl (Nat.le_of_ble_eq_true rfl) d_Tree_moveFault_29 ⟨Nat.zero_le _, Nat.zero_le _⟩ hS (fun H locs hP hS => ?_)
      have := ino_lt L (dNow u) x
      refine lv_istore (lv' := [(5, .int (nI (ino L (dNow u) x))), (4, .int (nI 0)), (0, .ref (g 9)), (1, .int (nI i)), (2, .int (nI d)), (3, .int (x))]) hx hb d_Tree_moveFault_32 hl (by decide) rfl (fun ls hl => ?_)
      refine lv_iload hx hb d_Tree_moveFault_34 (lv_at hl 1 rfl) ?_
      refine lv_aload_n hx hb d_Tree_moveFault_36 rfl (lv_at hl 2 rfl) ?_
      refine va_get (D := D) (ci := 3) (v := .ref (g 6)) (C := R_Tree) (T := T_Tree) (N := 5) hx hb hTB in_Tree hown hK hP 0 rfl rfl 1 (by decide) (hTB _ k_196) (fun _ h9 => h9) rfl d_Tree_moveFault_37 ?_
      refine lv_iload hx hb d_Tree_moveFault_40 (lv_at hl 0 rfl) ?_
      refine gz_roV (As := [.int (nI (ino L (dNow u) x))]) (rest := [.int (nI 0)]) (wc := (wI g k L u)) ⟨hx, hb, hml, hown, hTB⟩ (c_Inodes_kind l D g k L hL0 hL u (ino L (dNow u) x)) (cwV 1 hTB (gd_V k_340 k_341 k_342 k_54 k_343) rfl rfl rfl (by decide +kernel) ⟨Nat.le_of_ble_eq_true rfl, Nat.le_of_ble_eq_true rfl⟩) hK hP [4, 5, 6, 7, 8, 9, 10] rfl 4 rfl rfl rfl hl.1 rfl (Nat.le_of_ble_eq_true rfl) d_Tree_moveFault_42 ⟨Nat.zero_le _, Nat.zero_le _⟩ hS (fun H locs hP hS => ?_)
      have := iK_lt L (dNow u) (ino L (dNow u) x)
      refine lv_iconst (v := nI 2) hx hb d_Tree_moveFault_45 (by decide +kernel) ?_
      refine gz_icmp_ne (tgt := 53) hx hb d_Tree_moveFault_46 (by decide) (by omega) (by omega) (fun h46 => ?_) (fun h46 => ?_)
      · refine lv_iconst (v := nI 0) hx hb d_Tree_moveFault_53 (by decide +kernel) ?_
        refine gz_icmp_eq (tgt := 60) hx hb d_Tree_moveFault_54 (by decide) (by decide) (by decide) (fun h54 => ?_) (fun h54 => absurd h54 (by decide))
        refine lv_aload_n hx hb d_Tree_moveFault_60 rfl (lv_at hl 2 rfl) ?_
        refine lv_iload hx hb d_Tree_moveFault_61 (lv_at hl 0 rfl) ?_
        refine gz_roV (As := [.int (nI (ino L (dNow u) x))]) (rest := []) (wc := (wT g k L u f0 tl tp)) ⟨hx, hb, hml, hown, hTB⟩ (c_Tree_hasEntries l D g k L hL0 hL u f0 tl tp (ino L (dNow u) x)) (cwV 1 hTB (gd_V k_512 k_514 k_13 k_51 k_515) rfl rfl rfl (by decide +kernel) ⟨Nat.le_of_ble_eq_true rfl, Nat.le_of_ble_eq_true rfl⟩) hK hP [0, 1, 2, 3, 4, 5, 6, 7, 8, 9, 10] rfl 0 rfl rfl rfl hl.1 rfl (Nat.le_of_ble_eq_true rfl) d_Tree_moveFault_63 ⟨Nat.zero_le _, Nat.zero_le _⟩ hS (fun H locs hP hS => ?_)
        refine gz_ifz_eq (tgt := 72) hx hb d_Tree_moveFault_66 (by decide) (fun h66 => ?_) (fun h66 => ?_)
        · refine lv_iload hx hb d_Tree_moveFault_72 (lv_at hl 1 rfl) ?_
          refine gz_if_eq (tgt := 94) hx hb d_Tree_moveFault_74 (by decide) (by decide) (fun h74 => ?_) (fun h74 => absurd h74 (by decide))
          refine lv_iconst (v := nI 0) hx hb d_Tree_moveFault_94 (by decide +kernel) ?_
          have hP9 : va_P D cl5 (wT g k L u (mvP L (dNow u) f0 i x) tl tp) H := (by rw [show mvP L (dNow u) f0 i x = f0 from by unfold mvP; simp [h9, h21, h46, h66]]; exact hP)
          have hD9 : va_D A (wT g k L u (mvP L (dNow u) f0 i x) tl tp) := (by rw [show mvP L (dNow u) f0 i x = f0 from by unfold mvP; simp [h9, h21, h46, h66]]; exact hD)
          exact W.iret (v := nI 0) hx hb hr (fun tt9 ht9 hW9 => ⟨⟨_, (), rfl, (by unfold mvF; simp [h9, h21, h46, h66]; try rfl), ⟨by rw [ht9]; exact hP9, hD9⟩⟩, hS.F ht9⟩) hS.2.2 d_Tree_moveFault_95
        · refine lv_bipush (v := (-6)) hx hb d_Tree_moveFault_69 (by decide +kernel) ?_
          have hP9 : va_P D cl5 (wT g k L u (mvP L (dNow u) f0 i x) tl tp) H := (by rw [show mvP L (dNow u) f0 i x = f0 from by unfold mvP; simp [h9, h21, h46, h66]]; exact hP)
          have hD9 : va_D A (wT g k L u (mvP L (dNow u) f0 i x) tl tp) := (by rw [show mvP L (dNow u) f0 i x = f0 from by unfold mvP; simp [h9, h21, h46, h66]]; exact hD)
          exact W.iret (v := (-6)) hx hb hr (fun tt9 ht9 hW9 => ⟨⟨_, (), rfl, (by unfold mvF; simp [h9, h21, h46, h66]; try rfl), ⟨by rw [ht9]; exact hP9, hD9⟩⟩, hS.F ht9⟩) hS.2.2 d_Tree_moveFault_71
      · refine lv_iconst (v := nI 1) hx hb d_Tree_moveFault_49 (by decide +kernel) ?_
        refine lv_goto (tgt := 54) hx hb d_Tree_moveFault_50 (by decide) ?_
        refine gz_icmp_eq (tgt := 60) hx hb d_Tree_moveFault_54 (by decide) (by decide) (by decide) (fun h54 => absurd h54 (by decide)) (fun h54 => ?_)
        refine lv_bipush (v := (-5)) hx hb d_Tree_moveFault_57 (by decide +kernel) ?_
        have hP9 : va_P D cl5 (wT g k L u (mvP L (dNow u) f0 i x) tl tp) H := (by rw [show mvP L (dNow u) f0 i x = f0 from by unfold mvP; simp [h9, h21, h46]]; exact hP)
        have hD9 : va_D A (wT g k L u (mvP L (dNow u) f0 i x) tl tp) := (by rw [show mvP L (dNow u) f0 i x = f0 from by unfold mvP; simp [h9, h21, h46]]; exact hD)
        exact W.iret (v := (-5)) hx hb hr (fun tt9 ht9 hW9 => ⟨⟨_, (), rfl, (by unfold mvF; simp [h9, h21, h46]; try rfl), ⟨by rw [ht9]; exact hP9, hD9⟩⟩, hS.F ht9⟩) hS.2.2 d_Tree_moveFault_59
  · refine lv_iconst (v := nI 1) hx hb d_Tree_moveFault_12 (by decide +kernel) ?_
    refine lv_goto (tgt := 17) hx hb d_Tree_moveFault_13 (by decide) ?_
    refine lv_istore (lv' := [(4, .int (nI 1)), (0, .ref (g 9)), (1, .int (nI i)), (2, .int (nI d)), (3, .int (x))]) hx hb d_Tree_moveFault_17 hl (by decide) rfl (fun ls hl => ?_)
    refine lv_iload_n hx hb d_Tree_moveFault_19 rfl (lv_at hl 4 rfl) ?_
    refine lv_iconst (v := (-1)) hx hb d_Tree_moveFault_20 (by decide +kernel) ?_
    refine lv_icmp_eq (tgt := 72) hx hb d_Tree_moveFault_21 (by decide) (fun h21 => ?_) (fun h21 => ?_)
    · refine lv_iload hx hb d_Tree_moveFault_72 (lv_at hl 0 rfl) ?_
      refine gz_if_eq (tgt := 94) hx hb d_Tree_moveFault_74 (by decide) (by decide) (fun h74 => absurd h74 (by decide)) (fun h74 => ?_)
      refine lv_aload_n hx hb d_Tree_moveFault_77 rfl (lv_at hl 1 rfl) ?_
      refine va_get (D := D) (ci := 3) (v := .ref (g 7)) (C := R_Tree) (T := T_Tree) (N := 5) hx hb hTB in_Tree hown hK hP 0 rfl rfl 2 (by decide) (hTB _ k_197) (fun _ h9 => h9) rfl d_Tree_moveFault_78 ?_
      refine lv_iload_n hx hb d_Tree_moveFault_81 rfl (lv_at hl 3 rfl) ?_
      refine lv_iload_n hx hb d_Tree_moveFault_82 rfl (lv_at hl 2 rfl) ?_
      refine gz_muI (As := [.int (nI d), .int (nI i)]) (rest := []) (wc := (wR g k L u f0)) (w1 := (wR g k L u (fil L (dNow u) f0))) (wr := (hT g k tl tp)) ⟨hx, hb, hml, hown, hTB⟩ (c_Dirs_isWithin l D g k L hL0 hL u f0 d (nI i) (by omega)) (cwV 2 hTB (gd_V k_520 k_521 k_522 k_55 k_523) rfl rfl rfl (by decide +kernel) ⟨Nat.le_of_ble_eq_true rfl, Nat.le_of_ble_eq_true rfl⟩) hK hP hD hA [2, 3, 4, 5, 6, 7, 8, 9, 10] [0, 1] rfl rfl (by decide) rfl (by decide) (by decide) 2 rfl rfl rfl hl.1 rfl (Nat.le_of_ble_eq_true rfl) d_Tree_moveFault_83 ⟨Nat.zero_le _, Nat.zero_le _⟩ hS (fun H locs hP hD hS => ?_)
      have hP : va_P D cl5 (wT g k L u (fil L (dNow u) f0) tl tp) H := hP
      have hD : va_D A (wT g k L u (fil L (dNow u) f0) tl tp) := hD
      refine gz_ifz_eq (tgt := 94) hx hb d_Tree_moveFault_86 (by decide) (fun h86 => ?_) (fun h86 => ?_)
      · refine lv_iconst (v := nI 0) hx hb d_Tree_moveFault_94 (by decide +kernel) ?_
        have hP9 : va_P D cl5 (wT g k L u (mvP L (dNow u) f0 i x) tl tp) H := (by rw [show mvP L (dNow u) f0 i x = fil L (dNow u) f0 from by unfold mvP; simp [h9, h21, h86]]; exact hP)
        have hD9 : va_D A (wT g k L u (mvP L (dNow u) f0 i x) tl tp) := (by rw [show mvP L (dNow u) f0 i x = fil L (dNow u) f0 from by unfold mvP; simp [h9, h21, h86]]; exact hD)
        exact W.iret (v := nI 0) hx hb hr (fun tt9 ht9 hW9 => ⟨⟨_, (), rfl, (by unfold mvF; simp [h9, h21, h86]; try rfl), ⟨by rw [ht9]; exact hP9, hD9⟩⟩, hS.F ht9⟩) hS.2.2 d_Tree_moveFault_95
      · refine lv_bipush (v := (-7)) hx hb d_Tree_moveFault_89 (by decide +kernel) ?_
        refine lv_goto (tgt := 95) hx hb d_Tree_moveFault_91 (by decide) ?_
        have hP9 : va_P D cl5 (wT g k L u (mvP L (dNow u) f0 i x) tl tp) H := (by rw [show mvP L (dNow u) f0 i x = fil L (dNow u) f0 from by unfold mvP; simp [h9, h21, h86]]; exact hP)
        have hD9 : va_D A (wT g k L u (mvP L (dNow u) f0 i x) tl tp) := (by rw [show mvP L (dNow u) f0 i x = fil L (dNow u) f0 from by unfold mvP; simp [h9, h21, h86]]; exact hD)
        exact W.iret (v := (-7)) hx hb hr (fun tt9 ht9 hW9 => ⟨⟨_, (), rfl, (by unfold mvF; simp [h9, h21, h86]; try rfl), ⟨by rw [ht9]; exact hP9, hD9⟩⟩, hS.F ht9⟩) hS.2.2 d_Tree_moveFault_95
    · refine lv_aload_n hx hb d_Tree_moveFault_24 rfl (lv_at hl 1 rfl) ?_
      refine va_get (D := D) (ci := 3) (v := .ref (g 7)) (C := R_Tree) (T := T_Tree) (N := 5) hx hb hTB in_Tree hown hK hP 0 rfl rfl 2 (by decide) (hTB _ k_197) (fun _ h9 => h9) rfl d_Tree_moveFault_25 ?_
      refine lv_iload_n hx hb d_Tree_moveFault_28 rfl (lv_at hl 4 rfl) ?_
      refine gz_roV (As := [.int (x)]) (rest := []) (wc := (wR g k L u f0)) ⟨hx, hb, hml, hown, hTB⟩ (c_Dirs_inodeOf l D g k L hL0 hL u f0 x) (cwV 1 hTB (gd_V k_450 k_451 k_452 k_55 k_453) rfl rfl rfl (by decide +kernel) ⟨Nat.le_of_ble_eq_true rfl, Nat.le_of_ble_eq_true rfl⟩) hK hP [2, 3, 4, 5, 6, 7, 8, 9, 10] rfl 2 rfl rfl rfl hl.1 rfl (Nat.le_of_ble_eq_true rfl) d_Tree_moveFault_29 ⟨Nat.zero_le _, Nat.zero_le _⟩ hS (fun H locs hP hS => ?_)
      have := ino_lt L (dNow u) x
      refine lv_istore (lv' := [(5, .int (nI (ino L (dNow u) x))), (4, .int (nI 1)), (0, .ref (g 9)), (1, .int (nI i)), (2, .int (nI d)), (3, .int (x))]) hx hb d_Tree_moveFault_32 hl (by decide) rfl (fun ls hl => ?_)
      refine lv_iload hx hb d_Tree_moveFault_34 (lv_at hl 1 rfl) ?_
      refine lv_aload_n hx hb d_Tree_moveFault_36 rfl (lv_at hl 2 rfl) ?_
      refine va_get (D := D) (ci := 3) (v := .ref (g 6)) (C := R_Tree) (T := T_Tree) (N := 5) hx hb hTB in_Tree hown hK hP 0 rfl rfl 1 (by decide) (hTB _ k_196) (fun _ h9 => h9) rfl d_Tree_moveFault_37 ?_
      refine lv_iload hx hb d_Tree_moveFault_40 (lv_at hl 0 rfl) ?_
      refine gz_roV (As := [.int (nI (ino L (dNow u) x))]) (rest := [.int (nI 1)]) (wc := (wI g k L u)) ⟨hx, hb, hml, hown, hTB⟩ (c_Inodes_kind l D g k L hL0 hL u (ino L (dNow u) x)) (cwV 1 hTB (gd_V k_340 k_341 k_342 k_54 k_343) rfl rfl rfl (by decide +kernel) ⟨Nat.le_of_ble_eq_true rfl, Nat.le_of_ble_eq_true rfl⟩) hK hP [4, 5, 6, 7, 8, 9, 10] rfl 4 rfl rfl rfl hl.1 rfl (Nat.le_of_ble_eq_true rfl) d_Tree_moveFault_42 ⟨Nat.zero_le _, Nat.zero_le _⟩ hS (fun H locs hP hS => ?_)
      have := iK_lt L (dNow u) (ino L (dNow u) x)
      refine lv_iconst (v := nI 2) hx hb d_Tree_moveFault_45 (by decide +kernel) ?_
      refine gz_icmp_ne (tgt := 53) hx hb d_Tree_moveFault_46 (by decide) (by omega) (by omega) (fun h46 => ?_) (fun h46 => ?_)
      · refine lv_iconst (v := nI 0) hx hb d_Tree_moveFault_53 (by decide +kernel) ?_
        refine gz_icmp_eq (tgt := 60) hx hb d_Tree_moveFault_54 (by decide) (by decide) (by decide) (fun h54 => absurd h54 (by decide)) (fun h54 => ?_)
        refine lv_bipush (v := (-5)) hx hb d_Tree_moveFault_57 (by decide +kernel) ?_
        have hP9 : va_P D cl5 (wT g k L u (mvP L (dNow u) f0 i x) tl tp) H := (by rw [show mvP L (dNow u) f0 i x = f0 from by unfold mvP; simp [h9, h21, h46]]; exact hP)
        have hD9 : va_D A (wT g k L u (mvP L (dNow u) f0 i x) tl tp) := (by rw [show mvP L (dNow u) f0 i x = f0 from by unfold mvP; simp [h9, h21, h46]]; exact hD)
        exact W.iret (v := (-5)) hx hb hr (fun tt9 ht9 hW9 => ⟨⟨_, (), rfl, (by unfold mvF; simp [h9, h21, h46]; try rfl), ⟨by rw [ht9]; exact hP9, hD9⟩⟩, hS.F ht9⟩) hS.2.2 d_Tree_moveFault_59
      · refine lv_iconst (v := nI 1) hx hb d_Tree_moveFault_49 (by decide +kernel) ?_
        refine lv_goto (tgt := 54) hx hb d_Tree_moveFault_50 (by decide) ?_
        refine gz_icmp_eq (tgt := 60) hx hb d_Tree_moveFault_54 (by decide) (by decide) (by decide) (fun h54 => ?_) (fun h54 => absurd h54 (by decide))
        refine lv_aload_n hx hb d_Tree_moveFault_60 rfl (lv_at hl 2 rfl) ?_
        refine lv_iload hx hb d_Tree_moveFault_61 (lv_at hl 0 rfl) ?_
        refine gz_roV (As := [.int (nI (ino L (dNow u) x))]) (rest := []) (wc := (wT g k L u f0 tl tp)) ⟨hx, hb, hml, hown, hTB⟩ (c_Tree_hasEntries l D g k L hL0 hL u f0 tl tp (ino L (dNow u) x)) (cwV 1 hTB (gd_V k_512 k_514 k_13 k_51 k_515) rfl rfl rfl (by decide +kernel) ⟨Nat.le_of_ble_eq_true rfl, Nat.le_of_ble_eq_true rfl⟩) hK hP [0, 1, 2, 3, 4, 5, 6, 7, 8, 9, 10] rfl 0 rfl rfl rfl hl.1 rfl (Nat.le_of_ble_eq_true rfl) d_Tree_moveFault_63 ⟨Nat.zero_le _, Nat.zero_le _⟩ hS (fun H locs hP hS => ?_)
        refine gz_ifz_eq (tgt := 72) hx hb d_Tree_moveFault_66 (by decide) (fun h66 => ?_) (fun h66 => ?_)
        · refine lv_iload hx hb d_Tree_moveFault_72 (lv_at hl 1 rfl) ?_
          refine gz_if_eq (tgt := 94) hx hb d_Tree_moveFault_74 (by decide) (by decide) (fun h74 => absurd h74 (by decide)) (fun h74 => ?_)
          refine lv_aload_n hx hb d_Tree_moveFault_77 rfl (lv_at hl 2 rfl) ?_
          refine va_get (D := D) (ci := 3) (v := .ref (g 7)) (C := R_Tree) (T := T_Tree) (N := 5) hx hb hTB in_Tree hown hK hP 0 rfl rfl 2 (by decide) (hTB _ k_197) (fun _ h9 => h9) rfl d_Tree_moveFault_78 ?_
          refine lv_iload_n hx hb d_Tree_moveFault_81 rfl (lv_at hl 4 rfl) ?_
          refine lv_iload_n hx hb d_Tree_moveFault_82 rfl (lv_at hl 3 rfl) ?_
          refine gz_muI (As := [.int (nI d), .int (nI i)]) (rest := []) (wc := (wR g k L u f0)) (w1 := (wR g k L u (fil L (dNow u) f0))) (wr := (hT g k tl tp)) ⟨hx, hb, hml, hown, hTB⟩ (c_Dirs_isWithin l D g k L hL0 hL u f0 d (nI i) (by omega)) (cwV 2 hTB (gd_V k_520 k_521 k_522 k_55 k_523) rfl rfl rfl (by decide +kernel) ⟨Nat.le_of_ble_eq_true rfl, Nat.le_of_ble_eq_true rfl⟩) hK hP hD hA [2, 3, 4, 5, 6, 7, 8, 9, 10] [0, 1] rfl rfl (by decide) rfl (by decide) (by decide) 2 rfl rfl rfl hl.1 rfl (Nat.le_of_ble_eq_true rfl) d_Tree_moveFault_83 ⟨Nat.zero_le _, Nat.zero_le _⟩ hS (fun H locs hP hD hS => ?_)
          have hP : va_P D cl5 (wT g k L u (fil L (dNow u) f0) tl tp) H := hP
          have hD : va_D A (wT g k L u (fil L (dNow u) f0) tl tp) := hD
          refine gz_ifz_eq (tgt := 94) hx hb d_Tree_moveFault_86 (by decide) (fun h86 => ?_) (fun h86 => ?_)
          · refine lv_iconst (v := nI 0) hx hb d_Tree_moveFault_94 (by decide +kernel) ?_
            have hP9 : va_P D cl5 (wT g k L u (mvP L (dNow u) f0 i x) tl tp) H := (by rw [show mvP L (dNow u) f0 i x = fil L (dNow u) f0 from by unfold mvP; simp [h9, h21, h46, h66, h86]]; exact hP)
            have hD9 : va_D A (wT g k L u (mvP L (dNow u) f0 i x) tl tp) := (by rw [show mvP L (dNow u) f0 i x = fil L (dNow u) f0 from by unfold mvP; simp [h9, h21, h46, h66, h86]]; exact hD)
            exact W.iret (v := nI 0) hx hb hr (fun tt9 ht9 hW9 => ⟨⟨_, (), rfl, (by unfold mvF; simp [h9, h21, h46, h66, h86]; try rfl), ⟨by rw [ht9]; exact hP9, hD9⟩⟩, hS.F ht9⟩) hS.2.2 d_Tree_moveFault_95
          · refine lv_bipush (v := (-7)) hx hb d_Tree_moveFault_89 (by decide +kernel) ?_
            refine lv_goto (tgt := 95) hx hb d_Tree_moveFault_91 (by decide) ?_
            have hP9 : va_P D cl5 (wT g k L u (mvP L (dNow u) f0 i x) tl tp) H := (by rw [show mvP L (dNow u) f0 i x = fil L (dNow u) f0 from by unfold mvP; simp [h9, h21, h46, h66, h86]]; exact hP)
            have hD9 : va_D A (wT g k L u (mvP L (dNow u) f0 i x) tl tp) := (by rw [show mvP L (dNow u) f0 i x = fil L (dNow u) f0 from by unfold mvP; simp [h9, h21, h46, h66, h86]]; exact hD)
            exact W.iret (v := (-7)) hx hb hr (fun tt9 ht9 hW9 => ⟨⟨_, (), rfl, (by unfold mvF; simp [h9, h21, h46, h66, h86]; try rfl), ⟨by rw [ht9]; exact hP9, hD9⟩⟩, hS.F ht9⟩) hS.2.2 d_Tree_moveFault_95
        · refine lv_bipush (v := (-6)) hx hb d_Tree_moveFault_69 (by decide +kernel) ?_
          have hP9 : va_P D cl5 (wT g k L u (mvP L (dNow u) f0 i x) tl tp) H := (by rw [show mvP L (dNow u) f0 i x = f0 from by unfold mvP; simp [h9, h21, h46, h66]]; exact hP)
          have hD9 : va_D A (wT g k L u (mvP L (dNow u) f0 i x) tl tp) := (by rw [show mvP L (dNow u) f0 i x = f0 from by unfold mvP; simp [h9, h21, h46, h66]]; exact hD)
          exact W.iret (v := (-6)) hx hb hr (fun tt9 ht9 hW9 => ⟨⟨_, (), rfl, (by unfold mvF; simp [h9, h21, h46, h66]; try rfl), ⟨by rw [ht9]; exact hP9, hD9⟩⟩, hS.F ht9⟩) hS.2.2 d_Tree_moveFault_71
theorem d_Tree_commit_0 : decode b_Tree_commit 0 = .ok (.aload_n 0, 1) := by decide +kernel
theorem d_Tree_commit_1 : decode b_Tree_commit 1 = .ok (.getfield 12, 3) := by decide +kernel
theorem d_Tree_commit_4 : decode b_Tree_commit 4 = .ok (.invokevirtual 141, 3) := by decide +kernel
theorem d_Tree_commit_7 : decode b_Tree_commit 7 = .ok (.istore_n 1, 1) := by decide +kernel
theorem d_Tree_commit_8 : decode b_Tree_commit 8 = .ok (.aload_n 0, 1) := by decide +kernel
theorem d_Tree_commit_9 : decode b_Tree_commit 9 = .ok (.getfield 12, 3) := by decide +kernel
theorem d_Tree_commit_12 : decode b_Tree_commit 12 = .ok (.invokevirtual 51, 3) := by decide +kernel
theorem d_Tree_commit_15 : decode b_Tree_commit 15 = .ok (.iload_n 1, 1) := by decide +kernel
theorem d_Tree_commit_16 : decode b_Tree_commit 16 = .ok (.ireturn, 1) := by decide +kernel
set_option maxHeartbeats 4000000 in
set_option maxRecDepth 100000 in
theorem c_Tree_commit (l : Launch) (D : va_G) (g : Nat → Nat) (k : Nat → ClassId) (L : Nat) (hL0 : 96 ≤ L) (hL : L ≤ 768) (u : DSt) (f0 : Nat → Int32) (tl : Nat) (tp : Nat → Int32) : MuI l y_Tree_commit w_Tree_commit ({ frames := 4, cells := 0, slots := 0, locals := 125 }) [.ref (g 9)] D cl5 (tyC k) (wT g k L u f0 tl tp) (wT g k L (cmA L u) f0 tl tp) (nI (dct L (dDif u))) := by
  intro sz
  refine Met.ofW (cc := b_Tree_commit) (maxL := 2) (ret := (some .int)) (by decide) rfl ?_
  intro p e s m args below meth c s₁ B hml hv
  obtain ⟨rfl, hsz, hP, hK, hD0⟩ := hv
  have hx := B.exec
  have hb := B.bytes
  have hr := B.returns
  have hts := atoms_spec (ws := w_Tree_commit) B.pre
  have hTB : ∀ w ∈ lw_tb, w.before _ s = true := fun w h => hts w (List.mem_cons_of_mem _ h)
  have hown : s.vm.findClass R_Tree = some m.cls := findClass_of_methodNamed B.named
  have hlocks := B.notSynchronized
  subst hsz
  have hD := hD0.self (sz := s.heap.size)
  generalize hAe : va_A (wT g k L u f0 tl tp) s.heap.size = A at hD ⊢
  have hA : ∀ q : Nat, s.heap.size ≤ q → A q := fun q h => by rw [← hAe]; exact Or.inr h
  have hS : va_S A s.heap s.heap [] := va_S.rf
  have hl := lv_entry ([.ref (g 9)]) (n := 2) (Nat.le_of_ble_eq_true rfl)
  rw [lg_entry_eq]
  generalize (lg_sl ([.ref (g 9)]) ++ List.replicate (2 - (lg_sl ([.ref (g 9)])).length) Slot.unset).toArray = ls at hl ⊢
  have hl : lv_has ls 2 [(0, .ref (g 9))] := hl
  refine lv_aload_n hx hb d_Tree_commit_0 rfl (lv_at hl 0 rfl) ?_
  refine va_get (D := D) (ci := 3) (v := .ref (g 0)) (C := R_Tree) (T := T_Tree) (N := 5) hx hb hTB in_Tree hown hK hP 0 rfl rfl 0 (by decide) (hTB _ k_195) (fun _ h9 => h9) rfl d_Tree_commit_1 ?_
  refine gz_roV (As := []) (rest := []) (wc := (wD g k L u)) ⟨hx, hb, hml, hown, hTB⟩ (c_Disk_differingBlocks l D g k L hL0 hL u) (cwV 0 hTB (gd_V k_215 k_165 k_166 k_52 k_167) rfl rfl rfl (by decide +kernel) ⟨Nat.le_of_ble_eq_true rfl, Nat.le_of_ble_eq_true rfl⟩) hK hP [5, 6, 7, 8, 9, 10] rfl 5 rfl rfl rfl hl.1 rfl (Nat.le_of_ble_eq_true rfl) d_Tree_commit_4 ⟨Nat.zero_le _, Nat.zero_le _⟩ hS (fun H locs hP hS => ?_)
  have := dcG_le (dDif u) L 0
  have : dct L (dDif u) ≤ L := this
  refine lv_istore_n (lv' := [(1, .int (nI (dct L (dDif u)))), (0, .ref (g 9))]) hx hb d_Tree_commit_7 rfl hl (by decide) rfl (fun ls hl => ?_)
  refine lv_aload_n hx hb d_Tree_commit_8 rfl (lv_at hl 1 rfl) ?_
  refine va_get (D := D) (ci := 3) (v := .ref (g 0)) (C := R_Tree) (T := T_Tree) (N := 5) hx hb hTB in_Tree hown hK hP 0 rfl rfl 0 (by decide) (hTB _ k_195) (fun _ h9 => h9) rfl d_Tree_commit_9 ?_
  refine gz_muV (As := []) (rest := []) (wc := (wD g k L u)) (w1 := (wD g k L (cmA L u))) (wr := (hT g k tl tp ++ (hR g k f0 ++ hI g))) ⟨hx, hb, hml, hown, hTB⟩ (c_Disk_commitAll l D g k L hL0 hL u) (cwV 0 hTB (gd_V k_187 k_188 k_189 k_52 k_190) rfl rfl rfl (by decide +kernel) ⟨Nat.le_of_ble_eq_true rfl, Nat.le_of_ble_eq_true rfl⟩) hK hP hD hA [5, 6, 7, 8, 9, 10] [0, 1, 2, 3, 4] rfl rfl (by decide) rfl (by decide) (by decide) 5 rfl rfl rfl hl.1 rfl (Nat.le_of_ble_eq_true rfl) d_Tree_commit_12 ⟨Nat.zero_le _, Nat.zero_le _⟩ hS (fun H locs hP hD hS => ?_)
  have hP : va_P D cl5 (wT g k L (cmA L u) f0 tl tp) H := hP
  have hD : va_D A (wT g k L (cmA L u) f0 tl tp) := hD
  refine lv_iload_n hx hb d_Tree_commit_15 rfl (lv_at hl 0 rfl) ?_
  have hP9 : va_P D cl5 (wT g k L (cmA L u) f0 tl tp) H := hP
  have hD9 : va_D A (wT g k L (cmA L u) f0 tl tp) := hD
  exact W.iret (v := nI (dct L (dDif u))) hx hb hr (fun tt9 ht9 hW9 => ⟨⟨_, (), rfl, rfl, ⟨by rw [ht9]; exact hP9, hD9⟩⟩, hS.F ht9⟩) hS.2.2 d_Tree_commit_16
theorem d_Tree_drop_0 : decode b_Tree_drop 0 = .ok (.aload_n 0, 1) := by decide +kernel
theorem d_Tree_drop_1 : decode b_Tree_drop 1 = .ok (.getfield 12, 3) := by decide +kernel
theorem d_Tree_drop_4 : decode b_Tree_drop 4 = .ok (.invokevirtual 141, 3) := by decide +kernel
theorem d_Tree_drop_7 : decode b_Tree_drop 7 = .ok (.istore_n 1, 1) := by decide +kernel
theorem d_Tree_drop_8 : decode b_Tree_drop 8 = .ok (.aload_n 0, 1) := by decide +kernel
theorem d_Tree_drop_9 : decode b_Tree_drop 9 = .ok (.getfield 12, 3) := by decide +kernel
theorem d_Tree_drop_12 : decode b_Tree_drop 12 = .ok (.invokevirtual 144, 3) := by decide +kernel
theorem d_Tree_drop_15 : decode b_Tree_drop 15 = .ok (.iload_n 1, 1) := by decide +kernel
theorem d_Tree_drop_16 : decode b_Tree_drop 16 = .ok (.ireturn, 1) := by decide +kernel
set_option maxHeartbeats 4000000 in
set_option maxRecDepth 100000 in
theorem c_Tree_drop (l : Launch) (D : va_G) (g : Nat → Nat) (k : Nat → ClassId) (L : Nat) (hL0 : 96 ≤ L) (hL : L ≤ 768) (u : DSt) (f0 : Nat → Int32) (tl : Nat) (tp : Nat → Int32) : MuI l y_Tree_drop w_Tree_drop ({ frames := 4, cells := 0, slots := 0, locals := 125 }) [.ref (g 9)] D cl5 (tyC k) (wT g k L u f0 tl tp) (wT g k L (drA L u) f0 tl tp) (nI (dct L (dDif u))) := by
  intro sz
  refine Met.ofW (cc := b_Tree_drop) (maxL := 2) (ret := (some .int)) (by decide) rfl ?_
  intro p e s m args below meth c s₁ B hml hv
  obtain ⟨rfl, hsz, hP, hK, hD0⟩ := hv
  have hx := B.exec
  have hb := B.bytes
  have hr := B.returns
  have hts := atoms_spec (ws := w_Tree_drop) B.pre
  have hTB : ∀ w ∈ lw_tb, w.before _ s = true := fun w h => hts w (List.mem_cons_of_mem _ h)
  have hown : s.vm.findClass R_Tree = some m.cls := findClass_of_methodNamed B.named
  have hlocks := B.notSynchronized
  subst hsz
  have hD := hD0.self (sz := s.heap.size)
  generalize hAe : va_A (wT g k L u f0 tl tp) s.heap.size = A at hD ⊢
  have hA : ∀ q : Nat, s.heap.size ≤ q → A q := fun q h => by rw [← hAe]; exact Or.inr h
  have hS : va_S A s.heap s.heap [] := va_S.rf
  have hl := lv_entry ([.ref (g 9)]) (n := 2) (Nat.le_of_ble_eq_true rfl)
  rw [lg_entry_eq]
  generalize (lg_sl ([.ref (g 9)]) ++ List.replicate (2 - (lg_sl ([.ref (g 9)])).length) Slot.unset).toArray = ls at hl ⊢
  have hl : lv_has ls 2 [(0, .ref (g 9))] := hl
  refine lv_aload_n hx hb d_Tree_drop_0 rfl (lv_at hl 0 rfl) ?_
  refine va_get (D := D) (ci := 3) (v := .ref (g 0)) (C := R_Tree) (T := T_Tree) (N := 5) hx hb hTB in_Tree hown hK hP 0 rfl rfl 0 (by decide) (hTB _ k_195) (fun _ h9 => h9) rfl d_Tree_drop_1 ?_
  refine gz_roV (As := []) (rest := []) (wc := (wD g k L u)) ⟨hx, hb, hml, hown, hTB⟩ (c_Disk_differingBlocks l D g k L hL0 hL u) (cwV 0 hTB (gd_V k_215 k_165 k_166 k_52 k_167) rfl rfl rfl (by decide +kernel) ⟨Nat.le_of_ble_eq_true rfl, Nat.le_of_ble_eq_true rfl⟩) hK hP [5, 6, 7, 8, 9, 10] rfl 5 rfl rfl rfl hl.1 rfl (Nat.le_of_ble_eq_true rfl) d_Tree_drop_4 ⟨Nat.zero_le _, Nat.zero_le _⟩ hS (fun H locs hP hS => ?_)
  have := dcG_le (dDif u) L 0
  have : dct L (dDif u) ≤ L := this
  refine lv_istore_n (lv' := [(1, .int (nI (dct L (dDif u)))), (0, .ref (g 9))]) hx hb d_Tree_drop_7 rfl hl (by decide) rfl (fun ls hl => ?_)
  refine lv_aload_n hx hb d_Tree_drop_8 rfl (lv_at hl 1 rfl) ?_
  refine va_get (D := D) (ci := 3) (v := .ref (g 0)) (C := R_Tree) (T := T_Tree) (N := 5) hx hb hTB in_Tree hown hK hP 0 rfl rfl 0 (by decide) (hTB _ k_195) (fun _ h9 => h9) rfl d_Tree_drop_9 ?_
  refine gz_muV (As := []) (rest := []) (wc := (wD g k L u)) (w1 := (wD g k L (drA L u))) (wr := (hT g k tl tp ++ (hR g k f0 ++ hI g))) ⟨hx, hb, hml, hown, hTB⟩ (c_Disk_dropAll l D g k L hL0 hL u) (cwV 0 hTB (gd_V k_220 k_221 k_222 k_52 k_223) rfl rfl rfl (by decide +kernel) ⟨Nat.le_of_ble_eq_true rfl, Nat.le_of_ble_eq_true rfl⟩) hK hP hD hA [5, 6, 7, 8, 9, 10] [0, 1, 2, 3, 4] rfl rfl (by decide) rfl (by decide) (by decide) 5 rfl rfl rfl hl.1 rfl (Nat.le_of_ble_eq_true rfl) d_Tree_drop_12 ⟨Nat.zero_le _, Nat.zero_le _⟩ hS (fun H locs hP hD hS => ?_)
  have hP : va_P D cl5 (wT g k L (drA L u) f0 tl tp) H := hP
  have hD : va_D A (wT g k L (drA L u) f0 tl tp) := hD
  refine lv_iload_n hx hb d_Tree_drop_15 rfl (lv_at hl 0 rfl) ?_
  have hP9 : va_P D cl5 (wT g k L (drA L u) f0 tl tp) H := hP
  have hD9 : va_D A (wT g k L (drA L u) f0 tl tp) := hD
  exact W.iret (v := nI (dct L (dDif u))) hx hb hr (fun tt9 ht9 hW9 => ⟨⟨_, (), rfl, rfl, ⟨by rw [ht9]; exact hP9, hD9⟩⟩, hS.F ht9⟩) hS.2.2 d_Tree_drop_16
