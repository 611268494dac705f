theorem d_Dirs_entryNamed_0 : decode b_Dirs_entryNamed 0 = .ok (.aload_n 0, 1) := by decide +kernel
theorem d_Dirs_entryNamed_1 : decode b_Dirs_entryNamed 1 = .ok (.getfield 15, 3) := by decide +kernel
theorem d_Dirs_entryNamed_4 : decode b_Dirs_entryNamed 4 = .ok (.iload_n 1, 1) := by decide +kernel
theorem d_Dirs_entryNamed_5 : decode b_Dirs_entryNamed 5 = .ok (.invokevirtual 23, 3) := by decide +kernel
theorem d_Dirs_entryNamed_8 : decode b_Dirs_entryNamed 8 = .ok (.istore_n 3, 1) := by decide +kernel
theorem d_Dirs_entryNamed_9 : decode b_Dirs_entryNamed 9 = .ok (.iconst 0, 1) := by decide +kernel
theorem d_Dirs_entryNamed_10 : decode b_Dirs_entryNamed 10 = .ok (.istore 4, 2) := by decide +kernel
theorem d_Dirs_entryNamed_12 : decode b_Dirs_entryNamed 12 = .ok (.iload 4, 2) := by decide +kernel
theorem d_Dirs_entryNamed_14 : decode b_Dirs_entryNamed 14 = .ok (.iload_n 3, 1) := by decide +kernel
theorem d_Dirs_entryNamed_15 : decode b_Dirs_entryNamed 15 = .ok (.if_icmp .ge 37, 3) := by decide +kernel
theorem d_Dirs_entryNamed_18 : decode b_Dirs_entryNamed 18 = .ok (.aload_n 0, 1) := by decide +kernel
theorem d_Dirs_entryNamed_19 : decode b_Dirs_entryNamed 19 = .ok (.getfield 15, 3) := by decide +kernel
theorem d_Dirs_entryNamed_22 : decode b_Dirs_entryNamed 22 = .ok (.iload_n 1, 1) := by decide +kernel
theorem d_Dirs_entryNamed_23 : decode b_Dirs_entryNamed 23 = .ok (.iload 4, 2) := by decide +kernel
theorem d_Dirs_entryNamed_25 : decode b_Dirs_entryNamed 25 = .ok (.invokevirtual 29, 3) := by decide +kernel
theorem d_Dirs_entryNamed_28 : decode b_Dirs_entryNamed 28 = .ok (.istore 5, 2) := by decide +kernel
theorem d_Dirs_entryNamed_30 : decode b_Dirs_entryNamed 30 = .ok (.aload_n 0, 1) := by decide +kernel
theorem d_Dirs_entryNamed_31 : decode b_Dirs_entryNamed 31 = .ok (.getfield 9, 3) := by decide +kernel
theorem d_Dirs_entryNamed_34 : decode b_Dirs_entryNamed 34 = .ok (.iload 5, 2) := by decide +kernel
theorem d_Dirs_entryNamed_36 : decode b_Dirs_entryNamed 36 = .ok (.invokevirtual 33, 3) := by decide +kernel
theorem d_Dirs_entryNamed_39 : decode b_Dirs_entryNamed 39 = .ok (.iload_n 2, 1) := by decide +kernel
theorem d_Dirs_entryNamed_40 : decode b_Dirs_entryNamed 40 = .ok (.if_icmp .ne 6, 3) := by decide +kernel
theorem d_Dirs_entryNamed_43 : decode b_Dirs_entryNamed 43 = .ok (.iload 5, 2) := by decide +kernel
theorem d_Dirs_entryNamed_45 : decode b_Dirs_entryNamed 45 = .ok (.ireturn, 1) := by decide +kernel
theorem d_Dirs_entryNamed_46 : decode b_Dirs_entryNamed 46 = .ok (.iinc 4 4, 3) := by decide +kernel
theorem d_Dirs_entryNamed_49 : decode b_Dirs_entryNamed 49 = .ok (.goto (-37), 3) := by decide +kernel
theorem d_Dirs_entryNamed_52 : decode b_Dirs_entryNamed 52 = .ok (.iconst (-1), 1) := by decide +kernel
theorem d_Dirs_entryNamed_53 : decode b_Dirs_entryNamed 53 = .ok (.ireturn, 1) := by decide +kernel
set_option maxHeartbeats 4000000 in
set_option maxRecDepth 100000 in
theorem c_Dirs_entryNamed (l : Launch) (D : va_G) (g : Nat → Nat) (k : Nat → ClassId) (L : Nat) (hL0 : 96 ≤ L) (hL : L ≤ 768) (u : DSt) (f0 : Nat → Int32) (d w : Nat) (hw0 : w < 65536) : RoI l y_Dirs_entryNamed w_Dirs_entryNamed ({ frames := 4, cells := 0, slots := 0, locals := 90 }) [.ref (g 7), .int (nI d), .int (nI w)] (RoP D cl5 (tyC k) (wR g k L u f0)) (ent L (dNow u) d w) := by
  refine Met.ofW (cc := b_Dirs_entryNamed) (maxL := 6) (ret := (some .int)) (by decide) rfl ?_
  intro p e s m args below meth c s₁ B hml hv
  obtain ⟨rfl, hP, hK⟩ := hv
  have hx := B.exec
  have hb := B.bytes
  have hr := B.returns
  have hts := atoms_spec (ws := w_Dirs_entryNamed) B.pre
  have hTB : ∀ w ∈ lw_tb, w.before _ s = true := fun w h => hts w (List.mem_cons_of_mem _ h)
  have hown : s.vm.findClass R_Dirs = some m.cls := findClass_of_methodNamed B.named
  have hlocks := B.notSynchronized
  have hS : va_S (fun _ => False) s.heap s.heap [] := va_S.rf
  have hl := lv_entry ([.ref (g 7), .int (nI d), .int (nI w)]) (n := 6) (Nat.le_of_ble_eq_true rfl)
  rw [lg_entry_eq]
  generalize (lg_sl ([.ref (g 7), .int (nI d), .int (nI w)]) ++ List.replicate (6 - (lg_sl ([.ref (g 7), .int (nI d), .int (nI w)])).length) Slot.unset).toArray = ls at hl ⊢
  have hl : lv_has ls 6 [(0, .ref (g 7)), (1, .int (nI d)), (2, .int (nI w))] := hl
  refine lv_aload_n hx hb d_Dirs_entryNamed_0 rfl (lv_at hl 0 rfl) ?_
  refine va_get (D := D) (ci := 0) (v := .ref (g 6)) (C := R_Dirs) (T := T_Dirs) (N := 3) hx hb hTB in_Dirs hown hK hP 0 rfl rfl 1 (by decide) (hTB _ k_133) (fun _ h9 => h9) rfl d_Dirs_entryNamed_1 ?_
  refine lv_iload_n hx hb d_Dirs_entryNamed_4 rfl (lv_at hl 1 rfl) ?_
  refine gz_roV (As := [.int (nI d)]) (rest := []) (wc := (wI g k L u)) ⟨hx, hb, hml, hown, hTB⟩ (c_Inodes_size l D g k L hL0 hL u d) (cwV 1 hTB (gd_V k_352 k_353 k_354 k_54 k_355) rfl rfl rfl (by decide +kernel) ⟨Nat.le_of_ble_eq_true rfl, Nat.le_of_ble_eq_true rfl⟩) hK hP [2, 3, 4, 5, 6, 7, 8] rfl 2 rfl rfl rfl hl.1 rfl (Nat.le_of_ble_eq_true rfl) d_Dirs_entryNamed_5 ⟨Nat.zero_le _, Nat.zero_le _⟩ hS (fun H locs hP hS => ?_)
  have := iS_lt L (dNow u) d
  refine lv_istore_n (lv' := [(3, .int (nI (iS L (dNow u) d))), (0, .ref (g 7)), (1, .int (nI d)), (2, .int (nI w))]) hx hb d_Dirs_entryNamed_8 rfl hl (by decide) rfl (fun ls hl => ?_)
  refine lv_iconst (v := nI 0) hx hb d_Dirs_entryNamed_9 (by decide +kernel) ?_
  refine lv_istore (lv' := [(4, .int (nI 0)), (3, .int (nI (iS L (dNow u) d))), (0, .ref (g 7)), (1, .int (nI d)), (2, .int (nI w))]) hx hb d_Dirs_entryNamed_10 hl (by decide) rfl (fun ls hl => ?_)
  refine gz_loop 12 (fun (zz : Nat) H locs ls => match zz with | t => va_P D cl5 (wR g k L u f0) H ∧ va_S (fun _ => False) s.heap H locs ∧ lv_has ls 6 [(0, .ref (g 7)), (1, .int (nI d)), (2, .int (nI w)), (3, .int (nI (iS L (dNow u) d))), (4, .int (nI t))] ∧ (t ≤ iS L (dNow u) d + 3) ∧ (enG L (dNow u) d w ((iS L (dNow u) d + 3 - t) / 4) t = ent L (dNow u) d w)) (fun (zz : Nat) => match zz with | t => iS L (dNow u) d + 3 - t) (fun zz H locs ls hI ih12 => ?_) (0) ⟨hP, hS, lv_sub hl [2, 3, 4, 1, 0] rfl, (by omega), rfl⟩
  obtain ⟨t, rfl⟩ : ∃ z, z = zz := ⟨_, rfl⟩
  obtain ⟨hP, hS, hl, ht1, ht2⟩ := hI
  refine lv_iload hx hb d_Dirs_entryNamed_12 (lv_at hl 4 rfl) ?_
  refine lv_iload_n hx hb d_Dirs_entryNamed_14 rfl (lv_at hl 3 rfl) ?_
  refine gz_icmp_ge (tgt := 52) hx hb d_Dirs_entryNamed_15 (by decide) (by omega) (by omega) (fun h15 => ?_) (fun h15 => ?_)
  · refine lv_iconst (v := (-1)) hx hb d_Dirs_entryNamed_52 (by decide +kernel) ?_
    exact W.iret (v := (-1)) hx hb hr (fun tt9 ht9 hW9 => ⟨⟨_, (), rfl, (by rw [← ht2, show (iS L (dNow u) d + 3 - t) / 4 = 0 by omega]; rfl), trivial⟩, hS.F ht9⟩) hS.2.2 d_Dirs_entryNamed_53
  · refine lv_aload_n hx hb d_Dirs_entryNamed_18 rfl (lv_at hl 0 rfl) ?_
    refine va_get (D := D) (ci := 0) (v := .ref (g 6)) (C := R_Dirs) (T := T_Dirs) (N := 3) hx hb hTB in_Dirs hown hK hP 0 rfl rfl 1 (by decide) (hTB _ k_133) (fun _ h9 => h9) rfl d_Dirs_entryNamed_19 ?_
    refine lv_iload_n hx hb d_Dirs_entryNamed_22 rfl (lv_at hl 1 rfl) ?_
    refine lv_iload hx hb d_Dirs_entryNamed_23 (lv_at hl 4 rfl) ?_
    refine gz_roV (As := [.int (nI d), .int (nI t)]) (rest := []) (wc := (wI g k L u)) ⟨hx, hb, hml, hown, hTB⟩ (c_Inodes_placeOf l D g k L hL0 hL u d t (by omega)) (cwV 2 hTB (gd_V k_361 k_362 k_363 k_54 k_364) rfl rfl rfl (by decide +kernel) ⟨Nat.le_of_ble_eq_true rfl, Nat.le_of_ble_eq_true rfl⟩) hK hP [2, 3, 4, 5, 6, 7, 8] rfl 2 rfl rfl rfl hl.1 rfl (Nat.le_of_ble_eq_true rfl) d_Dirs_entryNamed_25 ⟨Nat.zero_le _, Nat.zero_le _⟩ hS (fun H locs hP hS => ?_)
    refine lv_istore (lv' := [(5, .int (plc L (dNow u) d t)), (0, .ref (g 7)), (1, .int (nI d)), (2, .int (nI w)), (3, .int (nI (iS L (dNow u) d))), (4, .int (nI t))]) hx hb d_Dirs_entryNamed_28 hl (by decide) rfl (fun ls hl => ?_)
    refine lv_aload_n hx hb d_Dirs_entryNamed_30 rfl (lv_at hl 1 rfl) ?_
    refine va_get (D := D) (ci := 0) (v := .ref (g 0)) (C := R_Dirs) (T := T_Dirs) (N := 3) hx hb hTB in_Dirs hown hK hP 0 rfl rfl 0 (by decide) (hTB _ k_132) (fun _ h9 => h9) rfl d_Dirs_entryNamed_31 ?_
    refine lv_iload hx hb d_Dirs_entryNamed_34 (lv_at hl 0 rfl) ?_
    refine gz_roV (As := [.int (plc L (dNow u) d t)]) (rest := []) (wc := (wD g k L u)) ⟨hx, hb, hml, hown, hTB⟩ (c_Disk_pairAt l D g k L hL0 hL u (plc L (dNow u) d t)) (cwV 1 hTB (gd_V k_380 k_357 k_358 k_52 k_359) rfl rfl rfl (by decide +kernel) ⟨Nat.le_of_ble_eq_true rfl, Nat.le_of_ble_eq_true rfl⟩) hK hP [3, 4, 5, 6, 7, 8] rfl 3 rfl rfl rfl hl.1 rfl (Nat.le_of_ble_eq_true rfl) d_Dirs_entryNamed_36 ⟨Nat.zero_le _, Nat.zero_le _⟩ hS (fun H locs hP hS => ?_)
    have := pN_lt L (dNow u) (plc L (dNow u) d t)
    refine lv_iload_n hx hb d_Dirs_entryNamed_39 rfl (lv_at hl 3 rfl) ?_
    refine gz_icmp_ne (tgt := 46) hx hb d_Dirs_entryNamed_40 (by decide) (by omega) (by omega) (fun h40 => ?_) (fun h40 => ?_)
    · refine lv_iinc (v := nI (t + 4)) (lv' := [(4, .int (nI (t + 4))), (5, .int (plc L (dNow u) d t)), (0, .ref (g 7)), (1, .int (nI d)), (2, .int (nI w)), (3, .int (nI (iS L (dNow u) d)))]) hx hb d_Dirs_entryNamed_46 hl (k := 5) rfl (nI_add t 4) (by decide) rfl (fun ls hl => ?_)
      refine lv_goto (tgt := 12) hx hb d_Dirs_entryNamed_49 (by decide) ?_
      exact ih12 (t + 4) _ _ _ (by first | omega | (dsimp only; omega)) ⟨hP, hS, lv_sub hl [2, 3, 4, 5, 0] rfl, (by omega), (by rw [← ht2, show (iS L (dNow u) d + 3 - t) / 4 = (iS L (dNow u) d + 3 - (t + 4)) / 4 + 1 by omega, enG, if_neg h40])⟩
    · refine lv_iload hx hb d_Dirs_entryNamed_43 (lv_at hl 0 rfl) ?_
      exact W.iret (v := plc L (dNow u) d t) hx hb hr (fun tt9 ht9 hW9 => ⟨⟨_, (), rfl, (by rw [← ht2, show (iS L (dNow u) d + 3 - t) / 4 = (iS L (dNow u) d + 3 - (t + 4)) / 4 + 1 by omega, enG, if_pos h40]), trivial⟩, hS.F ht9⟩) hS.2.2 d_Dirs_entryNamed_45
theorem d_Dirs_inodeOf_0 : decode b_Dirs_inodeOf 0 = .ok (.aload_n 0, 1) := by decide +kernel
theorem d_Dirs_inodeOf_1 : decode b_Dirs_inodeOf 1 = .ok (.getfield 9, 3) := by decide +kernel
theorem d_Dirs_inodeOf_4 : decode b_Dirs_inodeOf 4 = .ok (.iload_n 1, 1) := by decide +kernel
theorem d_Dirs_inodeOf_5 : decode b_Dirs_inodeOf 5 = .ok (.iconst 2, 1) := by decide +kernel
theorem d_Dirs_inodeOf_6 : decode b_Dirs_inodeOf 6 = .ok (.iadd, 1) := by decide +kernel
theorem d_Dirs_inodeOf_7 : decode b_Dirs_inodeOf 7 = .ok (.invokevirtual 38, 3) := by decide +kernel
theorem d_Dirs_inodeOf_10 : decode b_Dirs_inodeOf 10 = .ok (.ireturn, 1) := by decide +kernel
set_option maxHeartbeats 4000000 in
set_option maxRecDepth 100000 in
theorem c_Dirs_inodeOf (l : Launch) (D : va_G) (g : Nat → Nat) (k : Nat → ClassId) (L : Nat) (hL0 : 96 ≤ L) (hL : L ≤ 768) (u : DSt) (f0 : Nat → Int32) (x : Int32) : RoI l y_Dirs_inodeOf w_Dirs_inodeOf ({ frames := 1, cells := 0, slots := 0, locals := 21 }) [.ref (g 7), .int (x)] (RoP D cl5 (tyC k) (wR g k L u f0)) (nI (ino L (dNow u) x)) := by
  refine Met.ofW (cc := b_Dirs_inodeOf) (maxL := 2) (ret := (some .int)) (by decide) rfl ?_
  intro p e s m args below meth c s₁ B hml hv
  obtain ⟨rfl, hP, hK⟩ := hv
  have hx := B.exec
  have hb := B.bytes
  have hr := B.returns
  have hts := atoms_spec (ws := w_Dirs_inodeOf) B.pre
  have hTB : ∀ w ∈ lw_tb, w.before _ s = true := fun w h => hts w (List.mem_cons_of_mem _ h)
  have hown : s.vm.findClass R_Dirs = some m.cls := findClass_of_methodNamed B.named
  have hlocks := B.notSynchronized
  have hS : va_S (fun _ => False) s.heap s.heap [] := va_S.rf
  have hl := lv_entry ([.ref (g 7), .int (x)]) (n := 2) (Nat.le_of_ble_eq_true rfl)
  rw [lg_entry_eq]
  generalize (lg_sl ([.ref (g 7), .int (x)]) ++ List.replicate (2 - (lg_sl ([.ref (g 7), .int (x)])).length) Slot.unset).toArray = ls at hl ⊢
  have hl : lv_has ls 2 [(0, .ref (g 7)), (1, .int (x))] := hl
  refine lv_aload_n hx hb d_Dirs_inodeOf_0 rfl (lv_at hl 0 rfl) ?_
  refine va_get (D := D) (ci := 0) (v := .ref (g 0)) (C := R_Dirs) (T := T_Dirs) (N := 3) hx hb hTB in_Dirs hown hK hP 0 rfl rfl 0 (by decide) (hTB _ k_132) (fun _ h9 => h9) rfl d_Dirs_inodeOf_1 ?_
  refine lv_iload_n hx hb d_Dirs_inodeOf_4 rfl (lv_at hl 1 rfl) ?_
  refine lv_iconst (v := nI 2) hx hb d_Dirs_inodeOf_5 (by decide +kernel) ?_
  refine lv_iadd hx hb d_Dirs_inodeOf_6 ?_
  refine gz_roV (As := [.int (x + (nI 2))]) (rest := []) (wc := (wD g k L u)) ⟨hx, hb, hml, hown, hTB⟩ (c_Disk_byteAt l D g k L hL0 hL u (x + (nI 2))) (cwV 1 hTB (gd_V k_454 k_345 k_346 k_52 k_347) rfl rfl rfl (by decide +kernel) ⟨Nat.le_of_ble_eq_true rfl, Nat.le_of_ble_eq_true rfl⟩) hK hP [3, 4, 5, 6, 7, 8] rfl 3 rfl rfl rfl hl.1 rfl (Nat.le_of_ble_eq_true rfl) d_Dirs_inodeOf_7 ⟨Nat.zero_le _, Nat.zero_le _⟩ hS (fun H locs hP hS => ?_)
  have := bN_lt L (dNow u) (x + (nI 2))
  exact W.iret (v := nI (bN L (dNow u) (x + (nI 2)))) hx hb hr (fun tt9 ht9 hW9 => ⟨⟨_, (), rfl, rfl, trivial⟩, hS.F ht9⟩) hS.2.2 d_Dirs_inodeOf_10
theorem d_Dirs_isEmpty_0 : decode b_Dirs_isEmpty 0 = .ok (.aload_n 0, 1) := by decide +kernel
theorem d_Dirs_isEmpty_1 : decode b_Dirs_isEmpty 1 = .ok (.getfield 15, 3) := by decide +kernel
theorem d_Dirs_isEmpty_4 : decode b_Dirs_isEmpty 4 = .ok (.iload_n 1, 1) := by decide +kernel
theorem d_Dirs_isEmpty_5 : decode b_Dirs_isEmpty 5 = .ok (.invokevirtual 23, 3) := by decide +kernel
theorem d_Dirs_isEmpty_8 : decode b_Dirs_isEmpty 8 = .ok (.istore_n 2, 1) := by decide +kernel
theorem d_Dirs_isEmpty_9 : decode b_Dirs_isEmpty 9 = .ok (.iconst 0, 1) := by decide +kernel
theorem d_Dirs_isEmpty_10 : decode b_Dirs_isEmpty 10 = .ok (.istore_n 3, 1) := by decide +kernel
theorem d_Dirs_isEmpty_11 : decode b_Dirs_isEmpty 11 = .ok (.iload_n 3, 1) := by decide +kernel
theorem d_Dirs_isEmpty_12 : decode b_Dirs_isEmpty 12 = .ok (.iload_n 2, 1) := by decide +kernel
theorem d_Dirs_isEmpty_13 : decode b_Dirs_isEmpty 13 = .ok (.if_icmp .ge 30, 3) := by decide +kernel
theorem d_Dirs_isEmpty_16 : decode b_Dirs_isEmpty 16 = .ok (.aload_n 0, 1) := by decide +kernel
theorem d_Dirs_isEmpty_17 : decode b_Dirs_isEmpty 17 = .ok (.getfield 9, 3) := by decide +kernel
theorem d_Dirs_isEmpty_20 : decode b_Dirs_isEmpty 20 = .ok (.aload_n 0, 1) := by decide +kernel
theorem d_Dirs_isEmpty_21 : decode b_Dirs_isEmpty 21 = .ok (.getfield 15, 3) := by decide +kernel
theorem d_Dirs_isEmpty_24 : decode b_Dirs_isEmpty 24 = .ok (.iload_n 1, 1) := by decide +kernel
theorem d_Dirs_isEmpty_25 : decode b_Dirs_isEmpty 25 = .ok (.iload_n 3, 1) := by decide +kernel
theorem d_Dirs_isEmpty_26 : decode b_Dirs_isEmpty 26 = .ok (.invokevirtual 29, 3) := by decide +kernel
theorem d_Dirs_isEmpty_29 : decode b_Dirs_isEmpty 29 = .ok (.invokevirtual 33, 3) := by decide +kernel
theorem d_Dirs_isEmpty_32 : decode b_Dirs_isEmpty 32 = .ok (.ifCond .eq 5, 3) := by decide +kernel
theorem d_Dirs_isEmpty_35 : decode b_Dirs_isEmpty 35 = .ok (.iconst 0, 1) := by decide +kernel
theorem d_Dirs_isEmpty_36 : decode b_Dirs_isEmpty 36 = .ok (.ireturn, 1) := by decide +kernel
theorem d_Dirs_isEmpty_37 : decode b_Dirs_isEmpty 37 = .ok (.iinc 3 4, 3) := by decide +kernel
theorem d_Dirs_isEmpty_40 : decode b_Dirs_isEmpty 40 = .ok (.goto (-29), 3) := by decide +kernel
theorem d_Dirs_isEmpty_43 : decode b_Dirs_isEmpty 43 = .ok (.iconst 1, 1) := by decide +kernel
theorem d_Dirs_isEmpty_44 : decode b_Dirs_isEmpty 44 = .ok (.ireturn, 1) := by decide +kernel
set_option maxHeartbeats 4000000 in
set_option maxRecDepth 100000 in
theorem c_Dirs_isEmpty (l : Launch) (D : va_G) (g : Nat → Nat) (k : Nat → ClassId) (L : Nat) (hL0 : 96 ≤ L) (hL : L ≤ 768) (u : DSt) (f0 : Nat → Int32) (d : Nat) : RoI l y_Dirs_isEmpty w_Dirs_isEmpty ({ frames := 4, cells := 0, slots := 0, locals := 90 }) [.ref (g 7), .int (nI d)] (RoP D cl5 (tyC k) (wR g k L u f0)) (zI (emp L (dNow u) d)) := by
  refine Met.ofW (cc := b_Dirs_isEmpty) (maxL := 4) (ret := (some .boolean)) (by decide) rfl ?_
  intro p e s m args below meth c s₁ B hml hv
  obtain ⟨rfl, hP, hK⟩ := hv
  have hx := B.exec
  have hb := B.bytes
  have hr := B.returns
  have hts := atoms_spec (ws := w_Dirs_isEmpty) B.pre
  have hTB : ∀ w ∈ lw_tb, w.before _ s = true := fun w h => hts w (List.mem_cons_of_mem _ h)
  have hown : s.vm.findClass R_Dirs = some m.cls := findClass_of_methodNamed B.named
  have hlocks := B.notSynchronized
  have hS : va_S (fun _ => False) s.heap s.heap [] := va_S.rf
  have hl := lv_entry ([.ref (g 7), .int (nI d)]) (n := 4) (Nat.le_of_ble_eq_true rfl)
  rw [lg_entry_eq]
  generalize (lg_sl ([.ref (g 7), .int (nI d)]) ++ List.replicate (4 - (lg_sl ([.ref (g 7), .int (nI d)])).length) Slot.unset).toArray = ls at hl ⊢
  have hl : lv_has ls 4 [(0, .ref (g 7)), (1, .int (nI d))] := hl
  refine lv_aload_n hx hb d_Dirs_isEmpty_0 rfl (lv_at hl 0 rfl) ?_
  refine va_get (D := D) (ci := 0) (v := .ref (g 6)) (C := R_Dirs) (T := T_Dirs) (N := 3) hx hb hTB in_Dirs hown hK hP 0 rfl rfl 1 (by decide) (hTB _ k_133) (fun _ h9 => h9) rfl d_Dirs_isEmpty_1 ?_
  refine lv_iload_n hx hb d_Dirs_isEmpty_4 rfl (lv_at hl 1 rfl) ?_
  refine gz_roV (As := [.int (nI d)]) (rest := []) (wc := (wI g k L u)) ⟨hx, hb, hml, hown, hTB⟩ (c_Inodes_size l D g k L hL0 hL u d) (cwV 1 hTB (gd_V k_352 k_353 k_354 k_54 k_355) rfl rfl rfl (by decide +kernel) ⟨Nat.le_of_ble_eq_true rfl, Nat.le_of_ble_eq_true rfl⟩) hK hP [2, 3, 4, 5, 6, 7, 8] rfl 2 rfl rfl rfl hl.1 rfl (Nat.le_of_ble_eq_true rfl) d_Dirs_isEmpty_5 ⟨Nat.zero_le _, Nat.zero_le _⟩ hS (fun H locs hP hS => ?_)
  have := iS_lt L (dNow u) d
  refine lv_istore_n (lv' := [(2, .int (nI (iS L (dNow u) d))), (0, .ref (g 7)), (1, .int (nI d))]) hx hb d_Dirs_isEmpty_8 rfl hl (by decide) rfl (fun ls hl => ?_)
  refine lv_iconst (v := nI 0) hx hb d_Dirs_isEmpty_9 (by decide +kernel) ?_
  refine lv_istore_n (lv' := [(3, .int (nI 0)), (2, .int (nI (iS L (dNow u) d))), (0, .ref (g 7)), (1, .int (nI d))]) hx hb d_Dirs_isEmpty_10 rfl hl (by decide) rfl (fun ls hl => ?_)
  refine gz_loop 11 (fun (zz : Nat) H locs ls => match zz with | t => va_P D cl5 (wR g k L u f0) H ∧ va_S (fun _ => False) s.heap H locs ∧ lv_has ls 4 [(0, .ref (g 7)), (1, .int (nI d)), (2, .int (nI (iS L (dNow u) d))), (3, .int (nI t))] ∧ (t ≤ iS L (dNow u) d + 3) ∧ (emG L (dNow u) d ((iS L (dNow u) d + 3 - t) / 4) t = emp L (dNow u) d)) (fun (zz : Nat) => match zz with | t => iS L (dNow u) d + 3 - t) (fun zz H locs ls hI ih11 => ?_) (0) ⟨hP, hS, lv_sub hl [2, 3, 1, 0] rfl, (by omega), rfl⟩
  obtain ⟨t, rfl⟩ : ∃ z, z = zz := ⟨_, rfl⟩
  obtain ⟨hP, hS, hl, ht1, ht2⟩ := hI
  refine lv_iload_n hx hb d_Dirs_isEmpty_11 rfl (lv_at hl 3 rfl) ?_
  refine lv_iload_n hx hb d_Dirs_isEmpty_12 rfl (lv_at hl 2 rfl) ?_
  refine gz_icmp_ge (tgt := 43) hx hb d_Dirs_isEmpty_13 (by decide) (by omega) (by omega) (fun h13 => ?_) (fun h13 => ?_)
  · refine lv_iconst (v := nI 1) hx hb d_Dirs_isEmpty_43 (by decide +kernel) ?_
    exact W.zret (v := nI 1) (ty := .boolean) hx hb hr (by decide +kernel) (fun tt9 ht9 hW9 => ⟨⟨_, (), rfl, (by rw [← ht2, show (iS L (dNow u) d + 3 - t) / 4 = 0 by omega]; rfl), trivial⟩, hS.F ht9⟩) hS.2.2 d_Dirs_isEmpty_44
  · refine lv_aload_n hx hb d_Dirs_isEmpty_16 rfl (lv_at hl 0 rfl) ?_
    refine va_get (D := D) (ci := 0) (v := .ref (g 0)) (C := R_Dirs) (T := T_Dirs) (N := 3) hx hb hTB in_Dirs hown hK hP 0 rfl rfl 0 (by decide) (hTB _ k_132) (fun _ h9 => h9) rfl d_Dirs_isEmpty_17 ?_
    refine lv_aload_n hx hb d_Dirs_isEmpty_20 rfl (lv_at hl 0 rfl) ?_
    refine va_get (D := D) (ci := 0) (v := .ref (g 6)) (C := R_Dirs) (T := T_Dirs) (N := 3) hx hb hTB in_Dirs hown hK hP 0 rfl rfl 1 (by decide) (hTB _ k_133) (fun _ h9 => h9) rfl d_Dirs_isEmpty_21 ?_
    refine lv_iload_n hx hb d_Dirs_isEmpty_24 rfl (lv_at hl 1 rfl) ?_
    refine lv_iload_n hx hb d_Dirs_isEmpty_25 rfl (lv_at hl 3 rfl) ?_
    refine gz_roV (As := [.int (nI d), .int (nI t)]) (rest := [.ref (g 0)]) (wc := (wI g k L u)) ⟨hx, hb, hml, hown, hTB⟩ (c_Inodes_placeOf l D g k L hL0 hL u d t (by omega)) (cwV 2 hTB (gd_V k_361 k_362 k_363 k_54 k_364) rfl rfl rfl (by decide +kernel) ⟨Nat.le_of_ble_eq_true rfl, Nat.le_of_ble_eq_true rfl⟩) hK hP [2, 3, 4, 5, 6, 7, 8] rfl 2 rfl rfl rfl hl.1 rfl (Nat.le_of_ble_eq_true rfl) d_Dirs_isEmpty_26 ⟨Nat.zero_le _, Nat.zero_le _⟩ hS (fun H locs hP hS => ?_)
    refine gz_roV (As := [.int (plc L (dNow u) d t)]) (rest := []) (wc := (wD g k L u)) ⟨hx, hb, hml, hown, hTB⟩ (c_Disk_pairAt l D g k L hL0 hL u (plc L (dNow u) d t)) (cwV 1 hTB (gd_V k_380 k_357 k_358 k_52 k_359) rfl rfl rfl (by decide +kernel) ⟨Nat.le_of_ble_eq_true rfl, Nat.le_of_ble_eq_true rfl⟩) hK hP [3, 4, 5, 6, 7, 8] rfl 3 rfl rfl rfl hl.1 rfl (Nat.le_of_ble_eq_true rfl) d_Dirs_isEmpty_29 ⟨Nat.zero_le _, Nat.zero_le _⟩ hS (fun H locs hP hS => ?_)
    have := pN_lt L (dNow u) (plc L (dNow u) d t)
    refine gz_if_eq (tgt := 37) hx hb d_Dirs_isEmpty_32 (by decide) (by omega) (fun h32 => ?_) (fun h32 => ?_)
    · refine lv_iinc (v := nI (t + 4)) (lv' := [(3, .int (nI (t + 4))), (0, .ref (g 7)), (1, .int (nI d)), (2, .int (nI (iS L (dNow u) d)))]) hx hb d_Dirs_isEmpty_37 hl (k := 3) rfl (nI_add t 4) (by decide) rfl (fun ls hl => ?_)
      refine lv_goto (tgt := 11) hx hb d_Dirs_isEmpty_40 (by decide) ?_
      exact ih11 (t + 4) _ _ _ (by first | omega | (dsimp only; omega)) ⟨hP, hS, lv_sub hl [1, 2, 3, 0] rfl, (by omega), (by rw [← ht2, show (iS L (dNow u) d + 3 - t) / 4 = (iS L (dNow u) d + 3 - (t + 4)) / 4 + 1 by omega, emG, if_pos h32])⟩
    · refine lv_iconst (v := nI 0) hx hb d_Dirs_isEmpty_35 (by decide +kernel) ?_
      exact W.zret (v := nI 0) (ty := .boolean) hx hb hr (by decide +kernel) (fun tt9 ht9 hW9 => ⟨⟨_, (), rfl, (by rw [← ht2, show (iS L (dNow u) d + 3 - t) / 4 = (iS L (dNow u) d + 3 - (t + 4)) / 4 + 1 by omega, emG, if_neg h32]; rfl), trivial⟩, hS.F ht9⟩) hS.2.2 d_Dirs_isEmpty_36
theorem d_Dirs_setEntry_0 : decode b_Dirs_setEntry 0 = .ok (.aload_n 0, 1) := by decide +kernel
theorem d_Dirs_setEntry_1 : decode b_Dirs_setEntry 1 = .ok (.getfield 9, 3) := by decide +kernel
theorem d_Dirs_setEntry_4 : decode b_Dirs_setEntry 4 = .ok (.iload_n 1, 1) := by decide +kernel
theorem d_Dirs_setEntry_5 : decode b_Dirs_setEntry 5 = .ok (.iload_n 2, 1) := by decide +kernel
theorem d_Dirs_setEntry_6 : decode b_Dirs_setEntry 6 = .ok (.invokevirtual 52, 3) := by decide +kernel
theorem d_Dirs_setEntry_9 : decode b_Dirs_setEntry 9 = .ok (.aload_n 0, 1) := by decide +kernel
theorem d_Dirs_setEntry_10 : decode b_Dirs_setEntry 10 = .ok (.getfield 9, 3) := by decide +kernel
theorem d_Dirs_setEntry_13 : decode b_Dirs_setEntry 13 = .ok (.iload_n 1, 1) := by decide +kernel
theorem d_Dirs_setEntry_14 : decode b_Dirs_setEntry 14 = .ok (.iconst 2, 1) := by decide +kernel
theorem d_Dirs_setEntry_15 : decode b_Dirs_setEntry 15 = .ok (.iadd, 1) := by decide +kernel
theorem d_Dirs_setEntry_16 : decode b_Dirs_setEntry 16 = .ok (.iload_n 3, 1) := by decide +kernel
theorem d_Dirs_setEntry_17 : decode b_Dirs_setEntry 17 = .ok (.invokevirtual 56, 3) := by decide +kernel
theorem d_Dirs_setEntry_20 : decode b_Dirs_setEntry 20 = .ok (.return_, 1) := by decide +kernel
set_option maxHeartbeats 4000000 in
set_option maxRecDepth 100000 in
theorem c_Dirs_setEntry (l : Launch) (D : va_G) (g : Nat → Nat) (k : Nat → ClassId) (L : Nat) (hL0 : 96 ≤ L) (hL : L ≤ 768) (u : DSt) (f0 : Nat → Int32) (x w i : Int32) : MuV l y_Dirs_setEntry w_Dirs_setEntry ({ frames := 4, cells := 0, slots := 0, locals := 128 }) [.ref (g 7), .int (x), .int (w), .int (i)] D cl5 (tyC k) (wR g k L u f0) (wR g k L (stE L u x w i) f0) := by
  intro sz
  refine Met.ofW (cc := b_Dirs_setEntry) (maxL := 4) (ret := none) (by decide) rfl ?_
  intro p e s m args below meth c s₁ B hml hv
  obtain ⟨rfl, hsz, hP, hK, hD0⟩ := hv
  have hx := B.exec
  have hb := B.bytes
  have hr := B.returns
  have hts := atoms_spec (ws := w_Dirs_setEntry) B.pre
  have hTB : ∀ w ∈ lw_tb, w.before _ s = true := fun w h => hts w (List.mem_cons_of_mem _ h)
  have hown : s.vm.findClass R_Dirs = some m.cls := findClass_of_methodNamed B.named
  have hlocks := B.notSynchronized
  subst hsz
  have hD := hD0.self (sz := s.heap.size)
  generalize hAe : va_A (wR g k L u f0) s.heap.size = A at hD ⊢
  have hA : ∀ q : Nat, s.heap.size ≤ q → A q := fun q h => by rw [← hAe]; exact Or.inr h
  have hS : va_S A s.heap s.heap [] := va_S.rf
  have hl := lv_entry ([.ref (g 7), .int (x), .int (w), .int (i)]) (n := 4) (Nat.le_of_ble_eq_true rfl)
  rw [lg_entry_eq]
  generalize (lg_sl ([.ref (g 7), .int (x), .int (w), .int (i)]) ++ List.replicate (4 - (lg_sl ([.ref (g 7), .int (x), .int (w), .int (i)])).length) Slot.unset).toArray = ls at hl ⊢
  have hl : lv_has ls 4 [(0, .ref (g 7)), (1, .int (x)), (2, .int (w)), (3, .int (i))] := hl
  refine lv_aload_n hx hb d_Dirs_setEntry_0 rfl (lv_at hl 0 rfl) ?_
  refine va_get (D := D) (ci := 0) (v := .ref (g 0)) (C := R_Dirs) (T := T_Dirs) (N := 3) hx hb hTB in_Dirs hown hK hP 0 rfl rfl 0 (by decide) (hTB _ k_132) (fun _ h9 => h9) rfl d_Dirs_setEntry_1 ?_
  refine lv_iload_n hx hb d_Dirs_setEntry_4 rfl (lv_at hl 1 rfl) ?_
  refine lv_iload_n hx hb d_Dirs_setEntry_5 rfl (lv_at hl 2 rfl) ?_
  refine gz_muV (As := [.int (x), .int (w)]) (rest := []) (wc := (wD g k L u)) (w1 := (wD g k L (setP L u x w))) (wr := (hR g k f0 ++ hI g)) ⟨hx, hb, hml, hown, hTB⟩ (c_Disk_setPair l D g k L hL0 hL u x w) (cwV 2 hTB (gd_V k_433 k_413 k_414 k_52 k_415) rfl rfl rfl (by decide +kernel) ⟨Nat.le_of_ble_eq_true rfl, Nat.le_of_ble_eq_true rfl⟩) hK hP hD hA [3, 4, 5, 6, 7, 8] [0, 1, 2] rfl rfl (by decide) rfl (by decide) (by decide) 3 rfl rfl rfl hl.1 rfl (Nat.le_of_ble_eq_true rfl) d_Dirs_setEntry_6 ⟨Nat.zero_le _, Nat.zero_le _⟩ hS (fun H locs hP hD hS => ?_)
  have hP : va_P D cl5 (wR g k L (setP L u x w) f0) H := hP
  have hD : va_D A (wR g k L (setP L u x w) f0) := hD
  refine lv_aload_n hx hb d_Dirs_setEntry_9 rfl (lv_at hl 0 rfl) ?_
  refine va_get (D := D) (ci := 0) (v := .ref (g 0)) (C := R_Dirs) (T := T_Dirs) (N := 3) hx hb hTB in_Dirs hown hK hP 0 rfl rfl 0 (by decide) (hTB _ k_132) (fun _ h9 => h9) rfl d_Dirs_setEntry_10 ?_
  refine lv_iload_n hx hb d_Dirs_setEntry_13 rfl (lv_at hl 1 rfl) ?_
  refine lv_iconst (v := nI 2) hx hb d_Dirs_setEntry_14 (by decide +kernel) ?_
  refine lv_iadd hx hb d_Dirs_setEntry_15 ?_
  refine lv_iload_n hx hb d_Dirs_setEntry_16 rfl (lv_at hl 3 rfl) ?_
  refine gz_muV (As := [.int (x + (nI 2)), .int (i)]) (rest := []) (wc := (wD g k L (setP L u x w))) (w1 := (wD g k L (setB L (setP L u x w) (x + (nI 2)) i))) (wr := (hR g k f0 ++ hI g)) ⟨hx, hb, hml, hown, hTB⟩ (c_Disk_setByte l D g k L hL0 hL (setP L u x w) (x + (nI 2)) i) (cwV 2 hTB (gd_V k_434 k_151 k_152 k_52 k_153) rfl rfl rfl (by decide +kernel) ⟨Nat.le_of_ble_eq_true rfl, Nat.le_of_ble_eq_true rfl⟩) hK hP hD hA [3, 4, 5, 6, 7, 8] [0, 1, 2] rfl rfl (by decide) rfl (by decide) (by decide) 3 rfl rfl rfl hl.1 rfl (Nat.le_of_ble_eq_true rfl) d_Dirs_setEntry_17 ⟨Nat.zero_le _, Nat.zero_le _⟩ hS (fun H locs hP hD hS => ?_)
  have hP : va_P D cl5 (wR g k L (setB L (setP L u x w) (x + (nI 2)) i) f0) H := hP
  have hD : va_D A (wR g k L (setB L (setP L u x w) (x + (nI 2)) i) f0) := hD
  have hP9 : va_P D cl5 (wR g k L (stE L u x w i) f0) H := hP
  have hD9 : va_D A (wR g k L (stE L u x w i) f0) := hD
  exact W.vret hx hb hr (fun tt9 ht9 hW9 => ⟨⟨(), rfl, trivial, ⟨by rw [ht9]; exact hP9, hD9⟩⟩, hS.F ht9⟩) hS.2.2 d_Dirs_setEntry_20
theorem d_Dirs_clearEntry_0 : decode b_Dirs_clearEntry 0 = .ok (.aload_n 0, 1) := by decide +kernel
theorem d_Dirs_clearEntry_1 : decode b_Dirs_clearEntry 1 = .ok (.iload_n 1, 1) := by decide +kernel
theorem d_Dirs_clearEntry_2 : decode b_Dirs_clearEntry 2 = .ok (.iconst 0, 1) := by decide +kernel
theorem d_Dirs_clearEntry_3 : decode b_Dirs_clearEntry 3 = .ok (.iconst 0, 1) := by decide +kernel
theorem d_Dirs_clearEntry_4 : decode b_Dirs_clearEntry 4 = .ok (.invokevirtual 48, 3) := by decide +kernel
theorem d_Dirs_clearEntry_7 : decode b_Dirs_clearEntry 7 = .ok (.return_, 1) := by decide +kernel
set_option maxHeartbeats 4000000 in
set_option maxRecDepth 100000 in
theorem c_Dirs_clearEntry (l : Launch) (D : va_G) (g : Nat → Nat) (k : Nat → ClassId) (L : Nat) (hL0 : 96 ≤ L) (hL : L ≤ 768) (u : DSt) (f0 : Nat → Int32) (x : Int32) : MuV l y_Dirs_clearEntry w_Dirs_clearEntry ({ frames := 5, cells := 0, slots := 0, locals := 151 }) [.ref (g 7), .int (x)] D cl5 (tyC k) (wR g k L u f0) (wR g k L (stE L u x (nI 0) (nI 0)) f0) := by
  intro sz
  refine Met.ofW (cc := b_Dirs_clearEntry) (maxL := 2) (ret := none) (by decide) rfl ?_
  intro p e s m args below meth c s₁ B hml hv
  obtain ⟨rfl, hsz, hP, hK, hD0⟩ := hv
  have hx := B.exec
  have hb := B.bytes
  have hr := B.returns
  have hts := atoms_spec (ws := w_Dirs_clearEntry) B.pre
  have hTB : ∀ w ∈ lw_tb, w.before _ s = true := fun w h => hts w (List.mem_cons_of_mem _ h)
  have hown : s.vm.findClass R_Dirs = some m.cls := findClass_of_methodNamed B.named
  have hlocks := B.notSynchronized
  subst hsz
  have hD := hD0.self (sz := s.heap.size)
  generalize hAe : va_A (wR g k L u f0) s.heap.size = A at hD ⊢
  have hA : ∀ q : Nat, s.heap.size ≤ q → A q := fun q h => by rw [← hAe]; exact Or.inr h
  have hS : va_S A s.heap s.heap [] := va_S.rf
  have hl := lv_entry ([.ref (g 7), .int (x)]) (n := 2) (Nat.le_of_ble_eq_true rfl)
  rw [lg_entry_eq]
  generalize (lg_sl ([.ref (g 7), .int (x)]) ++ List.replicate (2 - (lg_sl ([.ref (g 7), .int (x)])).length) Slot.unset).toArray = ls at hl ⊢
  have hl : lv_has ls 2 [(0, .ref (g 7)), (1, .int (x))] := hl
  refine lv_aload_n hx hb d_Dirs_clearEntry_0 rfl (lv_at hl 0 rfl) ?_
  refine lv_iload_n hx hb d_Dirs_clearEntry_1 rfl (lv_at hl 1 rfl) ?_
  refine lv_iconst (v := nI 0) hx hb d_Dirs_clearEntry_2 (by decide +kernel) ?_
  refine lv_iconst (v := nI 0) hx hb d_Dirs_clearEntry_3 (by decide +kernel) ?_
  refine gz_muV (As := [.int (x), .int (nI 0), .int (nI 0)]) (rest := []) (wc := (wR g k L u f0)) (w1 := (wR g k L (stE L u x (nI 0) (nI 0)) f0)) (wr := ([])) ⟨hx, hb, hml, hown, hTB⟩ (c_Dirs_setEntry l D g k L hL0 hL u f0 x (nI 0) (nI 0)) (cwV 3 hTB (gd_V k_429 k_430 k_431 k_55 k_432) rfl rfl rfl (by decide +kernel) ⟨Nat.le_of_ble_eq_true rfl, Nat.le_of_ble_eq_true rfl⟩) hK hP hD hA [0, 1, 2, 3, 4, 5, 6, 7, 8] [] rfl rfl (by decide) rfl (by decide) (by decide) 0 rfl rfl rfl hl.1 rfl (Nat.le_of_ble_eq_true rfl) d_Dirs_clearEntry_4 ⟨Nat.zero_le _, Nat.zero_le _⟩ hS (fun H locs hP hD hS => ?_)
  have hP : va_P D cl5 (wR g k L (stE L u x (nI 0) (nI 0)) f0) H := hP
  have hD : va_D A (wR g k L (stE L u x (nI 0) (nI 0)) f0) := hD
  have hP9 : va_P D cl5 (wR g k L (stE L u x (nI 0) (nI 0)) f0) H := hP
  have hD9 : va_D A (wR g k L (stE L u x (nI 0) (nI 0)) f0) := hD
  exact W.vret hx hb hr (fun tt9 ht9 hW9 => ⟨⟨(), rfl, trivial, ⟨by rw [ht9]; exact hP9, hD9⟩⟩, hS.F ht9⟩) hS.2.2 d_Dirs_clearEntry_7
theorem d_Dirs_addEntry_0 : decode b_Dirs_addEntry 0 = .ok (.aload_n 0, 1) := by decide +kernel
theorem d_Dirs_addEntry_1 : decode b_Dirs_addEntry 1 = .ok (.iload_n 1, 1) := by decide +kernel
theorem d_Dirs_addEntry_2 : decode b_Dirs_addEntry 2 = .ok (.iconst 0, 1) := by decide +kernel
theorem d_Dirs_addEntry_3 : decode b_Dirs_addEntry 3 = .ok (.invokevirtual 41, 3) := by decide +kernel
theorem d_Dirs_addEntry_6 : decode b_Dirs_addEntry 6 = .ok (.istore 4, 2) := by decide +kernel
theorem d_Dirs_addEntry_8 : decode b_Dirs_addEntry 8 = .ok (.iload 4, 2) := by decide +kernel
theorem d_Dirs_addEntry_10 : decode b_Dirs_addEntry 10 = .ok (.iconst (-1), 1) := by decide +kernel
theorem d_Dirs_addEntry_11 : decode b_Dirs_addEntry 11 = .ok (.if_icmp .ne 43, 3) := by decide +kernel
theorem d_Dirs_addEntry_14 : decode b_Dirs_addEntry 14 = .ok (.aload_n 0, 1) := by decide +kernel
theorem d_Dirs_addEntry_15 : decode b_Dirs_addEntry 15 = .ok (.getfield 15, 3) := by decide +kernel
theorem d_Dirs_addEntry_18 : decode b_Dirs_addEntry 18 = .ok (.iload_n 1, 1) := by decide +kernel
theorem d_Dirs_addEntry_19 : decode b_Dirs_addEntry 19 = .ok (.invokevirtual 23, 3) := by decide +kernel
theorem d_Dirs_addEntry_22 : decode b_Dirs_addEntry 22 = .ok (.istore 5, 2) := by decide +kernel
theorem d_Dirs_addEntry_24 : decode b_Dirs_addEntry 24 = .ok (.aload_n 0, 1) := by decide +kernel
theorem d_Dirs_addEntry_25 : decode b_Dirs_addEntry 25 = .ok (.getfield 15, 3) := by decide +kernel
theorem d_Dirs_addEntry_28 : decode b_Dirs_addEntry 28 = .ok (.iload_n 1, 1) := by decide +kernel
theorem d_Dirs_addEntry_29 : decode b_Dirs_addEntry 29 = .ok (.iload 5, 2) := by decide +kernel
theorem d_Dirs_addEntry_31 : decode b_Dirs_addEntry 31 = .ok (.bipush 64, 2) := by decide +kernel
theorem d_Dirs_addEntry_33 : decode b_Dirs_addEntry 33 = .ok (.iadd, 1) := by decide +kernel
theorem d_Dirs_addEntry_34 : decode b_Dirs_addEntry 34 = .ok (.invokevirtual 44, 3) := by decide +kernel
theorem d_Dirs_addEntry_37 : decode b_Dirs_addEntry 37 = .ok (.ifCond .ne 5, 3) := by decide +kernel
theorem d_Dirs_addEntry_40 : decode b_Dirs_addEntry 40 = .ok (.iconst 0, 1) := by decide +kernel
theorem d_Dirs_addEntry_41 : decode b_Dirs_addEntry 41 = .ok (.ireturn, 1) := by decide +kernel
theorem d_Dirs_addEntry_42 : decode b_Dirs_addEntry 42 = .ok (.aload_n 0, 1) := by decide +kernel
theorem d_Dirs_addEntry_43 : decode b_Dirs_addEntry 43 = .ok (.getfield 15, 3) := by decide +kernel
theorem d_Dirs_addEntry_46 : decode b_Dirs_addEntry 46 = .ok (.iload_n 1, 1) := by decide +kernel
theorem d_Dirs_addEntry_47 : decode b_Dirs_addEntry 47 = .ok (.iload 5, 2) := by decide +kernel
theorem d_Dirs_addEntry_49 : decode b_Dirs_addEntry 49 = .ok (.invokevirtual 29, 3) := by decide +kernel
theorem d_Dirs_addEntry_52 : decode b_Dirs_addEntry 52 = .ok (.istore 4, 2) := by decide +kernel
theorem d_Dirs_addEntry_54 : decode b_Dirs_addEntry 54 = .ok (.aload_n 0, 1) := by decide +kernel
theorem d_Dirs_addEntry_55 : decode b_Dirs_addEntry 55 = .ok (.iload 4, 2) := by decide +kernel
theorem d_Dirs_addEntry_57 : decode b_Dirs_addEntry 57 = .ok (.iload_n 2, 1) := by decide +kernel
theorem d_Dirs_addEntry_58 : decode b_Dirs_addEntry 58 = .ok (.iload_n 3, 1) := by decide +kernel
theorem d_Dirs_addEntry_59 : decode b_Dirs_addEntry 59 = .ok (.invokevirtual 48, 3) := by decide +kernel
theorem d_Dirs_addEntry_62 : decode b_Dirs_addEntry 62 = .ok (.iconst 1, 1) := by decide +kernel
theorem d_Dirs_addEntry_63 : decode b_Dirs_addEntry 63 = .ok (.ireturn, 1) := by decide +kernel
set_option maxHeartbeats 4000000 in
set_option maxRecDepth 100000 in
theorem c_Dirs_addEntry (l : Launch) (D : va_G) (g : Nat → Nat) (k : Nat → ClassId) (L : Nat) (hL0 : 96 ≤ L) (hL : L ≤ 768) (u : DSt) (f0 : Nat → Int32) (d : Nat) (w i : Int32) : MuI l y_Dirs_addEntry w_Dirs_addEntry ({ frames := 6, cells := 0, slots := 0, locals := 179 }) [.ref (g 7), .int (nI d), .int (w), .int (i)] D cl5 (tyC k) (wR g k L u f0) (wR g k L ((adE L u d w i).2) f0) (zI (adE L u d w i).1) := by
  intro sz
  refine Met.ofW (cc := b_Dirs_addEntry) (maxL := 6) (ret := (some .boolean)) (by decide) rfl ?_
  intro p e s m args below meth c s₁ B hml hv
  obtain ⟨rfl, hsz, hP, hK, hD0⟩ := hv
  have hx := B.exec
  have hb := B.bytes
  have hr := B.returns
  have hts := atoms_spec (ws := w_Dirs_addEntry) B.pre
  have hTB : ∀ w ∈ lw_tb, w.before _ s = true := fun w h => hts w (List.mem_cons_of_mem _ h)
  have hown : s.vm.findClass R_Dirs = some m.cls := findClass_of_methodNamed B.named
  have hlocks := B.notSynchronized
  subst hsz
  have hD := hD0.self (sz := s.heap.size)
  generalize hAe : va_A (wR g k L u f0) s.heap.size = A at hD ⊢
  have hA : ∀ q : Nat, s.heap.size ≤ q → A q := fun q h => by rw [← hAe]; exact Or.inr h
  have hS : va_S A s.heap s.heap [] := va_S.rf
  have hl := lv_entry ([.ref (g 7), .int (nI d), .int (w), .int (i)]) (n := 6) (Nat.le_of_ble_eq_true rfl)
  rw [lg_entry_eq]
  generalize (lg_sl ([.ref (g 7), .int (nI d), .int (w), .int (i)]) ++ List.replicate (6 - (lg_sl ([.ref (g 7), .int (nI d), .int (w), .int (i)])).length) Slot.unset).toArray = ls at hl ⊢
  have hl : lv_has ls 6 [(0, .ref (g 7)), (1, .int (nI d)), (2, .int (w)), (3, .int (i))] := hl
  refine lv_aload_n hx hb d_Dirs_addEntry_0 rfl (lv_at hl 0 rfl) ?_
  refine lv_iload_n hx hb d_Dirs_addEntry_1 rfl (lv_at hl 1 rfl) ?_
  refine lv_iconst (v := nI 0) hx hb d_Dirs_addEntry_2 (by decide +kernel) ?_
  refine gz_roV (As := [.int (nI d), .int (nI 0)]) (rest := []) (wc := (wR g k L u f0)) ⟨hx, hb, hml, hown, hTB⟩ (c_Dirs_entryNamed l D g k L hL0 hL u f0 d 0 (by omega)) (cwV 2 hTB (gd_V k_390 k_349 k_350 k_55 k_351) rfl rfl rfl (by decide +kernel) ⟨Nat.le_of_ble_eq_true rfl, Nat.le_of_ble_eq_true rfl⟩) hK hP [0, 1, 2, 3, 4, 5, 6, 7, 8] rfl 0 rfl rfl rfl hl.1 rfl (Nat.le_of_ble_eq_true rfl) d_Dirs_addEntry_3 ⟨Nat.zero_le _, Nat.zero_le _⟩ hS (fun H locs hP hS => ?_)
  refine lv_istore (lv' := [(4, .int (ent L (dNow u) d 0)), (0, .ref (g 7)), (1, .int (nI d)), (2, .int (w)), (3, .int (i))]) hx hb d_Dirs_addEntry_6 hl (by decide) rfl (fun ls hl => ?_)
  refine lv_iload hx hb d_Dirs_addEntry_8 (lv_at hl 0 rfl) ?_
  refine lv_iconst (v := (-1)) hx hb d_Dirs_addEntry_10 (by decide +kernel) ?_
  refine lv_icmp_ne (tgt := 54) hx hb d_Dirs_addEntry_11 (by decide) (fun h11 => ?_) (fun h11 => ?_)
  · refine lv_aload_n hx hb d_Dirs_addEntry_54 rfl (lv_at hl 1 rfl) ?_
    refine lv_iload hx hb d_Dirs_addEntry_55 (lv_at hl 0 rfl) ?_
    refine lv_iload_n hx hb d_Dirs_addEntry_57 rfl (lv_at hl 3 rfl) ?_
    refine lv_iload_n hx hb d_Dirs_addEntry_58 rfl (lv_at hl 4 rfl) ?_
    refine gz_muV (As := [.int (ent L (dNow u) d 0), .int (w), .int (i)]) (rest := []) (wc := (wR g k L u f0)) (w1 := (wR g k L (stE L u (ent L (dNow u) d 0) w i) f0)) (wr := ([])) ⟨hx, hb, hml, hown, hTB⟩ (c_Dirs_setEntry l D g k L hL0 hL u f0 (ent L (dNow u) d 0) w i) (cwV 3 hTB (gd_V k_429 k_430 k_431 k_55 k_432) rfl rfl rfl (by decide +kernel) ⟨Nat.le_of_ble_eq_true rfl, Nat.le_of_ble_eq_true rfl⟩) hK hP hD hA [0, 1, 2, 3, 4, 5, 6, 7, 8] [] rfl rfl (by decide) rfl (by decide) (by decide) 0 rfl rfl rfl hl.1 rfl (Nat.le_of_ble_eq_true rfl) d_Dirs_addEntry_59 ⟨Nat.zero_le _, Nat.zero_le _⟩ hS (fun H locs hP hD hS => ?_)
    have hP : va_P D cl5 (wR g k L (stE L u (ent L (dNow u) d 0) w i) f0) H := hP
    have hD : va_D A (wR g k L (stE L u (ent L (dNow u) d 0) w i) f0) := hD
    refine lv_iconst (v := nI 1) hx hb d_Dirs_addEntry_62 (by decide +kernel) ?_
    have hP9 : va_P D cl5 (wR g k L ((adE L u d w i).2) f0) H := (by unfold adE; rw [if_neg h11]; exact hP)
    have hD9 : va_D A (wR g k L ((adE L u d w i).2) f0) := (by unfold adE; rw [if_neg h11]; exact hD)
    exact W.zret (v := nI 1) (ty := .boolean) hx hb hr (by decide +kernel) (fun tt9 ht9 hW9 => ⟨⟨_, (), rfl, (by unfold adE; rw [if_neg h11]; rfl), ⟨by rw [ht9]; exact hP9, hD9⟩⟩, hS.F ht9⟩) hS.2.2 d_Dirs_addEntry_63
  · refine lv_aload_n hx hb d_Dirs_addEntry_14 rfl (lv_at hl 1 rfl) ?_
    refine va_get (D := D) (ci := 0) (v := .ref (g 6)) (C := R_Dirs) (T := T_Dirs) (N := 3) hx hb hTB in_Dirs hown hK hP 0 rfl rfl 1 (by decide) (hTB _ k_133) (fun _ h9 => h9) rfl d_Dirs_addEntry_15 ?_
    refine lv_iload_n hx hb d_Dirs_addEntry_18 rfl (lv_at hl 2 rfl) ?_
    refine gz_roV (As := [.int (nI d)]) (rest := []) (wc := (wI g k L u)) ⟨hx, hb, hml, hown, hTB⟩ (c_Inodes_size l D g k L hL0 hL u d) (cwV 1 hTB (gd_V k_352 k_353 k_354 k_54 k_355) rfl rfl rfl (by decide +kernel) ⟨Nat.le_of_ble_eq_true rfl, Nat.le_of_ble_eq_true rfl⟩) hK hP [2, 3, 4, 5, 6, 7, 8] rfl 2 rfl rfl rfl hl.1 rfl (Nat.le_of_ble_eq_true rfl) d_Dirs_addEntry_19 ⟨Nat.zero_le _, Nat.zero_le _⟩ hS (fun H locs hP hS => ?_)
    have := iS_lt L (dNow u) d
    refine lv_istore (lv' := [(5, .int (nI (iS L (dNow u) d))), (4, .int (ent L (dNow u) d 0)), (0, .ref (g 7)), (1, .int (nI d)), (2, .int (w)), (3, .int (i))]) hx hb d_Dirs_addEntry_22 hl (by decide) rfl (fun ls hl => ?_)
    refine lv_aload_n hx hb d_Dirs_addEntry_24 rfl (lv_at hl 2 rfl) ?_
    refine va_get (D := D) (ci := 0) (v := .ref (g 6)) (C := R_Dirs) (T := T_Dirs) (N := 3) hx hb hTB in_Dirs hown hK hP 0 rfl rfl 1 (by decide) (hTB _ k_133) (fun _ h9 => h9) rfl d_Dirs_addEntry_25 ?_
    refine lv_iload_n hx hb d_Dirs_addEntry_28 rfl (lv_at hl 3 rfl) ?_
    refine lv_iload hx hb d_Dirs_addEntry_29 (lv_at hl 0 rfl) ?_
    refine lv_bipush (v := nI 64) hx hb d_Dirs_addEntry_31 (by decide +kernel) ?_
    refine gz_iadd hx hb d_Dirs_addEntry_33 ?_
    refine gz_muI (As := [.int (nI d), .int (nI ((iS L (dNow u) d) + 64))]) (rest := []) (wc := (wI g k L u)) (w1 := (wI g k L ((rsz L u d ((iS L (dNow u) d) + 64)).2))) (wr := (hR g k f0)) ⟨hx, hb, hml, hown, hTB⟩ (c_Inodes_resize l D g k L hL0 hL u d ((iS L (dNow u) d) + 64) (by omega)) (cwV 2 hTB (gd_V k_391 k_392 k_393 k_54 k_394) rfl rfl rfl (by decide +kernel) ⟨Nat.le_of_ble_eq_true rfl, Nat.le_of_ble_eq_true rfl⟩) hK hP hD hA [2, 3, 4, 5, 6, 7, 8] [0, 1] rfl rfl (by decide) rfl (by decide) (by decide) 2 rfl rfl rfl hl.1 rfl (Nat.le_of_ble_eq_true rfl) d_Dirs_addEntry_34 ⟨Nat.zero_le _, Nat.zero_le _⟩ hS (fun H locs hP hD hS => ?_)
    have hP : va_P D cl5 (wR g k L ((rsz L u d ((iS L (dNow u) d) + 64)).2) f0) H := hP
    have hD : va_D A (wR g k L ((rsz L u d ((iS L (dNow u) d) + 64)).2) f0) := hD
    refine gz_ifz_ne (tgt := 42) hx hb d_Dirs_addEntry_37 (by decide) (fun h37 => ?_) (fun h37 => ?_)
    · refine lv_aload_n hx hb d_Dirs_addEntry_42 rfl (lv_at hl 2 rfl) ?_
      refine va_get (D := D) (ci := 0) (v := .ref (g 6)) (C := R_Dirs) (T := T_Dirs) (N := 3) hx hb hTB in_Dirs hown hK hP 0 rfl rfl 1 (by decide) (hTB _ k_133) (fun _ h9 => h9) rfl d_Dirs_addEntry_43 ?_
      refine lv_iload_n hx hb d_Dirs_addEntry_46 rfl (lv_at hl 3 rfl) ?_
      refine lv_iload hx hb d_Dirs_addEntry_47 (lv_at hl 0 rfl) ?_
      refine gz_roV (As := [.int (nI d), .int (nI (iS L (dNow u) d))]) (rest := []) (wc := (wI g k L ((rsz L u d ((iS L (dNow u) d) + 64)).2))) ⟨hx, hb, hml, hown, hTB⟩ (c_Inodes_placeOf l D g k L hL0 hL ((rsz L u d ((iS L (dNow u) d) + 64)).2) d (iS L (dNow u) d) (by omega)) (cwV 2 hTB (gd_V k_361 k_362 k_363 k_54 k_364) rfl rfl rfl (by decide +kernel) ⟨Nat.le_of_ble_eq_true rfl, Nat.le_of_ble_eq_true rfl⟩) hK hP [2, 3, 4, 5, 6, 7, 8] rfl 2 rfl rfl rfl hl.1 rfl (Nat.le_of_ble_eq_true rfl) d_Dirs_addEntry_49 ⟨Nat.zero_le _, Nat.zero_le _⟩ hS (fun H locs hP hS => ?_)
      refine lv_istore (lv' := [(4, .int (plc L (dNow ((rsz L u d ((iS L (dNow u) d) + 64)).2)) d (iS L (dNow u) d))), (5, .int (nI (iS L (dNow u) d))), (0, .ref (g 7)), (1, .int (nI d)), (2, .int (w)), (3, .int (i))]) hx hb d_Dirs_addEntry_52 hl (by decide) rfl (fun ls hl => ?_)
      refine lv_aload_n hx hb d_Dirs_addEntry_54 rfl (lv_at hl 2 rfl) ?_
      refine lv_iload hx hb d_Dirs_addEntry_55 (lv_at hl 0 rfl) ?_
      refine lv_iload_n hx hb d_Dirs_addEntry_57 rfl (lv_at hl 4 rfl) ?_
      refine lv_iload_n hx hb d_Dirs_addEntry_58 rfl (lv_at hl 5 rfl) ?_
      refine gz_muV (As := [.int (plc L (dNow ((rsz L u d ((iS L (dNow u) d) + 64)).2)) d (iS L (dNow u) d)), .int (w), .int (i)]) (rest := []) (wc := (wR g k L ((rsz L u d ((iS L (dNow u) d) + 64)).2) f0)) (w1 := (wR g k L (stE L ((rsz L u d ((iS L (dNow u) d) + 64)).2) (plc L (dNow ((rsz L u d ((iS L (dNow u) d) + 64)).2)) d (iS L (dNow u) d)) w i) f0)) (wr := ([])) ⟨hx, hb, hml, hown, hTB⟩ (c_Dirs_setEntry l D g k L hL0 hL ((rsz L u d ((iS L (dNow u) d) + 64)).2) f0 (plc L (dNow ((rsz L u d ((iS L (dNow u) d) + 64)).2)) d (iS L (dNow u) d)) w i) (cwV 3 hTB (gd_V k_429 k_430 k_431 k_55 k_432) rfl rfl rfl (by decide +kernel) ⟨Nat.le_of_ble_eq_true rfl, Nat.le_of_ble_eq_true rfl⟩) hK hP hD hA [0, 1, 2, 3, 4, 5, 6, 7, 8] [] rfl rfl (by decide) rfl (by decide) (by decide) 0 rfl rfl rfl hl.1 rfl (Nat.le_of_ble_eq_true rfl) d_Dirs_addEntry_59 ⟨Nat.zero_le _, Nat.zero_le _⟩ hS (fun H locs hP hD hS => ?_)
      have hP : va_P D cl5 (wR g k L (stE L ((rsz L u d ((iS L (dNow u) d) + 64)).2) (plc L (dNow ((rsz L u d ((iS L (dNow u) d) + 64)).2)) d (iS L (dNow u) d)) w i) f0) H := hP
      have hD : va_D A (wR g k L (stE L ((rsz L u d ((iS L (dNow u) d) + 64)).2) (plc L (dNow ((rsz L u d ((iS L (dNow u) d) + 64)).2)) d (iS L (dNow u) d)) w i) f0) := hD
      refine lv_iconst (v := nI 1) hx hb d_Dirs_addEntry_62 (by decide +kernel) ?_
      have hP9 : va_P D cl5 (wR g k L ((adE L u d w i).2) f0) H := (by unfold adE; rw [if_pos h11, if_pos h37]; exact hP)
      have hD9 : va_D A (wR g k L ((adE L u d w i).2) f0) := (by unfold adE; rw [if_pos h11, if_pos h37]; exact hD)
      exact W.zret (v := nI 1) (ty := .boolean) hx hb hr (by decide +kernel) (fun tt9 ht9 hW9 => ⟨⟨_, (), rfl, (by unfold adE; rw [if_pos h11, if_pos h37]; rfl), ⟨by rw [ht9]; exact hP9, hD9⟩⟩, hS.F ht9⟩) hS.2.2 d_Dirs_addEntry_63
    · refine lv_iconst (v := nI 0) hx hb d_Dirs_addEntry_40 (by decide +kernel) ?_
      have hP9 : va_P D cl5 (wR g k L ((adE L u d w i).2) f0) H := (by unfold adE; rw [if_pos h11, if_neg (by rw [h37]; decide)]; exact hP)
      have hD9 : va_D A (wR g k L ((adE L u d w i).2) f0) := (by unfold adE; rw [if_pos h11, if_neg (by rw [h37]; decide)]; exact hD)
      exact W.zret (v := nI 0) (ty := .boolean) hx hb hr (by decide +kernel) (fun tt9 ht9 hW9 => ⟨⟨_, (), rfl, (by unfold adE; rw [if_pos h11, if_neg (by rw [h37]; decide)]; rfl), ⟨by rw [ht9]; exact hP9, hD9⟩⟩, hS.F ht9⟩) hS.2.2 d_Dirs_addEntry_41
theorem d_Dirs_fillParents_0 : decode b_Dirs_fillParents 0 = .ok (.iconst 0, 1) := by decide +kernel
theorem d_Dirs_fillParents_1 : decode b_Dirs_fillParents 1 = .ok (.istore_n 1, 1) := by decide +kernel
theorem d_Dirs_fillParents_2 : decode b_Dirs_fillParents 2 = .ok (.iload_n 1, 1) := by decide +kernel
theorem d_Dirs_fillParents_3 : decode b_Dirs_fillParents 3 = .ok (.bipush 64, 2) := by decide +kernel
theorem d_Dirs_fillParents_5 : decode b_Dirs_fillParents 5 = .ok (.if_icmp .ge 82, 3) := by decide +kernel
theorem d_Dirs_fillParents_8 : decode b_Dirs_fillParents 8 = .ok (.aload_n 0, 1) := by decide +kernel
theorem d_Dirs_fillParents_9 : decode b_Dirs_fillParents 9 = .ok (.getfield 15, 3) := by decide +kernel
theorem d_Dirs_fillParents_12 : decode b_Dirs_fillParents 12 = .ok (.iload_n 1, 1) := by decide +kernel
theorem d_Dirs_fillParents_13 : decode b_Dirs_fillParents 13 = .ok (.invokevirtual 62, 3) := by decide +kernel
theorem d_Dirs_fillParents_16 : decode b_Dirs_fillParents 16 = .ok (.iconst 2, 1) := by decide +kernel
theorem d_Dirs_fillParents_17 : decode b_Dirs_fillParents 17 = .ok (.if_icmp .ne 14, 3) := by decide +kernel
theorem d_Dirs_fillParents_20 : decode b_Dirs_fillParents 20 = .ok (.aload_n 0, 1) := by decide +kernel
theorem d_Dirs_fillParents_21 : decode b_Dirs_fillParents 21 = .ok (.getfield 15, 3) := by decide +kernel
theorem d_Dirs_fillParents_24 : decode b_Dirs_fillParents 24 = .ok (.iload_n 1, 1) := by decide +kernel
theorem d_Dirs_fillParents_25 : decode b_Dirs_fillParents 25 = .ok (.invokevirtual 23, 3) := by decide +kernel
theorem d_Dirs_fillParents_28 : decode b_Dirs_fillParents 28 = .ok (.goto 4, 3) := by decide +kernel
theorem d_Dirs_fillParents_31 : decode b_Dirs_fillParents 31 = .ok (.iconst 0, 1) := by decide +kernel
theorem d_Dirs_fillParents_32 : decode b_Dirs_fillParents 32 = .ok (.istore_n 2, 1) := by decide +kernel
theorem d_Dirs_fillParents_33 : decode b_Dirs_fillParents 33 = .ok (.iconst 0, 1) := by decide +kernel
theorem d_Dirs_fillParents_34 : decode b_Dirs_fillParents 34 = .ok (.istore_n 3, 1) := by decide +kernel
theorem d_Dirs_fillParents_35 : decode b_Dirs_fillParents 35 = .ok (.iload_n 3, 1) := by decide +kernel
theorem d_Dirs_fillParents_36 : decode b_Dirs_fillParents 36 = .ok (.iload_n 2, 1) := by decide +kernel
theorem d_Dirs_fillParents_37 : decode b_Dirs_fillParents 37 = .ok (.if_icmp .ge 44, 3) := by decide +kernel
theorem d_Dirs_fillParents_40 : decode b_Dirs_fillParents 40 = .ok (.aload_n 0, 1) := by decide +kernel
theorem d_Dirs_fillParents_41 : decode b_Dirs_fillParents 41 = .ok (.aload_n 0, 1) := by decide +kernel
theorem d_Dirs_fillParents_42 : decode b_Dirs_fillParents 42 = .ok (.getfield 15, 3) := by decide +kernel
theorem d_Dirs_fillParents_45 : decode b_Dirs_fillParents 45 = .ok (.iload_n 1, 1) := by decide +kernel
theorem d_Dirs_fillParents_46 : decode b_Dirs_fillParents 46 = .ok (.iload_n 3, 1) := by decide +kernel
theorem d_Dirs_fillParents_47 : decode b_Dirs_fillParents 47 = .ok (.invokevirtual 29, 3) := by decide +kernel
theorem d_Dirs_fillParents_50 : decode b_Dirs_fillParents 50 = .ok (.invokevirtual 65, 3) := by decide +kernel
theorem d_Dirs_fillParents_53 : decode b_Dirs_fillParents 53 = .ok (.istore 4, 2) := by decide +kernel
theorem d_Dirs_fillParents_55 : decode b_Dirs_fillParents 55 = .ok (.iload 4, 2) := by decide +kernel
theorem d_Dirs_fillParents_57 : decode b_Dirs_fillParents 57 = .ok (.ifCond .le 18, 3) := by decide +kernel
theorem d_Dirs_fillParents_60 : decode b_Dirs_fillParents 60 = .ok (.iload 4, 2) := by decide +kernel
theorem d_Dirs_fillParents_62 : decode b_Dirs_fillParents 62 = .ok (.bipush 64, 2) := by decide +kernel
theorem d_Dirs_fillParents_64 : decode b_Dirs_fillParents 64 = .ok (.if_icmp .ge 11, 3) := by decide +kernel
theorem d_Dirs_fillParents_67 : decode b_Dirs_fillParents 67 = .ok (.aload_n 0, 1) := by decide +kernel
theorem d_Dirs_fillParents_68 : decode b_Dirs_fillParents 68 = .ok (.getfield 19, 3) := by decide +kernel
theorem d_Dirs_fillParents_71 : decode b_Dirs_fillParents 71 = .ok (.iload 4, 2) := by decide +kernel
theorem d_Dirs_fillParents_73 : decode b_Dirs_fillParents 73 = .ok (.iload_n 1, 1) := by decide +kernel
theorem d_Dirs_fillParents_74 : decode b_Dirs_fillParents 74 = .ok (.iastore, 1) := by decide +kernel
theorem d_Dirs_fillParents_75 : decode b_Dirs_fillParents 75 = .ok (.iinc 3 4, 3) := by decide +kernel
theorem d_Dirs_fillParents_78 : decode b_Dirs_fillParents 78 = .ok (.goto (-43), 3) := by decide +kernel
theorem d_Dirs_fillParents_81 : decode b_Dirs_fillParents 81 = .ok (.iinc 1 1, 3) := by decide +kernel
theorem d_Dirs_fillParents_84 : decode b_Dirs_fillParents 84 = .ok (.goto (-82), 3) := by decide +kernel
theorem d_Dirs_fillParents_87 : decode b_Dirs_fillParents 87 = .ok (.return_, 1) := by decide +kernel
set_option maxHeartbeats 4000000 in
set_option maxRecDepth 100000 in
theorem c_Dirs_fillParents (l : Launch) (D : va_G) (g : Nat → Nat) (k : Nat → ClassId) (L : Nat) (hL0 : 96 ≤ L) (hL : L ≤ 768) (u : DSt) (f0 : Nat → Int32) : MuV l y_Dirs_fillParents w_Dirs_fillParents ({ frames := 4, cells := 0, slots := 0, locals := 90 }) [.ref (g 7)] D cl5 (tyC k) (wR g k L u f0) (wR g k L u (fil L (dNow u) f0)) := by
  intro sz
  refine Met.ofW (cc := b_Dirs_fillParents) (maxL := 5) (ret := none) (by decide) rfl ?_
  intro p e s m args below meth c s₁ B hml hv
  obtain ⟨rfl, hsz, hP, hK, hD0⟩ := hv
  have hx := B.exec
  have hb := B.bytes
  have hr := B.returns
  have hts := atoms_spec (ws := w_Dirs_fillParents) B.pre
  have hTB : ∀ w ∈ lw_tb, w.before _ s = true := fun w h => hts w (List.mem_cons_of_mem _ h)
  have hown : s.vm.findClass R_Dirs = some m.cls := findClass_of_methodNamed B.named
  have hlocks := B.notSynchronized
  subst hsz
  have hD := hD0.self (sz := s.heap.size)
  generalize hAe : va_A (wR g k L u f0) s.heap.size = A at hD ⊢
  have hA : ∀ q : Nat, s.heap.size ≤ q → A q := fun q h => by rw [← hAe]; exact Or.inr h
  have hS : va_S A s.heap s.heap [] := va_S.rf
  have hl := lv_entry ([.ref (g 7)]) (n := 5) (Nat.le_of_ble_eq_true rfl)
  rw [lg_entry_eq]
  generalize (lg_sl ([.ref (g 7)]) ++ List.replicate (5 - (lg_sl ([.ref (g 7)])).length) Slot.unset).toArray = ls at hl ⊢
  have hl : lv_has ls 5 [(0, .ref (g 7))] := hl
  refine lv_iconst (v := nI 0) hx hb d_Dirs_fillParents_0 (by decide +kernel) ?_
  refine lv_istore_n (lv' := [(1, .int (nI 0)), (0, .ref (g 7))]) hx hb d_Dirs_fillParents_1 rfl hl (by decide) rfl (fun ls hl => ?_)
  refine gz_loop 2 (fun (zz : (Nat × (Nat → Int32))) H locs ls => match zz with | (d, f) => va_P D cl5 (wR g k L u f) H ∧ va_D A (wR g k L u f) ∧ va_S A s.heap H locs ∧ lv_has ls 5 [(0, .ref (g 7)), (1, .int (nI d))] ∧ (d ≤ 64) ∧ (foG L (dNow u) (64 - d) d f = fil L (dNow u) f0)) (fun (zz : (Nat × (Nat → Int32))) => match zz with | (d, f) => 64 - d) (fun zz H locs ls hI ih2 => ?_) (0, f0) ⟨hP, hD, hS, lv_sub hl [1, 0] rfl, (by omega), rfl⟩
  obtain ⟨d, f⟩ := zz
  obtain ⟨hP, hD, hS, hl, hd1, hd2⟩ := hI
  refine lv_iload_n hx hb d_Dirs_fillParents_2 rfl (lv_at hl 1 rfl) ?_
  refine lv_bipush (v := nI 64) hx hb d_Dirs_fillParents_3 (by decide +kernel) ?_
  refine gz_icmp_ge (tgt := 87) hx hb d_Dirs_fillParents_5 (by decide) (by omega) (by omega) (fun h5 => ?_) (fun h5 => ?_)
  · rw [show 64 - d = 0 by omega] at hd2
    have hd2 : f = fil L (dNow u) f0 := hd2
    have hP9 : va_P D cl5 (wR g k L u (fil L (dNow u) f0)) H := (by rw [← hd2]; exact hP)
    have hD9 : va_D A (wR g k L u (fil L (dNow u) f0)) := (by rw [← hd2]; exact hD)
    exact W.vret hx hb hr (fun tt9 ht9 hW9 => ⟨⟨(), rfl, trivial, ⟨by rw [ht9]; exact hP9, hD9⟩⟩, hS.F ht9⟩) hS.2.2 d_Dirs_fillParents_87
  · refine lv_aload_n hx hb d_Dirs_fillParents_8 rfl (lv_at hl 0 rfl) ?_
    refine va_get (D := D) (ci := 0) (v := .ref (g 6)) (C := R_Dirs) (T := T_Dirs) (N := 3) hx hb hTB in_Dirs hown hK hP 0 rfl rfl 1 (by decide) (hTB _ k_133) (fun _ h9 => h9) rfl d_Dirs_fillParents_9 ?_
    refine lv_iload_n hx hb d_Dirs_fillParents_12 rfl (lv_at hl 1 rfl) ?_
    refine gz_roV (As := [.int (nI d)]) (rest := []) (wc := (wI g k L u)) ⟨hx, hb, hml, hown, hTB⟩ (c_Inodes_kind l D g k L hL0 hL u d) (cwV 1 hTB (gd_V k_528 k_341 k_342 k_54 k_343) rfl rfl rfl (by decide +kernel) ⟨Nat.le_of_ble_eq_true rfl, Nat.le_of_ble_eq_true rfl⟩) hK hP [2, 3, 4, 5, 6, 7, 8] rfl 2 rfl rfl rfl hl.1 rfl (Nat.le_of_ble_eq_true rfl) d_Dirs_fillParents_13 ⟨Nat.zero_le _, Nat.zero_le _⟩ hS (fun H locs hP hS => ?_)
    have := iK_lt L (dNow u) d
    refine lv_iconst (v := nI 2) hx hb d_Dirs_fillParents_16 (by decide +kernel) ?_
    refine gz_icmp_ne (tgt := 31) hx hb d_Dirs_fillParents_17 (by decide) (by omega) (by omega) (fun h17 => ?_) (fun h17 => ?_)
    · refine lv_iconst (v := nI 0) hx hb d_Dirs_fillParents_31 (by decide +kernel) ?_
      refine lv_istore_n (lv' := [(2, .int (nI 0)), (0, .ref (g 7)), (1, .int (nI d))]) hx hb d_Dirs_fillParents_32 rfl hl (by decide) rfl (fun ls hl => ?_)
      refine lv_iconst (v := nI 0) hx hb d_Dirs_fillParents_33 (by decide +kernel) ?_
      refine lv_istore_n (lv' := [(3, .int (nI 0)), (2, .int (nI 0)), (0, .ref (g 7)), (1, .int (nI d))]) hx hb d_Dirs_fillParents_34 rfl hl (by decide) rfl (fun ls hl => ?_)
      have hfz := fsz_lt L (dNow u) d
      have hl : lv_has ls 5 [(3, .int (nI 0)), (2, .int (nI (fsz L (dNow u) d))), (0, .ref (g 7)), (1, .int (nI d))] := by first | (rw [show fsz L (dNow u) d = 0 from if_neg h17]; exact hl) | (rw [show fsz L (dNow u) d = iS L (dNow u) d from if_pos h17]; exact hl)
      refine gz_loop 35 (fun (zz : (Nat × (Nat → Int32))) H locs ls => match zz with | (t, f1) => va_P D cl5 (wR g k L u f1) H ∧ va_D A (wR g k L u f1) ∧ va_S A s.heap H locs ∧ lv_has ls 5 [(0, .ref (g 7)), (1, .int (nI d)), (2, .int (nI (fsz L (dNow u) d))), (3, .int (nI t))] ∧ (t ≤ fsz L (dNow u) d + 3) ∧ (fiG L (dNow u) d ((fsz L (dNow u) d + 3 - t) / 4) t f1 = fiG L (dNow u) d ((fsz L (dNow u) d + 3 - 0) / 4) 0 f)) (fun (zz : (Nat × (Nat → Int32))) => match zz with | (t, f1) => fsz L (dNow u) d + 3 - t) (fun zz H locs ls hI ih35 => ?_) (0, f) ⟨hP, hD, hS, lv_sub hl [2, 3, 1, 0] rfl, (by omega), rfl⟩
      obtain ⟨t, f1⟩ := zz
      obtain ⟨hP, hD, hS, hl, ht1, ht2⟩ := hI
      refine lv_iload_n hx hb d_Dirs_fillParents_35 rfl (lv_at hl 3 rfl) ?_
      refine lv_iload_n hx hb d_Dirs_fillParents_36 rfl (lv_at hl 2 rfl) ?_
      refine gz_icmp_ge (tgt := 81) hx hb d_Dirs_fillParents_37 (by decide) (by omega) (by omega) (fun h37 => ?_) (fun h37 => ?_)
      · rw [show (fsz L (dNow u) d + 3 - t) / 4 = 0 by omega] at ht2
        have hfi : f1 = fiG L (dNow u) d ((fsz L (dNow u) d + 3 - 0) / 4) 0 f := ht2
        refine lv_iinc (v := nI (d + 1)) (lv' := [(1, .int (nI (d + 1))), (0, .ref (g 7)), (2, .int (nI (fsz L (dNow u) d))), (3, .int (nI t))]) hx hb d_Dirs_fillParents_81 hl (k := 1) rfl (nI_add d 1) (by decide) rfl (fun ls hl => ?_)
        refine lv_goto (tgt := 2) hx hb d_Dirs_fillParents_84 (by decide) ?_
        exact ih2 (d + 1, f1) _ _ _ (by first | omega | (dsimp only; omega)) ⟨hP, hD, hS, lv_sub hl [1, 0] rfl, (by omega), (by rw [← hd2, show 64 - d = (64 - (d + 1)) + 1 by omega, foG, ← hfi])⟩
      · refine lv_aload_n hx hb d_Dirs_fillParents_40 rfl (lv_at hl 0 rfl) ?_
        refine lv_aload_n hx hb d_Dirs_fillParents_41 rfl (lv_at hl 0 rfl) ?_
        refine va_get (D := D) (ci := 0) (v := .ref (g 6)) (C := R_Dirs) (T := T_Dirs) (N := 3) hx hb hTB in_Dirs hown hK hP 0 rfl rfl 1 (by decide) (hTB _ k_133) (fun _ h9 => h9) rfl d_Dirs_fillParents_42 ?_
        refine lv_iload_n hx hb d_Dirs_fillParents_45 rfl (lv_at hl 1 rfl) ?_
        refine lv_iload_n hx hb d_Dirs_fillParents_46 rfl (lv_at hl 3 rfl) ?_
        refine gz_roV (As := [.int (nI d), .int (nI t)]) (rest := [.ref (g 7)]) (wc := (wI g k L u)) ⟨hx, hb, hml, hown, hTB⟩ (c_Inodes_placeOf l D g k L hL0 hL u d t (by omega)) (cwV 2 hTB (gd_V k_361 k_362 k_363 k_54 k_364) rfl rfl rfl (by decide +kernel) ⟨Nat.le_of_ble_eq_true rfl, Nat.le_of_ble_eq_true rfl⟩) hK hP [2, 3, 4, 5, 6, 7, 8] rfl 2 rfl rfl rfl hl.1 rfl (Nat.le_of_ble_eq_true rfl) d_Dirs_fillParents_47 ⟨Nat.zero_le _, Nat.zero_le _⟩ hS (fun H locs hP hS => ?_)
        refine gz_roV (As := [.int (plc L (dNow u) d t)]) (rest := []) (wc := (wR g k L u f1)) ⟨hx, hb, hml, hown, hTB⟩ (c_Dirs_inodeOf l D g k L hL0 hL u f1 (plc L (dNow u) d t)) (cwV 1 hTB (gd_V k_529 k_451 k_452 k_55 k_453) rfl rfl rfl (by decide +kernel) ⟨Nat.le_of_ble_eq_true rfl, Nat.le_of_ble_eq_true rfl⟩) hK hP [0, 1, 2, 3, 4, 5, 6, 7, 8] rfl 0 rfl rfl rfl hl.1 rfl (Nat.le_of_ble_eq_true rfl) d_Dirs_fillParents_50 ⟨Nat.zero_le _, Nat.zero_le _⟩ hS (fun H locs hP hS => ?_)
        have := ino_lt L (dNow u) (plc L (dNow u) d t)
        refine lv_istore (lv' := [(4, .int (nI (ino L (dNow u) (plc L (dNow u) d t)))), (0, .ref (g 7)), (1, .int (nI d)), (2, .int (nI (fsz L (dNow u) d))), (3, .int (nI t))]) hx hb d_Dirs_fillParents_53 hl (by decide) rfl (fun ls hl => ?_)
        refine lv_iload hx hb d_Dirs_fillParents_55 (lv_at hl 0 rfl) ?_
        refine gz_if_le (tgt := 75) hx hb d_Dirs_fillParents_57 (by decide) (by omega) (fun h57 => ?_) (fun h57 => ?_)
        · refine lv_iinc (v := nI (t + 4)) (lv' := [(3, .int (nI (t + 4))), (4, .int (nI (ino L (dNow u) (plc L (dNow u) d t)))), (0, .ref (g 7)), (1, .int (nI d)), (2, .int (nI (fsz L (dNow u) d)))]) hx hb d_Dirs_fillParents_75 hl (k := 4) rfl (nI_add t 4) (by decide) rfl (fun ls hl => ?_)
          refine lv_goto (tgt := 35) hx hb d_Dirs_fillParents_78 (by decide) ?_
          exact ih35 (t + 4, f1) _ _ _ (by first | omega | (dsimp only; omega)) ⟨hP, hD, hS, lv_sub hl [2, 3, 4, 0] rfl, (by omega), (by rw [← ht2, show (fsz L (dNow u) d + 3 - t) / 4 = (fsz L (dNow u) d + 3 - (t + 4)) / 4 + 1 by omega, fiG]; rw [if_neg (by omega)])⟩
        · refine lv_iload hx hb d_Dirs_fillParents_60 (lv_at hl 0 rfl) ?_
          refine lv_bipush (v := nI 64) hx hb d_Dirs_fillParents_62 (by decide +kernel) ?_
          refine gz_icmp_ge (tgt := 75) hx hb d_Dirs_fillParents_64 (by decide) (by omega) (by omega) (fun h64 => ?_) (fun h64 => ?_)
          · refine lv_iinc (v := nI (t + 4)) (lv' := [(3, .int (nI (t + 4))), (4, .int (nI (ino L (dNow u) (plc L (dNow u) d t)))), (0, .ref (g 7)), (1, .int (nI d)), (2, .int (nI (fsz L (dNow u) d)))]) hx hb d_Dirs_fillParents_75 hl (k := 4) rfl (nI_add t 4) (by decide) rfl (fun ls hl => ?_)
            refine lv_goto (tgt := 35) hx hb d_Dirs_fillParents_78 (by decide) ?_
            exact ih35 (t + 4, f1) _ _ _ (by first | omega | (dsimp only; omega)) ⟨hP, hD, hS, lv_sub hl [2, 3, 4, 0] rfl, (by omega), (by rw [← ht2, show (fsz L (dNow u) d + 3 - t) / 4 = (fsz L (dNow u) d + 3 - (t + 4)) / 4 + 1 by omega, fiG]; rw [if_neg (by omega)])⟩
          · refine lv_aload_n hx hb d_Dirs_fillParents_67 rfl (lv_at hl 1 rfl) ?_
            refine va_get (D := D) (ci := 0) (v := .ref (g 8)) (C := R_Dirs) (T := T_Dirs) (N := 3) hx hb hTB in_Dirs hown hK hP 0 rfl rfl 2 (by decide) (hTB _ k_134) (fun _ h9 => h9) rfl d_Dirs_fillParents_68 ?_
            refine lv_iload hx hb d_Dirs_fillParents_71 (lv_at hl 0 rfl) ?_
            refine lv_iload_n hx hb d_Dirs_fillParents_73 rfl (lv_at hl 2 rfl) ?_
            refine gz_iast hx hb hK hP hD hS 1 2 rfl rfl (i := ino L (dNow u) (plc L (dNow u) d t)) (by omega) (by omega) d_Dirs_fillParents_74 (fun H locs hP hD hS => ?_)
            have hP : va_P D cl5 (wR g k L u (va_up (f1) (ino L (dNow u) (plc L (dNow u) d t)) (nI d))) H := hP
            have hD : va_D A (wR g k L u (va_up (f1) (ino L (dNow u) (plc L (dNow u) d t)) (nI d))) := hD
            refine lv_iinc (v := nI (t + 4)) (lv' := [(3, .int (nI (t + 4))), (4, .int (nI (ino L (dNow u) (plc L (dNow u) d t)))), (0, .ref (g 7)), (1, .int (nI d)), (2, .int (nI (fsz L (dNow u) d)))]) hx hb d_Dirs_fillParents_75 hl (k := 4) rfl (nI_add t 4) (by decide) rfl (fun ls hl => ?_)
            refine lv_goto (tgt := 35) hx hb d_Dirs_fillParents_78 (by decide) ?_
            exact ih35 (t + 4, va_up (f1) (ino L (dNow u) (plc L (dNow u) d t)) (nI d)) _ _ _ (by first | omega | (dsimp only; omega)) ⟨hP, hD, hS, lv_sub hl [2, 3, 4, 0] rfl, (by omega), (by rw [← ht2, show (fsz L (dNow u) d + 3 - t) / 4 = (fsz L (dNow u) d + 3 - (t + 4)) / 4 + 1 by omega, fiG]; rw [if_pos ⟨by omega, by omega⟩])⟩
    · refine lv_aload_n hx hb d_Dirs_fillParents_20 rfl (lv_at hl 0 rfl) ?_
      refine va_get (D := D) (ci := 0) (v := .ref (g 6)) (C := R_Dirs) (T := T_Dirs) (N := 3) hx hb hTB in_Dirs hown hK hP 0 rfl rfl 1 (by decide) (hTB _ k_133) (fun _ h9 => h9) rfl d_Dirs_fillParents_21 ?_
      refine lv_iload_n hx hb d_Dirs_fillParents_24 rfl (lv_at hl 1 rfl) ?_
      refine gz_roV (As := [.int (nI d)]) (rest := []) (wc := (wI g k L u)) ⟨hx, hb, hml, hown, hTB⟩ (c_Inodes_size l D g k L hL0 hL u d) (cwV 1 hTB (gd_V k_352 k_353 k_354 k_54 k_355) rfl rfl rfl (by decide +kernel) ⟨Nat.le_of_ble_eq_true rfl, Nat.le_of_ble_eq_true rfl⟩) hK hP [2, 3, 4, 5, 6, 7, 8] rfl 2 rfl rfl rfl hl.1 rfl (Nat.le_of_ble_eq_true rfl) d_Dirs_fillParents_25 ⟨Nat.zero_le _, Nat.zero_le _⟩ hS (fun H locs hP hS => ?_)
      have := iS_lt L (dNow u) d
      refine lv_goto (tgt := 32) hx hb d_Dirs_fillParents_28 (by decide) ?_
      refine lv_istore_n (lv' := [(2, .int (nI (iS L (dNow u) d))), (0, .ref (g 7)), (1, .int (nI d))]) hx hb d_Dirs_fillParents_32 rfl hl (by decide) rfl (fun ls hl => ?_)
      refine lv_iconst (v := nI 0) hx hb d_Dirs_fillParents_33 (by decide +kernel) ?_
      refine lv_istore_n (lv' := [(3, .int (nI 0)), (2, .int (nI (iS L (dNow u) d))), (0, .ref (g 7)), (1, .int (nI d))]) hx hb d_Dirs_fillParents_34 rfl hl (by decide) rfl (fun ls hl => ?_)
      have hfz := fsz_lt L (dNow u) d
      have hl : lv_has ls 5 [(3, .int (nI 0)), (2, .int (nI (fsz L (dNow u) d))), (0, .ref (g 7)), (1, .int (nI d))] := by first | (rw [show fsz L (dNow u) d = 0 from if_neg h17]; exact hl) | (rw [show fsz L (dNow u) d = iS L (dNow u) d from if_pos h17]; exact hl)
      refine gz_loop 35 (fun (zz : (Nat × (Nat → Int32))) H locs ls => match zz with | (t, f1) => va_P D cl5 (wR g k L u f1) H ∧ va_D A (wR g k L u f1) ∧ va_S A s.heap H locs ∧ lv_has ls 5 [(0, .ref (g 7)), (1, .int (nI d)), (2, .int (nI (fsz L (dNow u) d))), (3, .int (nI t))] ∧ (t ≤ fsz L (dNow u) d + 3) ∧ (fiG L (dNow u) d ((fsz L (dNow u) d + 3 - t) / 4) t f1 = fiG L (dNow u) d ((fsz L (dNow u) d + 3 - 0) / 4) 0 f)) (fun (zz : (Nat × (Nat → Int32))) => match zz with | (t, f1) => fsz L (dNow u) d + 3 - t) (fun zz H locs ls hI ih35 => ?_) (0, f) ⟨hP, hD, hS, lv_sub hl [2, 3, 1, 0] rfl, (by omega), rfl⟩
      obtain ⟨t, f1⟩ := zz
      obtain ⟨hP, hD, hS, hl, ht1, ht2⟩ := hI
      refine lv_iload_n hx hb d_Dirs_fillParents_35 rfl (lv_at hl 3 rfl) ?_
      refine lv_iload_n hx hb d_Dirs_fillParents_36 rfl (lv_at hl 2 rfl) ?_
      refine gz_icmp_ge (tgt := 81) hx hb d_Dirs_fillParents_37 (by decide) (by omega) (by omega) (fun h37 => ?_) (fun h37 => ?_)
      · rw [show (fsz L (dNow u) d + 3 - t) / 4 = 0 by omega] at ht2
        have hfi : f1 = fiG L (dNow u) d ((fsz L (dNow u) d + 3 - 0) / 4) 0 f := ht2
        refine lv_iinc (v := nI (d + 1)) (lv' := [(1, .int (nI (d + 1))), (0, .ref (g 7)), (2, .int (nI (fsz L (dNow u) d))), (3, .int (nI t))]) hx hb d_Dirs_fillParents_81 hl (k := 1) rfl (nI_add d 1) (by decide) rfl (fun ls hl => ?_)
        refine lv_goto (tgt := 2) hx hb d_Dirs_fillParents_84 (by decide) ?_
        exact ih2 (d + 1, f1) _ _ _ (by first | omega | (dsimp only; omega)) ⟨hP, hD, hS, lv_sub hl [1, 0] rfl, (by omega), (by rw [← hd2, show 64 - d = (64 - (d + 1)) + 1 by omega, foG, ← hfi])⟩
      · refine lv_aload_n hx hb d_Dirs_fillParents_40 rfl (lv_at hl 0 rfl) ?_
        refine lv_aload_n hx hb d_Dirs_fillParents_41 rfl (lv_at hl 0 rfl) ?_
        refine va_get (D := D) (ci := 0) (v := .ref (g 6)) (C := R_Dirs) (T := T_Dirs) (N := 3) hx hb hTB in_Dirs hown hK hP 0 rfl rfl 1 (by decide) (hTB _ k_133) (fun _ h9 => h9) rfl d_Dirs_fillParents_42 ?_
        refine lv_iload_n hx hb d_Dirs_fillParents_45 rfl (lv_at hl 1 rfl) ?_
        refine lv_iload_n hx hb d_Dirs_fillParents_46 rfl (lv_at hl 3 rfl) ?_
        refine gz_roV (As := [.int (nI d), .int (nI t)]) (rest := [.ref (g 7)]) (wc := (wI g k L u)) ⟨hx, hb, hml, hown, hTB⟩ (c_Inodes_placeOf l D g k L hL0 hL u d t (by omega)) (cwV 2 hTB (gd_V k_361 k_362 k_363 k_54 k_364) rfl rfl rfl (by decide +kernel) ⟨Nat.le_of_ble_eq_true rfl, Nat.le_of_ble_eq_true rfl⟩) hK hP [2, 3, 4, 5, 6, 7, 8] rfl 2 rfl rfl rfl hl.1 rfl (Nat.le_of_ble_eq_true rfl) d_Dirs_fillParents_47 ⟨Nat.zero_le _, Nat.zero_le _⟩ hS (fun H locs hP hS => ?_)
        refine gz_roV (As := [.int (plc L (dNow u) d t)]) (rest := []) (wc := (wR g k L u f1)) ⟨hx, hb, hml, hown, hTB⟩ (c_Dirs_inodeOf l D g k L hL0 hL u f1 (plc L (dNow u) d t)) (cwV 1 hTB (gd_V k_529 k_451 k_452 k_55 k_453) rfl rfl rfl (by decide +kernel) ⟨Nat.le_of_ble_eq_true rfl, Nat.le_of_ble_eq_true rfl⟩) hK hP [0, 1, 2, 3, 4, 5, 6, 7, 8] rfl 0 rfl rfl rfl hl.1 rfl (Nat.le_of_ble_eq_true rfl) d_Dirs_fillParents_50 ⟨Nat.zero_le _, Nat.zero_le _⟩ hS (fun H locs hP hS => ?_)
        have := ino_lt L (dNow u) (plc L (dNow u) d t)
        refine lv_istore (lv' := [(4, .int (nI (ino L (dNow u) (plc L (dNow u) d t)))), (0, .ref (g 7)), (1, .int (nI d)), (2, .int (nI (fsz L (dNow u) d))), (3, .int (nI t))]) hx hb d_Dirs_fillParents_53 hl (by decide) rfl (fun ls hl => ?_)
        refine lv_iload hx hb d_Dirs_fillParents_55 (lv_at hl 0 rfl) ?_
        refine gz_if_le (tgt := 75) hx hb d_Dirs_fillParents_57 (by decide) (by omega) (fun h57 => ?_) (fun h57 => ?_)
        · refine lv_iinc (v := nI (t + 4)) (lv' := [(3, .int (nI (t + 4))), (4, .int (nI (ino L (dNow u) (plc L (dNow u) d t)))), (0, .ref (g 7)), (1, .int (nI d)), (2, .int (nI (fsz L (dNow u) d)))]) hx hb d_Dirs_fillParents_75 hl (k := 4) rfl (nI_add t 4) (by decide) rfl (fun ls hl => ?_)
          refine lv_goto (tgt := 35) hx hb d_Dirs_fillParents_78 (by decide) ?_
          exact ih35 (t + 4, f1) _ _ _ (by first | omega | (dsimp only; omega)) ⟨hP, hD, hS, lv_sub hl [2, 3, 4, 0] rfl, (by omega), (by rw [← ht2, show (fsz L (dNow u) d + 3 - t) / 4 = (fsz L (dNow u) d + 3 - (t + 4)) / 4 + 1 by omega, fiG]; rw [if_neg (by omega)])⟩
        · refine lv_iload hx hb d_Dirs_fillParents_60 (lv_at hl 0 rfl) ?_
          refine lv_bipush (v := nI 64) hx hb d_Dirs_fillParents_62 (by decide +kernel) ?_
          refine gz_icmp_ge (tgt := 75) hx hb d_Dirs_fillParents_64 (by decide) (by omega) (by omega) (fun h64 => ?_) (fun h64 => ?_)
          · refine lv_iinc (v := nI (t + 4)) (lv' := [(3, .int (nI (t + 4))), (4, .int (nI (ino L (dNow u) (plc L (dNow u) d t)))), (0, .ref (g 7)), (1, .int (nI d)), (2, .int (nI (fsz L (dNow u) d)))]) hx hb d_Dirs_fillParents_75 hl (k := 4) rfl (nI_add t 4) (by decide) rfl (fun ls hl => ?_)
            refine lv_goto (tgt := 35) hx hb d_Dirs_fillParents_78 (by decide) ?_
            exact ih35 (t + 4, f1) _ _ _ (by first | omega | (dsimp only; omega)) ⟨hP, hD, hS, lv_sub hl [2, 3, 4, 0] rfl, (by omega), (by rw [← ht2, show (fsz L (dNow u) d + 3 - t) / 4 = (fsz L (dNow u) d + 3 - (t + 4)) / 4 + 1 by omega, fiG]; rw [if_neg (by omega)])⟩
          · refine lv_aload_n hx hb d_Dirs_fillParents_67 rfl (lv_at hl 1 rfl) ?_
            refine va_get (D := D) (ci := 0) (v := .ref (g 8)) (C := R_Dirs) (T := T_Dirs) (N := 3) hx hb hTB in_Dirs hown hK hP 0 rfl rfl 2 (by decide) (hTB _ k_134) (fun _ h9 => h9) rfl d_Dirs_fillParents_68 ?_
            refine lv_iload hx hb d_Dirs_fillParents_71 (lv_at hl 0 rfl) ?_
            refine lv_iload_n hx hb d_Dirs_fillParents_73 rfl (lv_at hl 2 rfl) ?_
            refine gz_iast hx hb hK hP hD hS 1 2 rfl rfl (i := ino L (dNow u) (plc L (dNow u) d t)) (by omega) (by omega) d_Dirs_fillParents_74 (fun H locs hP hD hS => ?_)
            have hP : va_P D cl5 (wR g k L u (va_up (f1) (ino L (dNow u) (plc L (dNow u) d t)) (nI d))) H := hP
            have hD : va_D A (wR g k L u (va_up (f1) (ino L (dNow u) (plc L (dNow u) d t)) (nI d))) := hD
            refine lv_iinc (v := nI (t + 4)) (lv' := [(3, .int (nI (t + 4))), (4, .int (nI (ino L (dNow u) (plc L (dNow u) d t)))), (0, .ref (g 7)), (1, .int (nI d)), (2, .int (nI (fsz L (dNow u) d)))]) hx hb d_Dirs_fillParents_75 hl (k := 4) rfl (nI_add t 4) (by decide) rfl (fun ls hl => ?_)
            refine lv_goto (tgt := 35) hx hb d_Dirs_fillParents_78 (by decide) ?_
            exact ih35 (t + 4, va_up (f1) (ino L (dNow u) (plc L (dNow u) d t)) (nI d)) _ _ _ (by first | omega | (dsimp only; omega)) ⟨hP, hD, hS, lv_sub hl [2, 3, 4, 0] rfl, (by omega), (by rw [← ht2, show (fsz L (dNow u) d + 3 - t) / 4 = (fsz L (dNow u) d + 3 - (t + 4)) / 4 + 1 by omega, fiG]; rw [if_pos ⟨by omega, by omega⟩])⟩
theorem d_Dirs_isWithin_0 : decode b_Dirs_isWithin 0 = .ok (.aload_n 0, 1) := by decide +kernel
theorem d_Dirs_isWithin_1 : decode b_Dirs_isWithin 1 = .ok (.invokevirtual 59, 3) := by decide +kernel
theorem d_Dirs_isWithin_4 : decode b_Dirs_isWithin 4 = .ok (.iload_n 1, 1) := by decide +kernel
theorem d_Dirs_isWithin_5 : decode b_Dirs_isWithin 5 = .ok (.istore_n 3, 1) := by decide +kernel
theorem d_Dirs_isWithin_6 : decode b_Dirs_isWithin 6 = .ok (.iconst 0, 1) := by decide +kernel
theorem d_Dirs_isWithin_7 : decode b_Dirs_isWithin 7 = .ok (.istore 4, 2) := by decide +kernel
theorem d_Dirs_isWithin_9 : decode b_Dirs_isWithin 9 = .ok (.iload 4, 2) := by decide +kernel
theorem d_Dirs_isWithin_11 : decode b_Dirs_isWithin 11 = .ok (.bipush 64, 2) := by decide +kernel
theorem d_Dirs_isWithin_13 : decode b_Dirs_isWithin 13 = .ok (.if_icmp .ge 39, 3) := by decide +kernel
theorem d_Dirs_isWithin_16 : decode b_Dirs_isWithin 16 = .ok (.iload_n 3, 1) := by decide +kernel
theorem d_Dirs_isWithin_17 : decode b_Dirs_isWithin 17 = .ok (.ifCond .eq 35, 3) := by decide +kernel
theorem d_Dirs_isWithin_20 : decode b_Dirs_isWithin 20 = .ok (.iload_n 3, 1) := by decide +kernel
theorem d_Dirs_isWithin_21 : decode b_Dirs_isWithin 21 = .ok (.iload_n 2, 1) := by decide +kernel
theorem d_Dirs_isWithin_22 : decode b_Dirs_isWithin 22 = .ok (.if_icmp .eq 30, 3) := by decide +kernel
theorem d_Dirs_isWithin_25 : decode b_Dirs_isWithin 25 = .ok (.iload_n 3, 1) := by decide +kernel
theorem d_Dirs_isWithin_26 : decode b_Dirs_isWithin 26 = .ok (.ifCond .le 18, 3) := by decide +kernel
theorem d_Dirs_isWithin_29 : decode b_Dirs_isWithin 29 = .ok (.iload_n 3, 1) := by decide +kernel
theorem d_Dirs_isWithin_30 : decode b_Dirs_isWithin 30 = .ok (.bipush 64, 2) := by decide +kernel
theorem d_Dirs_isWithin_32 : decode b_Dirs_isWithin 32 = .ok (.if_icmp .ge 12, 3) := by decide +kernel
theorem d_Dirs_isWithin_35 : decode b_Dirs_isWithin 35 = .ok (.aload_n 0, 1) := by decide +kernel
theorem d_Dirs_isWithin_36 : decode b_Dirs_isWithin 36 = .ok (.getfield 19, 3) := by decide +kernel
theorem d_Dirs_isWithin_39 : decode b_Dirs_isWithin 39 = .ok (.iload_n 3, 1) := by decide +kernel
theorem d_Dirs_isWithin_40 : decode b_Dirs_isWithin 40 = .ok (.iaload, 1) := by decide +kernel
theorem d_Dirs_isWithin_41 : decode b_Dirs_isWithin 41 = .ok (.goto 4, 3) := by decide +kernel
theorem d_Dirs_isWithin_44 : decode b_Dirs_isWithin 44 = .ok (.iconst 0, 1) := by decide +kernel
theorem d_Dirs_isWithin_45 : decode b_Dirs_isWithin 45 = .ok (.istore_n 3, 1) := by decide +kernel
theorem d_Dirs_isWithin_46 : decode b_Dirs_isWithin 46 = .ok (.iinc 4 1, 3) := by decide +kernel
theorem d_Dirs_isWithin_49 : decode b_Dirs_isWithin 49 = .ok (.goto (-40), 3) := by decide +kernel
theorem d_Dirs_isWithin_52 : decode b_Dirs_isWithin 52 = .ok (.iload_n 3, 1) := by decide +kernel
theorem d_Dirs_isWithin_53 : decode b_Dirs_isWithin 53 = .ok (.iload_n 2, 1) := by decide +kernel
theorem d_Dirs_isWithin_54 : decode b_Dirs_isWithin 54 = .ok (.if_icmp .ne 7, 3) := by decide +kernel
theorem d_Dirs_isWithin_57 : decode b_Dirs_isWithin 57 = .ok (.iconst 1, 1) := by decide +kernel
theorem d_Dirs_isWithin_58 : decode b_Dirs_isWithin 58 = .ok (.goto 4, 3) := by decide +kernel
theorem d_Dirs_isWithin_61 : decode b_Dirs_isWithin 61 = .ok (.iconst 0, 1) := by decide +kernel
theorem d_Dirs_isWithin_62 : decode b_Dirs_isWithin 62 = .ok (.ireturn, 1) := by decide +kernel
set_option maxHeartbeats 4000000 in
set_option maxRecDepth 100000 in
theorem c_Dirs_isWithin (l : Launch) (D : va_G) (g : Nat → Nat) (k : Nat → ClassId) (L : Nat) (hL0 : 96 ≤ L) (hL : L ≤ 768) (u : DSt) (f0 : Nat → Int32) (d : Nat) (o : Int32) (hd0 : d < 64) : MuI l y_Dirs_isWithin w_Dirs_isWithin ({ frames := 5, cells := 0, slots := 0, locals := 114 }) [.ref (g 7), .int (nI d), .int (o)] D cl5 (tyC k) (wR g k L u f0) (wR g k L u (fil L (dNow u) f0)) (zI (wit L (dNow u) f0 d o)) := by
  intro sz
  refine Met.ofW (cc := b_Dirs_isWithin) (maxL := 5) (ret := (some .boolean)) (by decide) rfl ?_
  intro p e s m args below meth c s₁ B hml hv
  obtain ⟨rfl, hsz, hP, hK, hD0⟩ := hv
  have hx := B.exec
  have hb := B.bytes
  have hr := B.returns
  have hts := atoms_spec (ws := w_Dirs_isWithin) B.pre
  have hTB : ∀ w ∈ lw_tb, w.before _ s = true := fun w h => hts w (List.mem_cons_of_mem _ h)
  have hown : s.vm.findClass R_Dirs = some m.cls := findClass_of_methodNamed B.named
  have hlocks := B.notSynchronized
  subst hsz
  have hD := hD0.self (sz := s.heap.size)
  generalize hAe : va_A (wR g k L u f0) s.heap.size = A at hD ⊢
  have hA : ∀ q : Nat, s.heap.size ≤ q → A q := fun q h => by rw [← hAe]; exact Or.inr h
  have hS : va_S A s.heap s.heap [] := va_S.rf
  have hl := lv_entry ([.ref (g 7), .int (nI d), .int (o)]) (n := 5) (Nat.le_of_ble_eq_true rfl)
  rw [lg_entry_eq]
  generalize (lg_sl ([.ref (g 7), .int (nI d), .int (o)]) ++ List.replicate (5 - (lg_sl ([.ref (g 7), .int (nI d), .int (o)])).length) Slot.unset).toArray = ls at hl ⊢
  have hl : lv_has ls 5 [(0, .ref (g 7)), (1, .int (nI d)), (2, .int (o))] := hl
  refine lv_aload_n hx hb d_Dirs_isWithin_0 rfl (lv_at hl 0 rfl) ?_
  refine gz_muV (As := []) (rest := []) (wc := (wR g k L u f0)) (w1 := (wR g k L u (fil L (dNow u) f0))) (wr := ([])) ⟨hx, hb, hml, hown, hTB⟩ (c_Dirs_fillParents l D g k L hL0 hL u f0) (cwV 0 hTB (gd_V k_524 k_526 k_14 k_55 k_527) rfl rfl rfl (by decide +kernel) ⟨Nat.le_of_ble_eq_true rfl, Nat.le_of_ble_eq_true rfl⟩) hK hP hD hA [0, 1, 2, 3, 4, 5, 6, 7, 8] [] rfl rfl (by decide) rfl (by decide) (by decide) 0 rfl rfl rfl hl.1 rfl (Nat.le_of_ble_eq_true rfl) d_Dirs_isWithin_1 ⟨Nat.zero_le _, Nat.zero_le _⟩ hS (fun H locs hP hD hS => ?_)
  have hP : va_P D cl5 (wR g k L u (fil L (dNow u) f0)) H := hP
  have hD : va_D A (wR g k L u (fil L (dNow u) f0)) := hD
  refine lv_iload_n hx hb d_Dirs_isWithin_4 rfl (lv_at hl 1 rfl) ?_
  refine lv_istore_n (lv' := [(3, .int (nI d)), (0, .ref (g 7)), (1, .int (nI d)), (2, .int (o))]) hx hb d_Dirs_isWithin_5 rfl hl (by decide) rfl (fun ls hl => ?_)
  refine lv_iconst (v := nI 0) hx hb d_Dirs_isWithin_6 (by decide +kernel) ?_
  refine lv_istore (lv' := [(4, .int (nI 0)), (3, .int (nI d)), (0, .ref (g 7)), (1, .int (nI d)), (2, .int (o))]) hx hb d_Dirs_isWithin_7 hl (by decide) rfl (fun ls hl => ?_)
  refine gz_loop 9 (fun (zz : (Nat × Int32)) H locs ls => match zz with | (n, x) => va_P D cl5 (wR g k L u (fil L (dNow u) f0)) H ∧ va_D A (wR g k L u (fil L (dNow u) f0)) ∧ va_S A s.heap H locs ∧ lv_has ls 5 [(0, .ref (g 7)), (2, .int (o)), (3, .int (x)), (4, .int (nI n))] ∧ (n ≤ 64) ∧ (wiG (fil L (dNow u) f0) o (64 - n) x = wiG (fil L (dNow u) f0) o 64 (nI d))) (fun (zz : (Nat × Int32)) => match zz with | (n, x) => 64 - n) (fun zz H locs ls hI ih9 => ?_) (0, nI d) ⟨hP, hD, hS, lv_sub hl [2, 4, 1, 0] rfl, (by omega), rfl⟩
  obtain ⟨n, x⟩ := zz
  obtain ⟨hP, hD, hS, hl, hn1, hn2⟩ := hI
  refine lv_iload hx hb d_Dirs_isWithin_9 (lv_at hl 3 rfl) ?_
  refine lv_bipush (v := nI 64) hx hb d_Dirs_isWithin_11 (by decide +kernel) ?_
  refine gz_icmp_ge (tgt := 52) hx hb d_Dirs_isWithin_13 (by decide) (by omega) (by omega) (fun h13 => ?_) (fun h13 => ?_)
  · have hw : x = wiG (fil L (dNow u) f0) o 64 (nI d) := by rw [← hn2, show 64 - n = 0 by omega]; rfl
    refine lv_iload_n hx hb d_Dirs_isWithin_52 rfl (lv_at hl 2 rfl) ?_
    refine lv_iload_n hx hb d_Dirs_isWithin_53 rfl (lv_at hl 1 rfl) ?_
    refine lv_icmp_ne (tgt := 61) hx hb d_Dirs_isWithin_54 (by decide) (fun h54 => ?_) (fun h54 => ?_)
    · refine lv_iconst (v := nI 0) hx hb d_Dirs_isWithin_61 (by decide +kernel) ?_
      have hP9 : va_P D cl5 (wR g k L u (fil L (dNow u) f0)) H := hP
      have hD9 : va_D A (wR g k L u (fil L (dNow u) f0)) := hD
      exact W.zret (v := nI 0) (ty := .boolean) hx hb hr (by decide +kernel) (fun tt9 ht9 hW9 => ⟨⟨_, (), rfl, (by unfold wit; rw [← hw]; first | (rw [decide_eq_true h54]; rfl) | (rw [decide_eq_false h54]; rfl)), ⟨by rw [ht9]; exact hP9, hD9⟩⟩, hS.F ht9⟩) hS.2.2 d_Dirs_isWithin_62
    · refine lv_iconst (v := nI 1) hx hb d_Dirs_isWithin_57 (by decide +kernel) ?_
      refine lv_goto (tgt := 62) hx hb d_Dirs_isWithin_58 (by decide) ?_
      have hP9 : va_P D cl5 (wR g k L u (fil L (dNow u) f0)) H := hP
      have hD9 : va_D A (wR g k L u (fil L (dNow u) f0)) := hD
      exact W.zret (v := nI 1) (ty := .boolean) hx hb hr (by decide +kernel) (fun tt9 ht9 hW9 => ⟨⟨_, (), rfl, (by unfold wit; rw [← hw]; first | (rw [decide_eq_true h54]; rfl) | (rw [decide_eq_false h54]; rfl)), ⟨by rw [ht9]; exact hP9, hD9⟩⟩, hS.F ht9⟩) hS.2.2 d_Dirs_isWithin_62
  · refine lv_iload_n hx hb d_Dirs_isWithin_16 rfl (lv_at hl 2 rfl) ?_
    refine lv_if_eq (tgt := 52) hx hb d_Dirs_isWithin_17 (by decide) (fun h17 => ?_) (fun h17 => ?_)
    · have hw : x = wiG (fil L (dNow u) f0) o 64 (nI d) := by rw [← hn2, show 64 - n = (64 - (n + 1)) + 1 by omega, wiG, if_pos (Or.inl h17)]
      refine lv_iload_n hx hb d_Dirs_isWithin_52 rfl (lv_at hl 2 rfl) ?_
      refine lv_iload_n hx hb d_Dirs_isWithin_53 rfl (lv_at hl 1 rfl) ?_
      refine lv_icmp_ne (tgt := 61) hx hb d_Dirs_isWithin_54 (by decide) (fun h54 => ?_) (fun h54 => ?_)
      · refine lv_iconst (v := nI 0) hx hb d_Dirs_isWithin_61 (by decide +kernel) ?_
        have hP9 : va_P D cl5 (wR g k L u (fil L (dNow u) f0)) H := hP
        have hD9 : va_D A (wR g k L u (fil L (dNow u) f0)) := hD
        exact W.zret (v := nI 0) (ty := .boolean) hx hb hr (by decide +kernel) (fun tt9 ht9 hW9 => ⟨⟨_, (), rfl, (by unfold wit; rw [← hw]; first | (rw [decide_eq_true h54]; rfl) | (rw [decide_eq_false h54]; rfl)), ⟨by rw [ht9]; exact hP9, hD9⟩⟩, hS.F ht9⟩) hS.2.2 d_Dirs_isWithin_62
      · refine lv_iconst (v := nI 1) hx hb d_Dirs_isWithin_57 (by decide +kernel) ?_
        refine lv_goto (tgt := 62) hx hb d_Dirs_isWithin_58 (by decide) ?_
        have hP9 : va_P D cl5 (wR g k L u (fil L (dNow u) f0)) H := hP
        have hD9 : va_D A (wR g k L u (fil L (dNow u) f0)) := hD
        exact W.zret (v := nI 1) (ty := .boolean) hx hb hr (by decide +kernel) (fun tt9 ht9 hW9 => ⟨⟨_, (), rfl, (by unfold wit; rw [← hw]; first | (rw [decide_eq_true h54]; rfl) | (rw [decide_eq_false h54]; rfl)), ⟨by rw [ht9]; exact hP9, hD9⟩⟩, hS.F ht9⟩) hS.2.2 d_Dirs_isWithin_62
    · refine lv_iload_n hx hb d_Dirs_isWithin_20 rfl (lv_at hl 2 rfl) ?_
      refine lv_iload_n hx hb d_Dirs_isWithin_21 rfl (lv_at hl 1 rfl) ?_
      refine lv_icmp_eq (tgt := 52) hx hb d_Dirs_isWithin_22 (by decide) (fun h22 => ?_) (fun h22 => ?_)
      · have hw : x = wiG (fil L (dNow u) f0) o 64 (nI d) := by rw [← hn2, show 64 - n = (64 - (n + 1)) + 1 by omega, wiG, if_pos (Or.inr h22)]
        refine lv_iload_n hx hb d_Dirs_isWithin_52 rfl (lv_at hl 2 rfl) ?_
        refine lv_iload_n hx hb d_Dirs_isWithin_53 rfl (lv_at hl 1 rfl) ?_
        refine lv_icmp_ne (tgt := 61) hx hb d_Dirs_isWithin_54 (by decide) (fun h54 => ?_) (fun h54 => ?_)
        · refine lv_iconst (v := nI 0) hx hb d_Dirs_isWithin_61 (by decide +kernel) ?_
          have hP9 : va_P D cl5 (wR g k L u (fil L (dNow u) f0)) H := hP
          have hD9 : va_D A (wR g k L u (fil L (dNow u) f0)) := hD
          exact W.zret (v := nI 0) (ty := .boolean) hx hb hr (by decide +kernel) (fun tt9 ht9 hW9 => ⟨⟨_, (), rfl, (by unfold wit; rw [← hw]; first | (rw [decide_eq_true h54]; rfl) | (rw [decide_eq_false h54]; rfl)), ⟨by rw [ht9]; exact hP9, hD9⟩⟩, hS.F ht9⟩) hS.2.2 d_Dirs_isWithin_62
        · refine lv_iconst (v := nI 1) hx hb d_Dirs_isWithin_57 (by decide +kernel) ?_
          refine lv_goto (tgt := 62) hx hb d_Dirs_isWithin_58 (by decide) ?_
          have hP9 : va_P D cl5 (wR g k L u (fil L (dNow u) f0)) H := hP
          have hD9 : va_D A (wR g k L u (fil L (dNow u) f0)) := hD
          exact W.zret (v := nI 1) (ty := .boolean) hx hb hr (by decide +kernel) (fun tt9 ht9 hW9 => ⟨⟨_, (), rfl, (by unfold wit; rw [← hw]; first | (rw [decide_eq_true h54]; rfl) | (rw [decide_eq_false h54]; rfl)), ⟨by rw [ht9]; exact hP9, hD9⟩⟩, hS.F ht9⟩) hS.2.2 d_Dirs_isWithin_62
      · refine lv_iload_n hx hb d_Dirs_isWithin_25 rfl (lv_at hl 2 rfl) ?_
        refine lv_if_le (tgt := 44) hx hb d_Dirs_isWithin_26 (by decide) (fun h26 => ?_) (fun h26 => ?_)
        · have h26x : ¬ 0 < x := Int32.not_lt.mpr h26
          refine lv_iconst (v := nI 0) hx hb d_Dirs_isWithin_44 (by decide +kernel) ?_
          refine lv_istore_n (lv' := [(3, .int (nI 0)), (0, .ref (g 7)), (2, .int (o)), (4, .int (nI n))]) hx hb d_Dirs_isWithin_45 rfl hl (by decide) rfl (fun ls hl => ?_)
          refine lv_iinc (v := nI (n + 1)) (lv' := [(4, .int (nI (n + 1))), (3, .int (nI 0)), (0, .ref (g 7)), (2, .int (o))]) hx hb d_Dirs_isWithin_46 hl (k := 3) rfl (nI_add n 1) (by decide) rfl (fun ls hl => ?_)
          refine lv_goto (tgt := 9) hx hb d_Dirs_isWithin_49 (by decide) ?_
          exact ih9 (n + 1, nI 0) _ _ _ (by first | omega | (dsimp only; omega)) ⟨hP, hD, hS, lv_sub hl [2, 3, 1, 0] rfl, (by omega), (by rw [← hn2, show 64 - n = (64 - (n + 1)) + 1 by omega, wiG, if_neg (fun z => z.elim h17 h22)]; first | (rw [if_pos ⟨Int32.not_le.mp h26, Int32.not_le.mp h32⟩, nI_clamp (by omega)]) | (rw [if_neg (fun z => h26x z.1)]) | (rw [if_neg (fun z => h32x z.2)]))⟩
        · refine lv_iload_n hx hb d_Dirs_isWithin_29 rfl (lv_at hl 2 rfl) ?_
          refine lv_bipush (v := nI 64) hx hb d_Dirs_isWithin_30 (by decide +kernel) ?_
          refine lv_icmp_ge (tgt := 44) hx hb d_Dirs_isWithin_32 (by decide) (fun h32 => ?_) (fun h32 => ?_)
          · have h32x : ¬ x < nI 64 := Int32.not_lt.mpr h32
            refine lv_iconst (v := nI 0) hx hb d_Dirs_isWithin_44 (by decide +kernel) ?_
            refine lv_istore_n (lv' := [(3, .int (nI 0)), (0, .ref (g 7)), (2, .int (o)), (4, .int (nI n))]) hx hb d_Dirs_isWithin_45 rfl hl (by decide) rfl (fun ls hl => ?_)
            refine lv_iinc (v := nI (n + 1)) (lv' := [(4, .int (nI (n + 1))), (3, .int (nI 0)), (0, .ref (g 7)), (2, .int (o))]) hx hb d_Dirs_isWithin_46 hl (k := 3) rfl (nI_add n 1) (by decide) rfl (fun ls hl => ?_)
            refine lv_goto (tgt := 9) hx hb d_Dirs_isWithin_49 (by decide) ?_
            exact ih9 (n + 1, nI 0) _ _ _ (by first | omega | (dsimp only; omega)) ⟨hP, hD, hS, lv_sub hl [2, 3, 1, 0] rfl, (by omega), (by rw [← hn2, show 64 - n = (64 - (n + 1)) + 1 by omega, wiG, if_neg (fun z => z.elim h17 h22)]; first | (rw [if_pos ⟨Int32.not_le.mp h26, Int32.not_le.mp h32⟩, nI_clamp (by omega)]) | (rw [if_neg (fun z => h26x z.1)]) | (rw [if_neg (fun z => h32x z.2)]))⟩
          · obtain ⟨q, hq, rfl⟩ : ∃ q, q < 64 ∧ x = nI q := by
              rcases pk_ix x (n := 64) (by decide) with z | z | z
              · exact absurd (Int32.le_of_lt z) h26
              · exact absurd z h32
              · exact z
            refine lv_aload_n hx hb d_Dirs_isWithin_35 rfl (lv_at hl 0 rfl) ?_
            refine va_get (D := D) (ci := 0) (v := .ref (g 8)) (C := R_Dirs) (T := T_Dirs) (N := 3) hx hb hTB in_Dirs hown hK hP 0 rfl rfl 2 (by decide) (hTB _ k_134) (fun _ h9 => h9) rfl d_Dirs_isWithin_36 ?_
            refine lv_iload_n hx hb d_Dirs_isWithin_39 rfl (lv_at hl 2 rfl) ?_
            refine gz_iald hx hb hK hP 1 2 rfl rfl (i := q) (by omega) (by omega) d_Dirs_isWithin_40 ?_
            refine lv_goto (tgt := 45) hx hb d_Dirs_isWithin_41 (by decide) ?_
            refine lv_istore_n (lv' := [(3, .int (fil L (dNow u) f0 q)), (0, .ref (g 7)), (2, .int (o)), (4, .int (nI n))]) hx hb d_Dirs_isWithin_45 rfl hl (by decide) rfl (fun ls hl => ?_)
            refine lv_iinc (v := nI (n + 1)) (lv' := [(4, .int (nI (n + 1))), (3, .int (fil L (dNow u) f0 q)), (0, .ref (g 7)), (2, .int (o))]) hx hb d_Dirs_isWithin_46 hl (k := 3) rfl (nI_add n 1) (by decide) rfl (fun ls hl => ?_)
            refine lv_goto (tgt := 9) hx hb d_Dirs_isWithin_49 (by decide) ?_
            exact ih9 (n + 1, fil L (dNow u) f0 q) _ _ _ (by first | omega | (dsimp only; omega)) ⟨hP, hD, hS, lv_sub hl [2, 3, 1, 0] rfl, (by omega), (by rw [← hn2, show 64 - n = (64 - (n + 1)) + 1 by omega, wiG, if_neg (fun z => z.elim h17 h22)]; first | (rw [if_pos ⟨Int32.not_le.mp h26, Int32.not_le.mp h32⟩, nI_clamp (by omega)]) | (rw [if_neg (fun z => h26x z.1)]) | (rw [if_neg (fun z => h32x z.2)]))⟩
