theorem d_Disk_blocks_0 : decode b_Disk_blocks 0 = .ok (.aload_n 0, 1) := by decide +kernel
theorem d_Disk_blocks_1 : decode b_Disk_blocks 1 = .ok (.getfield 9, 3) := by decide +kernel
theorem d_Disk_blocks_4 : decode b_Disk_blocks 4 = .ok (.ireturn, 1) := by decide +kernel
set_option maxHeartbeats 4000000 in
set_option maxRecDepth 100000 in
theorem c_Disk_blocks (l : Launch) (D : va_G) (g : Nat → Nat) (k : Nat → ClassId) (L : Nat) (hL0 : 96 ≤ L) (hL : L ≤ 768) (u : DSt) : RoI l y_Disk_blocks w_Disk_blocks ({ frames := 0, cells := 0, slots := 0, locals := 0 }) [.ref (g 0)] (RoP D cl5 (tyC k) (wD g k L u)) (nI L) := by
  refine Met.ofW (cc := b_Disk_blocks) (maxL := 1) (ret := (some .int)) (by decide) rfl ?_
  intro p e s m args below meth c s₁ B hml hv
  obtain ⟨rfl, hP, hK⟩ := hv
  have hx := B.exec
  have hb := B.bytes
  have hr := B.returns
  have hts := atoms_spec (ws := w_Disk_blocks) B.pre
  have hTB : ∀ w ∈ lw_tb, w.before _ s = true := fun w h => hts w (List.mem_cons_of_mem _ h)
  have hown : s.vm.findClass R_Disk = some m.cls := findClass_of_methodNamed B.named
  have hlocks := B.notSynchronized
  have hS : va_S (fun _ => False) s.heap s.heap [] := va_S.rf
  have hl := lv_entry ([.ref (g 0)]) (n := 1) (Nat.le_of_ble_eq_true rfl)
  rw [lg_entry_eq]
  generalize (lg_sl ([.ref (g 0)]) ++ List.replicate (1 - (lg_sl ([.ref (g 0)])).length) Slot.unset).toArray = ls at hl ⊢
  have hl : lv_has ls 1 [(0, .ref (g 0))] := hl
  refine lv_aload_n hx hb d_Disk_blocks_0 rfl (lv_at hl 0 rfl) ?_
  refine va_get (D := D) (ci := 1) (v := .int (nI L)) (C := R_Disk) (T := T_Disk) (N := 7) hx hb hTB in_Disk hown hK hP 0 rfl rfl 0 (by decide) (hTB _ k_92) (fun _ h9 => h9) rfl d_Disk_blocks_1 ?_
  exact W.iret (v := nI L) hx hb hr (fun tt9 ht9 hW9 => ⟨⟨_, (), rfl, rfl, trivial⟩, hS.F ht9⟩) hS.2.2 d_Disk_blocks_4
theorem d_Disk_earlyCommits_0 : decode b_Disk_earlyCommits 0 = .ok (.aload_n 0, 1) := by decide +kernel
theorem d_Disk_earlyCommits_1 : decode b_Disk_earlyCommits 1 = .ok (.getfield 32, 3) := by decide +kernel
theorem d_Disk_earlyCommits_4 : decode b_Disk_earlyCommits 4 = .ok (.ireturn, 1) := by decide +kernel
set_option maxHeartbeats 4000000 in
set_option maxRecDepth 100000 in
theorem c_Disk_earlyCommits (l : Launch) (D : va_G) (g : Nat → Nat) (k : Nat → ClassId) (L : Nat) (hL0 : 96 ≤ L) (hL : L ≤ 768) (u : DSt) : RoI l y_Disk_earlyCommits w_Disk_earlyCommits ({ frames := 0, cells := 0, slots := 0, locals := 0 }) [.ref (g 0)] (RoP D cl5 (tyC k) (wD g k L u)) (dEa u) := by
  refine Met.ofW (cc := b_Disk_earlyCommits) (maxL := 1) (ret := (some .int)) (by decide) rfl ?_
  intro p e s m args below meth c s₁ B hml hv
  obtain ⟨rfl, hP, hK⟩ := hv
  have hx := B.exec
  have hb := B.bytes
  have hr := B.returns
  have hts := atoms_spec (ws := w_Disk_earlyCommits) B.pre
  have hTB : ∀ w ∈ lw_tb, w.before _ s = true := fun w h => hts w (List.mem_cons_of_mem _ h)
  have hown : s.vm.findClass R_Disk = some m.cls := findClass_of_methodNamed B.named
  have hlocks := B.notSynchronized
  have hS : va_S (fun _ => False) s.heap s.heap [] := va_S.rf
  have hl := lv_entry ([.ref (g 0)]) (n := 1) (Nat.le_of_ble_eq_true rfl)
  rw [lg_entry_eq]
  generalize (lg_sl ([.ref (g 0)]) ++ List.replicate (1 - (lg_sl ([.ref (g 0)])).length) Slot.unset).toArray = ls at hl ⊢
  have hl : lv_has ls 1 [(0, .ref (g 0))] := hl
  refine lv_aload_n hx hb d_Disk_earlyCommits_0 rfl (lv_at hl 0 rfl) ?_
  refine va_get (D := D) (ci := 1) (v := .int (dEa u)) (C := R_Disk) (T := T_Disk) (N := 7) hx hb hTB in_Disk hown hK hP 0 rfl rfl 6 (by decide) (hTB _ k_98) (fun _ h9 => h9) rfl d_Disk_earlyCommits_1 ?_
  exact W.iret (v := dEa u) hx hb hr (fun tt9 ht9 hW9 => ⟨⟨_, (), rfl, rfl, trivial⟩, hS.F ht9⟩) hS.2.2 d_Disk_earlyCommits_4
theorem d_Disk_hasBlock_0 : decode b_Disk_hasBlock 0 = .ok (.iload_n 1, 1) := by decide +kernel
theorem d_Disk_hasBlock_1 : decode b_Disk_hasBlock 1 = .ok (.ifCond .lt 15, 3) := by decide +kernel
theorem d_Disk_hasBlock_4 : decode b_Disk_hasBlock 4 = .ok (.iload_n 1, 1) := by decide +kernel
theorem d_Disk_hasBlock_5 : decode b_Disk_hasBlock 5 = .ok (.aload_n 0, 1) := by decide +kernel
theorem d_Disk_hasBlock_6 : decode b_Disk_hasBlock 6 = .ok (.getfield 9, 3) := by decide +kernel
theorem d_Disk_hasBlock_9 : decode b_Disk_hasBlock 9 = .ok (.if_icmp .ge 7, 3) := by decide +kernel
theorem d_Disk_hasBlock_12 : decode b_Disk_hasBlock 12 = .ok (.iconst 1, 1) := by decide +kernel
theorem d_Disk_hasBlock_13 : decode b_Disk_hasBlock 13 = .ok (.goto 4, 3) := by decide +kernel
theorem d_Disk_hasBlock_16 : decode b_Disk_hasBlock 16 = .ok (.iconst 0, 1) := by decide +kernel
theorem d_Disk_hasBlock_17 : decode b_Disk_hasBlock 17 = .ok (.ireturn, 1) := by decide +kernel
set_option maxHeartbeats 4000000 in
set_option maxRecDepth 100000 in
theorem c_Disk_hasBlock (l : Launch) (D : va_G) (g : Nat → Nat) (k : Nat → ClassId) (L : Nat) (hL0 : 96 ≤ L) (hL : L ≤ 768) (u : DSt) (x : Int32) : RoI l y_Disk_hasBlock w_Disk_hasBlock ({ frames := 0, cells := 0, slots := 0, locals := 0 }) [.ref (g 0), .int (x)] (RoP D cl5 (tyC k) (wD g k L u)) (zI (hsB L x)) := by
  refine Met.ofW (cc := b_Disk_hasBlock) (maxL := 2) (ret := (some .boolean)) (by decide) rfl ?_
  intro p e s m args below meth c s₁ B hml hv
  obtain ⟨rfl, hP, hK⟩ := hv
  have hx := B.exec
  have hb := B.bytes
  have hr := B.returns
  have hts := atoms_spec (ws := w_Disk_hasBlock) B.pre
  have hTB : ∀ w ∈ lw_tb, w.before _ s = true := fun w h => hts w (List.mem_cons_of_mem _ h)
  have hown : s.vm.findClass R_Disk = some m.cls := findClass_of_methodNamed B.named
  have hlocks := B.notSynchronized
  have hS : va_S (fun _ => False) s.heap s.heap [] := va_S.rf
  have hl := lv_entry ([.ref (g 0), .int (x)]) (n := 2) (Nat.le_of_ble_eq_true rfl)
  rw [lg_entry_eq]
  generalize (lg_sl ([.ref (g 0), .int (x)]) ++ List.replicate (2 - (lg_sl ([.ref (g 0), .int (x)])).length) Slot.unset).toArray = ls at hl ⊢
  have hl : lv_has ls 2 [(0, .ref (g 0)), (1, .int (x))] := hl
  refine lv_iload_n hx hb d_Disk_hasBlock_0 rfl (lv_at hl 1 rfl) ?_
  refine lv_if_lt (tgt := 16) hx hb d_Disk_hasBlock_1 (by decide) (fun h1 => ?_) (fun h1 => ?_)
  · refine lv_iconst (v := nI 0) hx hb d_Disk_hasBlock_16 (by decide +kernel) ?_
    exact W.zret (v := nI 0) (ty := .boolean) hx hb hr (by decide +kernel) (fun tt9 ht9 hW9 => ⟨⟨_, (), rfl, (by first | (rw [hsB_lo h1]; rfl) | (rw [hsB_hi h9 (by omega)]; rfl) | (rw [hsB_in h9 hL]; rfl)), trivial⟩, hS.F ht9⟩) hS.2.2 d_Disk_hasBlock_17
  · obtain ⟨q, hq, rfl⟩ := nI_of h1
    refine lv_iload_n hx hb d_Disk_hasBlock_4 rfl (lv_at hl 1 rfl) ?_
    refine lv_aload_n hx hb d_Disk_hasBlock_5 rfl (lv_at hl 0 rfl) ?_
    refine va_get (D := D) (ci := 1) (v := .int (nI L)) (C := R_Disk) (T := T_Disk) (N := 7) hx hb hTB in_Disk hown hK hP 0 rfl rfl 0 (by decide) (hTB _ k_92) (fun _ h9 => h9) rfl d_Disk_hasBlock_6 ?_
    refine gz_icmp_ge (tgt := 16) hx hb d_Disk_hasBlock_9 (by decide) (by omega) (by omega) (fun h9 => ?_) (fun h9 => ?_)
    · refine lv_iconst (v := nI 0) hx hb d_Disk_hasBlock_16 (by decide +kernel) ?_
      exact W.zret (v := nI 0) (ty := .boolean) hx hb hr (by decide +kernel) (fun tt9 ht9 hW9 => ⟨⟨_, (), rfl, (by first | (rw [hsB_lo h1]; rfl) | (rw [hsB_hi h9 (by omega)]; rfl) | (rw [hsB_in h9 hL]; rfl)), trivial⟩, hS.F ht9⟩) hS.2.2 d_Disk_hasBlock_17
    · refine lv_iconst (v := nI 1) hx hb d_Disk_hasBlock_12 (by decide +kernel) ?_
      refine lv_goto (tgt := 17) hx hb d_Disk_hasBlock_13 (by decide) ?_
      exact W.zret (v := nI 1) (ty := .boolean) hx hb hr (by decide +kernel) (fun tt9 ht9 hW9 => ⟨⟨_, (), rfl, (by first | (rw [hsB_lo h1]; rfl) | (rw [hsB_hi h9 (by omega)]; rfl) | (rw [hsB_in h9 hL]; rfl)), trivial⟩, hS.F ht9⟩) hS.2.2 d_Disk_hasBlock_17
theorem d_Disk_hasByte_0 : decode b_Disk_hasByte 0 = .ok (.aload_n 0, 1) := by decide +kernel
theorem d_Disk_hasByte_1 : decode b_Disk_hasByte 1 = .ok (.iload_n 1, 1) := by decide +kernel
theorem d_Disk_hasByte_2 : decode b_Disk_hasByte 2 = .ok (.invokevirtual 39, 3) := by decide +kernel
theorem d_Disk_hasByte_5 : decode b_Disk_hasByte 5 = .ok (.ifCond .eq 17, 3) := by decide +kernel
theorem d_Disk_hasByte_8 : decode b_Disk_hasByte 8 = .ok (.iload_n 2, 1) := by decide +kernel
theorem d_Disk_hasByte_9 : decode b_Disk_hasByte 9 = .ok (.ifCond .lt 13, 3) := by decide +kernel
theorem d_Disk_hasByte_12 : decode b_Disk_hasByte 12 = .ok (.iload_n 2, 1) := by decide +kernel
theorem d_Disk_hasByte_13 : decode b_Disk_hasByte 13 = .ok (.bipush 64, 2) := by decide +kernel
theorem d_Disk_hasByte_15 : decode b_Disk_hasByte 15 = .ok (.if_icmp .ge 7, 3) := by decide +kernel
theorem d_Disk_hasByte_18 : decode b_Disk_hasByte 18 = .ok (.iconst 1, 1) := by decide +kernel
theorem d_Disk_hasByte_19 : decode b_Disk_hasByte 19 = .ok (.goto 4, 3) := by decide +kernel
theorem d_Disk_hasByte_22 : decode b_Disk_hasByte 22 = .ok (.iconst 0, 1) := by decide +kernel
theorem d_Disk_hasByte_23 : decode b_Disk_hasByte 23 = .ok (.ireturn, 1) := by decide +kernel
set_option maxHeartbeats 4000000 in
set_option maxRecDepth 100000 in
theorem c_Disk_hasByte (l : Launch) (D : va_G) (g : Nat → Nat) (k : Nat → ClassId) (L : Nat) (hL0 : 96 ≤ L) (hL : L ≤ 768) (u : DSt) (x y : Int32) : RoI l y_Disk_hasByte w_Disk_hasByte ({ frames := 1, cells := 0, slots := 0, locals := 21 }) [.ref (g 0), .int (x), .int (y)] (RoP D cl5 (tyC k) (wD g k L u)) (zI (hsB L x && !decide (y < 0 ∨ nI 64 ≤ y))) := by
  refine Met.ofW (cc := b_Disk_hasByte) (maxL := 3) (ret := (some .boolean)) (by decide) rfl ?_
  intro p e s m args below meth c s₁ B hml hv
  obtain ⟨rfl, hP, hK⟩ := hv
  have hx := B.exec
  have hb := B.bytes
  have hr := B.returns
  have hts := atoms_spec (ws := w_Disk_hasByte) B.pre
  have hTB : ∀ w ∈ lw_tb, w.before _ s = true := fun w h => hts w (List.mem_cons_of_mem _ h)
  have hown : s.vm.findClass R_Disk = some m.cls := findClass_of_methodNamed B.named
  have hlocks := B.notSynchronized
  have hS : va_S (fun _ => False) s.heap s.heap [] := va_S.rf
  have hl := lv_entry ([.ref (g 0), .int (x), .int (y)]) (n := 3) (Nat.le_of_ble_eq_true rfl)
  rw [lg_entry_eq]
  generalize (lg_sl ([.ref (g 0), .int (x), .int (y)]) ++ List.replicate (3 - (lg_sl ([.ref (g 0), .int (x), .int (y)])).length) Slot.unset).toArray = ls at hl ⊢
  have hl : lv_has ls 3 [(0, .ref (g 0)), (1, .int (x)), (2, .int (y))] := hl
  refine lv_aload_n hx hb d_Disk_hasByte_0 rfl (lv_at hl 0 rfl) ?_
  refine lv_iload_n hx hb d_Disk_hasByte_1 rfl (lv_at hl 1 rfl) ?_
  refine gz_roV (As := [.int (x)]) (rest := []) (wc := (wD g k L u)) ⟨hx, hb, hml, hown, hTB⟩ (c_Disk_hasBlock l D g k L hL0 hL u x) (cwV 1 hTB (gd_V k_179 k_181 k_4 k_52 k_182) rfl rfl rfl (by decide +kernel) ⟨Nat.le_of_ble_eq_true rfl, Nat.le_of_ble_eq_true rfl⟩) hK hP [0, 1, 2, 3, 4, 5] rfl 0 rfl rfl rfl hl.1 rfl (Nat.le_of_ble_eq_true rfl) d_Disk_hasByte_2 ⟨Nat.zero_le _, Nat.zero_le _⟩ hS (fun H locs hP hS => ?_)
  refine gz_ifz_eq (tgt := 22) hx hb d_Disk_hasByte_5 (by decide) (fun h5 => ?_) (fun h5 => ?_)
  · refine lv_iconst (v := nI 0) hx hb d_Disk_hasByte_22 (by decide +kernel) ?_
    exact W.zret (v := nI 0) (ty := .boolean) hx hb hr (by decide +kernel) (fun tt9 ht9 hW9 => ⟨⟨_, (), rfl, (by first | (rw [h5]; rfl) | (rw [h5]; simp [h9]; rfl) | (rw [h5]; simp [h9, h15]; rfl) | (rw [h5]; simp [zI, h9, h15]; rfl)), trivial⟩, hS.F ht9⟩) hS.2.2 d_Disk_hasByte_23
  · refine lv_iload_n hx hb d_Disk_hasByte_8 rfl (lv_at hl 2 rfl) ?_
    refine lv_if_lt (tgt := 22) hx hb d_Disk_hasByte_9 (by decide) (fun h9 => ?_) (fun h9 => ?_)
    · refine lv_iconst (v := nI 0) hx hb d_Disk_hasByte_22 (by decide +kernel) ?_
      exact W.zret (v := nI 0) (ty := .boolean) hx hb hr (by decide +kernel) (fun tt9 ht9 hW9 => ⟨⟨_, (), rfl, (by first | (rw [h5]; rfl) | (rw [h5]; simp [h9]; rfl) | (rw [h5]; simp [h9, h15]; rfl) | (rw [h5]; simp [zI, h9, h15]; rfl)), trivial⟩, hS.F ht9⟩) hS.2.2 d_Disk_hasByte_23
    · refine lv_iload_n hx hb d_Disk_hasByte_12 rfl (lv_at hl 2 rfl) ?_
      refine lv_bipush (v := nI 64) hx hb d_Disk_hasByte_13 (by decide +kernel) ?_
      refine lv_icmp_ge (tgt := 22) hx hb d_Disk_hasByte_15 (by decide) (fun h15 => ?_) (fun h15 => ?_)
      · refine lv_iconst (v := nI 0) hx hb d_Disk_hasByte_22 (by decide +kernel) ?_
        exact W.zret (v := nI 0) (ty := .boolean) hx hb hr (by decide +kernel) (fun tt9 ht9 hW9 => ⟨⟨_, (), rfl, (by first | (rw [h5]; rfl) | (rw [h5]; simp [h9]; rfl) | (rw [h5]; simp [h9, h15]; rfl) | (rw [h5]; simp [zI, h9, h15]; rfl)), trivial⟩, hS.F ht9⟩) hS.2.2 d_Disk_hasByte_23
      · refine lv_iconst (v := nI 1) hx hb d_Disk_hasByte_18 (by decide +kernel) ?_
        refine lv_goto (tgt := 23) hx hb d_Disk_hasByte_19 (by decide) ?_
        exact W.zret (v := nI 1) (ty := .boolean) hx hb hr (by decide +kernel) (fun tt9 ht9 hW9 => ⟨⟨_, (), rfl, (by first | (rw [h5]; rfl) | (rw [h5]; simp [h9]; rfl) | (rw [h5]; simp [h9, h15]; rfl) | (rw [h5]; simp [zI, h9, h15]; rfl)), trivial⟩, hS.F ht9⟩) hS.2.2 d_Disk_hasByte_23
theorem d_Disk_byteAt_0 : decode b_Disk_byteAt 0 = .ok (.iload_n 1, 1) := by decide +kernel
theorem d_Disk_byteAt_1 : decode b_Disk_byteAt 1 = .ok (.ifCond .lt 14, 3) := by decide +kernel
theorem d_Disk_byteAt_4 : decode b_Disk_byteAt 4 = .ok (.iload_n 1, 1) := by decide +kernel
theorem d_Disk_byteAt_5 : decode b_Disk_byteAt 5 = .ok (.aload_n 0, 1) := by decide +kernel
theorem d_Disk_byteAt_6 : decode b_Disk_byteAt 6 = .ok (.getfield 9, 3) := by decide +kernel
theorem d_Disk_byteAt_9 : decode b_Disk_byteAt 9 = .ok (.bipush 64, 2) := by decide +kernel
theorem d_Disk_byteAt_11 : decode b_Disk_byteAt 11 = .ok (.imul, 1) := by decide +kernel
theorem d_Disk_byteAt_12 : decode b_Disk_byteAt 12 = .ok (.if_icmp .lt 5, 3) := by decide +kernel
theorem d_Disk_byteAt_15 : decode b_Disk_byteAt 15 = .ok (.iconst 0, 1) := by decide +kernel
theorem d_Disk_byteAt_16 : decode b_Disk_byteAt 16 = .ok (.ireturn, 1) := by decide +kernel
theorem d_Disk_byteAt_17 : decode b_Disk_byteAt 17 = .ok (.aload_n 0, 1) := by decide +kernel
theorem d_Disk_byteAt_18 : decode b_Disk_byteAt 18 = .ok (.getfield 15, 3) := by decide +kernel
theorem d_Disk_byteAt_21 : decode b_Disk_byteAt 21 = .ok (.iload_n 1, 1) := by decide +kernel
theorem d_Disk_byteAt_22 : decode b_Disk_byteAt 22 = .ok (.bipush 8, 2) := by decide +kernel
theorem d_Disk_byteAt_24 : decode b_Disk_byteAt 24 = .ok (.idiv, 1) := by decide +kernel
theorem d_Disk_byteAt_25 : decode b_Disk_byteAt 25 = .ok (.laload, 1) := by decide +kernel
theorem d_Disk_byteAt_26 : decode b_Disk_byteAt 26 = .ok (.iload_n 1, 1) := by decide +kernel
theorem d_Disk_byteAt_27 : decode b_Disk_byteAt 27 = .ok (.bipush 8, 2) := by decide +kernel
theorem d_Disk_byteAt_29 : decode b_Disk_byteAt 29 = .ok (.irem, 1) := by decide +kernel
theorem d_Disk_byteAt_30 : decode b_Disk_byteAt 30 = .ok (.bipush 8, 2) := by decide +kernel
theorem d_Disk_byteAt_32 : decode b_Disk_byteAt 32 = .ok (.imul, 1) := by decide +kernel
theorem d_Disk_byteAt_33 : decode b_Disk_byteAt 33 = .ok (.lushr, 1) := by decide +kernel
theorem d_Disk_byteAt_34 : decode b_Disk_byteAt 34 = .ok (.l2i, 1) := by decide +kernel
theorem d_Disk_byteAt_35 : decode b_Disk_byteAt 35 = .ok (.sipush 255, 3) := by decide +kernel
theorem d_Disk_byteAt_38 : decode b_Disk_byteAt 38 = .ok (.iand, 1) := by decide +kernel
theorem d_Disk_byteAt_39 : decode b_Disk_byteAt 39 = .ok (.ireturn, 1) := by decide +kernel
set_option maxHeartbeats 4000000 in
set_option maxRecDepth 100000 in
theorem c_Disk_byteAt (l : Launch) (D : va_G) (g : Nat → Nat) (k : Nat → ClassId) (L : Nat) (hL0 : 96 ≤ L) (hL : L ≤ 768) (u : DSt) (x : Int32) : RoI l y_Disk_byteAt w_Disk_byteAt ({ frames := 0, cells := 0, slots := 0, locals := 0 }) [.ref (g 0), .int (x)] (RoP D cl5 (tyC k) (wD g k L u)) (nI (bN L (dNow u) x)) := by
  refine Met.ofW (cc := b_Disk_byteAt) (maxL := 2) (ret := (some .int)) (by decide) rfl ?_
  intro p e s m args below meth c s₁ B hml hv
  obtain ⟨rfl, hP, hK⟩ := hv
  have hx := B.exec
  have hb := B.bytes
  have hr := B.returns
  have hts := atoms_spec (ws := w_Disk_byteAt) B.pre
  have hTB : ∀ w ∈ lw_tb, w.before _ s = true := fun w h => hts w (List.mem_cons_of_mem _ h)
  have hown : s.vm.findClass R_Disk = some m.cls := findClass_of_methodNamed B.named
  have hlocks := B.notSynchronized
  have hS : va_S (fun _ => False) s.heap s.heap [] := va_S.rf
  have hl := lv_entry ([.ref (g 0), .int (x)]) (n := 2) (Nat.le_of_ble_eq_true rfl)
  rw [lg_entry_eq]
  generalize (lg_sl ([.ref (g 0), .int (x)]) ++ List.replicate (2 - (lg_sl ([.ref (g 0), .int (x)])).length) Slot.unset).toArray = ls at hl ⊢
  have hl : lv_has ls 2 [(0, .ref (g 0)), (1, .int (x))] := hl
  refine lv_iload_n hx hb d_Disk_byteAt_0 rfl (lv_at hl 1 rfl) ?_
  refine lv_if_lt (tgt := 15) hx hb d_Disk_byteAt_1 (by decide) (fun h1 => ?_) (fun h1 => ?_)
  · refine lv_iconst (v := nI 0) hx hb d_Disk_byteAt_15 (by decide +kernel) ?_
    exact W.iret (v := nI 0) hx hb hr (fun tt9 ht9 hW9 => ⟨⟨_, (), rfl, (by rw [bN_lo h1]), trivial⟩, hS.F ht9⟩) hS.2.2 d_Disk_byteAt_16
  · obtain ⟨q, hq, rfl⟩ := nI_of h1
    refine lv_iload_n hx hb d_Disk_byteAt_4 rfl (lv_at hl 1 rfl) ?_
    refine lv_aload_n hx hb d_Disk_byteAt_5 rfl (lv_at hl 0 rfl) ?_
    refine va_get (D := D) (ci := 1) (v := .int (nI L)) (C := R_Disk) (T := T_Disk) (N := 7) hx hb hTB in_Disk hown hK hP 0 rfl rfl 0 (by decide) (hTB _ k_92) (fun _ h9 => h9) rfl d_Disk_byteAt_6 ?_
    refine lv_bipush (v := nI 64) hx hb d_Disk_byteAt_9 (by decide +kernel) ?_
    refine gz_imul hx hb d_Disk_byteAt_11 ?_
    refine gz_icmp_lt (tgt := 17) hx hb d_Disk_byteAt_12 (by decide) (by omega) (by omega) (fun h12 => ?_) (fun h12 => ?_)
    · refine lv_aload_n hx hb d_Disk_byteAt_17 rfl (lv_at hl 0 rfl) ?_
      refine va_get (D := D) (ci := 1) (v := .ref (g 1)) (C := R_Disk) (T := T_Disk) (N := 7) hx hb hTB in_Disk hown hK hP 0 rfl rfl 1 (by decide) (hTB _ k_93) (fun _ h9 => h9) rfl d_Disk_byteAt_18 ?_
      refine lv_iload_n hx hb d_Disk_byteAt_21 rfl (lv_at hl 1 rfl) ?_
      refine lv_bipush (v := nI 8) hx hb d_Disk_byteAt_22 (by decide +kernel) ?_
      refine gz_idiv hx hb d_Disk_byteAt_24 (by omega) (by decide) (by decide) ?_
      refine gz_lald hx hb hK hP 1 0 rfl rfl (i := q / 8) (by omega) (by omega) d_Disk_byteAt_25 ?_
      refine lv_iload_n hx hb d_Disk_byteAt_26 rfl (lv_at hl 1 rfl) ?_
      refine lv_bipush (v := nI 8) hx hb d_Disk_byteAt_27 (by decide +kernel) ?_
      refine gz_irem hx hb d_Disk_byteAt_29 (by omega) (by decide) (by decide) ?_
      refine lv_bipush (v := nI 8) hx hb d_Disk_byteAt_30 (by decide +kernel) ?_
      refine gz_imul hx hb d_Disk_byteAt_32 ?_
      refine lv_lushr hx hb d_Disk_byteAt_33 rfl ?_
      refine lv_l2i hx hb d_Disk_byteAt_34 rfl ?_
      refine lv_sipush (v := nI 255) hx hb d_Disk_byteAt_35 (by decide +kernel) ?_
      refine lv_iand hx hb d_Disk_byteAt_38 ?_
      exact W.iret (v := ((((dNow u (q / 8)).toUInt64 >>> ((nI ((q % 8) * 8)).toInt64.toUInt64 &&& Int64.toUInt64 63)).toInt64).toInt32) &&& (nI 255)) hx hb hr (fun tt9 ht9 hW9 => ⟨⟨_, (), rfl, (by rw [bN_in h12 hL]; exact byt_row _ _), trivial⟩, hS.F ht9⟩) hS.2.2 d_Disk_byteAt_39
    · refine lv_iconst (v := nI 0) hx hb d_Disk_byteAt_15 (by decide +kernel) ?_
      exact W.iret (v := nI 0) hx hb hr (fun tt9 ht9 hW9 => ⟨⟨_, (), rfl, (by rw [bN_hi h12 (by omega)]), trivial⟩, hS.F ht9⟩) hS.2.2 d_Disk_byteAt_16
theorem d_Disk_committedByteAt_0 : decode b_Disk_committedByteAt 0 = .ok (.iload_n 1, 1) := by decide +kernel
theorem d_Disk_committedByteAt_1 : decode b_Disk_committedByteAt 1 = .ok (.ifCond .lt 14, 3) := by decide +kernel
theorem d_Disk_committedByteAt_4 : decode b_Disk_committedByteAt 4 = .ok (.iload_n 1, 1) := by decide +kernel
theorem d_Disk_committedByteAt_5 : decode b_Disk_committedByteAt 5 = .ok (.aload_n 0, 1) := by decide +kernel
theorem d_Disk_committedByteAt_6 : decode b_Disk_committedByteAt 6 = .ok (.getfield 9, 3) := by decide +kernel
theorem d_Disk_committedByteAt_9 : decode b_Disk_committedByteAt 9 = .ok (.bipush 64, 2) := by decide +kernel
theorem d_Disk_committedByteAt_11 : decode b_Disk_committedByteAt 11 = .ok (.imul, 1) := by decide +kernel
theorem d_Disk_committedByteAt_12 : decode b_Disk_committedByteAt 12 = .ok (.if_icmp .lt 5, 3) := by decide +kernel
theorem d_Disk_committedByteAt_15 : decode b_Disk_committedByteAt 15 = .ok (.iconst 0, 1) := by decide +kernel
theorem d_Disk_committedByteAt_16 : decode b_Disk_committedByteAt 16 = .ok (.ireturn, 1) := by decide +kernel
theorem d_Disk_committedByteAt_17 : decode b_Disk_committedByteAt 17 = .ok (.aload_n 0, 1) := by decide +kernel
theorem d_Disk_committedByteAt_18 : decode b_Disk_committedByteAt 18 = .ok (.getfield 19, 3) := by decide +kernel
theorem d_Disk_committedByteAt_21 : decode b_Disk_committedByteAt 21 = .ok (.iload_n 1, 1) := by decide +kernel
theorem d_Disk_committedByteAt_22 : decode b_Disk_committedByteAt 22 = .ok (.bipush 8, 2) := by decide +kernel
theorem d_Disk_committedByteAt_24 : decode b_Disk_committedByteAt 24 = .ok (.idiv, 1) := by decide +kernel
theorem d_Disk_committedByteAt_25 : decode b_Disk_committedByteAt 25 = .ok (.laload, 1) := by decide +kernel
theorem d_Disk_committedByteAt_26 : decode b_Disk_committedByteAt 26 = .ok (.iload_n 1, 1) := by decide +kernel
theorem d_Disk_committedByteAt_27 : decode b_Disk_committedByteAt 27 = .ok (.bipush 8, 2) := by decide +kernel
theorem d_Disk_committedByteAt_29 : decode b_Disk_committedByteAt 29 = .ok (.irem, 1) := by decide +kernel
theorem d_Disk_committedByteAt_30 : decode b_Disk_committedByteAt 30 = .ok (.bipush 8, 2) := by decide +kernel
theorem d_Disk_committedByteAt_32 : decode b_Disk_committedByteAt 32 = .ok (.imul, 1) := by decide +kernel
theorem d_Disk_committedByteAt_33 : decode b_Disk_committedByteAt 33 = .ok (.lushr, 1) := by decide +kernel
theorem d_Disk_committedByteAt_34 : decode b_Disk_committedByteAt 34 = .ok (.l2i, 1) := by decide +kernel
theorem d_Disk_committedByteAt_35 : decode b_Disk_committedByteAt 35 = .ok (.sipush 255, 3) := by decide +kernel
theorem d_Disk_committedByteAt_38 : decode b_Disk_committedByteAt 38 = .ok (.iand, 1) := by decide +kernel
theorem d_Disk_committedByteAt_39 : decode b_Disk_committedByteAt 39 = .ok (.ireturn, 1) := by decide +kernel
set_option maxHeartbeats 4000000 in
set_option maxRecDepth 100000 in
theorem c_Disk_committedByteAt (l : Launch) (D : va_G) (g : Nat → Nat) (k : Nat → ClassId) (L : Nat) (hL0 : 96 ≤ L) (hL : L ≤ 768) (u : DSt) (x : Int32) : RoI l y_Disk_committedByteAt w_Disk_committedByteAt ({ frames := 0, cells := 0, slots := 0, locals := 0 }) [.ref (g 0), .int (x)] (RoP D cl5 (tyC k) (wD g k L u)) (nI (bN L (dCom u) x)) := by
  refine Met.ofW (cc := b_Disk_committedByteAt) (maxL := 2) (ret := (some .int)) (by decide) rfl ?_
  intro p e s m args below meth c s₁ B hml hv
  obtain ⟨rfl, hP, hK⟩ := hv
  have hx := B.exec
  have hb := B.bytes
  have hr := B.returns
  have hts := atoms_spec (ws := w_Disk_committedByteAt) B.pre
  have hTB : ∀ w ∈ lw_tb, w.before _ s = true := fun w h => hts w (List.mem_cons_of_mem _ h)
  have hown : s.vm.findClass R_Disk = some m.cls := findClass_of_methodNamed B.named
  have hlocks := B.notSynchronized
  have hS : va_S (fun _ => False) s.heap s.heap [] := va_S.rf
  have hl := lv_entry ([.ref (g 0), .int (x)]) (n := 2) (Nat.le_of_ble_eq_true rfl)
  rw [lg_entry_eq]
  generalize (lg_sl ([.ref (g 0), .int (x)]) ++ List.replicate (2 - (lg_sl ([.ref (g 0), .int (x)])).length) Slot.unset).toArray = ls at hl ⊢
  have hl : lv_has ls 2 [(0, .ref (g 0)), (1, .int (x))] := hl
  refine lv_iload_n hx hb d_Disk_committedByteAt_0 rfl (lv_at hl 1 rfl) ?_
  refine lv_if_lt (tgt := 15) hx hb d_Disk_committedByteAt_1 (by decide) (fun h1 => ?_) (fun h1 => ?_)
  · refine lv_iconst (v := nI 0) hx hb d_Disk_committedByteAt_15 (by decide +kernel) ?_
    exact W.iret (v := nI 0) hx hb hr (fun tt9 ht9 hW9 => ⟨⟨_, (), rfl, (by rw [bN_lo h1]), trivial⟩, hS.F ht9⟩) hS.2.2 d_Disk_committedByteAt_16
  · obtain ⟨q, hq, rfl⟩ := nI_of h1
    refine lv_iload_n hx hb d_Disk_committedByteAt_4 rfl (lv_at hl 1 rfl) ?_
    refine lv_aload_n hx hb d_Disk_committedByteAt_5 rfl (lv_at hl 0 rfl) ?_
    refine va_get (D := D) (ci := 1) (v := .int (nI L)) (C := R_Disk) (T := T_Disk) (N := 7) hx hb hTB in_Disk hown hK hP 0 rfl rfl 0 (by decide) (hTB _ k_92) (fun _ h9 => h9) rfl d_Disk_committedByteAt_6 ?_
    refine lv_bipush (v := nI 64) hx hb d_Disk_committedByteAt_9 (by decide +kernel) ?_
    refine gz_imul hx hb d_Disk_committedByteAt_11 ?_
    refine gz_icmp_lt (tgt := 17) hx hb d_Disk_committedByteAt_12 (by decide) (by omega) (by omega) (fun h12 => ?_) (fun h12 => ?_)
    · refine lv_aload_n hx hb d_Disk_committedByteAt_17 rfl (lv_at hl 0 rfl) ?_
      refine va_get (D := D) (ci := 1) (v := .ref (g 2)) (C := R_Disk) (T := T_Disk) (N := 7) hx hb hTB in_Disk hown hK hP 0 rfl rfl 2 (by decide) (hTB _ k_94) (fun _ h9 => h9) rfl d_Disk_committedByteAt_18 ?_
      refine lv_iload_n hx hb d_Disk_committedByteAt_21 rfl (lv_at hl 1 rfl) ?_
      refine lv_bipush (v := nI 8) hx hb d_Disk_committedByteAt_22 (by decide +kernel) ?_
      refine gz_idiv hx hb d_Disk_committedByteAt_24 (by omega) (by decide) (by decide) ?_
      refine gz_lald hx hb hK hP 2 0 rfl rfl (i := q / 8) (by omega) (by omega) d_Disk_committedByteAt_25 ?_
      refine lv_iload_n hx hb d_Disk_committedByteAt_26 rfl (lv_at hl 1 rfl) ?_
      refine lv_bipush (v := nI 8) hx hb d_Disk_committedByteAt_27 (by decide +kernel) ?_
      refine gz_irem hx hb d_Disk_committedByteAt_29 (by omega) (by decide) (by decide) ?_
      refine lv_bipush (v := nI 8) hx hb d_Disk_committedByteAt_30 (by decide +kernel) ?_
      refine gz_imul hx hb d_Disk_committedByteAt_32 ?_
      refine lv_lushr hx hb d_Disk_committedByteAt_33 rfl ?_
      refine lv_l2i hx hb d_Disk_committedByteAt_34 rfl ?_
      refine lv_sipush (v := nI 255) hx hb d_Disk_committedByteAt_35 (by decide +kernel) ?_
      refine lv_iand hx hb d_Disk_committedByteAt_38 ?_
      exact W.iret (v := ((((dCom u (q / 8)).toUInt64 >>> ((nI ((q % 8) * 8)).toInt64.toUInt64 &&& Int64.toUInt64 63)).toInt64).toInt32) &&& (nI 255)) hx hb hr (fun tt9 ht9 hW9 => ⟨⟨_, (), rfl, (by rw [bN_in h12 hL]; exact byt_row _ _), trivial⟩, hS.F ht9⟩) hS.2.2 d_Disk_committedByteAt_39
    · refine lv_iconst (v := nI 0) hx hb d_Disk_committedByteAt_15 (by decide +kernel) ?_
      exact W.iret (v := nI 0) hx hb hr (fun tt9 ht9 hW9 => ⟨⟨_, (), rfl, (by rw [bN_hi h12 (by omega)]), trivial⟩, hS.F ht9⟩) hS.2.2 d_Disk_committedByteAt_16
theorem d_Disk_pairAt_0 : decode b_Disk_pairAt 0 = .ok (.aload_n 0, 1) := by decide +kernel
theorem d_Disk_pairAt_1 : decode b_Disk_pairAt 1 = .ok (.iload_n 1, 1) := by decide +kernel
theorem d_Disk_pairAt_2 : decode b_Disk_pairAt 2 = .ok (.invokevirtual 43, 3) := by decide +kernel
theorem d_Disk_pairAt_5 : decode b_Disk_pairAt 5 = .ok (.sipush 256, 3) := by decide +kernel
theorem d_Disk_pairAt_8 : decode b_Disk_pairAt 8 = .ok (.aload_n 0, 1) := by decide +kernel
theorem d_Disk_pairAt_9 : decode b_Disk_pairAt 9 = .ok (.iload_n 1, 1) := by decide +kernel
theorem d_Disk_pairAt_10 : decode b_Disk_pairAt 10 = .ok (.iconst 1, 1) := by decide +kernel
theorem d_Disk_pairAt_11 : decode b_Disk_pairAt 11 = .ok (.iadd, 1) := by decide +kernel
theorem d_Disk_pairAt_12 : decode b_Disk_pairAt 12 = .ok (.invokevirtual 43, 3) := by decide +kernel
theorem d_Disk_pairAt_15 : decode b_Disk_pairAt 15 = .ok (.imul, 1) := by decide +kernel
theorem d_Disk_pairAt_16 : decode b_Disk_pairAt 16 = .ok (.iadd, 1) := by decide +kernel
theorem d_Disk_pairAt_17 : decode b_Disk_pairAt 17 = .ok (.ireturn, 1) := by decide +kernel
set_option maxHeartbeats 4000000 in
set_option maxRecDepth 100000 in
theorem c_Disk_pairAt (l : Launch) (D : va_G) (g : Nat → Nat) (k : Nat → ClassId) (L : Nat) (hL0 : 96 ≤ L) (hL : L ≤ 768) (u : DSt) (x : Int32) : RoI l y_Disk_pairAt w_Disk_pairAt ({ frames := 1, cells := 0, slots := 0, locals := 21 }) [.ref (g 0), .int (x)] (RoP D cl5 (tyC k) (wD g k L u)) (nI (pN L (dNow u) x)) := by
  refine Met.ofW (cc := b_Disk_pairAt) (maxL := 2) (ret := (some .int)) (by decide) rfl ?_
  intro p e s m args below meth c s₁ B hml hv
  obtain ⟨rfl, hP, hK⟩ := hv
  have hx := B.exec
  have hb := B.bytes
  have hr := B.returns
  have hts := atoms_spec (ws := w_Disk_pairAt) B.pre
  have hTB : ∀ w ∈ lw_tb, w.before _ s = true := fun w h => hts w (List.mem_cons_of_mem _ h)
  have hown : s.vm.findClass R_Disk = some m.cls := findClass_of_methodNamed B.named
  have hlocks := B.notSynchronized
  have hS : va_S (fun _ => False) s.heap s.heap [] := va_S.rf
  have hl := lv_entry ([.ref (g 0), .int (x)]) (n := 2) (Nat.le_of_ble_eq_true rfl)
  rw [lg_entry_eq]
  generalize (lg_sl ([.ref (g 0), .int (x)]) ++ List.replicate (2 - (lg_sl ([.ref (g 0), .int (x)])).length) Slot.unset).toArray = ls at hl ⊢
  have hl : lv_has ls 2 [(0, .ref (g 0)), (1, .int (x))] := hl
  refine lv_aload_n hx hb d_Disk_pairAt_0 rfl (lv_at hl 0 rfl) ?_
  refine lv_iload_n hx hb d_Disk_pairAt_1 rfl (lv_at hl 1 rfl) ?_
  refine gz_roV (As := [.int (x)]) (rest := []) (wc := (wD g k L u)) ⟨hx, hb, hml, hown, hTB⟩ (c_Disk_byteAt l D g k L hL0 hL u x) (cwV 1 hTB (gd_V k_360 k_345 k_346 k_52 k_347) rfl rfl rfl (by decide +kernel) ⟨Nat.le_of_ble_eq_true rfl, Nat.le_of_ble_eq_true rfl⟩) hK hP [0, 1, 2, 3, 4, 5] rfl 0 rfl rfl rfl hl.1 rfl (Nat.le_of_ble_eq_true rfl) d_Disk_pairAt_2 ⟨Nat.zero_le _, Nat.zero_le _⟩ hS (fun H locs hP hS => ?_)
  have := bN_lt L (dNow u) x
  refine lv_sipush (v := nI 256) hx hb d_Disk_pairAt_5 (by decide +kernel) ?_
  refine lv_aload_n hx hb d_Disk_pairAt_8 rfl (lv_at hl 0 rfl) ?_
  refine lv_iload_n hx hb d_Disk_pairAt_9 rfl (lv_at hl 1 rfl) ?_
  refine lv_iconst (v := nI 1) hx hb d_Disk_pairAt_10 (by decide +kernel) ?_
  refine lv_iadd hx hb d_Disk_pairAt_11 ?_
  refine gz_roV (As := [.int (x + (nI 1))]) (rest := [.int (nI 256), .int (nI (bN L (dNow u) x))]) (wc := (wD g k L u)) ⟨hx, hb, hml, hown, hTB⟩ (c_Disk_byteAt l D g k L hL0 hL u (x + (nI 1))) (cwV 1 hTB (gd_V k_360 k_345 k_346 k_52 k_347) rfl rfl rfl (by decide +kernel) ⟨Nat.le_of_ble_eq_true rfl, Nat.le_of_ble_eq_true rfl⟩) hK hP [0, 1, 2, 3, 4, 5] rfl 0 rfl rfl rfl hl.1 rfl (Nat.le_of_ble_eq_true rfl) d_Disk_pairAt_12 ⟨Nat.zero_le _, Nat.zero_le _⟩ hS (fun H locs hP hS => ?_)
  have := bN_lt L (dNow u) (x + (nI 1))
  refine gz_imul hx hb d_Disk_pairAt_15 ?_
  refine gz_iadd hx hb d_Disk_pairAt_16 ?_
  exact W.iret (v := nI ((bN L (dNow u) x) + (256 * (bN L (dNow u) (x + (nI 1)))))) hx hb hr (fun tt9 ht9 hW9 => ⟨⟨_, (), rfl, rfl, trivial⟩, hS.F ht9⟩) hS.2.2 d_Disk_pairAt_17
theorem d_Disk_mapLongOf_0 : decode b_Disk_mapLongOf 0 = .ok (.sipush 456, 3) := by decide +kernel
theorem d_Disk_mapLongOf_3 : decode b_Disk_mapLongOf 3 = .ok (.iload_n 0, 1) := by decide +kernel
theorem d_Disk_mapLongOf_4 : decode b_Disk_mapLongOf 4 = .ok (.bipush 64, 2) := by decide +kernel
theorem d_Disk_mapLongOf_6 : decode b_Disk_mapLongOf 6 = .ok (.idiv, 1) := by decide +kernel
theorem d_Disk_mapLongOf_7 : decode b_Disk_mapLongOf 7 = .ok (.iadd, 1) := by decide +kernel
theorem d_Disk_mapLongOf_8 : decode b_Disk_mapLongOf 8 = .ok (.ireturn, 1) := by decide +kernel
set_option maxHeartbeats 4000000 in
set_option maxRecDepth 100000 in
theorem c_Disk_mapLongOf (l : Launch) (b : Nat) (hb0 : b < 2147483648) : RoI l y_Disk_mapLongOf w_Disk_mapLongOf ({ frames := 0, cells := 0, slots := 0, locals := 0 }) [.int (nI b)] (fun _ => True) (nI (456 + b / 64)) := by
  refine Met.ofW (cc := b_Disk_mapLongOf) (maxL := 1) (ret := (some .int)) (by decide) rfl ?_
  intro p e s m args below meth c s₁ B hml hv
  obtain ⟨rfl, -⟩ := hv
  have hx := B.exec
  have hb := B.bytes
  have hr := B.returns
  have hts := atoms_spec (ws := w_Disk_mapLongOf) B.pre
  have hTB : ∀ w ∈ lw_tb, w.before _ s = true := fun w h => hts w (List.mem_cons_of_mem _ h)
  have hown : s.vm.findClass R_Disk = some m.cls := findClass_of_methodNamed B.named
  have hlocks := B.notSynchronized
  have hS : va_S (fun _ => False) s.heap s.heap [] := va_S.rf
  have hP : va_P (fun _ => 0, fun _ _ => 0) cl5 [] s.heap := fun k q h => by simp at h
  have hl := lv_entry ([.int (nI b)]) (n := 1) (Nat.le_of_ble_eq_true rfl)
  rw [lg_entry_eq]
  generalize (lg_sl ([.int (nI b)]) ++ List.replicate (1 - (lg_sl ([.int (nI b)])).length) Slot.unset).toArray = ls at hl ⊢
  have hl : lv_has ls 1 [(0, .int (nI b))] := hl
  refine lv_sipush (v := nI 456) hx hb d_Disk_mapLongOf_0 (by decide +kernel) ?_
  refine lv_iload_n hx hb d_Disk_mapLongOf_3 rfl (lv_at hl 0 rfl) ?_
  refine lv_bipush (v := nI 64) hx hb d_Disk_mapLongOf_4 (by decide +kernel) ?_
  refine gz_idiv hx hb d_Disk_mapLongOf_6 (by omega) (by decide) (by decide) ?_
  refine gz_iadd hx hb d_Disk_mapLongOf_7 ?_
  exact W.iret (v := nI (456 + (b / 64))) hx hb hr (fun tt9 ht9 hW9 => ⟨⟨_, (), rfl, rfl, trivial⟩, hS.F ht9⟩) hS.2.2 d_Disk_mapLongOf_8
theorem d_Disk_isFree_0 : decode b_Disk_isFree 0 = .ok (.aload_n 0, 1) := by decide +kernel
theorem d_Disk_isFree_1 : decode b_Disk_isFree 1 = .ok (.iload_n 1, 1) := by decide +kernel
theorem d_Disk_isFree_2 : decode b_Disk_isFree 2 = .ok (.invokevirtual 39, 3) := by decide +kernel
theorem d_Disk_isFree_5 : decode b_Disk_isFree 5 = .ok (.ifCond .eq 28, 3) := by decide +kernel
theorem d_Disk_isFree_8 : decode b_Disk_isFree 8 = .ok (.aload_n 0, 1) := by decide +kernel
theorem d_Disk_isFree_9 : decode b_Disk_isFree 9 = .ok (.getfield 15, 3) := by decide +kernel
theorem d_Disk_isFree_12 : decode b_Disk_isFree 12 = .ok (.iload_n 1, 1) := by decide +kernel
theorem d_Disk_isFree_13 : decode b_Disk_isFree 13 = .ok (.invokestatic 58, 3) := by decide +kernel
theorem d_Disk_isFree_16 : decode b_Disk_isFree 16 = .ok (.laload, 1) := by decide +kernel
theorem d_Disk_isFree_17 : decode b_Disk_isFree 17 = .ok (.iload_n 1, 1) := by decide +kernel
theorem d_Disk_isFree_18 : decode b_Disk_isFree 18 = .ok (.bipush 64, 2) := by decide +kernel
theorem d_Disk_isFree_20 : decode b_Disk_isFree 20 = .ok (.irem, 1) := by decide +kernel
theorem d_Disk_isFree_21 : decode b_Disk_isFree 21 = .ok (.lushr, 1) := by decide +kernel
theorem d_Disk_isFree_22 : decode b_Disk_isFree 22 = .ok (.lconst 1, 1) := by decide +kernel
theorem d_Disk_isFree_23 : decode b_Disk_isFree 23 = .ok (.land, 1) := by decide +kernel
theorem d_Disk_isFree_24 : decode b_Disk_isFree 24 = .ok (.lconst 0, 1) := by decide +kernel
theorem d_Disk_isFree_25 : decode b_Disk_isFree 25 = .ok (.lcmp, 1) := by decide +kernel
theorem d_Disk_isFree_26 : decode b_Disk_isFree 26 = .ok (.ifCond .ne 7, 3) := by decide +kernel
theorem d_Disk_isFree_29 : decode b_Disk_isFree 29 = .ok (.iconst 1, 1) := by decide +kernel
theorem d_Disk_isFree_30 : decode b_Disk_isFree 30 = .ok (.goto 4, 3) := by decide +kernel
theorem d_Disk_isFree_33 : decode b_Disk_isFree 33 = .ok (.iconst 0, 1) := by decide +kernel
theorem d_Disk_isFree_34 : decode b_Disk_isFree 34 = .ok (.ireturn, 1) := by decide +kernel
set_option maxHeartbeats 4000000 in
set_option maxRecDepth 100000 in
theorem c_Disk_isFree (l : Launch) (D : va_G) (g : Nat → Nat) (k : Nat → ClassId) (L : Nat) (hL0 : 96 ≤ L) (hL : L ≤ 768) (u : DSt) (x : Int32) : RoI l y_Disk_isFree w_Disk_isFree ({ frames := 1, cells := 0, slots := 0, locals := 21 }) [.ref (g 0), .int (x)] (RoP D cl5 (tyC k) (wD g k L u)) (zI (frB L (dNow u) x)) := by
  refine Met.ofW (cc := b_Disk_isFree) (maxL := 2) (ret := (some .boolean)) (by decide) rfl ?_
  intro p e s m args below meth c s₁ B hml hv
  obtain ⟨rfl, hP, hK⟩ := hv
  have hx := B.exec
  have hb := B.bytes
  have hr := B.returns
  have hts := atoms_spec (ws := w_Disk_isFree) B.pre
  have hTB : ∀ w ∈ lw_tb, w.before _ s = true := fun w h => hts w (List.mem_cons_of_mem _ h)
  have hown : s.vm.findClass R_Disk = some m.cls := findClass_of_methodNamed B.named
  have hlocks := B.notSynchronized
  have hS : va_S (fun _ => False) s.heap s.heap [] := va_S.rf
  have hl := lv_entry ([.ref (g 0), .int (x)]) (n := 2) (Nat.le_of_ble_eq_true rfl)
  rw [lg_entry_eq]
  generalize (lg_sl ([.ref (g 0), .int (x)]) ++ List.replicate (2 - (lg_sl ([.ref (g 0), .int (x)])).length) Slot.unset).toArray = ls at hl ⊢
  have hl : lv_has ls 2 [(0, .ref (g 0)), (1, .int (x))] := hl
  refine lv_aload_n hx hb d_Disk_isFree_0 rfl (lv_at hl 0 rfl) ?_
  refine lv_iload_n hx hb d_Disk_isFree_1 rfl (lv_at hl 1 rfl) ?_
  refine gz_roV (As := [.int (x)]) (rest := []) (wc := (wD g k L u)) ⟨hx, hb, hml, hown, hTB⟩ (c_Disk_hasBlock l D g k L hL0 hL u x) (cwV 1 hTB (gd_V k_179 k_181 k_4 k_52 k_182) rfl rfl rfl (by decide +kernel) ⟨Nat.le_of_ble_eq_true rfl, Nat.le_of_ble_eq_true rfl⟩) hK hP [0, 1, 2, 3, 4, 5] rfl 0 rfl rfl rfl hl.1 rfl (Nat.le_of_ble_eq_true rfl) d_Disk_isFree_2 ⟨Nat.zero_le _, Nat.zero_le _⟩ hS (fun H locs hP hS => ?_)
  refine gz_ifz_eq (tgt := 33) hx hb d_Disk_isFree_5 (by decide) (fun h5 => ?_) (fun h5 => ?_)
  · refine lv_iconst (v := nI 0) hx hb d_Disk_isFree_33 (by decide +kernel) ?_
    exact W.zret (v := nI 0) (ty := .boolean) hx hb hr (by decide +kernel) (fun tt9 ht9 hW9 => ⟨⟨_, (), rfl, (by first | (rw [frB_no h5]; rfl) | (rw [frB_in hq hL, (frN_row _ _).mp h26]; rfl) | (rw [frB_in hq hL, Bool.eq_false_iff.mpr (fun z => h26 ((frN_row _ _).mpr z))]; rfl)), trivial⟩, hS.F ht9⟩) hS.2.2 d_Disk_isFree_34
  · obtain ⟨q, hq, rfl⟩ := hsB_of h5 hL
    refine lv_aload_n hx hb d_Disk_isFree_8 rfl (lv_at hl 0 rfl) ?_
    refine va_get (D := D) (ci := 1) (v := .ref (g 1)) (C := R_Disk) (T := T_Disk) (N := 7) hx hb hTB in_Disk hown hK hP 0 rfl rfl 1 (by decide) (hTB _ k_93) (fun _ h9 => h9) rfl d_Disk_isFree_9 ?_
    refine lv_iload_n hx hb d_Disk_isFree_12 rfl (lv_at hl 1 rfl) ?_
    refine gz_roS (As := [.int (nI q)]) (rest := [.ref (g 1)]) ⟨hx, hb, hml, hown, hTB⟩ (c_Disk_mapLongOf l q (by omega)) (cwS 1 hTB (gd_S k_89 k_90 k_52 k_91) rfl rfl rfl (by decide +kernel) ⟨Nat.le_of_ble_eq_true rfl, Nat.le_of_ble_eq_true rfl⟩) hP rfl hl.1 rfl (Nat.le_of_ble_eq_true rfl) d_Disk_isFree_13 ⟨Nat.zero_le _, Nat.zero_le _⟩ hS (fun H locs hP hS => ?_)
    refine gz_lald hx hb hK hP 1 0 rfl rfl (i := 456 + q / 64) (by omega) (by omega) d_Disk_isFree_16 ?_
    refine lv_iload_n hx hb d_Disk_isFree_17 rfl (lv_at hl 1 rfl) ?_
    refine lv_bipush (v := nI 64) hx hb d_Disk_isFree_18 (by decide +kernel) ?_
    refine gz_irem hx hb d_Disk_isFree_20 (by omega) (by decide) (by decide) ?_
    refine lv_lushr hx hb d_Disk_isFree_21 rfl ?_
    refine lv_lconst (v := 1) hx hb d_Disk_isFree_22 (by decide +kernel) ?_
    refine lv_land hx hb d_Disk_isFree_23 ?_
    refine lv_lconst (v := 0) hx hb d_Disk_isFree_24 (by decide +kernel) ?_
    refine W.lcmp hx hb d_Disk_isFree_25 ?_
    refine lv_if_ne (tgt := 33) hx hb d_Disk_isFree_26 (by decide) (fun h26 => ?_) (fun h26 => ?_)
    · refine lv_iconst (v := nI 0) hx hb d_Disk_isFree_33 (by decide +kernel) ?_
      exact W.zret (v := nI 0) (ty := .boolean) hx hb hr (by decide +kernel) (fun tt9 ht9 hW9 => ⟨⟨_, (), rfl, (by first | (rw [frB_no h5]; rfl) | (rw [frB_in hq hL, (frN_row _ _).mp h26]; rfl) | (rw [frB_in hq hL, Bool.eq_false_iff.mpr (fun z => h26 ((frN_row _ _).mpr z))]; rfl)), trivial⟩, hS.F ht9⟩) hS.2.2 d_Disk_isFree_34
    · refine lv_iconst (v := nI 1) hx hb d_Disk_isFree_29 (by decide +kernel) ?_
      refine lv_goto (tgt := 34) hx hb d_Disk_isFree_30 (by decide) ?_
      exact W.zret (v := nI 1) (ty := .boolean) hx hb hr (by decide +kernel) (fun tt9 ht9 hW9 => ⟨⟨_, (), rfl, (by first | (rw [frB_no h5]; rfl) | (rw [frB_in hq hL, (frN_row _ _).mp h26]; rfl) | (rw [frB_in hq hL, Bool.eq_false_iff.mpr (fun z => h26 ((frN_row _ _).mpr z))]; rfl)), trivial⟩, hS.F ht9⟩) hS.2.2 d_Disk_isFree_34
theorem d_Disk_leastFree_0 : decode b_Disk_leastFree 0 = .ok (.bipush 59, 2) := by decide +kernel
theorem d_Disk_leastFree_2 : decode b_Disk_leastFree 2 = .ok (.istore_n 1, 1) := by decide +kernel
theorem d_Disk_leastFree_3 : decode b_Disk_leastFree 3 = .ok (.iload_n 1, 1) := by decide +kernel
theorem d_Disk_leastFree_4 : decode b_Disk_leastFree 4 = .ok (.aload_n 0, 1) := by decide +kernel
theorem d_Disk_leastFree_5 : decode b_Disk_leastFree 5 = .ok (.getfield 9, 3) := by decide +kernel
theorem d_Disk_leastFree_8 : decode b_Disk_leastFree 8 = .ok (.if_icmp .ge 19, 3) := by decide +kernel
theorem d_Disk_leastFree_11 : decode b_Disk_leastFree 11 = .ok (.aload_n 0, 1) := by decide +kernel
theorem d_Disk_leastFree_12 : decode b_Disk_leastFree 12 = .ok (.iload_n 1, 1) := by decide +kernel
theorem d_Disk_leastFree_13 : decode b_Disk_leastFree 13 = .ok (.invokevirtual 61, 3) := by decide +kernel
theorem d_Disk_leastFree_16 : decode b_Disk_leastFree 16 = .ok (.ifCond .eq 5, 3) := by decide +kernel
theorem d_Disk_leastFree_19 : decode b_Disk_leastFree 19 = .ok (.iload_n 1, 1) := by decide +kernel
theorem d_Disk_leastFree_20 : decode b_Disk_leastFree 20 = .ok (.ireturn, 1) := by decide +kernel
theorem d_Disk_leastFree_21 : decode b_Disk_leastFree 21 = .ok (.iinc 1 1, 3) := by decide +kernel
theorem d_Disk_leastFree_24 : decode b_Disk_leastFree 24 = .ok (.goto (-21), 3) := by decide +kernel
theorem d_Disk_leastFree_27 : decode b_Disk_leastFree 27 = .ok (.iconst (-1), 1) := by decide +kernel
theorem d_Disk_leastFree_28 : decode b_Disk_leastFree 28 = .ok (.ireturn, 1) := by decide +kernel
set_option maxHeartbeats 4000000 in
set_option maxRecDepth 100000 in
theorem c_Disk_leastFree (l : Launch) (D : va_G) (g : Nat → Nat) (k : Nat → ClassId) (L : Nat) (hL0 : 96 ≤ L) (hL : L ≤ 768) (u : DSt) : RoI l y_Disk_leastFree w_Disk_leastFree ({ frames := 2, cells := 0, slots := 0, locals := 42 }) [.ref (g 0)] (RoP D cl5 (tyC k) (wD g k L u)) (lfr L (dNow u)) := by
  refine Met.ofW (cc := b_Disk_leastFree) (maxL := 2) (ret := (some .int)) (by decide) rfl ?_
  intro p e s m args below meth c s₁ B hml hv
  obtain ⟨rfl, hP, hK⟩ := hv
  have hx := B.exec
  have hb := B.bytes
  have hr := B.returns
  have hts := atoms_spec (ws := w_Disk_leastFree) B.pre
  have hTB : ∀ w ∈ lw_tb, w.before _ s = true := fun w h => hts w (List.mem_cons_of_mem _ h)
  have hown : s.vm.findClass R_Disk = some m.cls := findClass_of_methodNamed B.named
  have hlocks := B.notSynchronized
  have hS : va_S (fun _ => False) s.heap s.heap [] := va_S.rf
  have hl := lv_entry ([.ref (g 0)]) (n := 2) (Nat.le_of_ble_eq_true rfl)
  rw [lg_entry_eq]
  generalize (lg_sl ([.ref (g 0)]) ++ List.replicate (2 - (lg_sl ([.ref (g 0)])).length) Slot.unset).toArray = ls at hl ⊢
  have hl : lv_has ls 2 [(0, .ref (g 0))] := hl
  refine lv_bipush (v := nI 59) hx hb d_Disk_leastFree_0 (by decide +kernel) ?_
  refine lv_istore_n (lv' := [(1, .int (nI 59)), (0, .ref (g 0))]) hx hb d_Disk_leastFree_2 rfl hl (by decide) rfl (fun ls hl => ?_)
  refine gz_loop 3 (fun (zz : Nat) H locs ls => match zz with | b => va_P D cl5 (wD g k L u) H ∧ va_S (fun _ => False) s.heap H locs ∧ lv_has ls 2 [(0, .ref (g 0)), (1, .int (nI b))] ∧ (b ≤ L) ∧ (lfr L (dNow u) = lfG (dNow u) (L - b) b)) (fun (zz : Nat) => match zz with | b => L - b) (fun zz H locs ls hI ih3 => ?_) (59) ⟨hP, hS, lv_sub hl [1, 0] rfl, (by omega), rfl⟩
  obtain ⟨b, rfl⟩ : ∃ z, z = zz := ⟨_, rfl⟩
  obtain ⟨hP, hS, hl, hb1, hb2⟩ := hI
  refine lv_iload_n hx hb d_Disk_leastFree_3 rfl (lv_at hl 1 rfl) ?_
  refine lv_aload_n hx hb d_Disk_leastFree_4 rfl (lv_at hl 0 rfl) ?_
  refine va_get (D := D) (ci := 1) (v := .int (nI L)) (C := R_Disk) (T := T_Disk) (N := 7) hx hb hTB in_Disk hown hK hP 0 rfl rfl 0 (by decide) (hTB _ k_92) (fun _ h9 => h9) rfl d_Disk_leastFree_5 ?_
  refine gz_icmp_ge (tgt := 27) hx hb d_Disk_leastFree_8 (by decide) (by omega) (by omega) (fun h8 => ?_) (fun h8 => ?_)
  · refine lv_iconst (v := (-1)) hx hb d_Disk_leastFree_27 (by decide +kernel) ?_
    exact W.iret (v := (-1)) hx hb hr (fun tt9 ht9 hW9 => ⟨⟨_, (), rfl, (by rw [hb2, show L - b = 0 by omega]; rfl), trivial⟩, hS.F ht9⟩) hS.2.2 d_Disk_leastFree_28
  · refine lv_aload_n hx hb d_Disk_leastFree_11 rfl (lv_at hl 0 rfl) ?_
    refine lv_iload_n hx hb d_Disk_leastFree_12 rfl (lv_at hl 1 rfl) ?_
    refine gz_roV (As := [.int (nI b)]) (rest := []) (wc := (wD g k L u)) ⟨hx, hb, hml, hown, hTB⟩ (c_Disk_isFree l D g k L hL0 hL u (nI b)) (cwV 1 hTB (gd_V k_175 k_176 k_177 k_52 k_178) rfl rfl rfl (by decide +kernel) ⟨Nat.le_of_ble_eq_true rfl, Nat.le_of_ble_eq_true rfl⟩) hK hP [0, 1, 2, 3, 4, 5] rfl 0 rfl rfl rfl hl.1 rfl (Nat.le_of_ble_eq_true rfl) d_Disk_leastFree_13 ⟨Nat.zero_le _, Nat.zero_le _⟩ hS (fun H locs hP hS => ?_)
    refine gz_ifz_eq (tgt := 21) hx hb d_Disk_leastFree_16 (by decide) (fun h16 => ?_) (fun h16 => ?_)
    · refine lv_iinc (v := nI (b + 1)) (lv' := [(1, .int (nI (b + 1))), (0, .ref (g 0))]) hx hb d_Disk_leastFree_21 hl (k := 1) rfl (nI_add b 1) (by decide) rfl (fun ls hl => ?_)
      refine lv_goto (tgt := 3) hx hb d_Disk_leastFree_24 (by decide) ?_
      exact ih3 (b + 1) _ _ _ (by first | omega | (dsimp only; omega)) ⟨hP, hS, lv_sub hl [1, 0] rfl, (by omega), (by rw [hb2, show L - b = (L - (b + 1)) + 1 by omega, lfG, if_neg (by rw [← frB_in h8 hL, h16]; decide)])⟩
    · refine lv_iload_n hx hb d_Disk_leastFree_19 rfl (lv_at hl 1 rfl) ?_
      exact W.iret (v := nI b) hx hb hr (fun tt9 ht9 hW9 => ⟨⟨_, (), rfl, (by rw [hb2, show L - b = (L - (b + 1)) + 1 by omega, lfG, if_pos (by rw [← frB_in h8 hL]; exact h16)]), trivial⟩, hS.F ht9⟩) hS.2.2 d_Disk_leastFree_20
theorem d_Disk_freeBlocks_0 : decode b_Disk_freeBlocks 0 = .ok (.iconst 0, 1) := by decide +kernel
theorem d_Disk_freeBlocks_1 : decode b_Disk_freeBlocks 1 = .ok (.istore_n 1, 1) := by decide +kernel
theorem d_Disk_freeBlocks_2 : decode b_Disk_freeBlocks 2 = .ok (.bipush 59, 2) := by decide +kernel
theorem d_Disk_freeBlocks_4 : decode b_Disk_freeBlocks 4 = .ok (.istore_n 2, 1) := by decide +kernel
theorem d_Disk_freeBlocks_5 : decode b_Disk_freeBlocks 5 = .ok (.iload_n 2, 1) := by decide +kernel
theorem d_Disk_freeBlocks_6 : decode b_Disk_freeBlocks 6 = .ok (.aload_n 0, 1) := by decide +kernel
theorem d_Disk_freeBlocks_7 : decode b_Disk_freeBlocks 7 = .ok (.getfield 9, 3) := by decide +kernel
theorem d_Disk_freeBlocks_10 : decode b_Disk_freeBlocks 10 = .ok (.if_icmp .ge 20, 3) := by decide +kernel
theorem d_Disk_freeBlocks_13 : decode b_Disk_freeBlocks 13 = .ok (.aload_n 0, 1) := by decide +kernel
theorem d_Disk_freeBlocks_14 : decode b_Disk_freeBlocks 14 = .ok (.iload_n 2, 1) := by decide +kernel
theorem d_Disk_freeBlocks_15 : decode b_Disk_freeBlocks 15 = .ok (.invokevirtual 61, 3) := by decide +kernel
theorem d_Disk_freeBlocks_18 : decode b_Disk_freeBlocks 18 = .ok (.ifCond .eq 6, 3) := by decide +kernel
theorem d_Disk_freeBlocks_21 : decode b_Disk_freeBlocks 21 = .ok (.iinc 1 1, 3) := by decide +kernel
theorem d_Disk_freeBlocks_24 : decode b_Disk_freeBlocks 24 = .ok (.iinc 2 1, 3) := by decide +kernel
theorem d_Disk_freeBlocks_27 : decode b_Disk_freeBlocks 27 = .ok (.goto (-22), 3) := by decide +kernel
theorem d_Disk_freeBlocks_30 : decode b_Disk_freeBlocks 30 = .ok (.iload_n 1, 1) := by decide +kernel
theorem d_Disk_freeBlocks_31 : decode b_Disk_freeBlocks 31 = .ok (.ireturn, 1) := by decide +kernel
set_option maxHeartbeats 4000000 in
set_option maxRecDepth 100000 in
theorem c_Disk_freeBlocks (l : Launch) (D : va_G) (g : Nat → Nat) (k : Nat → ClassId) (L : Nat) (hL0 : 96 ≤ L) (hL : L ≤ 768) (u : DSt) : RoI l y_Disk_freeBlocks w_Disk_freeBlocks ({ frames := 2, cells := 0, slots := 0, locals := 42 }) [.ref (g 0)] (RoP D cl5 (tyC k) (wD g k L u)) (nI (fbs L (dNow u))) := by
  refine Met.ofW (cc := b_Disk_freeBlocks) (maxL := 3) (ret := (some .int)) (by decide) rfl ?_
  intro p e s m args below meth c s₁ B hml hv
  obtain ⟨rfl, hP, hK⟩ := hv
  have hx := B.exec
  have hb := B.bytes
  have hr := B.returns
  have hts := atoms_spec (ws := w_Disk_freeBlocks) B.pre
  have hTB : ∀ w ∈ lw_tb, w.before _ s = true := fun w h => hts w (List.mem_cons_of_mem _ h)
  have hown : s.vm.findClass R_Disk = some m.cls := findClass_of_methodNamed B.named
  have hlocks := B.notSynchronized
  have hS : va_S (fun _ => False) s.heap s.heap [] := va_S.rf
  have hl := lv_entry ([.ref (g 0)]) (n := 3) (Nat.le_of_ble_eq_true rfl)
  rw [lg_entry_eq]
  generalize (lg_sl ([.ref (g 0)]) ++ List.replicate (3 - (lg_sl ([.ref (g 0)])).length) Slot.unset).toArray = ls at hl ⊢
  have hl : lv_has ls 3 [(0, .ref (g 0))] := hl
  refine lv_iconst (v := nI 0) hx hb d_Disk_freeBlocks_0 (by decide +kernel) ?_
  refine lv_istore_n (lv' := [(1, .int (nI 0)), (0, .ref (g 0))]) hx hb d_Disk_freeBlocks_1 rfl hl (by decide) rfl (fun ls hl => ?_)
  refine lv_bipush (v := nI 59) hx hb d_Disk_freeBlocks_2 (by decide +kernel) ?_
  refine lv_istore_n (lv' := [(2, .int (nI 59)), (1, .int (nI 0)), (0, .ref (g 0))]) hx hb d_Disk_freeBlocks_4 rfl hl (by decide) rfl (fun ls hl => ?_)
  refine gz_loop 5 (fun (zz : (Nat × Nat)) H locs ls => match zz with | (n, b) => va_P D cl5 (wD g k L u) H ∧ va_S (fun _ => False) s.heap H locs ∧ lv_has ls 3 [(0, .ref (g 0)), (1, .int (nI n)), (2, .int (nI b))] ∧ (b ≤ L) ∧ (n + fbG (dNow u) (L - b) b = fbs L (dNow u)) ∧ (n ≤ b)) (fun (zz : (Nat × Nat)) => match zz with | (n, b) => L - b) (fun zz H locs ls hI ih5 => ?_) (0, 59) ⟨hP, hS, lv_sub hl [2, 1, 0] rfl, (by omega), (Nat.zero_add _), (by omega)⟩
  obtain ⟨n, b⟩ := zz
  obtain ⟨hP, hS, hl, hb1, hb2, hb3⟩ := hI
  refine lv_iload_n hx hb d_Disk_freeBlocks_5 rfl (lv_at hl 2 rfl) ?_
  refine lv_aload_n hx hb d_Disk_freeBlocks_6 rfl (lv_at hl 0 rfl) ?_
  refine va_get (D := D) (ci := 1) (v := .int (nI L)) (C := R_Disk) (T := T_Disk) (N := 7) hx hb hTB in_Disk hown hK hP 0 rfl rfl 0 (by decide) (hTB _ k_92) (fun _ h9 => h9) rfl d_Disk_freeBlocks_7 ?_
  refine gz_icmp_ge (tgt := 30) hx hb d_Disk_freeBlocks_10 (by decide) (by omega) (by omega) (fun h10 => ?_) (fun h10 => ?_)
  · refine lv_iload_n hx hb d_Disk_freeBlocks_30 rfl (lv_at hl 1 rfl) ?_
    exact W.iret (v := nI n) hx hb hr (fun tt9 ht9 hW9 => ⟨⟨_, (), rfl, (by rw [← hb2, show L - b = 0 by omega]; rfl), trivial⟩, hS.F ht9⟩) hS.2.2 d_Disk_freeBlocks_31
  · refine lv_aload_n hx hb d_Disk_freeBlocks_13 rfl (lv_at hl 0 rfl) ?_
    refine lv_iload_n hx hb d_Disk_freeBlocks_14 rfl (lv_at hl 2 rfl) ?_
    refine gz_roV (As := [.int (nI b)]) (rest := []) (wc := (wD g k L u)) ⟨hx, hb, hml, hown, hTB⟩ (c_Disk_isFree l D g k L hL0 hL u (nI b)) (cwV 1 hTB (gd_V k_175 k_176 k_177 k_52 k_178) rfl rfl rfl (by decide +kernel) ⟨Nat.le_of_ble_eq_true rfl, Nat.le_of_ble_eq_true rfl⟩) hK hP [0, 1, 2, 3, 4, 5] rfl 0 rfl rfl rfl hl.1 rfl (Nat.le_of_ble_eq_true rfl) d_Disk_freeBlocks_15 ⟨Nat.zero_le _, Nat.zero_le _⟩ hS (fun H locs hP hS => ?_)
    refine gz_ifz_eq (tgt := 24) hx hb d_Disk_freeBlocks_18 (by decide) (fun h18 => ?_) (fun h18 => ?_)
    · refine lv_iinc (v := nI (b + 1)) (lv' := [(2, .int (nI (b + 1))), (0, .ref (g 0)), (1, .int (nI n))]) hx hb d_Disk_freeBlocks_24 hl (k := 2) rfl (nI_add b 1) (by decide) rfl (fun ls hl => ?_)
      refine lv_goto (tgt := 5) hx hb d_Disk_freeBlocks_27 (by decide) ?_
      exact ih5 (n, b + 1) _ _ _ (by first | omega | (dsimp only; omega)) ⟨hP, hS, lv_sub hl [1, 2, 0] rfl, (by omega), (by rw [← hb2, show L - b = (L - (b + 1)) + 1 by omega, fbG, ← frB_in h10 hL, h18]; simp; try omega), (by omega)⟩
    · refine lv_iinc (v := nI (n + 1)) (lv' := [(1, .int (nI (n + 1))), (0, .ref (g 0)), (2, .int (nI b))]) hx hb d_Disk_freeBlocks_21 hl (k := 1) rfl (nI_add n 1) (by decide) rfl (fun ls hl => ?_)
      refine lv_iinc (v := nI (b + 1)) (lv' := [(2, .int (nI (b + 1))), (1, .int (nI (n + 1))), (0, .ref (g 0))]) hx hb d_Disk_freeBlocks_24 hl (k := 2) rfl (nI_add b 1) (by decide) rfl (fun ls hl => ?_)
      refine lv_goto (tgt := 5) hx hb d_Disk_freeBlocks_27 (by decide) ?_
      exact ih5 (n + 1, b + 1) _ _ _ (by first | omega | (dsimp only; omega)) ⟨hP, hS, lv_sub hl [2, 1, 0] rfl, (by omega), (by rw [← hb2, show L - b = (L - (b + 1)) + 1 by omega, fbG, ← frB_in h10 hL, h18]; simp; try omega), (by omega)⟩
theorem d_Disk_differingBlocks_0 : decode b_Disk_differingBlocks 0 = .ok (.iconst 0, 1) := by decide +kernel
theorem d_Disk_differingBlocks_1 : decode b_Disk_differingBlocks 1 = .ok (.istore_n 1, 1) := by decide +kernel
theorem d_Disk_differingBlocks_2 : decode b_Disk_differingBlocks 2 = .ok (.iconst 0, 1) := by decide +kernel
theorem d_Disk_differingBlocks_3 : decode b_Disk_differingBlocks 3 = .ok (.istore_n 2, 1) := by decide +kernel
theorem d_Disk_differingBlocks_4 : decode b_Disk_differingBlocks 4 = .ok (.iload_n 2, 1) := by decide +kernel
theorem d_Disk_differingBlocks_5 : decode b_Disk_differingBlocks 5 = .ok (.aload_n 0, 1) := by decide +kernel
theorem d_Disk_differingBlocks_6 : decode b_Disk_differingBlocks 6 = .ok (.getfield 9, 3) := by decide +kernel
theorem d_Disk_differingBlocks_9 : decode b_Disk_differingBlocks 9 = .ok (.if_icmp .ge 21, 3) := by decide +kernel
theorem d_Disk_differingBlocks_12 : decode b_Disk_differingBlocks 12 = .ok (.aload_n 0, 1) := by decide +kernel
theorem d_Disk_differingBlocks_13 : decode b_Disk_differingBlocks 13 = .ok (.getfield 29, 3) := by decide +kernel
theorem d_Disk_differingBlocks_16 : decode b_Disk_differingBlocks 16 = .ok (.iload_n 2, 1) := by decide +kernel
theorem d_Disk_differingBlocks_17 : decode b_Disk_differingBlocks 17 = .ok (.baload, 1) := by decide +kernel
theorem d_Disk_differingBlocks_18 : decode b_Disk_differingBlocks 18 = .ok (.ifCond .eq 6, 3) := by decide +kernel
theorem d_Disk_differingBlocks_21 : decode b_Disk_differingBlocks 21 = .ok (.iinc 1 1, 3) := by decide +kernel
theorem d_Disk_differingBlocks_24 : decode b_Disk_differingBlocks 24 = .ok (.iinc 2 1, 3) := by decide +kernel
theorem d_Disk_differingBlocks_27 : decode b_Disk_differingBlocks 27 = .ok (.goto (-23), 3) := by decide +kernel
theorem d_Disk_differingBlocks_30 : decode b_Disk_differingBlocks 30 = .ok (.iload_n 1, 1) := by decide +kernel
theorem d_Disk_differingBlocks_31 : decode b_Disk_differingBlocks 31 = .ok (.ireturn, 1) := by decide +kernel
set_option maxHeartbeats 4000000 in
set_option maxRecDepth 100000 in
theorem c_Disk_differingBlocks (l : Launch) (D : va_G) (g : Nat → Nat) (k : Nat → ClassId) (L : Nat) (hL0 : 96 ≤ L) (hL : L ≤ 768) (u : DSt) : RoI l y_Disk_differingBlocks w_Disk_differingBlocks ({ frames := 0, cells := 0, slots := 0, locals := 0 }) [.ref (g 0)] (RoP D cl5 (tyC k) (wD g k L u)) (nI (dct L (dDif u))) := by
  refine Met.ofW (cc := b_Disk_differingBlocks) (maxL := 3) (ret := (some .int)) (by decide) rfl ?_
  intro p e s m args below meth c s₁ B hml hv
  obtain ⟨rfl, hP, hK⟩ := hv
  have hx := B.exec
  have hb := B.bytes
  have hr := B.returns
  have hts := atoms_spec (ws := w_Disk_differingBlocks) B.pre
  have hTB : ∀ w ∈ lw_tb, w.before _ s = true := fun w h => hts w (List.mem_cons_of_mem _ h)
  have hown : s.vm.findClass R_Disk = some m.cls := findClass_of_methodNamed B.named
  have hlocks := B.notSynchronized
  have hS : va_S (fun _ => False) s.heap s.heap [] := va_S.rf
  have hl := lv_entry ([.ref (g 0)]) (n := 3) (Nat.le_of_ble_eq_true rfl)
  rw [lg_entry_eq]
  generalize (lg_sl ([.ref (g 0)]) ++ List.replicate (3 - (lg_sl ([.ref (g 0)])).length) Slot.unset).toArray = ls at hl ⊢
  have hl : lv_has ls 3 [(0, .ref (g 0))] := hl
  refine lv_iconst (v := nI 0) hx hb d_Disk_differingBlocks_0 (by decide +kernel) ?_
  refine lv_istore_n (lv' := [(1, .int (nI 0)), (0, .ref (g 0))]) hx hb d_Disk_differingBlocks_1 rfl hl (by decide) rfl (fun ls hl => ?_)
  refine lv_iconst (v := nI 0) hx hb d_Disk_differingBlocks_2 (by decide +kernel) ?_
  refine lv_istore_n (lv' := [(2, .int (nI 0)), (1, .int (nI 0)), (0, .ref (g 0))]) hx hb d_Disk_differingBlocks_3 rfl hl (by decide) rfl (fun ls hl => ?_)
  refine gz_loop 4 (fun (zz : (Nat × Nat)) H locs ls => match zz with | (n, b) => va_P D cl5 (wD g k L u) H ∧ va_S (fun _ => False) s.heap H locs ∧ lv_has ls 3 [(0, .ref (g 0)), (1, .int (nI n)), (2, .int (nI b))] ∧ (b ≤ L) ∧ (n + dcG (dDif u) (L - b) b = dct L (dDif u)) ∧ (n ≤ b)) (fun (zz : (Nat × Nat)) => match zz with | (n, b) => L - b) (fun zz H locs ls hI ih4 => ?_) (0, 0) ⟨hP, hS, lv_sub hl [2, 1, 0] rfl, (by omega), (Nat.zero_add _), (by omega)⟩
  obtain ⟨n, b⟩ := zz
  obtain ⟨hP, hS, hl, hb1, hb2, hb3⟩ := hI
  refine lv_iload_n hx hb d_Disk_differingBlocks_4 rfl (lv_at hl 2 rfl) ?_
  refine lv_aload_n hx hb d_Disk_differingBlocks_5 rfl (lv_at hl 0 rfl) ?_
  refine va_get (D := D) (ci := 1) (v := .int (nI L)) (C := R_Disk) (T := T_Disk) (N := 7) hx hb hTB in_Disk hown hK hP 0 rfl rfl 0 (by decide) (hTB _ k_92) (fun _ h9 => h9) rfl d_Disk_differingBlocks_6 ?_
  refine gz_icmp_ge (tgt := 30) hx hb d_Disk_differingBlocks_9 (by decide) (by omega) (by omega) (fun h9 => ?_) (fun h9 => ?_)
  · refine lv_iload_n hx hb d_Disk_differingBlocks_30 rfl (lv_at hl 1 rfl) ?_
    exact W.iret (v := nI n) hx hb hr (fun tt9 ht9 hW9 => ⟨⟨_, (), rfl, (by rw [← hb2, show L - b = 0 by omega]; rfl), trivial⟩, hS.F ht9⟩) hS.2.2 d_Disk_differingBlocks_31
  · refine lv_aload_n hx hb d_Disk_differingBlocks_12 rfl (lv_at hl 0 rfl) ?_
    refine va_get (D := D) (ci := 1) (v := .ref (g 5)) (C := R_Disk) (T := T_Disk) (N := 7) hx hb hTB in_Disk hown hK hP 0 rfl rfl 5 (by decide) (hTB _ k_97) (fun _ h9 => h9) rfl d_Disk_differingBlocks_13 ?_
    refine lv_iload_n hx hb d_Disk_differingBlocks_16 rfl (lv_at hl 2 rfl) ?_
    refine gz_zald hx hb hK hP 5 1 rfl rfl (i := b) (by omega) (by omega) d_Disk_differingBlocks_17 ?_
    refine gz_ifz_eq (tgt := 24) hx hb d_Disk_differingBlocks_18 (by decide) (fun h18 => ?_) (fun h18 => ?_)
    · refine lv_iinc (v := nI (b + 1)) (lv' := [(2, .int (nI (b + 1))), (0, .ref (g 0)), (1, .int (nI n))]) hx hb d_Disk_differingBlocks_24 hl (k := 2) rfl (nI_add b 1) (by decide) rfl (fun ls hl => ?_)
      refine lv_goto (tgt := 4) hx hb d_Disk_differingBlocks_27 (by decide) ?_
      exact ih4 (n, b + 1) _ _ _ (by first | omega | (dsimp only; omega)) ⟨hP, hS, lv_sub hl [1, 2, 0] rfl, (by omega), (by rw [← hb2, show L - b = (L - (b + 1)) + 1 by omega, dcG, h18]; simp; try omega), (by omega)⟩
    · refine lv_iinc (v := nI (n + 1)) (lv' := [(1, .int (nI (n + 1))), (0, .ref (g 0)), (2, .int (nI b))]) hx hb d_Disk_differingBlocks_21 hl (k := 1) rfl (nI_add n 1) (by decide) rfl (fun ls hl => ?_)
      refine lv_iinc (v := nI (b + 1)) (lv' := [(2, .int (nI (b + 1))), (1, .int (nI (n + 1))), (0, .ref (g 0))]) hx hb d_Disk_differingBlocks_24 hl (k := 2) rfl (nI_add b 1) (by decide) rfl (fun ls hl => ?_)
      refine lv_goto (tgt := 4) hx hb d_Disk_differingBlocks_27 (by decide) ?_
      exact ih4 (n + 1, b + 1) _ _ _ (by first | omega | (dsimp only; omega)) ⟨hP, hS, lv_sub hl [2, 1, 0] rfl, (by omega), (by rw [← hb2, show L - b = (L - (b + 1)) + 1 by omega, dcG, h18]; simp; try omega), (by omega)⟩
theorem d_Disk_differingBlock_0 : decode b_Disk_differingBlock 0 = .ok (.iconst 0, 1) := by decide +kernel
theorem d_Disk_differingBlock_1 : decode b_Disk_differingBlock 1 = .ok (.istore_n 2, 1) := by decide +kernel
theorem d_Disk_differingBlock_2 : decode b_Disk_differingBlock 2 = .ok (.iconst 0, 1) := by decide +kernel
theorem d_Disk_differingBlock_3 : decode b_Disk_differingBlock 3 = .ok (.istore_n 3, 1) := by decide +kernel
theorem d_Disk_differingBlock_4 : decode b_Disk_differingBlock 4 = .ok (.iload_n 3, 1) := by decide +kernel
theorem d_Disk_differingBlock_5 : decode b_Disk_differingBlock 5 = .ok (.aload_n 0, 1) := by decide +kernel
theorem d_Disk_differingBlock_6 : decode b_Disk_differingBlock 6 = .ok (.getfield 9, 3) := by decide +kernel
theorem d_Disk_differingBlock_9 : decode b_Disk_differingBlock 9 = .ok (.if_icmp .ge 28, 3) := by decide +kernel
theorem d_Disk_differingBlock_12 : decode b_Disk_differingBlock 12 = .ok (.aload_n 0, 1) := by decide +kernel
theorem d_Disk_differingBlock_13 : decode b_Disk_differingBlock 13 = .ok (.getfield 29, 3) := by decide +kernel
theorem d_Disk_differingBlock_16 : decode b_Disk_differingBlock 16 = .ok (.iload_n 3, 1) := by decide +kernel
theorem d_Disk_differingBlock_17 : decode b_Disk_differingBlock 17 = .ok (.baload, 1) := by decide +kernel
theorem d_Disk_differingBlock_18 : decode b_Disk_differingBlock 18 = .ok (.ifCond .eq 13, 3) := by decide +kernel
theorem d_Disk_differingBlock_21 : decode b_Disk_differingBlock 21 = .ok (.iload_n 2, 1) := by decide +kernel
theorem d_Disk_differingBlock_22 : decode b_Disk_differingBlock 22 = .ok (.iload_n 1, 1) := by decide +kernel
theorem d_Disk_differingBlock_23 : decode b_Disk_differingBlock 23 = .ok (.if_icmp .ne 5, 3) := by decide +kernel
theorem d_Disk_differingBlock_26 : decode b_Disk_differingBlock 26 = .ok (.iload_n 3, 1) := by decide +kernel
theorem d_Disk_differingBlock_27 : decode b_Disk_differingBlock 27 = .ok (.ireturn, 1) := by decide +kernel
theorem d_Disk_differingBlock_28 : decode b_Disk_differingBlock 28 = .ok (.iinc 2 1, 3) := by decide +kernel
theorem d_Disk_differingBlock_31 : decode b_Disk_differingBlock 31 = .ok (.iinc 3 1, 3) := by decide +kernel
theorem d_Disk_differingBlock_34 : decode b_Disk_differingBlock 34 = .ok (.goto (-30), 3) := by decide +kernel
theorem d_Disk_differingBlock_37 : decode b_Disk_differingBlock 37 = .ok (.iconst (-1), 1) := by decide +kernel
theorem d_Disk_differingBlock_38 : decode b_Disk_differingBlock 38 = .ok (.ireturn, 1) := by decide +kernel
set_option maxHeartbeats 4000000 in
set_option maxRecDepth 100000 in
theorem c_Disk_differingBlock (l : Launch) (D : va_G) (g : Nat → Nat) (k : Nat → ClassId) (L : Nat) (hL0 : 96 ≤ L) (hL : L ≤ 768) (u : DSt) (x : Int32) : RoI l y_Disk_differingBlock w_Disk_differingBlock ({ frames := 0, cells := 0, slots := 0, locals := 0 }) [.ref (g 0), .int (x)] (RoP D cl5 (tyC k) (wD g k L u)) (dbk L (dDif u) x) := by
  refine Met.ofW (cc := b_Disk_differingBlock) (maxL := 4) (ret := (some .int)) (by decide) rfl ?_
  intro p e s m args below meth c s₁ B hml hv
  obtain ⟨rfl, hP, hK⟩ := hv
  have hx := B.exec
  have hb := B.bytes
  have hr := B.returns
  have hts := atoms_spec (ws := w_Disk_differingBlock) B.pre
  have hTB : ∀ w ∈ lw_tb, w.before _ s = true := fun w h => hts w (List.mem_cons_of_mem _ h)
  have hown : s.vm.findClass R_Disk = some m.cls := findClass_of_methodNamed B.named
  have hlocks := B.notSynchronized
  have hS : va_S (fun _ => False) s.heap s.heap [] := va_S.rf
  have hl := lv_entry ([.ref (g 0), .int (x)]) (n := 4) (Nat.le_of_ble_eq_true rfl)
  rw [lg_entry_eq]
  generalize (lg_sl ([.ref (g 0), .int (x)]) ++ List.replicate (4 - (lg_sl ([.ref (g 0), .int (x)])).length) Slot.unset).toArray = ls at hl ⊢
  have hl : lv_has ls 4 [(0, .ref (g 0)), (1, .int (x))] := hl
  refine lv_iconst (v := nI 0) hx hb d_Disk_differingBlock_0 (by decide +kernel) ?_
  refine lv_istore_n (lv' := [(2, .int (nI 0)), (0, .ref (g 0)), (1, .int (x))]) hx hb d_Disk_differingBlock_1 rfl hl (by decide) rfl (fun ls hl => ?_)
  refine lv_iconst (v := nI 0) hx hb d_Disk_differingBlock_2 (by decide +kernel) ?_
  refine lv_istore_n (lv' := [(3, .int (nI 0)), (2, .int (nI 0)), (0, .ref (g 0)), (1, .int (x))]) hx hb d_Disk_differingBlock_3 rfl hl (by decide) rfl (fun ls hl => ?_)
  refine gz_loop 4 (fun (zz : (Nat × Nat)) H locs ls => match zz with | (n, b) => va_P D cl5 (wD g k L u) H ∧ va_S (fun _ => False) s.heap H locs ∧ lv_has ls 4 [(0, .ref (g 0)), (1, .int (x)), (2, .int (nI n)), (3, .int (nI b))] ∧ (b ≤ L) ∧ (dbG (dDif u) x (L - b) b n = dbk L (dDif u) x) ∧ (n ≤ b)) (fun (zz : (Nat × Nat)) => match zz with | (n, b) => L - b) (fun zz H locs ls hI ih4 => ?_) (0, 0) ⟨hP, hS, lv_sub hl [2, 3, 1, 0] rfl, (by omega), rfl, (by omega)⟩
  obtain ⟨n, b⟩ := zz
  obtain ⟨hP, hS, hl, hb1, hb2, hb3⟩ := hI
  refine lv_iload_n hx hb d_Disk_differingBlock_4 rfl (lv_at hl 3 rfl) ?_
  refine lv_aload_n hx hb d_Disk_differingBlock_5 rfl (lv_at hl 0 rfl) ?_
  refine va_get (D := D) (ci := 1) (v := .int (nI L)) (C := R_Disk) (T := T_Disk) (N := 7) hx hb hTB in_Disk hown hK hP 0 rfl rfl 0 (by decide) (hTB _ k_92) (fun _ h9 => h9) rfl d_Disk_differingBlock_6 ?_
  refine gz_icmp_ge (tgt := 37) hx hb d_Disk_differingBlock_9 (by decide) (by omega) (by omega) (fun h9 => ?_) (fun h9 => ?_)
  · refine lv_iconst (v := (-1)) hx hb d_Disk_differingBlock_37 (by decide +kernel) ?_
    exact W.iret (v := (-1)) hx hb hr (fun tt9 ht9 hW9 => ⟨⟨_, (), rfl, (by rw [← hb2, show L - b = 0 by omega]; rfl), trivial⟩, hS.F ht9⟩) hS.2.2 d_Disk_differingBlock_38
  · refine lv_aload_n hx hb d_Disk_differingBlock_12 rfl (lv_at hl 0 rfl) ?_
    refine va_get (D := D) (ci := 1) (v := .ref (g 5)) (C := R_Disk) (T := T_Disk) (N := 7) hx hb hTB in_Disk hown hK hP 0 rfl rfl 5 (by decide) (hTB _ k_97) (fun _ h9 => h9) rfl d_Disk_differingBlock_13 ?_
    refine lv_iload_n hx hb d_Disk_differingBlock_16 rfl (lv_at hl 3 rfl) ?_
    refine gz_zald hx hb hK hP 5 1 rfl rfl (i := b) (by omega) (by omega) d_Disk_differingBlock_17 ?_
    refine gz_ifz_eq (tgt := 31) hx hb d_Disk_differingBlock_18 (by decide) (fun h18 => ?_) (fun h18 => ?_)
    · refine lv_iinc (v := nI (b + 1)) (lv' := [(3, .int (nI (b + 1))), (0, .ref (g 0)), (1, .int (x)), (2, .int (nI n))]) hx hb d_Disk_differingBlock_31 hl (k := 3) rfl (nI_add b 1) (by decide) rfl (fun ls hl => ?_)
      refine lv_goto (tgt := 4) hx hb d_Disk_differingBlock_34 (by decide) ?_
      exact ih4 (n, b + 1) _ _ _ (by first | omega | (dsimp only; omega)) ⟨hP, hS, lv_sub hl [1, 2, 3, 0] rfl, (by omega), (by rw [← hb2, show L - b = (L - (b + 1)) + 1 by omega, dbG, h18]; simp; try (intro h; exact absurd h h23)), (by omega)⟩
    · refine lv_iload_n hx hb d_Disk_differingBlock_21 rfl (lv_at hl 2 rfl) ?_
      refine lv_iload_n hx hb d_Disk_differingBlock_22 rfl (lv_at hl 1 rfl) ?_
      refine lv_icmp_ne (tgt := 28) hx hb d_Disk_differingBlock_23 (by decide) (fun h23 => ?_) (fun h23 => ?_)
      · refine lv_iinc (v := nI (n + 1)) (lv' := [(2, .int (nI (n + 1))), (0, .ref (g 0)), (1, .int (x)), (3, .int (nI b))]) hx hb d_Disk_differingBlock_28 hl (k := 2) rfl (nI_add n 1) (by decide) rfl (fun ls hl => ?_)
        refine lv_iinc (v := nI (b + 1)) (lv' := [(3, .int (nI (b + 1))), (2, .int (nI (n + 1))), (0, .ref (g 0)), (1, .int (x))]) hx hb d_Disk_differingBlock_31 hl (k := 3) rfl (nI_add b 1) (by decide) rfl (fun ls hl => ?_)
        refine lv_goto (tgt := 4) hx hb d_Disk_differingBlock_34 (by decide) ?_
        exact ih4 (n + 1, b + 1) _ _ _ (by first | omega | (dsimp only; omega)) ⟨hP, hS, lv_sub hl [2, 3, 1, 0] rfl, (by omega), (by rw [← hb2, show L - b = (L - (b + 1)) + 1 by omega, dbG, h18]; simp; try (intro h; exact absurd h h23)), (by omega)⟩
      · refine lv_iload_n hx hb d_Disk_differingBlock_26 rfl (lv_at hl 3 rfl) ?_
        exact W.iret (v := nI b) hx hb hr (fun tt9 ht9 hW9 => ⟨⟨_, (), rfl, (by rw [← hb2, show L - b = (L - (b + 1)) + 1 by omega, dbG, h18]; simp [h23]), trivial⟩, hS.F ht9⟩) hS.2.2 d_Disk_differingBlock_27
