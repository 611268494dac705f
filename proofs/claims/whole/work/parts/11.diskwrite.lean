theorem d_Disk_touch_0 : decode b_Disk_touch 0 = .ok (.aload_n 0, 1) := by decide +kernel
theorem d_Disk_touch_1 : decode b_Disk_touch 1 = .ok (.getfield 25, 3) := by decide +kernel
theorem d_Disk_touch_4 : decode b_Disk_touch 4 = .ok (.iload_n 1, 1) := by decide +kernel
theorem d_Disk_touch_5 : decode b_Disk_touch 5 = .ok (.baload, 1) := by decide +kernel
theorem d_Disk_touch_6 : decode b_Disk_touch 6 = .ok (.ifCond .ne 31, 3) := by decide +kernel
theorem d_Disk_touch_9 : decode b_Disk_touch 9 = .ok (.aload_n 0, 1) := by decide +kernel
theorem d_Disk_touch_10 : decode b_Disk_touch 10 = .ok (.getfield 25, 3) := by decide +kernel
theorem d_Disk_touch_13 : decode b_Disk_touch 13 = .ok (.iload_n 1, 1) := by decide +kernel
theorem d_Disk_touch_14 : decode b_Disk_touch 14 = .ok (.iconst 1, 1) := by decide +kernel
theorem d_Disk_touch_15 : decode b_Disk_touch 15 = .ok (.bastore, 1) := by decide +kernel
theorem d_Disk_touch_16 : decode b_Disk_touch 16 = .ok (.aload_n 0, 1) := by decide +kernel
theorem d_Disk_touch_17 : decode b_Disk_touch 17 = .ok (.getfield 15, 3) := by decide +kernel
theorem d_Disk_touch_20 : decode b_Disk_touch 20 = .ok (.iload_n 1, 1) := by decide +kernel
theorem d_Disk_touch_21 : decode b_Disk_touch 21 = .ok (.bipush 8, 2) := by decide +kernel
theorem d_Disk_touch_23 : decode b_Disk_touch 23 = .ok (.imul, 1) := by decide +kernel
theorem d_Disk_touch_24 : decode b_Disk_touch 24 = .ok (.aload_n 0, 1) := by decide +kernel
theorem d_Disk_touch_25 : decode b_Disk_touch 25 = .ok (.getfield 22, 3) := by decide +kernel
theorem d_Disk_touch_28 : decode b_Disk_touch 28 = .ok (.iload_n 1, 1) := by decide +kernel
theorem d_Disk_touch_29 : decode b_Disk_touch 29 = .ok (.bipush 8, 2) := by decide +kernel
theorem d_Disk_touch_31 : decode b_Disk_touch 31 = .ok (.imul, 1) := by decide +kernel
theorem d_Disk_touch_32 : decode b_Disk_touch 32 = .ok (.bipush 8, 2) := by decide +kernel
theorem d_Disk_touch_34 : decode b_Disk_touch 34 = .ok (.invokestatic 85, 3) := by decide +kernel
theorem d_Disk_touch_37 : decode b_Disk_touch 37 = .ok (.return_, 1) := by decide +kernel
set_option maxHeartbeats 4000000 in
set_option maxRecDepth 100000 in
theorem c_Disk_touch (l : Launch) (D : va_G) (g : Nat → Nat) (k : Nat → ClassId) (L : Nat) (hL0 : 96 ≤ L) (hL : L ≤ 768) (u : DSt) (b : Nat) (hb0 : b < L) : MuV l y_Disk_touch w_Disk_touch ({ frames := 1, cells := 0, slots := 0, locals := 60 }) [.ref (g 0), .int (nI b)] D cl5 (tyC k) (wD g k L u) (wD g k L (tch u b)) := by
  intro sz
  refine Met.ofW (cc := b_Disk_touch) (maxL := 2) (ret := none) (by decide) rfl ?_
  intro p e s m args below meth c s₁ B hml hv
  obtain ⟨rfl, hsz, hP, hK, hD0⟩ := hv
  have hx := B.exec
  have hb := B.bytes
  have hr := B.returns
  have hts := atoms_spec (ws := w_Disk_touch) B.pre
  have hTB : ∀ w ∈ lw_tb, w.before _ s = true := fun w h => hts w (List.mem_cons_of_mem _ h)
  have hown : s.vm.findClass R_Disk = some m.cls := findClass_of_methodNamed B.named
  have hlocks := B.notSynchronized
  subst hsz
  have hD := hD0.self (sz := s.heap.size)
  generalize hAe : va_A (wD g k L u) s.heap.size = A at hD ⊢
  have hA : ∀ q : Nat, s.heap.size ≤ q → A q := fun q h => by rw [← hAe]; exact Or.inr h
  have hS : va_S A s.heap s.heap [] := va_S.rf
  have hl := lv_entry ([.ref (g 0), .int (nI b)]) (n := 2) (Nat.le_of_ble_eq_true rfl)
  rw [lg_entry_eq]
  generalize (lg_sl ([.ref (g 0), .int (nI b)]) ++ List.replicate (2 - (lg_sl ([.ref (g 0), .int (nI b)])).length) Slot.unset).toArray = ls at hl ⊢
  have hl : lv_has ls 2 [(0, .ref (g 0)), (1, .int (nI b))] := hl
  refine lv_aload_n hx hb d_Disk_touch_0 rfl (lv_at hl 0 rfl) ?_
  refine va_get (D := D) (ci := 1) (v := .ref (g 4)) (C := R_Disk) (T := T_Disk) (N := 7) hx hb hTB in_Disk hown hK hP 0 rfl rfl 4 (by decide) (hTB _ k_96) (fun _ h9 => h9) rfl d_Disk_touch_1 ?_
  refine lv_iload_n hx hb d_Disk_touch_4 rfl (lv_at hl 1 rfl) ?_
  refine gz_zald hx hb hK hP 4 1 rfl rfl (i := b) (by omega) (by omega) d_Disk_touch_5 ?_
  refine gz_ifz_ne (tgt := 37) hx hb d_Disk_touch_6 (by decide) (fun h6 => ?_) (fun h6 => ?_)
  · have hP9 : va_P D cl5 (wD g k L (tch u b)) s.heap := (by rw [tch_t h6]; exact hP)
    have hD9 : va_D A (wD g k L (tch u b)) := (by rw [tch_t h6]; exact hD)
    exact W.vret hx hb hr (fun tt9 ht9 hW9 => ⟨⟨(), rfl, trivial, ⟨by rw [ht9]; exact hP9, hD9⟩⟩, hS.F ht9⟩) hS.2.2 d_Disk_touch_37
  · refine lv_aload_n hx hb d_Disk_touch_9 rfl (lv_at hl 0 rfl) ?_
    refine va_get (D := D) (ci := 1) (v := .ref (g 4)) (C := R_Disk) (T := T_Disk) (N := 7) hx hb hTB in_Disk hown hK hP 0 rfl rfl 4 (by decide) (hTB _ k_96) (fun _ h9 => h9) rfl d_Disk_touch_10 ?_
    refine lv_iload_n hx hb d_Disk_touch_13 rfl (lv_at hl 1 rfl) ?_
    refine lv_iconst (v := nI 1) hx hb d_Disk_touch_14 (by decide +kernel) ?_
    refine gz_zast hx hb hK hP hD hS 4 1 rfl rfl (i := b) true rfl (by omega) (by omega) d_Disk_touch_15 (fun H locs hP hD hS => ?_)
    have hP : va_P D cl5 (wD g k L (sTou u (va_up (dTou u) b true))) H := hP
    have hD : va_D A (wD g k L (sTou u (va_up (dTou u) b true))) := hD
    refine lv_aload_n hx hb d_Disk_touch_16 rfl (lv_at hl 0 rfl) ?_
    refine va_get (D := D) (ci := 1) (v := .ref (g 1)) (C := R_Disk) (T := T_Disk) (N := 7) hx hb hTB in_Disk hown hK hP 0 rfl rfl 1 (by decide) (hTB _ k_93) (fun _ h9 => h9) rfl d_Disk_touch_17 ?_
    refine lv_iload_n hx hb d_Disk_touch_20 rfl (lv_at hl 1 rfl) ?_
    refine lv_bipush (v := nI 8) hx hb d_Disk_touch_21 (by decide +kernel) ?_
    refine gz_imul hx hb d_Disk_touch_23 ?_
    refine lv_aload_n hx hb d_Disk_touch_24 rfl (lv_at hl 0 rfl) ?_
    refine va_get (D := D) (ci := 1) (v := .ref (g 3)) (C := R_Disk) (T := T_Disk) (N := 7) hx hb hTB in_Disk hown hK hP 0 rfl rfl 3 (by decide) (hTB _ k_95) (fun _ h9 => h9) rfl d_Disk_touch_25 ?_
    refine lv_iload_n hx hb d_Disk_touch_28 rfl (lv_at hl 1 rfl) ?_
    refine lv_bipush (v := nI 8) hx hb d_Disk_touch_29 (by decide +kernel) ?_
    refine gz_imul hx hb d_Disk_touch_31 ?_
    refine lv_bipush (v := nI 8) hx hb d_Disk_touch_32 (by decide +kernel) ?_
    refine gz_copyl hx hb (hml.trans hl.1.symm) hown (hTB _ k_86) (hTB _ k_88) (hTB _ k_87) (hTB _ k_53) hK hP hD hS 1 3 0 0 rfl rfl rfl rfl (by omega) (by omega) (by omega) (by omega) (Nat.le_of_ble_eq_true rfl) (by decide +kernel) d_Disk_touch_34 (fun H locs hP hD hS => ?_)
    have hP : va_P D cl5 (wD g k L (sBef (sTou u (va_up (dTou u) b true)) (va_cpy (dNow (sTou u (va_up (dTou u) b true))) (dBef (sTou u (va_up (dTou u) b true))) (b * 8) (b * 8) 8))) H := hP
    have hD : va_D A (wD g k L (sBef (sTou u (va_up (dTou u) b true)) (va_cpy (dNow (sTou u (va_up (dTou u) b true))) (dBef (sTou u (va_up (dTou u) b true))) (b * 8) (b * 8) 8))) := hD
    have hP9 : va_P D cl5 (wD g k L (tch u b)) H := (by rw [tch_f h6]; exact hP)
    have hD9 : va_D A (wD g k L (tch u b)) := (by rw [tch_f h6]; exact hD)
    exact W.vret hx hb hr (fun tt9 ht9 hW9 => ⟨⟨(), rfl, trivial, ⟨by rw [ht9]; exact hP9, hD9⟩⟩, hS.F ht9⟩) hS.2.2 d_Disk_touch_37
theorem d_Disk_setByte_0 : decode b_Disk_setByte 0 = .ok (.iload_n 1, 1) := by decide +kernel
theorem d_Disk_setByte_1 : decode b_Disk_setByte 1 = .ok (.ifCond .lt 71, 3) := by decide +kernel
theorem d_Disk_setByte_4 : decode b_Disk_setByte 4 = .ok (.iload_n 1, 1) := by decide +kernel
theorem d_Disk_setByte_5 : decode b_Disk_setByte 5 = .ok (.aload_n 0, 1) := by decide +kernel
theorem d_Disk_setByte_6 : decode b_Disk_setByte 6 = .ok (.getfield 9, 3) := by decide +kernel
theorem d_Disk_setByte_9 : decode b_Disk_setByte 9 = .ok (.bipush 64, 2) := by decide +kernel
theorem d_Disk_setByte_11 : decode b_Disk_setByte 11 = .ok (.imul, 1) := by decide +kernel
theorem d_Disk_setByte_12 : decode b_Disk_setByte 12 = .ok (.if_icmp .ge 60, 3) := by decide +kernel
theorem d_Disk_setByte_15 : decode b_Disk_setByte 15 = .ok (.aload_n 0, 1) := by decide +kernel
theorem d_Disk_setByte_16 : decode b_Disk_setByte 16 = .ok (.iload_n 1, 1) := by decide +kernel
theorem d_Disk_setByte_17 : decode b_Disk_setByte 17 = .ok (.bipush 64, 2) := by decide +kernel
theorem d_Disk_setByte_19 : decode b_Disk_setByte 19 = .ok (.idiv, 1) := by decide +kernel
theorem d_Disk_setByte_20 : decode b_Disk_setByte 20 = .ok (.invokevirtual 47, 3) := by decide +kernel
theorem d_Disk_setByte_23 : decode b_Disk_setByte 23 = .ok (.iload_n 1, 1) := by decide +kernel
theorem d_Disk_setByte_24 : decode b_Disk_setByte 24 = .ok (.bipush 8, 2) := by decide +kernel
theorem d_Disk_setByte_26 : decode b_Disk_setByte 26 = .ok (.irem, 1) := by decide +kernel
theorem d_Disk_setByte_27 : decode b_Disk_setByte 27 = .ok (.bipush 8, 2) := by decide +kernel
theorem d_Disk_setByte_29 : decode b_Disk_setByte 29 = .ok (.imul, 1) := by decide +kernel
theorem d_Disk_setByte_30 : decode b_Disk_setByte 30 = .ok (.istore_n 3, 1) := by decide +kernel
theorem d_Disk_setByte_31 : decode b_Disk_setByte 31 = .ok (.aload_n 0, 1) := by decide +kernel
theorem d_Disk_setByte_32 : decode b_Disk_setByte 32 = .ok (.getfield 15, 3) := by decide +kernel
theorem d_Disk_setByte_35 : decode b_Disk_setByte 35 = .ok (.iload_n 1, 1) := by decide +kernel
theorem d_Disk_setByte_36 : decode b_Disk_setByte 36 = .ok (.bipush 8, 2) := by decide +kernel
theorem d_Disk_setByte_38 : decode b_Disk_setByte 38 = .ok (.idiv, 1) := by decide +kernel
theorem d_Disk_setByte_39 : decode b_Disk_setByte 39 = .ok (.laload, 1) := by decide +kernel
theorem d_Disk_setByte_40 : decode b_Disk_setByte 40 = .ok (.ldc2_w 50, 3) := by decide +kernel
theorem d_Disk_setByte_43 : decode b_Disk_setByte 43 = .ok (.iload_n 3, 1) := by decide +kernel
theorem d_Disk_setByte_44 : decode b_Disk_setByte 44 = .ok (.lshl, 1) := by decide +kernel
theorem d_Disk_setByte_45 : decode b_Disk_setByte 45 = .ok (.ldc2_w 52, 3) := by decide +kernel
theorem d_Disk_setByte_48 : decode b_Disk_setByte 48 = .ok (.lxor, 1) := by decide +kernel
theorem d_Disk_setByte_49 : decode b_Disk_setByte 49 = .ok (.land, 1) := by decide +kernel
theorem d_Disk_setByte_50 : decode b_Disk_setByte 50 = .ok (.lstore 4, 2) := by decide +kernel
theorem d_Disk_setByte_52 : decode b_Disk_setByte 52 = .ok (.aload_n 0, 1) := by decide +kernel
theorem d_Disk_setByte_53 : decode b_Disk_setByte 53 = .ok (.getfield 15, 3) := by decide +kernel
theorem d_Disk_setByte_56 : decode b_Disk_setByte 56 = .ok (.iload_n 1, 1) := by decide +kernel
theorem d_Disk_setByte_57 : decode b_Disk_setByte 57 = .ok (.bipush 8, 2) := by decide +kernel
theorem d_Disk_setByte_59 : decode b_Disk_setByte 59 = .ok (.idiv, 1) := by decide +kernel
theorem d_Disk_setByte_60 : decode b_Disk_setByte 60 = .ok (.lload 4, 2) := by decide +kernel
theorem d_Disk_setByte_62 : decode b_Disk_setByte 62 = .ok (.iload_n 2, 1) := by decide +kernel
theorem d_Disk_setByte_63 : decode b_Disk_setByte 63 = .ok (.i2l, 1) := by decide +kernel
theorem d_Disk_setByte_64 : decode b_Disk_setByte 64 = .ok (.ldc2_w 50, 3) := by decide +kernel
theorem d_Disk_setByte_67 : decode b_Disk_setByte 67 = .ok (.land, 1) := by decide +kernel
theorem d_Disk_setByte_68 : decode b_Disk_setByte 68 = .ok (.iload_n 3, 1) := by decide +kernel
theorem d_Disk_setByte_69 : decode b_Disk_setByte 69 = .ok (.lshl, 1) := by decide +kernel
theorem d_Disk_setByte_70 : decode b_Disk_setByte 70 = .ok (.lor, 1) := by decide +kernel
theorem d_Disk_setByte_71 : decode b_Disk_setByte 71 = .ok (.lastore, 1) := by decide +kernel
theorem d_Disk_setByte_72 : decode b_Disk_setByte 72 = .ok (.return_, 1) := by decide +kernel
set_option maxHeartbeats 4000000 in
set_option maxRecDepth 100000 in
theorem c_Disk_setByte (l : Launch) (D : va_G) (g : Nat → Nat) (k : Nat → ClassId) (L : Nat) (hL0 : 96 ≤ L) (hL : L ≤ 768) (u : DSt) (x v : Int32) : MuV l y_Disk_setByte w_Disk_setByte ({ frames := 2, cells := 0, slots := 0, locals := 81 }) [.ref (g 0), .int (x), .int (v)] D cl5 (tyC k) (wD g k L u) (wD g k L (setB L u x v)) := by
  intro sz
  refine Met.ofW (cc := b_Disk_setByte) (maxL := 6) (ret := none) (by decide) rfl ?_
  intro p e s m args below meth c s₁ B hml hv
  obtain ⟨rfl, hsz, hP, hK, hD0⟩ := hv
  have hx := B.exec
  have hb := B.bytes
  have hr := B.returns
  have hts := atoms_spec (ws := w_Disk_setByte) B.pre
  have hTB : ∀ w ∈ lw_tb, w.before _ s = true := fun w h => hts w (List.mem_cons_of_mem _ h)
  have hown : s.vm.findClass R_Disk = some m.cls := findClass_of_methodNamed B.named
  have hlocks := B.notSynchronized
  subst hsz
  have hD := hD0.self (sz := s.heap.size)
  generalize hAe : va_A (wD g k L u) s.heap.size = A at hD ⊢
  have hA : ∀ q : Nat, s.heap.size ≤ q → A q := fun q h => by rw [← hAe]; exact Or.inr h
  have hS : va_S A s.heap s.heap [] := va_S.rf
  have hl := lv_entry ([.ref (g 0), .int (x), .int (v)]) (n := 6) (Nat.le_of_ble_eq_true rfl)
  rw [lg_entry_eq]
  generalize (lg_sl ([.ref (g 0), .int (x), .int (v)]) ++ List.replicate (6 - (lg_sl ([.ref (g 0), .int (x), .int (v)])).length) Slot.unset).toArray = ls at hl ⊢
  have hl : lv_has ls 6 [(0, .ref (g 0)), (1, .int (x)), (2, .int (v))] := hl
  refine lv_iload_n hx hb d_Disk_setByte_0 rfl (lv_at hl 1 rfl) ?_
  refine lv_if_lt (tgt := 72) hx hb d_Disk_setByte_1 (by decide) (fun h1 => ?_) (fun h1 => ?_)
  · have hP9 : va_P D cl5 (wD g k L (setB L u x v)) s.heap := (by rw [setB_lo h1]; exact hP)
    have hD9 : va_D A (wD g k L (setB L u x v)) := (by rw [setB_lo h1]; exact hD)
    exact W.vret hx hb hr (fun tt9 ht9 hW9 => ⟨⟨(), rfl, trivial, ⟨by rw [ht9]; exact hP9, hD9⟩⟩, hS.F ht9⟩) hS.2.2 d_Disk_setByte_72
  · obtain ⟨q, hq, rfl⟩ := nI_of h1
    refine lv_iload_n hx hb d_Disk_setByte_4 rfl (lv_at hl 1 rfl) ?_
    refine lv_aload_n hx hb d_Disk_setByte_5 rfl (lv_at hl 0 rfl) ?_
    refine va_get (D := D) (ci := 1) (v := .int (nI L)) (C := R_Disk) (T := T_Disk) (N := 7) hx hb hTB in_Disk hown hK hP 0 rfl rfl 0 (by decide) (hTB _ k_92) (fun _ h9 => h9) rfl d_Disk_setByte_6 ?_
    refine lv_bipush (v := nI 64) hx hb d_Disk_setByte_9 (by decide +kernel) ?_
    refine gz_imul hx hb d_Disk_setByte_11 ?_
    refine gz_icmp_ge (tgt := 72) hx hb d_Disk_setByte_12 (by decide) (by omega) (by omega) (fun h12 => ?_) (fun h12 => ?_)
    · have hP9 : va_P D cl5 (wD g k L (setB L u (nI q) v)) s.heap := (by rw [setB_hi h12 (by omega)]; exact hP)
      have hD9 : va_D A (wD g k L (setB L u (nI q) v)) := (by rw [setB_hi h12 (by omega)]; exact hD)
      exact W.vret hx hb hr (fun tt9 ht9 hW9 => ⟨⟨(), rfl, trivial, ⟨by rw [ht9]; exact hP9, hD9⟩⟩, hS.F ht9⟩) hS.2.2 d_Disk_setByte_72
    · refine lv_aload_n hx hb d_Disk_setByte_15 rfl (lv_at hl 0 rfl) ?_
      refine lv_iload_n hx hb d_Disk_setByte_16 rfl (lv_at hl 1 rfl) ?_
      refine lv_bipush (v := nI 64) hx hb d_Disk_setByte_17 (by decide +kernel) ?_
      refine gz_idiv hx hb d_Disk_setByte_19 (by omega) (by decide) (by decide) ?_
      refine gz_muV (As := [.int (nI (q / 64))]) (rest := []) (wc := (wD g k L u)) (w1 := (wD g k L (tch u (q / 64)))) (wr := ([])) ⟨hx, hb, hml, hown, hTB⟩ (c_Disk_touch l D g k L hL0 hL u (q / 64) (by omega)) (cwV 1 hTB (gd_V k_82 k_84 k_1 k_52 k_85) rfl rfl rfl (by decide +kernel) ⟨Nat.le_of_ble_eq_true rfl, Nat.le_of_ble_eq_true rfl⟩) hK hP hD hA [0, 1, 2, 3, 4, 5] [] rfl rfl (by decide) rfl (by decide) (by decide) 0 rfl rfl rfl hl.1 rfl (Nat.le_of_ble_eq_true rfl) d_Disk_setByte_20 ⟨Nat.zero_le _, Nat.zero_le _⟩ hS (fun H locs hP hD hS => ?_)
      have hP : va_P D cl5 (wD g k L (tch u (q / 64))) H := hP
      have hD : va_D A (wD g k L (tch u (q / 64))) := hD
      refine lv_iload_n hx hb d_Disk_setByte_23 rfl (lv_at hl 1 rfl) ?_
      refine lv_bipush (v := nI 8) hx hb d_Disk_setByte_24 (by decide +kernel) ?_
      refine gz_irem hx hb d_Disk_setByte_26 (by omega) (by decide) (by decide) ?_
      refine lv_bipush (v := nI 8) hx hb d_Disk_setByte_27 (by decide +kernel) ?_
      refine gz_imul hx hb d_Disk_setByte_29 ?_
      refine lv_istore_n (lv' := [(3, .int (nI ((q % 8) * 8))), (0, .ref (g 0)), (1, .int (nI q)), (2, .int (v))]) hx hb d_Disk_setByte_30 rfl hl (by decide) rfl (fun ls hl => ?_)
      refine lv_aload_n hx hb d_Disk_setByte_31 rfl (lv_at hl 1 rfl) ?_
      refine va_get (D := D) (ci := 1) (v := .ref (g 1)) (C := R_Disk) (T := T_Disk) (N := 7) hx hb hTB in_Disk hown hK hP 0 rfl rfl 1 (by decide) (hTB _ k_93) (fun _ h9 => h9) rfl d_Disk_setByte_32 ?_
      refine lv_iload_n hx hb d_Disk_setByte_35 rfl (lv_at hl 2 rfl) ?_
      refine lv_bipush (v := nI 8) hx hb d_Disk_setByte_36 (by decide +kernel) ?_
      refine gz_idiv hx hb d_Disk_setByte_38 (by omega) (by decide) (by decide) ?_
      refine gz_lald hx hb hK hP 1 0 rfl rfl (i := q / 8) (by omega) (by omega) d_Disk_setByte_39 ?_
      refine lv_ldc2 (v := 255) hx hb hown (hTB _ k_154) d_Disk_setByte_40 ?_
      refine lv_iload_n hx hb d_Disk_setByte_43 rfl (lv_at hl 0 rfl) ?_
      refine lv_lshl hx hb d_Disk_setByte_44 rfl ?_
      refine lv_ldc2 (v := (-1)) hx hb hown (hTB _ k_155) d_Disk_setByte_45 ?_
      refine lv_lxor hx hb d_Disk_setByte_48 ?_
      refine lv_land hx hb d_Disk_setByte_49 ?_
      refine lv_lstore (lv' := [(4, .long ((dNow (tch u (q / 64)) (q / 8)) &&& ((255 <<< ((nI ((q % 8) * 8)).toInt64 &&& 63)) ^^^ ((-1))))), (3, .int (nI ((q % 8) * 8))), (0, .ref (g 0)), (1, .int (nI q)), (2, .int (v))]) hx hb d_Disk_setByte_50 hl (by decide) rfl (fun ls hl => ?_)
      refine lv_aload_n hx hb d_Disk_setByte_52 rfl (lv_at hl 2 rfl) ?_
      refine va_get (D := D) (ci := 1) (v := .ref (g 1)) (C := R_Disk) (T := T_Disk) (N := 7) hx hb hTB in_Disk hown hK hP 0 rfl rfl 1 (by decide) (hTB _ k_93) (fun _ h9 => h9) rfl d_Disk_setByte_53 ?_
      refine lv_iload_n hx hb d_Disk_setByte_56 rfl (lv_at hl 3 rfl) ?_
      refine lv_bipush (v := nI 8) hx hb d_Disk_setByte_57 (by decide +kernel) ?_
      refine gz_idiv hx hb d_Disk_setByte_59 (by omega) (by decide) (by decide) ?_
      refine lv_lload hx hb d_Disk_setByte_60 (lv_at hl 0 rfl) ?_
      refine lv_iload_n hx hb d_Disk_setByte_62 rfl (lv_at hl 4 rfl) ?_
      refine lv_i2l hx hb d_Disk_setByte_63 rfl ?_
      refine lv_ldc2 (v := 255) hx hb hown (hTB _ k_154) d_Disk_setByte_64 ?_
      refine lv_land hx hb d_Disk_setByte_67 ?_
      refine lv_iload_n hx hb d_Disk_setByte_68 rfl (lv_at hl 1 rfl) ?_
      refine lv_lshl hx hb d_Disk_setByte_69 rfl ?_
      refine lv_lor hx hb d_Disk_setByte_70 ?_
      refine gz_last hx hb hK hP hD hS 1 0 rfl rfl (i := q / 8) (by omega) (by omega) d_Disk_setByte_71 (fun H locs hP hD hS => ?_)
      have hP : va_P D cl5 (wD g k L (sNow (tch u (q / 64)) (va_up (dNow (tch u (q / 64))) (q / 8) (((dNow (tch u (q / 64)) (q / 8)) &&& ((255 <<< ((nI ((q % 8) * 8)).toInt64 &&& 63)) ^^^ ((-1)))) ||| ((((v).toInt64) &&& 255) <<< ((nI ((q % 8) * 8)).toInt64 &&& 63)))))) H := hP
      have hD : va_D A (wD g k L (sNow (tch u (q / 64)) (va_up (dNow (tch u (q / 64))) (q / 8) (((dNow (tch u (q / 64)) (q / 8)) &&& ((255 <<< ((nI ((q % 8) * 8)).toInt64 &&& 63)) ^^^ ((-1)))) ||| ((((v).toInt64) &&& 255) <<< ((nI ((q % 8) * 8)).toInt64 &&& 63)))))) := hD
      have hP9 : va_P D cl5 (wD g k L (setB L u (nI q) v)) H := (by rw [setB_in h12 hL]; unfold stB stL; rw [← tch_now u (q / 64)]; exact hP)
      have hD9 : va_D A (wD g k L (setB L u (nI q) v)) := (by rw [setB_in h12 hL]; unfold stB stL; rw [← tch_now u (q / 64)]; exact hD)
      exact W.vret hx hb hr (fun tt9 ht9 hW9 => ⟨⟨(), rfl, trivial, ⟨by rw [ht9]; exact hP9, hD9⟩⟩, hS.F ht9⟩) hS.2.2 d_Disk_setByte_72
theorem d_Disk_setPair_0 : decode b_Disk_setPair 0 = .ok (.aload_n 0, 1) := by decide +kernel
theorem d_Disk_setPair_1 : decode b_Disk_setPair 1 = .ok (.iload_n 1, 1) := by decide +kernel
theorem d_Disk_setPair_2 : decode b_Disk_setPair 2 = .ok (.iload_n 2, 1) := by decide +kernel
theorem d_Disk_setPair_3 : decode b_Disk_setPair 3 = .ok (.invokevirtual 54, 3) := by decide +kernel
theorem d_Disk_setPair_6 : decode b_Disk_setPair 6 = .ok (.aload_n 0, 1) := by decide +kernel
theorem d_Disk_setPair_7 : decode b_Disk_setPair 7 = .ok (.iload_n 1, 1) := by decide +kernel
theorem d_Disk_setPair_8 : decode b_Disk_setPair 8 = .ok (.iconst 1, 1) := by decide +kernel
theorem d_Disk_setPair_9 : decode b_Disk_setPair 9 = .ok (.iadd, 1) := by decide +kernel
theorem d_Disk_setPair_10 : decode b_Disk_setPair 10 = .ok (.iload_n 2, 1) := by decide +kernel
theorem d_Disk_setPair_11 : decode b_Disk_setPair 11 = .ok (.bipush 8, 2) := by decide +kernel
theorem d_Disk_setPair_13 : decode b_Disk_setPair 13 = .ok (.iushr, 1) := by decide +kernel
theorem d_Disk_setPair_14 : decode b_Disk_setPair 14 = .ok (.invokevirtual 54, 3) := by decide +kernel
theorem d_Disk_setPair_17 : decode b_Disk_setPair 17 = .ok (.return_, 1) := by decide +kernel
set_option maxHeartbeats 4000000 in
set_option maxRecDepth 100000 in
theorem c_Disk_setPair (l : Launch) (D : va_G) (g : Nat → Nat) (k : Nat → ClassId) (L : Nat) (hL0 : 96 ≤ L) (hL : L ≤ 768) (u : DSt) (x v : Int32) : MuV l y_Disk_setPair w_Disk_setPair ({ frames := 3, cells := 0, slots := 0, locals := 106 }) [.ref (g 0), .int (x), .int (v)] D cl5 (tyC k) (wD g k L u) (wD g k L (setP L u x v)) := by
  intro sz
  refine Met.ofW (cc := b_Disk_setPair) (maxL := 3) (ret := none) (by decide) rfl ?_
  intro p e s m args below meth c s₁ B hml hv
  obtain ⟨rfl, hsz, hP, hK, hD0⟩ := hv
  have hx := B.exec
  have hb := B.bytes
  have hr := B.returns
  have hts := atoms_spec (ws := w_Disk_setPair) B.pre
  have hTB : ∀ w ∈ lw_tb, w.before _ s = true := fun w h => hts w (List.mem_cons_of_mem _ h)
  have hown : s.vm.findClass R_Disk = some m.cls := findClass_of_methodNamed B.named
  have hlocks := B.notSynchronized
  subst hsz
  have hD := hD0.self (sz := s.heap.size)
  generalize hAe : va_A (wD g k L u) s.heap.size = A at hD ⊢
  have hA : ∀ q : Nat, s.heap.size ≤ q → A q := fun q h => by rw [← hAe]; exact Or.inr h
  have hS : va_S A s.heap s.heap [] := va_S.rf
  have hl := lv_entry ([.ref (g 0), .int (x), .int (v)]) (n := 3) (Nat.le_of_ble_eq_true rfl)
  rw [lg_entry_eq]
  generalize (lg_sl ([.ref (g 0), .int (x), .int (v)]) ++ List.replicate (3 - (lg_sl ([.ref (g 0), .int (x), .int (v)])).length) Slot.unset).toArray = ls at hl ⊢
  have hl : lv_has ls 3 [(0, .ref (g 0)), (1, .int (x)), (2, .int (v))] := hl
  refine lv_aload_n hx hb d_Disk_setPair_0 rfl (lv_at hl 0 rfl) ?_
  refine lv_iload_n hx hb d_Disk_setPair_1 rfl (lv_at hl 1 rfl) ?_
  refine lv_iload_n hx hb d_Disk_setPair_2 rfl (lv_at hl 2 rfl) ?_
  refine gz_muV (As := [.int (x), .int (v)]) (rest := []) (wc := (wD g k L u)) (w1 := (wD g k L (setB L u x v))) (wr := ([])) ⟨hx, hb, hml, hown, hTB⟩ (c_Disk_setByte l D g k L hL0 hL u x v) (cwV 2 hTB (gd_V k_416 k_151 k_152 k_52 k_153) rfl rfl rfl (by decide +kernel) ⟨Nat.le_of_ble_eq_true rfl, Nat.le_of_ble_eq_true rfl⟩) hK hP hD hA [0, 1, 2, 3, 4, 5] [] rfl rfl (by decide) rfl (by decide) (by decide) 0 rfl rfl rfl hl.1 rfl (Nat.le_of_ble_eq_true rfl) d_Disk_setPair_3 ⟨Nat.zero_le _, Nat.zero_le _⟩ hS (fun H locs hP hD hS => ?_)
  have hP : va_P D cl5 (wD g k L (setB L u x v)) H := hP
  have hD : va_D A (wD g k L (setB L u x v)) := hD
  refine lv_aload_n hx hb d_Disk_setPair_6 rfl (lv_at hl 0 rfl) ?_
  refine lv_iload_n hx hb d_Disk_setPair_7 rfl (lv_at hl 1 rfl) ?_
  refine lv_iconst (v := nI 1) hx hb d_Disk_setPair_8 (by decide +kernel) ?_
  refine lv_iadd hx hb d_Disk_setPair_9 ?_
  refine lv_iload_n hx hb d_Disk_setPair_10 rfl (lv_at hl 2 rfl) ?_
  refine lv_bipush (v := nI 8) hx hb d_Disk_setPair_11 (by decide +kernel) ?_
  refine lv_iushr hx hb d_Disk_setPair_13 rfl ?_
  refine gz_muV (As := [.int (x + (nI 1)), .int (((v).toUInt32 >>> ((nI 8).toUInt32 &&& Int32.toUInt32 31)).toInt32)]) (rest := []) (wc := (wD g k L (setB L u x v))) (w1 := (wD g k L (setB L (setB L u x v) (x + (nI 1)) (((v).toUInt32 >>> ((nI 8).toUInt32 &&& Int32.toUInt32 31)).toInt32)))) (wr := ([])) ⟨hx, hb, hml, hown, hTB⟩ (c_Disk_setByte l D g k L hL0 hL (setB L u x v) (x + (nI 1)) (((v).toUInt32 >>> ((nI 8).toUInt32 &&& Int32.toUInt32 31)).toInt32)) (cwV 2 hTB (gd_V k_416 k_151 k_152 k_52 k_153) rfl rfl rfl (by decide +kernel) ⟨Nat.le_of_ble_eq_true rfl, Nat.le_of_ble_eq_true rfl⟩) hK hP hD hA [0, 1, 2, 3, 4, 5] [] rfl rfl (by decide) rfl (by decide) (by decide) 0 rfl rfl rfl hl.1 rfl (Nat.le_of_ble_eq_true rfl) d_Disk_setPair_14 ⟨Nat.zero_le _, Nat.zero_le _⟩ hS (fun H locs hP hD hS => ?_)
  have hP : va_P D cl5 (wD g k L (setB L (setB L u x v) (x + (nI 1)) (((v).toUInt32 >>> ((nI 8).toUInt32 &&& Int32.toUInt32 31)).toInt32))) H := hP
  have hD : va_D A (wD g k L (setB L (setB L u x v) (x + (nI 1)) (((v).toUInt32 >>> ((nI 8).toUInt32 &&& Int32.toUInt32 31)).toInt32))) := hD
  have hP9 : va_P D cl5 (wD g k L (setP L u x v)) H := hP
  have hD9 : va_D A (wD g k L (setP L u x v)) := hD
  exact W.vret hx hb hr (fun tt9 ht9 hW9 => ⟨⟨(), rfl, trivial, ⟨by rw [ht9]; exact hP9, hD9⟩⟩, hS.F ht9⟩) hS.2.2 d_Disk_setPair_17
theorem d_Disk_flipMapBit_0 : decode b_Disk_flipMapBit 0 = .ok (.aload_n 0, 1) := by decide +kernel
theorem d_Disk_flipMapBit_1 : decode b_Disk_flipMapBit 1 = .ok (.bipush 57, 2) := by decide +kernel
theorem d_Disk_flipMapBit_3 : decode b_Disk_flipMapBit 3 = .ok (.iload_n 1, 1) := by decide +kernel
theorem d_Disk_flipMapBit_4 : decode b_Disk_flipMapBit 4 = .ok (.sipush 512, 3) := by decide +kernel
theorem d_Disk_flipMapBit_7 : decode b_Disk_flipMapBit 7 = .ok (.idiv, 1) := by decide +kernel
theorem d_Disk_flipMapBit_8 : decode b_Disk_flipMapBit 8 = .ok (.iadd, 1) := by decide +kernel
theorem d_Disk_flipMapBit_9 : decode b_Disk_flipMapBit 9 = .ok (.invokevirtual 47, 3) := by decide +kernel
theorem d_Disk_flipMapBit_12 : decode b_Disk_flipMapBit 12 = .ok (.aload_n 0, 1) := by decide +kernel
theorem d_Disk_flipMapBit_13 : decode b_Disk_flipMapBit 13 = .ok (.getfield 15, 3) := by decide +kernel
theorem d_Disk_flipMapBit_16 : decode b_Disk_flipMapBit 16 = .ok (.iload_n 1, 1) := by decide +kernel
theorem d_Disk_flipMapBit_17 : decode b_Disk_flipMapBit 17 = .ok (.invokestatic 58, 3) := by decide +kernel
theorem d_Disk_flipMapBit_20 : decode b_Disk_flipMapBit 20 = .ok (.dup2, 1) := by decide +kernel
theorem d_Disk_flipMapBit_21 : decode b_Disk_flipMapBit 21 = .ok (.laload, 1) := by decide +kernel
theorem d_Disk_flipMapBit_22 : decode b_Disk_flipMapBit 22 = .ok (.lconst 1, 1) := by decide +kernel
theorem d_Disk_flipMapBit_23 : decode b_Disk_flipMapBit 23 = .ok (.iload_n 1, 1) := by decide +kernel
theorem d_Disk_flipMapBit_24 : decode b_Disk_flipMapBit 24 = .ok (.bipush 64, 2) := by decide +kernel
theorem d_Disk_flipMapBit_26 : decode b_Disk_flipMapBit 26 = .ok (.irem, 1) := by decide +kernel
theorem d_Disk_flipMapBit_27 : decode b_Disk_flipMapBit 27 = .ok (.lshl, 1) := by decide +kernel
theorem d_Disk_flipMapBit_28 : decode b_Disk_flipMapBit 28 = .ok (.lxor, 1) := by decide +kernel
theorem d_Disk_flipMapBit_29 : decode b_Disk_flipMapBit 29 = .ok (.lastore, 1) := by decide +kernel
theorem d_Disk_flipMapBit_30 : decode b_Disk_flipMapBit 30 = .ok (.return_, 1) := by decide +kernel
set_option maxHeartbeats 4000000 in
set_option maxRecDepth 100000 in
theorem c_Disk_flipMapBit (l : Launch) (D : va_G) (g : Nat → Nat) (k : Nat → ClassId) (L : Nat) (hL0 : 96 ≤ L) (hL : L ≤ 768) (u : DSt) (b : Nat) (hb0 : b < L) : MuV l y_Disk_flipMapBit w_Disk_flipMapBit ({ frames := 2, cells := 0, slots := 0, locals := 81 }) [.ref (g 0), .int (nI b)] D cl5 (tyC k) (wD g k L u) (wD g k L (flp u b)) := by
  intro sz
  refine Met.ofW (cc := b_Disk_flipMapBit) (maxL := 2) (ret := none) (by decide) rfl ?_
  intro p e s m args below meth c s₁ B hml hv
  obtain ⟨rfl, hsz, hP, hK, hD0⟩ := hv
  have hx := B.exec
  have hb := B.bytes
  have hr := B.returns
  have hts := atoms_spec (ws := w_Disk_flipMapBit) B.pre
  have hTB : ∀ w ∈ lw_tb, w.before _ s = true := fun w h => hts w (List.mem_cons_of_mem _ h)
  have hown : s.vm.findClass R_Disk = some m.cls := findClass_of_methodNamed B.named
  have hlocks := B.notSynchronized
  subst hsz
  have hD := hD0.self (sz := s.heap.size)
  generalize hAe : va_A (wD g k L u) s.heap.size = A at hD ⊢
  have hA : ∀ q : Nat, s.heap.size ≤ q → A q := fun q h => by rw [← hAe]; exact Or.inr h
  have hS : va_S A s.heap s.heap [] := va_S.rf
  have hl := lv_entry ([.ref (g 0), .int (nI b)]) (n := 2) (Nat.le_of_ble_eq_true rfl)
  rw [lg_entry_eq]
  generalize (lg_sl ([.ref (g 0), .int (nI b)]) ++ List.replicate (2 - (lg_sl ([.ref (g 0), .int (nI b)])).length) Slot.unset).toArray = ls at hl ⊢
  have hl : lv_has ls 2 [(0, .ref (g 0)), (1, .int (nI b))] := hl
  refine lv_aload_n hx hb d_Disk_flipMapBit_0 rfl (lv_at hl 0 rfl) ?_
  refine lv_bipush (v := nI 57) hx hb d_Disk_flipMapBit_1 (by decide +kernel) ?_
  refine lv_iload_n hx hb d_Disk_flipMapBit_3 rfl (lv_at hl 1 rfl) ?_
  refine lv_sipush (v := nI 512) hx hb d_Disk_flipMapBit_4 (by decide +kernel) ?_
  refine gz_idiv hx hb d_Disk_flipMapBit_7 (by omega) (by decide) (by decide) ?_
  refine gz_iadd hx hb d_Disk_flipMapBit_8 ?_
  refine gz_muV (As := [.int (nI (57 + (b / 512)))]) (rest := []) (wc := (wD g k L u)) (w1 := (wD g k L (tch u (57 + (b / 512))))) (wr := ([])) ⟨hx, hb, hml, hown, hTB⟩ (c_Disk_touch l D g k L hL0 hL u (57 + (b / 512)) (by omega)) (cwV 1 hTB (gd_V k_82 k_84 k_1 k_52 k_85) rfl rfl rfl (by decide +kernel) ⟨Nat.le_of_ble_eq_true rfl, Nat.le_of_ble_eq_true rfl⟩) hK hP hD hA [0, 1, 2, 3, 4, 5] [] rfl rfl (by decide) rfl (by decide) (by decide) 0 rfl rfl rfl hl.1 rfl (Nat.le_of_ble_eq_true rfl) d_Disk_flipMapBit_9 ⟨Nat.zero_le _, Nat.zero_le _⟩ hS (fun H locs hP hD hS => ?_)
  have hP : va_P D cl5 (wD g k L (tch u (57 + (b / 512)))) H := hP
  have hD : va_D A (wD g k L (tch u (57 + (b / 512)))) := hD
  refine lv_aload_n hx hb d_Disk_flipMapBit_12 rfl (lv_at hl 0 rfl) ?_
  refine va_get (D := D) (ci := 1) (v := .ref (g 1)) (C := R_Disk) (T := T_Disk) (N := 7) hx hb hTB in_Disk hown hK hP 0 rfl rfl 1 (by decide) (hTB _ k_93) (fun _ h9 => h9) rfl d_Disk_flipMapBit_13 ?_
  refine lv_iload_n hx hb d_Disk_flipMapBit_16 rfl (lv_at hl 1 rfl) ?_
  refine gz_roS (As := [.int (nI b)]) (rest := [.ref (g 1)]) ⟨hx, hb, hml, hown, hTB⟩ (c_Disk_mapLongOf l b (by omega)) (cwS 1 hTB (gd_S k_89 k_90 k_52 k_91) rfl rfl rfl (by decide +kernel) ⟨Nat.le_of_ble_eq_true rfl, Nat.le_of_ble_eq_true rfl⟩) hP rfl hl.1 rfl (Nat.le_of_ble_eq_true rfl) d_Disk_flipMapBit_17 ⟨Nat.zero_le _, Nat.zero_le _⟩ hS (fun H locs hP hS => ?_)
  refine lv_dup2_11 hx hb d_Disk_flipMapBit_20 rfl rfl ?_
  refine gz_lald hx hb hK hP 1 0 rfl rfl (i := 456 + b / 64) (by omega) (by omega) d_Disk_flipMapBit_21 ?_
  refine lv_lconst (v := 1) hx hb d_Disk_flipMapBit_22 (by decide +kernel) ?_
  refine lv_iload_n hx hb d_Disk_flipMapBit_23 rfl (lv_at hl 1 rfl) ?_
  refine lv_bipush (v := nI 64) hx hb d_Disk_flipMapBit_24 (by decide +kernel) ?_
  refine gz_irem hx hb d_Disk_flipMapBit_26 (by omega) (by decide) (by decide) ?_
  refine lv_lshl hx hb d_Disk_flipMapBit_27 rfl ?_
  refine lv_lxor hx hb d_Disk_flipMapBit_28 ?_
  refine gz_last hx hb hK hP hD hS 1 0 rfl rfl (i := 456 + b / 64) (by omega) (by omega) d_Disk_flipMapBit_29 (fun H locs hP hD hS => ?_)
  have hP : va_P D cl5 (wD g k L (sNow (tch u (57 + (b / 512))) (va_up (dNow (tch u (57 + (b / 512)))) (456 + b / 64) ((dNow (tch u (57 + (b / 512))) (456 + b / 64)) ^^^ (1 <<< ((nI (b % 64)).toInt64 &&& 63)))))) H := hP
  have hD : va_D A (wD g k L (sNow (tch u (57 + (b / 512))) (va_up (dNow (tch u (57 + (b / 512)))) (456 + b / 64) ((dNow (tch u (57 + (b / 512))) (456 + b / 64)) ^^^ (1 <<< ((nI (b % 64)).toInt64 &&& 63)))))) := hD
  have hP9 : va_P D cl5 (wD g k L (flp u b)) H := (by unfold flp; rw [← tch_now u (57 + b / 512)]; exact hP)
  have hD9 : va_D A (wD g k L (flp u b)) := (by unfold flp; rw [← tch_now u (57 + b / 512)]; exact hD)
  exact W.vret hx hb hr (fun tt9 ht9 hW9 => ⟨⟨(), rfl, trivial, ⟨by rw [ht9]; exact hP9, hD9⟩⟩, hS.F ht9⟩) hS.2.2 d_Disk_flipMapBit_30
theorem d_Disk_copyBlock_0 : decode b_Disk_copyBlock 0 = .ok (.aload_n 0, 1) := by decide +kernel
theorem d_Disk_copyBlock_1 : decode b_Disk_copyBlock 1 = .ok (.iload_n 2, 1) := by decide +kernel
theorem d_Disk_copyBlock_2 : decode b_Disk_copyBlock 2 = .ok (.bipush 8, 2) := by decide +kernel
theorem d_Disk_copyBlock_4 : decode b_Disk_copyBlock 4 = .ok (.imul, 1) := by decide +kernel
theorem d_Disk_copyBlock_5 : decode b_Disk_copyBlock 5 = .ok (.aload_n 1, 1) := by decide +kernel
theorem d_Disk_copyBlock_6 : decode b_Disk_copyBlock 6 = .ok (.iload_n 2, 1) := by decide +kernel
theorem d_Disk_copyBlock_7 : decode b_Disk_copyBlock 7 = .ok (.bipush 8, 2) := by decide +kernel
theorem d_Disk_copyBlock_9 : decode b_Disk_copyBlock 9 = .ok (.imul, 1) := by decide +kernel
theorem d_Disk_copyBlock_10 : decode b_Disk_copyBlock 10 = .ok (.bipush 8, 2) := by decide +kernel
theorem d_Disk_copyBlock_12 : decode b_Disk_copyBlock 12 = .ok (.invokestatic 85, 3) := by decide +kernel
theorem d_Disk_copyBlock_15 : decode b_Disk_copyBlock 15 = .ok (.return_, 1) := by decide +kernel
set_option maxHeartbeats 4000000 in
set_option maxRecDepth 100000 in
theorem c_Disk_copyBlock (l : Launch) (D : va_G) (a0 a1 : Nat) (k : Nat → ClassId) (L : Nat) (hL0 : 96 ≤ L) (hL : L ≤ 768) (f g : Nat → Int64) (b : Nat) (hb0 : b < L) : MuV l y_Disk_copyBlock w_Disk_copyBlock ({ frames := 1, cells := 0, slots := 0, locals := 60 }) [.ref a0, .ref a1, .int (nI b)] D cl5 (tyC k) (wA a0 a1 k L f g) (wA a0 a1 k L f (cpB f g b)) := by
  intro sz
  refine Met.ofW (cc := b_Disk_copyBlock) (maxL := 3) (ret := none) (by decide) rfl ?_
  intro p e s m args below meth c s₁ B hml hv
  obtain ⟨rfl, hsz, hP, hK, hD0⟩ := hv
  have hx := B.exec
  have hb := B.bytes
  have hr := B.returns
  have hts := atoms_spec (ws := w_Disk_copyBlock) B.pre
  have hTB : ∀ w ∈ lw_tb, w.before _ s = true := fun w h => hts w (List.mem_cons_of_mem _ h)
  have hown : s.vm.findClass R_Disk = some m.cls := findClass_of_methodNamed B.named
  have hlocks := B.notSynchronized
  subst hsz
  have hD := hD0.self (sz := s.heap.size)
  generalize hAe : va_A (wA a0 a1 k L f g) s.heap.size = A at hD ⊢
  have hA : ∀ q : Nat, s.heap.size ≤ q → A q := fun q h => by rw [← hAe]; exact Or.inr h
  have hS : va_S A s.heap s.heap [] := va_S.rf
  have hl := lv_entry ([.ref a0, .ref a1, .int (nI b)]) (n := 3) (Nat.le_of_ble_eq_true rfl)
  rw [lg_entry_eq]
  generalize (lg_sl ([.ref a0, .ref a1, .int (nI b)]) ++ List.replicate (3 - (lg_sl ([.ref a0, .ref a1, .int (nI b)])).length) Slot.unset).toArray = ls at hl ⊢
  have hl : lv_has ls 3 [(0, .ref a0), (1, .ref a1), (2, .int (nI b))] := hl
  refine lv_aload_n hx hb d_Disk_copyBlock_0 rfl (lv_at hl 0 rfl) ?_
  refine lv_iload_n hx hb d_Disk_copyBlock_1 rfl (lv_at hl 2 rfl) ?_
  refine lv_bipush (v := nI 8) hx hb d_Disk_copyBlock_2 (by decide +kernel) ?_
  refine gz_imul hx hb d_Disk_copyBlock_4 ?_
  refine lv_aload_n hx hb d_Disk_copyBlock_5 rfl (lv_at hl 1 rfl) ?_
  refine lv_iload_n hx hb d_Disk_copyBlock_6 rfl (lv_at hl 2 rfl) ?_
  refine lv_bipush (v := nI 8) hx hb d_Disk_copyBlock_7 (by decide +kernel) ?_
  refine gz_imul hx hb d_Disk_copyBlock_9 ?_
  refine lv_bipush (v := nI 8) hx hb d_Disk_copyBlock_10 (by decide +kernel) ?_
  refine gz_copyl hx hb (hml.trans hl.1.symm) hown (hTB _ k_86) (hTB _ k_88) (hTB _ k_87) (hTB _ k_53) hK hP hD hS 0 1 0 0 rfl rfl rfl rfl (by omega) (by omega) (by omega) (by omega) (Nat.le_of_ble_eq_true rfl) (by decide +kernel) d_Disk_copyBlock_12 (fun H locs hP hD hS => ?_)
  have hP : va_P D cl5 (wA a0 a1 k L f (va_cpy (f) (g) (b * 8) (b * 8) 8)) H := hP
  have hD : va_D A (wA a0 a1 k L f (va_cpy (f) (g) (b * 8) (b * 8) 8)) := hD
  have hP9 : va_P D cl5 (wA a0 a1 k L f (cpB f g b)) H := hP
  have hD9 : va_D A (wA a0 a1 k L f (cpB f g b)) := hD
  exact W.vret hx hb hr (fun tt9 ht9 hW9 => ⟨⟨(), rfl, trivial, ⟨by rw [ht9]; exact hP9, hD9⟩⟩, hS.F ht9⟩) hS.2.2 d_Disk_copyBlock_15
theorem d_Disk_takeBlock_0 : decode b_Disk_takeBlock 0 = .ok (.aload_n 0, 1) := by decide +kernel
theorem d_Disk_takeBlock_1 : decode b_Disk_takeBlock 1 = .ok (.iload_n 1, 1) := by decide +kernel
theorem d_Disk_takeBlock_2 : decode b_Disk_takeBlock 2 = .ok (.invokevirtual 61, 3) := by decide +kernel
theorem d_Disk_takeBlock_5 : decode b_Disk_takeBlock 5 = .ok (.ifCond .eq 39, 3) := by decide +kernel
theorem d_Disk_takeBlock_8 : decode b_Disk_takeBlock 8 = .ok (.aload_n 0, 1) := by decide +kernel
theorem d_Disk_takeBlock_9 : decode b_Disk_takeBlock 9 = .ok (.iload_n 1, 1) := by decide +kernel
theorem d_Disk_takeBlock_10 : decode b_Disk_takeBlock 10 = .ok (.invokevirtual 47, 3) := by decide +kernel
theorem d_Disk_takeBlock_13 : decode b_Disk_takeBlock 13 = .ok (.iconst 0, 1) := by decide +kernel
theorem d_Disk_takeBlock_14 : decode b_Disk_takeBlock 14 = .ok (.istore_n 2, 1) := by decide +kernel
theorem d_Disk_takeBlock_15 : decode b_Disk_takeBlock 15 = .ok (.iload_n 2, 1) := by decide +kernel
theorem d_Disk_takeBlock_16 : decode b_Disk_takeBlock 16 = .ok (.bipush 8, 2) := by decide +kernel
theorem d_Disk_takeBlock_18 : decode b_Disk_takeBlock 18 = .ok (.if_icmp .ge 21, 3) := by decide +kernel
theorem d_Disk_takeBlock_21 : decode b_Disk_takeBlock 21 = .ok (.aload_n 0, 1) := by decide +kernel
theorem d_Disk_takeBlock_22 : decode b_Disk_takeBlock 22 = .ok (.getfield 15, 3) := by decide +kernel
theorem d_Disk_takeBlock_25 : decode b_Disk_takeBlock 25 = .ok (.iload_n 1, 1) := by decide +kernel
theorem d_Disk_takeBlock_26 : decode b_Disk_takeBlock 26 = .ok (.bipush 8, 2) := by decide +kernel
theorem d_Disk_takeBlock_28 : decode b_Disk_takeBlock 28 = .ok (.imul, 1) := by decide +kernel
theorem d_Disk_takeBlock_29 : decode b_Disk_takeBlock 29 = .ok (.iload_n 2, 1) := by decide +kernel
theorem d_Disk_takeBlock_30 : decode b_Disk_takeBlock 30 = .ok (.iadd, 1) := by decide +kernel
theorem d_Disk_takeBlock_31 : decode b_Disk_takeBlock 31 = .ok (.lconst 0, 1) := by decide +kernel
theorem d_Disk_takeBlock_32 : decode b_Disk_takeBlock 32 = .ok (.lastore, 1) := by decide +kernel
theorem d_Disk_takeBlock_33 : decode b_Disk_takeBlock 33 = .ok (.iinc 2 1, 3) := by decide +kernel
theorem d_Disk_takeBlock_36 : decode b_Disk_takeBlock 36 = .ok (.goto (-21), 3) := by decide +kernel
theorem d_Disk_takeBlock_39 : decode b_Disk_takeBlock 39 = .ok (.aload_n 0, 1) := by decide +kernel
theorem d_Disk_takeBlock_40 : decode b_Disk_takeBlock 40 = .ok (.iload_n 1, 1) := by decide +kernel
theorem d_Disk_takeBlock_41 : decode b_Disk_takeBlock 41 = .ok (.invokevirtual 35, 3) := by decide +kernel
theorem d_Disk_takeBlock_44 : decode b_Disk_takeBlock 44 = .ok (.return_, 1) := by decide +kernel
set_option maxHeartbeats 4000000 in
set_option maxRecDepth 100000 in
theorem c_Disk_takeBlock (l : Launch) (D : va_G) (g : Nat → Nat) (k : Nat → ClassId) (L : Nat) (hL0 : 96 ≤ L) (hL : L ≤ 768) (u : DSt) (x : Int32) : MuV l y_Disk_takeBlock w_Disk_takeBlock ({ frames := 3, cells := 0, slots := 0, locals := 102 }) [.ref (g 0), .int (x)] D cl5 (tyC k) (wD g k L u) (wD g k L (tkB L u x)) := by
  intro sz
  refine Met.ofW (cc := b_Disk_takeBlock) (maxL := 3) (ret := none) (by decide) rfl ?_
  intro p e s m args below meth c s₁ B hml hv
  obtain ⟨rfl, hsz, hP, hK, hD0⟩ := hv
  have hx := B.exec
  have hb := B.bytes
  have hr := B.returns
  have hts := atoms_spec (ws := w_Disk_takeBlock) B.pre
  have hTB : ∀ w ∈ lw_tb, w.before _ s = true := fun w h => hts w (List.mem_cons_of_mem _ h)
  have hown : s.vm.findClass R_Disk = some m.cls := findClass_of_methodNamed B.named
  have hlocks := B.notSynchronized
  subst hsz
  have hD := hD0.self (sz := s.heap.size)
  generalize hAe : va_A (wD g k L u) s.heap.size = A at hD ⊢
  have hA : ∀ q : Nat, s.heap.size ≤ q → A q := fun q h => by rw [← hAe]; exact Or.inr h
  have hS : va_S A s.heap s.heap [] := va_S.rf
  have hl := lv_entry ([.ref (g 0), .int (x)]) (n := 3) (Nat.le_of_ble_eq_true rfl)
  rw [lg_entry_eq]
  generalize (lg_sl ([.ref (g 0), .int (x)]) ++ List.replicate (3 - (lg_sl ([.ref (g 0), .int (x)])).length) Slot.unset).toArray = ls at hl ⊢
  have hl : lv_has ls 3 [(0, .ref (g 0)), (1, .int (x))] := hl
  refine lv_aload_n hx hb d_Disk_takeBlock_0 rfl (lv_at hl 0 rfl) ?_
  refine lv_iload_n hx hb d_Disk_takeBlock_1 rfl (lv_at hl 1 rfl) ?_
  refine gz_roV (As := [.int (x)]) (rest := []) (wc := (wD g k L u)) ⟨hx, hb, hml, hown, hTB⟩ (c_Disk_isFree l D g k L hL0 hL u x) (cwV 1 hTB (gd_V k_175 k_176 k_177 k_52 k_178) rfl rfl rfl (by decide +kernel) ⟨Nat.le_of_ble_eq_true rfl, Nat.le_of_ble_eq_true rfl⟩) hK hP [0, 1, 2, 3, 4, 5] rfl 0 rfl rfl rfl hl.1 rfl (Nat.le_of_ble_eq_true rfl) d_Disk_takeBlock_2 ⟨Nat.zero_le _, Nat.zero_le _⟩ hS (fun H locs hP hS => ?_)
  refine gz_ifz_eq (tgt := 44) hx hb d_Disk_takeBlock_5 (by decide) (fun h5 => ?_) (fun h5 => ?_)
  · have hP9 : va_P D cl5 (wD g k L (tkB L u x)) H := (by rw [tkB_no h5]; exact hP)
    have hD9 : va_D A (wD g k L (tkB L u x)) := (by rw [tkB_no h5]; exact hD)
    exact W.vret hx hb hr (fun tt9 ht9 hW9 => ⟨⟨(), rfl, trivial, ⟨by rw [ht9]; exact hP9, hD9⟩⟩, hS.F ht9⟩) hS.2.2 d_Disk_takeBlock_44
  · obtain ⟨q, hq, rfl⟩ := hsB_of (frB_has h5) hL
    refine lv_aload_n hx hb d_Disk_takeBlock_8 rfl (lv_at hl 0 rfl) ?_
    refine lv_iload_n hx hb d_Disk_takeBlock_9 rfl (lv_at hl 1 rfl) ?_
    refine gz_muV (As := [.int (nI q)]) (rest := []) (wc := (wD g k L u)) (w1 := (wD g k L (tch u q))) (wr := ([])) ⟨hx, hb, hml, hown, hTB⟩ (c_Disk_touch l D g k L hL0 hL u q (by omega)) (cwV 1 hTB (gd_V k_82 k_84 k_1 k_52 k_85) rfl rfl rfl (by decide +kernel) ⟨Nat.le_of_ble_eq_true rfl, Nat.le_of_ble_eq_true rfl⟩) hK hP hD hA [0, 1, 2, 3, 4, 5] [] rfl rfl (by decide) rfl (by decide) (by decide) 0 rfl rfl rfl hl.1 rfl (Nat.le_of_ble_eq_true rfl) d_Disk_takeBlock_10 ⟨Nat.zero_le _, Nat.zero_le _⟩ hS (fun H locs hP hD hS => ?_)
    have hP : va_P D cl5 (wD g k L (tch u q)) H := hP
    have hD : va_D A (wD g k L (tch u q)) := hD
    refine lv_iconst (v := nI 0) hx hb d_Disk_takeBlock_13 (by decide +kernel) ?_
    refine lv_istore_n (lv' := [(2, .int (nI 0)), (0, .ref (g 0)), (1, .int (nI q))]) hx hb d_Disk_takeBlock_14 rfl hl (by decide) rfl (fun ls hl => ?_)
    have hP : va_P D cl5 (wD g k L (sNow (tch u q) (zrB (dNow u) q 0))) H := by rw [zrB_0, ← tch_now u q]; exact hP
    have hD : va_D A (wD g k L (sNow (tch u q) (zrB (dNow u) q 0))) := by rw [zrB_0, ← tch_now u q]; exact hD
    refine gz_loop 15 (fun (zz : Nat) H locs ls => match zz with | i => va_P D cl5 (wD g k L (sNow (tch u q) (zrB (dNow u) q i))) H ∧ va_D A (wD g k L (sNow (tch u q) (zrB (dNow u) q i))) ∧ va_S A s.heap H locs ∧ lv_has ls 3 [(0, .ref (g 0)), (1, .int (nI q)), (2, .int (nI i))] ∧ (i ≤ 8)) (fun (zz : Nat) => match zz with | i => 8 - i) (fun zz H locs ls hI ih15 => ?_) (0) ⟨hP, hD, hS, lv_sub hl [1, 2, 0] rfl, (by omega)⟩
    obtain ⟨i, rfl⟩ : ∃ z, z = zz := ⟨_, rfl⟩
    obtain ⟨hP, hD, hS, hl, hi1⟩ := hI
    refine lv_iload_n hx hb d_Disk_takeBlock_15 rfl (lv_at hl 2 rfl) ?_
    refine lv_bipush (v := nI 8) hx hb d_Disk_takeBlock_16 (by decide +kernel) ?_
    refine gz_icmp_ge (tgt := 39) hx hb d_Disk_takeBlock_18 (by decide) (by omega) (by omega) (fun h18 => ?_) (fun h18 => ?_)
    · obtain rfl : i = 8 := by omega
      have hl := lv_sub hl [0, 1] rfl
      refine lv_aload_n hx hb d_Disk_takeBlock_39 rfl (lv_at hl 0 rfl) ?_
      refine lv_iload_n hx hb d_Disk_takeBlock_40 rfl (lv_at hl 1 rfl) ?_
      refine gz_muV (As := [.int (nI q)]) (rest := []) (wc := (wD g k L (sNow (tch u q) (zrB (dNow u) q 8)))) (w1 := (wD g k L (flp (sNow (tch u q) (zrB (dNow u) q 8)) q))) (wr := ([])) ⟨hx, hb, hml, hown, hTB⟩ (c_Disk_flipMapBit l D g k L hL0 hL (sNow (tch u q) (zrB (dNow u) q 8)) q (by omega)) (cwV 1 hTB (gd_V k_78 k_80 k_0 k_52 k_81) rfl rfl rfl (by decide +kernel) ⟨Nat.le_of_ble_eq_true rfl, Nat.le_of_ble_eq_true rfl⟩) hK hP hD hA [0, 1, 2, 3, 4, 5] [] rfl rfl (by decide) rfl (by decide) (by decide) 0 rfl rfl rfl hl.1 rfl (Nat.le_of_ble_eq_true rfl) d_Disk_takeBlock_41 ⟨Nat.zero_le _, Nat.zero_le _⟩ hS (fun H locs hP hD hS => ?_)
      have hP : va_P D cl5 (wD g k L (flp (sNow (tch u q) (zrB (dNow u) q 8)) q)) H := hP
      have hD : va_D A (wD g k L (flp (sNow (tch u q) (zrB (dNow u) q 8)) q)) := hD
      have hP9 : va_P D cl5 (wD g k L (tkB L u (nI q))) H := (by rw [tkB_in h5 (by omega)]; exact hP)
      have hD9 : va_D A (wD g k L (tkB L u (nI q))) := (by rw [tkB_in h5 (by omega)]; exact hD)
      exact W.vret hx hb hr (fun tt9 ht9 hW9 => ⟨⟨(), rfl, trivial, ⟨by rw [ht9]; exact hP9, hD9⟩⟩, hS.F ht9⟩) hS.2.2 d_Disk_takeBlock_44
    · refine lv_aload_n hx hb d_Disk_takeBlock_21 rfl (lv_at hl 0 rfl) ?_
      refine va_get (D := D) (ci := 1) (v := .ref (g 1)) (C := R_Disk) (T := T_Disk) (N := 7) hx hb hTB in_Disk hown hK hP 0 rfl rfl 1 (by decide) (hTB _ k_93) (fun _ h9 => h9) rfl d_Disk_takeBlock_22 ?_
      refine lv_iload_n hx hb d_Disk_takeBlock_25 rfl (lv_at hl 1 rfl) ?_
      refine lv_bipush (v := nI 8) hx hb d_Disk_takeBlock_26 (by decide +kernel) ?_
      refine gz_imul hx hb d_Disk_takeBlock_28 ?_
      refine lv_iload_n hx hb d_Disk_takeBlock_29 rfl (lv_at hl 2 rfl) ?_
      refine gz_iadd hx hb d_Disk_takeBlock_30 ?_
      refine lv_lconst (v := 0) hx hb d_Disk_takeBlock_31 (by decide +kernel) ?_
      refine gz_last hx hb hK hP hD hS 1 0 rfl rfl (i := (q * 8) + i) (by omega) (by omega) d_Disk_takeBlock_32 (fun H locs hP hD hS => ?_)
      have hP : va_P D cl5 (wD g k L (sNow (sNow (tch u q) (zrB (dNow u) q i)) (va_up (dNow (sNow (tch u q) (zrB (dNow u) q i))) ((q * 8) + i) 0))) H := hP
      have hD : va_D A (wD g k L (sNow (sNow (tch u q) (zrB (dNow u) q i)) (va_up (dNow (sNow (tch u q) (zrB (dNow u) q i))) ((q * 8) + i) 0))) := hD
      refine lv_iinc (v := nI (i + 1)) (lv' := [(2, .int (nI (i + 1))), (0, .ref (g 0)), (1, .int (nI q))]) hx hb d_Disk_takeBlock_33 hl (k := 2) rfl (nI_add i 1) (by decide) rfl (fun ls hl => ?_)
      refine lv_goto (tgt := 15) hx hb d_Disk_takeBlock_36 (by decide) ?_
      have hP : va_P D cl5 (wD g k L (sNow (tch u q) (zrB (dNow u) q (i + 1)))) H := by rw [← zrB_s]; exact hP
      have hD : va_D A (wD g k L (sNow (tch u q) (zrB (dNow u) q (i + 1)))) := by rw [← zrB_s]; exact hD
      exact ih15 (i + 1) _ _ _ (by first | omega | (dsimp only; omega)) ⟨hP, hD, hS, lv_sub hl [1, 2, 0] rfl, (by omega)⟩
theorem d_Disk_giveBlockBack_0 : decode b_Disk_giveBlockBack 0 = .ok (.aload_n 0, 1) := by decide +kernel
theorem d_Disk_giveBlockBack_1 : decode b_Disk_giveBlockBack 1 = .ok (.iload_n 1, 1) := by decide +kernel
theorem d_Disk_giveBlockBack_2 : decode b_Disk_giveBlockBack 2 = .ok (.invokevirtual 39, 3) := by decide +kernel
theorem d_Disk_giveBlockBack_5 : decode b_Disk_giveBlockBack 5 = .ok (.ifCond .eq 33, 3) := by decide +kernel
theorem d_Disk_giveBlockBack_8 : decode b_Disk_giveBlockBack 8 = .ok (.aload_n 0, 1) := by decide +kernel
theorem d_Disk_giveBlockBack_9 : decode b_Disk_giveBlockBack 9 = .ok (.iload_n 1, 1) := by decide +kernel
theorem d_Disk_giveBlockBack_10 : decode b_Disk_giveBlockBack 10 = .ok (.invokevirtual 61, 3) := by decide +kernel
theorem d_Disk_giveBlockBack_13 : decode b_Disk_giveBlockBack 13 = .ok (.ifCond .ne 25, 3) := by decide +kernel
theorem d_Disk_giveBlockBack_16 : decode b_Disk_giveBlockBack 16 = .ok (.aload_n 0, 1) := by decide +kernel
theorem d_Disk_giveBlockBack_17 : decode b_Disk_giveBlockBack 17 = .ok (.iload_n 1, 1) := by decide +kernel
theorem d_Disk_giveBlockBack_18 : decode b_Disk_giveBlockBack 18 = .ok (.invokevirtual 47, 3) := by decide +kernel
theorem d_Disk_giveBlockBack_21 : decode b_Disk_giveBlockBack 21 = .ok (.aload_n 0, 1) := by decide +kernel
theorem d_Disk_giveBlockBack_22 : decode b_Disk_giveBlockBack 22 = .ok (.getfield 19, 3) := by decide +kernel
theorem d_Disk_giveBlockBack_25 : decode b_Disk_giveBlockBack 25 = .ok (.aload_n 0, 1) := by decide +kernel
theorem d_Disk_giveBlockBack_26 : decode b_Disk_giveBlockBack 26 = .ok (.getfield 15, 3) := by decide +kernel
theorem d_Disk_giveBlockBack_29 : decode b_Disk_giveBlockBack 29 = .ok (.iload_n 1, 1) := by decide +kernel
theorem d_Disk_giveBlockBack_30 : decode b_Disk_giveBlockBack 30 = .ok (.invokestatic 64, 3) := by decide +kernel
theorem d_Disk_giveBlockBack_33 : decode b_Disk_giveBlockBack 33 = .ok (.aload_n 0, 1) := by decide +kernel
theorem d_Disk_giveBlockBack_34 : decode b_Disk_giveBlockBack 34 = .ok (.iload_n 1, 1) := by decide +kernel
theorem d_Disk_giveBlockBack_35 : decode b_Disk_giveBlockBack 35 = .ok (.invokevirtual 35, 3) := by decide +kernel
theorem d_Disk_giveBlockBack_38 : decode b_Disk_giveBlockBack 38 = .ok (.return_, 1) := by decide +kernel
set_option maxHeartbeats 4000000 in
set_option maxRecDepth 100000 in
theorem c_Disk_giveBlockBack (l : Launch) (D : va_G) (g : Nat → Nat) (k : Nat → ClassId) (L : Nat) (hL0 : 96 ≤ L) (hL : L ≤ 768) (u : DSt) (x : Int32) : MuV l y_Disk_giveBlockBack w_Disk_giveBlockBack ({ frames := 3, cells := 0, slots := 0, locals := 102 }) [.ref (g 0), .int (x)] D cl5 (tyC k) (wD g k L u) (wD g k L (gvB L u x)) := by
  intro sz
  refine Met.ofW (cc := b_Disk_giveBlockBack) (maxL := 2) (ret := none) (by decide) rfl ?_
  intro p e s m args below meth c s₁ B hml hv
  obtain ⟨rfl, hsz, hP, hK, hD0⟩ := hv
  have hx := B.exec
  have hb := B.bytes
  have hr := B.returns
  have hts := atoms_spec (ws := w_Disk_giveBlockBack) B.pre
  have hTB : ∀ w ∈ lw_tb, w.before _ s = true := fun w h => hts w (List.mem_cons_of_mem _ h)
  have hown : s.vm.findClass R_Disk = some m.cls := findClass_of_methodNamed B.named
  have hlocks := B.notSynchronized
  subst hsz
  have hD := hD0.self (sz := s.heap.size)
  generalize hAe : va_A (wD g k L u) s.heap.size = A at hD ⊢
  have hA : ∀ q : Nat, s.heap.size ≤ q → A q := fun q h => by rw [← hAe]; exact Or.inr h
  have hS : va_S A s.heap s.heap [] := va_S.rf
  have hl := lv_entry ([.ref (g 0), .int (x)]) (n := 2) (Nat.le_of_ble_eq_true rfl)
  rw [lg_entry_eq]
  generalize (lg_sl ([.ref (g 0), .int (x)]) ++ List.replicate (2 - (lg_sl ([.ref (g 0), .int (x)])).length) Slot.unset).toArray = ls at hl ⊢
  have hl : lv_has ls 2 [(0, .ref (g 0)), (1, .int (x))] := hl
  refine lv_aload_n hx hb d_Disk_giveBlockBack_0 rfl (lv_at hl 0 rfl) ?_
  refine lv_iload_n hx hb d_Disk_giveBlockBack_1 rfl (lv_at hl 1 rfl) ?_
  refine gz_roV (As := [.int (x)]) (rest := []) (wc := (wD g k L u)) ⟨hx, hb, hml, hown, hTB⟩ (c_Disk_hasBlock l D g k L hL0 hL u x) (cwV 1 hTB (gd_V k_179 k_181 k_4 k_52 k_182) rfl rfl rfl (by decide +kernel) ⟨Nat.le_of_ble_eq_true rfl, Nat.le_of_ble_eq_true rfl⟩) hK hP [0, 1, 2, 3, 4, 5] rfl 0 rfl rfl rfl hl.1 rfl (Nat.le_of_ble_eq_true rfl) d_Disk_giveBlockBack_2 ⟨Nat.zero_le _, Nat.zero_le _⟩ hS (fun H locs hP hS => ?_)
  refine gz_ifz_eq (tgt := 38) hx hb d_Disk_giveBlockBack_5 (by decide) (fun h5 => ?_) (fun h5 => ?_)
  · have hP9 : va_P D cl5 (wD g k L (gvB L u x)) H := (by rw [gvB_no h5]; exact hP)
    have hD9 : va_D A (wD g k L (gvB L u x)) := (by rw [gvB_no h5]; exact hD)
    exact W.vret hx hb hr (fun tt9 ht9 hW9 => ⟨⟨(), rfl, trivial, ⟨by rw [ht9]; exact hP9, hD9⟩⟩, hS.F ht9⟩) hS.2.2 d_Disk_giveBlockBack_38
  · obtain ⟨q, hq, rfl⟩ := hsB_of h5 hL
    refine lv_aload_n hx hb d_Disk_giveBlockBack_8 rfl (lv_at hl 0 rfl) ?_
    refine lv_iload_n hx hb d_Disk_giveBlockBack_9 rfl (lv_at hl 1 rfl) ?_
    refine gz_roV (As := [.int (nI q)]) (rest := []) (wc := (wD g k L u)) ⟨hx, hb, hml, hown, hTB⟩ (c_Disk_isFree l D g k L hL0 hL u (nI q)) (cwV 1 hTB (gd_V k_175 k_176 k_177 k_52 k_178) rfl rfl rfl (by decide +kernel) ⟨Nat.le_of_ble_eq_true rfl, Nat.le_of_ble_eq_true rfl⟩) hK hP [0, 1, 2, 3, 4, 5] rfl 0 rfl rfl rfl hl.1 rfl (Nat.le_of_ble_eq_true rfl) d_Disk_giveBlockBack_10 ⟨Nat.zero_le _, Nat.zero_le _⟩ hS (fun H locs hP hS => ?_)
    refine gz_ifz_ne (tgt := 38) hx hb d_Disk_giveBlockBack_13 (by decide) (fun h13 => ?_) (fun h13 => ?_)
    · have hP9 : va_P D cl5 (wD g k L (gvB L u (nI q))) H := (by rw [gvB_fr h13]; exact hP)
      have hD9 : va_D A (wD g k L (gvB L u (nI q))) := (by rw [gvB_fr h13]; exact hD)
      exact W.vret hx hb hr (fun tt9 ht9 hW9 => ⟨⟨(), rfl, trivial, ⟨by rw [ht9]; exact hP9, hD9⟩⟩, hS.F ht9⟩) hS.2.2 d_Disk_giveBlockBack_38
    · refine lv_aload_n hx hb d_Disk_giveBlockBack_16 rfl (lv_at hl 0 rfl) ?_
      refine lv_iload_n hx hb d_Disk_giveBlockBack_17 rfl (lv_at hl 1 rfl) ?_
      refine gz_muV (As := [.int (nI q)]) (rest := []) (wc := (wD g k L u)) (w1 := (wD g k L (tch u q))) (wr := ([])) ⟨hx, hb, hml, hown, hTB⟩ (c_Disk_touch l D g k L hL0 hL u q (by omega)) (cwV 1 hTB (gd_V k_82 k_84 k_1 k_52 k_85) rfl rfl rfl (by decide +kernel) ⟨Nat.le_of_ble_eq_true rfl, Nat.le_of_ble_eq_true rfl⟩) hK hP hD hA [0, 1, 2, 3, 4, 5] [] rfl rfl (by decide) rfl (by decide) (by decide) 0 rfl rfl rfl hl.1 rfl (Nat.le_of_ble_eq_true rfl) d_Disk_giveBlockBack_18 ⟨Nat.zero_le _, Nat.zero_le _⟩ hS (fun H locs hP hD hS => ?_)
      have hP : va_P D cl5 (wD g k L (tch u q)) H := hP
      have hD : va_D A (wD g k L (tch u q)) := hD
      refine lv_aload_n hx hb d_Disk_giveBlockBack_21 rfl (lv_at hl 0 rfl) ?_
      refine va_get (D := D) (ci := 1) (v := .ref (g 2)) (C := R_Disk) (T := T_Disk) (N := 7) hx hb hTB in_Disk hown hK hP 0 rfl rfl 2 (by decide) (hTB _ k_94) (fun _ h9 => h9) rfl d_Disk_giveBlockBack_22 ?_
      refine lv_aload_n hx hb d_Disk_giveBlockBack_25 rfl (lv_at hl 0 rfl) ?_
      refine va_get (D := D) (ci := 1) (v := .ref (g 1)) (C := R_Disk) (T := T_Disk) (N := 7) hx hb hTB in_Disk hown hK hP 0 rfl rfl 1 (by decide) (hTB _ k_93) (fun _ h9 => h9) rfl d_Disk_giveBlockBack_26 ?_
      refine lv_iload_n hx hb d_Disk_giveBlockBack_29 rfl (lv_at hl 1 rfl) ?_
      refine gz_muS (As := [.ref (g 2), .ref (g 1), .int (nI q)]) (rest := []) (wc := (wA (g 2) (g 1) k L (dCom (tch u q)) (dNow (tch u q)))) (w1 := (wA (g 2) (g 1) k L (dCom (tch u q)) (cpB (dCom (tch u q)) (dNow (tch u q)) q))) (wr := [(g 0, .inr (1, [.int (nI L), .ref (g 1), .ref (g 2), .ref (g 3), .ref (g 4), .ref (g 5), .int (dEa (tch u q))])), (g 3, .inl (k 0, L * 8, .inr (.inl (dBef (tch u q))))), (g 4, .inl (k 1, L, .inl (fun j => zI (dTou (tch u q) j)))), (g 5, .inl (k 1, L, .inl (fun j => zI (dDif (tch u q) j))))]) ⟨hx, hb, hml, hown, hTB⟩ (c_Disk_copyBlock l D (g 2) (g 1) k L hL0 hL (dCom (tch u q)) (dNow (tch u q)) q (by omega)) (cwS 3 hTB (gd_S k_172 k_173 k_52 k_174) rfl rfl rfl (by decide +kernel) ⟨Nat.le_of_ble_eq_true rfl, Nat.le_of_ble_eq_true rfl⟩) hK hP hD hA [2, 1] [0, 3, 4, 5] rfl rfl (by decide) rfl (by decide) (by decide) rfl hl.1 rfl (Nat.le_of_ble_eq_true rfl) d_Disk_giveBlockBack_30 ⟨Nat.zero_le _, Nat.zero_le _⟩ hS (fun H locs hP hD hS => ?_)
      have hP : va_P D cl5 (wD g k L (sNow (tch u q) (cpB (dCom (tch u q)) (dNow (tch u q)) q))) H := hP.sub [0, 5, 4, 1, 2, 3] rfl
      have hD : va_D A (wD g k L (sNow (tch u q) (cpB (dCom (tch u q)) (dNow (tch u q)) q))) := hD.sub [0, 5, 4, 1, 2, 3] (by decide) rfl
      refine lv_aload_n hx hb d_Disk_giveBlockBack_33 rfl (lv_at hl 0 rfl) ?_
      refine lv_iload_n hx hb d_Disk_giveBlockBack_34 rfl (lv_at hl 1 rfl) ?_
      refine gz_muV (As := [.int (nI q)]) (rest := []) (wc := (wD g k L (sNow (tch u q) (cpB (dCom (tch u q)) (dNow (tch u q)) q)))) (w1 := (wD g k L (flp (sNow (tch u q) (cpB (dCom (tch u q)) (dNow (tch u q)) q)) q))) (wr := ([])) ⟨hx, hb, hml, hown, hTB⟩ (c_Disk_flipMapBit l D g k L hL0 hL (sNow (tch u q) (cpB (dCom (tch u q)) (dNow (tch u q)) q)) q (by omega)) (cwV 1 hTB (gd_V k_78 k_80 k_0 k_52 k_81) rfl rfl rfl (by decide +kernel) ⟨Nat.le_of_ble_eq_true rfl, Nat.le_of_ble_eq_true rfl⟩) hK hP hD hA [0, 1, 2, 3, 4, 5] [] rfl rfl (by decide) rfl (by decide) (by decide) 0 rfl rfl rfl hl.1 rfl (Nat.le_of_ble_eq_true rfl) d_Disk_giveBlockBack_35 ⟨Nat.zero_le _, Nat.zero_le _⟩ hS (fun H locs hP hD hS => ?_)
      have hP : va_P D cl5 (wD g k L (flp (sNow (tch u q) (cpB (dCom (tch u q)) (dNow (tch u q)) q)) q)) H := hP
      have hD : va_D A (wD g k L (flp (sNow (tch u q) (cpB (dCom (tch u q)) (dNow (tch u q)) q)) q)) := hD
      have hP9 : va_P D cl5 (wD g k L (gvB L u (nI q))) H := (by rw [gvB_in h5 h13 (by omega)]; unfold gvN; rw [← tch_now u q, ← tch_com u q]; exact hP)
      have hD9 : va_D A (wD g k L (gvB L u (nI q))) := (by rw [gvB_in h5 h13 (by omega)]; unfold gvN; rw [← tch_now u q, ← tch_com u q]; exact hD)
      exact W.vret hx hb hr (fun tt9 ht9 hW9 => ⟨⟨(), rfl, trivial, ⟨by rw [ht9]; exact hP9, hD9⟩⟩, hS.F ht9⟩) hS.2.2 d_Disk_giveBlockBack_38
theorem d_Disk_compare_0 : decode b_Disk_compare 0 = .ok (.iconst 0, 1) := by decide +kernel
theorem d_Disk_compare_1 : decode b_Disk_compare 1 = .ok (.istore_n 2, 1) := by decide +kernel
theorem d_Disk_compare_2 : decode b_Disk_compare 2 = .ok (.iconst 0, 1) := by decide +kernel
theorem d_Disk_compare_3 : decode b_Disk_compare 3 = .ok (.istore_n 3, 1) := by decide +kernel
theorem d_Disk_compare_4 : decode b_Disk_compare 4 = .ok (.iload_n 3, 1) := by decide +kernel
theorem d_Disk_compare_5 : decode b_Disk_compare 5 = .ok (.bipush 8, 2) := by decide +kernel
theorem d_Disk_compare_7 : decode b_Disk_compare 7 = .ok (.if_icmp .ge 45, 3) := by decide +kernel
theorem d_Disk_compare_10 : decode b_Disk_compare 10 = .ok (.iload_n 1, 1) := by decide +kernel
theorem d_Disk_compare_11 : decode b_Disk_compare 11 = .ok (.bipush 8, 2) := by decide +kernel
theorem d_Disk_compare_13 : decode b_Disk_compare 13 = .ok (.imul, 1) := by decide +kernel
theorem d_Disk_compare_14 : decode b_Disk_compare 14 = .ok (.iload_n 3, 1) := by decide +kernel
theorem d_Disk_compare_15 : decode b_Disk_compare 15 = .ok (.iadd, 1) := by decide +kernel
theorem d_Disk_compare_16 : decode b_Disk_compare 16 = .ok (.istore 4, 2) := by decide +kernel
theorem d_Disk_compare_18 : decode b_Disk_compare 18 = .ok (.iload_n 2, 1) := by decide +kernel
theorem d_Disk_compare_19 : decode b_Disk_compare 19 = .ok (.ifCond .ne 21, 3) := by decide +kernel
theorem d_Disk_compare_22 : decode b_Disk_compare 22 = .ok (.aload_n 0, 1) := by decide +kernel
theorem d_Disk_compare_23 : decode b_Disk_compare 23 = .ok (.getfield 15, 3) := by decide +kernel
theorem d_Disk_compare_26 : decode b_Disk_compare 26 = .ok (.iload 4, 2) := by decide +kernel
theorem d_Disk_compare_28 : decode b_Disk_compare 28 = .ok (.laload, 1) := by decide +kernel
theorem d_Disk_compare_29 : decode b_Disk_compare 29 = .ok (.aload_n 0, 1) := by decide +kernel
theorem d_Disk_compare_30 : decode b_Disk_compare 30 = .ok (.getfield 19, 3) := by decide +kernel
theorem d_Disk_compare_33 : decode b_Disk_compare 33 = .ok (.iload 4, 2) := by decide +kernel
theorem d_Disk_compare_35 : decode b_Disk_compare 35 = .ok (.laload, 1) := by decide +kernel
theorem d_Disk_compare_36 : decode b_Disk_compare 36 = .ok (.lcmp, 1) := by decide +kernel
theorem d_Disk_compare_37 : decode b_Disk_compare 37 = .ok (.ifCond .eq 7, 3) := by decide +kernel
theorem d_Disk_compare_40 : decode b_Disk_compare 40 = .ok (.iconst 1, 1) := by decide +kernel
theorem d_Disk_compare_41 : decode b_Disk_compare 41 = .ok (.goto 4, 3) := by decide +kernel
theorem d_Disk_compare_44 : decode b_Disk_compare 44 = .ok (.iconst 0, 1) := by decide +kernel
theorem d_Disk_compare_45 : decode b_Disk_compare 45 = .ok (.istore_n 2, 1) := by decide +kernel
theorem d_Disk_compare_46 : decode b_Disk_compare 46 = .ok (.iinc 3 1, 3) := by decide +kernel
theorem d_Disk_compare_49 : decode b_Disk_compare 49 = .ok (.goto (-45), 3) := by decide +kernel
theorem d_Disk_compare_52 : decode b_Disk_compare 52 = .ok (.aload_n 0, 1) := by decide +kernel
theorem d_Disk_compare_53 : decode b_Disk_compare 53 = .ok (.getfield 29, 3) := by decide +kernel
theorem d_Disk_compare_56 : decode b_Disk_compare 56 = .ok (.iload_n 1, 1) := by decide +kernel
theorem d_Disk_compare_57 : decode b_Disk_compare 57 = .ok (.iload_n 2, 1) := by decide +kernel
theorem d_Disk_compare_58 : decode b_Disk_compare 58 = .ok (.bastore, 1) := by decide +kernel
theorem d_Disk_compare_59 : decode b_Disk_compare 59 = .ok (.return_, 1) := by decide +kernel
set_option maxHeartbeats 4000000 in
set_option maxRecDepth 100000 in
theorem c_Disk_compare (l : Launch) (D : va_G) (g : Nat → Nat) (k : Nat → ClassId) (L : Nat) (hL0 : 96 ≤ L) (hL : L ≤ 768) (u : DSt) (b : Nat) (hb0 : b < L) : MuV l y_Disk_compare w_Disk_compare ({ frames := 0, cells := 0, slots := 0, locals := 0 }) [.ref (g 0), .int (nI b)] D cl5 (tyC k) (wD g k L u) (wD g k L (cmp u b)) := by
  intro sz
  refine Met.ofW (cc := b_Disk_compare) (maxL := 5) (ret := none) (by decide) rfl ?_
  intro p e s m args below meth c s₁ B hml hv
  obtain ⟨rfl, hsz, hP, hK, hD0⟩ := hv
  have hx := B.exec
  have hb := B.bytes
  have hr := B.returns
  have hts := atoms_spec (ws := w_Disk_compare) B.pre
  have hTB : ∀ w ∈ lw_tb, w.before _ s = true := fun w h => hts w (List.mem_cons_of_mem _ h)
  have hown : s.vm.findClass R_Disk = some m.cls := findClass_of_methodNamed B.named
  have hlocks := B.notSynchronized
  subst hsz
  have hD := hD0.self (sz := s.heap.size)
  generalize hAe : va_A (wD g k L u) s.heap.size = A at hD ⊢
  have hA : ∀ q : Nat, s.heap.size ≤ q → A q := fun q h => by rw [← hAe]; exact Or.inr h
  have hS : va_S A s.heap s.heap [] := va_S.rf
  have hl := lv_entry ([.ref (g 0), .int (nI b)]) (n := 5) (Nat.le_of_ble_eq_true rfl)
  rw [lg_entry_eq]
  generalize (lg_sl ([.ref (g 0), .int (nI b)]) ++ List.replicate (5 - (lg_sl ([.ref (g 0), .int (nI b)])).length) Slot.unset).toArray = ls at hl ⊢
  have hl : lv_has ls 5 [(0, .ref (g 0)), (1, .int (nI b))] := hl
  refine lv_iconst (v := nI 0) hx hb d_Disk_compare_0 (by decide +kernel) ?_
  refine lv_istore_n (lv' := [(2, .int (nI 0)), (0, .ref (g 0)), (1, .int (nI b))]) hx hb d_Disk_compare_1 rfl hl (by decide) rfl (fun ls hl => ?_)
  refine lv_iconst (v := nI 0) hx hb d_Disk_compare_2 (by decide +kernel) ?_
  refine lv_istore_n (lv' := [(3, .int (nI 0)), (2, .int (nI 0)), (0, .ref (g 0)), (1, .int (nI b))]) hx hb d_Disk_compare_3 rfl hl (by decide) rfl (fun ls hl => ?_)
  refine gz_loop 4 (fun (zz : Nat) H locs ls => match zz with | i => va_P D cl5 (wD g k L u) H ∧ va_D A (wD g k L u) ∧ va_S A s.heap H locs ∧ lv_has ls 5 [(0, .ref (g 0)), (1, .int (nI b)), (2, .int (zI (dfI (dNow u) (dCom u) b i))), (3, .int (nI i))] ∧ (i ≤ 8)) (fun (zz : Nat) => match zz with | i => 8 - i) (fun zz H locs ls hI ih4 => ?_) (0) ⟨hP, hD, hS, lv_sub hl [2, 3, 1, 0] rfl, (by omega)⟩
  obtain ⟨i, rfl⟩ : ∃ z, z = zz := ⟨_, rfl⟩
  obtain ⟨hP, hD, hS, hl, hi1⟩ := hI
  refine lv_iload_n hx hb d_Disk_compare_4 rfl (lv_at hl 3 rfl) ?_
  refine lv_bipush (v := nI 8) hx hb d_Disk_compare_5 (by decide +kernel) ?_
  refine gz_icmp_ge (tgt := 52) hx hb d_Disk_compare_7 (by decide) (by omega) (by omega) (fun h7 => ?_) (fun h7 => ?_)
  · obtain rfl : i = 8 := by omega
    have hl := lv_sub hl [0, 1, 2] rfl
    refine lv_aload_n hx hb d_Disk_compare_52 rfl (lv_at hl 0 rfl) ?_
    refine va_get (D := D) (ci := 1) (v := .ref (g 5)) (C := R_Disk) (T := T_Disk) (N := 7) hx hb hTB in_Disk hown hK hP 0 rfl rfl 5 (by decide) (hTB _ k_97) (fun _ h9 => h9) rfl d_Disk_compare_53 ?_
    refine lv_iload_n hx hb d_Disk_compare_56 rfl (lv_at hl 1 rfl) ?_
    refine lv_iload_n hx hb d_Disk_compare_57 rfl (lv_at hl 2 rfl) ?_
    refine gz_zast hx hb hK hP hD hS 5 1 rfl rfl (i := b) (dfI (dNow u) (dCom u) b 8) rfl (by omega) (by omega) d_Disk_compare_58 (fun H locs hP hD hS => ?_)
    have hP : va_P D cl5 (wD g k L (sDif u (va_up (dDif u) b (dfI (dNow u) (dCom u) b 8)))) H := hP
    have hD : va_D A (wD g k L (sDif u (va_up (dDif u) b (dfI (dNow u) (dCom u) b 8)))) := hD
    have hP9 : va_P D cl5 (wD g k L (cmp u b)) H := hP
    have hD9 : va_D A (wD g k L (cmp u b)) := hD
    exact W.vret hx hb hr (fun tt9 ht9 hW9 => ⟨⟨(), rfl, trivial, ⟨by rw [ht9]; exact hP9, hD9⟩⟩, hS.F ht9⟩) hS.2.2 d_Disk_compare_59
  · refine lv_iload_n hx hb d_Disk_compare_10 rfl (lv_at hl 1 rfl) ?_
    refine lv_bipush (v := nI 8) hx hb d_Disk_compare_11 (by decide +kernel) ?_
    refine gz_imul hx hb d_Disk_compare_13 ?_
    refine lv_iload_n hx hb d_Disk_compare_14 rfl (lv_at hl 3 rfl) ?_
    refine gz_iadd hx hb d_Disk_compare_15 ?_
    refine lv_istore (lv' := [(4, .int (nI ((b * 8) + i))), (0, .ref (g 0)), (1, .int (nI b)), (2, .int (zI (dfI (dNow u) (dCom u) b i))), (3, .int (nI i))]) hx hb d_Disk_compare_16 hl (by decide) rfl (fun ls hl => ?_)
    refine lv_iload_n hx hb d_Disk_compare_18 rfl (lv_at hl 3 rfl) ?_
    refine gz_ifz_ne (tgt := 40) hx hb d_Disk_compare_19 (by decide) (fun h19 => ?_) (fun h19 => ?_)
    · refine lv_iconst (v := nI 1) hx hb d_Disk_compare_40 (by decide +kernel) ?_
      refine lv_goto (tgt := 45) hx hb d_Disk_compare_41 (by decide) ?_
      refine lv_istore_n (lv' := [(2, .int (nI 1)), (4, .int (nI ((b * 8) + i))), (0, .ref (g 0)), (1, .int (nI b)), (3, .int (nI i))]) hx hb d_Disk_compare_45 rfl hl (by decide) rfl (fun ls hl => ?_)
      refine lv_iinc (v := nI (i + 1)) (lv' := [(3, .int (nI (i + 1))), (2, .int (nI 1)), (4, .int (nI ((b * 8) + i))), (0, .ref (g 0)), (1, .int (nI b))]) hx hb d_Disk_compare_46 hl (k := 4) rfl (nI_add i 1) (by decide) rfl (fun ls hl => ?_)
      refine lv_goto (tgt := 4) hx hb d_Disk_compare_49 (by decide) ?_
      have hl : lv_has ls 5 [(3, .int (nI (i + 1))), (2, .int (zI (dfI (dNow u) (dCom u) b (i + 1)))), (4, .int (nI ((b * 8) + i))), (0, .ref (g 0)), (1, .int (nI b))] := by first | (rw [dfI_t1 h19]; exact hl) | (rw [dfI_t2 h37]; exact hl) | (rw [dfI_f h19 h37]; exact hl)
      exact ih4 (i + 1) _ _ _ (by first | omega | (dsimp only; omega)) ⟨hP, hD, hS, lv_sub hl [3, 4, 1, 0] rfl, (by omega)⟩
    · refine lv_aload_n hx hb d_Disk_compare_22 rfl (lv_at hl 1 rfl) ?_
      refine va_get (D := D) (ci := 1) (v := .ref (g 1)) (C := R_Disk) (T := T_Disk) (N := 7) hx hb hTB in_Disk hown hK hP 0 rfl rfl 1 (by decide) (hTB _ k_93) (fun _ h9 => h9) rfl d_Disk_compare_23 ?_
      refine lv_iload hx hb d_Disk_compare_26 (lv_at hl 0 rfl) ?_
      refine gz_lald hx hb hK hP 1 0 rfl rfl (i := (b * 8) + i) (by omega) (by omega) d_Disk_compare_28 ?_
      refine lv_aload_n hx hb d_Disk_compare_29 rfl (lv_at hl 1 rfl) ?_
      refine va_get (D := D) (ci := 1) (v := .ref (g 2)) (C := R_Disk) (T := T_Disk) (N := 7) hx hb hTB in_Disk hown hK hP 0 rfl rfl 2 (by decide) (hTB _ k_94) (fun _ h9 => h9) rfl d_Disk_compare_30 ?_
      refine lv_iload hx hb d_Disk_compare_33 (lv_at hl 0 rfl) ?_
      refine gz_lald hx hb hK hP 2 0 rfl rfl (i := (b * 8) + i) (by omega) (by omega) d_Disk_compare_35 ?_
      refine W.lcmp hx hb d_Disk_compare_36 ?_
      refine lv_if_eq (tgt := 44) hx hb d_Disk_compare_37 (by decide) (fun h37 => ?_) (fun h37 => ?_)
      · refine lv_iconst (v := nI 0) hx hb d_Disk_compare_44 (by decide +kernel) ?_
        refine lv_istore_n (lv' := [(2, .int (nI 0)), (4, .int (nI ((b * 8) + i))), (0, .ref (g 0)), (1, .int (nI b)), (3, .int (nI i))]) hx hb d_Disk_compare_45 rfl hl (by decide) rfl (fun ls hl => ?_)
        refine lv_iinc (v := nI (i + 1)) (lv' := [(3, .int (nI (i + 1))), (2, .int (nI 0)), (4, .int (nI ((b * 8) + i))), (0, .ref (g 0)), (1, .int (nI b))]) hx hb d_Disk_compare_46 hl (k := 4) rfl (nI_add i 1) (by decide) rfl (fun ls hl => ?_)
        refine lv_goto (tgt := 4) hx hb d_Disk_compare_49 (by decide) ?_
        have hl : lv_has ls 5 [(3, .int (nI (i + 1))), (2, .int (zI (dfI (dNow u) (dCom u) b (i + 1)))), (4, .int (nI ((b * 8) + i))), (0, .ref (g 0)), (1, .int (nI b))] := by first | (rw [dfI_t1 h19]; exact hl) | (rw [dfI_t2 h37]; exact hl) | (rw [dfI_f h19 h37]; exact hl)
        exact ih4 (i + 1) _ _ _ (by first | omega | (dsimp only; omega)) ⟨hP, hD, hS, lv_sub hl [3, 4, 1, 0] rfl, (by omega)⟩
      · refine lv_iconst (v := nI 1) hx hb d_Disk_compare_40 (by decide +kernel) ?_
        refine lv_goto (tgt := 45) hx hb d_Disk_compare_41 (by decide) ?_
        refine lv_istore_n (lv' := [(2, .int (nI 1)), (4, .int (nI ((b * 8) + i))), (0, .ref (g 0)), (1, .int (nI b)), (3, .int (nI i))]) hx hb d_Disk_compare_45 rfl hl (by decide) rfl (fun ls hl => ?_)
        refine lv_iinc (v := nI (i + 1)) (lv' := [(3, .int (nI (i + 1))), (2, .int (nI 1)), (4, .int (nI ((b * 8) + i))), (0, .ref (g 0)), (1, .int (nI b))]) hx hb d_Disk_compare_46 hl (k := 4) rfl (nI_add i 1) (by decide) rfl (fun ls hl => ?_)
        refine lv_goto (tgt := 4) hx hb d_Disk_compare_49 (by decide) ?_
        have hl : lv_has ls 5 [(3, .int (nI (i + 1))), (2, .int (zI (dfI (dNow u) (dCom u) b (i + 1)))), (4, .int (nI ((b * 8) + i))), (0, .ref (g 0)), (1, .int (nI b))] := by first | (rw [dfI_t1 h19]; exact hl) | (rw [dfI_t2 h37]; exact hl) | (rw [dfI_f h19 h37]; exact hl)
        exact ih4 (i + 1) _ _ _ (by first | omega | (dsimp only; omega)) ⟨hP, hD, hS, lv_sub hl [3, 4, 1, 0] rfl, (by omega)⟩
theorem d_Disk_forgetTouched_0 : decode b_Disk_forgetTouched 0 = .ok (.iconst 0, 1) := by decide +kernel
theorem d_Disk_forgetTouched_1 : decode b_Disk_forgetTouched 1 = .ok (.istore_n 1, 1) := by decide +kernel
theorem d_Disk_forgetTouched_2 : decode b_Disk_forgetTouched 2 = .ok (.iload_n 1, 1) := by decide +kernel
theorem d_Disk_forgetTouched_3 : decode b_Disk_forgetTouched 3 = .ok (.aload_n 0, 1) := by decide +kernel
theorem d_Disk_forgetTouched_4 : decode b_Disk_forgetTouched 4 = .ok (.getfield 9, 3) := by decide +kernel
theorem d_Disk_forgetTouched_7 : decode b_Disk_forgetTouched 7 = .ok (.if_icmp .ge 16, 3) := by decide +kernel
theorem d_Disk_forgetTouched_10 : decode b_Disk_forgetTouched 10 = .ok (.aload_n 0, 1) := by decide +kernel
theorem d_Disk_forgetTouched_11 : decode b_Disk_forgetTouched 11 = .ok (.getfield 25, 3) := by decide +kernel
theorem d_Disk_forgetTouched_14 : decode b_Disk_forgetTouched 14 = .ok (.iload_n 1, 1) := by decide +kernel
theorem d_Disk_forgetTouched_15 : decode b_Disk_forgetTouched 15 = .ok (.iconst 0, 1) := by decide +kernel
theorem d_Disk_forgetTouched_16 : decode b_Disk_forgetTouched 16 = .ok (.bastore, 1) := by decide +kernel
theorem d_Disk_forgetTouched_17 : decode b_Disk_forgetTouched 17 = .ok (.iinc 1 1, 3) := by decide +kernel
theorem d_Disk_forgetTouched_20 : decode b_Disk_forgetTouched 20 = .ok (.goto (-18), 3) := by decide +kernel
theorem d_Disk_forgetTouched_23 : decode b_Disk_forgetTouched 23 = .ok (.return_, 1) := by decide +kernel
set_option maxHeartbeats 4000000 in
set_option maxRecDepth 100000 in
theorem c_Disk_forgetTouched (l : Launch) (D : va_G) (g : Nat → Nat) (k : Nat → ClassId) (L : Nat) (hL0 : 96 ≤ L) (hL : L ≤ 768) (u : DSt) : MuV l y_Disk_forgetTouched w_Disk_forgetTouched ({ frames := 0, cells := 0, slots := 0, locals := 0 }) [.ref (g 0)] D cl5 (tyC k) (wD g k L u) (wD g k L (fgt L u)) := by
  intro sz
  refine Met.ofW (cc := b_Disk_forgetTouched) (maxL := 2) (ret := none) (by decide) rfl ?_
  intro p e s m args below meth c s₁ B hml hv
  obtain ⟨rfl, hsz, hP, hK, hD0⟩ := hv
  have hx := B.exec
  have hb := B.bytes
  have hr := B.returns
  have hts := atoms_spec (ws := w_Disk_forgetTouched) B.pre
  have hTB : ∀ w ∈ lw_tb, w.before _ s = true := fun w h => hts w (List.mem_cons_of_mem _ h)
  have hown : s.vm.findClass R_Disk = some m.cls := findClass_of_methodNamed B.named
  have hlocks := B.notSynchronized
  subst hsz
  have hD := hD0.self (sz := s.heap.size)
  generalize hAe : va_A (wD g k L u) s.heap.size = A at hD ⊢
  have hA : ∀ q : Nat, s.heap.size ≤ q → A q := fun q h => by rw [← hAe]; exact Or.inr h
  have hS : va_S A s.heap s.heap [] := va_S.rf
  have hl := lv_entry ([.ref (g 0)]) (n := 2) (Nat.le_of_ble_eq_true rfl)
  rw [lg_entry_eq]
  generalize (lg_sl ([.ref (g 0)]) ++ List.replicate (2 - (lg_sl ([.ref (g 0)])).length) Slot.unset).toArray = ls at hl ⊢
  have hl : lv_has ls 2 [(0, .ref (g 0))] := hl
  refine lv_iconst (v := nI 0) hx hb d_Disk_forgetTouched_0 (by decide +kernel) ?_
  refine lv_istore_n (lv' := [(1, .int (nI 0)), (0, .ref (g 0))]) hx hb d_Disk_forgetTouched_1 rfl hl (by decide) rfl (fun ls hl => ?_)
  refine gz_loop 2 (fun (zz : (Nat × DSt)) H locs ls => match zz with | (b, v) => va_P D cl5 (wD g k L v) H ∧ va_D A (wD g k L v) ∧ va_S A s.heap H locs ∧ lv_has ls 2 [(0, .ref (g 0)), (1, .int (nI b))] ∧ (b ≤ L) ∧ (fgG (L - b) b v = fgG L 0 u)) (fun (zz : (Nat × DSt)) => match zz with | (b, v) => L - b) (fun zz H locs ls hI ih2 => ?_) (0, u) ⟨hP, hD, hS, lv_sub hl [1, 0] rfl, (by omega), rfl⟩
  obtain ⟨b, v⟩ := zz
  obtain ⟨hP, hD, hS, hl, hb1, hb2⟩ := hI
  refine lv_iload_n hx hb d_Disk_forgetTouched_2 rfl (lv_at hl 1 rfl) ?_
  refine lv_aload_n hx hb d_Disk_forgetTouched_3 rfl (lv_at hl 0 rfl) ?_
  refine va_get (D := D) (ci := 1) (v := .int (nI L)) (C := R_Disk) (T := T_Disk) (N := 7) hx hb hTB in_Disk hown hK hP 0 rfl rfl 0 (by decide) (hTB _ k_92) (fun _ h9 => h9) rfl d_Disk_forgetTouched_4 ?_
  refine gz_icmp_ge (tgt := 23) hx hb d_Disk_forgetTouched_7 (by decide) (by omega) (by omega) (fun h7 => ?_) (fun h7 => ?_)
  · have hb3 : b = L := by omega
    rw [hb3, Nat.sub_self] at hb2
    have hb2 : v = fgt L u := hb2
    have hP9 : va_P D cl5 (wD g k L (fgt L u)) H := (by rw [← hb2]; exact hP)
    have hD9 : va_D A (wD g k L (fgt L u)) := (by rw [← hb2]; exact hD)
    exact W.vret hx hb hr (fun tt9 ht9 hW9 => ⟨⟨(), rfl, trivial, ⟨by rw [ht9]; exact hP9, hD9⟩⟩, hS.F ht9⟩) hS.2.2 d_Disk_forgetTouched_23
  · refine lv_aload_n hx hb d_Disk_forgetTouched_10 rfl (lv_at hl 0 rfl) ?_
    refine va_get (D := D) (ci := 1) (v := .ref (g 4)) (C := R_Disk) (T := T_Disk) (N := 7) hx hb hTB in_Disk hown hK hP 0 rfl rfl 4 (by decide) (hTB _ k_96) (fun _ h9 => h9) rfl d_Disk_forgetTouched_11 ?_
    refine lv_iload_n hx hb d_Disk_forgetTouched_14 rfl (lv_at hl 1 rfl) ?_
    refine lv_iconst (v := nI 0) hx hb d_Disk_forgetTouched_15 (by decide +kernel) ?_
    refine gz_zast hx hb hK hP hD hS 4 1 rfl rfl (i := b) false rfl (by omega) (by omega) d_Disk_forgetTouched_16 (fun H locs hP hD hS => ?_)
    have hP : va_P D cl5 (wD g k L (sTou v (va_up (dTou v) b false))) H := hP
    have hD : va_D A (wD g k L (sTou v (va_up (dTou v) b false))) := hD
    refine lv_iinc (v := nI (b + 1)) (lv' := [(1, .int (nI (b + 1))), (0, .ref (g 0))]) hx hb d_Disk_forgetTouched_17 hl (k := 1) rfl (nI_add b 1) (by decide) rfl (fun ls hl => ?_)
    refine lv_goto (tgt := 2) hx hb d_Disk_forgetTouched_20 (by decide) ?_
    exact ih2 (b + 1, sTou v (va_up (dTou v) b false)) _ _ _ (by first | omega | (dsimp only; omega)) ⟨hP, hD, hS, lv_sub hl [1, 0] rfl, (by omega), (by rw [← hb2, show L - b = (L - (b + 1)) + 1 by omega]; rfl)⟩
theorem d_Disk_undo_0 : decode b_Disk_undo 0 = .ok (.iconst 0, 1) := by decide +kernel
theorem d_Disk_undo_1 : decode b_Disk_undo 1 = .ok (.istore_n 1, 1) := by decide +kernel
theorem d_Disk_undo_2 : decode b_Disk_undo 2 = .ok (.iload_n 1, 1) := by decide +kernel
theorem d_Disk_undo_3 : decode b_Disk_undo 3 = .ok (.aload_n 0, 1) := by decide +kernel
theorem d_Disk_undo_4 : decode b_Disk_undo 4 = .ok (.getfield 9, 3) := by decide +kernel
theorem d_Disk_undo_7 : decode b_Disk_undo 7 = .ok (.if_icmp .ge 30, 3) := by decide +kernel
theorem d_Disk_undo_10 : decode b_Disk_undo 10 = .ok (.aload_n 0, 1) := by decide +kernel
theorem d_Disk_undo_11 : decode b_Disk_undo 11 = .ok (.getfield 25, 3) := by decide +kernel
theorem d_Disk_undo_14 : decode b_Disk_undo 14 = .ok (.iload_n 1, 1) := by decide +kernel
theorem d_Disk_undo_15 : decode b_Disk_undo 15 = .ok (.baload, 1) := by decide +kernel
theorem d_Disk_undo_16 : decode b_Disk_undo 16 = .ok (.ifCond .eq 15, 3) := by decide +kernel
theorem d_Disk_undo_19 : decode b_Disk_undo 19 = .ok (.aload_n 0, 1) := by decide +kernel
theorem d_Disk_undo_20 : decode b_Disk_undo 20 = .ok (.getfield 22, 3) := by decide +kernel
theorem d_Disk_undo_23 : decode b_Disk_undo 23 = .ok (.aload_n 0, 1) := by decide +kernel
theorem d_Disk_undo_24 : decode b_Disk_undo 24 = .ok (.getfield 15, 3) := by decide +kernel
theorem d_Disk_undo_27 : decode b_Disk_undo 27 = .ok (.iload_n 1, 1) := by decide +kernel
theorem d_Disk_undo_28 : decode b_Disk_undo 28 = .ok (.invokestatic 64, 3) := by decide +kernel
theorem d_Disk_undo_31 : decode b_Disk_undo 31 = .ok (.iinc 1 1, 3) := by decide +kernel
theorem d_Disk_undo_34 : decode b_Disk_undo 34 = .ok (.goto (-32), 3) := by decide +kernel
theorem d_Disk_undo_37 : decode b_Disk_undo 37 = .ok (.aload_n 0, 1) := by decide +kernel
theorem d_Disk_undo_38 : decode b_Disk_undo 38 = .ok (.invokevirtual 78, 3) := by decide +kernel
theorem d_Disk_undo_41 : decode b_Disk_undo 41 = .ok (.return_, 1) := by decide +kernel
set_option maxHeartbeats 4000000 in
set_option maxRecDepth 100000 in
theorem c_Disk_undo (l : Launch) (D : va_G) (g : Nat → Nat) (k : Nat → ClassId) (L : Nat) (hL0 : 96 ≤ L) (hL : L ≤ 768) (u : DSt) : MuV l y_Disk_undo w_Disk_undo ({ frames := 2, cells := 0, slots := 0, locals := 82 }) [.ref (g 0)] D cl5 (tyC k) (wD g k L u) (wD g k L (und L u)) := by
  intro sz
  refine Met.ofW (cc := b_Disk_undo) (maxL := 2) (ret := none) (by decide) rfl ?_
  intro p e s m args below meth c s₁ B hml hv
  obtain ⟨rfl, hsz, hP, hK, hD0⟩ := hv
  have hx := B.exec
  have hb := B.bytes
  have hr := B.returns
  have hts := atoms_spec (ws := w_Disk_undo) B.pre
  have hTB : ∀ w ∈ lw_tb, w.before _ s = true := fun w h => hts w (List.mem_cons_of_mem _ h)
  have hown : s.vm.findClass R_Disk = some m.cls := findClass_of_methodNamed B.named
  have hlocks := B.notSynchronized
  subst hsz
  have hD := hD0.self (sz := s.heap.size)
  generalize hAe : va_A (wD g k L u) s.heap.size = A at hD ⊢
  have hA : ∀ q : Nat, s.heap.size ≤ q → A q := fun q h => by rw [← hAe]; exact Or.inr h
  have hS : va_S A s.heap s.heap [] := va_S.rf
  have hl := lv_entry ([.ref (g 0)]) (n := 2) (Nat.le_of_ble_eq_true rfl)
  rw [lg_entry_eq]
  generalize (lg_sl ([.ref (g 0)]) ++ List.replicate (2 - (lg_sl ([.ref (g 0)])).length) Slot.unset).toArray = ls at hl ⊢
  have hl : lv_has ls 2 [(0, .ref (g 0))] := hl
  refine lv_iconst (v := nI 0) hx hb d_Disk_undo_0 (by decide +kernel) ?_
  refine lv_istore_n (lv' := [(1, .int (nI 0)), (0, .ref (g 0))]) hx hb d_Disk_undo_1 rfl hl (by decide) rfl (fun ls hl => ?_)
  refine gz_loop 2 (fun (zz : (Nat × DSt)) H locs ls => match zz with | (b, v) => va_P D cl5 (wD g k L v) H ∧ va_D A (wD g k L v) ∧ va_S A s.heap H locs ∧ lv_has ls 2 [(0, .ref (g 0)), (1, .int (nI b))] ∧ (b ≤ L) ∧ (unG (L - b) b v = unG L 0 u)) (fun (zz : (Nat × DSt)) => match zz with | (b, v) => L - b) (fun zz H locs ls hI ih2 => ?_) (0, u) ⟨hP, hD, hS, lv_sub hl [1, 0] rfl, (by omega), rfl⟩
  obtain ⟨b, v⟩ := zz
  obtain ⟨hP, hD, hS, hl, hb1, hb2⟩ := hI
  refine lv_iload_n hx hb d_Disk_undo_2 rfl (lv_at hl 1 rfl) ?_
  refine lv_aload_n hx hb d_Disk_undo_3 rfl (lv_at hl 0 rfl) ?_
  refine va_get (D := D) (ci := 1) (v := .int (nI L)) (C := R_Disk) (T := T_Disk) (N := 7) hx hb hTB in_Disk hown hK hP 0 rfl rfl 0 (by decide) (hTB _ k_92) (fun _ h9 => h9) rfl d_Disk_undo_4 ?_
  refine gz_icmp_ge (tgt := 37) hx hb d_Disk_undo_7 (by decide) (by omega) (by omega) (fun h7 => ?_) (fun h7 => ?_)
  · have hb3 : b = L := by omega
    rw [hb3, Nat.sub_self] at hb2
    have hb2 : v = unG L 0 u := hb2
    refine lv_aload_n hx hb d_Disk_undo_37 rfl (lv_at hl 0 rfl) ?_
    refine gz_muV (As := []) (rest := []) (wc := (wD g k L v)) (w1 := (wD g k L (fgt L v))) (wr := ([])) ⟨hx, hb, hml, hown, hTB⟩ (c_Disk_forgetTouched l D g k L hL0 hL v) (cwV 0 hTB (gd_V k_183 k_185 k_5 k_52 k_186) rfl rfl rfl (by decide +kernel) ⟨Nat.le_of_ble_eq_true rfl, Nat.le_of_ble_eq_true rfl⟩) hK hP hD hA [0, 1, 2, 3, 4, 5] [] rfl rfl (by decide) rfl (by decide) (by decide) 0 rfl rfl rfl hl.1 rfl (Nat.le_of_ble_eq_true rfl) d_Disk_undo_38 ⟨Nat.zero_le _, Nat.zero_le _⟩ hS (fun H locs hP hD hS => ?_)
    have hP : va_P D cl5 (wD g k L (fgt L v)) H := hP
    have hD : va_D A (wD g k L (fgt L v)) := hD
    have hP9 : va_P D cl5 (wD g k L (und L u)) H := (by unfold und; rw [← hb2]; exact hP)
    have hD9 : va_D A (wD g k L (und L u)) := (by unfold und; rw [← hb2]; exact hD)
    exact W.vret hx hb hr (fun tt9 ht9 hW9 => ⟨⟨(), rfl, trivial, ⟨by rw [ht9]; exact hP9, hD9⟩⟩, hS.F ht9⟩) hS.2.2 d_Disk_undo_41
  · refine lv_aload_n hx hb d_Disk_undo_10 rfl (lv_at hl 0 rfl) ?_
    refine va_get (D := D) (ci := 1) (v := .ref (g 4)) (C := R_Disk) (T := T_Disk) (N := 7) hx hb hTB in_Disk hown hK hP 0 rfl rfl 4 (by decide) (hTB _ k_96) (fun _ h9 => h9) rfl d_Disk_undo_11 ?_
    refine lv_iload_n hx hb d_Disk_undo_14 rfl (lv_at hl 1 rfl) ?_
    refine gz_zald hx hb hK hP 4 1 rfl rfl (i := b) (by omega) (by omega) d_Disk_undo_15 ?_
    refine gz_ifz_eq (tgt := 31) hx hb d_Disk_undo_16 (by decide) (fun h16 => ?_) (fun h16 => ?_)
    · refine lv_iinc (v := nI (b + 1)) (lv' := [(1, .int (nI (b + 1))), (0, .ref (g 0))]) hx hb d_Disk_undo_31 hl (k := 1) rfl (nI_add b 1) (by decide) rfl (fun ls hl => ?_)
      refine lv_goto (tgt := 2) hx hb d_Disk_undo_34 (by decide) ?_
      exact ih2 (b + 1, v) _ _ _ (by first | omega | (dsimp only; omega)) ⟨hP, hD, hS, lv_sub hl [1, 0] rfl, (by omega), (by rw [← hb2, show L - b = (L - (b + 1)) + 1 by omega]; rw [unG_s]; first | rw [if_pos h16] | rw [if_neg (by rw [h16]; decide)])⟩
    · refine lv_aload_n hx hb d_Disk_undo_19 rfl (lv_at hl 0 rfl) ?_
      refine va_get (D := D) (ci := 1) (v := .ref (g 3)) (C := R_Disk) (T := T_Disk) (N := 7) hx hb hTB in_Disk hown hK hP 0 rfl rfl 3 (by decide) (hTB _ k_95) (fun _ h9 => h9) rfl d_Disk_undo_20 ?_
      refine lv_aload_n hx hb d_Disk_undo_23 rfl (lv_at hl 0 rfl) ?_
      refine va_get (D := D) (ci := 1) (v := .ref (g 1)) (C := R_Disk) (T := T_Disk) (N := 7) hx hb hTB in_Disk hown hK hP 0 rfl rfl 1 (by decide) (hTB _ k_93) (fun _ h9 => h9) rfl d_Disk_undo_24 ?_
      refine lv_iload_n hx hb d_Disk_undo_27 rfl (lv_at hl 1 rfl) ?_
      refine gz_muS (As := [.ref (g 3), .ref (g 1), .int (nI b)]) (rest := []) (wc := (wA (g 3) (g 1) k L (dBef v) (dNow v))) (w1 := (wA (g 3) (g 1) k L (dBef v) (cpB (dBef v) (dNow v) b))) (wr := [(g 0, .inr (1, [.int (nI L), .ref (g 1), .ref (g 2), .ref (g 3), .ref (g 4), .ref (g 5), .int (dEa v)])), (g 2, .inl (k 0, L * 8, .inr (.inl (dCom v)))), (g 4, .inl (k 1, L, .inl (fun j => zI (dTou v j)))), (g 5, .inl (k 1, L, .inl (fun j => zI (dDif v j))))]) ⟨hx, hb, hml, hown, hTB⟩ (c_Disk_copyBlock l D (g 3) (g 1) k L hL0 hL (dBef v) (dNow v) b (by omega)) (cwS 3 hTB (gd_S k_172 k_173 k_52 k_174) rfl rfl rfl (by decide +kernel) ⟨Nat.le_of_ble_eq_true rfl, Nat.le_of_ble_eq_true rfl⟩) hK hP hD hA [3, 1] [0, 2, 4, 5] rfl rfl (by decide) rfl (by decide) (by decide) rfl hl.1 rfl (Nat.le_of_ble_eq_true rfl) d_Disk_undo_28 ⟨Nat.zero_le _, Nat.zero_le _⟩ hS (fun H locs hP hD hS => ?_)
      have hP : va_P D cl5 (wD g k L (sNow v (cpB (dBef v) (dNow v) b))) H := hP.sub [0, 5, 1, 4, 2, 3] rfl
      have hD : va_D A (wD g k L (sNow v (cpB (dBef v) (dNow v) b))) := hD.sub [0, 5, 1, 4, 2, 3] (by decide) rfl
      refine lv_iinc (v := nI (b + 1)) (lv' := [(1, .int (nI (b + 1))), (0, .ref (g 0))]) hx hb d_Disk_undo_31 hl (k := 1) rfl (nI_add b 1) (by decide) rfl (fun ls hl => ?_)
      refine lv_goto (tgt := 2) hx hb d_Disk_undo_34 (by decide) ?_
      exact ih2 (b + 1, sNow v (cpB (dBef v) (dNow v) b)) _ _ _ (by first | omega | (dsimp only; omega)) ⟨hP, hD, hS, lv_sub hl [1, 0] rfl, (by omega), (by rw [← hb2, show L - b = (L - (b + 1)) + 1 by omega]; rw [unG_s]; first | rw [if_pos h16] | rw [if_neg (by rw [h16]; decide)])⟩
theorem d_Disk_makeAlike_0 : decode b_Disk_makeAlike 0 = .ok (.iconst 0, 1) := by decide +kernel
theorem d_Disk_makeAlike_1 : decode b_Disk_makeAlike 1 = .ok (.istore_n 3, 1) := by decide +kernel
theorem d_Disk_makeAlike_2 : decode b_Disk_makeAlike 2 = .ok (.iload_n 3, 1) := by decide +kernel
theorem d_Disk_makeAlike_3 : decode b_Disk_makeAlike 3 = .ok (.aload_n 0, 1) := by decide +kernel
theorem d_Disk_makeAlike_4 : decode b_Disk_makeAlike 4 = .ok (.getfield 9, 3) := by decide +kernel
theorem d_Disk_makeAlike_7 : decode b_Disk_makeAlike 7 = .ok (.if_icmp .ge 31, 3) := by decide +kernel
theorem d_Disk_makeAlike_10 : decode b_Disk_makeAlike 10 = .ok (.aload_n 0, 1) := by decide +kernel
theorem d_Disk_makeAlike_11 : decode b_Disk_makeAlike 11 = .ok (.getfield 29, 3) := by decide +kernel
theorem d_Disk_makeAlike_14 : decode b_Disk_makeAlike 14 = .ok (.iload_n 3, 1) := by decide +kernel
theorem d_Disk_makeAlike_15 : decode b_Disk_makeAlike 15 = .ok (.baload, 1) := by decide +kernel
theorem d_Disk_makeAlike_16 : decode b_Disk_makeAlike 16 = .ok (.ifCond .eq 16, 3) := by decide +kernel
theorem d_Disk_makeAlike_19 : decode b_Disk_makeAlike 19 = .ok (.aload_n 1, 1) := by decide +kernel
theorem d_Disk_makeAlike_20 : decode b_Disk_makeAlike 20 = .ok (.aload_n 2, 1) := by decide +kernel
theorem d_Disk_makeAlike_21 : decode b_Disk_makeAlike 21 = .ok (.iload_n 3, 1) := by decide +kernel
theorem d_Disk_makeAlike_22 : decode b_Disk_makeAlike 22 = .ok (.invokestatic 64, 3) := by decide +kernel
theorem d_Disk_makeAlike_25 : decode b_Disk_makeAlike 25 = .ok (.aload_n 0, 1) := by decide +kernel
theorem d_Disk_makeAlike_26 : decode b_Disk_makeAlike 26 = .ok (.getfield 29, 3) := by decide +kernel
theorem d_Disk_makeAlike_29 : decode b_Disk_makeAlike 29 = .ok (.iload_n 3, 1) := by decide +kernel
theorem d_Disk_makeAlike_30 : decode b_Disk_makeAlike 30 = .ok (.iconst 0, 1) := by decide +kernel
theorem d_Disk_makeAlike_31 : decode b_Disk_makeAlike 31 = .ok (.bastore, 1) := by decide +kernel
theorem d_Disk_makeAlike_32 : decode b_Disk_makeAlike 32 = .ok (.iinc 3 1, 3) := by decide +kernel
theorem d_Disk_makeAlike_35 : decode b_Disk_makeAlike 35 = .ok (.goto (-33), 3) := by decide +kernel
theorem d_Disk_makeAlike_38 : decode b_Disk_makeAlike 38 = .ok (.return_, 1) := by decide +kernel
set_option maxHeartbeats 4000000 in
set_option maxRecDepth 100000 in
theorem c_Disk_makeAlike_c (l : Launch) (D : va_G) (g : Nat → Nat) (k : Nat → ClassId) (L : Nat) (hL0 : 96 ≤ L) (hL : L ≤ 768) (u : DSt) : MuV l y_Disk_makeAlike w_Disk_makeAlike ({ frames := 2, cells := 0, slots := 0, locals := 82 }) [.ref (g 0), .ref (g 1), .ref (g 2)] D cl5 (tyC k) (wD g k L u) (wD g k L (mcG L 0 u)) := by
  intro sz
  refine Met.ofW (cc := b_Disk_makeAlike) (maxL := 4) (ret := none) (by decide) rfl ?_
  intro p e s m args below meth c s₁ B hml hv
  obtain ⟨rfl, hsz, hP, hK, hD0⟩ := hv
  have hx := B.exec
  have hb := B.bytes
  have hr := B.returns
  have hts := atoms_spec (ws := w_Disk_makeAlike) B.pre
  have hTB : ∀ w ∈ lw_tb, w.before _ s = true := fun w h => hts w (List.mem_cons_of_mem _ h)
  have hown : s.vm.findClass R_Disk = some m.cls := findClass_of_methodNamed B.named
  have hlocks := B.notSynchronized
  subst hsz
  have hD := hD0.self (sz := s.heap.size)
  generalize hAe : va_A (wD g k L u) s.heap.size = A at hD ⊢
  have hA : ∀ q : Nat, s.heap.size ≤ q → A q := fun q h => by rw [← hAe]; exact Or.inr h
  have hS : va_S A s.heap s.heap [] := va_S.rf
  have hl := lv_entry ([.ref (g 0), .ref (g 1), .ref (g 2)]) (n := 4) (Nat.le_of_ble_eq_true rfl)
  rw [lg_entry_eq]
  generalize (lg_sl ([.ref (g 0), .ref (g 1), .ref (g 2)]) ++ List.replicate (4 - (lg_sl ([.ref (g 0), .ref (g 1), .ref (g 2)])).length) Slot.unset).toArray = ls at hl ⊢
  have hl : lv_has ls 4 [(0, .ref (g 0)), (1, .ref (g 1)), (2, .ref (g 2))] := hl
  refine lv_iconst (v := nI 0) hx hb d_Disk_makeAlike_0 (by decide +kernel) ?_
  refine lv_istore_n (lv' := [(3, .int (nI 0)), (0, .ref (g 0)), (1, .ref (g 1)), (2, .ref (g 2))]) hx hb d_Disk_makeAlike_1 rfl hl (by decide) rfl (fun ls hl => ?_)
  refine gz_loop 2 (fun (zz : (Nat × DSt)) H locs ls => match zz with | (b, v) => va_P D cl5 (wD g k L v) H ∧ va_D A (wD g k L v) ∧ va_S A s.heap H locs ∧ lv_has ls 4 [(0, .ref (g 0)), (1, .ref (g 1)), (2, .ref (g 2)), (3, .int (nI b))] ∧ (b ≤ L) ∧ (mcG (L - b) b v = mcG L 0 u)) (fun (zz : (Nat × DSt)) => match zz with | (b, v) => L - b) (fun zz H locs ls hI ih2 => ?_) (0, u) ⟨hP, hD, hS, lv_sub hl [1, 2, 3, 0] rfl, (by omega), rfl⟩
  obtain ⟨b, v⟩ := zz
  obtain ⟨hP, hD, hS, hl, hb1, hb2⟩ := hI
  refine lv_iload_n hx hb d_Disk_makeAlike_2 rfl (lv_at hl 3 rfl) ?_
  refine lv_aload_n hx hb d_Disk_makeAlike_3 rfl (lv_at hl 0 rfl) ?_
  refine va_get (D := D) (ci := 1) (v := .int (nI L)) (C := R_Disk) (T := T_Disk) (N := 7) hx hb hTB in_Disk hown hK hP 0 rfl rfl 0 (by decide) (hTB _ k_92) (fun _ h9 => h9) rfl d_Disk_makeAlike_4 ?_
  refine gz_icmp_ge (tgt := 38) hx hb d_Disk_makeAlike_7 (by decide) (by omega) (by omega) (fun h7 => ?_) (fun h7 => ?_)
  · have hb3 : b = L := by omega
    rw [hb3, Nat.sub_self] at hb2
    have hb2 : v = mcG L 0 u := hb2
    have hP9 : va_P D cl5 (wD g k L (mcG L 0 u)) H := (by rw [← hb2]; exact hP)
    have hD9 : va_D A (wD g k L (mcG L 0 u)) := (by rw [← hb2]; exact hD)
    exact W.vret hx hb hr (fun tt9 ht9 hW9 => ⟨⟨(), rfl, trivial, ⟨by rw [ht9]; exact hP9, hD9⟩⟩, hS.F ht9⟩) hS.2.2 d_Disk_makeAlike_38
  · refine lv_aload_n hx hb d_Disk_makeAlike_10 rfl (lv_at hl 0 rfl) ?_
    refine va_get (D := D) (ci := 1) (v := .ref (g 5)) (C := R_Disk) (T := T_Disk) (N := 7) hx hb hTB in_Disk hown hK hP 0 rfl rfl 5 (by decide) (hTB _ k_97) (fun _ h9 => h9) rfl d_Disk_makeAlike_11 ?_
    refine lv_iload_n hx hb d_Disk_makeAlike_14 rfl (lv_at hl 3 rfl) ?_
    refine gz_zald hx hb hK hP 5 1 rfl rfl (i := b) (by omega) (by omega) d_Disk_makeAlike_15 ?_
    refine gz_ifz_eq (tgt := 32) hx hb d_Disk_makeAlike_16 (by decide) (fun h16 => ?_) (fun h16 => ?_)
    · refine lv_iinc (v := nI (b + 1)) (lv' := [(3, .int (nI (b + 1))), (0, .ref (g 0)), (1, .ref (g 1)), (2, .ref (g 2))]) hx hb d_Disk_makeAlike_32 hl (k := 3) rfl (nI_add b 1) (by decide) rfl (fun ls hl => ?_)
      refine lv_goto (tgt := 2) hx hb d_Disk_makeAlike_35 (by decide) ?_
      exact ih2 (b + 1, v) _ _ _ (by first | omega | (dsimp only; omega)) ⟨hP, hD, hS, lv_sub hl [1, 2, 3, 0] rfl, (by omega), (by rw [← hb2, show L - b = (L - (b + 1)) + 1 by omega]; rw [mcG_s]; first | rw [if_pos h16] | rw [if_neg (by rw [h16]; decide)])⟩
    · refine lv_aload_n hx hb d_Disk_makeAlike_19 rfl (lv_at hl 1 rfl) ?_
      refine lv_aload_n hx hb d_Disk_makeAlike_20 rfl (lv_at hl 2 rfl) ?_
      refine lv_iload_n hx hb d_Disk_makeAlike_21 rfl (lv_at hl 3 rfl) ?_
      refine gz_muS (As := [.ref (g 1), .ref (g 2), .int (nI b)]) (rest := []) (wc := (wA (g 1) (g 2) k L (dNow v) (dCom v))) (w1 := (wA (g 1) (g 2) k L (dNow v) (cpB (dNow v) (dCom v) b))) (wr := [(g 0, .inr (1, [.int (nI L), .ref (g 1), .ref (g 2), .ref (g 3), .ref (g 4), .ref (g 5), .int (dEa v)])), (g 3, .inl (k 0, L * 8, .inr (.inl (dBef v)))), (g 4, .inl (k 1, L, .inl (fun j => zI (dTou v j)))), (g 5, .inl (k 1, L, .inl (fun j => zI (dDif v j))))]) ⟨hx, hb, hml, hown, hTB⟩ (c_Disk_copyBlock l D (g 1) (g 2) k L hL0 hL (dNow v) (dCom v) b (by omega)) (cwS 3 hTB (gd_S k_172 k_173 k_52 k_174) rfl rfl rfl (by decide +kernel) ⟨Nat.le_of_ble_eq_true rfl, Nat.le_of_ble_eq_true rfl⟩) hK hP hD hA [1, 2] [0, 3, 4, 5] rfl rfl (by decide) rfl (by decide) (by decide) rfl hl.1 rfl (Nat.le_of_ble_eq_true rfl) d_Disk_makeAlike_22 ⟨Nat.zero_le _, Nat.zero_le _⟩ hS (fun H locs hP hD hS => ?_)
      have hP : va_P D cl5 (wD g k L (sCom v (cpB (dNow v) (dCom v) b))) H := hP.sub [0, 4, 5, 1, 2, 3] rfl
      have hD : va_D A (wD g k L (sCom v (cpB (dNow v) (dCom v) b))) := hD.sub [0, 4, 5, 1, 2, 3] (by decide) rfl
      refine lv_aload_n hx hb d_Disk_makeAlike_25 rfl (lv_at hl 0 rfl) ?_
      refine va_get (D := D) (ci := 1) (v := .ref (g 5)) (C := R_Disk) (T := T_Disk) (N := 7) hx hb hTB in_Disk hown hK hP 0 rfl rfl 5 (by decide) (hTB _ k_97) (fun _ h9 => h9) rfl d_Disk_makeAlike_26 ?_
      refine lv_iload_n hx hb d_Disk_makeAlike_29 rfl (lv_at hl 3 rfl) ?_
      refine lv_iconst (v := nI 0) hx hb d_Disk_makeAlike_30 (by decide +kernel) ?_
      refine gz_zast hx hb hK hP hD hS 5 1 rfl rfl (i := b) false rfl (by omega) (by omega) d_Disk_makeAlike_31 (fun H locs hP hD hS => ?_)
      have hP : va_P D cl5 (wD g k L (sDif (sCom v (cpB (dNow v) (dCom v) b)) (va_up (dDif (sCom v (cpB (dNow v) (dCom v) b))) b false))) H := hP
      have hD : va_D A (wD g k L (sDif (sCom v (cpB (dNow v) (dCom v) b)) (va_up (dDif (sCom v (cpB (dNow v) (dCom v) b))) b false))) := hD
      refine lv_iinc (v := nI (b + 1)) (lv' := [(3, .int (nI (b + 1))), (0, .ref (g 0)), (1, .ref (g 1)), (2, .ref (g 2))]) hx hb d_Disk_makeAlike_32 hl (k := 3) rfl (nI_add b 1) (by decide) rfl (fun ls hl => ?_)
      refine lv_goto (tgt := 2) hx hb d_Disk_makeAlike_35 (by decide) ?_
      exact ih2 (b + 1, sDif (sCom v (cpB (dNow v) (dCom v) b)) (va_up (dDif (sCom v (cpB (dNow v) (dCom v) b))) b false)) _ _ _ (by first | omega | (dsimp only; omega)) ⟨hP, hD, hS, lv_sub hl [1, 2, 3, 0] rfl, (by omega), (by rw [← hb2, show L - b = (L - (b + 1)) + 1 by omega]; rw [mcG_s]; first | rw [if_pos h16] | rw [if_neg (by rw [h16]; decide)])⟩
set_option maxHeartbeats 4000000 in
set_option maxRecDepth 100000 in
theorem c_Disk_makeAlike_d (l : Launch) (D : va_G) (g : Nat → Nat) (k : Nat → ClassId) (L : Nat) (hL0 : 96 ≤ L) (hL : L ≤ 768) (u : DSt) : MuV l y_Disk_makeAlike w_Disk_makeAlike ({ frames := 2, cells := 0, slots := 0, locals := 82 }) [.ref (g 0), .ref (g 2), .ref (g 1)] D cl5 (tyC k) (wD g k L u) (wD g k L (mdG L 0 u)) := by
  intro sz
  refine Met.ofW (cc := b_Disk_makeAlike) (maxL := 4) (ret := none) (by decide) rfl ?_
  intro p e s m args below meth c s₁ B hml hv
  obtain ⟨rfl, hsz, hP, hK, hD0⟩ := hv
  have hx := B.exec
  have hb := B.bytes
  have hr := B.returns
  have hts := atoms_spec (ws := w_Disk_makeAlike) B.pre
  have hTB : ∀ w ∈ lw_tb, w.before _ s = true := fun w h => hts w (List.mem_cons_of_mem _ h)
  have hown : s.vm.findClass R_Disk = some m.cls := findClass_of_methodNamed B.named
  have hlocks := B.notSynchronized
  subst hsz
  have hD := hD0.self (sz := s.heap.size)
  generalize hAe : va_A (wD g k L u) s.heap.size = A at hD ⊢
  have hA : ∀ q : Nat, s.heap.size ≤ q → A q := fun q h => by rw [← hAe]; exact Or.inr h
  have hS : va_S A s.heap s.heap [] := va_S.rf
  have hl := lv_entry ([.ref (g 0), .ref (g 2), .ref (g 1)]) (n := 4) (Nat.le_of_ble_eq_true rfl)
  rw [lg_entry_eq]
  generalize (lg_sl ([.ref (g 0), .ref (g 2), .ref (g 1)]) ++ List.replicate (4 - (lg_sl ([.ref (g 0), .ref (g 2), .ref (g 1)])).length) Slot.unset).toArray = ls at hl ⊢
  have hl : lv_has ls 4 [(0, .ref (g 0)), (1, .ref (g 2)), (2, .ref (g 1))] := hl
  refine lv_iconst (v := nI 0) hx hb d_Disk_makeAlike_0 (by decide +kernel) ?_
  refine lv_istore_n (lv' := [(3, .int (nI 0)), (0, .ref (g 0)), (1, .ref (g 2)), (2, .ref (g 1))]) hx hb d_Disk_makeAlike_1 rfl hl (by decide) rfl (fun ls hl => ?_)
  refine gz_loop 2 (fun (zz : (Nat × DSt)) H locs ls => match zz with | (b, v) => va_P D cl5 (wD g k L v) H ∧ va_D A (wD g k L v) ∧ va_S A s.heap H locs ∧ lv_has ls 4 [(0, .ref (g 0)), (1, .ref (g 2)), (2, .ref (g 1)), (3, .int (nI b))] ∧ (b ≤ L) ∧ (mdG (L - b) b v = mdG L 0 u)) (fun (zz : (Nat × DSt)) => match zz with | (b, v) => L - b) (fun zz H locs ls hI ih2 => ?_) (0, u) ⟨hP, hD, hS, lv_sub hl [1, 2, 3, 0] rfl, (by omega), rfl⟩
  obtain ⟨b, v⟩ := zz
  obtain ⟨hP, hD, hS, hl, hb1, hb2⟩ := hI
  refine lv_iload_n hx hb d_Disk_makeAlike_2 rfl (lv_at hl 3 rfl) ?_
  refine lv_aload_n hx hb d_Disk_makeAlike_3 rfl (lv_at hl 0 rfl) ?_
  refine va_get (D := D) (ci := 1) (v := .int (nI L)) (C := R_Disk) (T := T_Disk) (N := 7) hx hb hTB in_Disk hown hK hP 0 rfl rfl 0 (by decide) (hTB _ k_92) (fun _ h9 => h9) rfl d_Disk_makeAlike_4 ?_
  refine gz_icmp_ge (tgt := 38) hx hb d_Disk_makeAlike_7 (by decide) (by omega) (by omega) (fun h7 => ?_) (fun h7 => ?_)
  · have hb3 : b = L := by omega
    rw [hb3, Nat.sub_self] at hb2
    have hb2 : v = mdG L 0 u := hb2
    have hP9 : va_P D cl5 (wD g k L (mdG L 0 u)) H := (by rw [← hb2]; exact hP)
    have hD9 : va_D A (wD g k L (mdG L 0 u)) := (by rw [← hb2]; exact hD)
    exact W.vret hx hb hr (fun tt9 ht9 hW9 => ⟨⟨(), rfl, trivial, ⟨by rw [ht9]; exact hP9, hD9⟩⟩, hS.F ht9⟩) hS.2.2 d_Disk_makeAlike_38
  · refine lv_aload_n hx hb d_Disk_makeAlike_10 rfl (lv_at hl 0 rfl) ?_
    refine va_get (D := D) (ci := 1) (v := .ref (g 5)) (C := R_Disk) (T := T_Disk) (N := 7) hx hb hTB in_Disk hown hK hP 0 rfl rfl 5 (by decide) (hTB _ k_97) (fun _ h9 => h9) rfl d_Disk_makeAlike_11 ?_
    refine lv_iload_n hx hb d_Disk_makeAlike_14 rfl (lv_at hl 3 rfl) ?_
    refine gz_zald hx hb hK hP 5 1 rfl rfl (i := b) (by omega) (by omega) d_Disk_makeAlike_15 ?_
    refine gz_ifz_eq (tgt := 32) hx hb d_Disk_makeAlike_16 (by decide) (fun h16 => ?_) (fun h16 => ?_)
    · refine lv_iinc (v := nI (b + 1)) (lv' := [(3, .int (nI (b + 1))), (0, .ref (g 0)), (1, .ref (g 2)), (2, .ref (g 1))]) hx hb d_Disk_makeAlike_32 hl (k := 3) rfl (nI_add b 1) (by decide) rfl (fun ls hl => ?_)
      refine lv_goto (tgt := 2) hx hb d_Disk_makeAlike_35 (by decide) ?_
      exact ih2 (b + 1, v) _ _ _ (by first | omega | (dsimp only; omega)) ⟨hP, hD, hS, lv_sub hl [1, 2, 3, 0] rfl, (by omega), (by rw [← hb2, show L - b = (L - (b + 1)) + 1 by omega]; rw [mdG_s]; first | rw [if_pos h16] | rw [if_neg (by rw [h16]; decide)])⟩
    · refine lv_aload_n hx hb d_Disk_makeAlike_19 rfl (lv_at hl 1 rfl) ?_
      refine lv_aload_n hx hb d_Disk_makeAlike_20 rfl (lv_at hl 2 rfl) ?_
      refine lv_iload_n hx hb d_Disk_makeAlike_21 rfl (lv_at hl 3 rfl) ?_
      refine gz_muS (As := [.ref (g 2), .ref (g 1), .int (nI b)]) (rest := []) (wc := (wA (g 2) (g 1) k L (dCom v) (dNow v))) (w1 := (wA (g 2) (g 1) k L (dCom v) (cpB (dCom v) (dNow v) b))) (wr := [(g 0, .inr (1, [.int (nI L), .ref (g 1), .ref (g 2), .ref (g 3), .ref (g 4), .ref (g 5), .int (dEa v)])), (g 3, .inl (k 0, L * 8, .inr (.inl (dBef v)))), (g 4, .inl (k 1, L, .inl (fun j => zI (dTou v j)))), (g 5, .inl (k 1, L, .inl (fun j => zI (dDif v j))))]) ⟨hx, hb, hml, hown, hTB⟩ (c_Disk_copyBlock l D (g 2) (g 1) k L hL0 hL (dCom v) (dNow v) b (by omega)) (cwS 3 hTB (gd_S k_172 k_173 k_52 k_174) rfl rfl rfl (by decide +kernel) ⟨Nat.le_of_ble_eq_true rfl, Nat.le_of_ble_eq_true rfl⟩) hK hP hD hA [2, 1] [0, 3, 4, 5] rfl rfl (by decide) rfl (by decide) (by decide) rfl hl.1 rfl (Nat.le_of_ble_eq_true rfl) d_Disk_makeAlike_22 ⟨Nat.zero_le _, Nat.zero_le _⟩ hS (fun H locs hP hD hS => ?_)
      have hP : va_P D cl5 (wD g k L (sNow v (cpB (dCom v) (dNow v) b))) H := hP.sub [0, 5, 4, 1, 2, 3] rfl
      have hD : va_D A (wD g k L (sNow v (cpB (dCom v) (dNow v) b))) := hD.sub [0, 5, 4, 1, 2, 3] (by decide) rfl
      refine lv_aload_n hx hb d_Disk_makeAlike_25 rfl (lv_at hl 0 rfl) ?_
      refine va_get (D := D) (ci := 1) (v := .ref (g 5)) (C := R_Disk) (T := T_Disk) (N := 7) hx hb hTB in_Disk hown hK hP 0 rfl rfl 5 (by decide) (hTB _ k_97) (fun _ h9 => h9) rfl d_Disk_makeAlike_26 ?_
      refine lv_iload_n hx hb d_Disk_makeAlike_29 rfl (lv_at hl 3 rfl) ?_
      refine lv_iconst (v := nI 0) hx hb d_Disk_makeAlike_30 (by decide +kernel) ?_
      refine gz_zast hx hb hK hP hD hS 5 1 rfl rfl (i := b) false rfl (by omega) (by omega) d_Disk_makeAlike_31 (fun H locs hP hD hS => ?_)
      have hP : va_P D cl5 (wD g k L (sDif (sNow v (cpB (dCom v) (dNow v) b)) (va_up (dDif (sNow v (cpB (dCom v) (dNow v) b))) b false))) H := hP
      have hD : va_D A (wD g k L (sDif (sNow v (cpB (dCom v) (dNow v) b)) (va_up (dDif (sNow v (cpB (dCom v) (dNow v) b))) b false))) := hD
      refine lv_iinc (v := nI (b + 1)) (lv' := [(3, .int (nI (b + 1))), (0, .ref (g 0)), (1, .ref (g 2)), (2, .ref (g 1))]) hx hb d_Disk_makeAlike_32 hl (k := 3) rfl (nI_add b 1) (by decide) rfl (fun ls hl => ?_)
      refine lv_goto (tgt := 2) hx hb d_Disk_makeAlike_35 (by decide) ?_
      exact ih2 (b + 1, sDif (sNow v (cpB (dCom v) (dNow v) b)) (va_up (dDif (sNow v (cpB (dCom v) (dNow v) b))) b false)) _ _ _ (by first | omega | (dsimp only; omega)) ⟨hP, hD, hS, lv_sub hl [1, 2, 3, 0] rfl, (by omega), (by rw [← hb2, show L - b = (L - (b + 1)) + 1 by omega]; rw [mdG_s]; first | rw [if_pos h16] | rw [if_neg (by rw [h16]; decide)])⟩
theorem d_Disk_commitAll_0 : decode b_Disk_commitAll 0 = .ok (.aload_n 0, 1) := by decide +kernel
theorem d_Disk_commitAll_1 : decode b_Disk_commitAll 1 = .ok (.aload_n 0, 1) := by decide +kernel
theorem d_Disk_commitAll_2 : decode b_Disk_commitAll 2 = .ok (.getfield 15, 3) := by decide +kernel
theorem d_Disk_commitAll_5 : decode b_Disk_commitAll 5 = .ok (.aload_n 0, 1) := by decide +kernel
theorem d_Disk_commitAll_6 : decode b_Disk_commitAll 6 = .ok (.getfield 19, 3) := by decide +kernel
theorem d_Disk_commitAll_9 : decode b_Disk_commitAll 9 = .ok (.invokevirtual 81, 3) := by decide +kernel
theorem d_Disk_commitAll_12 : decode b_Disk_commitAll 12 = .ok (.return_, 1) := by decide +kernel
set_option maxHeartbeats 4000000 in
set_option maxRecDepth 100000 in
theorem c_Disk_commitAll (l : Launch) (D : va_G) (g : Nat → Nat) (k : Nat → ClassId) (L : Nat) (hL0 : 96 ≤ L) (hL : L ≤ 768) (u : DSt) : MuV l y_Disk_commitAll w_Disk_commitAll ({ frames := 3, cells := 0, slots := 0, locals := 105 }) [.ref (g 0)] D cl5 (tyC k) (wD g k L u) (wD g k L (cmA L u)) := by
  intro sz
  refine Met.ofW (cc := b_Disk_commitAll) (maxL := 1) (ret := none) (by decide) rfl ?_
  intro p e s m args below meth c s₁ B hml hv
  obtain ⟨rfl, hsz, hP, hK, hD0⟩ := hv
  have hx := B.exec
  have hb := B.bytes
  have hr := B.returns
  have hts := atoms_spec (ws := w_Disk_commitAll) B.pre
  have hTB : ∀ w ∈ lw_tb, w.before _ s = true := fun w h => hts w (List.mem_cons_of_mem _ h)
  have hown : s.vm.findClass R_Disk = some m.cls := findClass_of_methodNamed B.named
  have hlocks := B.notSynchronized
  subst hsz
  have hD := hD0.self (sz := s.heap.size)
  generalize hAe : va_A (wD g k L u) s.heap.size = A at hD ⊢
  have hA : ∀ q : Nat, s.heap.size ≤ q → A q := fun q h => by rw [← hAe]; exact Or.inr h
  have hS : va_S A s.heap s.heap [] := va_S.rf
  have hl := lv_entry ([.ref (g 0)]) (n := 1) (Nat.le_of_ble_eq_true rfl)
  rw [lg_entry_eq]
  generalize (lg_sl ([.ref (g 0)]) ++ List.replicate (1 - (lg_sl ([.ref (g 0)])).length) Slot.unset).toArray = ls at hl ⊢
  have hl : lv_has ls 1 [(0, .ref (g 0))] := hl
  refine lv_aload_n hx hb d_Disk_commitAll_0 rfl (lv_at hl 0 rfl) ?_
  refine lv_aload_n hx hb d_Disk_commitAll_1 rfl (lv_at hl 0 rfl) ?_
  refine va_get (D := D) (ci := 1) (v := .ref (g 1)) (C := R_Disk) (T := T_Disk) (N := 7) hx hb hTB in_Disk hown hK hP 0 rfl rfl 1 (by decide) (hTB _ k_93) (fun _ h9 => h9) rfl d_Disk_commitAll_2 ?_
  refine lv_aload_n hx hb d_Disk_commitAll_5 rfl (lv_at hl 0 rfl) ?_
  refine va_get (D := D) (ci := 1) (v := .ref (g 2)) (C := R_Disk) (T := T_Disk) (N := 7) hx hb hTB in_Disk hown hK hP 0 rfl rfl 2 (by decide) (hTB _ k_94) (fun _ h9 => h9) rfl d_Disk_commitAll_6 ?_
  refine gz_muV (As := [.ref (g 1), .ref (g 2)]) (rest := []) (wc := (wD g k L u)) (w1 := (wD g k L (mcG L 0 u))) (wr := ([])) ⟨hx, hb, hml, hown, hTB⟩ (c_Disk_makeAlike_c l D g k L hL0 hL u) (cwV 2 hTB (gd_V k_191 k_193 k_6 k_52 k_194) rfl rfl rfl (by decide +kernel) ⟨Nat.le_of_ble_eq_true rfl, Nat.le_of_ble_eq_true rfl⟩) hK hP hD hA [0, 1, 2, 3, 4, 5] [] rfl rfl (by decide) rfl (by decide) (by decide) 0 rfl rfl rfl hl.1 rfl (Nat.le_of_ble_eq_true rfl) d_Disk_commitAll_9 ⟨Nat.zero_le _, Nat.zero_le _⟩ hS (fun H locs hP hD hS => ?_)
  have hP : va_P D cl5 (wD g k L (mcG L 0 u)) H := hP
  have hD : va_D A (wD g k L (mcG L 0 u)) := hD
  have hP9 : va_P D cl5 (wD g k L (cmA L u)) H := hP
  have hD9 : va_D A (wD g k L (cmA L u)) := hD
  exact W.vret hx hb hr (fun tt9 ht9 hW9 => ⟨⟨(), rfl, trivial, ⟨by rw [ht9]; exact hP9, hD9⟩⟩, hS.F ht9⟩) hS.2.2 d_Disk_commitAll_12
theorem d_Disk_dropAll_0 : decode b_Disk_dropAll 0 = .ok (.aload_n 0, 1) := by decide +kernel
theorem d_Disk_dropAll_1 : decode b_Disk_dropAll 1 = .ok (.aload_n 0, 1) := by decide +kernel
theorem d_Disk_dropAll_2 : decode b_Disk_dropAll 2 = .ok (.getfield 19, 3) := by decide +kernel
theorem d_Disk_dropAll_5 : decode b_Disk_dropAll 5 = .ok (.aload_n 0, 1) := by decide +kernel
theorem d_Disk_dropAll_6 : decode b_Disk_dropAll 6 = .ok (.getfield 15, 3) := by decide +kernel
theorem d_Disk_dropAll_9 : decode b_Disk_dropAll 9 = .ok (.invokevirtual 81, 3) := by decide +kernel
theorem d_Disk_dropAll_12 : decode b_Disk_dropAll 12 = .ok (.return_, 1) := by decide +kernel
set_option maxHeartbeats 4000000 in
set_option maxRecDepth 100000 in
theorem c_Disk_dropAll (l : Launch) (D : va_G) (g : Nat → Nat) (k : Nat → ClassId) (L : Nat) (hL0 : 96 ≤ L) (hL : L ≤ 768) (u : DSt) : MuV l y_Disk_dropAll w_Disk_dropAll ({ frames := 3, cells := 0, slots := 0, locals := 105 }) [.ref (g 0)] D cl5 (tyC k) (wD g k L u) (wD g k L (drA L u)) := by
  intro sz
  refine Met.ofW (cc := b_Disk_dropAll) (maxL := 1) (ret := none) (by decide) rfl ?_
  intro p e s m args below meth c s₁ B hml hv
  obtain ⟨rfl, hsz, hP, hK, hD0⟩ := hv
  have hx := B.exec
  have hb := B.bytes
  have hr := B.returns
  have hts := atoms_spec (ws := w_Disk_dropAll) B.pre
  have hTB : ∀ w ∈ lw_tb, w.before _ s = true := fun w h => hts w (List.mem_cons_of_mem _ h)
  have hown : s.vm.findClass R_Disk = some m.cls := findClass_of_methodNamed B.named
  have hlocks := B.notSynchronized
  subst hsz
  have hD := hD0.self (sz := s.heap.size)
  generalize hAe : va_A (wD g k L u) s.heap.size = A at hD ⊢
  have hA : ∀ q : Nat, s.heap.size ≤ q → A q := fun q h => by rw [← hAe]; exact Or.inr h
  have hS : va_S A s.heap s.heap [] := va_S.rf
  have hl := lv_entry ([.ref (g 0)]) (n := 1) (Nat.le_of_ble_eq_true rfl)
  rw [lg_entry_eq]
  generalize (lg_sl ([.ref (g 0)]) ++ List.replicate (1 - (lg_sl ([.ref (g 0)])).length) Slot.unset).toArray = ls at hl ⊢
  have hl : lv_has ls 1 [(0, .ref (g 0))] := hl
  refine lv_aload_n hx hb d_Disk_dropAll_0 rfl (lv_at hl 0 rfl) ?_
  refine lv_aload_n hx hb d_Disk_dropAll_1 rfl (lv_at hl 0 rfl) ?_
  refine va_get (D := D) (ci := 1) (v := .ref (g 2)) (C := R_Disk) (T := T_Disk) (N := 7) hx hb hTB in_Disk hown hK hP 0 rfl rfl 2 (by decide) (hTB _ k_94) (fun _ h9 => h9) rfl d_Disk_dropAll_2 ?_
  refine lv_aload_n hx hb d_Disk_dropAll_5 rfl (lv_at hl 0 rfl) ?_
  refine va_get (D := D) (ci := 1) (v := .ref (g 1)) (C := R_Disk) (T := T_Disk) (N := 7) hx hb hTB in_Disk hown hK hP 0 rfl rfl 1 (by decide) (hTB _ k_93) (fun _ h9 => h9) rfl d_Disk_dropAll_6 ?_
  refine gz_muV (As := [.ref (g 2), .ref (g 1)]) (rest := []) (wc := (wD g k L u)) (w1 := (wD g k L (mdG L 0 u))) (wr := ([])) ⟨hx, hb, hml, hown, hTB⟩ (c_Disk_makeAlike_d l D g k L hL0 hL u) (cwV 2 hTB (gd_V k_191 k_193 k_6 k_52 k_194) rfl rfl rfl (by decide +kernel) ⟨Nat.le_of_ble_eq_true rfl, Nat.le_of_ble_eq_true rfl⟩) hK hP hD hA [0, 1, 2, 3, 4, 5] [] rfl rfl (by decide) rfl (by decide) (by decide) 0 rfl rfl rfl hl.1 rfl (Nat.le_of_ble_eq_true rfl) d_Disk_dropAll_9 ⟨Nat.zero_le _, Nat.zero_le _⟩ hS (fun H locs hP hD hS => ?_)
  have hP : va_P D cl5 (wD g k L (mdG L 0 u)) H := hP
  have hD : va_D A (wD g k L (mdG L 0 u)) := hD
  have hP9 : va_P D cl5 (wD g k L (drA L u)) H := hP
  have hD9 : va_D A (wD g k L (drA L u)) := hD
  exact W.vret hx hb hr (fun tt9 ht9 hW9 => ⟨⟨(), rfl, trivial, ⟨by rw [ht9]; exact hP9, hD9⟩⟩, hS.F ht9⟩) hS.2.2 d_Disk_dropAll_12
theorem d_Disk_commitWhatWasBefore_0 : decode b_Disk_commitWhatWasBefore 0 = .ok (.iconst 0, 1) := by decide +kernel
theorem d_Disk_commitWhatWasBefore_1 : decode b_Disk_commitWhatWasBefore 1 = .ok (.istore_n 1, 1) := by decide +kernel
theorem d_Disk_commitWhatWasBefore_2 : decode b_Disk_commitWhatWasBefore 2 = .ok (.iload_n 1, 1) := by decide +kernel
theorem d_Disk_commitWhatWasBefore_3 : decode b_Disk_commitWhatWasBefore 3 = .ok (.aload_n 0, 1) := by decide +kernel
theorem d_Disk_commitWhatWasBefore_4 : decode b_Disk_commitWhatWasBefore 4 = .ok (.getfield 9, 3) := by decide +kernel
theorem d_Disk_commitWhatWasBefore_7 : decode b_Disk_commitWhatWasBefore 7 = .ok (.if_icmp .ge 62, 3) := by decide +kernel
theorem d_Disk_commitWhatWasBefore_10 : decode b_Disk_commitWhatWasBefore 10 = .ok (.aload_n 0, 1) := by decide +kernel
theorem d_Disk_commitWhatWasBefore_11 : decode b_Disk_commitWhatWasBefore 11 = .ok (.getfield 25, 3) := by decide +kernel
theorem d_Disk_commitWhatWasBefore_14 : decode b_Disk_commitWhatWasBefore 14 = .ok (.iload_n 1, 1) := by decide +kernel
theorem d_Disk_commitWhatWasBefore_15 : decode b_Disk_commitWhatWasBefore 15 = .ok (.baload, 1) := by decide +kernel
theorem d_Disk_commitWhatWasBefore_16 : decode b_Disk_commitWhatWasBefore 16 = .ok (.ifCond .eq 10, 3) := by decide +kernel
theorem d_Disk_commitWhatWasBefore_19 : decode b_Disk_commitWhatWasBefore 19 = .ok (.aload_n 0, 1) := by decide +kernel
theorem d_Disk_commitWhatWasBefore_20 : decode b_Disk_commitWhatWasBefore 20 = .ok (.getfield 22, 3) := by decide +kernel
theorem d_Disk_commitWhatWasBefore_23 : decode b_Disk_commitWhatWasBefore 23 = .ok (.goto 7, 3) := by decide +kernel
theorem d_Disk_commitWhatWasBefore_26 : decode b_Disk_commitWhatWasBefore 26 = .ok (.aload_n 0, 1) := by decide +kernel
theorem d_Disk_commitWhatWasBefore_27 : decode b_Disk_commitWhatWasBefore 27 = .ok (.getfield 15, 3) := by decide +kernel
theorem d_Disk_commitWhatWasBefore_30 : decode b_Disk_commitWhatWasBefore 30 = .ok (.aload_n 0, 1) := by decide +kernel
theorem d_Disk_commitWhatWasBefore_31 : decode b_Disk_commitWhatWasBefore 31 = .ok (.getfield 19, 3) := by decide +kernel
theorem d_Disk_commitWhatWasBefore_34 : decode b_Disk_commitWhatWasBefore 34 = .ok (.iload_n 1, 1) := by decide +kernel
theorem d_Disk_commitWhatWasBefore_35 : decode b_Disk_commitWhatWasBefore 35 = .ok (.invokestatic 64, 3) := by decide +kernel
theorem d_Disk_commitWhatWasBefore_38 : decode b_Disk_commitWhatWasBefore 38 = .ok (.aload_n 0, 1) := by decide +kernel
theorem d_Disk_commitWhatWasBefore_39 : decode b_Disk_commitWhatWasBefore 39 = .ok (.iload_n 1, 1) := by decide +kernel
theorem d_Disk_commitWhatWasBefore_40 : decode b_Disk_commitWhatWasBefore 40 = .ok (.invokevirtual 61, 3) := by decide +kernel
theorem d_Disk_commitWhatWasBefore_43 : decode b_Disk_commitWhatWasBefore 43 = .ok (.ifCond .eq 15, 3) := by decide +kernel
theorem d_Disk_commitWhatWasBefore_46 : decode b_Disk_commitWhatWasBefore 46 = .ok (.aload_n 0, 1) := by decide +kernel
theorem d_Disk_commitWhatWasBefore_47 : decode b_Disk_commitWhatWasBefore 47 = .ok (.getfield 19, 3) := by decide +kernel
theorem d_Disk_commitWhatWasBefore_50 : decode b_Disk_commitWhatWasBefore 50 = .ok (.aload_n 0, 1) := by decide +kernel
theorem d_Disk_commitWhatWasBefore_51 : decode b_Disk_commitWhatWasBefore 51 = .ok (.getfield 15, 3) := by decide +kernel
theorem d_Disk_commitWhatWasBefore_54 : decode b_Disk_commitWhatWasBefore 54 = .ok (.iload_n 1, 1) := by decide +kernel
theorem d_Disk_commitWhatWasBefore_55 : decode b_Disk_commitWhatWasBefore 55 = .ok (.invokestatic 64, 3) := by decide +kernel
theorem d_Disk_commitWhatWasBefore_58 : decode b_Disk_commitWhatWasBefore 58 = .ok (.aload_n 0, 1) := by decide +kernel
theorem d_Disk_commitWhatWasBefore_59 : decode b_Disk_commitWhatWasBefore 59 = .ok (.iload_n 1, 1) := by decide +kernel
theorem d_Disk_commitWhatWasBefore_60 : decode b_Disk_commitWhatWasBefore 60 = .ok (.invokevirtual 68, 3) := by decide +kernel
theorem d_Disk_commitWhatWasBefore_63 : decode b_Disk_commitWhatWasBefore 63 = .ok (.iinc 1 1, 3) := by decide +kernel
theorem d_Disk_commitWhatWasBefore_66 : decode b_Disk_commitWhatWasBefore 66 = .ok (.goto (-64), 3) := by decide +kernel
theorem d_Disk_commitWhatWasBefore_69 : decode b_Disk_commitWhatWasBefore 69 = .ok (.aload_n 0, 1) := by decide +kernel
theorem d_Disk_commitWhatWasBefore_70 : decode b_Disk_commitWhatWasBefore 70 = .ok (.dup, 1) := by decide +kernel
theorem d_Disk_commitWhatWasBefore_71 : decode b_Disk_commitWhatWasBefore 71 = .ok (.getfield 32, 3) := by decide +kernel
theorem d_Disk_commitWhatWasBefore_74 : decode b_Disk_commitWhatWasBefore 74 = .ok (.iconst 1, 1) := by decide +kernel
theorem d_Disk_commitWhatWasBefore_75 : decode b_Disk_commitWhatWasBefore 75 = .ok (.iadd, 1) := by decide +kernel
theorem d_Disk_commitWhatWasBefore_76 : decode b_Disk_commitWhatWasBefore 76 = .ok (.putfield 32, 3) := by decide +kernel
theorem d_Disk_commitWhatWasBefore_79 : decode b_Disk_commitWhatWasBefore 79 = .ok (.return_, 1) := by decide +kernel
set_option maxHeartbeats 4000000 in
set_option maxRecDepth 100000 in
theorem c_Disk_commitWhatWasBefore (l : Launch) (D : va_G) (g : Nat → Nat) (k : Nat → ClassId) (L : Nat) (hL0 : 96 ≤ L) (hL : L ≤ 768) (u : DSt) : MuV l y_Disk_commitWhatWasBefore w_Disk_commitWhatWasBefore ({ frames := 2, cells := 0, slots := 0, locals := 82 }) [.ref (g 0)] D cl5 (tyC k) (wD g k L u) (wD g k L (cwb L u)) := by
  intro sz
  refine Met.ofW (cc := b_Disk_commitWhatWasBefore) (maxL := 2) (ret := none) (by decide) rfl ?_
  intro p e s m args below meth c s₁ B hml hv
  obtain ⟨rfl, hsz, hP, hK, hD0⟩ := hv
  have hx := B.exec
  have hb := B.bytes
  have hr := B.returns
  have hts := atoms_spec (ws := w_Disk_commitWhatWasBefore) B.pre
  have hTB : ∀ w ∈ lw_tb, w.before _ s = true := fun w h => hts w (List.mem_cons_of_mem _ h)
  have hown : s.vm.findClass R_Disk = some m.cls := findClass_of_methodNamed B.named
  have hlocks := B.notSynchronized
  subst hsz
  have hD := hD0.self (sz := s.heap.size)
  generalize hAe : va_A (wD g k L u) s.heap.size = A at hD ⊢
  have hA : ∀ q : Nat, s.heap.size ≤ q → A q := fun q h => by rw [← hAe]; exact Or.inr h
  have hS : va_S A s.heap s.heap [] := va_S.rf
  have hl := lv_entry ([.ref (g 0)]) (n := 2) (Nat.le_of_ble_eq_true rfl)
  rw [lg_entry_eq]
  generalize (lg_sl ([.ref (g 0)]) ++ List.replicate (2 - (lg_sl ([.ref (g 0)])).length) Slot.unset).toArray = ls at hl ⊢
  have hl : lv_has ls 2 [(0, .ref (g 0))] := hl
  refine lv_iconst (v := nI 0) hx hb d_Disk_commitWhatWasBefore_0 (by decide +kernel) ?_
  refine lv_istore_n (lv' := [(1, .int (nI 0)), (0, .ref (g 0))]) hx hb d_Disk_commitWhatWasBefore_1 rfl hl (by decide) rfl (fun ls hl => ?_)
  refine gz_loop 2 (fun (zz : (Nat × DSt)) H locs ls => match zz with | (b, v) => va_P D cl5 (wD g k L v) H ∧ va_D A (wD g k L v) ∧ va_S A s.heap H locs ∧ lv_has ls 2 [(0, .ref (g 0)), (1, .int (nI b))] ∧ (b ≤ L) ∧ (cwG L (L - b) b v = cwG L L 0 u)) (fun (zz : (Nat × DSt)) => match zz with | (b, v) => L - b) (fun zz H locs ls hI ih2 => ?_) (0, u) ⟨hP, hD, hS, lv_sub hl [1, 0] rfl, (by omega), rfl⟩
  obtain ⟨b, v⟩ := zz
  obtain ⟨hP, hD, hS, hl, hb1, hb2⟩ := hI
  refine lv_iload_n hx hb d_Disk_commitWhatWasBefore_2 rfl (lv_at hl 1 rfl) ?_
  refine lv_aload_n hx hb d_Disk_commitWhatWasBefore_3 rfl (lv_at hl 0 rfl) ?_
  refine va_get (D := D) (ci := 1) (v := .int (nI L)) (C := R_Disk) (T := T_Disk) (N := 7) hx hb hTB in_Disk hown hK hP 0 rfl rfl 0 (by decide) (hTB _ k_92) (fun _ h9 => h9) rfl d_Disk_commitWhatWasBefore_4 ?_
  refine gz_icmp_ge (tgt := 69) hx hb d_Disk_commitWhatWasBefore_7 (by decide) (by omega) (by omega) (fun h7 => ?_) (fun h7 => ?_)
  · have hb3 : b = L := by omega
    rw [hb3, Nat.sub_self] at hb2
    have hb2 : v = cwG L L 0 u := hb2
    refine lv_aload_n hx hb d_Disk_commitWhatWasBefore_69 rfl (lv_at hl 0 rfl) ?_
    refine lv_dup hx hb d_Disk_commitWhatWasBefore_70 rfl ?_
    refine va_get (D := D) (ci := 1) (v := .int (dEa v)) (C := R_Disk) (T := T_Disk) (N := 7) hx hb hTB in_Disk hown hK hP 0 rfl rfl 6 (by decide) (hTB _ k_98) (fun _ h9 => h9) rfl d_Disk_commitWhatWasBefore_71 ?_
    refine lv_iconst (v := nI 1) hx hb d_Disk_commitWhatWasBefore_74 (by decide +kernel) ?_
    refine lv_iadd hx hb d_Disk_commitWhatWasBefore_75 ?_
    refine va_put (D := D) (ci := 1) (v := .int ((dEa v) + (nI 1))) (ty := .int) (C := R_Disk) (T := T_Disk) (N := 7) hx hb hTB in_Disk t_Disk t_Disk_ok n_Disk hown hK hP hD hS 0 rfl rfl 6 (by decide) (hTB _ k_98) (fun _ h9 => h9) rfl (by decide +kernel) rfl rfl (Nat.le_of_ble_eq_true rfl) d_Disk_commitWhatWasBefore_76 (fun H locs hP hD hS => ?_)
    have hP : va_P D cl5 (wD g k L (sEa v ((dEa v) + (nI 1)))) H := hP
    have hD : va_D A (wD g k L (sEa v ((dEa v) + (nI 1)))) := hD
    have hP9 : va_P D cl5 (wD g k L (cwb L u)) H := (by unfold cwb; rw [← hb2]; exact hP)
    have hD9 : va_D A (wD g k L (cwb L u)) := (by unfold cwb; rw [← hb2]; exact hD)
    exact W.vret hx hb hr (fun tt9 ht9 hW9 => ⟨⟨(), rfl, trivial, ⟨by rw [ht9]; exact hP9, hD9⟩⟩, hS.F ht9⟩) hS.2.2 d_Disk_commitWhatWasBefore_79
  · refine lv_aload_n hx hb d_Disk_commitWhatWasBefore_10 rfl (lv_at hl 0 rfl) ?_
    refine va_get (D := D) (ci := 1) (v := .ref (g 4)) (C := R_Disk) (T := T_Disk) (N := 7) hx hb hTB in_Disk hown hK hP 0 rfl rfl 4 (by decide) (hTB _ k_96) (fun _ h9 => h9) rfl d_Disk_commitWhatWasBefore_11 ?_
    refine lv_iload_n hx hb d_Disk_commitWhatWasBefore_14 rfl (lv_at hl 1 rfl) ?_
    refine gz_zald hx hb hK hP 4 1 rfl rfl (i := b) (by omega) (by omega) d_Disk_commitWhatWasBefore_15 ?_
    refine gz_ifz_eq (tgt := 26) hx hb d_Disk_commitWhatWasBefore_16 (by decide) (fun h16 => ?_) (fun h16 => ?_)
    · refine lv_aload_n hx hb d_Disk_commitWhatWasBefore_26 rfl (lv_at hl 0 rfl) ?_
      refine va_get (D := D) (ci := 1) (v := .ref (g 1)) (C := R_Disk) (T := T_Disk) (N := 7) hx hb hTB in_Disk hown hK hP 0 rfl rfl 1 (by decide) (hTB _ k_93) (fun _ h9 => h9) rfl d_Disk_commitWhatWasBefore_27 ?_
      refine lv_aload_n hx hb d_Disk_commitWhatWasBefore_30 rfl (lv_at hl 0 rfl) ?_
      refine va_get (D := D) (ci := 1) (v := .ref (g 2)) (C := R_Disk) (T := T_Disk) (N := 7) hx hb hTB in_Disk hown hK hP 0 rfl rfl 2 (by decide) (hTB _ k_94) (fun _ h9 => h9) rfl d_Disk_commitWhatWasBefore_31 ?_
      refine lv_iload_n hx hb d_Disk_commitWhatWasBefore_34 rfl (lv_at hl 1 rfl) ?_
      refine gz_muS (As := [.ref (g 1), .ref (g 2), .int (nI b)]) (rest := []) (wc := (wA (g 1) (g 2) k L (dNow v) (dCom v))) (w1 := (wA (g 1) (g 2) k L (dNow v) (cpB (dNow v) (dCom v) b))) (wr := [(g 0, .inr (1, [.int (nI L), .ref (g 1), .ref (g 2), .ref (g 3), .ref (g 4), .ref (g 5), .int (dEa v)])), (g 3, .inl (k 0, L * 8, .inr (.inl (dBef v)))), (g 4, .inl (k 1, L, .inl (fun j => zI (dTou v j)))), (g 5, .inl (k 1, L, .inl (fun j => zI (dDif v j))))]) ⟨hx, hb, hml, hown, hTB⟩ (c_Disk_copyBlock l D (g 1) (g 2) k L hL0 hL (dNow v) (dCom v) b (by omega)) (cwS 3 hTB (gd_S k_172 k_173 k_52 k_174) rfl rfl rfl (by decide +kernel) ⟨Nat.le_of_ble_eq_true rfl, Nat.le_of_ble_eq_true rfl⟩) hK hP hD hA [1, 2] [0, 3, 4, 5] rfl rfl (by decide) rfl (by decide) (by decide) rfl hl.1 rfl (Nat.le_of_ble_eq_true rfl) d_Disk_commitWhatWasBefore_35 ⟨Nat.zero_le _, Nat.zero_le _⟩ hS (fun H locs hP hD hS => ?_)
      have hP : va_P D cl5 (wD g k L (sCom v (cpB (dNow v) (dCom v) b))) H := hP.sub [0, 4, 5, 1, 2, 3] rfl
      have hD : va_D A (wD g k L (sCom v (cpB (dNow v) (dCom v) b))) := hD.sub [0, 4, 5, 1, 2, 3] (by decide) rfl
      refine lv_aload_n hx hb d_Disk_commitWhatWasBefore_38 rfl (lv_at hl 0 rfl) ?_
      refine lv_iload_n hx hb d_Disk_commitWhatWasBefore_39 rfl (lv_at hl 1 rfl) ?_
      refine gz_roV (As := [.int (nI b)]) (rest := []) (wc := (wD g k L (sCom v (cpB (dNow v) (dCom v) b)))) ⟨hx, hb, hml, hown, hTB⟩ (c_Disk_isFree l D g k L hL0 hL (sCom v (cpB (dNow v) (dCom v) b)) (nI b)) (cwV 1 hTB (gd_V k_175 k_176 k_177 k_52 k_178) rfl rfl rfl (by decide +kernel) ⟨Nat.le_of_ble_eq_true rfl, Nat.le_of_ble_eq_true rfl⟩) hK hP [0, 1, 2, 3, 4, 5] rfl 0 rfl rfl rfl hl.1 rfl (Nat.le_of_ble_eq_true rfl) d_Disk_commitWhatWasBefore_40 ⟨Nat.zero_le _, Nat.zero_le _⟩ hS (fun H locs hP hS => ?_)
      refine gz_ifz_eq (tgt := 58) hx hb d_Disk_commitWhatWasBefore_43 (by decide) (fun h43 => ?_) (fun h43 => ?_)
      · refine lv_aload_n hx hb d_Disk_commitWhatWasBefore_58 rfl (lv_at hl 0 rfl) ?_
        refine lv_iload_n hx hb d_Disk_commitWhatWasBefore_59 rfl (lv_at hl 1 rfl) ?_
        refine gz_muV (As := [.int (nI b)]) (rest := []) (wc := (wD g k L (sCom v (cpB (dNow v) (dCom v) b)))) (w1 := (wD g k L (cmp (sCom v (cpB (dNow v) (dCom v) b)) b))) (wr := ([])) ⟨hx, hb, hml, hown, hTB⟩ (c_Disk_compare l D g k L hL0 hL (sCom v (cpB (dNow v) (dCom v) b)) b (by omega)) (cwV 1 hTB (gd_V k_160 k_162 k_2 k_52 k_163) rfl rfl rfl (by decide +kernel) ⟨Nat.le_of_ble_eq_true rfl, Nat.le_of_ble_eq_true rfl⟩) hK hP hD hA [0, 1, 2, 3, 4, 5] [] rfl rfl (by decide) rfl (by decide) (by decide) 0 rfl rfl rfl hl.1 rfl (Nat.le_of_ble_eq_true rfl) d_Disk_commitWhatWasBefore_60 ⟨Nat.zero_le _, Nat.zero_le _⟩ hS (fun H locs hP hD hS => ?_)
        have hP : va_P D cl5 (wD g k L (cmp (sCom v (cpB (dNow v) (dCom v) b)) b)) H := hP
        have hD : va_D A (wD g k L (cmp (sCom v (cpB (dNow v) (dCom v) b)) b)) := hD
        refine lv_iinc (v := nI (b + 1)) (lv' := [(1, .int (nI (b + 1))), (0, .ref (g 0))]) hx hb d_Disk_commitWhatWasBefore_63 hl (k := 1) rfl (nI_add b 1) (by decide) rfl (fun ls hl => ?_)
        refine lv_goto (tgt := 2) hx hb d_Disk_commitWhatWasBefore_66 (by decide) ?_
        exact ih2 (b + 1, cmp (sCom v (cpB (dNow v) (dCom v) b)) b) _ _ _ (by first | omega | (dsimp only; omega)) ⟨hP, hD, hS, lv_sub hl [1, 0] rfl, (by omega), (by rw [← hb2, show L - b = (L - (b + 1)) + 1 by omega]; rw [cwG_s]; first | rw [cw1_tt h16 (by rw [← frB_in (L := L) (by omega) hL]; exact h43)] | rw [cw1_tf h16 (by rw [← frB_in (L := L) (by omega) hL]; exact h43)] | rw [cw1_ft h16 (by rw [← frB_in (L := L) (by omega) hL]; exact h43)] | rw [cw1_ff h16 (by rw [← frB_in (L := L) (by omega) hL]; exact h43)])⟩
      · refine lv_aload_n hx hb d_Disk_commitWhatWasBefore_46 rfl (lv_at hl 0 rfl) ?_
        refine va_get (D := D) (ci := 1) (v := .ref (g 2)) (C := R_Disk) (T := T_Disk) (N := 7) hx hb hTB in_Disk hown hK hP 0 rfl rfl 2 (by decide) (hTB _ k_94) (fun _ h9 => h9) rfl d_Disk_commitWhatWasBefore_47 ?_
        refine lv_aload_n hx hb d_Disk_commitWhatWasBefore_50 rfl (lv_at hl 0 rfl) ?_
        refine va_get (D := D) (ci := 1) (v := .ref (g 1)) (C := R_Disk) (T := T_Disk) (N := 7) hx hb hTB in_Disk hown hK hP 0 rfl rfl 1 (by decide) (hTB _ k_93) (fun _ h9 => h9) rfl d_Disk_commitWhatWasBefore_51 ?_
        refine lv_iload_n hx hb d_Disk_commitWhatWasBefore_54 rfl (lv_at hl 1 rfl) ?_
        refine gz_muS (As := [.ref (g 2), .ref (g 1), .int (nI b)]) (rest := []) (wc := (wA (g 2) (g 1) k L (dCom (sCom v (cpB (dNow v) (dCom v) b))) (dNow (sCom v (cpB (dNow v) (dCom v) b))))) (w1 := (wA (g 2) (g 1) k L (dCom (sCom v (cpB (dNow v) (dCom v) b))) (cpB (dCom (sCom v (cpB (dNow v) (dCom v) b))) (dNow (sCom v (cpB (dNow v) (dCom v) b))) b))) (wr := [(g 0, .inr (1, [.int (nI L), .ref (g 1), .ref (g 2), .ref (g 3), .ref (g 4), .ref (g 5), .int (dEa (sCom v (cpB (dNow v) (dCom v) b)))])), (g 3, .inl (k 0, L * 8, .inr (.inl (dBef (sCom v (cpB (dNow v) (dCom v) b)))))), (g 4, .inl (k 1, L, .inl (fun j => zI (dTou (sCom v (cpB (dNow v) (dCom v) b)) j)))), (g 5, .inl (k 1, L, .inl (fun j => zI (dDif (sCom v (cpB (dNow v) (dCom v) b)) j))))]) ⟨hx, hb, hml, hown, hTB⟩ (c_Disk_copyBlock l D (g 2) (g 1) k L hL0 hL (dCom (sCom v (cpB (dNow v) (dCom v) b))) (dNow (sCom v (cpB (dNow v) (dCom v) b))) b (by omega)) (cwS 3 hTB (gd_S k_172 k_173 k_52 k_174) rfl rfl rfl (by decide +kernel) ⟨Nat.le_of_ble_eq_true rfl, Nat.le_of_ble_eq_true rfl⟩) hK hP hD hA [2, 1] [0, 3, 4, 5] rfl rfl (by decide) rfl (by decide) (by decide) rfl hl.1 rfl (Nat.le_of_ble_eq_true rfl) d_Disk_commitWhatWasBefore_55 ⟨Nat.zero_le _, Nat.zero_le _⟩ hS (fun H locs hP hD hS => ?_)
        have hP : va_P D cl5 (wD g k L (sNow (sCom v (cpB (dNow v) (dCom v) b)) (cpB (dCom (sCom v (cpB (dNow v) (dCom v) b))) (dNow (sCom v (cpB (dNow v) (dCom v) b))) b))) H := hP.sub [0, 5, 4, 1, 2, 3] rfl
        have hD : va_D A (wD g k L (sNow (sCom v (cpB (dNow v) (dCom v) b)) (cpB (dCom (sCom v (cpB (dNow v) (dCom v) b))) (dNow (sCom v (cpB (dNow v) (dCom v) b))) b))) := hD.sub [0, 5, 4, 1, 2, 3] (by decide) rfl
        refine lv_aload_n hx hb d_Disk_commitWhatWasBefore_58 rfl (lv_at hl 0 rfl) ?_
        refine lv_iload_n hx hb d_Disk_commitWhatWasBefore_59 rfl (lv_at hl 1 rfl) ?_
        refine gz_muV (As := [.int (nI b)]) (rest := []) (wc := (wD g k L (sNow (sCom v (cpB (dNow v) (dCom v) b)) (cpB (dCom (sCom v (cpB (dNow v) (dCom v) b))) (dNow (sCom v (cpB (dNow v) (dCom v) b))) b)))) (w1 := (wD g k L (cmp (sNow (sCom v (cpB (dNow v) (dCom v) b)) (cpB (dCom (sCom v (cpB (dNow v) (dCom v) b))) (dNow (sCom v (cpB (dNow v) (dCom v) b))) b)) b))) (wr := ([])) ⟨hx, hb, hml, hown, hTB⟩ (c_Disk_compare l D g k L hL0 hL (sNow (sCom v (cpB (dNow v) (dCom v) b)) (cpB (dCom (sCom v (cpB (dNow v) (dCom v) b))) (dNow (sCom v (cpB (dNow v) (dCom v) b))) b)) b (by omega)) (cwV 1 hTB (gd_V k_160 k_162 k_2 k_52 k_163) rfl rfl rfl (by decide +kernel) ⟨Nat.le_of_ble_eq_true rfl, Nat.le_of_ble_eq_true rfl⟩) hK hP hD hA [0, 1, 2, 3, 4, 5] [] rfl rfl (by decide) rfl (by decide) (by decide) 0 rfl rfl rfl hl.1 rfl (Nat.le_of_ble_eq_true rfl) d_Disk_commitWhatWasBefore_60 ⟨Nat.zero_le _, Nat.zero_le _⟩ hS (fun H locs hP hD hS => ?_)
        have hP : va_P D cl5 (wD g k L (cmp (sNow (sCom v (cpB (dNow v) (dCom v) b)) (cpB (dCom (sCom v (cpB (dNow v) (dCom v) b))) (dNow (sCom v (cpB (dNow v) (dCom v) b))) b)) b)) H := hP
        have hD : va_D A (wD g k L (cmp (sNow (sCom v (cpB (dNow v) (dCom v) b)) (cpB (dCom (sCom v (cpB (dNow v) (dCom v) b))) (dNow (sCom v (cpB (dNow v) (dCom v) b))) b)) b)) := hD
        refine lv_iinc (v := nI (b + 1)) (lv' := [(1, .int (nI (b + 1))), (0, .ref (g 0))]) hx hb d_Disk_commitWhatWasBefore_63 hl (k := 1) rfl (nI_add b 1) (by decide) rfl (fun ls hl => ?_)
        refine lv_goto (tgt := 2) hx hb d_Disk_commitWhatWasBefore_66 (by decide) ?_
        exact ih2 (b + 1, cmp (sNow (sCom v (cpB (dNow v) (dCom v) b)) (cpB (dCom (sCom v (cpB (dNow v) (dCom v) b))) (dNow (sCom v (cpB (dNow v) (dCom v) b))) b)) b) _ _ _ (by first | omega | (dsimp only; omega)) ⟨hP, hD, hS, lv_sub hl [1, 0] rfl, (by omega), (by rw [← hb2, show L - b = (L - (b + 1)) + 1 by omega]; rw [cwG_s]; first | rw [cw1_tt h16 (by rw [← frB_in (L := L) (by omega) hL]; exact h43)] | rw [cw1_tf h16 (by rw [← frB_in (L := L) (by omega) hL]; exact h43)] | rw [cw1_ft h16 (by rw [← frB_in (L := L) (by omega) hL]; exact h43)] | rw [cw1_ff h16 (by rw [← frB_in (L := L) (by omega) hL]; exact h43)])⟩
    · refine lv_aload_n hx hb d_Disk_commitWhatWasBefore_19 rfl (lv_at hl 0 rfl) ?_
      refine va_get (D := D) (ci := 1) (v := .ref (g 3)) (C := R_Disk) (T := T_Disk) (N := 7) hx hb hTB in_Disk hown hK hP 0 rfl rfl 3 (by decide) (hTB _ k_95) (fun _ h9 => h9) rfl d_Disk_commitWhatWasBefore_20 ?_
      refine lv_goto (tgt := 30) hx hb d_Disk_commitWhatWasBefore_23 (by decide) ?_
      refine lv_aload_n hx hb d_Disk_commitWhatWasBefore_30 rfl (lv_at hl 0 rfl) ?_
      refine va_get (D := D) (ci := 1) (v := .ref (g 2)) (C := R_Disk) (T := T_Disk) (N := 7) hx hb hTB in_Disk hown hK hP 0 rfl rfl 2 (by decide) (hTB _ k_94) (fun _ h9 => h9) rfl d_Disk_commitWhatWasBefore_31 ?_
      refine lv_iload_n hx hb d_Disk_commitWhatWasBefore_34 rfl (lv_at hl 1 rfl) ?_
      refine gz_muS (As := [.ref (g 3), .ref (g 2), .int (nI b)]) (rest := []) (wc := (wA (g 3) (g 2) k L (dBef v) (dCom v))) (w1 := (wA (g 3) (g 2) k L (dBef v) (cpB (dBef v) (dCom v) b))) (wr := [(g 0, .inr (1, [.int (nI L), .ref (g 1), .ref (g 2), .ref (g 3), .ref (g 4), .ref (g 5), .int (dEa v)])), (g 1, .inl (k 0, L * 8, .inr (.inl (dNow v)))), (g 4, .inl (k 1, L, .inl (fun j => zI (dTou v j)))), (g 5, .inl (k 1, L, .inl (fun j => zI (dDif v j))))]) ⟨hx, hb, hml, hown, hTB⟩ (c_Disk_copyBlock l D (g 3) (g 2) k L hL0 hL (dBef v) (dCom v) b (by omega)) (cwS 3 hTB (gd_S k_172 k_173 k_52 k_174) rfl rfl rfl (by decide +kernel) ⟨Nat.le_of_ble_eq_true rfl, Nat.le_of_ble_eq_true rfl⟩) hK hP hD hA [3, 2] [0, 1, 4, 5] rfl rfl (by decide) rfl (by decide) (by decide) rfl hl.1 rfl (Nat.le_of_ble_eq_true rfl) d_Disk_commitWhatWasBefore_35 ⟨Nat.zero_le _, Nat.zero_le _⟩ hS (fun H locs hP hD hS => ?_)
      have hP : va_P D cl5 (wD g k L (sCom v (cpB (dBef v) (dCom v) b))) H := hP.sub [0, 1, 5, 4, 2, 3] rfl
      have hD : va_D A (wD g k L (sCom v (cpB (dBef v) (dCom v) b))) := hD.sub [0, 1, 5, 4, 2, 3] (by decide) rfl
      refine lv_aload_n hx hb d_Disk_commitWhatWasBefore_38 rfl (lv_at hl 0 rfl) ?_
      refine lv_iload_n hx hb d_Disk_commitWhatWasBefore_39 rfl (lv_at hl 1 rfl) ?_
      refine gz_roV (As := [.int (nI b)]) (rest := []) (wc := (wD g k L (sCom v (cpB (dBef v) (dCom v) b)))) ⟨hx, hb, hml, hown, hTB⟩ (c_Disk_isFree l D g k L hL0 hL (sCom v (cpB (dBef v) (dCom v) b)) (nI b)) (cwV 1 hTB (gd_V k_175 k_176 k_177 k_52 k_178) rfl rfl rfl (by decide +kernel) ⟨Nat.le_of_ble_eq_true rfl, Nat.le_of_ble_eq_true rfl⟩) hK hP [0, 1, 2, 3, 4, 5] rfl 0 rfl rfl rfl hl.1 rfl (Nat.le_of_ble_eq_true rfl) d_Disk_commitWhatWasBefore_40 ⟨Nat.zero_le _, Nat.zero_le _⟩ hS (fun H locs hP hS => ?_)
      refine gz_ifz_eq (tgt := 58) hx hb d_Disk_commitWhatWasBefore_43 (by decide) (fun h43 => ?_) (fun h43 => ?_)
      · refine lv_aload_n hx hb d_Disk_commitWhatWasBefore_58 rfl (lv_at hl 0 rfl) ?_
        refine lv_iload_n hx hb d_Disk_commitWhatWasBefore_59 rfl (lv_at hl 1 rfl) ?_
        refine gz_muV (As := [.int (nI b)]) (rest := []) (wc := (wD g k L (sCom v (cpB (dBef v) (dCom v) b)))) (w1 := (wD g k L (cmp (sCom v (cpB (dBef v) (dCom v) b)) b))) (wr := ([])) ⟨hx, hb, hml, hown, hTB⟩ (c_Disk_compare l D g k L hL0 hL (sCom v (cpB (dBef v) (dCom v) b)) b (by omega)) (cwV 1 hTB (gd_V k_160 k_162 k_2 k_52 k_163) rfl rfl rfl (by decide +kernel) ⟨Nat.le_of_ble_eq_true rfl, Nat.le_of_ble_eq_true rfl⟩) hK hP hD hA [0, 1, 2, 3, 4, 5] [] rfl rfl (by decide) rfl (by decide) (by decide) 0 rfl rfl rfl hl.1 rfl (Nat.le_of_ble_eq_true rfl) d_Disk_commitWhatWasBefore_60 ⟨Nat.zero_le _, Nat.zero_le _⟩ hS (fun H locs hP hD hS => ?_)
        have hP : va_P D cl5 (wD g k L (cmp (sCom v (cpB (dBef v) (dCom v) b)) b)) H := hP
        have hD : va_D A (wD g k L (cmp (sCom v (cpB (dBef v) (dCom v) b)) b)) := hD
        refine lv_iinc (v := nI (b + 1)) (lv' := [(1, .int (nI (b + 1))), (0, .ref (g 0))]) hx hb d_Disk_commitWhatWasBefore_63 hl (k := 1) rfl (nI_add b 1) (by decide) rfl (fun ls hl => ?_)
        refine lv_goto (tgt := 2) hx hb d_Disk_commitWhatWasBefore_66 (by decide) ?_
        exact ih2 (b + 1, cmp (sCom v (cpB (dBef v) (dCom v) b)) b) _ _ _ (by first | omega | (dsimp only; omega)) ⟨hP, hD, hS, lv_sub hl [1, 0] rfl, (by omega), (by rw [← hb2, show L - b = (L - (b + 1)) + 1 by omega]; rw [cwG_s]; first | rw [cw1_tt h16 (by rw [← frB_in (L := L) (by omega) hL]; exact h43)] | rw [cw1_tf h16 (by rw [← frB_in (L := L) (by omega) hL]; exact h43)] | rw [cw1_ft h16 (by rw [← frB_in (L := L) (by omega) hL]; exact h43)] | rw [cw1_ff h16 (by rw [← frB_in (L := L) (by omega) hL]; exact h43)])⟩
      · refine lv_aload_n hx hb d_Disk_commitWhatWasBefore_46 rfl (lv_at hl 0 rfl) ?_
        refine va_get (D := D) (ci := 1) (v := .ref (g 2)) (C := R_Disk) (T := T_Disk) (N := 7) hx hb hTB in_Disk hown hK hP 0 rfl rfl 2 (by decide) (hTB _ k_94) (fun _ h9 => h9) rfl d_Disk_commitWhatWasBefore_47 ?_
        refine lv_aload_n hx hb d_Disk_commitWhatWasBefore_50 rfl (lv_at hl 0 rfl) ?_
        refine va_get (D := D) (ci := 1) (v := .ref (g 1)) (C := R_Disk) (T := T_Disk) (N := 7) hx hb hTB in_Disk hown hK hP 0 rfl rfl 1 (by decide) (hTB _ k_93) (fun _ h9 => h9) rfl d_Disk_commitWhatWasBefore_51 ?_
        refine lv_iload_n hx hb d_Disk_commitWhatWasBefore_54 rfl (lv_at hl 1 rfl) ?_
        refine gz_muS (As := [.ref (g 2), .ref (g 1), .int (nI b)]) (rest := []) (wc := (wA (g 2) (g 1) k L (dCom (sCom v (cpB (dBef v) (dCom v) b))) (dNow (sCom v (cpB (dBef v) (dCom v) b))))) (w1 := (wA (g 2) (g 1) k L (dCom (sCom v (cpB (dBef v) (dCom v) b))) (cpB (dCom (sCom v (cpB (dBef v) (dCom v) b))) (dNow (sCom v (cpB (dBef v) (dCom v) b))) b))) (wr := [(g 0, .inr (1, [.int (nI L), .ref (g 1), .ref (g 2), .ref (g 3), .ref (g 4), .ref (g 5), .int (dEa (sCom v (cpB (dBef v) (dCom v) b)))])), (g 3, .inl (k 0, L * 8, .inr (.inl (dBef (sCom v (cpB (dBef v) (dCom v) b)))))), (g 4, .inl (k 1, L, .inl (fun j => zI (dTou (sCom v (cpB (dBef v) (dCom v) b)) j)))), (g 5, .inl (k 1, L, .inl (fun j => zI (dDif (sCom v (cpB (dBef v) (dCom v) b)) j))))]) ⟨hx, hb, hml, hown, hTB⟩ (c_Disk_copyBlock l D (g 2) (g 1) k L hL0 hL (dCom (sCom v (cpB (dBef v) (dCom v) b))) (dNow (sCom v (cpB (dBef v) (dCom v) b))) b (by omega)) (cwS 3 hTB (gd_S k_172 k_173 k_52 k_174) rfl rfl rfl (by decide +kernel) ⟨Nat.le_of_ble_eq_true rfl, Nat.le_of_ble_eq_true rfl⟩) hK hP hD hA [2, 1] [0, 3, 4, 5] rfl rfl (by decide) rfl (by decide) (by decide) rfl hl.1 rfl (Nat.le_of_ble_eq_true rfl) d_Disk_commitWhatWasBefore_55 ⟨Nat.zero_le _, Nat.zero_le _⟩ hS (fun H locs hP hD hS => ?_)
        have hP : va_P D cl5 (wD g k L (sNow (sCom v (cpB (dBef v) (dCom v) b)) (cpB (dCom (sCom v (cpB (dBef v) (dCom v) b))) (dNow (sCom v (cpB (dBef v) (dCom v) b))) b))) H := hP.sub [0, 5, 4, 1, 2, 3] rfl
        have hD : va_D A (wD g k L (sNow (sCom v (cpB (dBef v) (dCom v) b)) (cpB (dCom (sCom v (cpB (dBef v) (dCom v) b))) (dNow (sCom v (cpB (dBef v) (dCom v) b))) b))) := hD.sub [0, 5, 4, 1, 2, 3] (by decide) rfl
        refine lv_aload_n hx hb d_Disk_commitWhatWasBefore_58 rfl (lv_at hl 0 rfl) ?_
        refine lv_iload_n hx hb d_Disk_commitWhatWasBefore_59 rfl (lv_at hl 1 rfl) ?_
        refine gz_muV (As := [.int (nI b)]) (rest := []) (wc := (wD g k L (sNow (sCom v (cpB (dBef v) (dCom v) b)) (cpB (dCom (sCom v (cpB (dBef v) (dCom v) b))) (dNow (sCom v (cpB (dBef v) (dCom v) b))) b)))) (w1 := (wD g k L (cmp (sNow (sCom v (cpB (dBef v) (dCom v) b)) (cpB (dCom (sCom v (cpB (dBef v) (dCom v) b))) (dNow (sCom v (cpB (dBef v) (dCom v) b))) b)) b))) (wr := ([])) ⟨hx, hb, hml, hown, hTB⟩ (c_Disk_compare l D g k L hL0 hL (sNow (sCom v (cpB (dBef v) (dCom v) b)) (cpB (dCom (sCom v (cpB (dBef v) (dCom v) b))) (dNow (sCom v (cpB (dBef v) (dCom v) b))) b)) b (by omega)) (cwV 1 hTB (gd_V k_160 k_162 k_2 k_52 k_163) rfl rfl rfl (by decide +kernel) ⟨Nat.le_of_ble_eq_true rfl, Nat.le_of_ble_eq_true rfl⟩) hK hP hD hA [0, 1, 2, 3, 4, 5] [] rfl rfl (by decide) rfl (by decide) (by decide) 0 rfl rfl rfl hl.1 rfl (Nat.le_of_ble_eq_true rfl) d_Disk_commitWhatWasBefore_60 ⟨Nat.zero_le _, Nat.zero_le _⟩ hS (fun H locs hP hD hS => ?_)
        have hP : va_P D cl5 (wD g k L (cmp (sNow (sCom v (cpB (dBef v) (dCom v) b)) (cpB (dCom (sCom v (cpB (dBef v) (dCom v) b))) (dNow (sCom v (cpB (dBef v) (dCom v) b))) b)) b)) H := hP
        have hD : va_D A (wD g k L (cmp (sNow (sCom v (cpB (dBef v) (dCom v) b)) (cpB (dCom (sCom v (cpB (dBef v) (dCom v) b))) (dNow (sCom v (cpB (dBef v) (dCom v) b))) b)) b)) := hD
        refine lv_iinc (v := nI (b + 1)) (lv' := [(1, .int (nI (b + 1))), (0, .ref (g 0))]) hx hb d_Disk_commitWhatWasBefore_63 hl (k := 1) rfl (nI_add b 1) (by decide) rfl (fun ls hl => ?_)
        refine lv_goto (tgt := 2) hx hb d_Disk_commitWhatWasBefore_66 (by decide) ?_
        exact ih2 (b + 1, cmp (sNow (sCom v (cpB (dBef v) (dCom v) b)) (cpB (dCom (sCom v (cpB (dBef v) (dCom v) b))) (dNow (sCom v (cpB (dBef v) (dCom v) b))) b)) b) _ _ _ (by first | omega | (dsimp only; omega)) ⟨hP, hD, hS, lv_sub hl [1, 0] rfl, (by omega), (by rw [← hb2, show L - b = (L - (b + 1)) + 1 by omega]; rw [cwG_s]; first | rw [cw1_tt h16 (by rw [← frB_in (L := L) (by omega) hL]; exact h43)] | rw [cw1_tf h16 (by rw [← frB_in (L := L) (by omega) hL]; exact h43)] | rw [cw1_ft h16 (by rw [← frB_in (L := L) (by omega) hL]; exact h43)] | rw [cw1_ff h16 (by rw [← frB_in (L := L) (by omega) hL]; exact h43)])⟩
theorem d_Disk_settle_0 : decode b_Disk_settle 0 = .ok (.iconst 0, 1) := by decide +kernel
theorem d_Disk_settle_1 : decode b_Disk_settle 1 = .ok (.istore_n 1, 1) := by decide +kernel
theorem d_Disk_settle_2 : decode b_Disk_settle 2 = .ok (.iload_n 1, 1) := by decide +kernel
theorem d_Disk_settle_3 : decode b_Disk_settle 3 = .ok (.aload_n 0, 1) := by decide +kernel
theorem d_Disk_settle_4 : decode b_Disk_settle 4 = .ok (.getfield 9, 3) := by decide +kernel
theorem d_Disk_settle_7 : decode b_Disk_settle 7 = .ok (.if_icmp .ge 23, 3) := by decide +kernel
theorem d_Disk_settle_10 : decode b_Disk_settle 10 = .ok (.aload_n 0, 1) := by decide +kernel
theorem d_Disk_settle_11 : decode b_Disk_settle 11 = .ok (.getfield 25, 3) := by decide +kernel
theorem d_Disk_settle_14 : decode b_Disk_settle 14 = .ok (.iload_n 1, 1) := by decide +kernel
theorem d_Disk_settle_15 : decode b_Disk_settle 15 = .ok (.baload, 1) := by decide +kernel
theorem d_Disk_settle_16 : decode b_Disk_settle 16 = .ok (.ifCond .eq 8, 3) := by decide +kernel
theorem d_Disk_settle_19 : decode b_Disk_settle 19 = .ok (.aload_n 0, 1) := by decide +kernel
theorem d_Disk_settle_20 : decode b_Disk_settle 20 = .ok (.iload_n 1, 1) := by decide +kernel
theorem d_Disk_settle_21 : decode b_Disk_settle 21 = .ok (.invokevirtual 68, 3) := by decide +kernel
theorem d_Disk_settle_24 : decode b_Disk_settle 24 = .ok (.iinc 1 1, 3) := by decide +kernel
theorem d_Disk_settle_27 : decode b_Disk_settle 27 = .ok (.goto (-25), 3) := by decide +kernel
theorem d_Disk_settle_30 : decode b_Disk_settle 30 = .ok (.aload_n 0, 1) := by decide +kernel
theorem d_Disk_settle_31 : decode b_Disk_settle 31 = .ok (.invokevirtual 71, 3) := by decide +kernel
theorem d_Disk_settle_34 : decode b_Disk_settle 34 = .ok (.bipush 24, 2) := by decide +kernel
theorem d_Disk_settle_36 : decode b_Disk_settle 36 = .ok (.if_icmp .le 7, 3) := by decide +kernel
theorem d_Disk_settle_39 : decode b_Disk_settle 39 = .ok (.aload_n 0, 1) := by decide +kernel
theorem d_Disk_settle_40 : decode b_Disk_settle 40 = .ok (.invokevirtual 75, 3) := by decide +kernel
theorem d_Disk_settle_43 : decode b_Disk_settle 43 = .ok (.aload_n 0, 1) := by decide +kernel
theorem d_Disk_settle_44 : decode b_Disk_settle 44 = .ok (.invokevirtual 78, 3) := by decide +kernel
theorem d_Disk_settle_47 : decode b_Disk_settle 47 = .ok (.return_, 1) := by decide +kernel
set_option maxHeartbeats 4000000 in
set_option maxRecDepth 100000 in
theorem c_Disk_settle (l : Launch) (D : va_G) (g : Nat → Nat) (k : Nat → ClassId) (L : Nat) (hL0 : 96 ≤ L) (hL : L ≤ 768) (u : DSt) : MuV l y_Disk_settle w_Disk_settle ({ frames := 3, cells := 0, slots := 0, locals := 103 }) [.ref (g 0)] D cl5 (tyC k) (wD g k L u) (wD g k L (stl L u)) := by
  intro sz
  refine Met.ofW (cc := b_Disk_settle) (maxL := 2) (ret := none) (by decide) rfl ?_
  intro p e s m args below meth c s₁ B hml hv
  obtain ⟨rfl, hsz, hP, hK, hD0⟩ := hv
  have hx := B.exec
  have hb := B.bytes
  have hr := B.returns
  have hts := atoms_spec (ws := w_Disk_settle) B.pre
  have hTB : ∀ w ∈ lw_tb, w.before _ s = true := fun w h => hts w (List.mem_cons_of_mem _ h)
  have hown : s.vm.findClass R_Disk = some m.cls := findClass_of_methodNamed B.named
  have hlocks := B.notSynchronized
  subst hsz
  have hD := hD0.self (sz := s.heap.size)
  generalize hAe : va_A (wD g k L u) s.heap.size = A at hD ⊢
  have hA : ∀ q : Nat, s.heap.size ≤ q → A q := fun q h => by rw [← hAe]; exact Or.inr h
  have hS : va_S A s.heap s.heap [] := va_S.rf
  have hl := lv_entry ([.ref (g 0)]) (n := 2) (Nat.le_of_ble_eq_true rfl)
  rw [lg_entry_eq]
  generalize (lg_sl ([.ref (g 0)]) ++ List.replicate (2 - (lg_sl ([.ref (g 0)])).length) Slot.unset).toArray = ls at hl ⊢
  have hl : lv_has ls 2 [(0, .ref (g 0))] := hl
  refine lv_iconst (v := nI 0) hx hb d_Disk_settle_0 (by decide +kernel) ?_
  refine lv_istore_n (lv' := [(1, .int (nI 0)), (0, .ref (g 0))]) hx hb d_Disk_settle_1 rfl hl (by decide) rfl (fun ls hl => ?_)
  refine gz_loop 2 (fun (zz : (Nat × DSt)) H locs ls => match zz with | (b, v) => va_P D cl5 (wD g k L v) H ∧ va_D A (wD g k L v) ∧ va_S A s.heap H locs ∧ lv_has ls 2 [(0, .ref (g 0)), (1, .int (nI b))] ∧ (b ≤ L) ∧ (stG (L - b) b v = stG L 0 u)) (fun (zz : (Nat × DSt)) => match zz with | (b, v) => L - b) (fun zz H locs ls hI ih2 => ?_) (0, u) ⟨hP, hD, hS, lv_sub hl [1, 0] rfl, (by omega), rfl⟩
  obtain ⟨b, v⟩ := zz
  obtain ⟨hP, hD, hS, hl, hb1, hb2⟩ := hI
  refine lv_iload_n hx hb d_Disk_settle_2 rfl (lv_at hl 1 rfl) ?_
  refine lv_aload_n hx hb d_Disk_settle_3 rfl (lv_at hl 0 rfl) ?_
  refine va_get (D := D) (ci := 1) (v := .int (nI L)) (C := R_Disk) (T := T_Disk) (N := 7) hx hb hTB in_Disk hown hK hP 0 rfl rfl 0 (by decide) (hTB _ k_92) (fun _ h9 => h9) rfl d_Disk_settle_4 ?_
  refine gz_icmp_ge (tgt := 30) hx hb d_Disk_settle_7 (by decide) (by omega) (by omega) (fun h7 => ?_) (fun h7 => ?_)
  · have hb3 : b = L := by omega
    rw [hb3, Nat.sub_self] at hb2
    have hb2 : v = stG L 0 u := hb2
    refine lv_aload_n hx hb d_Disk_settle_30 rfl (lv_at hl 0 rfl) ?_
    refine gz_roV (As := []) (rest := []) (wc := (wD g k L v)) ⟨hx, hb, hml, hown, hTB⟩ (c_Disk_differingBlocks l D g k L hL0 hL v) (cwV 0 hTB (gd_V k_164 k_165 k_166 k_52 k_167) rfl rfl rfl (by decide +kernel) ⟨Nat.le_of_ble_eq_true rfl, Nat.le_of_ble_eq_true rfl⟩) hK hP [0, 1, 2, 3, 4, 5] rfl 0 rfl rfl rfl hl.1 rfl (Nat.le_of_ble_eq_true rfl) d_Disk_settle_31 ⟨Nat.zero_le _, Nat.zero_le _⟩ hS (fun H locs hP hS => ?_)
    have := dcG_le (dDif v) L 0
    have : dct L (dDif v) ≤ L := this
    refine lv_bipush (v := nI 24) hx hb d_Disk_settle_34 (by decide +kernel) ?_
    refine gz_icmp_le (tgt := 43) hx hb d_Disk_settle_36 (by decide) (by omega) (by omega) (fun h36 => ?_) (fun h36 => ?_)
    · refine lv_aload_n hx hb d_Disk_settle_43 rfl (lv_at hl 0 rfl) ?_
      refine gz_muV (As := []) (rest := []) (wc := (wD g k L v)) (w1 := (wD g k L (fgt L v))) (wr := ([])) ⟨hx, hb, hml, hown, hTB⟩ (c_Disk_forgetTouched l D g k L hL0 hL v) (cwV 0 hTB (gd_V k_183 k_185 k_5 k_52 k_186) rfl rfl rfl (by decide +kernel) ⟨Nat.le_of_ble_eq_true rfl, Nat.le_of_ble_eq_true rfl⟩) hK hP hD hA [0, 1, 2, 3, 4, 5] [] rfl rfl (by decide) rfl (by decide) (by decide) 0 rfl rfl rfl hl.1 rfl (Nat.le_of_ble_eq_true rfl) d_Disk_settle_44 ⟨Nat.zero_le _, Nat.zero_le _⟩ hS (fun H locs hP hD hS => ?_)
      have hP : va_P D cl5 (wD g k L (fgt L v)) H := hP
      have hD : va_D A (wD g k L (fgt L v)) := hD
      have hP9 : va_P D cl5 (wD g k L (stl L u)) H := (by unfold stl; rw [← hb2, if_neg (by omega)]; exact hP)
      have hD9 : va_D A (wD g k L (stl L u)) := (by unfold stl; rw [← hb2, if_neg (by omega)]; exact hD)
      exact W.vret hx hb hr (fun tt9 ht9 hW9 => ⟨⟨(), rfl, trivial, ⟨by rw [ht9]; exact hP9, hD9⟩⟩, hS.F ht9⟩) hS.2.2 d_Disk_settle_47
    · refine lv_aload_n hx hb d_Disk_settle_39 rfl (lv_at hl 0 rfl) ?_
      refine gz_muV (As := []) (rest := []) (wc := (wD g k L v)) (w1 := (wD g k L (cwb L v))) (wr := ([])) ⟨hx, hb, hml, hown, hTB⟩ (c_Disk_commitWhatWasBefore l D g k L hL0 hL v) (cwV 0 hTB (gd_V k_168 k_170 k_3 k_52 k_171) rfl rfl rfl (by decide +kernel) ⟨Nat.le_of_ble_eq_true rfl, Nat.le_of_ble_eq_true rfl⟩) hK hP hD hA [0, 1, 2, 3, 4, 5] [] rfl rfl (by decide) rfl (by decide) (by decide) 0 rfl rfl rfl hl.1 rfl (Nat.le_of_ble_eq_true rfl) d_Disk_settle_40 ⟨Nat.zero_le _, Nat.zero_le _⟩ hS (fun H locs hP hD hS => ?_)
      have hP : va_P D cl5 (wD g k L (cwb L v)) H := hP
      have hD : va_D A (wD g k L (cwb L v)) := hD
      refine lv_aload_n hx hb d_Disk_settle_43 rfl (lv_at hl 0 rfl) ?_
      refine gz_muV (As := []) (rest := []) (wc := (wD g k L (cwb L v))) (w1 := (wD g k L (fgt L (cwb L v)))) (wr := ([])) ⟨hx, hb, hml, hown, hTB⟩ (c_Disk_forgetTouched l D g k L hL0 hL (cwb L v)) (cwV 0 hTB (gd_V k_183 k_185 k_5 k_52 k_186) rfl rfl rfl (by decide +kernel) ⟨Nat.le_of_ble_eq_true rfl, Nat.le_of_ble_eq_true rfl⟩) hK hP hD hA [0, 1, 2, 3, 4, 5] [] rfl rfl (by decide) rfl (by decide) (by decide) 0 rfl rfl rfl hl.1 rfl (Nat.le_of_ble_eq_true rfl) d_Disk_settle_44 ⟨Nat.zero_le _, Nat.zero_le _⟩ hS (fun H locs hP hD hS => ?_)
      have hP : va_P D cl5 (wD g k L (fgt L (cwb L v))) H := hP
      have hD : va_D A (wD g k L (fgt L (cwb L v))) := hD
      have hP9 : va_P D cl5 (wD g k L (stl L u)) H := (by unfold stl; rw [← hb2, if_pos h36]; exact hP)
      have hD9 : va_D A (wD g k L (stl L u)) := (by unfold stl; rw [← hb2, if_pos h36]; exact hD)
      exact W.vret hx hb hr (fun tt9 ht9 hW9 => ⟨⟨(), rfl, trivial, ⟨by rw [ht9]; exact hP9, hD9⟩⟩, hS.F ht9⟩) hS.2.2 d_Disk_settle_47
  · refine lv_aload_n hx hb d_Disk_settle_10 rfl (lv_at hl 0 rfl) ?_
    refine va_get (D := D) (ci := 1) (v := .ref (g 4)) (C := R_Disk) (T := T_Disk) (N := 7) hx hb hTB in_Disk hown hK hP 0 rfl rfl 4 (by decide) (hTB _ k_96) (fun _ h9 => h9) rfl d_Disk_settle_11 ?_
    refine lv_iload_n hx hb d_Disk_settle_14 rfl (lv_at hl 1 rfl) ?_
    refine gz_zald hx hb hK hP 4 1 rfl rfl (i := b) (by omega) (by omega) d_Disk_settle_15 ?_
    refine gz_ifz_eq (tgt := 24) hx hb d_Disk_settle_16 (by decide) (fun h16 => ?_) (fun h16 => ?_)
    · refine lv_iinc (v := nI (b + 1)) (lv' := [(1, .int (nI (b + 1))), (0, .ref (g 0))]) hx hb d_Disk_settle_24 hl (k := 1) rfl (nI_add b 1) (by decide) rfl (fun ls hl => ?_)
      refine lv_goto (tgt := 2) hx hb d_Disk_settle_27 (by decide) ?_
      exact ih2 (b + 1, v) _ _ _ (by first | omega | (dsimp only; omega)) ⟨hP, hD, hS, lv_sub hl [1, 0] rfl, (by omega), (by rw [← hb2, show L - b = (L - (b + 1)) + 1 by omega]; rw [stG_s]; first | rw [if_pos h16] | rw [if_neg (by rw [h16]; decide)])⟩
    · refine lv_aload_n hx hb d_Disk_settle_19 rfl (lv_at hl 0 rfl) ?_
      refine lv_iload_n hx hb d_Disk_settle_20 rfl (lv_at hl 1 rfl) ?_
      refine gz_muV (As := [.int (nI b)]) (rest := []) (wc := (wD g k L v)) (w1 := (wD g k L (cmp v b))) (wr := ([])) ⟨hx, hb, hml, hown, hTB⟩ (c_Disk_compare l D g k L hL0 hL v b (by omega)) (cwV 1 hTB (gd_V k_160 k_162 k_2 k_52 k_163) rfl rfl rfl (by decide +kernel) ⟨Nat.le_of_ble_eq_true rfl, Nat.le_of_ble_eq_true rfl⟩) hK hP hD hA [0, 1, 2, 3, 4, 5] [] rfl rfl (by decide) rfl (by decide) (by decide) 0 rfl rfl rfl hl.1 rfl (Nat.le_of_ble_eq_true rfl) d_Disk_settle_21 ⟨Nat.zero_le _, Nat.zero_le _⟩ hS (fun H locs hP hD hS => ?_)
      have hP : va_P D cl5 (wD g k L (cmp v b)) H := hP
      have hD : va_D A (wD g k L (cmp v b)) := hD
      refine lv_iinc (v := nI (b + 1)) (lv' := [(1, .int (nI (b + 1))), (0, .ref (g 0))]) hx hb d_Disk_settle_24 hl (k := 1) rfl (nI_add b 1) (by decide) rfl (fun ls hl => ?_)
      refine lv_goto (tgt := 2) hx hb d_Disk_settle_27 (by decide) ?_
      exact ih2 (b + 1, cmp v b) _ _ _ (by first | omega | (dsimp only; omega)) ⟨hP, hD, hS, lv_sub hl [1, 0] rfl, (by omega), (by rw [← hb2, show L - b = (L - (b + 1)) + 1 by omega]; rw [stG_s]; first | rw [if_pos h16] | rw [if_neg (by rw [h16]; decide)])⟩
