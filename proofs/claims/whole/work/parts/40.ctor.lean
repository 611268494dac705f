theorem d_Disk_init_0 : decode b_Disk_init 0 = .ok (.aload_n 0, 1) := by decide +kernel
theorem d_Disk_init_1 : decode b_Disk_init 1 = .ok (.invokespecial 3, 3) := by decide +kernel
theorem d_Disk_init_4 : decode b_Disk_init 4 = .ok (.aload_n 0, 1) := by decide +kernel
theorem d_Disk_init_5 : decode b_Disk_init 5 = .ok (.iload_n 1, 1) := by decide +kernel
theorem d_Disk_init_6 : decode b_Disk_init 6 = .ok (.bipush 96, 2) := by decide +kernel
theorem d_Disk_init_8 : decode b_Disk_init 8 = .ok (.if_icmp .lt 14, 3) := by decide +kernel
theorem d_Disk_init_11 : decode b_Disk_init 11 = .ok (.iload_n 1, 1) := by decide +kernel
theorem d_Disk_init_12 : decode b_Disk_init 12 = .ok (.sipush 768, 3) := by decide +kernel
theorem d_Disk_init_15 : decode b_Disk_init 15 = .ok (.if_icmp .gt 7, 3) := by decide +kernel
theorem d_Disk_init_18 : decode b_Disk_init 18 = .ok (.iload_n 1, 1) := by decide +kernel
theorem d_Disk_init_19 : decode b_Disk_init 19 = .ok (.goto 5, 3) := by decide +kernel
theorem d_Disk_init_22 : decode b_Disk_init 22 = .ok (.bipush 96, 2) := by decide +kernel
theorem d_Disk_init_24 : decode b_Disk_init 24 = .ok (.putfield 9, 3) := by decide +kernel
theorem d_Disk_init_27 : decode b_Disk_init 27 = .ok (.aload_n 0, 1) := by decide +kernel
theorem d_Disk_init_28 : decode b_Disk_init 28 = .ok (.aload_n 0, 1) := by decide +kernel
theorem d_Disk_init_29 : decode b_Disk_init 29 = .ok (.getfield 9, 3) := by decide +kernel
theorem d_Disk_init_32 : decode b_Disk_init 32 = .ok (.bipush 8, 2) := by decide +kernel
theorem d_Disk_init_34 : decode b_Disk_init 34 = .ok (.imul, 1) := by decide +kernel
theorem d_Disk_init_35 : decode b_Disk_init 35 = .ok (.newarray .long, 2) := by decide +kernel
theorem d_Disk_init_37 : decode b_Disk_init 37 = .ok (.putfield 15, 3) := by decide +kernel
theorem d_Disk_init_40 : decode b_Disk_init 40 = .ok (.aload_n 0, 1) := by decide +kernel
theorem d_Disk_init_41 : decode b_Disk_init 41 = .ok (.aload_n 0, 1) := by decide +kernel
theorem d_Disk_init_42 : decode b_Disk_init 42 = .ok (.getfield 9, 3) := by decide +kernel
theorem d_Disk_init_45 : decode b_Disk_init 45 = .ok (.bipush 8, 2) := by decide +kernel
theorem d_Disk_init_47 : decode b_Disk_init 47 = .ok (.imul, 1) := by decide +kernel
theorem d_Disk_init_48 : decode b_Disk_init 48 = .ok (.newarray .long, 2) := by decide +kernel
theorem d_Disk_init_50 : decode b_Disk_init 50 = .ok (.putfield 19, 3) := by decide +kernel
theorem d_Disk_init_53 : decode b_Disk_init 53 = .ok (.aload_n 0, 1) := by decide +kernel
theorem d_Disk_init_54 : decode b_Disk_init 54 = .ok (.aload_n 0, 1) := by decide +kernel
theorem d_Disk_init_55 : decode b_Disk_init 55 = .ok (.getfield 9, 3) := by decide +kernel
theorem d_Disk_init_58 : decode b_Disk_init 58 = .ok (.bipush 8, 2) := by decide +kernel
theorem d_Disk_init_60 : decode b_Disk_init 60 = .ok (.imul, 1) := by decide +kernel
theorem d_Disk_init_61 : decode b_Disk_init 61 = .ok (.newarray .long, 2) := by decide +kernel
theorem d_Disk_init_63 : decode b_Disk_init 63 = .ok (.putfield 22, 3) := by decide +kernel
theorem d_Disk_init_66 : decode b_Disk_init 66 = .ok (.aload_n 0, 1) := by decide +kernel
theorem d_Disk_init_67 : decode b_Disk_init 67 = .ok (.aload_n 0, 1) := by decide +kernel
theorem d_Disk_init_68 : decode b_Disk_init 68 = .ok (.getfield 9, 3) := by decide +kernel
theorem d_Disk_init_71 : decode b_Disk_init 71 = .ok (.newarray .boolean, 2) := by decide +kernel
theorem d_Disk_init_73 : decode b_Disk_init 73 = .ok (.putfield 25, 3) := by decide +kernel
theorem d_Disk_init_76 : decode b_Disk_init 76 = .ok (.aload_n 0, 1) := by decide +kernel
theorem d_Disk_init_77 : decode b_Disk_init 77 = .ok (.aload_n 0, 1) := by decide +kernel
theorem d_Disk_init_78 : decode b_Disk_init 78 = .ok (.getfield 9, 3) := by decide +kernel
theorem d_Disk_init_81 : decode b_Disk_init 81 = .ok (.newarray .boolean, 2) := by decide +kernel
theorem d_Disk_init_83 : decode b_Disk_init 83 = .ok (.putfield 29, 3) := by decide +kernel
theorem d_Disk_init_86 : decode b_Disk_init 86 = .ok (.aload_n 0, 1) := by decide +kernel
theorem d_Disk_init_87 : decode b_Disk_init 87 = .ok (.iconst 0, 1) := by decide +kernel
theorem d_Disk_init_88 : decode b_Disk_init 88 = .ok (.putfield 32, 3) := by decide +kernel
theorem d_Disk_init_91 : decode b_Disk_init 91 = .ok (.iconst 0, 1) := by decide +kernel
theorem d_Disk_init_92 : decode b_Disk_init 92 = .ok (.istore_n 2, 1) := by decide +kernel
theorem d_Disk_init_93 : decode b_Disk_init 93 = .ok (.iload_n 2, 1) := by decide +kernel
theorem d_Disk_init_94 : decode b_Disk_init 94 = .ok (.bipush 59, 2) := by decide +kernel
theorem d_Disk_init_96 : decode b_Disk_init 96 = .ok (.if_icmp .ge 14, 3) := by decide +kernel
theorem d_Disk_init_99 : decode b_Disk_init 99 = .ok (.aload_n 0, 1) := by decide +kernel
theorem d_Disk_init_100 : decode b_Disk_init 100 = .ok (.iload_n 2, 1) := by decide +kernel
theorem d_Disk_init_101 : decode b_Disk_init 101 = .ok (.invokevirtual 35, 3) := by decide +kernel
theorem d_Disk_init_104 : decode b_Disk_init 104 = .ok (.iinc 2 1, 3) := by decide +kernel
theorem d_Disk_init_107 : decode b_Disk_init 107 = .ok (.goto (-14), 3) := by decide +kernel
theorem d_Disk_init_110 : decode b_Disk_init 110 = .ok (.return_, 1) := by decide +kernel
set_option maxHeartbeats 4000000 in
set_option maxRecDepth 100000 in
theorem c_Disk_init (l : Launch) (D : va_G) (k : Nat → ClassId) (a : Nat) (x : Int32) (L : Nat) (hLx : blN x = L) : MuC l y_Disk_init w_Disk_init ({ frames := 3, cells := 5, slots := 19968, locals := 102 }) [.ref a, .int (x)] D cl5 (tyC k) ([(a, .inr (1, [.int (nI 0), .null, .null, .null, .null, .null, .int (nI 0)]))]) (fun g : Nat → Nat => g 0 = a) (fun g => wD g k L (dskF 59)) 5 19968 := by
  intro sz
  refine Met.ofW (cc := b_Disk_init) (maxL := 3) (ret := none) (by decide) rfl ?_
  intro p9 e9 s m args9 below9 meth9 c9 s₁ B hml hv
  obtain ⟨rfl, hsz, hP, hK, hD0⟩ := hv
  have hx := B.exec
  have hb := B.bytes
  have hr := B.returns
  have hts := atoms_spec (ws := w_Disk_init) B.pre
  have hTB : ∀ w ∈ lw_tb, w.before _ s = true := fun w h => hts w (List.mem_cons_of_mem _ h)
  have hown : s.vm.findClass R_Disk = some m.cls := findClass_of_methodNamed B.named
  have hlocks := B.notSynchronized
  have hin : meth9.name = "<init>" := (name_of_methodNamed B.named B.method).1
  subst hsz
  have hD := hD0.self (sz := s.heap.size)
  generalize hAe : va_A ([(a, .inr (1, [.int (nI 0), .null, .null, .null, .null, .null, .int (nI 0)]))]) s.heap.size = A at hD ⊢
  have hA : ∀ q : Nat, s.heap.size ≤ q → A q := fun q h => by rw [← hAe]; exact Or.inr h
  have hS : va_S A s.heap s.heap [] := va_S.rf
  have hl := lv_entry ([.ref a, .int (x)]) (n := 3) (Nat.le_of_ble_eq_true rfl)
  rw [lg_entry_eq]
  generalize (lg_sl ([.ref a, .int (x)]) ++ List.replicate (3 - (lg_sl ([.ref a, .int (x)])).length) Slot.unset).toArray = ls at hl ⊢
  have hl : lv_has ls 3 [(0, .ref a), (1, .int (x))] := hl
  have hL0 : 96 ≤ L := by rw [← hLx]; exact (blN_b x).1
  have hL : L ≤ 768 := by rw [← hLx]; exact (blN_b x).2
  refine lv_aload_n hx hb d_Disk_init_0 rfl (lv_at hl 0 rfl) ?_
  refine W.objInit hx hb hown (hTB _ k_77) (hTB _ k_70) (hTB _ k_71) rfl (by rw [hml]; exact hl.1) rfl d_Disk_init_1 (Nat.le_of_ble_eq_true rfl) (Nat.le_of_ble_eq_true rfl) ?_
  refine W.eq (g2 := F0 m 4 ls []) rfl ?_
  refine lv_aload_n hx hb d_Disk_init_4 rfl (lv_at hl 0 rfl) ?_
  refine lv_iload_n hx hb d_Disk_init_5 rfl (lv_at hl 1 rfl) ?_
  refine lv_bipush (v := nI 96) hx hb d_Disk_init_6 (by decide +kernel) ?_
  refine lv_icmp_lt (tgt := 22) hx hb d_Disk_init_8 (by decide) (fun h8 => ?_) (fun h8 => ?_)
  · refine lv_bipush (v := nI 96) hx hb d_Disk_init_22 (by decide +kernel) ?_
    have e9 : L = 96 := by rw [← hLx]; unfold blN; rw [if_pos (Or.inl h8)]
    refine W.eq (g2 := F0 m 24 ls [.int (nI L), .ref a]) (by rw [e9]) ?_
    refine va_putF (D := D) (ci := 1) (v := .int (nI L)) (ty := .int) (C := R_Disk) (T := T_Disk) (N := 7) hx hb hTB in_Disk t_Disk t_Disk_ok n_Disk hown hK hP hD hS 0 rfl rfl 0 (by decide) (hTB _ k_92) (fun _ h9 => h9) rfl hin rfl (by decide +kernel) rfl rfl (Nat.le_of_ble_eq_true rfl) d_Disk_init_24 (fun H locs hP hD hS => ?_)
    have hP : va_P D cl5 ([(a, .inr (1, [.int (nI L), .null, .null, .null, .null, .null, .int (nI 0)]))]) H := hP
    have hD : va_D A ([(a, .inr (1, [.int (nI L), .null, .null, .null, .null, .null, .int (nI 0)]))]) := hD
    refine lv_aload_n hx hb d_Disk_init_27 rfl (lv_at hl 0 rfl) ?_
    refine lv_aload_n hx hb d_Disk_init_28 rfl (lv_at hl 0 rfl) ?_
    refine va_get (D := D) (ci := 1) (v := .int (nI L)) (C := R_Disk) (T := T_Disk) (N := 7) hx hb hTB in_Disk hown hK hP 0 rfl rfl 0 (by decide) (hTB _ k_92) (fun _ h9 => h9) rfl d_Disk_init_29 ?_
    refine lv_bipush (v := nI 8) hx hb d_Disk_init_32 (by decide +kernel) ?_
    refine gz_imul hx hb d_Disk_init_34 ?_
    refine gz_newl hx hb (hTB _ k_114) hK hP hD hS hA 0 rfl (n := L * 8) (by omega) (Nat.le_of_ble_eq_true rfl) (show 0 + (L * 8) ≤ 19968 by omega) d_Disk_init_35 (fun q1 H hP hD hS => ?_)
    refine W.widen (k := 1) (n := 6144) (by omega) (by omega) ?_
    have hP : va_P D cl5 ([(a, .inr (1, [.int (nI L), .null, .null, .null, .null, .null, .int (nI 0)])), (q1, .inl (k 0, L * 8, .inr (.inl (fun _ => 0))))]) H := hP
    have hD : va_D A ([(a, .inr (1, [.int (nI L), .null, .null, .null, .null, .null, .int (nI 0)])), (q1, .inl (k 0, L * 8, .inr (.inl (fun _ => 0))))]) := hD
    refine va_putF (D := D) (ci := 1) (v := .ref q1) (ty := .array .long) (C := R_Disk) (T := T_Disk) (N := 7) hx hb hTB in_Disk t_Disk t_Disk_ok n_Disk hown hK hP hD hS 0 rfl rfl 1 (by decide) (hTB _ k_93) (fun _ h9 => h9) rfl hin rfl (by decide +kernel) rfl rfl (Nat.le_of_ble_eq_true rfl) d_Disk_init_37 (fun H locs hP hD hS => ?_)
    have hP : va_P D cl5 ([(a, .inr (1, [.int (nI L), .ref q1, .null, .null, .null, .null, .int (nI 0)])), (q1, .inl (k 0, L * 8, .inr (.inl (fun _ => 0))))]) H := hP
    have hD : va_D A ([(a, .inr (1, [.int (nI L), .ref q1, .null, .null, .null, .null, .int (nI 0)])), (q1, .inl (k 0, L * 8, .inr (.inl (fun _ => 0))))]) := hD
    refine lv_aload_n hx hb d_Disk_init_40 rfl (lv_at hl 0 rfl) ?_
    refine lv_aload_n hx hb d_Disk_init_41 rfl (lv_at hl 0 rfl) ?_
    refine va_get (D := D) (ci := 1) (v := .int (nI L)) (C := R_Disk) (T := T_Disk) (N := 7) hx hb hTB in_Disk hown hK hP 0 rfl rfl 0 (by decide) (hTB _ k_92) (fun _ h9 => h9) rfl d_Disk_init_42 ?_
    refine lv_bipush (v := nI 8) hx hb d_Disk_init_45 (by decide +kernel) ?_
    refine gz_imul hx hb d_Disk_init_47 ?_
    refine gz_newl hx hb (hTB _ k_114) hK hP hD hS hA 0 rfl (n := L * 8) (by omega) (Nat.le_of_ble_eq_true rfl) (show 6144 + (L * 8) ≤ 19968 by omega) d_Disk_init_48 (fun q2 H hP hD hS => ?_)
    refine W.widen (k := 2) (n := 12288) (by omega) (by omega) ?_
    have hP : va_P D cl5 ([(a, .inr (1, [.int (nI L), .ref q1, .null, .null, .null, .null, .int (nI 0)])), (q1, .inl (k 0, L * 8, .inr (.inl (fun _ => 0)))), (q2, .inl (k 0, L * 8, .inr (.inl (fun _ => 0))))]) H := hP
    have hD : va_D A ([(a, .inr (1, [.int (nI L), .ref q1, .null, .null, .null, .null, .int (nI 0)])), (q1, .inl (k 0, L * 8, .inr (.inl (fun _ => 0)))), (q2, .inl (k 0, L * 8, .inr (.inl (fun _ => 0))))]) := hD
    refine va_putF (D := D) (ci := 1) (v := .ref q2) (ty := .array .long) (C := R_Disk) (T := T_Disk) (N := 7) hx hb hTB in_Disk t_Disk t_Disk_ok n_Disk hown hK hP hD hS 0 rfl rfl 2 (by decide) (hTB _ k_94) (fun _ h9 => h9) rfl hin rfl (by decide +kernel) rfl rfl (Nat.le_of_ble_eq_true rfl) d_Disk_init_50 (fun H locs hP hD hS => ?_)
    have hP : va_P D cl5 ([(a, .inr (1, [.int (nI L), .ref q1, .ref q2, .null, .null, .null, .int (nI 0)])), (q1, .inl (k 0, L * 8, .inr (.inl (fun _ => 0)))), (q2, .inl (k 0, L * 8, .inr (.inl (fun _ => 0))))]) H := hP
    have hD : va_D A ([(a, .inr (1, [.int (nI L), .ref q1, .ref q2, .null, .null, .null, .int (nI 0)])), (q1, .inl (k 0, L * 8, .inr (.inl (fun _ => 0)))), (q2, .inl (k 0, L * 8, .inr (.inl (fun _ => 0))))]) := hD
    refine lv_aload_n hx hb d_Disk_init_53 rfl (lv_at hl 0 rfl) ?_
    refine lv_aload_n hx hb d_Disk_init_54 rfl (lv_at hl 0 rfl) ?_
    refine va_get (D := D) (ci := 1) (v := .int (nI L)) (C := R_Disk) (T := T_Disk) (N := 7) hx hb hTB in_Disk hown hK hP 0 rfl rfl 0 (by decide) (hTB _ k_92) (fun _ h9 => h9) rfl d_Disk_init_55 ?_
    refine lv_bipush (v := nI 8) hx hb d_Disk_init_58 (by decide +kernel) ?_
    refine gz_imul hx hb d_Disk_init_60 ?_
    refine gz_newl hx hb (hTB _ k_114) hK hP hD hS hA 0 rfl (n := L * 8) (by omega) (Nat.le_of_ble_eq_true rfl) (show 12288 + (L * 8) ≤ 19968 by omega) d_Disk_init_61 (fun q3 H hP hD hS => ?_)
    refine W.widen (k := 3) (n := 18432) (by omega) (by omega) ?_
    have hP : va_P D cl5 ([(a, .inr (1, [.int (nI L), .ref q1, .ref q2, .null, .null, .null, .int (nI 0)])), (q1, .inl (k 0, L * 8, .inr (.inl (fun _ => 0)))), (q2, .inl (k 0, L * 8, .inr (.inl (fun _ => 0)))), (q3, .inl (k 0, L * 8, .inr (.inl (fun _ => 0))))]) H := hP
    have hD : va_D A ([(a, .inr (1, [.int (nI L), .ref q1, .ref q2, .null, .null, .null, .int (nI 0)])), (q1, .inl (k 0, L * 8, .inr (.inl (fun _ => 0)))), (q2, .inl (k 0, L * 8, .inr (.inl (fun _ => 0)))), (q3, .inl (k 0, L * 8, .inr (.inl (fun _ => 0))))]) := hD
    refine va_putF (D := D) (ci := 1) (v := .ref q3) (ty := .array .long) (C := R_Disk) (T := T_Disk) (N := 7) hx hb hTB in_Disk t_Disk t_Disk_ok n_Disk hown hK hP hD hS 0 rfl rfl 3 (by decide) (hTB _ k_95) (fun _ h9 => h9) rfl hin rfl (by decide +kernel) rfl rfl (Nat.le_of_ble_eq_true rfl) d_Disk_init_63 (fun H locs hP hD hS => ?_)
    have hP : va_P D cl5 ([(a, .inr (1, [.int (nI L), .ref q1, .ref q2, .ref q3, .null, .null, .int (nI 0)])), (q1, .inl (k 0, L * 8, .inr (.inl (fun _ => 0)))), (q2, .inl (k 0, L * 8, .inr (.inl (fun _ => 0)))), (q3, .inl (k 0, L * 8, .inr (.inl (fun _ => 0))))]) H := hP
    have hD : va_D A ([(a, .inr (1, [.int (nI L), .ref q1, .ref q2, .ref q3, .null, .null, .int (nI 0)])), (q1, .inl (k 0, L * 8, .inr (.inl (fun _ => 0)))), (q2, .inl (k 0, L * 8, .inr (.inl (fun _ => 0)))), (q3, .inl (k 0, L * 8, .inr (.inl (fun _ => 0))))]) := hD
    refine lv_aload_n hx hb d_Disk_init_66 rfl (lv_at hl 0 rfl) ?_
    refine lv_aload_n hx hb d_Disk_init_67 rfl (lv_at hl 0 rfl) ?_
    refine va_get (D := D) (ci := 1) (v := .int (nI L)) (C := R_Disk) (T := T_Disk) (N := 7) hx hb hTB in_Disk hown hK hP 0 rfl rfl 0 (by decide) (hTB _ k_92) (fun _ h9 => h9) rfl d_Disk_init_68 ?_
    refine gz_newz hx hb (hTB _ k_115) hK hP hD hS hA 1 rfl (n := L) (by omega) (Nat.le_of_ble_eq_true rfl) (show 18432 + L ≤ 19968 by omega) d_Disk_init_71 (fun q4 H hP hD hS => ?_)
    refine W.widen (k := 4) (n := 19200) (by omega) (by omega) ?_
    have hP : va_P D cl5 ([(a, .inr (1, [.int (nI L), .ref q1, .ref q2, .ref q3, .null, .null, .int (nI 0)])), (q1, .inl (k 0, L * 8, .inr (.inl (fun _ => 0)))), (q2, .inl (k 0, L * 8, .inr (.inl (fun _ => 0)))), (q3, .inl (k 0, L * 8, .inr (.inl (fun _ => 0)))), (q4, .inl (k 1, L, .inl (fun _ => zI false)))]) H := hP
    have hD : va_D A ([(a, .inr (1, [.int (nI L), .ref q1, .ref q2, .ref q3, .null, .null, .int (nI 0)])), (q1, .inl (k 0, L * 8, .inr (.inl (fun _ => 0)))), (q2, .inl (k 0, L * 8, .inr (.inl (fun _ => 0)))), (q3, .inl (k 0, L * 8, .inr (.inl (fun _ => 0)))), (q4, .inl (k 1, L, .inl (fun _ => zI false)))]) := hD
    refine va_putF (D := D) (ci := 1) (v := .ref q4) (ty := .array .boolean) (C := R_Disk) (T := T_Disk) (N := 7) hx hb hTB in_Disk t_Disk t_Disk_ok n_Disk hown hK hP hD hS 0 rfl rfl 4 (by decide) (hTB _ k_96) (fun _ h9 => h9) rfl hin rfl (by decide +kernel) rfl rfl (Nat.le_of_ble_eq_true rfl) d_Disk_init_73 (fun H locs hP hD hS => ?_)
    have hP : va_P D cl5 ([(a, .inr (1, [.int (nI L), .ref q1, .ref q2, .ref q3, .ref q4, .null, .int (nI 0)])), (q1, .inl (k 0, L * 8, .inr (.inl (fun _ => 0)))), (q2, .inl (k 0, L * 8, .inr (.inl (fun _ => 0)))), (q3, .inl (k 0, L * 8, .inr (.inl (fun _ => 0)))), (q4, .inl (k 1, L, .inl (fun _ => zI false)))]) H := hP
    have hD : va_D A ([(a, .inr (1, [.int (nI L), .ref q1, .ref q2, .ref q3, .ref q4, .null, .int (nI 0)])), (q1, .inl (k 0, L * 8, .inr (.inl (fun _ => 0)))), (q2, .inl (k 0, L * 8, .inr (.inl (fun _ => 0)))), (q3, .inl (k 0, L * 8, .inr (.inl (fun _ => 0)))), (q4, .inl (k 1, L, .inl (fun _ => zI false)))]) := hD
    refine lv_aload_n hx hb d_Disk_init_76 rfl (lv_at hl 0 rfl) ?_
    refine lv_aload_n hx hb d_Disk_init_77 rfl (lv_at hl 0 rfl) ?_
    refine va_get (D := D) (ci := 1) (v := .int (nI L)) (C := R_Disk) (T := T_Disk) (N := 7) hx hb hTB in_Disk hown hK hP 0 rfl rfl 0 (by decide) (hTB _ k_92) (fun _ h9 => h9) rfl d_Disk_init_78 ?_
    refine gz_newz hx hb (hTB _ k_115) hK hP hD hS hA 1 rfl (n := L) (by omega) (Nat.le_of_ble_eq_true rfl) (show 19200 + L ≤ 19968 by omega) d_Disk_init_81 (fun q5 H hP hD hS => ?_)
    refine W.widen (k := 5) (n := 19968) (by omega) (by omega) ?_
    have hP : va_P D cl5 ([(a, .inr (1, [.int (nI L), .ref q1, .ref q2, .ref q3, .ref q4, .null, .int (nI 0)])), (q1, .inl (k 0, L * 8, .inr (.inl (fun _ => 0)))), (q2, .inl (k 0, L * 8, .inr (.inl (fun _ => 0)))), (q3, .inl (k 0, L * 8, .inr (.inl (fun _ => 0)))), (q4, .inl (k 1, L, .inl (fun _ => zI false))), (q5, .inl (k 1, L, .inl (fun _ => zI false)))]) H := hP
    have hD : va_D A ([(a, .inr (1, [.int (nI L), .ref q1, .ref q2, .ref q3, .ref q4, .null, .int (nI 0)])), (q1, .inl (k 0, L * 8, .inr (.inl (fun _ => 0)))), (q2, .inl (k 0, L * 8, .inr (.inl (fun _ => 0)))), (q3, .inl (k 0, L * 8, .inr (.inl (fun _ => 0)))), (q4, .inl (k 1, L, .inl (fun _ => zI false))), (q5, .inl (k 1, L, .inl (fun _ => zI false)))]) := hD
    refine va_putF (D := D) (ci := 1) (v := .ref q5) (ty := .array .boolean) (C := R_Disk) (T := T_Disk) (N := 7) hx hb hTB in_Disk t_Disk t_Disk_ok n_Disk hown hK hP hD hS 0 rfl rfl 5 (by decide) (hTB _ k_97) (fun _ h9 => h9) rfl hin rfl (by decide +kernel) rfl rfl (Nat.le_of_ble_eq_true rfl) d_Disk_init_83 (fun H locs hP hD hS => ?_)
    have hP : va_P D cl5 ([(a, .inr (1, [.int (nI L), .ref q1, .ref q2, .ref q3, .ref q4, .ref q5, .int (nI 0)])), (q1, .inl (k 0, L * 8, .inr (.inl (fun _ => 0)))), (q2, .inl (k 0, L * 8, .inr (.inl (fun _ => 0)))), (q3, .inl (k 0, L * 8, .inr (.inl (fun _ => 0)))), (q4, .inl (k 1, L, .inl (fun _ => zI false))), (q5, .inl (k 1, L, .inl (fun _ => zI false)))]) H := hP
    have hD : va_D A ([(a, .inr (1, [.int (nI L), .ref q1, .ref q2, .ref q3, .ref q4, .ref q5, .int (nI 0)])), (q1, .inl (k 0, L * 8, .inr (.inl (fun _ => 0)))), (q2, .inl (k 0, L * 8, .inr (.inl (fun _ => 0)))), (q3, .inl (k 0, L * 8, .inr (.inl (fun _ => 0)))), (q4, .inl (k 1, L, .inl (fun _ => zI false))), (q5, .inl (k 1, L, .inl (fun _ => zI false)))]) := hD
    refine lv_aload_n hx hb d_Disk_init_86 rfl (lv_at hl 0 rfl) ?_
    refine lv_iconst (v := nI 0) hx hb d_Disk_init_87 (by decide +kernel) ?_
    refine va_put (D := D) (ci := 1) (v := .int (nI 0)) (ty := .int) (C := R_Disk) (T := T_Disk) (N := 7) hx hb hTB in_Disk t_Disk t_Disk_ok n_Disk hown hK hP hD hS 0 rfl rfl 6 (by decide) (hTB _ k_98) (fun _ h9 => h9) rfl (by decide +kernel) rfl rfl (Nat.le_of_ble_eq_true rfl) d_Disk_init_88 (fun H locs hP hD hS => ?_)
    have hP : va_P D cl5 ([(a, .inr (1, [.int (nI L), .ref q1, .ref q2, .ref q3, .ref q4, .ref q5, .int (nI 0)])), (q1, .inl (k 0, L * 8, .inr (.inl (fun _ => 0)))), (q2, .inl (k 0, L * 8, .inr (.inl (fun _ => 0)))), (q3, .inl (k 0, L * 8, .inr (.inl (fun _ => 0)))), (q4, .inl (k 1, L, .inl (fun _ => zI false))), (q5, .inl (k 1, L, .inl (fun _ => zI false)))]) H := hP
    have hD : va_D A ([(a, .inr (1, [.int (nI L), .ref q1, .ref q2, .ref q3, .ref q4, .ref q5, .int (nI 0)])), (q1, .inl (k 0, L * 8, .inr (.inl (fun _ => 0)))), (q2, .inl (k 0, L * 8, .inr (.inl (fun _ => 0)))), (q3, .inl (k 0, L * 8, .inr (.inl (fun _ => 0)))), (q4, .inl (k 1, L, .inl (fun _ => zI false))), (q5, .inl (k 1, L, .inl (fun _ => zI false)))]) := hD
    obtain ⟨g, e_0, e_1, e_2, e_3, e_4, e_5⟩ : ∃ g : Nat → Nat, g 0 = a ∧ g 1 = q1 ∧ g 2 = q2 ∧ g 3 = q3 ∧ g 4 = q4 ∧ g 5 = q5 := ⟨fun n => match n with | 0 => a | 1 => q1 | 2 => q2 | 3 => q3 | 4 => q4 | 5 => q5 | _ => 0, rfl, rfl, rfl, rfl, rfl, rfl⟩
    subst e_0
    subst e_1
    subst e_2
    subst e_3
    subst e_4
    subst e_5
    have hP : va_P D cl5 (wD g k L (dskF 0)) H := hP
    have hD : va_D A (wD g k L (dskF 0)) := hD
    refine lv_iconst (v := nI 0) hx hb d_Disk_init_91 (by decide +kernel) ?_
    refine lv_istore_n (lv' := [(2, .int (nI 0)), (0, .ref (g 0)), (1, .int (x))]) hx hb d_Disk_init_92 rfl hl (by decide) rfl (fun ls hl => ?_)
    refine gz_loop 93 (fun (zz : Nat) H locs ls => match zz with | b => va_P D cl5 (wD g k L (dskF b)) H ∧ va_D A (wD g k L (dskF b)) ∧ va_S A s.heap H locs ∧ lv_has ls 3 [(0, .ref (g 0)), (2, .int (nI b))] ∧ (b ≤ 59)) (fun (zz : Nat) => match zz with | b => 59 - b) (fun zz H locs ls hI ih93 => ?_) (0) ⟨hP, hD, hS, lv_sub hl [1, 0] rfl, (by omega)⟩
    obtain ⟨b, rfl⟩ : ∃ z, z = zz := ⟨_, rfl⟩
    obtain ⟨hP, hD, hS, hl, hb1⟩ := hI
    refine lv_iload_n hx hb d_Disk_init_93 rfl (lv_at hl 1 rfl) ?_
    refine lv_bipush (v := nI 59) hx hb d_Disk_init_94 (by decide +kernel) ?_
    refine gz_icmp_ge (tgt := 110) hx hb d_Disk_init_96 (by decide) (by omega) (by omega) (fun h96 => ?_) (fun h96 => ?_)
    · obtain rfl : b = 59 := by omega
      have hP9 : va_P D cl5 (wD g k L (dskF 59)) H := hP
      have hD9 : va_D A (wD g k L (dskF 59)) := hD
      exact W.vret hx hb hr (fun tt9 ht9 hW9 => ⟨⟨g, rfl, rfl, ⟨by rw [ht9]; exact hP9, hD9⟩⟩, hS.F ht9⟩) hS.2.2 d_Disk_init_110
    · refine lv_aload_n hx hb d_Disk_init_99 rfl (lv_at hl 0 rfl) ?_
      refine lv_iload_n hx hb d_Disk_init_100 rfl (lv_at hl 1 rfl) ?_
      refine gz_muV (As := [.int (nI b)]) (rest := []) (wc := (wD g k L (dskF b))) (w1 := (wD g k L (flp (dskF b) b))) (wr := ([])) ⟨hx, hb, hml, hown, hTB⟩ (c_Disk_flipMapBit l D g k L hL0 hL (dskF b) b (by omega)) (cwV 1 hTB (gd_V k_78 k_80 k_0 k_52 k_81) rfl rfl rfl (by decide +kernel) ⟨Nat.le_of_ble_eq_true rfl, Nat.le_of_ble_eq_true rfl⟩) hK hP hD hA [0, 1, 2, 3, 4, 5] [] rfl rfl (by decide) rfl (by decide) (by decide) 0 rfl rfl rfl hl.1 rfl (Nat.le_of_ble_eq_true rfl) d_Disk_init_101 ⟨Nat.le_of_ble_eq_true rfl, Nat.le_of_ble_eq_true rfl⟩ hS (fun H locs hP hD hS => ?_)
      have hP : va_P D cl5 (wD g k L (flp (dskF b) b)) H := hP
      have hD : va_D A (wD g k L (flp (dskF b) b)) := hD
      refine lv_iinc (v := nI (b + 1)) (lv' := [(2, .int (nI (b + 1))), (0, .ref (g 0))]) hx hb d_Disk_init_104 hl (k := 1) rfl (nI_add b 1) (by decide) rfl (fun ls hl => ?_)
      refine lv_goto (tgt := 93) hx hb d_Disk_init_107 (by decide) ?_
      exact ih93 (b + 1) _ _ _ (by first | omega | (dsimp only; omega)) ⟨hP, hD, hS, lv_sub hl [1, 0] rfl, (by omega)⟩
  · refine lv_iload_n hx hb d_Disk_init_11 rfl (lv_at hl 1 rfl) ?_
    refine lv_sipush (v := nI 768) hx hb d_Disk_init_12 (by decide +kernel) ?_
    refine lv_icmp_gt (tgt := 22) hx hb d_Disk_init_15 (by decide) (fun h15 => ?_) (fun h15 => ?_)
    · refine lv_bipush (v := nI 96) hx hb d_Disk_init_22 (by decide +kernel) ?_
      have e9 : L = 96 := by rw [← hLx]; unfold blN; rw [if_pos (Or.inr h15)]
      refine W.eq (g2 := F0 m 24 ls [.int (nI L), .ref a]) (by rw [e9]) ?_
      refine va_putF (D := D) (ci := 1) (v := .int (nI L)) (ty := .int) (C := R_Disk) (T := T_Disk) (N := 7) hx hb hTB in_Disk t_Disk t_Disk_ok n_Disk hown hK hP hD hS 0 rfl rfl 0 (by decide) (hTB _ k_92) (fun _ h9 => h9) rfl hin rfl (by decide +kernel) rfl rfl (Nat.le_of_ble_eq_true rfl) d_Disk_init_24 (fun H locs hP hD hS => ?_)
      have hP : va_P D cl5 ([(a, .inr (1, [.int (nI L), .null, .null, .null, .null, .null, .int (nI 0)]))]) H := hP
      have hD : va_D A ([(a, .inr (1, [.int (nI L), .null, .null, .null, .null, .null, .int (nI 0)]))]) := hD
      refine lv_aload_n hx hb d_Disk_init_27 rfl (lv_at hl 0 rfl) ?_
      refine lv_aload_n hx hb d_Disk_init_28 rfl (lv_at hl 0 rfl) ?_
      refine va_get (D := D) (ci := 1) (v := .int (nI L)) (C := R_Disk) (T := T_Disk) (N := 7) hx hb hTB in_Disk hown hK hP 0 rfl rfl 0 (by decide) (hTB _ k_92) (fun _ h9 => h9) rfl d_Disk_init_29 ?_
      refine lv_bipush (v := nI 8) hx hb d_Disk_init_32 (by decide +kernel) ?_
      refine gz_imul hx hb d_Disk_init_34 ?_
      refine gz_newl hx hb (hTB _ k_114) hK hP hD hS hA 0 rfl (n := L * 8) (by omega) (Nat.le_of_ble_eq_true rfl) (show 0 + (L * 8) ≤ 19968 by omega) d_Disk_init_35 (fun q1 H hP hD hS => ?_)
      refine W.widen (k := 1) (n := 6144) (by omega) (by omega) ?_
      have hP : va_P D cl5 ([(a, .inr (1, [.int (nI L), .null, .null, .null, .null, .null, .int (nI 0)])), (q1, .inl (k 0, L * 8, .inr (.inl (fun _ => 0))))]) H := hP
      have hD : va_D A ([(a, .inr (1, [.int (nI L), .null, .null, .null, .null, .null, .int (nI 0)])), (q1, .inl (k 0, L * 8, .inr (.inl (fun _ => 0))))]) := hD
      refine va_putF (D := D) (ci := 1) (v := .ref q1) (ty := .array .long) (C := R_Disk) (T := T_Disk) (N := 7) hx hb hTB in_Disk t_Disk t_Disk_ok n_Disk hown hK hP hD hS 0 rfl rfl 1 (by decide) (hTB _ k_93) (fun _ h9 => h9) rfl hin rfl (by decide +kernel) rfl rfl (Nat.le_of_ble_eq_true rfl) d_Disk_init_37 (fun H locs hP hD hS => ?_)
      have hP : va_P D cl5 ([(a, .inr (1, [.int (nI L), .ref q1, .null, .null, .null, .null, .int (nI 0)])), (q1, .inl (k 0, L * 8, .inr (.inl (fun _ => 0))))]) H := hP
      have hD : va_D A ([(a, .inr (1, [.int (nI L), .ref q1, .null, .null, .null, .null, .int (nI 0)])), (q1, .inl (k 0, L * 8, .inr (.inl (fun _ => 0))))]) := hD
      refine lv_aload_n hx hb d_Disk_init_40 rfl (lv_at hl 0 rfl) ?_
      refine lv_aload_n hx hb d_Disk_init_41 rfl (lv_at hl 0 rfl) ?_
      refine va_get (D := D) (ci := 1) (v := .int (nI L)) (C := R_Disk) (T := T_Disk) (N := 7) hx hb hTB in_Disk hown hK hP 0 rfl rfl 0 (by decide) (hTB _ k_92) (fun _ h9 => h9) rfl d_Disk_init_42 ?_
      refine lv_bipush (v := nI 8) hx hb d_Disk_init_45 (by decide +kernel) ?_
      refine gz_imul hx hb d_Disk_init_47 ?_
      refine gz_newl hx hb (hTB _ k_114) hK hP hD hS hA 0 rfl (n := L * 8) (by omega) (Nat.le_of_ble_eq_true rfl) (show 6144 + (L * 8) ≤ 19968 by omega) d_Disk_init_48 (fun q2 H hP hD hS => ?_)
      refine W.widen (k := 2) (n := 12288) (by omega) (by omega) ?_
      have hP : va_P D cl5 ([(a, .inr (1, [.int (nI L), .ref q1, .null, .null, .null, .null, .int (nI 0)])), (q1, .inl (k 0, L * 8, .inr (.inl (fun _ => 0)))), (q2, .inl (k 0, L * 8, .inr (.inl (fun _ => 0))))]) H := hP
      have hD : va_D A ([(a, .inr (1, [.int (nI L), .ref q1, .null, .null, .null, .null, .int (nI 0)])), (q1, .inl (k 0, L * 8, .inr (.inl (fun _ => 0)))), (q2, .inl (k 0, L * 8, .inr (.inl (fun _ => 0))))]) := hD
      refine va_putF (D := D) (ci := 1) (v := .ref q2) (ty := .array .long) (C := R_Disk) (T := T_Disk) (N := 7) hx hb hTB in_Disk t_Disk t_Disk_ok n_Disk hown hK hP hD hS 0 rfl rfl 2 (by decide) (hTB _ k_94) (fun _ h9 => h9) rfl hin rfl (by decide +kernel) rfl rfl (Nat.le_of_ble_eq_true rfl) d_Disk_init_50 (fun H locs hP hD hS => ?_)
      have hP : va_P D cl5 ([(a, .inr (1, [.int (nI L), .ref q1, .ref q2, .null, .null, .null, .int (nI 0)])), (q1, .inl (k 0, L * 8, .inr (.inl (fun _ => 0)))), (q2, .inl (k 0, L * 8, .inr (.inl (fun _ => 0))))]) H := hP
      have hD : va_D A ([(a, .inr (1, [.int (nI L), .ref q1, .ref q2, .null, .null, .null, .int (nI 0)])), (q1, .inl (k 0, L * 8, .inr (.inl (fun _ => 0)))), (q2, .inl (k 0, L * 8, .inr (.inl (fun _ => 0))))]) := hD
      refine lv_aload_n hx hb d_Disk_init_53 rfl (lv_at hl 0 rfl) ?_
      refine lv_aload_n hx hb d_Disk_init_54 rfl (lv_at hl 0 rfl) ?_
      refine va_get (D := D) (ci := 1) (v := .int (nI L)) (C := R_Disk) (T := T_Disk) (N := 7) hx hb hTB in_Disk hown hK hP 0 rfl rfl 0 (by decide) (hTB _ k_92) (fun _ h9 => h9) rfl d_Disk_init_55 ?_
      refine lv_bipush (v := nI 8) hx hb d_Disk_init_58 (by decide +kernel) ?_
      refine gz_imul hx hb d_Disk_init_60 ?_
      refine gz_newl hx hb (hTB _ k_114) hK hP hD hS hA 0 rfl (n := L * 8) (by omega) (Nat.le_of_ble_eq_true rfl) (show 12288 + (L * 8) ≤ 19968 by omega) d_Disk_init_61 (fun q3 H hP hD hS => ?_)
      refine W.widen (k := 3) (n := 18432) (by omega) (by omega) ?_
      have hP : va_P D cl5 ([(a, .inr (1, [.int (nI L), .ref q1, .ref q2, .null, .null, .null, .int (nI 0)])), (q1, .inl (k 0, L * 8, .inr (.inl (fun _ => 0)))), (q2, .inl (k 0, L * 8, .inr (.inl (fun _ => 0)))), (q3, .inl (k 0, L * 8, .inr (.inl (fun _ => 0))))]) H := hP
      have hD : va_D A ([(a, .inr (1, [.int (nI L), .ref q1, .ref q2, .null, .null, .null, .int (nI 0)])), (q1, .inl (k 0, L * 8, .inr (.inl (fun _ => 0)))), (q2, .inl (k 0, L * 8, .inr (.inl (fun _ => 0)))), (q3, .inl (k 0, L * 8, .inr (.inl (fun _ => 0))))]) := hD
      refine va_putF (D := D) (ci := 1) (v := .ref q3) (ty := .array .long) (C := R_Disk) (T := T_Disk) (N := 7) hx hb hTB in_Disk t_Disk t_Disk_ok n_Disk hown hK hP hD hS 0 rfl rfl 3 (by decide) (hTB _ k_95) (fun _ h9 => h9) rfl hin rfl (by decide +kernel) rfl rfl (Nat.le_of_ble_eq_true rfl) d_Disk_init_63 (fun H locs hP hD hS => ?_)
      have hP : va_P D cl5 ([(a, .inr (1, [.int (nI L), .ref q1, .ref q2, .ref q3, .null, .null, .int (nI 0)])), (q1, .inl (k 0, L * 8, .inr (.inl (fun _ => 0)))), (q2, .inl (k 0, L * 8, .inr (.inl (fun _ => 0)))), (q3, .inl (k 0, L * 8, .inr (.inl (fun _ => 0))))]) H := hP
      have hD : va_D A ([(a, .inr (1, [.int (nI L), .ref q1, .ref q2, .ref q3, .null, .null, .int (nI 0)])), (q1, .inl (k 0, L * 8, .inr (.inl (fun _ => 0)))), (q2, .inl (k 0, L * 8, .inr (.inl (fun _ => 0)))), (q3, .inl (k 0, L * 8, .inr (.inl (fun _ => 0))))]) := hD
      refine lv_aload_n hx hb d_Disk_init_66 rfl (lv_at hl 0 rfl) ?_
      refine lv_aload_n hx hb d_Disk_init_67 rfl (lv_at hl 0 rfl) ?_
      refine va_get (D := D) (ci := 1) (v := .int (nI L)) (C := R_Disk) (T := T_Disk) (N := 7) hx hb hTB in_Disk hown hK hP 0 rfl rfl 0 (by decide) (hTB _ k_92) (fun _ h9 => h9) rfl d_Disk_init_68 ?_
      refine gz_newz hx hb (hTB _ k_115) hK hP hD hS hA 1 rfl (n := L) (by omega) (Nat.le_of_ble_eq_true rfl) (show 18432 + L ≤ 19968 by omega) d_Disk_init_71 (fun q4 H hP hD hS => ?_)
      refine W.widen (k := 4) (n := 19200) (by omega) (by omega) ?_
      have hP : va_P D cl5 ([(a, .inr (1, [.int (nI L), .ref q1, .ref q2, .ref q3, .null, .null, .int (nI 0)])), (q1, .inl (k 0, L * 8, .inr (.inl (fun _ => 0)))), (q2, .inl (k 0, L * 8, .inr (.inl (fun _ => 0)))), (q3, .inl (k 0, L * 8, .inr (.inl (fun _ => 0)))), (q4, .inl (k 1, L, .inl (fun _ => zI false)))]) H := hP
      have hD : va_D A ([(a, .inr (1, [.int (nI L), .ref q1, .ref q2, .ref q3, .null, .null, .int (nI 0)])), (q1, .inl (k 0, L * 8, .inr (.inl (fun _ => 0)))), (q2, .inl (k 0, L * 8, .inr (.inl (fun _ => 0)))), (q3, .inl (k 0, L * 8, .inr (.inl (fun _ => 0)))), (q4, .inl (k 1, L, .inl (fun _ => zI false)))]) := hD
      refine va_putF (D := D) (ci := 1) (v := .ref q4) (ty := .array .boolean) (C := R_Disk) (T := T_Disk) (N := 7) hx hb hTB in_Disk t_Disk t_Disk_ok n_Disk hown hK hP hD hS 0 rfl rfl 4 (by decide) (hTB _ k_96) (fun _ h9 => h9) rfl hin rfl (by decide +kernel) rfl rfl (Nat.le_of_ble_eq_true rfl) d_Disk_init_73 (fun H locs hP hD hS => ?_)
      have hP : va_P D cl5 ([(a, .inr (1, [.int (nI L), .ref q1, .ref q2, .ref q3, .ref q4, .null, .int (nI 0)])), (q1, .inl (k 0, L * 8, .inr (.inl (fun _ => 0)))), (q2, .inl (k 0, L * 8, .inr (.inl (fun _ => 0)))), (q3, .inl (k 0, L * 8, .inr (.inl (fun _ => 0)))), (q4, .inl (k 1, L, .inl (fun _ => zI false)))]) H := hP
      have hD : va_D A ([(a, .inr (1, [.int (nI L), .ref q1, .ref q2, .ref q3, .ref q4, .null, .int (nI 0)])), (q1, .inl (k 0, L * 8, .inr (.inl (fun _ => 0)))), (q2, .inl (k 0, L * 8, .inr (.inl (fun _ => 0)))), (q3, .inl (k 0, L * 8, .inr (.inl (fun _ => 0)))), (q4, .inl (k 1, L, .inl (fun _ => zI false)))]) := hD
      refine lv_aload_n hx hb d_Disk_init_76 rfl (lv_at hl 0 rfl) ?_
      refine lv_aload_n hx hb d_Disk_init_77 rfl (lv_at hl 0 rfl) ?_
      refine va_get (D := D) (ci := 1) (v := .int (nI L)) (C := R_Disk) (T := T_Disk) (N := 7) hx hb hTB in_Disk hown hK hP 0 rfl rfl 0 (by decide) (hTB _ k_92) (fun _ h9 => h9) rfl d_Disk_init_78 ?_
      refine gz_newz hx hb (hTB _ k_115) hK hP hD hS hA 1 rfl (n := L) (by omega) (Nat.le_of_ble_eq_true rfl) (show 19200 + L ≤ 19968 by omega) d_Disk_init_81 (fun q5 H hP hD hS => ?_)
      refine W.widen (k := 5) (n := 19968) (by omega) (by omega) ?_
      have hP : va_P D cl5 ([(a, .inr (1, [.int (nI L), .ref q1, .ref q2, .ref q3, .ref q4, .null, .int (nI 0)])), (q1, .inl (k 0, L * 8, .inr (.inl (fun _ => 0)))), (q2, .inl (k 0, L * 8, .inr (.inl (fun _ => 0)))), (q3, .inl (k 0, L * 8, .inr (.inl (fun _ => 0)))), (q4, .inl (k 1, L, .inl (fun _ => zI false))), (q5, .inl (k 1, L, .inl (fun _ => zI false)))]) H := hP
      have hD : va_D A ([(a, .inr (1, [.int (nI L), .ref q1, .ref q2, .ref q3, .ref q4, .null, .int (nI 0)])), (q1, .inl (k 0, L * 8, .inr (.inl (fun _ => 0)))), (q2, .inl (k 0, L * 8, .inr (.inl (fun _ => 0)))), (q3, .inl (k 0, L * 8, .inr (.inl (fun _ => 0)))), (q4, .inl (k 1, L, .inl (fun _ => zI false))), (q5, .inl (k 1, L, .inl (fun _ => zI false)))]) := hD
      refine va_putF (D := D) (ci := 1) (v := .ref q5) (ty := .array .boolean) (C := R_Disk) (T := T_Disk) (N := 7) hx hb hTB in_Disk t_Disk t_Disk_ok n_Disk hown hK hP hD hS 0 rfl rfl 5 (by decide) (hTB _ k_97) (fun _ h9 => h9) rfl hin rfl (by decide +kernel) rfl rfl (Nat.le_of_ble_eq_true rfl) d_Disk_init_83 (fun H locs hP hD hS => ?_)
      have hP : va_P D cl5 ([(a, .inr (1, [.int (nI L), .ref q1, .ref q2, .ref q3, .ref q4, .ref q5, .int (nI 0)])), (q1, .inl (k 0, L * 8, .inr (.inl (fun _ => 0)))), (q2, .inl (k 0, L * 8, .inr (.inl (fun _ => 0)))), (q3, .inl (k 0, L * 8, .inr (.inl (fun _ => 0)))), (q4, .inl (k 1, L, .inl (fun _ => zI false))), (q5, .inl (k 1, L, .inl (fun _ => zI false)))]) H := hP
      have hD : va_D A ([(a, .inr (1, [.int (nI L), .ref q1, .ref q2, .ref q3, .ref q4, .ref q5, .int (nI 0)])), (q1, .inl (k 0, L * 8, .inr (.inl (fun _ => 0)))), (q2, .inl (k 0, L * 8, .inr (.inl (fun _ => 0)))), (q3, .inl (k 0, L * 8, .inr (.inl (fun _ => 0)))), (q4, .inl (k 1, L, .inl (fun _ => zI false))), (q5, .inl (k 1, L, .inl (fun _ => zI false)))]) := hD
      refine lv_aload_n hx hb d_Disk_init_86 rfl (lv_at hl 0 rfl) ?_
      refine lv_iconst (v := nI 0) hx hb d_Disk_init_87 (by decide +kernel) ?_
      refine va_put (D := D) (ci := 1) (v := .int (nI 0)) (ty := .int) (C := R_Disk) (T := T_Disk) (N := 7) hx hb hTB in_Disk t_Disk t_Disk_ok n_Disk hown hK hP hD hS 0 rfl rfl 6 (by decide) (hTB _ k_98) (fun _ h9 => h9) rfl (by decide +kernel) rfl rfl (Nat.le_of_ble_eq_true rfl) d_Disk_init_88 (fun H locs hP hD hS => ?_)
      have hP : va_P D cl5 ([(a, .inr (1, [.int (nI L), .ref q1, .ref q2, .ref q3, .ref q4, .ref q5, .int (nI 0)])), (q1, .inl (k 0, L * 8, .inr (.inl (fun _ => 0)))), (q2, .inl (k 0, L * 8, .inr (.inl (fun _ => 0)))), (q3, .inl (k 0, L * 8, .inr (.inl (fun _ => 0)))), (q4, .inl (k 1, L, .inl (fun _ => zI false))), (q5, .inl (k 1, L, .inl (fun _ => zI false)))]) H := hP
      have hD : va_D A ([(a, .inr (1, [.int (nI L), .ref q1, .ref q2, .ref q3, .ref q4, .ref q5, .int (nI 0)])), (q1, .inl (k 0, L * 8, .inr (.inl (fun _ => 0)))), (q2, .inl (k 0, L * 8, .inr (.inl (fun _ => 0)))), (q3, .inl (k 0, L * 8, .inr (.inl (fun _ => 0)))), (q4, .inl (k 1, L, .inl (fun _ => zI false))), (q5, .inl (k 1, L, .inl (fun _ => zI false)))]) := hD
      obtain ⟨g, e_0, e_1, e_2, e_3, e_4, e_5⟩ : ∃ g : Nat → Nat, g 0 = a ∧ g 1 = q1 ∧ g 2 = q2 ∧ g 3 = q3 ∧ g 4 = q4 ∧ g 5 = q5 := ⟨fun n => match n with | 0 => a | 1 => q1 | 2 => q2 | 3 => q3 | 4 => q4 | 5 => q5 | _ => 0, rfl, rfl, rfl, rfl, rfl, rfl⟩
      subst e_0
      subst e_1
      subst e_2
      subst e_3
      subst e_4
      subst e_5
      have hP : va_P D cl5 (wD g k L (dskF 0)) H := hP
      have hD : va_D A (wD g k L (dskF 0)) := hD
      refine lv_iconst (v := nI 0) hx hb d_Disk_init_91 (by decide +kernel) ?_
      refine lv_istore_n (lv' := [(2, .int (nI 0)), (0, .ref (g 0)), (1, .int (x))]) hx hb d_Disk_init_92 rfl hl (by decide) rfl (fun ls hl => ?_)
      refine gz_loop 93 (fun (zz : Nat) H locs ls => match zz with | b => va_P D cl5 (wD g k L (dskF b)) H ∧ va_D A (wD g k L (dskF b)) ∧ va_S A s.heap H locs ∧ lv_has ls 3 [(0, .ref (g 0)), (2, .int (nI b))] ∧ (b ≤ 59)) (fun (zz : Nat) => match zz with | b => 59 - b) (fun zz H locs ls hI ih93 => ?_) (0) ⟨hP, hD, hS, lv_sub hl [1, 0] rfl, (by omega)⟩
      obtain ⟨b, rfl⟩ : ∃ z, z = zz := ⟨_, rfl⟩
      obtain ⟨hP, hD, hS, hl, hb1⟩ := hI
      refine lv_iload_n hx hb d_Disk_init_93 rfl (lv_at hl 1 rfl) ?_
      refine lv_bipush (v := nI 59) hx hb d_Disk_init_94 (by decide +kernel) ?_
      refine gz_icmp_ge (tgt := 110) hx hb d_Disk_init_96 (by decide) (by omega) (by omega) (fun h96 => ?_) (fun h96 => ?_)
      · obtain rfl : b = 59 := by omega
        have hP9 : va_P D cl5 (wD g k L (dskF 59)) H := hP
        have hD9 : va_D A (wD g k L (dskF 59)) := hD
        exact W.vret hx hb hr (fun tt9 ht9 hW9 => ⟨⟨g, rfl, rfl, ⟨by rw [ht9]; exact hP9, hD9⟩⟩, hS.F ht9⟩) hS.2.2 d_Disk_init_110
      · refine lv_aload_n hx hb d_Disk_init_99 rfl (lv_at hl 0 rfl) ?_
        refine lv_iload_n hx hb d_Disk_init_100 rfl (lv_at hl 1 rfl) ?_
        refine gz_muV (As := [.int (nI b)]) (rest := []) (wc := (wD g k L (dskF b))) (w1 := (wD g k L (flp (dskF b) b))) (wr := ([])) ⟨hx, hb, hml, hown, hTB⟩ (c_Disk_flipMapBit l D g k L hL0 hL (dskF b) b (by omega)) (cwV 1 hTB (gd_V k_78 k_80 k_0 k_52 k_81) rfl rfl rfl (by decide +kernel) ⟨Nat.le_of_ble_eq_true rfl, Nat.le_of_ble_eq_true rfl⟩) hK hP hD hA [0, 1, 2, 3, 4, 5] [] rfl rfl (by decide) rfl (by decide) (by decide) 0 rfl rfl rfl hl.1 rfl (Nat.le_of_ble_eq_true rfl) d_Disk_init_101 ⟨Nat.le_of_ble_eq_true rfl, Nat.le_of_ble_eq_true rfl⟩ hS (fun H locs hP hD hS => ?_)
        have hP : va_P D cl5 (wD g k L (flp (dskF b) b)) H := hP
        have hD : va_D A (wD g k L (flp (dskF b) b)) := hD
        refine lv_iinc (v := nI (b + 1)) (lv' := [(2, .int (nI (b + 1))), (0, .ref (g 0))]) hx hb d_Disk_init_104 hl (k := 1) rfl (nI_add b 1) (by decide) rfl (fun ls hl => ?_)
        refine lv_goto (tgt := 93) hx hb d_Disk_init_107 (by decide) ?_
        exact ih93 (b + 1) _ _ _ (by first | omega | (dsimp only; omega)) ⟨hP, hD, hS, lv_sub hl [1, 0] rfl, (by omega)⟩
    · refine lv_iload_n hx hb d_Disk_init_18 rfl (lv_at hl 1 rfl) ?_
      refine lv_goto (tgt := 24) hx hb d_Disk_init_19 (by decide) ?_
      have e9 : nI L = x := by rw [← hLx]; unfold blN; rw [if_neg (fun z => z.elim h8 h15)]; exact nI_ofclamp (fun z => h8 (Int32.lt_trans z (by decide)))
      refine W.eq (g2 := F0 m 24 ls [.int (nI L), .ref a]) (by rw [e9]) ?_
      refine va_putF (D := D) (ci := 1) (v := .int (nI L)) (ty := .int) (C := R_Disk) (T := T_Disk) (N := 7) hx hb hTB in_Disk t_Disk t_Disk_ok n_Disk hown hK hP hD hS 0 rfl rfl 0 (by decide) (hTB _ k_92) (fun _ h9 => h9) rfl hin rfl (by decide +kernel) rfl rfl (Nat.le_of_ble_eq_true rfl) d_Disk_init_24 (fun H locs hP hD hS => ?_)
      have hP : va_P D cl5 ([(a, .inr (1, [.int (nI L), .null, .null, .null, .null, .null, .int (nI 0)]))]) H := hP
      have hD : va_D A ([(a, .inr (1, [.int (nI L), .null, .null, .null, .null, .null, .int (nI 0)]))]) := hD
      refine lv_aload_n hx hb d_Disk_init_27 rfl (lv_at hl 0 rfl) ?_
      refine lv_aload_n hx hb d_Disk_init_28 rfl (lv_at hl 0 rfl) ?_
      refine va_get (D := D) (ci := 1) (v := .int (nI L)) (C := R_Disk) (T := T_Disk) (N := 7) hx hb hTB in_Disk hown hK hP 0 rfl rfl 0 (by decide) (hTB _ k_92) (fun _ h9 => h9) rfl d_Disk_init_29 ?_
      refine lv_bipush (v := nI 8) hx hb d_Disk_init_32 (by decide +kernel) ?_
      refine gz_imul hx hb d_Disk_init_34 ?_
      refine gz_newl hx hb (hTB _ k_114) hK hP hD hS hA 0 rfl (n := L * 8) (by omega) (Nat.le_of_ble_eq_true rfl) (show 0 + (L * 8) ≤ 19968 by omega) d_Disk_init_35 (fun q1 H hP hD hS => ?_)
      refine W.widen (k := 1) (n := 6144) (by omega) (by omega) ?_
      have hP : va_P D cl5 ([(a, .inr (1, [.int (nI L), .null, .null, .null, .null, .null, .int (nI 0)])), (q1, .inl (k 0, L * 8, .inr (.inl (fun _ => 0))))]) H := hP
      have hD : va_D A ([(a, .inr (1, [.int (nI L), .null, .null, .null, .null, .null, .int (nI 0)])), (q1, .inl (k 0, L * 8, .inr (.inl (fun _ => 0))))]) := hD
      refine va_putF (D := D) (ci := 1) (v := .ref q1) (ty := .array .long) (C := R_Disk) (T := T_Disk) (N := 7) hx hb hTB in_Disk t_Disk t_Disk_ok n_Disk hown hK hP hD hS 0 rfl rfl 1 (by decide) (hTB _ k_93) (fun _ h9 => h9) rfl hin rfl (by decide +kernel) rfl rfl (Nat.le_of_ble_eq_true rfl) d_Disk_init_37 (fun H locs hP hD hS => ?_)
      have hP : va_P D cl5 ([(a, .inr (1, [.int (nI L), .ref q1, .null, .null, .null, .null, .int (nI 0)])), (q1, .inl (k 0, L * 8, .inr (.inl (fun _ => 0))))]) H := hP
      have hD : va_D A ([(a, .inr (1, [.int (nI L), .ref q1, .null, .null, .null, .null, .int (nI 0)])), (q1, .inl (k 0, L * 8, .inr (.inl (fun _ => 0))))]) := hD
      refine lv_aload_n hx hb d_Disk_init_40 rfl (lv_at hl 0 rfl) ?_
      refine lv_aload_n hx hb d_Disk_init_41 rfl (lv_at hl 0 rfl) ?_
      refine va_get (D := D) (ci := 1) (v := .int (nI L)) (C := R_Disk) (T := T_Disk) (N := 7) hx hb hTB in_Disk hown hK hP 0 rfl rfl 0 (by decide) (hTB _ k_92) (fun _ h9 => h9) rfl d_Disk_init_42 ?_
      refine lv_bipush (v := nI 8) hx hb d_Disk_init_45 (by decide +kernel) ?_
      refine gz_imul hx hb d_Disk_init_47 ?_
      refine gz_newl hx hb (hTB _ k_114) hK hP hD hS hA 0 rfl (n := L * 8) (by omega) (Nat.le_of_ble_eq_true rfl) (show 6144 + (L * 8) ≤ 19968 by omega) d_Disk_init_48 (fun q2 H hP hD hS => ?_)
      refine W.widen (k := 2) (n := 12288) (by omega) (by omega) ?_
      have hP : va_P D cl5 ([(a, .inr (1, [.int (nI L), .ref q1, .null, .null, .null, .null, .int (nI 0)])), (q1, .inl (k 0, L * 8, .inr (.inl (fun _ => 0)))), (q2, .inl (k 0, L * 8, .inr (.inl (fun _ => 0))))]) H := hP
      have hD : va_D A ([(a, .inr (1, [.int (nI L), .ref q1, .null, .null, .null, .null, .int (nI 0)])), (q1, .inl (k 0, L * 8, .inr (.inl (fun _ => 0)))), (q2, .inl (k 0, L * 8, .inr (.inl (fun _ => 0))))]) := hD
      refine va_putF (D := D) (ci := 1) (v := .ref q2) (ty := .array .long) (C := R_Disk) (T := T_Disk) (N := 7) hx hb hTB in_Disk t_Disk t_Disk_ok n_Disk hown hK hP hD hS 0 rfl rfl 2 (by decide) (hTB _ k_94) (fun _ h9 => h9) rfl hin rfl (by decide +kernel) rfl rfl (Nat.le_of_ble_eq_true rfl) d_Disk_init_50 (fun H locs hP hD hS => ?_)
      have hP : va_P D cl5 ([(a, .inr (1, [.int (nI L), .ref q1, .ref q2, .null, .null, .null, .int (nI 0)])), (q1, .inl (k 0, L * 8, .inr (.inl (fun _ => 0)))), (q2, .inl (k 0, L * 8, .inr (.inl (fun _ => 0))))]) H := hP
      have hD : va_D A ([(a, .inr (1, [.int (nI L), .ref q1, .ref q2, .null, .null, .null, .int (nI 0)])), (q1, .inl (k 0, L * 8, .inr (.inl (fun _ => 0)))), (q2, .inl (k 0, L * 8, .inr (.inl (fun _ => 0))))]) := hD
      refine lv_aload_n hx hb d_Disk_init_53 rfl (lv_at hl 0 rfl) ?_
      refine lv_aload_n hx hb d_Disk_init_54 rfl (lv_at hl 0 rfl) ?_
      refine va_get (D := D) (ci := 1) (v := .int (nI L)) (C := R_Disk) (T := T_Disk) (N := 7) hx hb hTB in_Disk hown hK hP 0 rfl rfl 0 (by decide) (hTB _ k_92) (fun _ h9 => h9) rfl d_Disk_init_55 ?_
      refine lv_bipush (v := nI 8) hx hb d_Disk_init_58 (by decide +kernel) ?_
      refine gz_imul hx hb d_Disk_init_60 ?_
      refine gz_newl hx hb (hTB _ k_114) hK hP hD hS hA 0 rfl (n := L * 8) (by omega) (Nat.le_of_ble_eq_true rfl) (show 12288 + (L * 8) ≤ 19968 by omega) d_Disk_init_61 (fun q3 H hP hD hS => ?_)
      refine W.widen (k := 3) (n := 18432) (by omega) (by omega) ?_
      have hP : va_P D cl5 ([(a, .inr (1, [.int (nI L), .ref q1, .ref q2, .null, .null, .null, .int (nI 0)])), (q1, .inl (k 0, L * 8, .inr (.inl (fun _ => 0)))), (q2, .inl (k 0, L * 8, .inr (.inl (fun _ => 0)))), (q3, .inl (k 0, L * 8, .inr (.inl (fun _ => 0))))]) H := hP
      have hD : va_D A ([(a, .inr (1, [.int (nI L), .ref q1, .ref q2, .null, .null, .null, .int (nI 0)])), (q1, .inl (k 0, L * 8, .inr (.inl (fun _ => 0)))), (q2, .inl (k 0, L * 8, .inr (.inl (fun _ => 0)))), (q3, .inl (k 0, L * 8, .inr (.inl (fun _ => 0))))]) := hD
      refine va_putF (D := D) (ci := 1) (v := .ref q3) (ty := .array .long) (C := R_Disk) (T := T_Disk) (N := 7) hx hb hTB in_Disk t_Disk t_Disk_ok n_Disk hown hK hP hD hS 0 rfl rfl 3 (by decide) (hTB _ k_95) (fun _ h9 => h9) rfl hin rfl (by decide +kernel) rfl rfl (Nat.le_of_ble_eq_true rfl) d_Disk_init_63 (fun H locs hP hD hS => ?_)
      have hP : va_P D cl5 ([(a, .inr (1, [.int (nI L), .ref q1, .ref q2, .ref q3, .null, .null, .int (nI 0)])), (q1, .inl (k 0, L * 8, .inr (.inl (fun _ => 0)))), (q2, .inl (k 0, L * 8, .inr (.inl (fun _ => 0)))), (q3, .inl (k 0, L * 8, .inr (.inl (fun _ => 0))))]) H := hP
      have hD : va_D A ([(a, .inr (1, [.int (nI L), .ref q1, .ref q2, .ref q3, .null, .null, .int (nI 0)])), (q1, .inl (k 0, L * 8, .inr (.inl (fun _ => 0)))), (q2, .inl (k 0, L * 8, .inr (.inl (fun _ => 0)))), (q3, .inl (k 0, L * 8, .inr (.inl (fun _ => 0))))]) := hD
      refine lv_aload_n hx hb d_Disk_init_66 rfl (lv_at hl 0 rfl) ?_
      refine lv_aload_n hx hb d_Disk_init_67 rfl (lv_at hl 0 rfl) ?_
      refine va_get (D := D) (ci := 1) (v := .int (nI L)) (C := R_Disk) (T := T_Disk) (N := 7) hx hb hTB in_Disk hown hK hP 0 rfl rfl 0 (by decide) (hTB _ k_92) (fun _ h9 => h9) rfl d_Disk_init_68 ?_
      refine gz_newz hx hb (hTB _ k_115) hK hP hD hS hA 1 rfl (n := L) (by omega) (Nat.le_of_ble_eq_true rfl) (show 18432 + L ≤ 19968 by omega) d_Disk_init_71 (fun q4 H hP hD hS => ?_)
      refine W.widen (k := 4) (n := 19200) (by omega) (by omega) ?_
      have hP : va_P D cl5 ([(a, .inr (1, [.int (nI L), .ref q1, .ref q2, .ref q3, .null, .null, .int (nI 0)])), (q1, .inl (k 0, L * 8, .inr (.inl (fun _ => 0)))), (q2, .inl (k 0, L * 8, .inr (.inl (fun _ => 0)))), (q3, .inl (k 0, L * 8, .inr (.inl (fun _ => 0)))), (q4, .inl (k 1, L, .inl (fun _ => zI false)))]) H := hP
      have hD : va_D A ([(a, .inr (1, [.int (nI L), .ref q1, .ref q2, .ref q3, .null, .null, .int (nI 0)])), (q1, .inl (k 0, L * 8, .inr (.inl (fun _ => 0)))), (q2, .inl (k 0, L * 8, .inr (.inl (fun _ => 0)))), (q3, .inl (k 0, L * 8, .inr (.inl (fun _ => 0)))), (q4, .inl (k 1, L, .inl (fun _ => zI false)))]) := hD
      refine va_putF (D := D) (ci := 1) (v := .ref q4) (ty := .array .boolean) (C := R_Disk) (T := T_Disk) (N := 7) hx hb hTB in_Disk t_Disk t_Disk_ok n_Disk hown hK hP hD hS 0 rfl rfl 4 (by decide) (hTB _ k_96) (fun _ h9 => h9) rfl hin rfl (by decide +kernel) rfl rfl (Nat.le_of_ble_eq_true rfl) d_Disk_init_73 (fun H locs hP hD hS => ?_)
      have hP : va_P D cl5 ([(a, .inr (1, [.int (nI L), .ref q1, .ref q2, .ref q3, .ref q4, .null, .int (nI 0)])), (q1, .inl (k 0, L * 8, .inr (.inl (fun _ => 0)))), (q2, .inl (k 0, L * 8, .inr (.inl (fun _ => 0)))), (q3, .inl (k 0, L * 8, .inr (.inl (fun _ => 0)))), (q4, .inl (k 1, L, .inl (fun _ => zI false)))]) H := hP
      have hD : va_D A ([(a, .inr (1, [.int (nI L), .ref q1, .ref q2, .ref q3, .ref q4, .null, .int (nI 0)])), (q1, .inl (k 0, L * 8, .inr (.inl (fun _ => 0)))), (q2, .inl (k 0, L * 8, .inr (.inl (fun _ => 0)))), (q3, .inl (k 0, L * 8, .inr (.inl (fun _ => 0)))), (q4, .inl (k 1, L, .inl (fun _ => zI false)))]) := hD
      refine lv_aload_n hx hb d_Disk_init_76 rfl (lv_at hl 0 rfl) ?_
      refine lv_aload_n hx hb d_Disk_init_77 rfl (lv_at hl 0 rfl) ?_
      refine va_get (D := D) (ci := 1) (v := .int (nI L)) (C := R_Disk) (T := T_Disk) (N := 7) hx hb hTB in_Disk hown hK hP 0 rfl rfl 0 (by decide) (hTB _ k_92) (fun _ h9 => h9) rfl d_Disk_init_78 ?_
      refine gz_newz hx hb (hTB _ k_115) hK hP hD hS hA 1 rfl (n := L) (by omega) (Nat.le_of_ble_eq_true rfl) (show 19200 + L ≤ 19968 by omega) d_Disk_init_81 (fun q5 H hP hD hS => ?_)
      refine W.widen (k := 5) (n := 19968) (by omega) (by omega) ?_
      have hP : va_P D cl5 ([(a, .inr (1, [.int (nI L), .ref q1, .ref q2, .ref q3, .ref q4, .null, .int (nI 0)])), (q1, .inl (k 0, L * 8, .inr (.inl (fun _ => 0)))), (q2, .inl (k 0, L * 8, .inr (.inl (fun _ => 0)))), (q3, .inl (k 0, L * 8, .inr (.inl (fun _ => 0)))), (q4, .inl (k 1, L, .inl (fun _ => zI false))), (q5, .inl (k 1, L, .inl (fun _ => zI false)))]) H := hP
      have hD : va_D A ([(a, .inr (1, [.int (nI L), .ref q1, .ref q2, .ref q3, .ref q4, .null, .int (nI 0)])), (q1, .inl (k 0, L * 8, .inr (.inl (fun _ => 0)))), (q2, .inl (k 0, L * 8, .inr (.inl (fun _ => 0)))), (q3, .inl (k 0, L * 8, .inr (.inl (fun _ => 0)))), (q4, .inl (k 1, L, .inl (fun _ => zI false))), (q5, .inl (k 1, L, .inl (fun _ => zI false)))]) := hD
      refine va_putF (D := D) (ci := 1) (v := .ref q5) (ty := .array .boolean) (C := R_Disk) (T := T_Disk) (N := 7) hx hb hTB in_Disk t_Disk t_Disk_ok n_Disk hown hK hP hD hS 0 rfl rfl 5 (by decide) (hTB _ k_97) (fun _ h9 => h9) rfl hin rfl (by decide +kernel) rfl rfl (Nat.le_of_ble_eq_true rfl) d_Disk_init_83 (fun H locs hP hD hS => ?_)
      have hP : va_P D cl5 ([(a, .inr (1, [.int (nI L), .ref q1, .ref q2, .ref q3, .ref q4, .ref q5, .int (nI 0)])), (q1, .inl (k 0, L * 8, .inr (.inl (fun _ => 0)))), (q2, .inl (k 0, L * 8, .inr (.inl (fun _ => 0)))), (q3, .inl (k 0, L * 8, .inr (.inl (fun _ => 0)))), (q4, .inl (k 1, L, .inl (fun _ => zI false))), (q5, .inl (k 1, L, .inl (fun _ => zI false)))]) H := hP
      have hD : va_D A ([(a, .inr (1, [.int (nI L), .ref q1, .ref q2, .ref q3, .ref q4, .ref q5, .int (nI 0)])), (q1, .inl (k 0, L * 8, .inr (.inl (fun _ => 0)))), (q2, .inl (k 0, L * 8, .inr (.inl (fun _ => 0)))), (q3, .inl (k 0, L * 8, .inr (.inl (fun _ => 0)))), (q4, .inl (k 1, L, .inl (fun _ => zI false))), (q5, .inl (k 1, L, .inl (fun _ => zI false)))]) := hD
      refine lv_aload_n hx hb d_Disk_init_86 rfl (lv_at hl 0 rfl) ?_
      refine lv_iconst (v := nI 0) hx hb d_Disk_init_87 (by decide +kernel) ?_
      refine va_put (D := D) (ci := 1) (v := .int (nI 0)) (ty := .int) (C := R_Disk) (T := T_Disk) (N := 7) hx hb hTB in_Disk t_Disk t_Disk_ok n_Disk hown hK hP hD hS 0 rfl rfl 6 (by decide) (hTB _ k_98) (fun _ h9 => h9) rfl (by decide +kernel) rfl rfl (Nat.le_of_ble_eq_true rfl) d_Disk_init_88 (fun H locs hP hD hS => ?_)
      have hP : va_P D cl5 ([(a, .inr (1, [.int (nI L), .ref q1, .ref q2, .ref q3, .ref q4, .ref q5, .int (nI 0)])), (q1, .inl (k 0, L * 8, .inr (.inl (fun _ => 0)))), (q2, .inl (k 0, L * 8, .inr (.inl (fun _ => 0)))), (q3, .inl (k 0, L * 8, .inr (.inl (fun _ => 0)))), (q4, .inl (k 1, L, .inl (fun _ => zI false))), (q5, .inl (k 1, L, .inl (fun _ => zI false)))]) H := hP
      have hD : va_D A ([(a, .inr (1, [.int (nI L), .ref q1, .ref q2, .ref q3, .ref q4, .ref q5, .int (nI 0)])), (q1, .inl (k 0, L * 8, .inr (.inl (fun _ => 0)))), (q2, .inl (k 0, L * 8, .inr (.inl (fun _ => 0)))), (q3, .inl (k 0, L * 8, .inr (.inl (fun _ => 0)))), (q4, .inl (k 1, L, .inl (fun _ => zI false))), (q5, .inl (k 1, L, .inl (fun _ => zI false)))]) := hD
      obtain ⟨g, e_0, e_1, e_2, e_3, e_4, e_5⟩ : ∃ g : Nat → Nat, g 0 = a ∧ g 1 = q1 ∧ g 2 = q2 ∧ g 3 = q3 ∧ g 4 = q4 ∧ g 5 = q5 := ⟨fun n => match n with | 0 => a | 1 => q1 | 2 => q2 | 3 => q3 | 4 => q4 | 5 => q5 | _ => 0, rfl, rfl, rfl, rfl, rfl, rfl⟩
      subst e_0
      subst e_1
      subst e_2
      subst e_3
      subst e_4
      subst e_5
      have hP : va_P D cl5 (wD g k L (dskF 0)) H := hP
      have hD : va_D A (wD g k L (dskF 0)) := hD
      refine lv_iconst (v := nI 0) hx hb d_Disk_init_91 (by decide +kernel) ?_
      refine lv_istore_n (lv' := [(2, .int (nI 0)), (0, .ref (g 0)), (1, .int (x))]) hx hb d_Disk_init_92 rfl hl (by decide) rfl (fun ls hl => ?_)
      refine gz_loop 93 (fun (zz : Nat) H locs ls => match zz with | b => va_P D cl5 (wD g k L (dskF b)) H ∧ va_D A (wD g k L (dskF b)) ∧ va_S A s.heap H locs ∧ lv_has ls 3 [(0, .ref (g 0)), (2, .int (nI b))] ∧ (b ≤ 59)) (fun (zz : Nat) => match zz with | b => 59 - b) (fun zz H locs ls hI ih93 => ?_) (0) ⟨hP, hD, hS, lv_sub hl [1, 0] rfl, (by omega)⟩
      obtain ⟨b, rfl⟩ : ∃ z, z = zz := ⟨_, rfl⟩
      obtain ⟨hP, hD, hS, hl, hb1⟩ := hI
      refine lv_iload_n hx hb d_Disk_init_93 rfl (lv_at hl 1 rfl) ?_
      refine lv_bipush (v := nI 59) hx hb d_Disk_init_94 (by decide +kernel) ?_
      refine gz_icmp_ge (tgt := 110) hx hb d_Disk_init_96 (by decide) (by omega) (by omega) (fun h96 => ?_) (fun h96 => ?_)
      · obtain rfl : b = 59 := by omega
        have hP9 : va_P D cl5 (wD g k L (dskF 59)) H := hP
        have hD9 : va_D A (wD g k L (dskF 59)) := hD
        exact W.vret hx hb hr (fun tt9 ht9 hW9 => ⟨⟨g, rfl, rfl, ⟨by rw [ht9]; exact hP9, hD9⟩⟩, hS.F ht9⟩) hS.2.2 d_Disk_init_110
      · refine lv_aload_n hx hb d_Disk_init_99 rfl (lv_at hl 0 rfl) ?_
        refine lv_iload_n hx hb d_Disk_init_100 rfl (lv_at hl 1 rfl) ?_
        refine gz_muV (As := [.int (nI b)]) (rest := []) (wc := (wD g k L (dskF b))) (w1 := (wD g k L (flp (dskF b) b))) (wr := ([])) ⟨hx, hb, hml, hown, hTB⟩ (c_Disk_flipMapBit l D g k L hL0 hL (dskF b) b (by omega)) (cwV 1 hTB (gd_V k_78 k_80 k_0 k_52 k_81) rfl rfl rfl (by decide +kernel) ⟨Nat.le_of_ble_eq_true rfl, Nat.le_of_ble_eq_true rfl⟩) hK hP hD hA [0, 1, 2, 3, 4, 5] [] rfl rfl (by decide) rfl (by decide) (by decide) 0 rfl rfl rfl hl.1 rfl (Nat.le_of_ble_eq_true rfl) d_Disk_init_101 ⟨Nat.le_of_ble_eq_true rfl, Nat.le_of_ble_eq_true rfl⟩ hS (fun H locs hP hD hS => ?_)
        have hP : va_P D cl5 (wD g k L (flp (dskF b) b)) H := hP
        have hD : va_D A (wD g k L (flp (dskF b) b)) := hD
        refine lv_iinc (v := nI (b + 1)) (lv' := [(2, .int (nI (b + 1))), (0, .ref (g 0))]) hx hb d_Disk_init_104 hl (k := 1) rfl (nI_add b 1) (by decide) rfl (fun ls hl => ?_)
        refine lv_goto (tgt := 93) hx hb d_Disk_init_107 (by decide) ?_
        exact ih93 (b + 1) _ _ _ (by first | omega | (dsimp only; omega)) ⟨hP, hD, hS, lv_sub hl [1, 0] rfl, (by omega)⟩
theorem d_Inodes_init_0 : decode b_Inodes_init 0 = .ok (.aload_n 0, 1) := by decide +kernel
theorem d_Inodes_init_1 : decode b_Inodes_init 1 = .ok (.invokespecial 3, 3) := by decide +kernel
theorem d_Inodes_init_4 : decode b_Inodes_init 4 = .ok (.aload_n 0, 1) := by decide +kernel
theorem d_Inodes_init_5 : decode b_Inodes_init 5 = .ok (.aload_n 1, 1) := by decide +kernel
theorem d_Inodes_init_6 : decode b_Inodes_init 6 = .ok (.putfield 9, 3) := by decide +kernel
theorem d_Inodes_init_9 : decode b_Inodes_init 9 = .ok (.return_, 1) := by decide +kernel
set_option maxHeartbeats 4000000 in
set_option maxRecDepth 100000 in
theorem c_Inodes_init (l : Launch) (D : va_G) (k : Nat → ClassId) (a : Nat) (d : Nat) : MuC l y_Inodes_init w_Inodes_init ({ frames := 1, cells := 0, slots := 0, locals := 20 }) [.ref a, .ref d] D cl5 (tyC k) ([(a, .inr (2, [.null]))]) (fun _ : Unit => True) (fun _ => [(a, .inr (2, [.ref d]))]) 0 0 := by
  intro sz
  refine Met.ofW (cc := b_Inodes_init) (maxL := 2) (ret := none) (by decide) rfl ?_
  intro p9 e9 s m args9 below9 meth9 c9 s₁ B hml hv
  obtain ⟨rfl, hsz, hP, hK, hD0⟩ := hv
  have hx := B.exec
  have hb := B.bytes
  have hr := B.returns
  have hts := atoms_spec (ws := w_Inodes_init) B.pre
  have hTB : ∀ w ∈ lw_tb, w.before _ s = true := fun w h => hts w (List.mem_cons_of_mem _ h)
  have hown : s.vm.findClass R_Inodes = some m.cls := findClass_of_methodNamed B.named
  have hlocks := B.notSynchronized
  have hin : meth9.name = "<init>" := (name_of_methodNamed B.named B.method).1
  subst hsz
  have hD := hD0.self (sz := s.heap.size)
  generalize hAe : va_A ([(a, .inr (2, [.null]))]) s.heap.size = A at hD ⊢
  have hA : ∀ q : Nat, s.heap.size ≤ q → A q := fun q h => by rw [← hAe]; exact Or.inr h
  have hS : va_S A s.heap s.heap [] := va_S.rf
  have hl := lv_entry ([.ref a, .ref d]) (n := 2) (Nat.le_of_ble_eq_true rfl)
  rw [lg_entry_eq]
  generalize (lg_sl ([.ref a, .ref d]) ++ List.replicate (2 - (lg_sl ([.ref a, .ref d])).length) Slot.unset).toArray = ls at hl ⊢
  have hl : lv_has ls 2 [(0, .ref a), (1, .ref d)] := hl
  refine lv_aload_n hx hb d_Inodes_init_0 rfl (lv_at hl 0 rfl) ?_
  refine W.objInit hx hb hown (hTB _ k_121) (hTB _ k_70) (hTB _ k_71) rfl (by rw [hml]; exact hl.1) rfl d_Inodes_init_1 (Nat.le_of_ble_eq_true rfl) (Nat.le_of_ble_eq_true rfl) ?_
  refine W.eq (g2 := F0 m 4 ls []) rfl ?_
  refine lv_aload_n hx hb d_Inodes_init_4 rfl (lv_at hl 0 rfl) ?_
  refine lv_aload_n hx hb d_Inodes_init_5 rfl (lv_at hl 1 rfl) ?_
  refine va_putF (D := D) (ci := 2) (v := .ref d) (ty := .object "TreeFiles$Disk") (C := R_Inodes) (T := T_Inodes) (N := 1) hx hb hTB in_Inodes t_Inodes t_Inodes_ok n_Inodes hown hK hP hD hS 0 rfl rfl 0 (by decide) (hTB _ k_122) (fun _ h9 => h9) rfl hin rfl (by decide +kernel) rfl rfl (Nat.le_of_ble_eq_true rfl) d_Inodes_init_6 (fun H locs hP hD hS => ?_)
  have hP : va_P D cl5 ([(a, .inr (2, [.ref d]))]) H := hP
  have hD : va_D A ([(a, .inr (2, [.ref d]))]) := hD
  have hP9 : va_P D cl5 ([(a, .inr (2, [.ref d]))]) H := hP
  have hD9 : va_D A ([(a, .inr (2, [.ref d]))]) := hD
  exact W.vret hx hb hr (fun tt9 ht9 hW9 => ⟨⟨(), rfl, trivial, ⟨by rw [ht9]; exact hP9, hD9⟩⟩, hS.F ht9⟩) hS.2.2 d_Inodes_init_9
theorem d_Dirs_init_0 : decode b_Dirs_init 0 = .ok (.aload_n 0, 1) := by decide +kernel
theorem d_Dirs_init_1 : decode b_Dirs_init 1 = .ok (.invokespecial 3, 3) := by decide +kernel
theorem d_Dirs_init_4 : decode b_Dirs_init 4 = .ok (.aload_n 0, 1) := by decide +kernel
theorem d_Dirs_init_5 : decode b_Dirs_init 5 = .ok (.aload_n 1, 1) := by decide +kernel
theorem d_Dirs_init_6 : decode b_Dirs_init 6 = .ok (.putfield 9, 3) := by decide +kernel
theorem d_Dirs_init_9 : decode b_Dirs_init 9 = .ok (.aload_n 0, 1) := by decide +kernel
theorem d_Dirs_init_10 : decode b_Dirs_init 10 = .ok (.aload_n 2, 1) := by decide +kernel
theorem d_Dirs_init_11 : decode b_Dirs_init 11 = .ok (.putfield 15, 3) := by decide +kernel
theorem d_Dirs_init_14 : decode b_Dirs_init 14 = .ok (.aload_n 0, 1) := by decide +kernel
theorem d_Dirs_init_15 : decode b_Dirs_init 15 = .ok (.bipush 64, 2) := by decide +kernel
theorem d_Dirs_init_17 : decode b_Dirs_init 17 = .ok (.newarray .int, 2) := by decide +kernel
theorem d_Dirs_init_19 : decode b_Dirs_init 19 = .ok (.putfield 19, 3) := by decide +kernel
theorem d_Dirs_init_22 : decode b_Dirs_init 22 = .ok (.return_, 1) := by decide +kernel
set_option maxHeartbeats 4000000 in
set_option maxRecDepth 100000 in
theorem c_Dirs_init (l : Launch) (D : va_G) (k : Nat → ClassId) (a : Nat) (d n : Nat) : MuC l y_Dirs_init w_Dirs_init ({ frames := 1, cells := 1, slots := 64, locals := 20 }) [.ref a, .ref d, .ref n] D cl5 (tyC k) ([(a, .inr (0, [.null, .null, .null]))]) (fun _ : Nat => True) (fun q => [(a, .inr (0, [.ref d, .ref n, .ref q])), (q, .inl (k 2, 64, .inl (fun _ => nI 0)))]) 1 64 := by
  intro sz
  refine Met.ofW (cc := b_Dirs_init) (maxL := 3) (ret := none) (by decide) rfl ?_
  intro p9 e9 s m args9 below9 meth9 c9 s₁ B hml hv
  obtain ⟨rfl, hsz, hP, hK, hD0⟩ := hv
  have hx := B.exec
  have hb := B.bytes
  have hr := B.returns
  have hts := atoms_spec (ws := w_Dirs_init) B.pre
  have hTB : ∀ w ∈ lw_tb, w.before _ s = true := fun w h => hts w (List.mem_cons_of_mem _ h)
  have hown : s.vm.findClass R_Dirs = some m.cls := findClass_of_methodNamed B.named
  have hlocks := B.notSynchronized
  have hin : meth9.name = "<init>" := (name_of_methodNamed B.named B.method).1
  subst hsz
  have hD := hD0.self (sz := s.heap.size)
  generalize hAe : va_A ([(a, .inr (0, [.null, .null, .null]))]) s.heap.size = A at hD ⊢
  have hA : ∀ q : Nat, s.heap.size ≤ q → A q := fun q h => by rw [← hAe]; exact Or.inr h
  have hS : va_S A s.heap s.heap [] := va_S.rf
  have hl := lv_entry ([.ref a, .ref d, .ref n]) (n := 3) (Nat.le_of_ble_eq_true rfl)
  rw [lg_entry_eq]
  generalize (lg_sl ([.ref a, .ref d, .ref n]) ++ List.replicate (3 - (lg_sl ([.ref a, .ref d, .ref n])).length) Slot.unset).toArray = ls at hl ⊢
  have hl : lv_has ls 3 [(0, .ref a), (1, .ref d), (2, .ref n)] := hl
  refine lv_aload_n hx hb d_Dirs_init_0 rfl (lv_at hl 0 rfl) ?_
  refine W.objInit hx hb hown (hTB _ k_131) (hTB _ k_70) (hTB _ k_71) rfl (by rw [hml]; exact hl.1) rfl d_Dirs_init_1 (Nat.le_of_ble_eq_true rfl) (Nat.le_of_ble_eq_true rfl) ?_
  refine W.eq (g2 := F0 m 4 ls []) rfl ?_
  refine lv_aload_n hx hb d_Dirs_init_4 rfl (lv_at hl 0 rfl) ?_
  refine lv_aload_n hx hb d_Dirs_init_5 rfl (lv_at hl 1 rfl) ?_
  refine va_putF (D := D) (ci := 0) (v := .ref d) (ty := .object "TreeFiles$Disk") (C := R_Dirs) (T := T_Dirs) (N := 3) hx hb hTB in_Dirs t_Dirs t_Dirs_ok n_Dirs hown hK hP hD hS 0 rfl rfl 0 (by decide) (hTB _ k_132) (fun _ h9 => h9) rfl hin rfl (by decide +kernel) rfl rfl (Nat.le_of_ble_eq_true rfl) d_Dirs_init_6 (fun H locs hP hD hS => ?_)
  have hP : va_P D cl5 ([(a, .inr (0, [.ref d, .null, .null]))]) H := hP
  have hD : va_D A ([(a, .inr (0, [.ref d, .null, .null]))]) := hD
  refine lv_aload_n hx hb d_Dirs_init_9 rfl (lv_at hl 0 rfl) ?_
  refine lv_aload_n hx hb d_Dirs_init_10 rfl (lv_at hl 2 rfl) ?_
  refine va_putF (D := D) (ci := 0) (v := .ref n) (ty := .object "TreeFiles$Inodes") (C := R_Dirs) (T := T_Dirs) (N := 3) hx hb hTB in_Dirs t_Dirs t_Dirs_ok n_Dirs hown hK hP hD hS 0 rfl rfl 1 (by decide) (hTB _ k_133) (fun _ h9 => h9) rfl hin rfl (by decide +kernel) rfl rfl (Nat.le_of_ble_eq_true rfl) d_Dirs_init_11 (fun H locs hP hD hS => ?_)
  have hP : va_P D cl5 ([(a, .inr (0, [.ref d, .ref n, .null]))]) H := hP
  have hD : va_D A ([(a, .inr (0, [.ref d, .ref n, .null]))]) := hD
  refine lv_aload_n hx hb d_Dirs_init_14 rfl (lv_at hl 0 rfl) ?_
  refine lv_bipush (v := nI 64) hx hb d_Dirs_init_15 (by decide +kernel) ?_
  refine gz_newi hx hb (hTB _ k_142) hK hP hD hS hA 2 rfl (n := 64) (by omega) (Nat.le_of_ble_eq_true rfl) (show 0 + 64 ≤ 64 by omega) d_Dirs_init_17 (fun q1 H hP hD hS => ?_)
  refine W.widen (k := 1) (n := 64) (by omega) (by omega) ?_
  have hP : va_P D cl5 ([(a, .inr (0, [.ref d, .ref n, .null])), (q1, .inl (k 2, 64, .inl (fun _ => nI 0)))]) H := hP
  have hD : va_D A ([(a, .inr (0, [.ref d, .ref n, .null])), (q1, .inl (k 2, 64, .inl (fun _ => nI 0)))]) := hD
  refine va_putF (D := D) (ci := 0) (v := .ref q1) (ty := .array .int) (C := R_Dirs) (T := T_Dirs) (N := 3) hx hb hTB in_Dirs t_Dirs t_Dirs_ok n_Dirs hown hK hP hD hS 0 rfl rfl 2 (by decide) (hTB _ k_134) (fun _ h9 => h9) rfl hin rfl (by decide +kernel) rfl rfl (Nat.le_of_ble_eq_true rfl) d_Dirs_init_19 (fun H locs hP hD hS => ?_)
  have hP : va_P D cl5 ([(a, .inr (0, [.ref d, .ref n, .ref q1])), (q1, .inl (k 2, 64, .inl (fun _ => nI 0)))]) H := hP
  have hD : va_D A ([(a, .inr (0, [.ref d, .ref n, .ref q1])), (q1, .inl (k 2, 64, .inl (fun _ => nI 0)))]) := hD
  have hP9 : va_P D cl5 ([(a, .inr (0, [.ref d, .ref n, .ref q1])), (q1, .inl (k 2, 64, .inl (fun _ => nI 0)))]) H := hP
  have hD9 : va_D A ([(a, .inr (0, [.ref d, .ref n, .ref q1])), (q1, .inl (k 2, 64, .inl (fun _ => nI 0)))]) := hD
  exact W.vret hx hb hr (fun tt9 ht9 hW9 => ⟨⟨q1, rfl, trivial, ⟨by rw [ht9]; exact hP9, hD9⟩⟩, hS.F ht9⟩) hS.2.2 d_Dirs_init_22
theorem d_Mod_init_0 : decode b_Mod_init 0 = .ok (.aload_n 0, 1) := by decide +kernel
theorem d_Mod_init_1 : decode b_Mod_init 1 = .ok (.invokespecial 1, 3) := by decide +kernel
theorem d_Mod_init_4 : decode b_Mod_init 4 = .ok (.aload_n 0, 1) := by decide +kernel
theorem d_Mod_init_5 : decode b_Mod_init 5 = .ok (.sipush 512, 3) := by decide +kernel
theorem d_Mod_init_8 : decode b_Mod_init 8 = .ok (.newarray .int, 2) := by decide +kernel
theorem d_Mod_init_10 : decode b_Mod_init 10 = .ok (.putfield 7, 3) := by decide +kernel
theorem d_Mod_init_13 : decode b_Mod_init 13 = .ok (.aload_n 0, 1) := by decide +kernel
theorem d_Mod_init_14 : decode b_Mod_init 14 = .ok (.sipush 1280, 3) := by decide +kernel
theorem d_Mod_init_17 : decode b_Mod_init 17 = .ok (.newarray .int, 2) := by decide +kernel
theorem d_Mod_init_19 : decode b_Mod_init 19 = .ok (.putfield 13, 3) := by decide +kernel
theorem d_Mod_init_22 : decode b_Mod_init 22 = .ok (.aload_n 0, 1) := by decide +kernel
theorem d_Mod_init_23 : decode b_Mod_init 23 = .ok (.sipush 768, 3) := by decide +kernel
theorem d_Mod_init_26 : decode b_Mod_init 26 = .ok (.newarray .int, 2) := by decide +kernel
theorem d_Mod_init_28 : decode b_Mod_init 28 = .ok (.putfield 16, 3) := by decide +kernel
theorem d_Mod_init_31 : decode b_Mod_init 31 = .ok (.aload_n 0, 1) := by decide +kernel
theorem d_Mod_init_32 : decode b_Mod_init 32 = .ok (.ldc 19, 2) := by decide +kernel
theorem d_Mod_init_34 : decode b_Mod_init 34 = .ok (.newarray .int, 2) := by decide +kernel
theorem d_Mod_init_36 : decode b_Mod_init 36 = .ok (.putfield 20, 3) := by decide +kernel
theorem d_Mod_init_39 : decode b_Mod_init 39 = .ok (.aload_n 0, 1) := by decide +kernel
theorem d_Mod_init_40 : decode b_Mod_init 40 = .ok (.sipush 1280, 3) := by decide +kernel
theorem d_Mod_init_43 : decode b_Mod_init 43 = .ok (.newarray .int, 2) := by decide +kernel
theorem d_Mod_init_45 : decode b_Mod_init 45 = .ok (.putfield 23, 3) := by decide +kernel
theorem d_Mod_init_48 : decode b_Mod_init 48 = .ok (.aload_n 0, 1) := by decide +kernel
theorem d_Mod_init_49 : decode b_Mod_init 49 = .ok (.sipush 768, 3) := by decide +kernel
theorem d_Mod_init_52 : decode b_Mod_init 52 = .ok (.newarray .int, 2) := by decide +kernel
theorem d_Mod_init_54 : decode b_Mod_init 54 = .ok (.putfield 26, 3) := by decide +kernel
theorem d_Mod_init_57 : decode b_Mod_init 57 = .ok (.aload_n 0, 1) := by decide +kernel
theorem d_Mod_init_58 : decode b_Mod_init 58 = .ok (.ldc 19, 2) := by decide +kernel
theorem d_Mod_init_60 : decode b_Mod_init 60 = .ok (.newarray .int, 2) := by decide +kernel
theorem d_Mod_init_62 : decode b_Mod_init 62 = .ok (.putfield 29, 3) := by decide +kernel
theorem d_Mod_init_65 : decode b_Mod_init 65 = .ok (.aload_n 0, 1) := by decide +kernel
theorem d_Mod_init_66 : decode b_Mod_init 66 = .ok (.sipush 1280, 3) := by decide +kernel
theorem d_Mod_init_69 : decode b_Mod_init 69 = .ok (.newarray .int, 2) := by decide +kernel
theorem d_Mod_init_71 : decode b_Mod_init 71 = .ok (.putfield 32, 3) := by decide +kernel
theorem d_Mod_init_74 : decode b_Mod_init 74 = .ok (.aload_n 0, 1) := by decide +kernel
theorem d_Mod_init_75 : decode b_Mod_init 75 = .ok (.sipush 768, 3) := by decide +kernel
theorem d_Mod_init_78 : decode b_Mod_init 78 = .ok (.newarray .int, 2) := by decide +kernel
theorem d_Mod_init_80 : decode b_Mod_init 80 = .ok (.putfield 35, 3) := by decide +kernel
theorem d_Mod_init_83 : decode b_Mod_init 83 = .ok (.aload_n 0, 1) := by decide +kernel
theorem d_Mod_init_84 : decode b_Mod_init 84 = .ok (.ldc 19, 2) := by decide +kernel
theorem d_Mod_init_86 : decode b_Mod_init 86 = .ok (.newarray .int, 2) := by decide +kernel
theorem d_Mod_init_88 : decode b_Mod_init 88 = .ok (.putfield 38, 3) := by decide +kernel
theorem d_Mod_init_91 : decode b_Mod_init 91 = .ok (.aload_n 0, 1) := by decide +kernel
theorem d_Mod_init_92 : decode b_Mod_init 92 = .ok (.iload_n 1, 1) := by decide +kernel
theorem d_Mod_init_93 : decode b_Mod_init 93 = .ok (.bipush 96, 2) := by decide +kernel
theorem d_Mod_init_95 : decode b_Mod_init 95 = .ok (.if_icmp .lt 10, 3) := by decide +kernel
theorem d_Mod_init_98 : decode b_Mod_init 98 = .ok (.iload_n 1, 1) := by decide +kernel
theorem d_Mod_init_99 : decode b_Mod_init 99 = .ok (.sipush 768, 3) := by decide +kernel
theorem d_Mod_init_102 : decode b_Mod_init 102 = .ok (.if_icmp .le 8, 3) := by decide +kernel
theorem d_Mod_init_105 : decode b_Mod_init 105 = .ok (.bipush 96, 2) := by decide +kernel
theorem d_Mod_init_107 : decode b_Mod_init 107 = .ok (.goto 4, 3) := by decide +kernel
theorem d_Mod_init_110 : decode b_Mod_init 110 = .ok (.iload_n 1, 1) := by decide +kernel
theorem d_Mod_init_111 : decode b_Mod_init 111 = .ok (.putfield 41, 3) := by decide +kernel
theorem d_Mod_init_114 : decode b_Mod_init 114 = .ok (.aload_n 0, 1) := by decide +kernel
theorem d_Mod_init_115 : decode b_Mod_init 115 = .ok (.getfield 13, 3) := by decide +kernel
theorem d_Mod_init_118 : decode b_Mod_init 118 = .ok (.iconst 0, 1) := by decide +kernel
theorem d_Mod_init_119 : decode b_Mod_init 119 = .ok (.iconst 2, 1) := by decide +kernel
theorem d_Mod_init_120 : decode b_Mod_init 120 = .ok (.iastore, 1) := by decide +kernel
theorem d_Mod_init_121 : decode b_Mod_init 121 = .ok (.iconst 0, 1) := by decide +kernel
theorem d_Mod_init_122 : decode b_Mod_init 122 = .ok (.istore_n 2, 1) := by decide +kernel
theorem d_Mod_init_123 : decode b_Mod_init 123 = .ok (.iload_n 2, 1) := by decide +kernel
theorem d_Mod_init_124 : decode b_Mod_init 124 = .ok (.bipush 59, 2) := by decide +kernel
theorem d_Mod_init_126 : decode b_Mod_init 126 = .ok (.if_icmp .ge 17, 3) := by decide +kernel
theorem d_Mod_init_129 : decode b_Mod_init 129 = .ok (.aload_n 0, 1) := by decide +kernel
theorem d_Mod_init_130 : decode b_Mod_init 130 = .ok (.getfield 16, 3) := by decide +kernel
theorem d_Mod_init_133 : decode b_Mod_init 133 = .ok (.iload_n 2, 1) := by decide +kernel
theorem d_Mod_init_134 : decode b_Mod_init 134 = .ok (.bipush 100, 2) := by decide +kernel
theorem d_Mod_init_136 : decode b_Mod_init 136 = .ok (.iastore, 1) := by decide +kernel
theorem d_Mod_init_137 : decode b_Mod_init 137 = .ok (.iinc 2 1, 3) := by decide +kernel
theorem d_Mod_init_140 : decode b_Mod_init 140 = .ok (.goto (-17), 3) := by decide +kernel
theorem d_Mod_init_143 : decode b_Mod_init 143 = .ok (.aload_n 0, 1) := by decide +kernel
theorem d_Mod_init_144 : decode b_Mod_init 144 = .ok (.invokevirtual 45, 3) := by decide +kernel
theorem d_Mod_init_147 : decode b_Mod_init 147 = .ok (.pop, 1) := by decide +kernel
theorem d_Mod_init_148 : decode b_Mod_init 148 = .ok (.return_, 1) := by decide +kernel
set_option maxHeartbeats 4000000 in
set_option maxRecDepth 100000 in
theorem c_Mod_init (l : Launch) (D : va_G) (k : Nat → ClassId) (a : Nat) (x : Int32) (L : Nat) (hLx : blN x = L) : MuC l y_Mod_init w_Mod_init ({ frames := 5, cells := 10, slots := 154112, locals := 115 }) [.ref a, .int (x)] D cl5 (tyC k) ([(a, .inr (4, [.int (nI 0), .int (nI 0), .null, .int (nI 0), .null, .null, .null, .null, .null, .null, .null, .null, .null, .int (nI 0)]))]) (fun g : Nat → Nat => g 20 = a) (fun g => wM g k L (rstI L)) 10 154112 := by
  intro sz
  refine Met.ofW (cc := b_Mod_init) (maxL := 3) (ret := none) (by decide) rfl ?_
  intro p9 e9 s m args9 below9 meth9 c9 s₁ B hml hv
  obtain ⟨rfl, hsz, hP, hK, hD0⟩ := hv
  have hx := B.exec
  have hb := B.bytes
  have hr := B.returns
  have hts := atoms_spec (ws := w_Mod_init) B.pre
  have hTB : ∀ w ∈ lw_tb, w.before _ s = true := fun w h => hts w (List.mem_cons_of_mem _ h)
  have hown : s.vm.findClass R_Mod = some m.cls := findClass_of_methodNamed B.named
  have hlocks := B.notSynchronized
  have hin : meth9.name = "<init>" := (name_of_methodNamed B.named B.method).1
  subst hsz
  have hD := hD0.self (sz := s.heap.size)
  generalize hAe : va_A ([(a, .inr (4, [.int (nI 0), .int (nI 0), .null, .int (nI 0), .null, .null, .null, .null, .null, .null, .null, .null, .null, .int (nI 0)]))]) s.heap.size = A at hD ⊢
  have hA : ∀ q : Nat, s.heap.size ≤ q → A q := fun q h => by rw [← hAe]; exact Or.inr h
  have hS : va_S A s.heap s.heap [] := va_S.rf
  have hl := lv_entry ([.ref a, .int (x)]) (n := 3) (Nat.le_of_ble_eq_true rfl)
  rw [lg_entry_eq]
  generalize (lg_sl ([.ref a, .int (x)]) ++ List.replicate (3 - (lg_sl ([.ref a, .int (x)])).length) Slot.unset).toArray = ls at hl ⊢
  have hl : lv_has ls 3 [(0, .ref a), (1, .int (x))] := hl
  have hL0 : 96 ≤ L := by rw [← hLx]; exact (blN_b x).1
  have hL : L ≤ 768 := by rw [← hLx]; exact (blN_b x).2
  refine lv_aload_n hx hb d_Mod_init_0 rfl (lv_at hl 0 rfl) ?_
  refine W.objInit hx hb hown (hTB _ k_615) (hTB _ k_70) (hTB _ k_71) rfl (by rw [hml]; exact hl.1) rfl d_Mod_init_1 (Nat.le_of_ble_eq_true rfl) (Nat.le_of_ble_eq_true rfl) ?_
  refine W.eq (g2 := F0 m 4 ls []) rfl ?_
  refine lv_aload_n hx hb d_Mod_init_4 rfl (lv_at hl 0 rfl) ?_
  refine lv_sipush (v := nI 512) hx hb d_Mod_init_5 (by decide +kernel) ?_
  refine gz_newi hx hb (hTB _ k_142) hK hP hD hS hA 2 rfl (n := 512) (by omega) (Nat.le_of_ble_eq_true rfl) (show 0 + 512 ≤ 154112 by omega) d_Mod_init_8 (fun q1 H hP hD hS => ?_)
  refine W.widen (k := 1) (n := 512) (by omega) (by omega) ?_
  have hP : va_P D cl5 ([(a, .inr (4, [.int (nI 0), .int (nI 0), .null, .int (nI 0), .null, .null, .null, .null, .null, .null, .null, .null, .null, .int (nI 0)])), (q1, .inl (k 2, 512, .inl (fun _ => nI 0)))]) H := hP
  have hD : va_D A ([(a, .inr (4, [.int (nI 0), .int (nI 0), .null, .int (nI 0), .null, .null, .null, .null, .null, .null, .null, .null, .null, .int (nI 0)])), (q1, .inl (k 2, 512, .inl (fun _ => nI 0)))]) := hD
  refine va_putF (D := D) (ci := 4) (v := .ref q1) (ty := .array .int) (C := R_Mod) (T := T_Mod) (N := 14) hx hb hTB in_Mod t_Mod t_Mod_ok n_Mod hown hK hP hD hS 0 rfl rfl 2 (by decide) (hTB _ k_646) (fun _ h9 => h9) rfl hin rfl (by decide +kernel) rfl rfl (Nat.le_of_ble_eq_true rfl) d_Mod_init_10 (fun H locs hP hD hS => ?_)
  have hP : va_P D cl5 ([(a, .inr (4, [.int (nI 0), .int (nI 0), .ref q1, .int (nI 0), .null, .null, .null, .null, .null, .null, .null, .null, .null, .int (nI 0)])), (q1, .inl (k 2, 512, .inl (fun _ => nI 0)))]) H := hP
  have hD : va_D A ([(a, .inr (4, [.int (nI 0), .int (nI 0), .ref q1, .int (nI 0), .null, .null, .null, .null, .null, .null, .null, .null, .null, .int (nI 0)])), (q1, .inl (k 2, 512, .inl (fun _ => nI 0)))]) := hD
  refine lv_aload_n hx hb d_Mod_init_13 rfl (lv_at hl 0 rfl) ?_
  refine lv_sipush (v := nI 1280) hx hb d_Mod_init_14 (by decide +kernel) ?_
  refine gz_newi hx hb (hTB _ k_142) hK hP hD hS hA 2 rfl (n := 1280) (by omega) (Nat.le_of_ble_eq_true rfl) (show 512 + 1280 ≤ 154112 by omega) d_Mod_init_17 (fun q2 H hP hD hS => ?_)
  refine W.widen (k := 2) (n := 1792) (by omega) (by omega) ?_
  have hP : va_P D cl5 ([(a, .inr (4, [.int (nI 0), .int (nI 0), .ref q1, .int (nI 0), .null, .null, .null, .null, .null, .null, .null, .null, .null, .int (nI 0)])), (q1, .inl (k 2, 512, .inl (fun _ => nI 0))), (q2, .inl (k 2, 1280, .inl (fun _ => nI 0)))]) H := hP
  have hD : va_D A ([(a, .inr (4, [.int (nI 0), .int (nI 0), .ref q1, .int (nI 0), .null, .null, .null, .null, .null, .null, .null, .null, .null, .int (nI 0)])), (q1, .inl (k 2, 512, .inl (fun _ => nI 0))), (q2, .inl (k 2, 1280, .inl (fun _ => nI 0)))]) := hD
  refine va_putF (D := D) (ci := 4) (v := .ref q2) (ty := .array .int) (C := R_Mod) (T := T_Mod) (N := 14) hx hb hTB in_Mod t_Mod t_Mod_ok n_Mod hown hK hP hD hS 0 rfl rfl 4 (by decide) (hTB _ k_648) (fun _ h9 => h9) rfl hin rfl (by decide +kernel) rfl rfl (Nat.le_of_ble_eq_true rfl) d_Mod_init_19 (fun H locs hP hD hS => ?_)
  have hP : va_P D cl5 ([(a, .inr (4, [.int (nI 0), .int (nI 0), .ref q1, .int (nI 0), .ref q2, .null, .null, .null, .null, .null, .null, .null, .null, .int (nI 0)])), (q1, .inl (k 2, 512, .inl (fun _ => nI 0))), (q2, .inl (k 2, 1280, .inl (fun _ => nI 0)))]) H := hP
  have hD : va_D A ([(a, .inr (4, [.int (nI 0), .int (nI 0), .ref q1, .int (nI 0), .ref q2, .null, .null, .null, .null, .null, .null, .null, .null, .int (nI 0)])), (q1, .inl (k 2, 512, .inl (fun _ => nI 0))), (q2, .inl (k 2, 1280, .inl (fun _ => nI 0)))]) := hD
  refine lv_aload_n hx hb d_Mod_init_22 rfl (lv_at hl 0 rfl) ?_
  refine lv_sipush (v := nI 768) hx hb d_Mod_init_23 (by decide +kernel) ?_
  refine gz_newi hx hb (hTB _ k_142) hK hP hD hS hA 2 rfl (n := 768) (by omega) (Nat.le_of_ble_eq_true rfl) (show 1792 + 768 ≤ 154112 by omega) d_Mod_init_26 (fun q3 H hP hD hS => ?_)
  refine W.widen (k := 3) (n := 2560) (by omega) (by omega) ?_
  have hP : va_P D cl5 ([(a, .inr (4, [.int (nI 0), .int (nI 0), .ref q1, .int (nI 0), .ref q2, .null, .null, .null, .null, .null, .null, .null, .null, .int (nI 0)])), (q1, .inl (k 2, 512, .inl (fun _ => nI 0))), (q2, .inl (k 2, 1280, .inl (fun _ => nI 0))), (q3, .inl (k 2, 768, .inl (fun _ => nI 0)))]) H := hP
  have hD : va_D A ([(a, .inr (4, [.int (nI 0), .int (nI 0), .ref q1, .int (nI 0), .ref q2, .null, .null, .null, .null, .null, .null, .null, .null, .int (nI 0)])), (q1, .inl (k 2, 512, .inl (fun _ => nI 0))), (q2, .inl (k 2, 1280, .inl (fun _ => nI 0))), (q3, .inl (k 2, 768, .inl (fun _ => nI 0)))]) := hD
  refine va_putF (D := D) (ci := 4) (v := .ref q3) (ty := .array .int) (C := R_Mod) (T := T_Mod) (N := 14) hx hb hTB in_Mod t_Mod t_Mod_ok n_Mod hown hK hP hD hS 0 rfl rfl 5 (by decide) (hTB _ k_649) (fun _ h9 => h9) rfl hin rfl (by decide +kernel) rfl rfl (Nat.le_of_ble_eq_true rfl) d_Mod_init_28 (fun H locs hP hD hS => ?_)
  have hP : va_P D cl5 ([(a, .inr (4, [.int (nI 0), .int (nI 0), .ref q1, .int (nI 0), .ref q2, .ref q3, .null, .null, .null, .null, .null, .null, .null, .int (nI 0)])), (q1, .inl (k 2, 512, .inl (fun _ => nI 0))), (q2, .inl (k 2, 1280, .inl (fun _ => nI 0))), (q3, .inl (k 2, 768, .inl (fun _ => nI 0)))]) H := hP
  have hD : va_D A ([(a, .inr (4, [.int (nI 0), .int (nI 0), .ref q1, .int (nI 0), .ref q2, .ref q3, .null, .null, .null, .null, .null, .null, .null, .int (nI 0)])), (q1, .inl (k 2, 512, .inl (fun _ => nI 0))), (q2, .inl (k 2, 1280, .inl (fun _ => nI 0))), (q3, .inl (k 2, 768, .inl (fun _ => nI 0)))]) := hD
  refine lv_aload_n hx hb d_Mod_init_31 rfl (lv_at hl 0 rfl) ?_
  refine lv_ldc (v := nI 49152) hx hb hown (hTB _ k_616) d_Mod_init_32 ?_
  refine gz_newi hx hb (hTB _ k_142) hK hP hD hS hA 2 rfl (n := 49152) (by omega) (Nat.le_of_ble_eq_true rfl) (show 2560 + 49152 ≤ 154112 by omega) d_Mod_init_34 (fun q4 H hP hD hS => ?_)
  refine W.widen (k := 4) (n := 51712) (by omega) (by omega) ?_
  have hP : va_P D cl5 ([(a, .inr (4, [.int (nI 0), .int (nI 0), .ref q1, .int (nI 0), .ref q2, .ref q3, .null, .null, .null, .null, .null, .null, .null, .int (nI 0)])), (q1, .inl (k 2, 512, .inl (fun _ => nI 0))), (q2, .inl (k 2, 1280, .inl (fun _ => nI 0))), (q3, .inl (k 2, 768, .inl (fun _ => nI 0))), (q4, .inl (k 2, 49152, .inl (fun _ => nI 0)))]) H := hP
  have hD : va_D A ([(a, .inr (4, [.int (nI 0), .int (nI 0), .ref q1, .int (nI 0), .ref q2, .ref q3, .null, .null, .null, .null, .null, .null, .null, .int (nI 0)])), (q1, .inl (k 2, 512, .inl (fun _ => nI 0))), (q2, .inl (k 2, 1280, .inl (fun _ => nI 0))), (q3, .inl (k 2, 768, .inl (fun _ => nI 0))), (q4, .inl (k 2, 49152, .inl (fun _ => nI 0)))]) := hD
  refine va_putF (D := D) (ci := 4) (v := .ref q4) (ty := .array .int) (C := R_Mod) (T := T_Mod) (N := 14) hx hb hTB in_Mod t_Mod t_Mod_ok n_Mod hown hK hP hD hS 0 rfl rfl 6 (by decide) (hTB _ k_650) (fun _ h9 => h9) rfl hin rfl (by decide +kernel) rfl rfl (Nat.le_of_ble_eq_true rfl) d_Mod_init_36 (fun H locs hP hD hS => ?_)
  have hP : va_P D cl5 ([(a, .inr (4, [.int (nI 0), .int (nI 0), .ref q1, .int (nI 0), .ref q2, .ref q3, .ref q4, .null, .null, .null, .null, .null, .null, .int (nI 0)])), (q1, .inl (k 2, 512, .inl (fun _ => nI 0))), (q2, .inl (k 2, 1280, .inl (fun _ => nI 0))), (q3, .inl (k 2, 768, .inl (fun _ => nI 0))), (q4, .inl (k 2, 49152, .inl (fun _ => nI 0)))]) H := hP
  have hD : va_D A ([(a, .inr (4, [.int (nI 0), .int (nI 0), .ref q1, .int (nI 0), .ref q2, .ref q3, .ref q4, .null, .null, .null, .null, .null, .null, .int (nI 0)])), (q1, .inl (k 2, 512, .inl (fun _ => nI 0))), (q2, .inl (k 2, 1280, .inl (fun _ => nI 0))), (q3, .inl (k 2, 768, .inl (fun _ => nI 0))), (q4, .inl (k 2, 49152, .inl (fun _ => nI 0)))]) := hD
  refine lv_aload_n hx hb d_Mod_init_39 rfl (lv_at hl 0 rfl) ?_
  refine lv_sipush (v := nI 1280) hx hb d_Mod_init_40 (by decide +kernel) ?_
  refine gz_newi hx hb (hTB _ k_142) hK hP hD hS hA 2 rfl (n := 1280) (by omega) (Nat.le_of_ble_eq_true rfl) (show 51712 + 1280 ≤ 154112 by omega) d_Mod_init_43 (fun q5 H hP hD hS => ?_)
  refine W.widen (k := 5) (n := 52992) (by omega) (by omega) ?_
  have hP : va_P D cl5 ([(a, .inr (4, [.int (nI 0), .int (nI 0), .ref q1, .int (nI 0), .ref q2, .ref q3, .ref q4, .null, .null, .null, .null, .null, .null, .int (nI 0)])), (q1, .inl (k 2, 512, .inl (fun _ => nI 0))), (q2, .inl (k 2, 1280, .inl (fun _ => nI 0))), (q3, .inl (k 2, 768, .inl (fun _ => nI 0))), (q4, .inl (k 2, 49152, .inl (fun _ => nI 0))), (q5, .inl (k 2, 1280, .inl (fun _ => nI 0)))]) H := hP
  have hD : va_D A ([(a, .inr (4, [.int (nI 0), .int (nI 0), .ref q1, .int (nI 0), .ref q2, .ref q3, .ref q4, .null, .null, .null, .null, .null, .null, .int (nI 0)])), (q1, .inl (k 2, 512, .inl (fun _ => nI 0))), (q2, .inl (k 2, 1280, .inl (fun _ => nI 0))), (q3, .inl (k 2, 768, .inl (fun _ => nI 0))), (q4, .inl (k 2, 49152, .inl (fun _ => nI 0))), (q5, .inl (k 2, 1280, .inl (fun _ => nI 0)))]) := hD
  refine va_putF (D := D) (ci := 4) (v := .ref q5) (ty := .array .int) (C := R_Mod) (T := T_Mod) (N := 14) hx hb hTB in_Mod t_Mod t_Mod_ok n_Mod hown hK hP hD hS 0 rfl rfl 7 (by decide) (hTB _ k_651) (fun _ h9 => h9) rfl hin rfl (by decide +kernel) rfl rfl (Nat.le_of_ble_eq_true rfl) d_Mod_init_45 (fun H locs hP hD hS => ?_)
  have hP : va_P D cl5 ([(a, .inr (4, [.int (nI 0), .int (nI 0), .ref q1, .int (nI 0), .ref q2, .ref q3, .ref q4, .ref q5, .null, .null, .null, .null, .null, .int (nI 0)])), (q1, .inl (k 2, 512, .inl (fun _ => nI 0))), (q2, .inl (k 2, 1280, .inl (fun _ => nI 0))), (q3, .inl (k 2, 768, .inl (fun _ => nI 0))), (q4, .inl (k 2, 49152, .inl (fun _ => nI 0))), (q5, .inl (k 2, 1280, .inl (fun _ => nI 0)))]) H := hP
  have hD : va_D A ([(a, .inr (4, [.int (nI 0), .int (nI 0), .ref q1, .int (nI 0), .ref q2, .ref q3, .ref q4, .ref q5, .null, .null, .null, .null, .null, .int (nI 0)])), (q1, .inl (k 2, 512, .inl (fun _ => nI 0))), (q2, .inl (k 2, 1280, .inl (fun _ => nI 0))), (q3, .inl (k 2, 768, .inl (fun _ => nI 0))), (q4, .inl (k 2, 49152, .inl (fun _ => nI 0))), (q5, .inl (k 2, 1280, .inl (fun _ => nI 0)))]) := hD
  refine lv_aload_n hx hb d_Mod_init_48 rfl (lv_at hl 0 rfl) ?_
  refine lv_sipush (v := nI 768) hx hb d_Mod_init_49 (by decide +kernel) ?_
  refine gz_newi hx hb (hTB _ k_142) hK hP hD hS hA 2 rfl (n := 768) (by omega) (Nat.le_of_ble_eq_true rfl) (show 52992 + 768 ≤ 154112 by omega) d_Mod_init_52 (fun q6 H hP hD hS => ?_)
  refine W.widen (k := 6) (n := 53760) (by omega) (by omega) ?_
  have hP : va_P D cl5 ([(a, .inr (4, [.int (nI 0), .int (nI 0), .ref q1, .int (nI 0), .ref q2, .ref q3, .ref q4, .ref q5, .null, .null, .null, .null, .null, .int (nI 0)])), (q1, .inl (k 2, 512, .inl (fun _ => nI 0))), (q2, .inl (k 2, 1280, .inl (fun _ => nI 0))), (q3, .inl (k 2, 768, .inl (fun _ => nI 0))), (q4, .inl (k 2, 49152, .inl (fun _ => nI 0))), (q5, .inl (k 2, 1280, .inl (fun _ => nI 0))), (q6, .inl (k 2, 768, .inl (fun _ => nI 0)))]) H := hP
  have hD : va_D A ([(a, .inr (4, [.int (nI 0), .int (nI 0), .ref q1, .int (nI 0), .ref q2, .ref q3, .ref q4, .ref q5, .null, .null, .null, .null, .null, .int (nI 0)])), (q1, .inl (k 2, 512, .inl (fun _ => nI 0))), (q2, .inl (k 2, 1280, .inl (fun _ => nI 0))), (q3, .inl (k 2, 768, .inl (fun _ => nI 0))), (q4, .inl (k 2, 49152, .inl (fun _ => nI 0))), (q5, .inl (k 2, 1280, .inl (fun _ => nI 0))), (q6, .inl (k 2, 768, .inl (fun _ => nI 0)))]) := hD
  refine va_putF (D := D) (ci := 4) (v := .ref q6) (ty := .array .int) (C := R_Mod) (T := T_Mod) (N := 14) hx hb hTB in_Mod t_Mod t_Mod_ok n_Mod hown hK hP hD hS 0 rfl rfl 8 (by decide) (hTB _ k_652) (fun _ h9 => h9) rfl hin rfl (by decide +kernel) rfl rfl (Nat.le_of_ble_eq_true rfl) d_Mod_init_54 (fun H locs hP hD hS => ?_)
  have hP : va_P D cl5 ([(a, .inr (4, [.int (nI 0), .int (nI 0), .ref q1, .int (nI 0), .ref q2, .ref q3, .ref q4, .ref q5, .ref q6, .null, .null, .null, .null, .int (nI 0)])), (q1, .inl (k 2, 512, .inl (fun _ => nI 0))), (q2, .inl (k 2, 1280, .inl (fun _ => nI 0))), (q3, .inl (k 2, 768, .inl (fun _ => nI 0))), (q4, .inl (k 2, 49152, .inl (fun _ => nI 0))), (q5, .inl (k 2, 1280, .inl (fun _ => nI 0))), (q6, .inl (k 2, 768, .inl (fun _ => nI 0)))]) H := hP
  have hD : va_D A ([(a, .inr (4, [.int (nI 0), .int (nI 0), .ref q1, .int (nI 0), .ref q2, .ref q3, .ref q4, .ref q5, .ref q6, .null, .null, .null, .null, .int (nI 0)])), (q1, .inl (k 2, 512, .inl (fun _ => nI 0))), (q2, .inl (k 2, 1280, .inl (fun _ => nI 0))), (q3, .inl (k 2, 768, .inl (fun _ => nI 0))), (q4, .inl (k 2, 49152, .inl (fun _ => nI 0))), (q5, .inl (k 2, 1280, .inl (fun _ => nI 0))), (q6, .inl (k 2, 768, .inl (fun _ => nI 0)))]) := hD
  refine lv_aload_n hx hb d_Mod_init_57 rfl (lv_at hl 0 rfl) ?_
  refine lv_ldc (v := nI 49152) hx hb hown (hTB _ k_616) d_Mod_init_58 ?_
  refine gz_newi hx hb (hTB _ k_142) hK hP hD hS hA 2 rfl (n := 49152) (by omega) (Nat.le_of_ble_eq_true rfl) (show 53760 + 49152 ≤ 154112 by omega) d_Mod_init_60 (fun q7 H hP hD hS => ?_)
  refine W.widen (k := 7) (n := 102912) (by omega) (by omega) ?_
  have hP : va_P D cl5 ([(a, .inr (4, [.int (nI 0), .int (nI 0), .ref q1, .int (nI 0), .ref q2, .ref q3, .ref q4, .ref q5, .ref q6, .null, .null, .null, .null, .int (nI 0)])), (q1, .inl (k 2, 512, .inl (fun _ => nI 0))), (q2, .inl (k 2, 1280, .inl (fun _ => nI 0))), (q3, .inl (k 2, 768, .inl (fun _ => nI 0))), (q4, .inl (k 2, 49152, .inl (fun _ => nI 0))), (q5, .inl (k 2, 1280, .inl (fun _ => nI 0))), (q6, .inl (k 2, 768, .inl (fun _ => nI 0))), (q7, .inl (k 2, 49152, .inl (fun _ => nI 0)))]) H := hP
  have hD : va_D A ([(a, .inr (4, [.int (nI 0), .int (nI 0), .ref q1, .int (nI 0), .ref q2, .ref q3, .ref q4, .ref q5, .ref q6, .null, .null, .null, .null, .int (nI 0)])), (q1, .inl (k 2, 512, .inl (fun _ => nI 0))), (q2, .inl (k 2, 1280, .inl (fun _ => nI 0))), (q3, .inl (k 2, 768, .inl (fun _ => nI 0))), (q4, .inl (k 2, 49152, .inl (fun _ => nI 0))), (q5, .inl (k 2, 1280, .inl (fun _ => nI 0))), (q6, .inl (k 2, 768, .inl (fun _ => nI 0))), (q7, .inl (k 2, 49152, .inl (fun _ => nI 0)))]) := hD
  refine va_putF (D := D) (ci := 4) (v := .ref q7) (ty := .array .int) (C := R_Mod) (T := T_Mod) (N := 14) hx hb hTB in_Mod t_Mod t_Mod_ok n_Mod hown hK hP hD hS 0 rfl rfl 9 (by decide) (hTB _ k_653) (fun _ h9 => h9) rfl hin rfl (by decide +kernel) rfl rfl (Nat.le_of_ble_eq_true rfl) d_Mod_init_62 (fun H locs hP hD hS => ?_)
  have hP : va_P D cl5 ([(a, .inr (4, [.int (nI 0), .int (nI 0), .ref q1, .int (nI 0), .ref q2, .ref q3, .ref q4, .ref q5, .ref q6, .ref q7, .null, .null, .null, .int (nI 0)])), (q1, .inl (k 2, 512, .inl (fun _ => nI 0))), (q2, .inl (k 2, 1280, .inl (fun _ => nI 0))), (q3, .inl (k 2, 768, .inl (fun _ => nI 0))), (q4, .inl (k 2, 49152, .inl (fun _ => nI 0))), (q5, .inl (k 2, 1280, .inl (fun _ => nI 0))), (q6, .inl (k 2, 768, .inl (fun _ => nI 0))), (q7, .inl (k 2, 49152, .inl (fun _ => nI 0)))]) H := hP
  have hD : va_D A ([(a, .inr (4, [.int (nI 0), .int (nI 0), .ref q1, .int (nI 0), .ref q2, .ref q3, .ref q4, .ref q5, .ref q6, .ref q7, .null, .null, .null, .int (nI 0)])), (q1, .inl (k 2, 512, .inl (fun _ => nI 0))), (q2, .inl (k 2, 1280, .inl (fun _ => nI 0))), (q3, .inl (k 2, 768, .inl (fun _ => nI 0))), (q4, .inl (k 2, 49152, .inl (fun _ => nI 0))), (q5, .inl (k 2, 1280, .inl (fun _ => nI 0))), (q6, .inl (k 2, 768, .inl (fun _ => nI 0))), (q7, .inl (k 2, 49152, .inl (fun _ => nI 0)))]) := hD
  refine lv_aload_n hx hb d_Mod_init_65 rfl (lv_at hl 0 rfl) ?_
  refine lv_sipush (v := nI 1280) hx hb d_Mod_init_66 (by decide +kernel) ?_
  refine gz_newi hx hb (hTB _ k_142) hK hP hD hS hA 2 rfl (n := 1280) (by omega) (Nat.le_of_ble_eq_true rfl) (show 102912 + 1280 ≤ 154112 by omega) d_Mod_init_69 (fun q8 H hP hD hS => ?_)
  refine W.widen (k := 8) (n := 104192) (by omega) (by omega) ?_
  have hP : va_P D cl5 ([(a, .inr (4, [.int (nI 0), .int (nI 0), .ref q1, .int (nI 0), .ref q2, .ref q3, .ref q4, .ref q5, .ref q6, .ref q7, .null, .null, .null, .int (nI 0)])), (q1, .inl (k 2, 512, .inl (fun _ => nI 0))), (q2, .inl (k 2, 1280, .inl (fun _ => nI 0))), (q3, .inl (k 2, 768, .inl (fun _ => nI 0))), (q4, .inl (k 2, 49152, .inl (fun _ => nI 0))), (q5, .inl (k 2, 1280, .inl (fun _ => nI 0))), (q6, .inl (k 2, 768, .inl (fun _ => nI 0))), (q7, .inl (k 2, 49152, .inl (fun _ => nI 0))), (q8, .inl (k 2, 1280, .inl (fun _ => nI 0)))]) H := hP
  have hD : va_D A ([(a, .inr (4, [.int (nI 0), .int (nI 0), .ref q1, .int (nI 0), .ref q2, .ref q3, .ref q4, .ref q5, .ref q6, .ref q7, .null, .null, .null, .int (nI 0)])), (q1, .inl (k 2, 512, .inl (fun _ => nI 0))), (q2, .inl (k 2, 1280, .inl (fun _ => nI 0))), (q3, .inl (k 2, 768, .inl (fun _ => nI 0))), (q4, .inl (k 2, 49152, .inl (fun _ => nI 0))), (q5, .inl (k 2, 1280, .inl (fun _ => nI 0))), (q6, .inl (k 2, 768, .inl (fun _ => nI 0))), (q7, .inl (k 2, 49152, .inl (fun _ => nI 0))), (q8, .inl (k 2, 1280, .inl (fun _ => nI 0)))]) := hD
  refine va_putF (D := D) (ci := 4) (v := .ref q8) (ty := .array .int) (C := R_Mod) (T := T_Mod) (N := 14) hx hb hTB in_Mod t_Mod t_Mod_ok n_Mod hown hK hP hD hS 0 rfl rfl 10 (by decide) (hTB _ k_654) (fun _ h9 => h9) rfl hin rfl (by decide +kernel) rfl rfl (Nat.le_of_ble_eq_true rfl) d_Mod_init_71 (fun H locs hP hD hS => ?_)
  have hP : va_P D cl5 ([(a, .inr (4, [.int (nI 0), .int (nI 0), .ref q1, .int (nI 0), .ref q2, .ref q3, .ref q4, .ref q5, .ref q6, .ref q7, .ref q8, .null, .null, .int (nI 0)])), (q1, .inl (k 2, 512, .inl (fun _ => nI 0))), (q2, .inl (k 2, 1280, .inl (fun _ => nI 0))), (q3, .inl (k 2, 768, .inl (fun _ => nI 0))), (q4, .inl (k 2, 49152, .inl (fun _ => nI 0))), (q5, .inl (k 2, 1280, .inl (fun _ => nI 0))), (q6, .inl (k 2, 768, .inl (fun _ => nI 0))), (q7, .inl (k 2, 49152, .inl (fun _ => nI 0))), (q8, .inl (k 2, 1280, .inl (fun _ => nI 0)))]) H := hP
  have hD : va_D A ([(a, .inr (4, [.int (nI 0), .int (nI 0), .ref q1, .int (nI 0), .ref q2, .ref q3, .ref q4, .ref q5, .ref q6, .ref q7, .ref q8, .null, .null, .int (nI 0)])), (q1, .inl (k 2, 512, .inl (fun _ => nI 0))), (q2, .inl (k 2, 1280, .inl (fun _ => nI 0))), (q3, .inl (k 2, 768, .inl (fun _ => nI 0))), (q4, .inl (k 2, 49152, .inl (fun _ => nI 0))), (q5, .inl (k 2, 1280, .inl (fun _ => nI 0))), (q6, .inl (k 2, 768, .inl (fun _ => nI 0))), (q7, .inl (k 2, 49152, .inl (fun _ => nI 0))), (q8, .inl (k 2, 1280, .inl (fun _ => nI 0)))]) := hD
  refine lv_aload_n hx hb d_Mod_init_74 rfl (lv_at hl 0 rfl) ?_
  refine lv_sipush (v := nI 768) hx hb d_Mod_init_75 (by decide +kernel) ?_
  refine gz_newi hx hb (hTB _ k_142) hK hP hD hS hA 2 rfl (n := 768) (by omega) (Nat.le_of_ble_eq_true rfl) (show 104192 + 768 ≤ 154112 by omega) d_Mod_init_78 (fun q9 H hP hD hS => ?_)
  refine W.widen (k := 9) (n := 104960) (by omega) (by omega) ?_
  have hP : va_P D cl5 ([(a, .inr (4, [.int (nI 0), .int (nI 0), .ref q1, .int (nI 0), .ref q2, .ref q3, .ref q4, .ref q5, .ref q6, .ref q7, .ref q8, .null, .null, .int (nI 0)])), (q1, .inl (k 2, 512, .inl (fun _ => nI 0))), (q2, .inl (k 2, 1280, .inl (fun _ => nI 0))), (q3, .inl (k 2, 768, .inl (fun _ => nI 0))), (q4, .inl (k 2, 49152, .inl (fun _ => nI 0))), (q5, .inl (k 2, 1280, .inl (fun _ => nI 0))), (q6, .inl (k 2, 768, .inl (fun _ => nI 0))), (q7, .inl (k 2, 49152, .inl (fun _ => nI 0))), (q8, .inl (k 2, 1280, .inl (fun _ => nI 0))), (q9, .inl (k 2, 768, .inl (fun _ => nI 0)))]) H := hP
  have hD : va_D A ([(a, .inr (4, [.int (nI 0), .int (nI 0), .ref q1, .int (nI 0), .ref q2, .ref q3, .ref q4, .ref q5, .ref q6, .ref q7, .ref q8, .null, .null, .int (nI 0)])), (q1, .inl (k 2, 512, .inl (fun _ => nI 0))), (q2, .inl (k 2, 1280, .inl (fun _ => nI 0))), (q3, .inl (k 2, 768, .inl (fun _ => nI 0))), (q4, .inl (k 2, 49152, .inl (fun _ => nI 0))), (q5, .inl (k 2, 1280, .inl (fun _ => nI 0))), (q6, .inl (k 2, 768, .inl (fun _ => nI 0))), (q7, .inl (k 2, 49152, .inl (fun _ => nI 0))), (q8, .inl (k 2, 1280, .inl (fun _ => nI 0))), (q9, .inl (k 2, 768, .inl (fun _ => nI 0)))]) := hD
  refine va_putF (D := D) (ci := 4) (v := .ref q9) (ty := .array .int) (C := R_Mod) (T := T_Mod) (N := 14) hx hb hTB in_Mod t_Mod t_Mod_ok n_Mod hown hK hP hD hS 0 rfl rfl 11 (by decide) (hTB _ k_655) (fun _ h9 => h9) rfl hin rfl (by decide +kernel) rfl rfl (Nat.le_of_ble_eq_true rfl) d_Mod_init_80 (fun H locs hP hD hS => ?_)
  have hP : va_P D cl5 ([(a, .inr (4, [.int (nI 0), .int (nI 0), .ref q1, .int (nI 0), .ref q2, .ref q3, .ref q4, .ref q5, .ref q6, .ref q7, .ref q8, .ref q9, .null, .int (nI 0)])), (q1, .inl (k 2, 512, .inl (fun _ => nI 0))), (q2, .inl (k 2, 1280, .inl (fun _ => nI 0))), (q3, .inl (k 2, 768, .inl (fun _ => nI 0))), (q4, .inl (k 2, 49152, .inl (fun _ => nI 0))), (q5, .inl (k 2, 1280, .inl (fun _ => nI 0))), (q6, .inl (k 2, 768, .inl (fun _ => nI 0))), (q7, .inl (k 2, 49152, .inl (fun _ => nI 0))), (q8, .inl (k 2, 1280, .inl (fun _ => nI 0))), (q9, .inl (k 2, 768, .inl (fun _ => nI 0)))]) H := hP
  have hD : va_D A ([(a, .inr (4, [.int (nI 0), .int (nI 0), .ref q1, .int (nI 0), .ref q2, .ref q3, .ref q4, .ref q5, .ref q6, .ref q7, .ref q8, .ref q9, .null, .int (nI 0)])), (q1, .inl (k 2, 512, .inl (fun _ => nI 0))), (q2, .inl (k 2, 1280, .inl (fun _ => nI 0))), (q3, .inl (k 2, 768, .inl (fun _ => nI 0))), (q4, .inl (k 2, 49152, .inl (fun _ => nI 0))), (q5, .inl (k 2, 1280, .inl (fun _ => nI 0))), (q6, .inl (k 2, 768, .inl (fun _ => nI 0))), (q7, .inl (k 2, 49152, .inl (fun _ => nI 0))), (q8, .inl (k 2, 1280, .inl (fun _ => nI 0))), (q9, .inl (k 2, 768, .inl (fun _ => nI 0)))]) := hD
  refine lv_aload_n hx hb d_Mod_init_83 rfl (lv_at hl 0 rfl) ?_
  refine lv_ldc (v := nI 49152) hx hb hown (hTB _ k_616) d_Mod_init_84 ?_
  refine gz_newi hx hb (hTB _ k_142) hK hP hD hS hA 2 rfl (n := 49152) (by omega) (Nat.le_of_ble_eq_true rfl) (show 104960 + 49152 ≤ 154112 by omega) d_Mod_init_86 (fun q10 H hP hD hS => ?_)
  refine W.widen (k := 10) (n := 154112) (by omega) (by omega) ?_
  have hP : va_P D cl5 ([(a, .inr (4, [.int (nI 0), .int (nI 0), .ref q1, .int (nI 0), .ref q2, .ref q3, .ref q4, .ref q5, .ref q6, .ref q7, .ref q8, .ref q9, .null, .int (nI 0)])), (q1, .inl (k 2, 512, .inl (fun _ => nI 0))), (q2, .inl (k 2, 1280, .inl (fun _ => nI 0))), (q3, .inl (k 2, 768, .inl (fun _ => nI 0))), (q4, .inl (k 2, 49152, .inl (fun _ => nI 0))), (q5, .inl (k 2, 1280, .inl (fun _ => nI 0))), (q6, .inl (k 2, 768, .inl (fun _ => nI 0))), (q7, .inl (k 2, 49152, .inl (fun _ => nI 0))), (q8, .inl (k 2, 1280, .inl (fun _ => nI 0))), (q9, .inl (k 2, 768, .inl (fun _ => nI 0))), (q10, .inl (k 2, 49152, .inl (fun _ => nI 0)))]) H := hP
  have hD : va_D A ([(a, .inr (4, [.int (nI 0), .int (nI 0), .ref q1, .int (nI 0), .ref q2, .ref q3, .ref q4, .ref q5, .ref q6, .ref q7, .ref q8, .ref q9, .null, .int (nI 0)])), (q1, .inl (k 2, 512, .inl (fun _ => nI 0))), (q2, .inl (k 2, 1280, .inl (fun _ => nI 0))), (q3, .inl (k 2, 768, .inl (fun _ => nI 0))), (q4, .inl (k 2, 49152, .inl (fun _ => nI 0))), (q5, .inl (k 2, 1280, .inl (fun _ => nI 0))), (q6, .inl (k 2, 768, .inl (fun _ => nI 0))), (q7, .inl (k 2, 49152, .inl (fun _ => nI 0))), (q8, .inl (k 2, 1280, .inl (fun _ => nI 0))), (q9, .inl (k 2, 768, .inl (fun _ => nI 0))), (q10, .inl (k 2, 49152, .inl (fun _ => nI 0)))]) := hD
  refine va_putF (D := D) (ci := 4) (v := .ref q10) (ty := .array .int) (C := R_Mod) (T := T_Mod) (N := 14) hx hb hTB in_Mod t_Mod t_Mod_ok n_Mod hown hK hP hD hS 0 rfl rfl 12 (by decide) (hTB _ k_656) (fun _ h9 => h9) rfl hin rfl (by decide +kernel) rfl rfl (Nat.le_of_ble_eq_true rfl) d_Mod_init_88 (fun H locs hP hD hS => ?_)
  have hP : va_P D cl5 ([(a, .inr (4, [.int (nI 0), .int (nI 0), .ref q1, .int (nI 0), .ref q2, .ref q3, .ref q4, .ref q5, .ref q6, .ref q7, .ref q8, .ref q9, .ref q10, .int (nI 0)])), (q1, .inl (k 2, 512, .inl (fun _ => nI 0))), (q2, .inl (k 2, 1280, .inl (fun _ => nI 0))), (q3, .inl (k 2, 768, .inl (fun _ => nI 0))), (q4, .inl (k 2, 49152, .inl (fun _ => nI 0))), (q5, .inl (k 2, 1280, .inl (fun _ => nI 0))), (q6, .inl (k 2, 768, .inl (fun _ => nI 0))), (q7, .inl (k 2, 49152, .inl (fun _ => nI 0))), (q8, .inl (k 2, 1280, .inl (fun _ => nI 0))), (q9, .inl (k 2, 768, .inl (fun _ => nI 0))), (q10, .inl (k 2, 49152, .inl (fun _ => nI 0)))]) H := hP
  have hD : va_D A ([(a, .inr (4, [.int (nI 0), .int (nI 0), .ref q1, .int (nI 0), .ref q2, .ref q3, .ref q4, .ref q5, .ref q6, .ref q7, .ref q8, .ref q9, .ref q10, .int (nI 0)])), (q1, .inl (k 2, 512, .inl (fun _ => nI 0))), (q2, .inl (k 2, 1280, .inl (fun _ => nI 0))), (q3, .inl (k 2, 768, .inl (fun _ => nI 0))), (q4, .inl (k 2, 49152, .inl (fun _ => nI 0))), (q5, .inl (k 2, 1280, .inl (fun _ => nI 0))), (q6, .inl (k 2, 768, .inl (fun _ => nI 0))), (q7, .inl (k 2, 49152, .inl (fun _ => nI 0))), (q8, .inl (k 2, 1280, .inl (fun _ => nI 0))), (q9, .inl (k 2, 768, .inl (fun _ => nI 0))), (q10, .inl (k 2, 49152, .inl (fun _ => nI 0)))]) := hD
  refine lv_aload_n hx hb d_Mod_init_91 rfl (lv_at hl 0 rfl) ?_
  refine lv_iload_n hx hb d_Mod_init_92 rfl (lv_at hl 1 rfl) ?_
  refine lv_bipush (v := nI 96) hx hb d_Mod_init_93 (by decide +kernel) ?_
  refine lv_icmp_lt (tgt := 105) hx hb d_Mod_init_95 (by decide) (fun h95 => ?_) (fun h95 => ?_)
  · refine lv_bipush (v := nI 96) hx hb d_Mod_init_105 (by decide +kernel) ?_
    refine lv_goto (tgt := 111) hx hb d_Mod_init_107 (by decide) ?_
    have e9 : L = 96 := by rw [← hLx]; unfold blN; rw [if_pos (Or.inl h95)]
    refine W.eq (g2 := F0 m 111 ls [.int (nI L), .ref a]) (by rw [e9]) ?_
    refine va_putF (D := D) (ci := 4) (v := .int (nI L)) (ty := .int) (C := R_Mod) (T := T_Mod) (N := 14) hx hb hTB in_Mod t_Mod t_Mod_ok n_Mod hown hK hP hD hS 0 rfl rfl 1 (by decide) (hTB _ k_645) (fun _ h9 => h9) rfl hin rfl (by decide +kernel) rfl rfl (Nat.le_of_ble_eq_true rfl) d_Mod_init_111 (fun H locs hP hD hS => ?_)
    have hP : va_P D cl5 ([(a, .inr (4, [.int (nI 0), .int (nI L), .ref q1, .int (nI 0), .ref q2, .ref q3, .ref q4, .ref q5, .ref q6, .ref q7, .ref q8, .ref q9, .ref q10, .int (nI 0)])), (q1, .inl (k 2, 512, .inl (fun _ => nI 0))), (q2, .inl (k 2, 1280, .inl (fun _ => nI 0))), (q3, .inl (k 2, 768, .inl (fun _ => nI 0))), (q4, .inl (k 2, 49152, .inl (fun _ => nI 0))), (q5, .inl (k 2, 1280, .inl (fun _ => nI 0))), (q6, .inl (k 2, 768, .inl (fun _ => nI 0))), (q7, .inl (k 2, 49152, .inl (fun _ => nI 0))), (q8, .inl (k 2, 1280, .inl (fun _ => nI 0))), (q9, .inl (k 2, 768, .inl (fun _ => nI 0))), (q10, .inl (k 2, 49152, .inl (fun _ => nI 0)))]) H := hP
    have hD : va_D A ([(a, .inr (4, [.int (nI 0), .int (nI L), .ref q1, .int (nI 0), .ref q2, .ref q3, .ref q4, .ref q5, .ref q6, .ref q7, .ref q8, .ref q9, .ref q10, .int (nI 0)])), (q1, .inl (k 2, 512, .inl (fun _ => nI 0))), (q2, .inl (k 2, 1280, .inl (fun _ => nI 0))), (q3, .inl (k 2, 768, .inl (fun _ => nI 0))), (q4, .inl (k 2, 49152, .inl (fun _ => nI 0))), (q5, .inl (k 2, 1280, .inl (fun _ => nI 0))), (q6, .inl (k 2, 768, .inl (fun _ => nI 0))), (q7, .inl (k 2, 49152, .inl (fun _ => nI 0))), (q8, .inl (k 2, 1280, .inl (fun _ => nI 0))), (q9, .inl (k 2, 768, .inl (fun _ => nI 0))), (q10, .inl (k 2, 49152, .inl (fun _ => nI 0)))]) := hD
    obtain ⟨g, e_20, e_21, e_22, e_23, e_24, e_25, e_26, e_27, e_28, e_29, e_30⟩ : ∃ g : Nat → Nat, g 20 = a ∧ g 21 = q1 ∧ g 22 = q2 ∧ g 23 = q3 ∧ g 24 = q4 ∧ g 25 = q5 ∧ g 26 = q6 ∧ g 27 = q7 ∧ g 28 = q8 ∧ g 29 = q9 ∧ g 30 = q10 := ⟨fun n => match n with | 20 => a | 21 => q1 | 22 => q2 | 23 => q3 | 24 => q4 | 25 => q5 | 26 => q6 | 27 => q7 | 28 => q8 | 29 => q9 | 30 => q10 | _ => 0, rfl, rfl, rfl, rfl, rfl, rfl, rfl, rfl, rfl, rfl, rfl⟩
    subst e_20
    subst e_21
    subst e_22
    subst e_23
    subst e_24
    subst e_25
    subst e_26
    subst e_27
    subst e_28
    subst e_29
    subst e_30
    have hP : va_P D cl5 (wM g k L rstz) H := hP
    have hD : va_D A (wM g k L rstz) := hD
    have hrB := rstz_B
    refine lv_aload_n hx hb d_Mod_init_114 rfl (lv_at hl 0 rfl) ?_
    refine va_get (D := D) (ci := 4) (v := .ref (g 22)) (C := R_Mod) (T := T_Mod) (N := 14) hx hb hTB in_Mod hown hK hP 0 rfl rfl 4 (by decide) (hTB _ k_648) (fun _ h9 => h9) rfl d_Mod_init_115 ?_
    refine lv_iconst (v := nI 0) hx hb d_Mod_init_118 (by decide +kernel) ?_
    refine lv_iconst (v := nI 2) hx hb d_Mod_init_119 (by decide +kernel) ?_
    refine gm_ast hx hb hK hP hD hS 2 2 rfl rfl (i := 0) (x := 2) (by omega) (by omega) d_Mod_init_120 (fun H locs hP hD hS => ?_)
    have hrB := rB_nd (i := 0) (x := 2) hrB (by omega)
    have hP : va_P D cl5 (wM g k L (qNd rstz (va_up (rNd rstz) 0 2))) H := hP
    have hD : va_D A (wM g k L (qNd rstz (va_up (rNd rstz) 0 2))) := hD
    refine lv_iconst (v := nI 0) hx hb d_Mod_init_121 (by decide +kernel) ?_
    refine lv_istore_n (lv' := [(2, .int (nI 0)), (0, .ref (g 20)), (1, .int (x))]) hx hb d_Mod_init_122 rfl hl (by decide) rfl (fun ls hl => ?_)
    refine gz_loop 123 (fun (zz : Nat) H locs ls => match zz with | b => va_P D cl5 (wM g k L (rstF b)) H ∧ va_D A (wM g k L (rstF b)) ∧ va_S A s.heap H locs ∧ lv_has ls 3 [(0, .ref (g 20)), (2, .int (nI b))] ∧ (b ≤ 59) ∧ (rB (rstF b))) (fun (zz : Nat) => match zz with | b => 59 - b) (fun zz H locs ls hI ih123 => ?_) (0) ⟨hP, hD, hS, lv_sub hl [1, 0] rfl, (by omega), hrB⟩
    obtain ⟨b, rfl⟩ : ∃ z, z = zz := ⟨_, rfl⟩
    obtain ⟨hP, hD, hS, hl, hb1, hrB⟩ := hI
    refine lv_iload_n hx hb d_Mod_init_123 rfl (lv_at hl 1 rfl) ?_
    refine lv_bipush (v := nI 59) hx hb d_Mod_init_124 (by decide +kernel) ?_
    refine gz_icmp_ge (tgt := 143) hx hb d_Mod_init_126 (by decide) (by omega) (by omega) (fun h126 => ?_) (fun h126 => ?_)
    · obtain rfl : b = 59 := by omega
      have hX := rstF_X 59
      refine lv_aload_n hx hb d_Mod_init_143 rfl (lv_at hl 0 rfl) ?_
      refine gz_muI (As := []) (rest := []) (wc := (wM g k L (rstF 59))) (w1 := (wM g k L (cmR L (rstF 59)))) (wr := []) ⟨hx, hb, hml, hown, hTB⟩ (c_Mod_commitsAll l D g k L hL0 hL (rstF 59) hrB hX) (cwV 0 hTB (gd_V k_617 k_619 k_15 k_56 k_620) rfl rfl rfl (by decide +kernel) ⟨Nat.le_of_ble_eq_true rfl, Nat.le_of_ble_eq_true rfl⟩) hK hP hD hA [0, 1, 2, 3, 4, 5, 6, 7, 8, 9, 10] [] rfl rfl (by decide) rfl (by decide) (by decide) 0 rfl rfl rfl hl.1 rfl (Nat.le_of_ble_eq_true rfl) d_Mod_init_144 ⟨Nat.le_of_ble_eq_true rfl, Nat.le_of_ble_eq_true rfl⟩ hS (fun H locs hP hD hS => ?_)
      have hP : va_P D cl5 (wM g k L (cmR L (rstF 59))) H := hP
      have hD : va_D A (wM g k L (cmR L (rstF 59))) := hD
      refine lv_pop hx hb d_Mod_init_147 rfl ?_
      have hP9 : va_P D cl5 (wM g k L (rstI L)) H := hP
      have hD9 : va_D A (wM g k L (rstI L)) := hD
      exact W.vret hx hb hr (fun tt9 ht9 hW9 => ⟨⟨g, rfl, rfl, ⟨by rw [ht9]; exact hP9, hD9⟩⟩, hS.F ht9⟩) hS.2.2 d_Mod_init_148
    · refine lv_aload_n hx hb d_Mod_init_129 rfl (lv_at hl 0 rfl) ?_
      refine va_get (D := D) (ci := 4) (v := .ref (g 23)) (C := R_Mod) (T := T_Mod) (N := 14) hx hb hTB in_Mod hown hK hP 0 rfl rfl 5 (by decide) (hTB _ k_649) (fun _ h9 => h9) rfl d_Mod_init_130 ?_
      refine lv_iload_n hx hb d_Mod_init_133 rfl (lv_at hl 1 rfl) ?_
      refine lv_bipush (v := nI 100) hx hb d_Mod_init_134 (by decide +kernel) ?_
      refine gm_ast hx hb hK hP hD hS 3 2 rfl rfl (i := b) (x := 100) (by omega) (by omega) d_Mod_init_136 (fun H locs hP hD hS => ?_)
      have hrB := rB_ow (i := b) (x := 100) hrB (by omega)
      have hP : va_P D cl5 (wM g k L (qOw (rstF b) (va_up (rOw (rstF b)) b 100))) H := hP
      have hD : va_D A (wM g k L (qOw (rstF b) (va_up (rOw (rstF b)) b 100))) := hD
      refine lv_iinc (v := nI (b + 1)) (lv' := [(2, .int (nI (b + 1))), (0, .ref (g 20))]) hx hb d_Mod_init_137 hl (k := 1) rfl (nI_add b 1) (by decide) rfl (fun ls hl => ?_)
      refine lv_goto (tgt := 123) hx hb d_Mod_init_140 (by decide) ?_
      exact ih123 (b + 1) _ _ _ (by first | omega | (dsimp only; omega)) ⟨hP, hD, hS, lv_sub hl [1, 0] rfl, (by omega), hrB⟩
  · refine lv_iload_n hx hb d_Mod_init_98 rfl (lv_at hl 1 rfl) ?_
    refine lv_sipush (v := nI 768) hx hb d_Mod_init_99 (by decide +kernel) ?_
    refine lv_icmp_le (tgt := 110) hx hb d_Mod_init_102 (by decide) (fun h102 => ?_) (fun h102 => ?_)
    · refine lv_iload_n hx hb d_Mod_init_110 rfl (lv_at hl 1 rfl) ?_
      have e9 : nI L = x := by rw [← hLx]; unfold blN; rw [if_neg (fun z => z.elim h95 (Int32.not_lt.mpr h102))]; exact nI_ofclamp (fun z => h95 (Int32.lt_trans z (by decide)))
      refine W.eq (g2 := F0 m 111 ls [.int (nI L), .ref a]) (by rw [e9]) ?_
      refine va_putF (D := D) (ci := 4) (v := .int (nI L)) (ty := .int) (C := R_Mod) (T := T_Mod) (N := 14) hx hb hTB in_Mod t_Mod t_Mod_ok n_Mod hown hK hP hD hS 0 rfl rfl 1 (by decide) (hTB _ k_645) (fun _ h9 => h9) rfl hin rfl (by decide +kernel) rfl rfl (Nat.le_of_ble_eq_true rfl) d_Mod_init_111 (fun H locs hP hD hS => ?_)
      have hP : va_P D cl5 ([(a, .inr (4, [.int (nI 0), .int (nI L), .ref q1, .int (nI 0), .ref q2, .ref q3, .ref q4, .ref q5, .ref q6, .ref q7, .ref q8, .ref q9, .ref q10, .int (nI 0)])), (q1, .inl (k 2, 512, .inl (fun _ => nI 0))), (q2, .inl (k 2, 1280, .inl (fun _ => nI 0))), (q3, .inl (k 2, 768, .inl (fun _ => nI 0))), (q4, .inl (k 2, 49152, .inl (fun _ => nI 0))), (q5, .inl (k 2, 1280, .inl (fun _ => nI 0))), (q6, .inl (k 2, 768, .inl (fun _ => nI 0))), (q7, .inl (k 2, 49152, .inl (fun _ => nI 0))), (q8, .inl (k 2, 1280, .inl (fun _ => nI 0))), (q9, .inl (k 2, 768, .inl (fun _ => nI 0))), (q10, .inl (k 2, 49152, .inl (fun _ => nI 0)))]) H := hP
      have hD : va_D A ([(a, .inr (4, [.int (nI 0), .int (nI L), .ref q1, .int (nI 0), .ref q2, .ref q3, .ref q4, .ref q5, .ref q6, .ref q7, .ref q8, .ref q9, .ref q10, .int (nI 0)])), (q1, .inl (k 2, 512, .inl (fun _ => nI 0))), (q2, .inl (k 2, 1280, .inl (fun _ => nI 0))), (q3, .inl (k 2, 768, .inl (fun _ => nI 0))), (q4, .inl (k 2, 49152, .inl (fun _ => nI 0))), (q5, .inl (k 2, 1280, .inl (fun _ => nI 0))), (q6, .inl (k 2, 768, .inl (fun _ => nI 0))), (q7, .inl (k 2, 49152, .inl (fun _ => nI 0))), (q8, .inl (k 2, 1280, .inl (fun _ => nI 0))), (q9, .inl (k 2, 768, .inl (fun _ => nI 0))), (q10, .inl (k 2, 49152, .inl (fun _ => nI 0)))]) := hD
      obtain ⟨g, e_20, e_21, e_22, e_23, e_24, e_25, e_26, e_27, e_28, e_29, e_30⟩ : ∃ g : Nat → Nat, g 20 = a ∧ g 21 = q1 ∧ g 22 = q2 ∧ g 23 = q3 ∧ g 24 = q4 ∧ g 25 = q5 ∧ g 26 = q6 ∧ g 27 = q7 ∧ g 28 = q8 ∧ g 29 = q9 ∧ g 30 = q10 := ⟨fun n => match n with | 20 => a | 21 => q1 | 22 => q2 | 23 => q3 | 24 => q4 | 25 => q5 | 26 => q6 | 27 => q7 | 28 => q8 | 29 => q9 | 30 => q10 | _ => 0, rfl, rfl, rfl, rfl, rfl, rfl, rfl, rfl, rfl, rfl, rfl⟩
      subst e_20
      subst e_21
      subst e_22
      subst e_23
      subst e_24
      subst e_25
      subst e_26
      subst e_27
      subst e_28
      subst e_29
      subst e_30
      have hP : va_P D cl5 (wM g k L rstz) H := hP
      have hD : va_D A (wM g k L rstz) := hD
      have hrB := rstz_B
      refine lv_aload_n hx hb d_Mod_init_114 rfl (lv_at hl 0 rfl) ?_
      refine va_get (D := D) (ci := 4) (v := .ref (g 22)) (C := R_Mod) (T := T_Mod) (N := 14) hx hb hTB in_Mod hown hK hP 0 rfl rfl 4 (by decide) (hTB _ k_648) (fun _ h9 => h9) rfl d_Mod_init_115 ?_
      refine lv_iconst (v := nI 0) hx hb d_Mod_init_118 (by decide +kernel) ?_
      refine lv_iconst (v := nI 2) hx hb d_Mod_init_119 (by decide +kernel) ?_
      refine gm_ast hx hb hK hP hD hS 2 2 rfl rfl (i := 0) (x := 2) (by omega) (by omega) d_Mod_init_120 (fun H locs hP hD hS => ?_)
      have hrB := rB_nd (i := 0) (x := 2) hrB (by omega)
      have hP : va_P D cl5 (wM g k L (qNd rstz (va_up (rNd rstz) 0 2))) H := hP
      have hD : va_D A (wM g k L (qNd rstz (va_up (rNd rstz) 0 2))) := hD
      refine lv_iconst (v := nI 0) hx hb d_Mod_init_121 (by decide +kernel) ?_
      refine lv_istore_n (lv' := [(2, .int (nI 0)), (0, .ref (g 20)), (1, .int (x))]) hx hb d_Mod_init_122 rfl hl (by decide) rfl (fun ls hl => ?_)
      refine gz_loop 123 (fun (zz : Nat) H locs ls => match zz with | b => va_P D cl5 (wM g k L (rstF b)) H ∧ va_D A (wM g k L (rstF b)) ∧ va_S A s.heap H locs ∧ lv_has ls 3 [(0, .ref (g 20)), (2, .int (nI b))] ∧ (b ≤ 59) ∧ (rB (rstF b))) (fun (zz : Nat) => match zz with | b => 59 - b) (fun zz H locs ls hI ih123 => ?_) (0) ⟨hP, hD, hS, lv_sub hl [1, 0] rfl, (by omega), hrB⟩
      obtain ⟨b, rfl⟩ : ∃ z, z = zz := ⟨_, rfl⟩
      obtain ⟨hP, hD, hS, hl, hb1, hrB⟩ := hI
      refine lv_iload_n hx hb d_Mod_init_123 rfl (lv_at hl 1 rfl) ?_
      refine lv_bipush (v := nI 59) hx hb d_Mod_init_124 (by decide +kernel) ?_
      refine gz_icmp_ge (tgt := 143) hx hb d_Mod_init_126 (by decide) (by omega) (by omega) (fun h126 => ?_) (fun h126 => ?_)
      · obtain rfl : b = 59 := by omega
        have hX := rstF_X 59
        refine lv_aload_n hx hb d_Mod_init_143 rfl (lv_at hl 0 rfl) ?_
        refine gz_muI (As := []) (rest := []) (wc := (wM g k L (rstF 59))) (w1 := (wM g k L (cmR L (rstF 59)))) (wr := []) ⟨hx, hb, hml, hown, hTB⟩ (c_Mod_commitsAll l D g k L hL0 hL (rstF 59) hrB hX) (cwV 0 hTB (gd_V k_617 k_619 k_15 k_56 k_620) rfl rfl rfl (by decide +kernel) ⟨Nat.le_of_ble_eq_true rfl, Nat.le_of_ble_eq_true rfl⟩) hK hP hD hA [0, 1, 2, 3, 4, 5, 6, 7, 8, 9, 10] [] rfl rfl (by decide) rfl (by decide) (by decide) 0 rfl rfl rfl hl.1 rfl (Nat.le_of_ble_eq_true rfl) d_Mod_init_144 ⟨Nat.le_of_ble_eq_true rfl, Nat.le_of_ble_eq_true rfl⟩ hS (fun H locs hP hD hS => ?_)
        have hP : va_P D cl5 (wM g k L (cmR L (rstF 59))) H := hP
        have hD : va_D A (wM g k L (cmR L (rstF 59))) := hD
        refine lv_pop hx hb d_Mod_init_147 rfl ?_
        have hP9 : va_P D cl5 (wM g k L (rstI L)) H := hP
        have hD9 : va_D A (wM g k L (rstI L)) := hD
        exact W.vret hx hb hr (fun tt9 ht9 hW9 => ⟨⟨g, rfl, rfl, ⟨by rw [ht9]; exact hP9, hD9⟩⟩, hS.F ht9⟩) hS.2.2 d_Mod_init_148
      · refine lv_aload_n hx hb d_Mod_init_129 rfl (lv_at hl 0 rfl) ?_
        refine va_get (D := D) (ci := 4) (v := .ref (g 23)) (C := R_Mod) (T := T_Mod) (N := 14) hx hb hTB in_Mod hown hK hP 0 rfl rfl 5 (by decide) (hTB _ k_649) (fun _ h9 => h9) rfl d_Mod_init_130 ?_
        refine lv_iload_n hx hb d_Mod_init_133 rfl (lv_at hl 1 rfl) ?_
        refine lv_bipush (v := nI 100) hx hb d_Mod_init_134 (by decide +kernel) ?_
        refine gm_ast hx hb hK hP hD hS 3 2 rfl rfl (i := b) (x := 100) (by omega) (by omega) d_Mod_init_136 (fun H locs hP hD hS => ?_)
        have hrB := rB_ow (i := b) (x := 100) hrB (by omega)
        have hP : va_P D cl5 (wM g k L (qOw (rstF b) (va_up (rOw (rstF b)) b 100))) H := hP
        have hD : va_D A (wM g k L (qOw (rstF b) (va_up (rOw (rstF b)) b 100))) := hD
        refine lv_iinc (v := nI (b + 1)) (lv' := [(2, .int (nI (b + 1))), (0, .ref (g 20))]) hx hb d_Mod_init_137 hl (k := 1) rfl (nI_add b 1) (by decide) rfl (fun ls hl => ?_)
        refine lv_goto (tgt := 123) hx hb d_Mod_init_140 (by decide) ?_
        exact ih123 (b + 1) _ _ _ (by first | omega | (dsimp only; omega)) ⟨hP, hD, hS, lv_sub hl [1, 0] rfl, (by omega), hrB⟩
    · refine lv_bipush (v := nI 96) hx hb d_Mod_init_105 (by decide +kernel) ?_
      refine lv_goto (tgt := 111) hx hb d_Mod_init_107 (by decide) ?_
      have e9 : L = 96 := by rw [← hLx]; unfold blN; rw [if_pos (Or.inr (Int32.not_le.mp h102))]
      refine W.eq (g2 := F0 m 111 ls [.int (nI L), .ref a]) (by rw [e9]) ?_
      refine va_putF (D := D) (ci := 4) (v := .int (nI L)) (ty := .int) (C := R_Mod) (T := T_Mod) (N := 14) hx hb hTB in_Mod t_Mod t_Mod_ok n_Mod hown hK hP hD hS 0 rfl rfl 1 (by decide) (hTB _ k_645) (fun _ h9 => h9) rfl hin rfl (by decide +kernel) rfl rfl (Nat.le_of_ble_eq_true rfl) d_Mod_init_111 (fun H locs hP hD hS => ?_)
      have hP : va_P D cl5 ([(a, .inr (4, [.int (nI 0), .int (nI L), .ref q1, .int (nI 0), .ref q2, .ref q3, .ref q4, .ref q5, .ref q6, .ref q7, .ref q8, .ref q9, .ref q10, .int (nI 0)])), (q1, .inl (k 2, 512, .inl (fun _ => nI 0))), (q2, .inl (k 2, 1280, .inl (fun _ => nI 0))), (q3, .inl (k 2, 768, .inl (fun _ => nI 0))), (q4, .inl (k 2, 49152, .inl (fun _ => nI 0))), (q5, .inl (k 2, 1280, .inl (fun _ => nI 0))), (q6, .inl (k 2, 768, .inl (fun _ => nI 0))), (q7, .inl (k 2, 49152, .inl (fun _ => nI 0))), (q8, .inl (k 2, 1280, .inl (fun _ => nI 0))), (q9, .inl (k 2, 768, .inl (fun _ => nI 0))), (q10, .inl (k 2, 49152, .inl (fun _ => nI 0)))]) H := hP
      have hD : va_D A ([(a, .inr (4, [.int (nI 0), .int (nI L), .ref q1, .int (nI 0), .ref q2, .ref q3, .ref q4, .ref q5, .ref q6, .ref q7, .ref q8, .ref q9, .ref q10, .int (nI 0)])), (q1, .inl (k 2, 512, .inl (fun _ => nI 0))), (q2, .inl (k 2, 1280, .inl (fun _ => nI 0))), (q3, .inl (k 2, 768, .inl (fun _ => nI 0))), (q4, .inl (k 2, 49152, .inl (fun _ => nI 0))), (q5, .inl (k 2, 1280, .inl (fun _ => nI 0))), (q6, .inl (k 2, 768, .inl (fun _ => nI 0))), (q7, .inl (k 2, 49152, .inl (fun _ => nI 0))), (q8, .inl (k 2, 1280, .inl (fun _ => nI 0))), (q9, .inl (k 2, 768, .inl (fun _ => nI 0))), (q10, .inl (k 2, 49152, .inl (fun _ => nI 0)))]) := hD
      obtain ⟨g, e_20, e_21, e_22, e_23, e_24, e_25, e_26, e_27, e_28, e_29, e_30⟩ : ∃ g : Nat → Nat, g 20 = a ∧ g 21 = q1 ∧ g 22 = q2 ∧ g 23 = q3 ∧ g 24 = q4 ∧ g 25 = q5 ∧ g 26 = q6 ∧ g 27 = q7 ∧ g 28 = q8 ∧ g 29 = q9 ∧ g 30 = q10 := ⟨fun n => match n with | 20 => a | 21 => q1 | 22 => q2 | 23 => q3 | 24 => q4 | 25 => q5 | 26 => q6 | 27 => q7 | 28 => q8 | 29 => q9 | 30 => q10 | _ => 0, rfl, rfl, rfl, rfl, rfl, rfl, rfl, rfl, rfl, rfl, rfl⟩
      subst e_20
      subst e_21
      subst e_22
      subst e_23
      subst e_24
      subst e_25
      subst e_26
      subst e_27
      subst e_28
      subst e_29
      subst e_30
      have hP : va_P D cl5 (wM g k L rstz) H := hP
      have hD : va_D A (wM g k L rstz) := hD
      have hrB := rstz_B
      refine lv_aload_n hx hb d_Mod_init_114 rfl (lv_at hl 0 rfl) ?_
      refine va_get (D := D) (ci := 4) (v := .ref (g 22)) (C := R_Mod) (T := T_Mod) (N := 14) hx hb hTB in_Mod hown hK hP 0 rfl rfl 4 (by decide) (hTB _ k_648) (fun _ h9 => h9) rfl d_Mod_init_115 ?_
      refine lv_iconst (v := nI 0) hx hb d_Mod_init_118 (by decide +kernel) ?_
      refine lv_iconst (v := nI 2) hx hb d_Mod_init_119 (by decide +kernel) ?_
      refine gm_ast hx hb hK hP hD hS 2 2 rfl rfl (i := 0) (x := 2) (by omega) (by omega) d_Mod_init_120 (fun H locs hP hD hS => ?_)
      have hrB := rB_nd (i := 0) (x := 2) hrB (by omega)
      have hP : va_P D cl5 (wM g k L (qNd rstz (va_up (rNd rstz) 0 2))) H := hP
      have hD : va_D A (wM g k L (qNd rstz (va_up (rNd rstz) 0 2))) := hD
      refine lv_iconst (v := nI 0) hx hb d_Mod_init_121 (by decide +kernel) ?_
      refine lv_istore_n (lv' := [(2, .int (nI 0)), (0, .ref (g 20)), (1, .int (x))]) hx hb d_Mod_init_122 rfl hl (by decide) rfl (fun ls hl => ?_)
      refine gz_loop 123 (fun (zz : Nat) H locs ls => match zz with | b => va_P D cl5 (wM g k L (rstF b)) H ∧ va_D A (wM g k L (rstF b)) ∧ va_S A s.heap H locs ∧ lv_has ls 3 [(0, .ref (g 20)), (2, .int (nI b))] ∧ (b ≤ 59) ∧ (rB (rstF b))) (fun (zz : Nat) => match zz with | b => 59 - b) (fun zz H locs ls hI ih123 => ?_) (0) ⟨hP, hD, hS, lv_sub hl [1, 0] rfl, (by omega), hrB⟩
      obtain ⟨b, rfl⟩ : ∃ z, z = zz := ⟨_, rfl⟩
      obtain ⟨hP, hD, hS, hl, hb1, hrB⟩ := hI
      refine lv_iload_n hx hb d_Mod_init_123 rfl (lv_at hl 1 rfl) ?_
      refine lv_bipush (v := nI 59) hx hb d_Mod_init_124 (by decide +kernel) ?_
      refine gz_icmp_ge (tgt := 143) hx hb d_Mod_init_126 (by decide) (by omega) (by omega) (fun h126 => ?_) (fun h126 => ?_)
      · obtain rfl : b = 59 := by omega
        have hX := rstF_X 59
        refine lv_aload_n hx hb d_Mod_init_143 rfl (lv_at hl 0 rfl) ?_
        refine gz_muI (As := []) (rest := []) (wc := (wM g k L (rstF 59))) (w1 := (wM g k L (cmR L (rstF 59)))) (wr := []) ⟨hx, hb, hml, hown, hTB⟩ (c_Mod_commitsAll l D g k L hL0 hL (rstF 59) hrB hX) (cwV 0 hTB (gd_V k_617 k_619 k_15 k_56 k_620) rfl rfl rfl (by decide +kernel) ⟨Nat.le_of_ble_eq_true rfl, Nat.le_of_ble_eq_true rfl⟩) hK hP hD hA [0, 1, 2, 3, 4, 5, 6, 7, 8, 9, 10] [] rfl rfl (by decide) rfl (by decide) (by decide) 0 rfl rfl rfl hl.1 rfl (Nat.le_of_ble_eq_true rfl) d_Mod_init_144 ⟨Nat.le_of_ble_eq_true rfl, Nat.le_of_ble_eq_true rfl⟩ hS (fun H locs hP hD hS => ?_)
        have hP : va_P D cl5 (wM g k L (cmR L (rstF 59))) H := hP
        have hD : va_D A (wM g k L (cmR L (rstF 59))) := hD
        refine lv_pop hx hb d_Mod_init_147 rfl ?_
        have hP9 : va_P D cl5 (wM g k L (rstI L)) H := hP
        have hD9 : va_D A (wM g k L (rstI L)) := hD
        exact W.vret hx hb hr (fun tt9 ht9 hW9 => ⟨⟨g, rfl, rfl, ⟨by rw [ht9]; exact hP9, hD9⟩⟩, hS.F ht9⟩) hS.2.2 d_Mod_init_148
      · refine lv_aload_n hx hb d_Mod_init_129 rfl (lv_at hl 0 rfl) ?_
        refine va_get (D := D) (ci := 4) (v := .ref (g 23)) (C := R_Mod) (T := T_Mod) (N := 14) hx hb hTB in_Mod hown hK hP 0 rfl rfl 5 (by decide) (hTB _ k_649) (fun _ h9 => h9) rfl d_Mod_init_130 ?_
        refine lv_iload_n hx hb d_Mod_init_133 rfl (lv_at hl 1 rfl) ?_
        refine lv_bipush (v := nI 100) hx hb d_Mod_init_134 (by decide +kernel) ?_
        refine gm_ast hx hb hK hP hD hS 3 2 rfl rfl (i := b) (x := 100) (by omega) (by omega) d_Mod_init_136 (fun H locs hP hD hS => ?_)
        have hrB := rB_ow (i := b) (x := 100) hrB (by omega)
        have hP : va_P D cl5 (wM g k L (qOw (rstF b) (va_up (rOw (rstF b)) b 100))) H := hP
        have hD : va_D A (wM g k L (qOw (rstF b) (va_up (rOw (rstF b)) b 100))) := hD
        refine lv_iinc (v := nI (b + 1)) (lv' := [(2, .int (nI (b + 1))), (0, .ref (g 20))]) hx hb d_Mod_init_137 hl (k := 1) rfl (nI_add b 1) (by decide) rfl (fun ls hl => ?_)
        refine lv_goto (tgt := 123) hx hb d_Mod_init_140 (by decide) ?_
        exact ih123 (b + 1) _ _ _ (by first | omega | (dsimp only; omega)) ⟨hP, hD, hS, lv_sub hl [1, 0] rfl, (by omega), hrB⟩
theorem d_Tree_init_0 : decode b_Tree_init 0 = .ok (.aload_n 0, 1) := by decide +kernel
theorem d_Tree_init_1 : decode b_Tree_init 1 = .ok (.invokespecial 1, 3) := by decide +kernel
theorem d_Tree_init_4 : decode b_Tree_init 4 = .ok (.aload_n 0, 1) := by decide +kernel
theorem d_Tree_init_5 : decode b_Tree_init 5 = .ok (.new 7, 3) := by decide +kernel
theorem d_Tree_init_8 : decode b_Tree_init 8 = .ok (.dup, 1) := by decide +kernel
theorem d_Tree_init_9 : decode b_Tree_init 9 = .ok (.iload_n 1, 1) := by decide +kernel
theorem d_Tree_init_10 : decode b_Tree_init 10 = .ok (.invokespecial 9, 3) := by decide +kernel
theorem d_Tree_init_13 : decode b_Tree_init 13 = .ok (.putfield 12, 3) := by decide +kernel
theorem d_Tree_init_16 : decode b_Tree_init 16 = .ok (.aload_n 0, 1) := by decide +kernel
theorem d_Tree_init_17 : decode b_Tree_init 17 = .ok (.new 18, 3) := by decide +kernel
theorem d_Tree_init_20 : decode b_Tree_init 20 = .ok (.dup, 1) := by decide +kernel
theorem d_Tree_init_21 : decode b_Tree_init 21 = .ok (.aload_n 0, 1) := by decide +kernel
theorem d_Tree_init_22 : decode b_Tree_init 22 = .ok (.getfield 12, 3) := by decide +kernel
theorem d_Tree_init_25 : decode b_Tree_init 25 = .ok (.invokespecial 20, 3) := by decide +kernel
theorem d_Tree_init_28 : decode b_Tree_init 28 = .ok (.putfield 23, 3) := by decide +kernel
theorem d_Tree_init_31 : decode b_Tree_init 31 = .ok (.aload_n 0, 1) := by decide +kernel
theorem d_Tree_init_32 : decode b_Tree_init 32 = .ok (.new 27, 3) := by decide +kernel
theorem d_Tree_init_35 : decode b_Tree_init 35 = .ok (.dup, 1) := by decide +kernel
theorem d_Tree_init_36 : decode b_Tree_init 36 = .ok (.aload_n 0, 1) := by decide +kernel
theorem d_Tree_init_37 : decode b_Tree_init 37 = .ok (.getfield 12, 3) := by decide +kernel
theorem d_Tree_init_40 : decode b_Tree_init 40 = .ok (.aload_n 0, 1) := by decide +kernel
theorem d_Tree_init_41 : decode b_Tree_init 41 = .ok (.getfield 23, 3) := by decide +kernel
theorem d_Tree_init_44 : decode b_Tree_init 44 = .ok (.invokespecial 29, 3) := by decide +kernel
theorem d_Tree_init_47 : decode b_Tree_init 47 = .ok (.putfield 32, 3) := by decide +kernel
theorem d_Tree_init_50 : decode b_Tree_init 50 = .ok (.aload_n 0, 1) := by decide +kernel
theorem d_Tree_init_51 : decode b_Tree_init 51 = .ok (.sipush 512, 3) := by decide +kernel
theorem d_Tree_init_54 : decode b_Tree_init 54 = .ok (.newarray .int, 2) := by decide +kernel
theorem d_Tree_init_56 : decode b_Tree_init 56 = .ok (.putfield 36, 3) := by decide +kernel
theorem d_Tree_init_59 : decode b_Tree_init 59 = .ok (.aload_n 0, 1) := by decide +kernel
theorem d_Tree_init_60 : decode b_Tree_init 60 = .ok (.iconst 0, 1) := by decide +kernel
theorem d_Tree_init_61 : decode b_Tree_init 61 = .ok (.putfield 40, 3) := by decide +kernel
theorem d_Tree_init_64 : decode b_Tree_init 64 = .ok (.aload_n 0, 1) := by decide +kernel
theorem d_Tree_init_65 : decode b_Tree_init 65 = .ok (.getfield 23, 3) := by decide +kernel
theorem d_Tree_init_68 : decode b_Tree_init 68 = .ok (.iconst 0, 1) := by decide +kernel
theorem d_Tree_init_69 : decode b_Tree_init 69 = .ok (.iconst 2, 1) := by decide +kernel
theorem d_Tree_init_70 : decode b_Tree_init 70 = .ok (.invokevirtual 44, 3) := by decide +kernel
theorem d_Tree_init_73 : decode b_Tree_init 73 = .ok (.aload_n 0, 1) := by decide +kernel
theorem d_Tree_init_74 : decode b_Tree_init 74 = .ok (.getfield 12, 3) := by decide +kernel
theorem d_Tree_init_77 : decode b_Tree_init 77 = .ok (.invokevirtual 48, 3) := by decide +kernel
theorem d_Tree_init_80 : decode b_Tree_init 80 = .ok (.aload_n 0, 1) := by decide +kernel
theorem d_Tree_init_81 : decode b_Tree_init 81 = .ok (.getfield 12, 3) := by decide +kernel
theorem d_Tree_init_84 : decode b_Tree_init 84 = .ok (.invokevirtual 51, 3) := by decide +kernel
theorem d_Tree_init_87 : decode b_Tree_init 87 = .ok (.return_, 1) := by decide +kernel
set_option maxHeartbeats 4000000 in
set_option maxRecDepth 100000 in
theorem c_Tree_init (l : Launch) (D : va_G) (k : Nat → ClassId) (a : Nat) (x : Int32) (L : Nat) (hLx : blN x = L) : MuC l y_Tree_init w_Tree_init ({ frames := 4, cells := 10, slots := 20555, locals := 128 }) [.ref a, .int (x)] D cl5 (tyC k) ([(a, .inr (3, [.null, .null, .null, .null, .int (nI 0)]))]) (fun g : Nat → Nat => g 9 = a) (fun g => wT g k L (dskI L) (fun _ => nI 0) 0 (fun _ => nI 0)) 10 20555 := by
  intro sz
  refine Met.ofW (cc := b_Tree_init) (maxL := 2) (ret := none) (by decide) rfl ?_
  intro p9 e9 s m args9 below9 meth9 c9 s₁ B hml hv
  obtain ⟨rfl, hsz, hP, hK, hD0⟩ := hv
  have hx := B.exec
  have hb := B.bytes
  have hr := B.returns
  have hts := atoms_spec (ws := w_Tree_init) B.pre
  have hTB : ∀ w ∈ lw_tb, w.before _ s = true := fun w h => hts w (List.mem_cons_of_mem _ h)
  have hown : s.vm.findClass R_Tree = some m.cls := findClass_of_methodNamed B.named
  have hlocks := B.notSynchronized
  have hin : meth9.name = "<init>" := (name_of_methodNamed B.named B.method).1
  subst hsz
  have hD := hD0.self (sz := s.heap.size)
  generalize hAe : va_A ([(a, .inr (3, [.null, .null, .null, .null, .int (nI 0)]))]) s.heap.size = A at hD ⊢
  have hA : ∀ q : Nat, s.heap.size ≤ q → A q := fun q h => by rw [← hAe]; exact Or.inr h
  have hS : va_S A s.heap s.heap [] := va_S.rf
  have hl := lv_entry ([.ref a, .int (x)]) (n := 2) (Nat.le_of_ble_eq_true rfl)
  rw [lg_entry_eq]
  generalize (lg_sl ([.ref a, .int (x)]) ++ List.replicate (2 - (lg_sl ([.ref a, .int (x)])).length) Slot.unset).toArray = ls at hl ⊢
  have hl : lv_has ls 2 [(0, .ref a), (1, .int (x))] := hl
  have hL0 : 96 ≤ L := by rw [← hLx]; exact (blN_b x).1
  have hL : L ≤ 768 := by rw [← hLx]; exact (blN_b x).2
  refine lv_aload_n hx hb d_Tree_init_0 rfl (lv_at hl 0 rfl) ?_
  refine W.objInit hx hb hown (hTB _ k_69) (hTB _ k_70) (hTB _ k_71) rfl (by rw [hml]; exact hl.1) rfl d_Tree_init_1 (Nat.le_of_ble_eq_true rfl) (Nat.le_of_ble_eq_true rfl) ?_
  refine W.eq (g2 := F0 m 4 ls []) rfl ?_
  refine lv_aload_n hx hb d_Tree_init_4 rfl (lv_at hl 0 rfl) ?_
  refine va_new (D := D) (ci := 1) (fs := [.int (nI 0), .null, .null, .null, .null, .null, .int (nI 0)]) (C := R_Disk) (T := T_Disk) (N := 7) hx hb hTB in_Disk t_Disk t_Disk_ok hown (hTB _ k_72) (hTB _ k_73) (hTB _ k_52) hK hP hD hS hA rfl (fun j hj => by rcases (show j = 0 ∨ j = 1 ∨ j = 2 ∨ j = 3 ∨ j = 4 ∨ j = 5 ∨ j = 6 by omega) with rfl | rfl | rfl | rfl | rfl | rfl | rfl <;> rfl) (Nat.le_of_ble_eq_true rfl) (Nat.le_of_ble_eq_true rfl) d_Tree_init_5 (fun q1 H hP hD hS => ?_)
  refine W.widen (k := 1) (n := 7) (by omega) (by omega) ?_
  have hP : va_P D cl5 ([(a, .inr (3, [.null, .null, .null, .null, .int (nI 0)])), (q1, .inr (1, [.int (nI 0), .null, .null, .null, .null, .null, .int (nI 0)]))]) H := hP
  have hD : va_D A ([(a, .inr (3, [.null, .null, .null, .null, .int (nI 0)])), (q1, .inr (1, [.int (nI 0), .null, .null, .null, .null, .null, .int (nI 0)]))]) := hD
  refine lv_dup hx hb d_Tree_init_8 rfl ?_
  refine lv_iload_n hx hb d_Tree_init_9 rfl (lv_at hl 1 rfl) ?_
  refine gz_ctor (As := [.int (x)]) (rest := [.ref q1, .ref a]) (wc := ([(q1, .inr (1, [.int (nI 0), .null, .null, .null, .null, .null, .int (nI 0)]))])) (wr := ([(a, .inr (3, [.null, .null, .null, .null, .int (nI 0)]))])) ⟨hx, hb, hml, hown, hTB⟩ (c_Disk_init l D k q1 x L hLx) (cwI 1 hTB (gd_I k_76) rfl rfl rfl (hTB _ k_52) (hTB _ k_74) (hTB _ k_75) rfl (by decide +kernel) ⟨Nat.le_of_ble_eq_true rfl, Nat.le_of_ble_eq_true rfl⟩) hK hP hD hA [1] [0] rfl rfl (by decide) rfl (by decide) (by decide) rfl hl.1 rfl (Nat.le_of_ble_eq_true rfl) d_Tree_init_10 ⟨Nat.le_of_ble_eq_true rfl, Nat.le_of_ble_eq_true rfl⟩ hS (fun g9 H locs hg9 hP hD hS => ?_)
  have hP : va_P D cl5 ([(a, .inr (3, [.null, .null, .null, .null, .int (nI 0)])), (g9 0, .inr (1, [.int (nI L), .ref (g9 1), .ref (g9 2), .ref (g9 3), .ref (g9 4), .ref (g9 5), .int (dEa (dskF 59))])), (g9 1, .inl (k 0, L * 8, .inr (.inl (dNow (dskF 59))))), (g9 2, .inl (k 0, L * 8, .inr (.inl (dCom (dskF 59))))), (g9 3, .inl (k 0, L * 8, .inr (.inl (dBef (dskF 59))))), (g9 4, .inl (k 1, L, .inl (fun j => zI (dTou (dskF 59) j)))), (g9 5, .inl (k 1, L, .inl (fun j => zI (dDif (dskF 59) j))))]) H := hP
  have hD : va_D A ([(a, .inr (3, [.null, .null, .null, .null, .int (nI 0)])), (g9 0, .inr (1, [.int (nI L), .ref (g9 1), .ref (g9 2), .ref (g9 3), .ref (g9 4), .ref (g9 5), .int (dEa (dskF 59))])), (g9 1, .inl (k 0, L * 8, .inr (.inl (dNow (dskF 59))))), (g9 2, .inl (k 0, L * 8, .inr (.inl (dCom (dskF 59))))), (g9 3, .inl (k 0, L * 8, .inr (.inl (dBef (dskF 59))))), (g9 4, .inl (k 1, L, .inl (fun j => zI (dTou (dskF 59) j)))), (g9 5, .inl (k 1, L, .inl (fun j => zI (dDif (dskF 59) j))))]) := hD
  generalize g9 0 = p0 at hP hD hg9
  generalize g9 1 = p1 at hP hD
  generalize g9 2 = p2 at hP hD
  generalize g9 3 = p3 at hP hD
  generalize g9 4 = p4 at hP hD
  generalize g9 5 = p5 at hP hD
  have hg9 := hg9.symm
  subst hg9
  refine W.widen (k := 6) (n := 19975) (by omega) (by omega) ?_
  have hP : va_P D cl5 ([(a, .inr (3, [.null, .null, .null, .null, .int (nI 0)])), (q1, .inr (1, [.int (nI L), .ref (p1), .ref (p2), .ref (p3), .ref (p4), .ref (p5), .int (dEa (dskF 59))])), (p1, .inl (k 0, L * 8, .inr (.inl (dNow (dskF 59))))), (p2, .inl (k 0, L * 8, .inr (.inl (dCom (dskF 59))))), (p3, .inl (k 0, L * 8, .inr (.inl (dBef (dskF 59))))), (p4, .inl (k 1, L, .inl (fun j => zI (dTou (dskF 59) j)))), (p5, .inl (k 1, L, .inl (fun j => zI (dDif (dskF 59) j))))]) H := hP
  have hD : va_D A ([(a, .inr (3, [.null, .null, .null, .null, .int (nI 0)])), (q1, .inr (1, [.int (nI L), .ref (p1), .ref (p2), .ref (p3), .ref (p4), .ref (p5), .int (dEa (dskF 59))])), (p1, .inl (k 0, L * 8, .inr (.inl (dNow (dskF 59))))), (p2, .inl (k 0, L * 8, .inr (.inl (dCom (dskF 59))))), (p3, .inl (k 0, L * 8, .inr (.inl (dBef (dskF 59))))), (p4, .inl (k 1, L, .inl (fun j => zI (dTou (dskF 59) j)))), (p5, .inl (k 1, L, .inl (fun j => zI (dDif (dskF 59) j))))]) := hD
  refine va_putF (D := D) (ci := 3) (v := .ref q1) (ty := .object "TreeFiles$Disk") (C := R_Tree) (T := T_Tree) (N := 5) hx hb hTB in_Tree t_Tree t_Tree_ok n_Tree hown hK hP hD hS 0 rfl rfl 0 (by decide) (hTB _ k_195) (fun _ h9 => h9) rfl hin rfl (by decide +kernel) rfl rfl (Nat.le_of_ble_eq_true rfl) d_Tree_init_13 (fun H locs hP hD hS => ?_)
  have hP : va_P D cl5 ([(a, .inr (3, [.ref q1, .null, .null, .null, .int (nI 0)])), (q1, .inr (1, [.int (nI L), .ref (p1), .ref (p2), .ref (p3), .ref (p4), .ref (p5), .int (dEa (dskF 59))])), (p1, .inl (k 0, L * 8, .inr (.inl (dNow (dskF 59))))), (p2, .inl (k 0, L * 8, .inr (.inl (dCom (dskF 59))))), (p3, .inl (k 0, L * 8, .inr (.inl (dBef (dskF 59))))), (p4, .inl (k 1, L, .inl (fun j => zI (dTou (dskF 59) j)))), (p5, .inl (k 1, L, .inl (fun j => zI (dDif (dskF 59) j))))]) H := hP
  have hD : va_D A ([(a, .inr (3, [.ref q1, .null, .null, .null, .int (nI 0)])), (q1, .inr (1, [.int (nI L), .ref (p1), .ref (p2), .ref (p3), .ref (p4), .ref (p5), .int (dEa (dskF 59))])), (p1, .inl (k 0, L * 8, .inr (.inl (dNow (dskF 59))))), (p2, .inl (k 0, L * 8, .inr (.inl (dCom (dskF 59))))), (p3, .inl (k 0, L * 8, .inr (.inl (dBef (dskF 59))))), (p4, .inl (k 1, L, .inl (fun j => zI (dTou (dskF 59) j)))), (p5, .inl (k 1, L, .inl (fun j => zI (dDif (dskF 59) j))))]) := hD
  refine lv_aload_n hx hb d_Tree_init_16 rfl (lv_at hl 0 rfl) ?_
  refine va_new (D := D) (ci := 2) (fs := [.null]) (C := R_Inodes) (T := T_Inodes) (N := 1) hx hb hTB in_Inodes t_Inodes t_Inodes_ok hown (hTB _ k_116) (hTB _ k_117) (hTB _ k_54) hK hP hD hS hA rfl (fun j hj => by have hj9 : j = 0 := Nat.lt_one_iff.mp hj; subst hj9; rfl) (Nat.le_of_ble_eq_true rfl) (Nat.le_of_ble_eq_true rfl) d_Tree_init_17 (fun q2 H hP hD hS => ?_)
  refine W.widen (k := 7) (n := 19976) (by omega) (by omega) ?_
  have hP : va_P D cl5 ([(a, .inr (3, [.ref q1, .null, .null, .null, .int (nI 0)])), (q1, .inr (1, [.int (nI L), .ref (p1), .ref (p2), .ref (p3), .ref (p4), .ref (p5), .int (dEa (dskF 59))])), (p1, .inl (k 0, L * 8, .inr (.inl (dNow (dskF 59))))), (p2, .inl (k 0, L * 8, .inr (.inl (dCom (dskF 59))))), (p3, .inl (k 0, L * 8, .inr (.inl (dBef (dskF 59))))), (p4, .inl (k 1, L, .inl (fun j => zI (dTou (dskF 59) j)))), (p5, .inl (k 1, L, .inl (fun j => zI (dDif (dskF 59) j)))), (q2, .inr (2, [.null]))]) H := hP
  have hD : va_D A ([(a, .inr (3, [.ref q1, .null, .null, .null, .int (nI 0)])), (q1, .inr (1, [.int (nI L), .ref (p1), .ref (p2), .ref (p3), .ref (p4), .ref (p5), .int (dEa (dskF 59))])), (p1, .inl (k 0, L * 8, .inr (.inl (dNow (dskF 59))))), (p2, .inl (k 0, L * 8, .inr (.inl (dCom (dskF 59))))), (p3, .inl (k 0, L * 8, .inr (.inl (dBef (dskF 59))))), (p4, .inl (k 1, L, .inl (fun j => zI (dTou (dskF 59) j)))), (p5, .inl (k 1, L, .inl (fun j => zI (dDif (dskF 59) j)))), (q2, .inr (2, [.null]))]) := hD
  refine lv_dup hx hb d_Tree_init_20 rfl ?_
  refine lv_aload_n hx hb d_Tree_init_21 rfl (lv_at hl 0 rfl) ?_
  refine va_get (D := D) (ci := 3) (v := .ref q1) (C := R_Tree) (T := T_Tree) (N := 5) hx hb hTB in_Tree hown hK hP 0 rfl rfl 0 (by decide) (hTB _ k_195) (fun _ h9 => h9) rfl d_Tree_init_22 ?_
  refine gz_ctor (As := [.ref q1]) (rest := [.ref q2, .ref a]) (wc := ([(q2, .inr (2, [.null]))])) (wr := ([(a, .inr (3, [.ref q1, .null, .null, .null, .int (nI 0)])), (q1, .inr (1, [.int (nI L), .ref (p1), .ref (p2), .ref (p3), .ref (p4), .ref (p5), .int (dEa (dskF 59))])), (p1, .inl (k 0, L * 8, .inr (.inl (dNow (dskF 59))))), (p2, .inl (k 0, L * 8, .inr (.inl (dCom (dskF 59))))), (p3, .inl (k 0, L * 8, .inr (.inl (dBef (dskF 59))))), (p4, .inl (k 1, L, .inl (fun j => zI (dTou (dskF 59) j)))), (p5, .inl (k 1, L, .inl (fun j => zI (dDif (dskF 59) j))))])) ⟨hx, hb, hml, hown, hTB⟩ (c_Inodes_init l D k q2 q1) (cwI 1 hTB (gd_I k_120) rfl rfl rfl (hTB _ k_54) (hTB _ k_118) (hTB _ k_119) rfl (by decide +kernel) ⟨Nat.le_of_ble_eq_true rfl, Nat.le_of_ble_eq_true rfl⟩) hK hP hD hA [7] [0, 1, 2, 3, 4, 5, 6] rfl rfl (by decide) rfl (by decide) (by decide) rfl hl.1 rfl (Nat.le_of_ble_eq_true rfl) d_Tree_init_25 ⟨Nat.le_of_ble_eq_true rfl, Nat.le_of_ble_eq_true rfl⟩ hS (fun _ H locs _ hP hD hS => ?_)
  refine W.widen (k := 7) (n := 19976) (by omega) (by omega) ?_
  have hP : va_P D cl5 ([(a, .inr (3, [.ref q1, .null, .null, .null, .int (nI 0)])), (q1, .inr (1, [.int (nI L), .ref (p1), .ref (p2), .ref (p3), .ref (p4), .ref (p5), .int (dEa (dskF 59))])), (p1, .inl (k 0, L * 8, .inr (.inl (dNow (dskF 59))))), (p2, .inl (k 0, L * 8, .inr (.inl (dCom (dskF 59))))), (p3, .inl (k 0, L * 8, .inr (.inl (dBef (dskF 59))))), (p4, .inl (k 1, L, .inl (fun j => zI (dTou (dskF 59) j)))), (p5, .inl (k 1, L, .inl (fun j => zI (dDif (dskF 59) j)))), (q2, .inr (2, [.ref q1]))]) H := hP
  have hD : va_D A ([(a, .inr (3, [.ref q1, .null, .null, .null, .int (nI 0)])), (q1, .inr (1, [.int (nI L), .ref (p1), .ref (p2), .ref (p3), .ref (p4), .ref (p5), .int (dEa (dskF 59))])), (p1, .inl (k 0, L * 8, .inr (.inl (dNow (dskF 59))))), (p2, .inl (k 0, L * 8, .inr (.inl (dCom (dskF 59))))), (p3, .inl (k 0, L * 8, .inr (.inl (dBef (dskF 59))))), (p4, .inl (k 1, L, .inl (fun j => zI (dTou (dskF 59) j)))), (p5, .inl (k 1, L, .inl (fun j => zI (dDif (dskF 59) j)))), (q2, .inr (2, [.ref q1]))]) := hD
  refine va_putF (D := D) (ci := 3) (v := .ref q2) (ty := .object "TreeFiles$Inodes") (C := R_Tree) (T := T_Tree) (N := 5) hx hb hTB in_Tree t_Tree t_Tree_ok n_Tree hown hK hP hD hS 0 rfl rfl 1 (by decide) (hTB _ k_196) (fun _ h9 => h9) rfl hin rfl (by decide +kernel) rfl rfl (Nat.le_of_ble_eq_true rfl) d_Tree_init_28 (fun H locs hP hD hS => ?_)
  have hP : va_P D cl5 ([(a, .inr (3, [.ref q1, .ref q2, .null, .null, .int (nI 0)])), (q1, .inr (1, [.int (nI L), .ref (p1), .ref (p2), .ref (p3), .ref (p4), .ref (p5), .int (dEa (dskF 59))])), (p1, .inl (k 0, L * 8, .inr (.inl (dNow (dskF 59))))), (p2, .inl (k 0, L * 8, .inr (.inl (dCom (dskF 59))))), (p3, .inl (k 0, L * 8, .inr (.inl (dBef (dskF 59))))), (p4, .inl (k 1, L, .inl (fun j => zI (dTou (dskF 59) j)))), (p5, .inl (k 1, L, .inl (fun j => zI (dDif (dskF 59) j)))), (q2, .inr (2, [.ref q1]))]) H := hP
  have hD : va_D A ([(a, .inr (3, [.ref q1, .ref q2, .null, .null, .int (nI 0)])), (q1, .inr (1, [.int (nI L), .ref (p1), .ref (p2), .ref (p3), .ref (p4), .ref (p5), .int (dEa (dskF 59))])), (p1, .inl (k 0, L * 8, .inr (.inl (dNow (dskF 59))))), (p2, .inl (k 0, L * 8, .inr (.inl (dCom (dskF 59))))), (p3, .inl (k 0, L * 8, .inr (.inl (dBef (dskF 59))))), (p4, .inl (k 1, L, .inl (fun j => zI (dTou (dskF 59) j)))), (p5, .inl (k 1, L, .inl (fun j => zI (dDif (dskF 59) j)))), (q2, .inr (2, [.ref q1]))]) := hD
  refine lv_aload_n hx hb d_Tree_init_31 rfl (lv_at hl 0 rfl) ?_
  refine va_new (D := D) (ci := 0) (fs := [.null, .null, .null]) (C := R_Dirs) (T := T_Dirs) (N := 3) hx hb hTB in_Dirs t_Dirs t_Dirs_ok hown (hTB _ k_126) (hTB _ k_127) (hTB _ k_55) hK hP hD hS hA rfl (fun j hj => by rcases (show j = 0 ∨ j = 1 ∨ j = 2 by omega) with rfl | rfl | rfl <;> rfl) (Nat.le_of_ble_eq_true rfl) (Nat.le_of_ble_eq_true rfl) d_Tree_init_32 (fun q3 H hP hD hS => ?_)
  refine W.widen (k := 8) (n := 19979) (by omega) (by omega) ?_
  have hP : va_P D cl5 ([(a, .inr (3, [.ref q1, .ref q2, .null, .null, .int (nI 0)])), (q1, .inr (1, [.int (nI L), .ref (p1), .ref (p2), .ref (p3), .ref (p4), .ref (p5), .int (dEa (dskF 59))])), (p1, .inl (k 0, L * 8, .inr (.inl (dNow (dskF 59))))), (p2, .inl (k 0, L * 8, .inr (.inl (dCom (dskF 59))))), (p3, .inl (k 0, L * 8, .inr (.inl (dBef (dskF 59))))), (p4, .inl (k 1, L, .inl (fun j => zI (dTou (dskF 59) j)))), (p5, .inl (k 1, L, .inl (fun j => zI (dDif (dskF 59) j)))), (q2, .inr (2, [.ref q1])), (q3, .inr (0, [.null, .null, .null]))]) H := hP
  have hD : va_D A ([(a, .inr (3, [.ref q1, .ref q2, .null, .null, .int (nI 0)])), (q1, .inr (1, [.int (nI L), .ref (p1), .ref (p2), .ref (p3), .ref (p4), .ref (p5), .int (dEa (dskF 59))])), (p1, .inl (k 0, L * 8, .inr (.inl (dNow (dskF 59))))), (p2, .inl (k 0, L * 8, .inr (.inl (dCom (dskF 59))))), (p3, .inl (k 0, L * 8, .inr (.inl (dBef (dskF 59))))), (p4, .inl (k 1, L, .inl (fun j => zI (dTou (dskF 59) j)))), (p5, .inl (k 1, L, .inl (fun j => zI (dDif (dskF 59) j)))), (q2, .inr (2, [.ref q1])), (q3, .inr (0, [.null, .null, .null]))]) := hD
  refine lv_dup hx hb d_Tree_init_35 rfl ?_
  refine lv_aload_n hx hb d_Tree_init_36 rfl (lv_at hl 0 rfl) ?_
  refine va_get (D := D) (ci := 3) (v := .ref q1) (C := R_Tree) (T := T_Tree) (N := 5) hx hb hTB in_Tree hown hK hP 0 rfl rfl 0 (by decide) (hTB _ k_195) (fun _ h9 => h9) rfl d_Tree_init_37 ?_
  refine lv_aload_n hx hb d_Tree_init_40 rfl (lv_at hl 0 rfl) ?_
  refine va_get (D := D) (ci := 3) (v := .ref q2) (C := R_Tree) (T := T_Tree) (N := 5) hx hb hTB in_Tree hown hK hP 0 rfl rfl 1 (by decide) (hTB _ k_196) (fun _ h9 => h9) rfl d_Tree_init_41 ?_
  refine gz_ctor (As := [.ref q1, .ref q2]) (rest := [.ref q3, .ref a]) (wc := ([(q3, .inr (0, [.null, .null, .null]))])) (wr := ([(a, .inr (3, [.ref q1, .ref q2, .null, .null, .int (nI 0)])), (q1, .inr (1, [.int (nI L), .ref (p1), .ref (p2), .ref (p3), .ref (p4), .ref (p5), .int (dEa (dskF 59))])), (p1, .inl (k 0, L * 8, .inr (.inl (dNow (dskF 59))))), (p2, .inl (k 0, L * 8, .inr (.inl (dCom (dskF 59))))), (p3, .inl (k 0, L * 8, .inr (.inl (dBef (dskF 59))))), (p4, .inl (k 1, L, .inl (fun j => zI (dTou (dskF 59) j)))), (p5, .inl (k 1, L, .inl (fun j => zI (dDif (dskF 59) j)))), (q2, .inr (2, [.ref q1]))])) ⟨hx, hb, hml, hown, hTB⟩ (c_Dirs_init l D k q3 q1 q2) (cwI 2 hTB (gd_I k_130) rfl rfl rfl (hTB _ k_55) (hTB _ k_128) (hTB _ k_129) rfl (by decide +kernel) ⟨Nat.le_of_ble_eq_true rfl, Nat.le_of_ble_eq_true rfl⟩) hK hP hD hA [8] [0, 1, 2, 3, 4, 5, 6, 7] rfl rfl (by decide) rfl (by decide) (by decide) rfl hl.1 rfl (Nat.le_of_ble_eq_true rfl) d_Tree_init_44 ⟨Nat.le_of_ble_eq_true rfl, Nat.le_of_ble_eq_true rfl⟩ hS (fun q8 H locs _ hP hD hS => ?_)
  refine W.widen (k := 9) (n := 20043) (by omega) (by omega) ?_
  have hP : va_P D cl5 ([(a, .inr (3, [.ref q1, .ref q2, .null, .null, .int (nI 0)])), (q1, .inr (1, [.int (nI L), .ref (p1), .ref (p2), .ref (p3), .ref (p4), .ref (p5), .int (dEa (dskF 59))])), (p1, .inl (k 0, L * 8, .inr (.inl (dNow (dskF 59))))), (p2, .inl (k 0, L * 8, .inr (.inl (dCom (dskF 59))))), (p3, .inl (k 0, L * 8, .inr (.inl (dBef (dskF 59))))), (p4, .inl (k 1, L, .inl (fun j => zI (dTou (dskF 59) j)))), (p5, .inl (k 1, L, .inl (fun j => zI (dDif (dskF 59) j)))), (q2, .inr (2, [.ref q1])), (q3, .inr (0, [.ref q1, .ref q2, .ref q8])), (q8, .inl (k 2, 64, .inl (fun _ => nI 0)))]) H := hP
  have hD : va_D A ([(a, .inr (3, [.ref q1, .ref q2, .null, .null, .int (nI 0)])), (q1, .inr (1, [.int (nI L), .ref (p1), .ref (p2), .ref (p3), .ref (p4), .ref (p5), .int (dEa (dskF 59))])), (p1, .inl (k 0, L * 8, .inr (.inl (dNow (dskF 59))))), (p2, .inl (k 0, L * 8, .inr (.inl (dCom (dskF 59))))), (p3, .inl (k 0, L * 8, .inr (.inl (dBef (dskF 59))))), (p4, .inl (k 1, L, .inl (fun j => zI (dTou (dskF 59) j)))), (p5, .inl (k 1, L, .inl (fun j => zI (dDif (dskF 59) j)))), (q2, .inr (2, [.ref q1])), (q3, .inr (0, [.ref q1, .ref q2, .ref q8])), (q8, .inl (k 2, 64, .inl (fun _ => nI 0)))]) := hD
  refine va_putF (D := D) (ci := 3) (v := .ref q3) (ty := .object "TreeFiles$Directories") (C := R_Tree) (T := T_Tree) (N := 5) hx hb hTB in_Tree t_Tree t_Tree_ok n_Tree hown hK hP hD hS 0 rfl rfl 2 (by decide) (hTB _ k_197) (fun _ h9 => h9) rfl hin rfl (by decide +kernel) rfl rfl (Nat.le_of_ble_eq_true rfl) d_Tree_init_47 (fun H locs hP hD hS => ?_)
  have hP : va_P D cl5 ([(a, .inr (3, [.ref q1, .ref q2, .ref q3, .null, .int (nI 0)])), (q1, .inr (1, [.int (nI L), .ref (p1), .ref (p2), .ref (p3), .ref (p4), .ref (p5), .int (dEa (dskF 59))])), (p1, .inl (k 0, L * 8, .inr (.inl (dNow (dskF 59))))), (p2, .inl (k 0, L * 8, .inr (.inl (dCom (dskF 59))))), (p3, .inl (k 0, L * 8, .inr (.inl (dBef (dskF 59))))), (p4, .inl (k 1, L, .inl (fun j => zI (dTou (dskF 59) j)))), (p5, .inl (k 1, L, .inl (fun j => zI (dDif (dskF 59) j)))), (q2, .inr (2, [.ref q1])), (q3, .inr (0, [.ref q1, .ref q2, .ref q8])), (q8, .inl (k 2, 64, .inl (fun _ => nI 0)))]) H := hP
  have hD : va_D A ([(a, .inr (3, [.ref q1, .ref q2, .ref q3, .null, .int (nI 0)])), (q1, .inr (1, [.int (nI L), .ref (p1), .ref (p2), .ref (p3), .ref (p4), .ref (p5), .int (dEa (dskF 59))])), (p1, .inl (k 0, L * 8, .inr (.inl (dNow (dskF 59))))), (p2, .inl (k 0, L * 8, .inr (.inl (dCom (dskF 59))))), (p3, .inl (k 0, L * 8, .inr (.inl (dBef (dskF 59))))), (p4, .inl (k 1, L, .inl (fun j => zI (dTou (dskF 59) j)))), (p5, .inl (k 1, L, .inl (fun j => zI (dDif (dskF 59) j)))), (q2, .inr (2, [.ref q1])), (q3, .inr (0, [.ref q1, .ref q2, .ref q8])), (q8, .inl (k 2, 64, .inl (fun _ => nI 0)))]) := hD
  refine lv_aload_n hx hb d_Tree_init_50 rfl (lv_at hl 0 rfl) ?_
  refine lv_sipush (v := nI 512) hx hb d_Tree_init_51 (by decide +kernel) ?_
  refine gz_newi hx hb (hTB _ k_142) hK hP hD hS hA 2 rfl (n := 512) (by omega) (Nat.le_of_ble_eq_true rfl) (show 20043 + 512 ≤ 20555 by omega) d_Tree_init_54 (fun q4 H hP hD hS => ?_)
  refine W.widen (k := 10) (n := 20555) (by omega) (by omega) ?_
  have hP : va_P D cl5 ([(a, .inr (3, [.ref q1, .ref q2, .ref q3, .null, .int (nI 0)])), (q1, .inr (1, [.int (nI L), .ref (p1), .ref (p2), .ref (p3), .ref (p4), .ref (p5), .int (dEa (dskF 59))])), (p1, .inl (k 0, L * 8, .inr (.inl (dNow (dskF 59))))), (p2, .inl (k 0, L * 8, .inr (.inl (dCom (dskF 59))))), (p3, .inl (k 0, L * 8, .inr (.inl (dBef (dskF 59))))), (p4, .inl (k 1, L, .inl (fun j => zI (dTou (dskF 59) j)))), (p5, .inl (k 1, L, .inl (fun j => zI (dDif (dskF 59) j)))), (q2, .inr (2, [.ref q1])), (q3, .inr (0, [.ref q1, .ref q2, .ref q8])), (q8, .inl (k 2, 64, .inl (fun _ => nI 0))), (q4, .inl (k 2, 512, .inl (fun _ => nI 0)))]) H := hP
  have hD : va_D A ([(a, .inr (3, [.ref q1, .ref q2, .ref q3, .null, .int (nI 0)])), (q1, .inr (1, [.int (nI L), .ref (p1), .ref (p2), .ref (p3), .ref (p4), .ref (p5), .int (dEa (dskF 59))])), (p1, .inl (k 0, L * 8, .inr (.inl (dNow (dskF 59))))), (p2, .inl (k 0, L * 8, .inr (.inl (dCom (dskF 59))))), (p3, .inl (k 0, L * 8, .inr (.inl (dBef (dskF 59))))), (p4, .inl (k 1, L, .inl (fun j => zI (dTou (dskF 59) j)))), (p5, .inl (k 1, L, .inl (fun j => zI (dDif (dskF 59) j)))), (q2, .inr (2, [.ref q1])), (q3, .inr (0, [.ref q1, .ref q2, .ref q8])), (q8, .inl (k 2, 64, .inl (fun _ => nI 0))), (q4, .inl (k 2, 512, .inl (fun _ => nI 0)))]) := hD
  refine va_putF (D := D) (ci := 3) (v := .ref q4) (ty := .array .int) (C := R_Tree) (T := T_Tree) (N := 5) hx hb hTB in_Tree t_Tree t_Tree_ok n_Tree hown hK hP hD hS 0 rfl rfl 3 (by decide) (hTB _ k_198) (fun _ h9 => h9) rfl hin rfl (by decide +kernel) rfl rfl (Nat.le_of_ble_eq_true rfl) d_Tree_init_56 (fun H locs hP hD hS => ?_)
  have hP : va_P D cl5 ([(a, .inr (3, [.ref q1, .ref q2, .ref q3, .ref q4, .int (nI 0)])), (q1, .inr (1, [.int (nI L), .ref (p1), .ref (p2), .ref (p3), .ref (p4), .ref (p5), .int (dEa (dskF 59))])), (p1, .inl (k 0, L * 8, .inr (.inl (dNow (dskF 59))))), (p2, .inl (k 0, L * 8, .inr (.inl (dCom (dskF 59))))), (p3, .inl (k 0, L * 8, .inr (.inl (dBef (dskF 59))))), (p4, .inl (k 1, L, .inl (fun j => zI (dTou (dskF 59) j)))), (p5, .inl (k 1, L, .inl (fun j => zI (dDif (dskF 59) j)))), (q2, .inr (2, [.ref q1])), (q3, .inr (0, [.ref q1, .ref q2, .ref q8])), (q8, .inl (k 2, 64, .inl (fun _ => nI 0))), (q4, .inl (k 2, 512, .inl (fun _ => nI 0)))]) H := hP
  have hD : va_D A ([(a, .inr (3, [.ref q1, .ref q2, .ref q3, .ref q4, .int (nI 0)])), (q1, .inr (1, [.int (nI L), .ref (p1), .ref (p2), .ref (p3), .ref (p4), .ref (p5), .int (dEa (dskF 59))])), (p1, .inl (k 0, L * 8, .inr (.inl (dNow (dskF 59))))), (p2, .inl (k 0, L * 8, .inr (.inl (dCom (dskF 59))))), (p3, .inl (k 0, L * 8, .inr (.inl (dBef (dskF 59))))), (p4, .inl (k 1, L, .inl (fun j => zI (dTou (dskF 59) j)))), (p5, .inl (k 1, L, .inl (fun j => zI (dDif (dskF 59) j)))), (q2, .inr (2, [.ref q1])), (q3, .inr (0, [.ref q1, .ref q2, .ref q8])), (q8, .inl (k 2, 64, .inl (fun _ => nI 0))), (q4, .inl (k 2, 512, .inl (fun _ => nI 0)))]) := hD
  refine lv_aload_n hx hb d_Tree_init_59 rfl (lv_at hl 0 rfl) ?_
  refine lv_iconst (v := nI 0) hx hb d_Tree_init_60 (by decide +kernel) ?_
  refine va_put (D := D) (ci := 3) (v := .int (nI 0)) (ty := .int) (C := R_Tree) (T := T_Tree) (N := 5) hx hb hTB in_Tree t_Tree t_Tree_ok n_Tree hown hK hP hD hS 0 rfl rfl 4 (by decide) (hTB _ k_199) (fun _ h9 => h9) rfl (by decide +kernel) rfl rfl (Nat.le_of_ble_eq_true rfl) d_Tree_init_61 (fun H locs hP hD hS => ?_)
  have hP : va_P D cl5 ([(a, .inr (3, [.ref q1, .ref q2, .ref q3, .ref q4, .int (nI 0)])), (q1, .inr (1, [.int (nI L), .ref (p1), .ref (p2), .ref (p3), .ref (p4), .ref (p5), .int (dEa (dskF 59))])), (p1, .inl (k 0, L * 8, .inr (.inl (dNow (dskF 59))))), (p2, .inl (k 0, L * 8, .inr (.inl (dCom (dskF 59))))), (p3, .inl (k 0, L * 8, .inr (.inl (dBef (dskF 59))))), (p4, .inl (k 1, L, .inl (fun j => zI (dTou (dskF 59) j)))), (p5, .inl (k 1, L, .inl (fun j => zI (dDif (dskF 59) j)))), (q2, .inr (2, [.ref q1])), (q3, .inr (0, [.ref q1, .ref q2, .ref q8])), (q8, .inl (k 2, 64, .inl (fun _ => nI 0))), (q4, .inl (k 2, 512, .inl (fun _ => nI 0)))]) H := hP
  have hD : va_D A ([(a, .inr (3, [.ref q1, .ref q2, .ref q3, .ref q4, .int (nI 0)])), (q1, .inr (1, [.int (nI L), .ref (p1), .ref (p2), .ref (p3), .ref (p4), .ref (p5), .int (dEa (dskF 59))])), (p1, .inl (k 0, L * 8, .inr (.inl (dNow (dskF 59))))), (p2, .inl (k 0, L * 8, .inr (.inl (dCom (dskF 59))))), (p3, .inl (k 0, L * 8, .inr (.inl (dBef (dskF 59))))), (p4, .inl (k 1, L, .inl (fun j => zI (dTou (dskF 59) j)))), (p5, .inl (k 1, L, .inl (fun j => zI (dDif (dskF 59) j)))), (q2, .inr (2, [.ref q1])), (q3, .inr (0, [.ref q1, .ref q2, .ref q8])), (q8, .inl (k 2, 64, .inl (fun _ => nI 0))), (q4, .inl (k 2, 512, .inl (fun _ => nI 0)))]) := hD
  obtain ⟨g, e_0, e_1, e_2, e_3, e_4, e_5, e_6, e_7, e_8, e_9, e_10⟩ : ∃ g : Nat → Nat, g 0 = q1 ∧ g 1 = p1 ∧ g 2 = p2 ∧ g 3 = p3 ∧ g 4 = p4 ∧ g 5 = p5 ∧ g 6 = q2 ∧ g 7 = q3 ∧ g 8 = q8 ∧ g 9 = a ∧ g 10 = q4 := ⟨fun n => match n with | 0 => q1 | 1 => p1 | 2 => p2 | 3 => p3 | 4 => p4 | 5 => p5 | 6 => q2 | 7 => q3 | 8 => q8 | 9 => a | 10 => q4 | _ => 0, rfl, rfl, rfl, rfl, rfl, rfl, rfl, rfl, rfl, rfl, rfl⟩
  subst e_0
  subst e_1
  subst e_2
  subst e_3
  subst e_4
  subst e_5
  subst e_6
  subst e_7
  subst e_8
  subst e_9
  subst e_10
  have hP : va_P D cl5 (wT g k L (dskF 59) ((fun _ => nI 0)) 0 ((fun _ => nI 0))) H := hP.sub [0, 10, 8, 9, 7, 1, 2, 3, 4, 5, 6] rfl
  have hD : va_D A (wT g k L (dskF 59) ((fun _ => nI 0)) 0 ((fun _ => nI 0))) := hD.sub [0, 10, 8, 9, 7, 1, 2, 3, 4, 5, 6] (by decide) rfl
  refine lv_aload_n hx hb d_Tree_init_64 rfl (lv_at hl 0 rfl) ?_
  refine va_get (D := D) (ci := 3) (v := .ref (g 6)) (C := R_Tree) (T := T_Tree) (N := 5) hx hb hTB in_Tree hown hK hP 0 rfl rfl 1 (by decide) (hTB _ k_196) (fun _ h9 => h9) rfl d_Tree_init_65 ?_
  refine lv_iconst (v := nI 0) hx hb d_Tree_init_68 (by decide +kernel) ?_
  refine lv_iconst (v := nI 2) hx hb d_Tree_init_69 (by decide +kernel) ?_
  refine gz_muV (As := [.int (nI 0), .int (nI 2)]) (rest := []) (wc := (wI g k L (dskF 59))) (w1 := (wI g k L (setB L (dskF 59) (nI (1600 + 32 * 0)) (nI 2)))) (wr := (hT g k 0 ((fun _ => nI 0)) ++ hR g k ((fun _ => nI 0)))) ⟨hx, hb, hml, hown, hTB⟩ (c_Inodes_begin l D g k L hL0 hL (dskF 59) 0 (nI 2)) (cwV 2 hTB (gd_V k_143 k_144 k_145 k_54 k_146) rfl rfl rfl (by decide +kernel) ⟨Nat.le_of_ble_eq_true rfl, Nat.le_of_ble_eq_true rfl⟩) hK hP hD hA [4, 5, 6, 7, 8, 9, 10] [0, 1, 2, 3] rfl rfl (by decide) rfl (by decide) (by decide) 4 rfl rfl rfl hl.1 rfl (Nat.le_of_ble_eq_true rfl) d_Tree_init_70 ⟨Nat.le_of_ble_eq_true rfl, Nat.le_of_ble_eq_true rfl⟩ hS (fun H locs hP hD hS => ?_)
  have hP : va_P D cl5 (wT g k L (setB L (dskF 59) (nI (1600 + 32 * 0)) (nI 2)) ((fun _ => nI 0)) 0 ((fun _ => nI 0))) H := hP
  have hD : va_D A (wT g k L (setB L (dskF 59) (nI (1600 + 32 * 0)) (nI 2)) ((fun _ => nI 0)) 0 ((fun _ => nI 0))) := hD
  refine lv_aload_n hx hb d_Tree_init_73 rfl (lv_at hl 0 rfl) ?_
  refine va_get (D := D) (ci := 3) (v := .ref (g 0)) (C := R_Tree) (T := T_Tree) (N := 5) hx hb hTB in_Tree hown hK hP 0 rfl rfl 0 (by decide) (hTB _ k_195) (fun _ h9 => h9) rfl d_Tree_init_74 ?_
  refine gz_muV (As := []) (rest := []) (wc := (wD g k L (setB L (dskF 59) (nI (1600 + 32 * 0)) (nI 2)))) (w1 := (wD g k L (stl L (setB L (dskF 59) (nI (1600 + 32 * 0)) (nI 2))))) (wr := (hT g k 0 ((fun _ => nI 0)) ++ (hR g k ((fun _ => nI 0)) ++ hI g))) ⟨hx, hb, hml, hown, hTB⟩ (c_Disk_settle l D g k L hL0 hL (setB L (dskF 59) (nI (1600 + 32 * 0)) (nI 2))) (cwV 0 hTB (gd_V k_156 k_157 k_158 k_52 k_159) rfl rfl rfl (by decide +kernel) ⟨Nat.le_of_ble_eq_true rfl, Nat.le_of_ble_eq_true rfl⟩) hK hP hD hA [5, 6, 7, 8, 9, 10] [0, 1, 2, 3, 4] rfl rfl (by decide) rfl (by decide) (by decide) 5 rfl rfl rfl hl.1 rfl (Nat.le_of_ble_eq_true rfl) d_Tree_init_77 ⟨Nat.le_of_ble_eq_true rfl, Nat.le_of_ble_eq_true rfl⟩ hS (fun H locs hP hD hS => ?_)
  have hP : va_P D cl5 (wT g k L (stl L (setB L (dskF 59) (nI (1600 + 32 * 0)) (nI 2))) ((fun _ => nI 0)) 0 ((fun _ => nI 0))) H := hP
  have hD : va_D A (wT g k L (stl L (setB L (dskF 59) (nI (1600 + 32 * 0)) (nI 2))) ((fun _ => nI 0)) 0 ((fun _ => nI 0))) := hD
  refine lv_aload_n hx hb d_Tree_init_80 rfl (lv_at hl 0 rfl) ?_
  refine va_get (D := D) (ci := 3) (v := .ref (g 0)) (C := R_Tree) (T := T_Tree) (N := 5) hx hb hTB in_Tree hown hK hP 0 rfl rfl 0 (by decide) (hTB _ k_195) (fun _ h9 => h9) rfl d_Tree_init_81 ?_
  refine gz_muV (As := []) (rest := []) (wc := (wD g k L (stl L (setB L (dskF 59) (nI (1600 + 32 * 0)) (nI 2))))) (w1 := (wD g k L (cmA L (stl L (setB L (dskF 59) (nI (1600 + 32 * 0)) (nI 2)))))) (wr := (hT g k 0 ((fun _ => nI 0)) ++ (hR g k ((fun _ => nI 0)) ++ hI g))) ⟨hx, hb, hml, hown, hTB⟩ (c_Disk_commitAll l D g k L hL0 hL (stl L (setB L (dskF 59) (nI (1600 + 32 * 0)) (nI 2)))) (cwV 0 hTB (gd_V k_187 k_188 k_189 k_52 k_190) rfl rfl rfl (by decide +kernel) ⟨Nat.le_of_ble_eq_true rfl, Nat.le_of_ble_eq_true rfl⟩) hK hP hD hA [5, 6, 7, 8, 9, 10] [0, 1, 2, 3, 4] rfl rfl (by decide) rfl (by decide) (by decide) 5 rfl rfl rfl hl.1 rfl (Nat.le_of_ble_eq_true rfl) d_Tree_init_84 ⟨Nat.le_of_ble_eq_true rfl, Nat.le_of_ble_eq_true rfl⟩ hS (fun H locs hP hD hS => ?_)
  have hP : va_P D cl5 (wT g k L (cmA L (stl L (setB L (dskF 59) (nI (1600 + 32 * 0)) (nI 2)))) ((fun _ => nI 0)) 0 ((fun _ => nI 0))) H := hP
  have hD : va_D A (wT g k L (cmA L (stl L (setB L (dskF 59) (nI (1600 + 32 * 0)) (nI 2)))) ((fun _ => nI 0)) 0 ((fun _ => nI 0))) := hD
  have hP9 : va_P D cl5 (wT g k L (dskI L) (fun _ => nI 0) 0 (fun _ => nI 0)) H := hP
  have hD9 : va_D A (wT g k L (dskI L) (fun _ => nI 0) 0 (fun _ => nI 0)) := hD
  exact W.vret hx hb hr (fun tt9 ht9 hW9 => ⟨⟨g, rfl, rfl, ⟨by rw [ht9]; exact hP9, hD9⟩⟩, hS.F ht9⟩) hS.2.2 d_Tree_init_87
