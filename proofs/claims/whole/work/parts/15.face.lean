theorem d_Tree_feed_0 : decode b_Tree_feed 0 = .ok (.iload_n 1, 1) := by decide +kernel
theorem d_Tree_feed_1 : decode b_Tree_feed 1 = .ok (.iconst 1, 1) := by decide +kernel
theorem d_Tree_feed_2 : decode b_Tree_feed 2 = .ok (.if_icmp .lt 9, 3) := by decide +kernel
theorem d_Tree_feed_5 : decode b_Tree_feed 5 = .ok (.iload_n 1, 1) := by decide +kernel
theorem d_Tree_feed_6 : decode b_Tree_feed 6 = .ok (.bipush 8, 2) := by decide +kernel
theorem d_Tree_feed_8 : decode b_Tree_feed 8 = .ok (.if_icmp .le 13, 3) := by decide +kernel
theorem d_Tree_feed_11 : decode b_Tree_feed 11 = .ok (.new 54, 3) := by decide +kernel
theorem d_Tree_feed_14 : decode b_Tree_feed 14 = .ok (.dup, 1) := by decide +kernel
theorem d_Tree_feed_15 : decode b_Tree_feed 15 = .ok (.ldc 56, 2) := by decide +kernel
theorem d_Tree_feed_17 : decode b_Tree_feed 17 = .ok (.invokespecial 58, 3) := by decide +kernel
theorem d_Tree_feed_20 : decode b_Tree_feed 20 = .ok (.athrow, 1) := by decide +kernel
theorem d_Tree_feed_21 : decode b_Tree_feed 21 = .ok (.aload_n 0, 1) := by decide +kernel
theorem d_Tree_feed_22 : decode b_Tree_feed 22 = .ok (.getfield 40, 3) := by decide +kernel
theorem d_Tree_feed_25 : decode b_Tree_feed 25 = .ok (.iload_n 1, 1) := by decide +kernel
theorem d_Tree_feed_26 : decode b_Tree_feed 26 = .ok (.iadd, 1) := by decide +kernel
theorem d_Tree_feed_27 : decode b_Tree_feed 27 = .ok (.sipush 512, 3) := by decide +kernel
theorem d_Tree_feed_30 : decode b_Tree_feed 30 = .ok (.if_icmp .le 13, 3) := by decide +kernel
theorem d_Tree_feed_33 : decode b_Tree_feed 33 = .ok (.new 61, 3) := by decide +kernel
theorem d_Tree_feed_36 : decode b_Tree_feed 36 = .ok (.dup, 1) := by decide +kernel
theorem d_Tree_feed_37 : decode b_Tree_feed 37 = .ok (.ldc 63, 2) := by decide +kernel
theorem d_Tree_feed_39 : decode b_Tree_feed 39 = .ok (.invokespecial 65, 3) := by decide +kernel
theorem d_Tree_feed_42 : decode b_Tree_feed 42 = .ok (.athrow, 1) := by decide +kernel
theorem d_Tree_feed_43 : decode b_Tree_feed 43 = .ok (.iconst 0, 1) := by decide +kernel
theorem d_Tree_feed_44 : decode b_Tree_feed 44 = .ok (.istore 4, 2) := by decide +kernel
theorem d_Tree_feed_46 : decode b_Tree_feed 46 = .ok (.iload 4, 2) := by decide +kernel
theorem d_Tree_feed_48 : decode b_Tree_feed 48 = .ok (.iload_n 1, 1) := by decide +kernel
theorem d_Tree_feed_49 : decode b_Tree_feed 49 = .ok (.if_icmp .ge 33, 3) := by decide +kernel
theorem d_Tree_feed_52 : decode b_Tree_feed 52 = .ok (.aload_n 0, 1) := by decide +kernel
theorem d_Tree_feed_53 : decode b_Tree_feed 53 = .ok (.getfield 36, 3) := by decide +kernel
theorem d_Tree_feed_56 : decode b_Tree_feed 56 = .ok (.aload_n 0, 1) := by decide +kernel
theorem d_Tree_feed_57 : decode b_Tree_feed 57 = .ok (.getfield 40, 3) := by decide +kernel
theorem d_Tree_feed_60 : decode b_Tree_feed 60 = .ok (.iload 4, 2) := by decide +kernel
theorem d_Tree_feed_62 : decode b_Tree_feed 62 = .ok (.iadd, 1) := by decide +kernel
theorem d_Tree_feed_63 : decode b_Tree_feed 63 = .ok (.lload_n 2, 1) := by decide +kernel
theorem d_Tree_feed_64 : decode b_Tree_feed 64 = .ok (.bipush 8, 2) := by decide +kernel
theorem d_Tree_feed_66 : decode b_Tree_feed 66 = .ok (.iload 4, 2) := by decide +kernel
theorem d_Tree_feed_68 : decode b_Tree_feed 68 = .ok (.imul, 1) := by decide +kernel
theorem d_Tree_feed_69 : decode b_Tree_feed 69 = .ok (.lushr, 1) := by decide +kernel
theorem d_Tree_feed_70 : decode b_Tree_feed 70 = .ok (.l2i, 1) := by decide +kernel
theorem d_Tree_feed_71 : decode b_Tree_feed 71 = .ok (.sipush 255, 3) := by decide +kernel
theorem d_Tree_feed_74 : decode b_Tree_feed 74 = .ok (.iand, 1) := by decide +kernel
theorem d_Tree_feed_75 : decode b_Tree_feed 75 = .ok (.iastore, 1) := by decide +kernel
theorem d_Tree_feed_76 : decode b_Tree_feed 76 = .ok (.iinc 4 1, 3) := by decide +kernel
theorem d_Tree_feed_79 : decode b_Tree_feed 79 = .ok (.goto (-33), 3) := by decide +kernel
theorem d_Tree_feed_82 : decode b_Tree_feed 82 = .ok (.aload_n 0, 1) := by decide +kernel
theorem d_Tree_feed_83 : decode b_Tree_feed 83 = .ok (.dup, 1) := by decide +kernel
theorem d_Tree_feed_84 : decode b_Tree_feed 84 = .ok (.getfield 40, 3) := by decide +kernel
theorem d_Tree_feed_87 : decode b_Tree_feed 87 = .ok (.iload_n 1, 1) := by decide +kernel
theorem d_Tree_feed_88 : decode b_Tree_feed 88 = .ok (.iadd, 1) := by decide +kernel
theorem d_Tree_feed_89 : decode b_Tree_feed 89 = .ok (.putfield 40, 3) := by decide +kernel
theorem d_Tree_feed_92 : decode b_Tree_feed 92 = .ok (.aload_n 0, 1) := by decide +kernel
theorem d_Tree_feed_93 : decode b_Tree_feed 93 = .ok (.getfield 40, 3) := by decide +kernel
theorem d_Tree_feed_96 : decode b_Tree_feed 96 = .ok (.ireturn, 1) := by decide +kernel
set_option maxHeartbeats 4000000 in
set_option maxRecDepth 100000 in
theorem c_Tree_feed (l : Launch) (D : va_G) (g : Nat → Nat) (k : Nat → ClassId) (L : Nat) (hL0 : 96 ≤ L) (hL : L ≤ 768) (u : DSt) (f0 : Nat → Int32) (tl : Nat) (tp : Nat → Int32) (n : Nat) (v : Int64) (hn1 : 1 ≤ n) (hn2 : n ≤ 8) (ht0 : tl + n ≤ 512) : MuI l y_Tree_feed w_Tree_feed ({ frames := 7, cells := 0, slots := 0, locals := 110 }) [.ref (g 9), .int (nI n), .long (v)] D cl5 (tyC k) (wT g k L u f0 tl tp) (wT g k L u f0 (tl + n) (fdT tp tl v n)) (nI (tl + n)) := by
  intro sz
  refine Met.ofW (cc := b_Tree_feed) (maxL := 5) (ret := (some .int)) (by decide) rfl ?_
  intro p e s m args below meth c s₁ B hml hv
  obtain ⟨rfl, hsz, hP, hK, hD0⟩ := hv
  have hx := B.exec
  have hb := B.bytes
  have hr := B.returns
  have hts := atoms_spec (ws := w_Tree_feed) B.pre
  have hTB : ∀ w ∈ lw_tb, w.before _ s = true := fun w h => hts w (List.mem_cons_of_mem _ h)
  have hown : s.vm.findClass R_Tree = some m.cls := findClass_of_methodNamed B.named
  have hlocks := B.notSynchronized
  subst hsz
  have hD := hD0.self (sz := s.heap.size)
  generalize hAe : va_A (wT g k L u f0 tl tp) s.heap.size = A at hD ⊢
  have hA : ∀ q : Nat, s.heap.size ≤ q → A q := fun q h => by rw [← hAe]; exact Or.inr h
  have hS : va_S A s.heap s.heap [] := va_S.rf
  have hl := lv_entry ([.ref (g 9), .int (nI n), .long (v)]) (n := 5) (Nat.le_of_ble_eq_true rfl)
  rw [lg_entry_eq]
  generalize (lg_sl ([.ref (g 9), .int (nI n), .long (v)]) ++ List.replicate (5 - (lg_sl ([.ref (g 9), .int (nI n), .long (v)])).length) Slot.unset).toArray = ls at hl ⊢
  have hl : lv_has ls 5 [(0, .ref (g 9)), (1, .int (nI n)), (2, .long (v))] := hl
  refine lv_iload_n hx hb d_Tree_feed_0 rfl (lv_at hl 1 rfl) ?_
  refine lv_iconst (v := nI 1) hx hb d_Tree_feed_1 (by decide +kernel) ?_
  refine gz_icmp_lt (tgt := 11) hx hb d_Tree_feed_2 (by decide) (by omega) (by omega) (fun h2 => ?_) (fun h2 => ?_)
  · exact absurd h2 (by omega)
  · refine lv_iload_n hx hb d_Tree_feed_5 rfl (lv_at hl 1 rfl) ?_
    refine lv_bipush (v := nI 8) hx hb d_Tree_feed_6 (by decide +kernel) ?_
    refine gz_icmp_le (tgt := 21) hx hb d_Tree_feed_8 (by decide) (by omega) (by omega) (fun h8 => ?_) (fun h8 => ?_)
    · refine lv_aload_n hx hb d_Tree_feed_21 rfl (lv_at hl 0 rfl) ?_
      refine va_get (D := D) (ci := 3) (v := .int (nI tl)) (C := R_Tree) (T := T_Tree) (N := 5) hx hb hTB in_Tree hown hK hP 0 rfl rfl 4 (by decide) (hTB _ k_199) (fun _ h9 => h9) rfl d_Tree_feed_22 ?_
      refine lv_iload_n hx hb d_Tree_feed_25 rfl (lv_at hl 1 rfl) ?_
      refine gz_iadd hx hb d_Tree_feed_26 ?_
      refine lv_sipush (v := nI 512) hx hb d_Tree_feed_27 (by decide +kernel) ?_
      refine gz_icmp_le (tgt := 43) hx hb d_Tree_feed_30 (by decide) (by omega) (by omega) (fun h30 => ?_) (fun h30 => ?_)
      · refine lv_iconst (v := nI 0) hx hb d_Tree_feed_43 (by decide +kernel) ?_
        refine lv_istore (lv' := [(4, .int (nI 0)), (0, .ref (g 9)), (1, .int (nI n)), (2, .long (v))]) hx hb d_Tree_feed_44 hl (by decide) rfl (fun ls hl => ?_)
        refine gz_loop 46 (fun (zz : Nat) H locs ls => match zz with | i => va_P D cl5 (wT g k L u f0 tl (fdT tp tl v i)) H ∧ va_D A (wT g k L u f0 tl (fdT tp tl v i)) ∧ va_S A s.heap H locs ∧ lv_has ls 5 [(0, .ref (g 9)), (1, .int (nI n)), (2, .long (v)), (4, .int (nI i))] ∧ (i ≤ n)) (fun (zz : Nat) => match zz with | i => n - i) (fun zz H locs ls hI ih46 => ?_) (0) ⟨hP, hD, hS, lv_sub hl [1, 2, 3, 0] rfl, (by omega)⟩
        obtain ⟨i, rfl⟩ : ∃ z, z = zz := ⟨_, rfl⟩
        obtain ⟨hP, hD, hS, hl, hi1⟩ := hI
        refine lv_iload hx hb d_Tree_feed_46 (lv_at hl 3 rfl) ?_
        refine lv_iload_n hx hb d_Tree_feed_48 rfl (lv_at hl 1 rfl) ?_
        refine gz_icmp_ge (tgt := 82) hx hb d_Tree_feed_49 (by decide) (by omega) (by omega) (fun h49 => ?_) (fun h49 => ?_)
        · have hin : i = n := by omega
          refine lv_aload_n hx hb d_Tree_feed_82 rfl (lv_at hl 0 rfl) ?_
          refine lv_dup hx hb d_Tree_feed_83 rfl ?_
          refine va_get (D := D) (ci := 3) (v := .int (nI tl)) (C := R_Tree) (T := T_Tree) (N := 5) hx hb hTB in_Tree hown hK hP 0 rfl rfl 4 (by decide) (hTB _ k_199) (fun _ h9 => h9) rfl d_Tree_feed_84 ?_
          refine lv_iload_n hx hb d_Tree_feed_87 rfl (lv_at hl 1 rfl) ?_
          refine gz_iadd hx hb d_Tree_feed_88 ?_
          refine va_put (D := D) (ci := 3) (v := .int (nI (tl + n))) (ty := .int) (C := R_Tree) (T := T_Tree) (N := 5) hx hb hTB in_Tree t_Tree t_Tree_ok n_Tree hown hK hP hD hS 0 rfl rfl 4 (by decide) (hTB _ k_199) (fun _ h9 => h9) rfl (by decide +kernel) rfl rfl (Nat.le_of_ble_eq_true rfl) d_Tree_feed_89 (fun H locs hP hD hS => ?_)
          have hP : va_P D cl5 (wT g k L u f0 (tl + n) (fdT tp tl v i)) H := hP
          have hD : va_D A (wT g k L u f0 (tl + n) (fdT tp tl v i)) := hD
          refine lv_aload_n hx hb d_Tree_feed_92 rfl (lv_at hl 0 rfl) ?_
          refine va_get (D := D) (ci := 3) (v := .int (nI (tl + n))) (C := R_Tree) (T := T_Tree) (N := 5) hx hb hTB in_Tree hown hK hP 0 rfl rfl 4 (by decide) (hTB _ k_199) (fun _ h9 => h9) rfl d_Tree_feed_93 ?_
          have hP9 : va_P D cl5 (wT g k L u f0 (tl + n) (fdT tp tl v n)) H := (by subst hin; exact hP)
          have hD9 : va_D A (wT g k L u f0 (tl + n) (fdT tp tl v n)) := (by subst hin; exact hD)
          exact W.iret (v := nI (tl + n)) hx hb hr (fun tt9 ht9 hW9 => ⟨⟨_, (), rfl, rfl, ⟨by rw [ht9]; exact hP9, hD9⟩⟩, hS.F ht9⟩) hS.2.2 d_Tree_feed_96
        · refine lv_aload_n hx hb d_Tree_feed_52 rfl (lv_at hl 0 rfl) ?_
          refine va_get (D := D) (ci := 3) (v := .ref (g 10)) (C := R_Tree) (T := T_Tree) (N := 5) hx hb hTB in_Tree hown hK hP 0 rfl rfl 3 (by decide) (hTB _ k_198) (fun _ h9 => h9) rfl d_Tree_feed_53 ?_
          refine lv_aload_n hx hb d_Tree_feed_56 rfl (lv_at hl 0 rfl) ?_
          refine va_get (D := D) (ci := 3) (v := .int (nI tl)) (C := R_Tree) (T := T_Tree) (N := 5) hx hb hTB in_Tree hown hK hP 0 rfl rfl 4 (by decide) (hTB _ k_199) (fun _ h9 => h9) rfl d_Tree_feed_57 ?_
          refine lv_iload hx hb d_Tree_feed_60 (lv_at hl 3 rfl) ?_
          refine gz_iadd hx hb d_Tree_feed_62 ?_
          refine lv_lload_n hx hb d_Tree_feed_63 rfl (lv_at hl 2 rfl) ?_
          refine lv_bipush (v := nI 8) hx hb d_Tree_feed_64 (by decide +kernel) ?_
          refine lv_iload hx hb d_Tree_feed_66 (lv_at hl 3 rfl) ?_
          refine gz_imul hx hb d_Tree_feed_68 ?_
          refine lv_lushr hx hb d_Tree_feed_69 rfl ?_
          refine lv_l2i hx hb d_Tree_feed_70 rfl ?_
          refine lv_sipush (v := nI 255) hx hb d_Tree_feed_71 (by decide +kernel) ?_
          refine lv_iand hx hb d_Tree_feed_74 ?_
          refine gz_iast hx hb hK hP hD hS 1 2 rfl rfl (i := tl + i) (by omega) (by omega) d_Tree_feed_75 (fun H locs hP hD hS => ?_)
          have hP : va_P D cl5 (wT g k L u f0 tl (va_up (fdT tp tl v i) (tl + i) ((((v.toUInt64 >>> ((nI (8 * i)).toInt64.toUInt64 &&& Int64.toUInt64 63)).toInt64).toInt32) &&& (nI 255)))) H := hP
          have hD : va_D A (wT g k L u f0 tl (va_up (fdT tp tl v i) (tl + i) ((((v.toUInt64 >>> ((nI (8 * i)).toInt64.toUInt64 &&& Int64.toUInt64 63)).toInt64).toInt32) &&& (nI 255)))) := hD
          refine lv_iinc (v := nI (i + 1)) (lv' := [(4, .int (nI (i + 1))), (0, .ref (g 9)), (1, .int (nI n)), (2, .long (v))]) hx hb d_Tree_feed_76 hl (k := 3) rfl (nI_add i 1) (by decide) rfl (fun ls hl => ?_)
          refine lv_goto (tgt := 46) hx hb d_Tree_feed_79 (by decide) ?_
          exact ih46 (i + 1) _ _ _ (by first | omega | (dsimp only; omega)) ⟨hP, hD, hS, lv_sub hl [1, 2, 3, 0] rfl, (by omega)⟩
      · exact absurd h30 (by omega)
    · exact absurd h8 (by omega)
theorem d_Tree_find_0 : decode b_Tree_find 0 = .ok (.iload_n 1, 1) := by decide +kernel
theorem d_Tree_find_1 : decode b_Tree_find 1 = .ok (.invokestatic 66, 3) := by decide +kernel
theorem d_Tree_find_4 : decode b_Tree_find 4 = .ok (.iload_n 2, 1) := by decide +kernel
theorem d_Tree_find_5 : decode b_Tree_find 5 = .ok (.invokestatic 69, 3) := by decide +kernel
theorem d_Tree_find_8 : decode b_Tree_find 8 = .ok (.aload_n 0, 1) := by decide +kernel
theorem d_Tree_find_9 : decode b_Tree_find 9 = .ok (.iload_n 1, 1) := by decide +kernel
theorem d_Tree_find_10 : decode b_Tree_find 10 = .ok (.iload_n 2, 1) := by decide +kernel
theorem d_Tree_find_11 : decode b_Tree_find 11 = .ok (.invokevirtual 90, 3) := by decide +kernel
theorem d_Tree_find_14 : decode b_Tree_find 14 = .ok (.istore_n 3, 1) := by decide +kernel
theorem d_Tree_find_15 : decode b_Tree_find 15 = .ok (.iload_n 3, 1) := by decide +kernel
theorem d_Tree_find_16 : decode b_Tree_find 16 = .ok (.ifCond .ge 7, 3) := by decide +kernel
theorem d_Tree_find_19 : decode b_Tree_find 19 = .ok (.iload_n 3, 1) := by decide +kernel
theorem d_Tree_find_20 : decode b_Tree_find 20 = .ok (.goto 11, 3) := by decide +kernel
theorem d_Tree_find_23 : decode b_Tree_find 23 = .ok (.aload_n 0, 1) := by decide +kernel
theorem d_Tree_find_24 : decode b_Tree_find 24 = .ok (.getfield 32, 3) := by decide +kernel
theorem d_Tree_find_27 : decode b_Tree_find 27 = .ok (.iload_n 3, 1) := by decide +kernel
theorem d_Tree_find_28 : decode b_Tree_find 28 = .ok (.invokevirtual 93, 3) := by decide +kernel
theorem d_Tree_find_31 : decode b_Tree_find 31 = .ok (.ireturn, 1) := by decide +kernel
set_option maxHeartbeats 4000000 in
set_option maxRecDepth 100000 in
theorem c_Tree_find (l : Launch) (D : va_G) (g : Nat → Nat) (k : Nat → ClassId) (L : Nat) (hL0 : 96 ≤ L) (hL : L ≤ 768) (u : DSt) (f0 : Nat → Int32) (tl : Nat) (tp : Nat → Int32) (d w : Nat) (hd0 : d < 64) (hw1 : 1 ≤ w) (hw2 : w ≤ 65535) : RoI l y_Tree_find w_Tree_find ({ frames := 8, cells := 0, slots := 0, locals := 139 }) [.ref (g 9), .int (nI d), .int (nI w)] (RoP D cl5 (tyC k) (wT g k L u f0 tl tp)) (fdC L (dNow u) d w) := by
  refine Met.ofW (cc := b_Tree_find) (maxL := 4) (ret := (some .int)) (by decide) rfl ?_
  intro p e s m args below meth c s₁ B hml hv
  obtain ⟨rfl, hP, hK⟩ := hv
  have hx := B.exec
  have hb := B.bytes
  have hr := B.returns
  have hts := atoms_spec (ws := w_Tree_find) B.pre
  have hTB : ∀ w ∈ lw_tb, w.before _ s = true := fun w h => hts w (List.mem_cons_of_mem _ h)
  have hown : s.vm.findClass R_Tree = some m.cls := findClass_of_methodNamed B.named
  have hlocks := B.notSynchronized
  have hS : va_S (fun _ => False) s.heap s.heap [] := va_S.rf
  have hl := lv_entry ([.ref (g 9), .int (nI d), .int (nI w)]) (n := 4) (Nat.le_of_ble_eq_true rfl)
  rw [lg_entry_eq]
  generalize (lg_sl ([.ref (g 9), .int (nI d), .int (nI w)]) ++ List.replicate (4 - (lg_sl ([.ref (g 9), .int (nI d), .int (nI w)])).length) Slot.unset).toArray = ls at hl ⊢
  have hl : lv_has ls 4 [(0, .ref (g 9)), (1, .int (nI d)), (2, .int (nI w))] := hl
  refine lv_iload_n hx hb d_Tree_find_0 rfl (lv_at hl 1 rfl) ?_
  refine gz_roSv (As := [.int (nI d)]) (rest := []) ⟨hx, hb, hml, hown, hTB⟩ (c_Tree_checkInode l d (by omega)) (cwS 1 hTB (gd_S k_327 k_328 k_51 k_329) rfl rfl rfl (by decide +kernel) ⟨Nat.le_of_ble_eq_true rfl, Nat.le_of_ble_eq_true rfl⟩) hP rfl hl.1 rfl (Nat.le_of_ble_eq_true rfl) d_Tree_find_1 ⟨Nat.zero_le _, Nat.zero_le _⟩ hS (fun H locs hP hS => ?_)
  refine lv_iload_n hx hb d_Tree_find_4 rfl (lv_at hl 2 rfl) ?_
  refine gz_roSv (As := [.int (nI w)]) (rest := []) ⟨hx, hb, hml, hown, hTB⟩ (c_Tree_checkName l w (by omega) (by omega)) (cwS 1 hTB (gd_S k_331 k_332 k_51 k_333) rfl rfl rfl (by decide +kernel) ⟨Nat.le_of_ble_eq_true rfl, Nat.le_of_ble_eq_true rfl⟩) hP rfl hl.1 rfl (Nat.le_of_ble_eq_true rfl) d_Tree_find_5 ⟨Nat.zero_le _, Nat.zero_le _⟩ hS (fun H locs hP hS => ?_)
  refine lv_aload_n hx hb d_Tree_find_8 rfl (lv_at hl 0 rfl) ?_
  refine lv_iload_n hx hb d_Tree_find_9 rfl (lv_at hl 1 rfl) ?_
  refine lv_iload_n hx hb d_Tree_find_10 rfl (lv_at hl 2 rfl) ?_
  refine gz_roV (As := [.int (nI d), .int (nI w)]) (rest := []) (wc := (wT g k L u f0 tl tp)) ⟨hx, hb, hml, hown, hTB⟩ (c_Tree_entryOrFault l D g k L hL0 hL u f0 tl tp d w (by omega)) (cwV 2 hTB (gd_V k_446 k_448 k_11 k_51 k_449) rfl rfl rfl (by decide +kernel) ⟨Nat.le_of_ble_eq_true rfl, Nat.le_of_ble_eq_true rfl⟩) hK hP [0, 1, 2, 3, 4, 5, 6, 7, 8, 9, 10] rfl 0 rfl rfl rfl hl.1 rfl (Nat.le_of_ble_eq_true rfl) d_Tree_find_11 ⟨Nat.zero_le _, Nat.zero_le _⟩ hS (fun H locs hP hS => ?_)
  refine lv_istore_n (lv' := [(3, .int (eof L (dNow u) d w)), (0, .ref (g 9)), (1, .int (nI d)), (2, .int (nI w))]) hx hb d_Tree_find_14 rfl hl (by decide) rfl (fun ls hl => ?_)
  refine lv_iload_n hx hb d_Tree_find_15 rfl (lv_at hl 0 rfl) ?_
  refine lv_if_ge (tgt := 23) hx hb d_Tree_find_16 (by decide) (fun h16 => ?_) (fun h16 => ?_)
  · refine lv_aload_n hx hb d_Tree_find_23 rfl (lv_at hl 1 rfl) ?_
    refine va_get (D := D) (ci := 3) (v := .ref (g 7)) (C := R_Tree) (T := T_Tree) (N := 5) hx hb hTB in_Tree hown hK hP 0 rfl rfl 2 (by decide) (hTB _ k_197) (fun _ h9 => h9) rfl d_Tree_find_24 ?_
    refine lv_iload_n hx hb d_Tree_find_27 rfl (lv_at hl 0 rfl) ?_
    refine gz_roV (As := [.int (eof L (dNow u) d w)]) (rest := []) (wc := (wR g k L u f0)) ⟨hx, hb, hml, hown, hTB⟩ (c_Dirs_inodeOf l D g k L hL0 hL u f0 (eof L (dNow u) d w)) (cwV 1 hTB (gd_V k_450 k_451 k_452 k_55 k_453) rfl rfl rfl (by decide +kernel) ⟨Nat.le_of_ble_eq_true rfl, Nat.le_of_ble_eq_true rfl⟩) hK hP [2, 3, 4, 5, 6, 7, 8, 9, 10] rfl 2 rfl rfl rfl hl.1 rfl (Nat.le_of_ble_eq_true rfl) d_Tree_find_28 ⟨Nat.zero_le _, Nat.zero_le _⟩ hS (fun H locs hP hS => ?_)
    have := ino_lt L (dNow u) (eof L (dNow u) d w)
    exact W.iret (v := nI (ino L (dNow u) (eof L (dNow u) d w))) hx hb hr (fun tt9 ht9 hW9 => ⟨⟨_, (), rfl, (by unfold fdC; rw [if_pos h16]), trivial⟩, hS.F ht9⟩) hS.2.2 d_Tree_find_31
  · refine lv_iload_n hx hb d_Tree_find_19 rfl (lv_at hl 0 rfl) ?_
    refine lv_goto (tgt := 31) hx hb d_Tree_find_20 (by decide) ?_
    exact W.iret (v := eof L (dNow u) d w) hx hb hr (fun tt9 ht9 hW9 => ⟨⟨_, (), rfl, (by unfold fdC; rw [if_neg h16]), trivial⟩, hS.F ht9⟩) hS.2.2 d_Tree_find_31
theorem d_Tree_make_0 : decode b_Tree_make 0 = .ok (.iload_n 1, 1) := by decide +kernel
theorem d_Tree_make_1 : decode b_Tree_make 1 = .ok (.invokestatic 66, 3) := by decide +kernel
theorem d_Tree_make_4 : decode b_Tree_make 4 = .ok (.iload_n 2, 1) := by decide +kernel
theorem d_Tree_make_5 : decode b_Tree_make 5 = .ok (.invokestatic 69, 3) := by decide +kernel
theorem d_Tree_make_8 : decode b_Tree_make 8 = .ok (.aload_n 0, 1) := by decide +kernel
theorem d_Tree_make_9 : decode b_Tree_make 9 = .ok (.iload_n 1, 1) := by decide +kernel
theorem d_Tree_make_10 : decode b_Tree_make 10 = .ok (.iconst 2, 1) := by decide +kernel
theorem d_Tree_make_11 : decode b_Tree_make 11 = .ok (.invokevirtual 72, 3) := by decide +kernel
theorem d_Tree_make_14 : decode b_Tree_make 14 = .ok (.istore 4, 2) := by decide +kernel
theorem d_Tree_make_16 : decode b_Tree_make 16 = .ok (.iload 4, 2) := by decide +kernel
theorem d_Tree_make_18 : decode b_Tree_make 18 = .ok (.ifCond .ge 6, 3) := by decide +kernel
theorem d_Tree_make_21 : decode b_Tree_make 21 = .ok (.iload 4, 2) := by decide +kernel
theorem d_Tree_make_23 : decode b_Tree_make 23 = .ok (.ireturn, 1) := by decide +kernel
theorem d_Tree_make_24 : decode b_Tree_make 24 = .ok (.aload_n 0, 1) := by decide +kernel
theorem d_Tree_make_25 : decode b_Tree_make 25 = .ok (.getfield 32, 3) := by decide +kernel
theorem d_Tree_make_28 : decode b_Tree_make 28 = .ok (.iload_n 1, 1) := by decide +kernel
theorem d_Tree_make_29 : decode b_Tree_make 29 = .ok (.iload_n 2, 1) := by decide +kernel
theorem d_Tree_make_30 : decode b_Tree_make 30 = .ok (.invokevirtual 76, 3) := by decide +kernel
theorem d_Tree_make_33 : decode b_Tree_make 33 = .ok (.iconst (-1), 1) := by decide +kernel
theorem d_Tree_make_34 : decode b_Tree_make 34 = .ok (.if_icmp .eq 6, 3) := by decide +kernel
theorem d_Tree_make_37 : decode b_Tree_make 37 = .ok (.bipush (-2), 2) := by decide +kernel
theorem d_Tree_make_39 : decode b_Tree_make 39 = .ok (.ireturn, 1) := by decide +kernel
theorem d_Tree_make_40 : decode b_Tree_make 40 = .ok (.aload_n 0, 1) := by decide +kernel
theorem d_Tree_make_41 : decode b_Tree_make 41 = .ok (.getfield 23, 3) := by decide +kernel
theorem d_Tree_make_44 : decode b_Tree_make 44 = .ok (.invokevirtual 79, 3) := by decide +kernel
theorem d_Tree_make_47 : decode b_Tree_make 47 = .ok (.istore 5, 2) := by decide +kernel
theorem d_Tree_make_49 : decode b_Tree_make 49 = .ok (.iload 5, 2) := by decide +kernel
theorem d_Tree_make_51 : decode b_Tree_make 51 = .ok (.iconst (-1), 1) := by decide +kernel
theorem d_Tree_make_52 : decode b_Tree_make 52 = .ok (.if_icmp .ne 6, 3) := by decide +kernel
theorem d_Tree_make_55 : decode b_Tree_make 55 = .ok (.bipush (-3), 2) := by decide +kernel
theorem d_Tree_make_57 : decode b_Tree_make 57 = .ok (.ireturn, 1) := by decide +kernel
theorem d_Tree_make_58 : decode b_Tree_make 58 = .ok (.aload_n 0, 1) := by decide +kernel
theorem d_Tree_make_59 : decode b_Tree_make 59 = .ok (.getfield 32, 3) := by decide +kernel
theorem d_Tree_make_62 : decode b_Tree_make 62 = .ok (.iload_n 1, 1) := by decide +kernel
theorem d_Tree_make_63 : decode b_Tree_make 63 = .ok (.iload_n 2, 1) := by decide +kernel
theorem d_Tree_make_64 : decode b_Tree_make 64 = .ok (.iload 5, 2) := by decide +kernel
theorem d_Tree_make_66 : decode b_Tree_make 66 = .ok (.invokevirtual 83, 3) := by decide +kernel
theorem d_Tree_make_69 : decode b_Tree_make 69 = .ok (.ifCond .ne 13, 3) := by decide +kernel
theorem d_Tree_make_72 : decode b_Tree_make 72 = .ok (.aload_n 0, 1) := by decide +kernel
theorem d_Tree_make_73 : decode b_Tree_make 73 = .ok (.getfield 12, 3) := by decide +kernel
theorem d_Tree_make_76 : decode b_Tree_make 76 = .ok (.invokevirtual 87, 3) := by decide +kernel
theorem d_Tree_make_79 : decode b_Tree_make 79 = .ok (.bipush (-4), 2) := by decide +kernel
theorem d_Tree_make_81 : decode b_Tree_make 81 = .ok (.ireturn, 1) := by decide +kernel
theorem d_Tree_make_82 : decode b_Tree_make 82 = .ok (.aload_n 0, 1) := by decide +kernel
theorem d_Tree_make_83 : decode b_Tree_make 83 = .ok (.getfield 23, 3) := by decide +kernel
theorem d_Tree_make_86 : decode b_Tree_make 86 = .ok (.iload 5, 2) := by decide +kernel
theorem d_Tree_make_88 : decode b_Tree_make 88 = .ok (.iload_n 3, 1) := by decide +kernel
theorem d_Tree_make_89 : decode b_Tree_make 89 = .ok (.ifCond .eq 7, 3) := by decide +kernel
theorem d_Tree_make_92 : decode b_Tree_make 92 = .ok (.iconst 2, 1) := by decide +kernel
theorem d_Tree_make_93 : decode b_Tree_make 93 = .ok (.goto 4, 3) := by decide +kernel
theorem d_Tree_make_96 : decode b_Tree_make 96 = .ok (.iconst 1, 1) := by decide +kernel
theorem d_Tree_make_97 : decode b_Tree_make 97 = .ok (.invokevirtual 44, 3) := by decide +kernel
theorem d_Tree_make_100 : decode b_Tree_make 100 = .ok (.aload_n 0, 1) := by decide +kernel
theorem d_Tree_make_101 : decode b_Tree_make 101 = .ok (.getfield 12, 3) := by decide +kernel
theorem d_Tree_make_104 : decode b_Tree_make 104 = .ok (.invokevirtual 48, 3) := by decide +kernel
theorem d_Tree_make_107 : decode b_Tree_make 107 = .ok (.iload 5, 2) := by decide +kernel
theorem d_Tree_make_109 : decode b_Tree_make 109 = .ok (.ireturn, 1) := by decide +kernel
set_option maxHeartbeats 4000000 in
set_option maxRecDepth 100000 in
theorem c_Tree_make (l : Launch) (D : va_G) (g : Nat → Nat) (k : Nat → ClassId) (L : Nat) (hL0 : 96 ≤ L) (hL : L ≤ 768) (u : DSt) (f0 : Nat → Int32) (tl : Nat) (tp : Nat → Int32) (d w : Nat) (b : Bool) (hd0 : d < 64) (hw1 : 1 ≤ w) (hw2 : w ≤ 65535) : MuI l y_Tree_make w_Tree_make ({ frames := 8, cells := 0, slots := 0, locals := 204 }) [.ref (g 9), .int (nI d), .int (nI w), .int (zI (b))] D cl5 (tyC k) (wT g k L u f0 tl tp) (wT g k L ((mkC L u d w (if b then 2 else 1)).2) f0 tl tp) ((mkC L u d w (if b then 2 else 1)).1) := by
  intro sz
  refine Met.ofW (cc := b_Tree_make) (maxL := 6) (ret := (some .int)) (by decide) rfl ?_
  intro p e s m args below meth c s₁ B hml hv
  obtain ⟨rfl, hsz, hP, hK, hD0⟩ := hv
  have hx := B.exec
  have hb := B.bytes
  have hr := B.returns
  have hts := atoms_spec (ws := w_Tree_make) B.pre
  have hTB : ∀ w ∈ lw_tb, w.before _ s = true := fun w h => hts w (List.mem_cons_of_mem _ h)
  have hown : s.vm.findClass R_Tree = some m.cls := findClass_of_methodNamed B.named
  have hlocks := B.notSynchronized
  subst hsz
  have hD := hD0.self (sz := s.heap.size)
  generalize hAe : va_A (wT g k L u f0 tl tp) s.heap.size = A at hD ⊢
  have hA : ∀ q : Nat, s.heap.size ≤ q → A q := fun q h => by rw [← hAe]; exact Or.inr h
  have hS : va_S A s.heap s.heap [] := va_S.rf
  have hl := lv_entry ([.ref (g 9), .int (nI d), .int (nI w), .int (zI (b))]) (n := 6) (Nat.le_of_ble_eq_true rfl)
  rw [lg_entry_eq]
  generalize (lg_sl ([.ref (g 9), .int (nI d), .int (nI w), .int (zI (b))]) ++ List.replicate (6 - (lg_sl ([.ref (g 9), .int (nI d), .int (nI w), .int (zI (b))])).length) Slot.unset).toArray = ls at hl ⊢
  have hl : lv_has ls 6 [(0, .ref (g 9)), (1, .int (nI d)), (2, .int (nI w)), (3, .int (zI (b)))] := hl
  refine lv_iload_n hx hb d_Tree_make_0 rfl (lv_at hl 1 rfl) ?_
  refine gz_roSv (As := [.int (nI d)]) (rest := []) ⟨hx, hb, hml, hown, hTB⟩ (c_Tree_checkInode l d (by omega)) (cwS 1 hTB (gd_S k_327 k_328 k_51 k_329) rfl rfl rfl (by decide +kernel) ⟨Nat.le_of_ble_eq_true rfl, Nat.le_of_ble_eq_true rfl⟩) hP rfl hl.1 rfl (Nat.le_of_ble_eq_true rfl) d_Tree_make_1 ⟨Nat.zero_le _, Nat.zero_le _⟩ hS (fun H locs hP hS => ?_)
  refine lv_iload_n hx hb d_Tree_make_4 rfl (lv_at hl 2 rfl) ?_
  refine gz_roSv (As := [.int (nI w)]) (rest := []) ⟨hx, hb, hml, hown, hTB⟩ (c_Tree_checkName l w (by omega) (by omega)) (cwS 1 hTB (gd_S k_331 k_332 k_51 k_333) rfl rfl rfl (by decide +kernel) ⟨Nat.le_of_ble_eq_true rfl, Nat.le_of_ble_eq_true rfl⟩) hP rfl hl.1 rfl (Nat.le_of_ble_eq_true rfl) d_Tree_make_5 ⟨Nat.zero_le _, Nat.zero_le _⟩ hS (fun H locs hP hS => ?_)
  refine lv_aload_n hx hb d_Tree_make_8 rfl (lv_at hl 0 rfl) ?_
  refine lv_iload_n hx hb d_Tree_make_9 rfl (lv_at hl 1 rfl) ?_
  refine lv_iconst (v := nI 2) hx hb d_Tree_make_10 (by decide +kernel) ?_
  refine gz_roV (As := [.int (nI d), .int (nI 2)]) (rest := []) (wc := (wT g k L u f0 tl tp)) ⟨hx, hb, hml, hown, hTB⟩ (c_Tree_kindFault l D g k L hL0 hL u f0 tl tp d 2 (by decide)) (cwV 2 hTB (gd_V k_336 k_338 k_8 k_51 k_339) rfl rfl rfl (by decide +kernel) ⟨Nat.le_of_ble_eq_true rfl, Nat.le_of_ble_eq_true rfl⟩) hK hP [0, 1, 2, 3, 4, 5, 6, 7, 8, 9, 10] rfl 0 rfl rfl rfl hl.1 rfl (Nat.le_of_ble_eq_true rfl) d_Tree_make_11 ⟨Nat.zero_le _, Nat.zero_le _⟩ hS (fun H locs hP hS => ?_)
  refine lv_istore (lv' := [(4, .int (kfl (iK L (dNow u) d) 2)), (0, .ref (g 9)), (1, .int (nI d)), (2, .int (nI w)), (3, .int (zI (b)))]) hx hb d_Tree_make_14 hl (by decide) rfl (fun ls hl => ?_)
  refine lv_iload hx hb d_Tree_make_16 (lv_at hl 0 rfl) ?_
  refine lv_if_ge (tgt := 24) hx hb d_Tree_make_18 (by decide) (fun h18 => ?_) (fun h18 => ?_)
  · refine lv_aload_n hx hb d_Tree_make_24 rfl (lv_at hl 1 rfl) ?_
    refine va_get (D := D) (ci := 3) (v := .ref (g 7)) (C := R_Tree) (T := T_Tree) (N := 5) hx hb hTB in_Tree hown hK hP 0 rfl rfl 2 (by decide) (hTB _ k_197) (fun _ h9 => h9) rfl d_Tree_make_25 ?_
    refine lv_iload_n hx hb d_Tree_make_28 rfl (lv_at hl 2 rfl) ?_
    refine lv_iload_n hx hb d_Tree_make_29 rfl (lv_at hl 3 rfl) ?_
    refine gz_roV (As := [.int (nI d), .int (nI w)]) (rest := []) (wc := (wR g k L u f0)) ⟨hx, hb, hml, hown, hTB⟩ (c_Dirs_entryNamed l D g k L hL0 hL u f0 d w (by omega)) (cwV 2 hTB (gd_V k_348 k_349 k_350 k_55 k_351) rfl rfl rfl (by decide +kernel) ⟨Nat.le_of_ble_eq_true rfl, Nat.le_of_ble_eq_true rfl⟩) hK hP [2, 3, 4, 5, 6, 7, 8, 9, 10] rfl 2 rfl rfl rfl hl.1 rfl (Nat.le_of_ble_eq_true rfl) d_Tree_make_30 ⟨Nat.zero_le _, Nat.zero_le _⟩ hS (fun H locs hP hS => ?_)
    refine lv_iconst (v := (-1)) hx hb d_Tree_make_33 (by decide +kernel) ?_
    refine lv_icmp_eq (tgt := 40) hx hb d_Tree_make_34 (by decide) (fun h34 => ?_) (fun h34 => ?_)
    · refine lv_aload_n hx hb d_Tree_make_40 rfl (lv_at hl 1 rfl) ?_
      refine va_get (D := D) (ci := 3) (v := .ref (g 6)) (C := R_Tree) (T := T_Tree) (N := 5) hx hb hTB in_Tree hown hK hP 0 rfl rfl 1 (by decide) (hTB _ k_196) (fun _ h9 => h9) rfl d_Tree_make_41 ?_
      refine gz_roV (As := []) (rest := []) (wc := (wI g k L u)) ⟨hx, hb, hml, hown, hTB⟩ (c_Inodes_leastFree l D g k L hL0 hL u) (cwV 0 hTB (gd_V k_381 k_382 k_383 k_54 k_384) rfl rfl rfl (by decide +kernel) ⟨Nat.le_of_ble_eq_true rfl, Nat.le_of_ble_eq_true rfl⟩) hK hP [4, 5, 6, 7, 8, 9, 10] rfl 4 rfl rfl rfl hl.1 rfl (Nat.le_of_ble_eq_true rfl) d_Tree_make_44 ⟨Nat.zero_le _, Nat.zero_le _⟩ hS (fun H locs hP hS => ?_)
      refine lv_istore (lv' := [(5, .int (ilf L (dNow u))), (4, .int (kfl (iK L (dNow u) d) 2)), (0, .ref (g 9)), (1, .int (nI d)), (2, .int (nI w)), (3, .int (zI (b)))]) hx hb d_Tree_make_47 hl (by decide) rfl (fun ls hl => ?_)
      refine lv_iload hx hb d_Tree_make_49 (lv_at hl 0 rfl) ?_
      refine lv_iconst (v := (-1)) hx hb d_Tree_make_51 (by decide +kernel) ?_
      refine lv_icmp_ne (tgt := 58) hx hb d_Tree_make_52 (by decide) (fun h52 => ?_) (fun h52 => ?_)
      · obtain ⟨j, hj, ej⟩ := ilf_of h52
        have hl : lv_has ls 6 [(5, .int (nI j)), (4, .int (kfl (iK L (dNow u) d) 2)), (0, .ref (g 9)), (1, .int (nI d)), (2, .int (nI w)), (3, .int (zI (b)))] := by rw [← ej]; exact hl
        refine lv_aload_n hx hb d_Tree_make_58 rfl (lv_at hl 2 rfl) ?_
        refine va_get (D := D) (ci := 3) (v := .ref (g 7)) (C := R_Tree) (T := T_Tree) (N := 5) hx hb hTB in_Tree hown hK hP 0 rfl rfl 2 (by decide) (hTB _ k_197) (fun _ h9 => h9) rfl d_Tree_make_59 ?_
        refine lv_iload_n hx hb d_Tree_make_62 rfl (lv_at hl 3 rfl) ?_
        refine lv_iload_n hx hb d_Tree_make_63 rfl (lv_at hl 4 rfl) ?_
        refine lv_iload hx hb d_Tree_make_64 (lv_at hl 0 rfl) ?_
        refine gz_muI (As := [.int (nI d), .int (nI w), .int (nI j)]) (rest := []) (wc := (wR g k L u f0)) (w1 := (wR g k L ((adE L u d (nI w) (nI j)).2) f0)) (wr := (hT g k tl tp)) ⟨hx, hb, hml, hown, hTB⟩ (c_Dirs_addEntry l D g k L hL0 hL u f0 d (nI w) (nI j)) (cwV 3 hTB (gd_V k_386 k_387 k_388 k_55 k_389) rfl rfl rfl (by decide +kernel) ⟨Nat.le_of_ble_eq_true rfl, Nat.le_of_ble_eq_true rfl⟩) hK hP hD hA [2, 3, 4, 5, 6, 7, 8, 9, 10] [0, 1] rfl rfl (by decide) rfl (by decide) (by decide) 2 rfl rfl rfl hl.1 rfl (Nat.le_of_ble_eq_true rfl) d_Tree_make_66 ⟨Nat.zero_le _, Nat.zero_le _⟩ hS (fun H locs hP hD hS => ?_)
        have hP : va_P D cl5 (wT g k L ((adE L u d (nI w) (nI j)).2) f0 tl tp) H := hP
        have hD : va_D A (wT g k L ((adE L u d (nI w) (nI j)).2) f0 tl tp) := hD
        refine gz_ifz_ne (tgt := 82) hx hb d_Tree_make_69 (by decide) (fun h69 => ?_) (fun h69 => ?_)
        · refine lv_aload_n hx hb d_Tree_make_82 rfl (lv_at hl 2 rfl) ?_
          refine va_get (D := D) (ci := 3) (v := .ref (g 6)) (C := R_Tree) (T := T_Tree) (N := 5) hx hb hTB in_Tree hown hK hP 0 rfl rfl 1 (by decide) (hTB _ k_196) (fun _ h9 => h9) rfl d_Tree_make_83 ?_
          refine lv_iload hx hb d_Tree_make_86 (lv_at hl 0 rfl) ?_
          refine lv_iload_n hx hb d_Tree_make_88 rfl (lv_at hl 5 rfl) ?_
          refine gz_ifz_eq (tgt := 96) hx hb d_Tree_make_89 (by decide) (fun h89 => ?_) (fun h89 => ?_)
          · refine lv_iconst (v := nI 1) hx hb d_Tree_make_96 (by decide +kernel) ?_
            refine gz_muV (As := [.int (nI j), .int (nI 1)]) (rest := []) (wc := (wI g k L ((adE L u d (nI w) (nI j)).2))) (w1 := (wI g k L (setB L ((adE L u d (nI w) (nI j)).2) (nI (1600 + 32 * j)) (nI 1)))) (wr := (hT g k tl tp ++ hR g k f0)) ⟨hx, hb, hml, hown, hTB⟩ (c_Inodes_begin l D g k L hL0 hL ((adE L u d (nI w) (nI j)).2) j (nI 1)) (cwV 2 hTB (gd_V k_143 k_144 k_145 k_54 k_146) rfl rfl rfl (by decide +kernel) ⟨Nat.le_of_ble_eq_true rfl, Nat.le_of_ble_eq_true rfl⟩) hK hP hD hA [4, 5, 6, 7, 8, 9, 10] [0, 1, 2, 3] rfl rfl (by decide) rfl (by decide) (by decide) 4 rfl rfl rfl hl.1 rfl (Nat.le_of_ble_eq_true rfl) d_Tree_make_97 ⟨Nat.zero_le _, Nat.zero_le _⟩ hS (fun H locs hP hD hS => ?_)
            have hP : va_P D cl5 (wT g k L (setB L ((adE L u d (nI w) (nI j)).2) (nI (1600 + 32 * j)) (nI 1)) f0 tl tp) H := hP
            have hD : va_D A (wT g k L (setB L ((adE L u d (nI w) (nI j)).2) (nI (1600 + 32 * j)) (nI 1)) f0 tl tp) := hD
            refine lv_aload_n hx hb d_Tree_make_100 rfl (lv_at hl 2 rfl) ?_
            refine va_get (D := D) (ci := 3) (v := .ref (g 0)) (C := R_Tree) (T := T_Tree) (N := 5) hx hb hTB in_Tree hown hK hP 0 rfl rfl 0 (by decide) (hTB _ k_195) (fun _ h9 => h9) rfl d_Tree_make_101 ?_
            refine gz_muV (As := []) (rest := []) (wc := (wD g k L (setB L ((adE L u d (nI w) (nI j)).2) (nI (1600 + 32 * j)) (nI 1)))) (w1 := (wD g k L (stl L (setB L ((adE L u d (nI w) (nI j)).2) (nI (1600 + 32 * j)) (nI 1))))) (wr := (hT g k tl tp ++ (hR g k f0 ++ hI g))) ⟨hx, hb, hml, hown, hTB⟩ (c_Disk_settle l D g k L hL0 hL (setB L ((adE L u d (nI w) (nI j)).2) (nI (1600 + 32 * j)) (nI 1))) (cwV 0 hTB (gd_V k_156 k_157 k_158 k_52 k_159) rfl rfl rfl (by decide +kernel) ⟨Nat.le_of_ble_eq_true rfl, Nat.le_of_ble_eq_true rfl⟩) hK hP hD hA [5, 6, 7, 8, 9, 10] [0, 1, 2, 3, 4] rfl rfl (by decide) rfl (by decide) (by decide) 5 rfl rfl rfl hl.1 rfl (Nat.le_of_ble_eq_true rfl) d_Tree_make_104 ⟨Nat.zero_le _, Nat.zero_le _⟩ hS (fun H locs hP hD hS => ?_)
            have hP : va_P D cl5 (wT g k L (stl L (setB L ((adE L u d (nI w) (nI j)).2) (nI (1600 + 32 * j)) (nI 1))) f0 tl tp) H := hP
            have hD : va_D A (wT g k L (stl L (setB L ((adE L u d (nI w) (nI j)).2) (nI (1600 + 32 * j)) (nI 1))) f0 tl tp) := hD
            refine lv_iload hx hb d_Tree_make_107 (lv_at hl 0 rfl) ?_
            have hP9 : va_P D cl5 (wT g k L ((mkC L u d w (if b then 2 else 1)).2) f0 tl tp) H := (by unfold mkC; rw [if_pos h18, if_pos h34, if_neg h52, ej, if_pos h69, nI_clamp (by omega), h89]; exact hP)
            have hD9 : va_D A (wT g k L ((mkC L u d w (if b then 2 else 1)).2) f0 tl tp) := (by unfold mkC; rw [if_pos h18, if_pos h34, if_neg h52, ej, if_pos h69, nI_clamp (by omega), h89]; exact hD)
            exact W.iret (v := nI j) hx hb hr (fun tt9 ht9 hW9 => ⟨⟨_, (), rfl, (by unfold mkC; rw [if_pos h18, if_pos h34, if_neg h52, ej, if_pos h69, nI_clamp (by omega), h89]), ⟨by rw [ht9]; exact hP9, hD9⟩⟩, hS.F ht9⟩) hS.2.2 d_Tree_make_109
          · refine lv_iconst (v := nI 2) hx hb d_Tree_make_92 (by decide +kernel) ?_
            refine lv_goto (tgt := 97) hx hb d_Tree_make_93 (by decide) ?_
            refine gz_muV (As := [.int (nI j), .int (nI 2)]) (rest := []) (wc := (wI g k L ((adE L u d (nI w) (nI j)).2))) (w1 := (wI g k L (setB L ((adE L u d (nI w) (nI j)).2) (nI (1600 + 32 * j)) (nI 2)))) (wr := (hT g k tl tp ++ hR g k f0)) ⟨hx, hb, hml, hown, hTB⟩ (c_Inodes_begin l D g k L hL0 hL ((adE L u d (nI w) (nI j)).2) j (nI 2)) (cwV 2 hTB (gd_V k_143 k_144 k_145 k_54 k_146) rfl rfl rfl (by decide +kernel) ⟨Nat.le_of_ble_eq_true rfl, Nat.le_of_ble_eq_true rfl⟩) hK hP hD hA [4, 5, 6, 7, 8, 9, 10] [0, 1, 2, 3] rfl rfl (by decide) rfl (by decide) (by decide) 4 rfl rfl rfl hl.1 rfl (Nat.le_of_ble_eq_true rfl) d_Tree_make_97 ⟨Nat.zero_le _, Nat.zero_le _⟩ hS (fun H locs hP hD hS => ?_)
            have hP : va_P D cl5 (wT g k L (setB L ((adE L u d (nI w) (nI j)).2) (nI (1600 + 32 * j)) (nI 2)) f0 tl tp) H := hP
            have hD : va_D A (wT g k L (setB L ((adE L u d (nI w) (nI j)).2) (nI (1600 + 32 * j)) (nI 2)) f0 tl tp) := hD
            refine lv_aload_n hx hb d_Tree_make_100 rfl (lv_at hl 2 rfl) ?_
            refine va_get (D := D) (ci := 3) (v := .ref (g 0)) (C := R_Tree) (T := T_Tree) (N := 5) hx hb hTB in_Tree hown hK hP 0 rfl rfl 0 (by decide) (hTB _ k_195) (fun _ h9 => h9) rfl d_Tree_make_101 ?_
            refine gz_muV (As := []) (rest := []) (wc := (wD g k L (setB L ((adE L u d (nI w) (nI j)).2) (nI (1600 + 32 * j)) (nI 2)))) (w1 := (wD g k L (stl L (setB L ((adE L u d (nI w) (nI j)).2) (nI (1600 + 32 * j)) (nI 2))))) (wr := (hT g k tl tp ++ (hR g k f0 ++ hI g))) ⟨hx, hb, hml, hown, hTB⟩ (c_Disk_settle l D g k L hL0 hL (setB L ((adE L u d (nI w) (nI j)).2) (nI (1600 + 32 * j)) (nI 2))) (cwV 0 hTB (gd_V k_156 k_157 k_158 k_52 k_159) rfl rfl rfl (by decide +kernel) ⟨Nat.le_of_ble_eq_true rfl, Nat.le_of_ble_eq_true rfl⟩) hK hP hD hA [5, 6, 7, 8, 9, 10] [0, 1, 2, 3, 4] rfl rfl (by decide) rfl (by decide) (by decide) 5 rfl rfl rfl hl.1 rfl (Nat.le_of_ble_eq_true rfl) d_Tree_make_104 ⟨Nat.zero_le _, Nat.zero_le _⟩ hS (fun H locs hP hD hS => ?_)
            have hP : va_P D cl5 (wT g k L (stl L (setB L ((adE L u d (nI w) (nI j)).2) (nI (1600 + 32 * j)) (nI 2))) f0 tl tp) H := hP
            have hD : va_D A (wT g k L (stl L (setB L ((adE L u d (nI w) (nI j)).2) (nI (1600 + 32 * j)) (nI 2))) f0 tl tp) := hD
            refine lv_iload hx hb d_Tree_make_107 (lv_at hl 0 rfl) ?_
            have hP9 : va_P D cl5 (wT g k L ((mkC L u d w (if b then 2 else 1)).2) f0 tl tp) H := (by unfold mkC; rw [if_pos h18, if_pos h34, if_neg h52, ej, if_pos h69, nI_clamp (by omega), h89]; exact hP)
            have hD9 : va_D A (wT g k L ((mkC L u d w (if b then 2 else 1)).2) f0 tl tp) := (by unfold mkC; rw [if_pos h18, if_pos h34, if_neg h52, ej, if_pos h69, nI_clamp (by omega), h89]; exact hD)
            exact W.iret (v := nI j) hx hb hr (fun tt9 ht9 hW9 => ⟨⟨_, (), rfl, (by unfold mkC; rw [if_pos h18, if_pos h34, if_neg h52, ej, if_pos h69, nI_clamp (by omega), h89]), ⟨by rw [ht9]; exact hP9, hD9⟩⟩, hS.F ht9⟩) hS.2.2 d_Tree_make_109
        · refine lv_aload_n hx hb d_Tree_make_72 rfl (lv_at hl 2 rfl) ?_
          refine va_get (D := D) (ci := 3) (v := .ref (g 0)) (C := R_Tree) (T := T_Tree) (N := 5) hx hb hTB in_Tree hown hK hP 0 rfl rfl 0 (by decide) (hTB _ k_195) (fun _ h9 => h9) rfl d_Tree_make_73 ?_
          refine gz_muV (As := []) (rest := []) (wc := (wD g k L ((adE L u d (nI w) (nI j)).2))) (w1 := (wD g k L (und L ((adE L u d (nI w) (nI j)).2)))) (wr := (hT g k tl tp ++ (hR g k f0 ++ hI g))) ⟨hx, hb, hml, hown, hTB⟩ (c_Disk_undo l D g k L hL0 hL ((adE L u d (nI w) (nI j)).2)) (cwV 0 hTB (gd_V k_435 k_436 k_437 k_52 k_438) rfl rfl rfl (by decide +kernel) ⟨Nat.le_of_ble_eq_true rfl, Nat.le_of_ble_eq_true rfl⟩) hK hP hD hA [5, 6, 7, 8, 9, 10] [0, 1, 2, 3, 4] rfl rfl (by decide) rfl (by decide) (by decide) 5 rfl rfl rfl hl.1 rfl (Nat.le_of_ble_eq_true rfl) d_Tree_make_76 ⟨Nat.zero_le _, Nat.zero_le _⟩ hS (fun H locs hP hD hS => ?_)
          have hP : va_P D cl5 (wT g k L (und L ((adE L u d (nI w) (nI j)).2)) f0 tl tp) H := hP
          have hD : va_D A (wT g k L (und L ((adE L u d (nI w) (nI j)).2)) f0 tl tp) := hD
          refine lv_bipush (v := (-4)) hx hb d_Tree_make_79 (by decide +kernel) ?_
          have hP9 : va_P D cl5 (wT g k L ((mkC L u d w (if b then 2 else 1)).2) f0 tl tp) H := (by unfold mkC; rw [if_pos h18, if_pos h34, if_neg h52, ej, if_neg (by rw [h69]; decide)]; exact hP)
          have hD9 : va_D A (wT g k L ((mkC L u d w (if b then 2 else 1)).2) f0 tl tp) := (by unfold mkC; rw [if_pos h18, if_pos h34, if_neg h52, ej, if_neg (by rw [h69]; decide)]; exact hD)
          exact W.iret (v := (-4)) hx hb hr (fun tt9 ht9 hW9 => ⟨⟨_, (), rfl, (by unfold mkC; rw [if_pos h18, if_pos h34, if_neg h52, ej, if_neg (by rw [h69]; decide)]), ⟨by rw [ht9]; exact hP9, hD9⟩⟩, hS.F ht9⟩) hS.2.2 d_Tree_make_81
      · refine lv_bipush (v := (-3)) hx hb d_Tree_make_55 (by decide +kernel) ?_
        have hP9 : va_P D cl5 (wT g k L ((mkC L u d w (if b then 2 else 1)).2) f0 tl tp) H := (by unfold mkC; rw [if_pos h18, if_pos h34, if_pos h52]; exact hP)
        have hD9 : va_D A (wT g k L ((mkC L u d w (if b then 2 else 1)).2) f0 tl tp) := (by unfold mkC; rw [if_pos h18, if_pos h34, if_pos h52]; exact hD)
        exact W.iret (v := (-3)) hx hb hr (fun tt9 ht9 hW9 => ⟨⟨_, (), rfl, (by unfold mkC; rw [if_pos h18, if_pos h34, if_pos h52]), ⟨by rw [ht9]; exact hP9, hD9⟩⟩, hS.F ht9⟩) hS.2.2 d_Tree_make_57
    · refine lv_bipush (v := (-2)) hx hb d_Tree_make_37 (by decide +kernel) ?_
      have hP9 : va_P D cl5 (wT g k L ((mkC L u d w (if b then 2 else 1)).2) f0 tl tp) H := (by unfold mkC; rw [if_pos h18, if_neg h34]; exact hP)
      have hD9 : va_D A (wT g k L ((mkC L u d w (if b then 2 else 1)).2) f0 tl tp) := (by unfold mkC; rw [if_pos h18, if_neg h34]; exact hD)
      exact W.iret (v := (-2)) hx hb hr (fun tt9 ht9 hW9 => ⟨⟨_, (), rfl, (by unfold mkC; rw [if_pos h18, if_neg h34]), ⟨by rw [ht9]; exact hP9, hD9⟩⟩, hS.F ht9⟩) hS.2.2 d_Tree_make_39
  · refine lv_iload hx hb d_Tree_make_21 (lv_at hl 0 rfl) ?_
    have hP9 : va_P D cl5 (wT g k L ((mkC L u d w (if b then 2 else 1)).2) f0 tl tp) H := (by unfold mkC; rw [if_neg h18]; exact hP)
    have hD9 : va_D A (wT g k L ((mkC L u d w (if b then 2 else 1)).2) f0 tl tp) := (by unfold mkC; rw [if_neg h18]; exact hD)
    exact W.iret (v := kfl (iK L (dNow u) d) 2) hx hb hr (fun tt9 ht9 hW9 => ⟨⟨_, (), rfl, (by unfold mkC; rw [if_neg h18]), ⟨by rw [ht9]; exact hP9, hD9⟩⟩, hS.F ht9⟩) hS.2.2 d_Tree_make_23
theorem d_Tree_write_0 : decode b_Tree_write 0 = .ok (.iload_n 1, 1) := by decide +kernel
theorem d_Tree_write_1 : decode b_Tree_write 1 = .ok (.invokestatic 66, 3) := by decide +kernel
theorem d_Tree_write_4 : decode b_Tree_write 4 = .ok (.aload_n 0, 1) := by decide +kernel
theorem d_Tree_write_5 : decode b_Tree_write 5 = .ok (.getfield 40, 3) := by decide +kernel
theorem d_Tree_write_8 : decode b_Tree_write 8 = .ok (.istore_n 3, 1) := by decide +kernel
theorem d_Tree_write_9 : decode b_Tree_write 9 = .ok (.aload_n 0, 1) := by decide +kernel
theorem d_Tree_write_10 : decode b_Tree_write 10 = .ok (.iconst 0, 1) := by decide +kernel
theorem d_Tree_write_11 : decode b_Tree_write 11 = .ok (.putfield 40, 3) := by decide +kernel
theorem d_Tree_write_14 : decode b_Tree_write 14 = .ok (.aload_n 0, 1) := by decide +kernel
theorem d_Tree_write_15 : decode b_Tree_write 15 = .ok (.iload_n 1, 1) := by decide +kernel
theorem d_Tree_write_16 : decode b_Tree_write 16 = .ok (.iconst 1, 1) := by decide +kernel
theorem d_Tree_write_17 : decode b_Tree_write 17 = .ok (.invokevirtual 72, 3) := by decide +kernel
theorem d_Tree_write_20 : decode b_Tree_write 20 = .ok (.istore 4, 2) := by decide +kernel
theorem d_Tree_write_22 : decode b_Tree_write 22 = .ok (.iload 4, 2) := by decide +kernel
theorem d_Tree_write_24 : decode b_Tree_write 24 = .ok (.ifCond .ge 6, 3) := by decide +kernel
theorem d_Tree_write_27 : decode b_Tree_write 27 = .ok (.iload 4, 2) := by decide +kernel
theorem d_Tree_write_29 : decode b_Tree_write 29 = .ok (.ireturn, 1) := by decide +kernel
theorem d_Tree_write_30 : decode b_Tree_write 30 = .ok (.aload_n 0, 1) := by decide +kernel
theorem d_Tree_write_31 : decode b_Tree_write 31 = .ok (.getfield 23, 3) := by decide +kernel
theorem d_Tree_write_34 : decode b_Tree_write 34 = .ok (.iload_n 1, 1) := by decide +kernel
theorem d_Tree_write_35 : decode b_Tree_write 35 = .ok (.invokevirtual 97, 3) := by decide +kernel
theorem d_Tree_write_38 : decode b_Tree_write 38 = .ok (.istore 5, 2) := by decide +kernel
theorem d_Tree_write_40 : decode b_Tree_write 40 = .ok (.iload_n 2, 1) := by decide +kernel
theorem d_Tree_write_41 : decode b_Tree_write 41 = .ok (.ifCond .lt 9, 3) := by decide +kernel
theorem d_Tree_write_44 : decode b_Tree_write 44 = .ok (.iload_n 2, 1) := by decide +kernel
theorem d_Tree_write_45 : decode b_Tree_write 45 = .ok (.iload 5, 2) := by decide +kernel
theorem d_Tree_write_47 : decode b_Tree_write 47 = .ok (.if_icmp .le 6, 3) := by decide +kernel
theorem d_Tree_write_50 : decode b_Tree_write 50 = .ok (.bipush (-8), 2) := by decide +kernel
theorem d_Tree_write_52 : decode b_Tree_write 52 = .ok (.ireturn, 1) := by decide +kernel
theorem d_Tree_write_53 : decode b_Tree_write 53 = .ok (.iload 5, 2) := by decide +kernel
theorem d_Tree_write_55 : decode b_Tree_write 55 = .ok (.iload_n 2, 1) := by decide +kernel
theorem d_Tree_write_56 : decode b_Tree_write 56 = .ok (.iload_n 3, 1) := by decide +kernel
theorem d_Tree_write_57 : decode b_Tree_write 57 = .ok (.iadd, 1) := by decide +kernel
theorem d_Tree_write_58 : decode b_Tree_write 58 = .ok (.invokestatic 100, 3) := by decide +kernel
theorem d_Tree_write_61 : decode b_Tree_write 61 = .ok (.istore 6, 2) := by decide +kernel
theorem d_Tree_write_63 : decode b_Tree_write 63 = .ok (.aload_n 0, 1) := by decide +kernel
theorem d_Tree_write_64 : decode b_Tree_write 64 = .ok (.getfield 23, 3) := by decide +kernel
theorem d_Tree_write_67 : decode b_Tree_write 67 = .ok (.iload_n 1, 1) := by decide +kernel
theorem d_Tree_write_68 : decode b_Tree_write 68 = .ok (.iload 6, 2) := by decide +kernel
theorem d_Tree_write_70 : decode b_Tree_write 70 = .ok (.invokevirtual 105, 3) := by decide +kernel
theorem d_Tree_write_73 : decode b_Tree_write 73 = .ok (.ifCond .ne 13, 3) := by decide +kernel
theorem d_Tree_write_76 : decode b_Tree_write 76 = .ok (.aload_n 0, 1) := by decide +kernel
theorem d_Tree_write_77 : decode b_Tree_write 77 = .ok (.getfield 12, 3) := by decide +kernel
theorem d_Tree_write_80 : decode b_Tree_write 80 = .ok (.invokevirtual 87, 3) := by decide +kernel
theorem d_Tree_write_83 : decode b_Tree_write 83 = .ok (.bipush (-4), 2) := by decide +kernel
theorem d_Tree_write_85 : decode b_Tree_write 85 = .ok (.ireturn, 1) := by decide +kernel
theorem d_Tree_write_86 : decode b_Tree_write 86 = .ok (.iconst 0, 1) := by decide +kernel
theorem d_Tree_write_87 : decode b_Tree_write 87 = .ok (.istore 7, 2) := by decide +kernel
theorem d_Tree_write_89 : decode b_Tree_write 89 = .ok (.iload 7, 2) := by decide +kernel
theorem d_Tree_write_91 : decode b_Tree_write 91 = .ok (.iload_n 3, 1) := by decide +kernel
theorem d_Tree_write_92 : decode b_Tree_write 92 = .ok (.if_icmp .ge 35, 3) := by decide +kernel
theorem d_Tree_write_95 : decode b_Tree_write 95 = .ok (.aload_n 0, 1) := by decide +kernel
theorem d_Tree_write_96 : decode b_Tree_write 96 = .ok (.getfield 12, 3) := by decide +kernel
theorem d_Tree_write_99 : decode b_Tree_write 99 = .ok (.aload_n 0, 1) := by decide +kernel
theorem d_Tree_write_100 : decode b_Tree_write 100 = .ok (.getfield 23, 3) := by decide +kernel
theorem d_Tree_write_103 : decode b_Tree_write 103 = .ok (.iload_n 1, 1) := by decide +kernel
theorem d_Tree_write_104 : decode b_Tree_write 104 = .ok (.iload_n 2, 1) := by decide +kernel
theorem d_Tree_write_105 : decode b_Tree_write 105 = .ok (.iload 7, 2) := by decide +kernel
theorem d_Tree_write_107 : decode b_Tree_write 107 = .ok (.iadd, 1) := by decide +kernel
theorem d_Tree_write_108 : decode b_Tree_write 108 = .ok (.invokevirtual 109, 3) := by decide +kernel
theorem d_Tree_write_111 : decode b_Tree_write 111 = .ok (.aload_n 0, 1) := by decide +kernel
theorem d_Tree_write_112 : decode b_Tree_write 112 = .ok (.getfield 36, 3) := by decide +kernel
theorem d_Tree_write_115 : decode b_Tree_write 115 = .ok (.iload 7, 2) := by decide +kernel
theorem d_Tree_write_117 : decode b_Tree_write 117 = .ok (.iaload, 1) := by decide +kernel
theorem d_Tree_write_118 : decode b_Tree_write 118 = .ok (.invokevirtual 112, 3) := by decide +kernel
theorem d_Tree_write_121 : decode b_Tree_write 121 = .ok (.iinc 7 1, 3) := by decide +kernel
theorem d_Tree_write_124 : decode b_Tree_write 124 = .ok (.goto (-35), 3) := by decide +kernel
theorem d_Tree_write_127 : decode b_Tree_write 127 = .ok (.aload_n 0, 1) := by decide +kernel
theorem d_Tree_write_128 : decode b_Tree_write 128 = .ok (.getfield 12, 3) := by decide +kernel
theorem d_Tree_write_131 : decode b_Tree_write 131 = .ok (.invokevirtual 48, 3) := by decide +kernel
theorem d_Tree_write_134 : decode b_Tree_write 134 = .ok (.iload 6, 2) := by decide +kernel
theorem d_Tree_write_136 : decode b_Tree_write 136 = .ok (.ireturn, 1) := by decide +kernel
set_option maxHeartbeats 4000000 in
set_option maxRecDepth 100000 in
theorem c_Tree_write (l : Launch) (D : va_G) (g : Nat → Nat) (k : Nat → ClassId) (L : Nat) (hL0 : 96 ≤ L) (hL : L ≤ 768) (u : DSt) (f0 : Nat → Int32) (tl : Nat) (tp : Nat → Int32) (i : Nat) (x : Int32) (hi0 : i < 64) (ht0 : tl ≤ 512) : MuI l y_Tree_write w_Tree_write ({ frames := 8, cells := 0, slots := 0, locals := 179 }) [.ref (g 9), .int (nI i), .int (x)] D cl5 (tyC k) (wT g k L u f0 tl tp) (wT g k L ((wrC L u i x tl tp).2) f0 0 tp) ((wrC L u i x tl tp).1) := by
  intro sz
  refine Met.ofW (cc := b_Tree_write) (maxL := 8) (ret := (some .int)) (by decide) rfl ?_
  intro p e s m args below meth c s₁ B hml hv
  obtain ⟨rfl, hsz, hP, hK, hD0⟩ := hv
  have hx := B.exec
  have hb := B.bytes
  have hr := B.returns
  have hts := atoms_spec (ws := w_Tree_write) B.pre
  have hTB : ∀ w ∈ lw_tb, w.before _ s = true := fun w h => hts w (List.mem_cons_of_mem _ h)
  have hown : s.vm.findClass R_Tree = some m.cls := findClass_of_methodNamed B.named
  have hlocks := B.notSynchronized
  subst hsz
  have hD := hD0.self (sz := s.heap.size)
  generalize hAe : va_A (wT g k L u f0 tl tp) s.heap.size = A at hD ⊢
  have hA : ∀ q : Nat, s.heap.size ≤ q → A q := fun q h => by rw [← hAe]; exact Or.inr h
  have hS : va_S A s.heap s.heap [] := va_S.rf
  have hl := lv_entry ([.ref (g 9), .int (nI i), .int (x)]) (n := 8) (Nat.le_of_ble_eq_true rfl)
  rw [lg_entry_eq]
  generalize (lg_sl ([.ref (g 9), .int (nI i), .int (x)]) ++ List.replicate (8 - (lg_sl ([.ref (g 9), .int (nI i), .int (x)])).length) Slot.unset).toArray = ls at hl ⊢
  have hl : lv_has ls 8 [(0, .ref (g 9)), (1, .int (nI i)), (2, .int (x))] := hl
  refine lv_iload_n hx hb d_Tree_write_0 rfl (lv_at hl 1 rfl) ?_
  refine gz_roSv (As := [.int (nI i)]) (rest := []) ⟨hx, hb, hml, hown, hTB⟩ (c_Tree_checkInode l i (by omega)) (cwS 1 hTB (gd_S k_327 k_328 k_51 k_329) rfl rfl rfl (by decide +kernel) ⟨Nat.le_of_ble_eq_true rfl, Nat.le_of_ble_eq_true rfl⟩) hP rfl hl.1 rfl (Nat.le_of_ble_eq_true rfl) d_Tree_write_1 ⟨Nat.zero_le _, Nat.zero_le _⟩ hS (fun H locs hP hS => ?_)
  refine lv_aload_n hx hb d_Tree_write_4 rfl (lv_at hl 0 rfl) ?_
  refine va_get (D := D) (ci := 3) (v := .int (nI tl)) (C := R_Tree) (T := T_Tree) (N := 5) hx hb hTB in_Tree hown hK hP 0 rfl rfl 4 (by decide) (hTB _ k_199) (fun _ h9 => h9) rfl d_Tree_write_5 ?_
  refine lv_istore_n (lv' := [(3, .int (nI tl)), (0, .ref (g 9)), (1, .int (nI i)), (2, .int (x))]) hx hb d_Tree_write_8 rfl hl (by decide) rfl (fun ls hl => ?_)
  refine lv_aload_n hx hb d_Tree_write_9 rfl (lv_at hl 1 rfl) ?_
  refine lv_iconst (v := nI 0) hx hb d_Tree_write_10 (by decide +kernel) ?_
  refine va_put (D := D) (ci := 3) (v := .int (nI 0)) (ty := .int) (C := R_Tree) (T := T_Tree) (N := 5) hx hb hTB in_Tree t_Tree t_Tree_ok n_Tree hown hK hP hD hS 0 rfl rfl 4 (by decide) (hTB _ k_199) (fun _ h9 => h9) rfl (by decide +kernel) rfl rfl (Nat.le_of_ble_eq_true rfl) d_Tree_write_11 (fun H locs hP hD hS => ?_)
  have hP : va_P D cl5 (wT g k L u f0 0 tp) H := hP
  have hD : va_D A (wT g k L u f0 0 tp) := hD
  refine lv_aload_n hx hb d_Tree_write_14 rfl (lv_at hl 1 rfl) ?_
  refine lv_iload_n hx hb d_Tree_write_15 rfl (lv_at hl 2 rfl) ?_
  refine lv_iconst (v := nI 1) hx hb d_Tree_write_16 (by decide +kernel) ?_
  refine gz_roV (As := [.int (nI i), .int (nI 1)]) (rest := []) (wc := (wT g k L u f0 0 tp)) ⟨hx, hb, hml, hown, hTB⟩ (c_Tree_kindFault l D g k L hL0 hL u f0 0 tp i 1 (by decide)) (cwV 2 hTB (gd_V k_336 k_338 k_8 k_51 k_339) rfl rfl rfl (by decide +kernel) ⟨Nat.le_of_ble_eq_true rfl, Nat.le_of_ble_eq_true rfl⟩) hK hP [0, 1, 2, 3, 4, 5, 6, 7, 8, 9, 10] rfl 0 rfl rfl rfl hl.1 rfl (Nat.le_of_ble_eq_true rfl) d_Tree_write_17 ⟨Nat.zero_le _, Nat.zero_le _⟩ hS (fun H locs hP hS => ?_)
  refine lv_istore (lv' := [(4, .int (kfl (iK L (dNow u) i) 1)), (3, .int (nI tl)), (0, .ref (g 9)), (1, .int (nI i)), (2, .int (x))]) hx hb d_Tree_write_20 hl (by decide) rfl (fun ls hl => ?_)
  refine lv_iload hx hb d_Tree_write_22 (lv_at hl 0 rfl) ?_
  refine lv_if_ge (tgt := 30) hx hb d_Tree_write_24 (by decide) (fun h24 => ?_) (fun h24 => ?_)
  · refine lv_aload_n hx hb d_Tree_write_30 rfl (lv_at hl 2 rfl) ?_
    refine va_get (D := D) (ci := 3) (v := .ref (g 6)) (C := R_Tree) (T := T_Tree) (N := 5) hx hb hTB in_Tree hown hK hP 0 rfl rfl 1 (by decide) (hTB _ k_196) (fun _ h9 => h9) rfl d_Tree_write_31 ?_
    refine lv_iload_n hx hb d_Tree_write_34 rfl (lv_at hl 3 rfl) ?_
    refine gz_roV (As := [.int (nI i)]) (rest := []) (wc := (wI g k L u)) ⟨hx, hb, hml, hown, hTB⟩ (c_Inodes_size l D g k L hL0 hL u i) (cwV 1 hTB (gd_V k_462 k_353 k_354 k_54 k_355) rfl rfl rfl (by decide +kernel) ⟨Nat.le_of_ble_eq_true rfl, Nat.le_of_ble_eq_true rfl⟩) hK hP [4, 5, 6, 7, 8, 9, 10] rfl 4 rfl rfl rfl hl.1 rfl (Nat.le_of_ble_eq_true rfl) d_Tree_write_35 ⟨Nat.zero_le _, Nat.zero_le _⟩ hS (fun H locs hP hS => ?_)
    have := iS_lt L (dNow u) i
    refine lv_istore (lv' := [(5, .int (nI (iS L (dNow u) i))), (4, .int (kfl (iK L (dNow u) i) 1)), (3, .int (nI tl)), (0, .ref (g 9)), (1, .int (nI i)), (2, .int (x))]) hx hb d_Tree_write_38 hl (by decide) rfl (fun ls hl => ?_)
    refine lv_iload_n hx hb d_Tree_write_40 rfl (lv_at hl 5 rfl) ?_
    refine lv_if_lt (tgt := 50) hx hb d_Tree_write_41 (by decide) (fun h41 => ?_) (fun h41 => ?_)
    · refine lv_bipush (v := (-8)) hx hb d_Tree_write_50 (by decide +kernel) ?_
      have hP9 : va_P D cl5 (wT g k L ((wrC L u i x tl tp).2) f0 0 tp) H := (by unfold wrC; rw [if_pos h24, if_pos (Or.inl h41)]; exact hP)
      have hD9 : va_D A (wT g k L ((wrC L u i x tl tp).2) f0 0 tp) := (by unfold wrC; rw [if_pos h24, if_pos (Or.inl h41)]; exact hD)
      exact W.iret (v := (-8)) hx hb hr (fun tt9 ht9 hW9 => ⟨⟨_, (), rfl, (by unfold wrC; rw [if_pos h24, if_pos (Or.inl h41)]), ⟨by rw [ht9]; exact hP9, hD9⟩⟩, hS.F ht9⟩) hS.2.2 d_Tree_write_52
    · obtain ⟨t, ht, rfl⟩ := nI_of h41
      refine lv_iload_n hx hb d_Tree_write_44 rfl (lv_at hl 5 rfl) ?_
      refine lv_iload hx hb d_Tree_write_45 (lv_at hl 0 rfl) ?_
      refine gz_icmp_le (tgt := 53) hx hb d_Tree_write_47 (by decide) (by omega) (by omega) (fun h47 => ?_) (fun h47 => ?_)
      · refine lv_iload hx hb d_Tree_write_53 (lv_at hl 0 rfl) ?_
        refine lv_iload_n hx hb d_Tree_write_55 rfl (lv_at hl 5 rfl) ?_
        refine lv_iload_n hx hb d_Tree_write_56 rfl (lv_at hl 2 rfl) ?_
        refine gz_iadd hx hb d_Tree_write_57 ?_
        refine gz_mmax hx hb (hml.trans hl.1.symm) hown (hTB _ k_463) (hTB _ k_464) (hTB _ k_62) (hTB _ k_465) (Nat.le_of_ble_eq_true rfl) (Nat.le_of_ble_eq_true rfl) (Nat.zero_le _) (Nat.zero_le _) (by omega) (by omega) d_Tree_write_58 ?_
        refine lv_istore (lv' := [(6, .int (nI (max (iS L (dNow u) i) (t + tl)))), (5, .int (nI (iS L (dNow u) i))), (4, .int (kfl (iK L (dNow u) i) 1)), (3, .int (nI tl)), (0, .ref (g 9)), (1, .int (nI i)), (2, .int (nI t))]) hx hb d_Tree_write_61 hl (by decide) rfl (fun ls hl => ?_)
        refine lv_aload_n hx hb d_Tree_write_63 rfl (lv_at hl 4 rfl) ?_
        refine va_get (D := D) (ci := 3) (v := .ref (g 6)) (C := R_Tree) (T := T_Tree) (N := 5) hx hb hTB in_Tree hown hK hP 0 rfl rfl 1 (by decide) (hTB _ k_196) (fun _ h9 => h9) rfl d_Tree_write_64 ?_
        refine lv_iload_n hx hb d_Tree_write_67 rfl (lv_at hl 5 rfl) ?_
        refine lv_iload hx hb d_Tree_write_68 (lv_at hl 0 rfl) ?_
        refine gz_muI (As := [.int (nI i), .int (nI (max (iS L (dNow u) i) (t + tl)))]) (rest := []) (wc := (wI g k L u)) (w1 := (wI g k L ((rsz L u i (max (iS L (dNow u) i) (t + tl))).2))) (wr := (hT g k 0 tp ++ hR g k f0)) ⟨hx, hb, hml, hown, hTB⟩ (c_Inodes_resize l D g k L hL0 hL u i (max (iS L (dNow u) i) (t + tl)) (by omega)) (cwV 2 hTB (gd_V k_466 k_392 k_393 k_54 k_394) rfl rfl rfl (by decide +kernel) ⟨Nat.le_of_ble_eq_true rfl, Nat.le_of_ble_eq_true rfl⟩) hK hP hD hA [4, 5, 6, 7, 8, 9, 10] [0, 1, 2, 3] rfl rfl (by decide) rfl (by decide) (by decide) 4 rfl rfl rfl hl.1 rfl (Nat.le_of_ble_eq_true rfl) d_Tree_write_70 ⟨Nat.zero_le _, Nat.zero_le _⟩ hS (fun H locs hP hD hS => ?_)
        have hP : va_P D cl5 (wT g k L ((rsz L u i (max (iS L (dNow u) i) (t + tl))).2) f0 0 tp) H := hP
        have hD : va_D A (wT g k L ((rsz L u i (max (iS L (dNow u) i) (t + tl))).2) f0 0 tp) := hD
        refine gz_ifz_ne (tgt := 86) hx hb d_Tree_write_73 (by decide) (fun h73 => ?_) (fun h73 => ?_)
        · refine lv_iconst (v := nI 0) hx hb d_Tree_write_86 (by decide +kernel) ?_
          refine lv_istore (lv' := [(7, .int (nI 0)), (6, .int (nI (max (iS L (dNow u) i) (t + tl)))), (5, .int (nI (iS L (dNow u) i))), (4, .int (kfl (iK L (dNow u) i) 1)), (3, .int (nI tl)), (0, .ref (g 9)), (1, .int (nI i)), (2, .int (nI t))]) hx hb d_Tree_write_87 hl (by decide) rfl (fun ls hl => ?_)
          refine gz_loop 89 (fun (zz : (Nat × DSt)) H locs ls => match zz with | (j, v) => va_P D cl5 (wT g k L v f0 0 tp) H ∧ va_D A (wT g k L v f0 0 tp) ∧ va_S A s.heap H locs ∧ lv_has ls 8 [(0, .ref (g 9)), (1, .int (nI i)), (2, .int (nI t)), (3, .int (nI tl)), (6, .int (nI (max (iS L (dNow u) i) (t + tl)))), (7, .int (nI j))] ∧ (j ≤ tl) ∧ (wrG L i t tp (tl - j) j v = wrG L i t tp tl 0 (rsz L u i (max (iS L (dNow u) i) (t + tl))).2)) (fun (zz : (Nat × DSt)) => match zz with | (j, v) => tl - j) (fun zz H locs ls hI ih89 => ?_) (0, (rsz L u i (max (iS L (dNow u) i) (t + tl))).2) ⟨hP, hD, hS, lv_sub hl [5, 6, 7, 4, 1, 0] rfl, (by omega), rfl⟩
          obtain ⟨j, v⟩ := zz
          obtain ⟨hP, hD, hS, hl, hj1, hj2⟩ := hI
          refine lv_iload hx hb d_Tree_write_89 (lv_at hl 5 rfl) ?_
          refine lv_iload_n hx hb d_Tree_write_91 rfl (lv_at hl 3 rfl) ?_
          refine gz_icmp_ge (tgt := 127) hx hb d_Tree_write_92 (by decide) (by omega) (by omega) (fun h92 => ?_) (fun h92 => ?_)
          · rw [show tl - j = 0 by omega] at hj2
            have hj2 : v = _ := hj2
            refine lv_aload_n hx hb d_Tree_write_127 rfl (lv_at hl 0 rfl) ?_
            refine va_get (D := D) (ci := 3) (v := .ref (g 0)) (C := R_Tree) (T := T_Tree) (N := 5) hx hb hTB in_Tree hown hK hP 0 rfl rfl 0 (by decide) (hTB _ k_195) (fun _ h9 => h9) rfl d_Tree_write_128 ?_
            refine gz_muV (As := []) (rest := []) (wc := (wD g k L v)) (w1 := (wD g k L (stl L v))) (wr := (hT g k 0 tp ++ (hR g k f0 ++ hI g))) ⟨hx, hb, hml, hown, hTB⟩ (c_Disk_settle l D g k L hL0 hL v) (cwV 0 hTB (gd_V k_156 k_157 k_158 k_52 k_159) rfl rfl rfl (by decide +kernel) ⟨Nat.le_of_ble_eq_true rfl, Nat.le_of_ble_eq_true rfl⟩) hK hP hD hA [5, 6, 7, 8, 9, 10] [0, 1, 2, 3, 4] rfl rfl (by decide) rfl (by decide) (by decide) 5 rfl rfl rfl hl.1 rfl (Nat.le_of_ble_eq_true rfl) d_Tree_write_131 ⟨Nat.zero_le _, Nat.zero_le _⟩ hS (fun H locs hP hD hS => ?_)
            have hP : va_P D cl5 (wT g k L (stl L v) f0 0 tp) H := hP
            have hD : va_D A (wT g k L (stl L v) f0 0 tp) := hD
            refine lv_iload hx hb d_Tree_write_134 (lv_at hl 4 rfl) ?_
            have hP9 : va_P D cl5 (wT g k L ((wrC L u i (nI t) tl tp).2) f0 0 tp) H := (by unfold wrC; rw [if_pos h24, if_neg (fun z => z.elim (nI_pos (by omega)) (nI_nlt h47 (by omega))), nI_clamp (by omega)]; unfold wrN; rw [if_pos h73, ← hj2]; exact hP)
            have hD9 : va_D A (wT g k L ((wrC L u i (nI t) tl tp).2) f0 0 tp) := (by unfold wrC; rw [if_pos h24, if_neg (fun z => z.elim (nI_pos (by omega)) (nI_nlt h47 (by omega))), nI_clamp (by omega)]; unfold wrN; rw [if_pos h73, ← hj2]; exact hD)
            exact W.iret (v := nI (max (iS L (dNow u) i) (t + tl))) hx hb hr (fun tt9 ht9 hW9 => ⟨⟨_, (), rfl, (by unfold wrC; rw [if_pos h24, if_neg (fun z => z.elim (nI_pos (by omega)) (nI_nlt h47 (by omega))), nI_clamp (by omega)]; unfold wrN; rw [if_pos h73, ← hj2]), ⟨by rw [ht9]; exact hP9, hD9⟩⟩, hS.F ht9⟩) hS.2.2 d_Tree_write_136
          · refine lv_aload_n hx hb d_Tree_write_95 rfl (lv_at hl 0 rfl) ?_
            refine va_get (D := D) (ci := 3) (v := .ref (g 0)) (C := R_Tree) (T := T_Tree) (N := 5) hx hb hTB in_Tree hown hK hP 0 rfl rfl 0 (by decide) (hTB _ k_195) (fun _ h9 => h9) rfl d_Tree_write_96 ?_
            refine lv_aload_n hx hb d_Tree_write_99 rfl (lv_at hl 0 rfl) ?_
            refine va_get (D := D) (ci := 3) (v := .ref (g 6)) (C := R_Tree) (T := T_Tree) (N := 5) hx hb hTB in_Tree hown hK hP 0 rfl rfl 1 (by decide) (hTB _ k_196) (fun _ h9 => h9) rfl d_Tree_write_100 ?_
            refine lv_iload_n hx hb d_Tree_write_103 rfl (lv_at hl 1 rfl) ?_
            refine lv_iload_n hx hb d_Tree_write_104 rfl (lv_at hl 2 rfl) ?_
            refine lv_iload hx hb d_Tree_write_105 (lv_at hl 5 rfl) ?_
            refine gz_iadd hx hb d_Tree_write_107 ?_
            refine gz_roV (As := [.int (nI i), .int (nI (t + j))]) (rest := [.ref (g 0)]) (wc := (wI g k L v)) ⟨hx, hb, hml, hown, hTB⟩ (c_Inodes_placeOf l D g k L hL0 hL v i (t + j) (by omega)) (cwV 2 hTB (gd_V k_467 k_362 k_363 k_54 k_364) rfl rfl rfl (by decide +kernel) ⟨Nat.le_of_ble_eq_true rfl, Nat.le_of_ble_eq_true rfl⟩) hK hP [4, 5, 6, 7, 8, 9, 10] rfl 4 rfl rfl rfl hl.1 rfl (Nat.le_of_ble_eq_true rfl) d_Tree_write_108 ⟨Nat.zero_le _, Nat.zero_le _⟩ hS (fun H locs hP hS => ?_)
            refine lv_aload_n hx hb d_Tree_write_111 rfl (lv_at hl 0 rfl) ?_
            refine va_get (D := D) (ci := 3) (v := .ref (g 10)) (C := R_Tree) (T := T_Tree) (N := 5) hx hb hTB in_Tree hown hK hP 0 rfl rfl 3 (by decide) (hTB _ k_198) (fun _ h9 => h9) rfl d_Tree_write_112 ?_
            refine lv_iload hx hb d_Tree_write_115 (lv_at hl 5 rfl) ?_
            refine gz_iald hx hb hK hP 1 2 rfl rfl (i := j) (by omega) (by omega) d_Tree_write_117 ?_
            refine gz_muV (As := [.int (plc L (dNow v) i (t + j)), .int (tp j)]) (rest := []) (wc := (wD g k L v)) (w1 := (wD g k L (setB L v (plc L (dNow v) i (t + j)) (tp j)))) (wr := (hT g k 0 tp ++ (hR g k f0 ++ hI g))) ⟨hx, hb, hml, hown, hTB⟩ (c_Disk_setByte l D g k L hL0 hL v (plc L (dNow v) i (t + j)) (tp j)) (cwV 2 hTB (gd_V k_468 k_151 k_152 k_52 k_153) rfl rfl rfl (by decide +kernel) ⟨Nat.le_of_ble_eq_true rfl, Nat.le_of_ble_eq_true rfl⟩) hK hP hD hA [5, 6, 7, 8, 9, 10] [0, 1, 2, 3, 4] rfl rfl (by decide) rfl (by decide) (by decide) 5 rfl rfl rfl hl.1 rfl (Nat.le_of_ble_eq_true rfl) d_Tree_write_118 ⟨Nat.zero_le _, Nat.zero_le _⟩ hS (fun H locs hP hD hS => ?_)
            have hP : va_P D cl5 (wT g k L (setB L v (plc L (dNow v) i (t + j)) (tp j)) f0 0 tp) H := hP
            have hD : va_D A (wT g k L (setB L v (plc L (dNow v) i (t + j)) (tp j)) f0 0 tp) := hD
            refine lv_iinc (v := nI (j + 1)) (lv' := [(7, .int (nI (j + 1))), (0, .ref (g 9)), (1, .int (nI i)), (2, .int (nI t)), (3, .int (nI tl)), (6, .int (nI (max (iS L (dNow u) i) (t + tl))))]) hx hb d_Tree_write_121 hl (k := 5) rfl (nI_add j 1) (by decide) rfl (fun ls hl => ?_)
            refine lv_goto (tgt := 89) hx hb d_Tree_write_124 (by decide) ?_
            exact ih89 (j + 1, setB L v (plc L (dNow v) i (t + j)) (tp j)) _ _ _ (by first | omega | (dsimp only; omega)) ⟨hP, hD, hS, lv_sub hl [1, 2, 3, 4, 5, 0] rfl, (by omega), (by rw [← hj2, show tl - j = (tl - (j + 1)) + 1 by omega, wrG])⟩
        · refine lv_aload_n hx hb d_Tree_write_76 rfl (lv_at hl 4 rfl) ?_
          refine va_get (D := D) (ci := 3) (v := .ref (g 0)) (C := R_Tree) (T := T_Tree) (N := 5) hx hb hTB in_Tree hown hK hP 0 rfl rfl 0 (by decide) (hTB _ k_195) (fun _ h9 => h9) rfl d_Tree_write_77 ?_
          refine gz_muV (As := []) (rest := []) (wc := (wD g k L ((rsz L u i (max (iS L (dNow u) i) (t + tl))).2))) (w1 := (wD g k L (und L ((rsz L u i (max (iS L (dNow u) i) (t + tl))).2)))) (wr := (hT g k 0 tp ++ (hR g k f0 ++ hI g))) ⟨hx, hb, hml, hown, hTB⟩ (c_Disk_undo l D g k L hL0 hL ((rsz L u i (max (iS L (dNow u) i) (t + tl))).2)) (cwV 0 hTB (gd_V k_435 k_436 k_437 k_52 k_438) rfl rfl rfl (by decide +kernel) ⟨Nat.le_of_ble_eq_true rfl, Nat.le_of_ble_eq_true rfl⟩) hK hP hD hA [5, 6, 7, 8, 9, 10] [0, 1, 2, 3, 4] rfl rfl (by decide) rfl (by decide) (by decide) 5 rfl rfl rfl hl.1 rfl (Nat.le_of_ble_eq_true rfl) d_Tree_write_80 ⟨Nat.zero_le _, Nat.zero_le _⟩ hS (fun H locs hP hD hS => ?_)
          have hP : va_P D cl5 (wT g k L (und L ((rsz L u i (max (iS L (dNow u) i) (t + tl))).2)) f0 0 tp) H := hP
          have hD : va_D A (wT g k L (und L ((rsz L u i (max (iS L (dNow u) i) (t + tl))).2)) f0 0 tp) := hD
          refine lv_bipush (v := (-4)) hx hb d_Tree_write_83 (by decide +kernel) ?_
          have hP9 : va_P D cl5 (wT g k L ((wrC L u i (nI t) tl tp).2) f0 0 tp) H := (by unfold wrC; rw [if_pos h24, if_neg (fun z => z.elim (nI_pos (by omega)) (nI_nlt h47 (by omega))), nI_clamp (by omega)]; unfold wrN; rw [if_neg (by rw [h73]; decide)]; exact hP)
          have hD9 : va_D A (wT g k L ((wrC L u i (nI t) tl tp).2) f0 0 tp) := (by unfold wrC; rw [if_pos h24, if_neg (fun z => z.elim (nI_pos (by omega)) (nI_nlt h47 (by omega))), nI_clamp (by omega)]; unfold wrN; rw [if_neg (by rw [h73]; decide)]; exact hD)
          exact W.iret (v := (-4)) hx hb hr (fun tt9 ht9 hW9 => ⟨⟨_, (), rfl, (by unfold wrC; rw [if_pos h24, if_neg (fun z => z.elim (nI_pos (by omega)) (nI_nlt h47 (by omega))), nI_clamp (by omega)]; unfold wrN; rw [if_neg (by rw [h73]; decide)]), ⟨by rw [ht9]; exact hP9, hD9⟩⟩, hS.F ht9⟩) hS.2.2 d_Tree_write_85
      · refine lv_bipush (v := (-8)) hx hb d_Tree_write_50 (by decide +kernel) ?_
        have hP9 : va_P D cl5 (wT g k L ((wrC L u i (nI t) tl tp).2) f0 0 tp) H := (by unfold wrC; rw [if_pos h24, if_pos (Or.inr (nI_lt h47 (by omega)))]; exact hP)
        have hD9 : va_D A (wT g k L ((wrC L u i (nI t) tl tp).2) f0 0 tp) := (by unfold wrC; rw [if_pos h24, if_pos (Or.inr (nI_lt h47 (by omega)))]; exact hD)
        exact W.iret (v := (-8)) hx hb hr (fun tt9 ht9 hW9 => ⟨⟨_, (), rfl, (by unfold wrC; rw [if_pos h24, if_pos (Or.inr (nI_lt h47 (by omega)))]), ⟨by rw [ht9]; exact hP9, hD9⟩⟩, hS.F ht9⟩) hS.2.2 d_Tree_write_52
  · refine lv_iload hx hb d_Tree_write_27 (lv_at hl 0 rfl) ?_
    have hP9 : va_P D cl5 (wT g k L ((wrC L u i x tl tp).2) f0 0 tp) H := (by unfold wrC; rw [if_neg h24]; exact hP)
    have hD9 : va_D A (wT g k L ((wrC L u i x tl tp).2) f0 0 tp) := (by unfold wrC; rw [if_neg h24]; exact hD)
    exact W.iret (v := kfl (iK L (dNow u) i) 1) hx hb hr (fun tt9 ht9 hW9 => ⟨⟨_, (), rfl, (by unfold wrC; rw [if_neg h24]), ⟨by rw [ht9]; exact hP9, hD9⟩⟩, hS.F ht9⟩) hS.2.2 d_Tree_write_29
theorem d_Tree_cut_0 : decode b_Tree_cut 0 = .ok (.iload_n 1, 1) := by decide +kernel
theorem d_Tree_cut_1 : decode b_Tree_cut 1 = .ok (.invokestatic 66, 3) := by decide +kernel
theorem d_Tree_cut_4 : decode b_Tree_cut 4 = .ok (.aload_n 0, 1) := by decide +kernel
theorem d_Tree_cut_5 : decode b_Tree_cut 5 = .ok (.iload_n 1, 1) := by decide +kernel
theorem d_Tree_cut_6 : decode b_Tree_cut 6 = .ok (.iconst 1, 1) := by decide +kernel
theorem d_Tree_cut_7 : decode b_Tree_cut 7 = .ok (.invokevirtual 72, 3) := by decide +kernel
theorem d_Tree_cut_10 : decode b_Tree_cut 10 = .ok (.istore_n 3, 1) := by decide +kernel
theorem d_Tree_cut_11 : decode b_Tree_cut 11 = .ok (.iload_n 3, 1) := by decide +kernel
theorem d_Tree_cut_12 : decode b_Tree_cut 12 = .ok (.ifCond .ge 5, 3) := by decide +kernel
theorem d_Tree_cut_15 : decode b_Tree_cut 15 = .ok (.iload_n 3, 1) := by decide +kernel
theorem d_Tree_cut_16 : decode b_Tree_cut 16 = .ok (.ireturn, 1) := by decide +kernel
theorem d_Tree_cut_17 : decode b_Tree_cut 17 = .ok (.iload_n 2, 1) := by decide +kernel
theorem d_Tree_cut_18 : decode b_Tree_cut 18 = .ok (.ifCond .lt 19, 3) := by decide +kernel
theorem d_Tree_cut_21 : decode b_Tree_cut 21 = .ok (.iload_n 2, 1) := by decide +kernel
theorem d_Tree_cut_22 : decode b_Tree_cut 22 = .ok (.aload_n 0, 1) := by decide +kernel
theorem d_Tree_cut_23 : decode b_Tree_cut 23 = .ok (.getfield 23, 3) := by decide +kernel
theorem d_Tree_cut_26 : decode b_Tree_cut 26 = .ok (.iload_n 1, 1) := by decide +kernel
theorem d_Tree_cut_27 : decode b_Tree_cut 27 = .ok (.invokevirtual 97, 3) := by decide +kernel
theorem d_Tree_cut_30 : decode b_Tree_cut 30 = .ok (.sipush 1024, 3) := by decide +kernel
theorem d_Tree_cut_33 : decode b_Tree_cut 33 = .ok (.iadd, 1) := by decide +kernel
theorem d_Tree_cut_34 : decode b_Tree_cut 34 = .ok (.if_icmp .le 6, 3) := by decide +kernel
theorem d_Tree_cut_37 : decode b_Tree_cut 37 = .ok (.bipush (-8), 2) := by decide +kernel
theorem d_Tree_cut_39 : decode b_Tree_cut 39 = .ok (.ireturn, 1) := by decide +kernel
theorem d_Tree_cut_40 : decode b_Tree_cut 40 = .ok (.aload_n 0, 1) := by decide +kernel
theorem d_Tree_cut_41 : decode b_Tree_cut 41 = .ok (.getfield 23, 3) := by decide +kernel
theorem d_Tree_cut_44 : decode b_Tree_cut 44 = .ok (.iload_n 1, 1) := by decide +kernel
theorem d_Tree_cut_45 : decode b_Tree_cut 45 = .ok (.iload_n 2, 1) := by decide +kernel
theorem d_Tree_cut_46 : decode b_Tree_cut 46 = .ok (.invokevirtual 105, 3) := by decide +kernel
theorem d_Tree_cut_49 : decode b_Tree_cut 49 = .ok (.ifCond .ne 13, 3) := by decide +kernel
theorem d_Tree_cut_52 : decode b_Tree_cut 52 = .ok (.aload_n 0, 1) := by decide +kernel
theorem d_Tree_cut_53 : decode b_Tree_cut 53 = .ok (.getfield 12, 3) := by decide +kernel
theorem d_Tree_cut_56 : decode b_Tree_cut 56 = .ok (.invokevirtual 87, 3) := by decide +kernel
theorem d_Tree_cut_59 : decode b_Tree_cut 59 = .ok (.bipush (-4), 2) := by decide +kernel
theorem d_Tree_cut_61 : decode b_Tree_cut 61 = .ok (.ireturn, 1) := by decide +kernel
theorem d_Tree_cut_62 : decode b_Tree_cut 62 = .ok (.aload_n 0, 1) := by decide +kernel
theorem d_Tree_cut_63 : decode b_Tree_cut 63 = .ok (.getfield 12, 3) := by decide +kernel
theorem d_Tree_cut_66 : decode b_Tree_cut 66 = .ok (.invokevirtual 48, 3) := by decide +kernel
theorem d_Tree_cut_69 : decode b_Tree_cut 69 = .ok (.iload_n 2, 1) := by decide +kernel
theorem d_Tree_cut_70 : decode b_Tree_cut 70 = .ok (.ireturn, 1) := by decide +kernel
set_option maxHeartbeats 4000000 in
set_option maxRecDepth 100000 in
theorem c_Tree_cut (l : Launch) (D : va_G) (g : Nat → Nat) (k : Nat → ClassId) (L : Nat) (hL0 : 96 ≤ L) (hL : L ≤ 768) (u : DSt) (f0 : Nat → Int32) (tl : Nat) (tp : Nat → Int32) (i : Nat) (x : Int32) (hi0 : i < 64) : MuI l y_Tree_cut w_Tree_cut ({ frames := 8, cells := 0, slots := 0, locals := 179 }) [.ref (g 9), .int (nI i), .int (x)] D cl5 (tyC k) (wT g k L u f0 tl tp) (wT g k L ((ctC L u i x).2) f0 tl tp) ((ctC L u i x).1) := by
  intro sz
  refine Met.ofW (cc := b_Tree_cut) (maxL := 4) (ret := (some .int)) (by decide) rfl ?_
  intro p e s m args below meth c s₁ B hml hv
  obtain ⟨rfl, hsz, hP, hK, hD0⟩ := hv
  have hx := B.exec
  have hb := B.bytes
  have hr := B.returns
  have hts := atoms_spec (ws := w_Tree_cut) B.pre
  have hTB : ∀ w ∈ lw_tb, w.before _ s = true := fun w h => hts w (List.mem_cons_of_mem _ h)
  have hown : s.vm.findClass R_Tree = some m.cls := findClass_of_methodNamed B.named
  have hlocks := B.notSynchronized
  subst hsz
  have hD := hD0.self (sz := s.heap.size)
  generalize hAe : va_A (wT g k L u f0 tl tp) s.heap.size = A at hD ⊢
  have hA : ∀ q : Nat, s.heap.size ≤ q → A q := fun q h => by rw [← hAe]; exact Or.inr h
  have hS : va_S A s.heap s.heap [] := va_S.rf
  have hl := lv_entry ([.ref (g 9), .int (nI i), .int (x)]) (n := 4) (Nat.le_of_ble_eq_true rfl)
  rw [lg_entry_eq]
  generalize (lg_sl ([.ref (g 9), .int (nI i), .int (x)]) ++ List.replicate (4 - (lg_sl ([.ref (g 9), .int (nI i), .int (x)])).length) Slot.unset).toArray = ls at hl ⊢
  have hl : lv_has ls 4 [(0, .ref (g 9)), (1, .int (nI i)), (2, .int (x))] := hl
  refine lv_iload_n hx hb d_Tree_cut_0 rfl (lv_at hl 1 rfl) ?_
  refine gz_roSv (As := [.int (nI i)]) (rest := []) ⟨hx, hb, hml, hown, hTB⟩ (c_Tree_checkInode l i (by omega)) (cwS 1 hTB (gd_S k_327 k_328 k_51 k_329) rfl rfl rfl (by decide +kernel) ⟨Nat.le_of_ble_eq_true rfl, Nat.le_of_ble_eq_true rfl⟩) hP rfl hl.1 rfl (Nat.le_of_ble_eq_true rfl) d_Tree_cut_1 ⟨Nat.zero_le _, Nat.zero_le _⟩ hS (fun H locs hP hS => ?_)
  refine lv_aload_n hx hb d_Tree_cut_4 rfl (lv_at hl 0 rfl) ?_
  refine lv_iload_n hx hb d_Tree_cut_5 rfl (lv_at hl 1 rfl) ?_
  refine lv_iconst (v := nI 1) hx hb d_Tree_cut_6 (by decide +kernel) ?_
  refine gz_roV (As := [.int (nI i), .int (nI 1)]) (rest := []) (wc := (wT g k L u f0 tl tp)) ⟨hx, hb, hml, hown, hTB⟩ (c_Tree_kindFault l D g k L hL0 hL u f0 tl tp i 1 (by decide)) (cwV 2 hTB (gd_V k_336 k_338 k_8 k_51 k_339) rfl rfl rfl (by decide +kernel) ⟨Nat.le_of_ble_eq_true rfl, Nat.le_of_ble_eq_true rfl⟩) hK hP [0, 1, 2, 3, 4, 5, 6, 7, 8, 9, 10] rfl 0 rfl rfl rfl hl.1 rfl (Nat.le_of_ble_eq_true rfl) d_Tree_cut_7 ⟨Nat.zero_le _, Nat.zero_le _⟩ hS (fun H locs hP hS => ?_)
  refine lv_istore_n (lv' := [(3, .int (kfl (iK L (dNow u) i) 1)), (0, .ref (g 9)), (1, .int (nI i)), (2, .int (x))]) hx hb d_Tree_cut_10 rfl hl (by decide) rfl (fun ls hl => ?_)
  refine lv_iload_n hx hb d_Tree_cut_11 rfl (lv_at hl 0 rfl) ?_
  refine lv_if_ge (tgt := 17) hx hb d_Tree_cut_12 (by decide) (fun h12 => ?_) (fun h12 => ?_)
  · refine lv_iload_n hx hb d_Tree_cut_17 rfl (lv_at hl 3 rfl) ?_
    refine lv_if_lt (tgt := 37) hx hb d_Tree_cut_18 (by decide) (fun h18 => ?_) (fun h18 => ?_)
    · refine lv_bipush (v := (-8)) hx hb d_Tree_cut_37 (by decide +kernel) ?_
      have hP9 : va_P D cl5 (wT g k L ((ctC L u i x).2) f0 tl tp) H := (by unfold ctC; rw [if_pos h12, if_pos (Or.inl h18)]; exact hP)
      have hD9 : va_D A (wT g k L ((ctC L u i x).2) f0 tl tp) := (by unfold ctC; rw [if_pos h12, if_pos (Or.inl h18)]; exact hD)
      exact W.iret (v := (-8)) hx hb hr (fun tt9 ht9 hW9 => ⟨⟨_, (), rfl, (by unfold ctC; rw [if_pos h12, if_pos (Or.inl h18)]), ⟨by rw [ht9]; exact hP9, hD9⟩⟩, hS.F ht9⟩) hS.2.2 d_Tree_cut_39
    · obtain ⟨t, ht, rfl⟩ := nI_of h18
      refine lv_iload_n hx hb d_Tree_cut_21 rfl (lv_at hl 3 rfl) ?_
      refine lv_aload_n hx hb d_Tree_cut_22 rfl (lv_at hl 1 rfl) ?_
      refine va_get (D := D) (ci := 3) (v := .ref (g 6)) (C := R_Tree) (T := T_Tree) (N := 5) hx hb hTB in_Tree hown hK hP 0 rfl rfl 1 (by decide) (hTB _ k_196) (fun _ h9 => h9) rfl d_Tree_cut_23 ?_
      refine lv_iload_n hx hb d_Tree_cut_26 rfl (lv_at hl 2 rfl) ?_
      refine gz_roV (As := [.int (nI i)]) (rest := [.int (nI t)]) (wc := (wI g k L u)) ⟨hx, hb, hml, hown, hTB⟩ (c_Inodes_size l D g k L hL0 hL u i) (cwV 1 hTB (gd_V k_462 k_353 k_354 k_54 k_355) rfl rfl rfl (by decide +kernel) ⟨Nat.le_of_ble_eq_true rfl, Nat.le_of_ble_eq_true rfl⟩) hK hP [4, 5, 6, 7, 8, 9, 10] rfl 4 rfl rfl rfl hl.1 rfl (Nat.le_of_ble_eq_true rfl) d_Tree_cut_27 ⟨Nat.zero_le _, Nat.zero_le _⟩ hS (fun H locs hP hS => ?_)
      have := iS_lt L (dNow u) i
      refine lv_sipush (v := nI 1024) hx hb d_Tree_cut_30 (by decide +kernel) ?_
      refine gz_iadd hx hb d_Tree_cut_33 ?_
      refine gz_icmp_le (tgt := 40) hx hb d_Tree_cut_34 (by decide) (by omega) (by omega) (fun h34 => ?_) (fun h34 => ?_)
      · refine lv_aload_n hx hb d_Tree_cut_40 rfl (lv_at hl 1 rfl) ?_
        refine va_get (D := D) (ci := 3) (v := .ref (g 6)) (C := R_Tree) (T := T_Tree) (N := 5) hx hb hTB in_Tree hown hK hP 0 rfl rfl 1 (by decide) (hTB _ k_196) (fun _ h9 => h9) rfl d_Tree_cut_41 ?_
        refine lv_iload_n hx hb d_Tree_cut_44 rfl (lv_at hl 2 rfl) ?_
        refine lv_iload_n hx hb d_Tree_cut_45 rfl (lv_at hl 3 rfl) ?_
        refine gz_muI (As := [.int (nI i), .int (nI t)]) (rest := []) (wc := (wI g k L u)) (w1 := (wI g k L ((rsz L u i t).2))) (wr := (hT g k tl tp ++ hR g k f0)) ⟨hx, hb, hml, hown, hTB⟩ (c_Inodes_resize l D g k L hL0 hL u i t (by omega)) (cwV 2 hTB (gd_V k_466 k_392 k_393 k_54 k_394) rfl rfl rfl (by decide +kernel) ⟨Nat.le_of_ble_eq_true rfl, Nat.le_of_ble_eq_true rfl⟩) hK hP hD hA [4, 5, 6, 7, 8, 9, 10] [0, 1, 2, 3] rfl rfl (by decide) rfl (by decide) (by decide) 4 rfl rfl rfl hl.1 rfl (Nat.le_of_ble_eq_true rfl) d_Tree_cut_46 ⟨Nat.zero_le _, Nat.zero_le _⟩ hS (fun H locs hP hD hS => ?_)
        have hP : va_P D cl5 (wT g k L ((rsz L u i t).2) f0 tl tp) H := hP
        have hD : va_D A (wT g k L ((rsz L u i t).2) f0 tl tp) := hD
        refine gz_ifz_ne (tgt := 62) hx hb d_Tree_cut_49 (by decide) (fun h49 => ?_) (fun h49 => ?_)
        · refine lv_aload_n hx hb d_Tree_cut_62 rfl (lv_at hl 1 rfl) ?_
          refine va_get (D := D) (ci := 3) (v := .ref (g 0)) (C := R_Tree) (T := T_Tree) (N := 5) hx hb hTB in_Tree hown hK hP 0 rfl rfl 0 (by decide) (hTB _ k_195) (fun _ h9 => h9) rfl d_Tree_cut_63 ?_
          refine gz_muV (As := []) (rest := []) (wc := (wD g k L ((rsz L u i t).2))) (w1 := (wD g k L (stl L ((rsz L u i t).2)))) (wr := (hT g k tl tp ++ (hR g k f0 ++ hI g))) ⟨hx, hb, hml, hown, hTB⟩ (c_Disk_settle l D g k L hL0 hL ((rsz L u i t).2)) (cwV 0 hTB (gd_V k_156 k_157 k_158 k_52 k_159) rfl rfl rfl (by decide +kernel) ⟨Nat.le_of_ble_eq_true rfl, Nat.le_of_ble_eq_true rfl⟩) hK hP hD hA [5, 6, 7, 8, 9, 10] [0, 1, 2, 3, 4] rfl rfl (by decide) rfl (by decide) (by decide) 5 rfl rfl rfl hl.1 rfl (Nat.le_of_ble_eq_true rfl) d_Tree_cut_66 ⟨Nat.zero_le _, Nat.zero_le _⟩ hS (fun H locs hP hD hS => ?_)
          have hP : va_P D cl5 (wT g k L (stl L ((rsz L u i t).2)) f0 tl tp) H := hP
          have hD : va_D A (wT g k L (stl L ((rsz L u i t).2)) f0 tl tp) := hD
          refine lv_iload_n hx hb d_Tree_cut_69 rfl (lv_at hl 3 rfl) ?_
          have hP9 : va_P D cl5 (wT g k L ((ctC L u i (nI t)).2) f0 tl tp) H := (by unfold ctC; rw [if_pos h12, if_neg (fun z => z.elim (nI_pos (by omega)) (nI_nlt h34 (by omega))), nI_clamp (by omega)]; unfold ctN; rw [if_pos h49]; exact hP)
          have hD9 : va_D A (wT g k L ((ctC L u i (nI t)).2) f0 tl tp) := (by unfold ctC; rw [if_pos h12, if_neg (fun z => z.elim (nI_pos (by omega)) (nI_nlt h34 (by omega))), nI_clamp (by omega)]; unfold ctN; rw [if_pos h49]; exact hD)
          exact W.iret (v := nI t) hx hb hr (fun tt9 ht9 hW9 => ⟨⟨_, (), rfl, (by unfold ctC; rw [if_pos h12, if_neg (fun z => z.elim (nI_pos (by omega)) (nI_nlt h34 (by omega))), nI_clamp (by omega)]; unfold ctN; rw [if_pos h49]), ⟨by rw [ht9]; exact hP9, hD9⟩⟩, hS.F ht9⟩) hS.2.2 d_Tree_cut_70
        · refine lv_aload_n hx hb d_Tree_cut_52 rfl (lv_at hl 1 rfl) ?_
          refine va_get (D := D) (ci := 3) (v := .ref (g 0)) (C := R_Tree) (T := T_Tree) (N := 5) hx hb hTB in_Tree hown hK hP 0 rfl rfl 0 (by decide) (hTB _ k_195) (fun _ h9 => h9) rfl d_Tree_cut_53 ?_
          refine gz_muV (As := []) (rest := []) (wc := (wD g k L ((rsz L u i t).2))) (w1 := (wD g k L (und L ((rsz L u i t).2)))) (wr := (hT g k tl tp ++ (hR g k f0 ++ hI g))) ⟨hx, hb, hml, hown, hTB⟩ (c_Disk_undo l D g k L hL0 hL ((rsz L u i t).2)) (cwV 0 hTB (gd_V k_435 k_436 k_437 k_52 k_438) rfl rfl rfl (by decide +kernel) ⟨Nat.le_of_ble_eq_true rfl, Nat.le_of_ble_eq_true rfl⟩) hK hP hD hA [5, 6, 7, 8, 9, 10] [0, 1, 2, 3, 4] rfl rfl (by decide) rfl (by decide) (by decide) 5 rfl rfl rfl hl.1 rfl (Nat.le_of_ble_eq_true rfl) d_Tree_cut_56 ⟨Nat.zero_le _, Nat.zero_le _⟩ hS (fun H locs hP hD hS => ?_)
          have hP : va_P D cl5 (wT g k L (und L ((rsz L u i t).2)) f0 tl tp) H := hP
          have hD : va_D A (wT g k L (und L ((rsz L u i t).2)) f0 tl tp) := hD
          refine lv_bipush (v := (-4)) hx hb d_Tree_cut_59 (by decide +kernel) ?_
          have hP9 : va_P D cl5 (wT g k L ((ctC L u i (nI t)).2) f0 tl tp) H := (by unfold ctC; rw [if_pos h12, if_neg (fun z => z.elim (nI_pos (by omega)) (nI_nlt h34 (by omega))), nI_clamp (by omega)]; unfold ctN; rw [if_neg (by rw [h49]; decide)]; exact hP)
          have hD9 : va_D A (wT g k L ((ctC L u i (nI t)).2) f0 tl tp) := (by unfold ctC; rw [if_pos h12, if_neg (fun z => z.elim (nI_pos (by omega)) (nI_nlt h34 (by omega))), nI_clamp (by omega)]; unfold ctN; rw [if_neg (by rw [h49]; decide)]; exact hD)
          exact W.iret (v := (-4)) hx hb hr (fun tt9 ht9 hW9 => ⟨⟨_, (), rfl, (by unfold ctC; rw [if_pos h12, if_neg (fun z => z.elim (nI_pos (by omega)) (nI_nlt h34 (by omega))), nI_clamp (by omega)]; unfold ctN; rw [if_neg (by rw [h49]; decide)]), ⟨by rw [ht9]; exact hP9, hD9⟩⟩, hS.F ht9⟩) hS.2.2 d_Tree_cut_61
      · refine lv_bipush (v := (-8)) hx hb d_Tree_cut_37 (by decide +kernel) ?_
        have hP9 : va_P D cl5 (wT g k L ((ctC L u i (nI t)).2) f0 tl tp) H := (by unfold ctC; rw [if_pos h12, if_pos (Or.inr (nI_lt h34 (by omega)))]; exact hP)
        have hD9 : va_D A (wT g k L ((ctC L u i (nI t)).2) f0 tl tp) := (by unfold ctC; rw [if_pos h12, if_pos (Or.inr (nI_lt h34 (by omega)))]; exact hD)
        exact W.iret (v := (-8)) hx hb hr (fun tt9 ht9 hW9 => ⟨⟨_, (), rfl, (by unfold ctC; rw [if_pos h12, if_pos (Or.inr (nI_lt h34 (by omega)))]), ⟨by rw [ht9]; exact hP9, hD9⟩⟩, hS.F ht9⟩) hS.2.2 d_Tree_cut_39
  · refine lv_iload_n hx hb d_Tree_cut_15 rfl (lv_at hl 0 rfl) ?_
    have hP9 : va_P D cl5 (wT g k L ((ctC L u i x).2) f0 tl tp) H := (by unfold ctC; rw [if_neg h12]; exact hP)
    have hD9 : va_D A (wT g k L ((ctC L u i x).2) f0 tl tp) := (by unfold ctC; rw [if_neg h12]; exact hD)
    exact W.iret (v := kfl (iK L (dNow u) i) 1) hx hb hr (fun tt9 ht9 hW9 => ⟨⟨_, (), rfl, (by unfold ctC; rw [if_neg h12]), ⟨by rw [ht9]; exact hP9, hD9⟩⟩, hS.F ht9⟩) hS.2.2 d_Tree_cut_16
theorem d_Tree_read_0 : decode b_Tree_read 0 = .ok (.iload_n 1, 1) := by decide +kernel
theorem d_Tree_read_1 : decode b_Tree_read 1 = .ok (.invokestatic 66, 3) := by decide +kernel
theorem d_Tree_read_4 : decode b_Tree_read 4 = .ok (.iload_n 2, 1) := by decide +kernel
theorem d_Tree_read_5 : decode b_Tree_read 5 = .ok (.ifCond .lt 15, 3) := by decide +kernel
theorem d_Tree_read_8 : decode b_Tree_read 8 = .ok (.iload_n 2, 1) := by decide +kernel
theorem d_Tree_read_9 : decode b_Tree_read 9 = .ok (.aload_n 0, 1) := by decide +kernel
theorem d_Tree_read_10 : decode b_Tree_read 10 = .ok (.getfield 23, 3) := by decide +kernel
theorem d_Tree_read_13 : decode b_Tree_read 13 = .ok (.iload_n 1, 1) := by decide +kernel
theorem d_Tree_read_14 : decode b_Tree_read 14 = .ok (.invokevirtual 97, 3) := by decide +kernel
theorem d_Tree_read_17 : decode b_Tree_read 17 = .ok (.if_icmp .lt 13, 3) := by decide +kernel
theorem d_Tree_read_20 : decode b_Tree_read 20 = .ok (.new 115, 3) := by decide +kernel
theorem d_Tree_read_23 : decode b_Tree_read 23 = .ok (.dup, 1) := by decide +kernel
theorem d_Tree_read_24 : decode b_Tree_read 24 = .ok (.ldc 117, 2) := by decide +kernel
theorem d_Tree_read_26 : decode b_Tree_read 26 = .ok (.invokespecial 119, 3) := by decide +kernel
theorem d_Tree_read_29 : decode b_Tree_read 29 = .ok (.athrow, 1) := by decide +kernel
theorem d_Tree_read_30 : decode b_Tree_read 30 = .ok (.lconst 0, 1) := by decide +kernel
theorem d_Tree_read_31 : decode b_Tree_read 31 = .ok (.lstore_n 3, 1) := by decide +kernel
theorem d_Tree_read_32 : decode b_Tree_read 32 = .ok (.iconst 0, 1) := by decide +kernel
theorem d_Tree_read_33 : decode b_Tree_read 33 = .ok (.istore 5, 2) := by decide +kernel
theorem d_Tree_read_35 : decode b_Tree_read 35 = .ok (.iload 5, 2) := by decide +kernel
theorem d_Tree_read_37 : decode b_Tree_read 37 = .ok (.bipush 8, 2) := by decide +kernel
theorem d_Tree_read_39 : decode b_Tree_read 39 = .ok (.if_icmp .ge 38, 3) := by decide +kernel
theorem d_Tree_read_42 : decode b_Tree_read 42 = .ok (.lload_n 3, 1) := by decide +kernel
theorem d_Tree_read_43 : decode b_Tree_read 43 = .ok (.aload_n 0, 1) := by decide +kernel
theorem d_Tree_read_44 : decode b_Tree_read 44 = .ok (.getfield 12, 3) := by decide +kernel
theorem d_Tree_read_47 : decode b_Tree_read 47 = .ok (.aload_n 0, 1) := by decide +kernel
theorem d_Tree_read_48 : decode b_Tree_read 48 = .ok (.getfield 23, 3) := by decide +kernel
theorem d_Tree_read_51 : decode b_Tree_read 51 = .ok (.iload_n 1, 1) := by decide +kernel
theorem d_Tree_read_52 : decode b_Tree_read 52 = .ok (.iload_n 2, 1) := by decide +kernel
theorem d_Tree_read_53 : decode b_Tree_read 53 = .ok (.iload 5, 2) := by decide +kernel
theorem d_Tree_read_55 : decode b_Tree_read 55 = .ok (.iadd, 1) := by decide +kernel
theorem d_Tree_read_56 : decode b_Tree_read 56 = .ok (.invokevirtual 109, 3) := by decide +kernel
theorem d_Tree_read_59 : decode b_Tree_read 59 = .ok (.invokevirtual 120, 3) := by decide +kernel
theorem d_Tree_read_62 : decode b_Tree_read 62 = .ok (.i2l, 1) := by decide +kernel
theorem d_Tree_read_63 : decode b_Tree_read 63 = .ok (.bipush 8, 2) := by decide +kernel
theorem d_Tree_read_65 : decode b_Tree_read 65 = .ok (.iload 5, 2) := by decide +kernel
theorem d_Tree_read_67 : decode b_Tree_read 67 = .ok (.imul, 1) := by decide +kernel
theorem d_Tree_read_68 : decode b_Tree_read 68 = .ok (.lshl, 1) := by decide +kernel
theorem d_Tree_read_69 : decode b_Tree_read 69 = .ok (.lor, 1) := by decide +kernel
theorem d_Tree_read_70 : decode b_Tree_read 70 = .ok (.lstore_n 3, 1) := by decide +kernel
theorem d_Tree_read_71 : decode b_Tree_read 71 = .ok (.iinc 5 1, 3) := by decide +kernel
theorem d_Tree_read_74 : decode b_Tree_read 74 = .ok (.goto (-39), 3) := by decide +kernel
theorem d_Tree_read_77 : decode b_Tree_read 77 = .ok (.lload_n 3, 1) := by decide +kernel
theorem d_Tree_read_78 : decode b_Tree_read 78 = .ok (.lreturn, 1) := by decide +kernel
set_option maxHeartbeats 4000000 in
set_option maxRecDepth 100000 in
theorem c_Tree_read (l : Launch) (D : va_G) (g : Nat → Nat) (k : Nat → ClassId) (L : Nat) (hL0 : 96 ≤ L) (hL : L ≤ 768) (u : DSt) (f0 : Nat → Int32) (tl : Nat) (tp : Nat → Int32) (i t : Nat) (hi0 : i < 64) (ht0 : t < iS L (dNow u) i) : RoL l y_Tree_read w_Tree_read ({ frames := 8, cells := 0, slots := 0, locals := 130 }) [.ref (g 9), .int (nI i), .int (nI t)] (RoP D cl5 (tyC k) (wT g k L u f0 tl tp)) (rdG L (dNow u) i t 8) := by
  refine Met.ofW (cc := b_Tree_read) (maxL := 6) (ret := (some .long)) (by decide) rfl ?_
  intro p e s m args below meth c s₁ B hml hv
  obtain ⟨rfl, hP, hK⟩ := hv
  have hx := B.exec
  have hb := B.bytes
  have hr := B.returns
  have hts := atoms_spec (ws := w_Tree_read) B.pre
  have hTB : ∀ w ∈ lw_tb, w.before _ s = true := fun w h => hts w (List.mem_cons_of_mem _ h)
  have hown : s.vm.findClass R_Tree = some m.cls := findClass_of_methodNamed B.named
  have hlocks := B.notSynchronized
  have hS : va_S (fun _ => False) s.heap s.heap [] := va_S.rf
  have hl := lv_entry ([.ref (g 9), .int (nI i), .int (nI t)]) (n := 6) (Nat.le_of_ble_eq_true rfl)
  rw [lg_entry_eq]
  generalize (lg_sl ([.ref (g 9), .int (nI i), .int (nI t)]) ++ List.replicate (6 - (lg_sl ([.ref (g 9), .int (nI i), .int (nI t)])).length) Slot.unset).toArray = ls at hl ⊢
  have hl : lv_has ls 6 [(0, .ref (g 9)), (1, .int (nI i)), (2, .int (nI t))] := hl
  have hsz0 := iS_lt L (dNow u) i
  refine lv_iload_n hx hb d_Tree_read_0 rfl (lv_at hl 1 rfl) ?_
  refine gz_roSv (As := [.int (nI i)]) (rest := []) ⟨hx, hb, hml, hown, hTB⟩ (c_Tree_checkInode l i (by omega)) (cwS 1 hTB (gd_S k_327 k_328 k_51 k_329) rfl rfl rfl (by decide +kernel) ⟨Nat.le_of_ble_eq_true rfl, Nat.le_of_ble_eq_true rfl⟩) hP rfl hl.1 rfl (Nat.le_of_ble_eq_true rfl) d_Tree_read_1 ⟨Nat.zero_le _, Nat.zero_le _⟩ hS (fun H locs hP hS => ?_)
  refine lv_iload_n hx hb d_Tree_read_4 rfl (lv_at hl 2 rfl) ?_
  refine gz_if_lt (tgt := 20) hx hb d_Tree_read_5 (by decide) (by omega) ?_
  refine lv_iload_n hx hb d_Tree_read_8 rfl (lv_at hl 2 rfl) ?_
  refine lv_aload_n hx hb d_Tree_read_9 rfl (lv_at hl 0 rfl) ?_
  refine va_get (D := D) (ci := 3) (v := .ref (g 6)) (C := R_Tree) (T := T_Tree) (N := 5) hx hb hTB in_Tree hown hK hP 0 rfl rfl 1 (by decide) (hTB _ k_196) (fun _ h9 => h9) rfl d_Tree_read_10 ?_
  refine lv_iload_n hx hb d_Tree_read_13 rfl (lv_at hl 1 rfl) ?_
  refine gz_roV (As := [.int (nI i)]) (rest := [.int (nI t)]) (wc := (wI g k L u)) ⟨hx, hb, hml, hown, hTB⟩ (c_Inodes_size l D g k L hL0 hL u i) (cwV 1 hTB (gd_V k_462 k_353 k_354 k_54 k_355) rfl rfl rfl (by decide +kernel) ⟨Nat.le_of_ble_eq_true rfl, Nat.le_of_ble_eq_true rfl⟩) hK hP [4, 5, 6, 7, 8, 9, 10] rfl 4 rfl rfl rfl hl.1 rfl (Nat.le_of_ble_eq_true rfl) d_Tree_read_14 ⟨Nat.zero_le _, Nat.zero_le _⟩ hS (fun H locs hP hS => ?_)
  have := iS_lt L (dNow u) i
  refine gz_icmp_lt (tgt := 30) hx hb d_Tree_read_17 (by decide) (by omega) (by omega) (fun h17 => ?_) (fun h17 => ?_)
  · refine lv_lconst (v := 0) hx hb d_Tree_read_30 (by decide +kernel) ?_
    refine lv_lstore_n (lv' := [(3, .long (0)), (0, .ref (g 9)), (1, .int (nI i)), (2, .int (nI t))]) hx hb d_Tree_read_31 rfl hl (by decide) rfl (fun ls hl => ?_)
    refine lv_iconst (v := nI 0) hx hb d_Tree_read_32 (by decide +kernel) ?_
    refine lv_istore (lv' := [(5, .int (nI 0)), (3, .long (0)), (0, .ref (g 9)), (1, .int (nI i)), (2, .int (nI t))]) hx hb d_Tree_read_33 hl (by decide) rfl (fun ls hl => ?_)
    refine gz_loop 35 (fun (zz : Nat) H locs ls => match zz with | j => va_P D cl5 (wT g k L u f0 tl tp) H ∧ va_S (fun _ => False) s.heap H locs ∧ lv_has ls 6 [(0, .ref (g 9)), (1, .int (nI i)), (2, .int (nI t)), (3, .long (rdG L (dNow u) i t j)), (5, .int (nI j))] ∧ (j ≤ 8)) (fun (zz : Nat) => match zz with | j => 8 - j) (fun zz H locs ls hI ih35 => ?_) (0) ⟨hP, hS, lv_sub hl [2, 3, 4, 1, 0] rfl, (by omega)⟩
    obtain ⟨j, rfl⟩ : ∃ z, z = zz := ⟨_, rfl⟩
    obtain ⟨hP, hS, hl, hj1⟩ := hI
    refine lv_iload hx hb d_Tree_read_35 (lv_at hl 4 rfl) ?_
    refine lv_bipush (v := nI 8) hx hb d_Tree_read_37 (by decide +kernel) ?_
    refine gz_icmp_ge (tgt := 77) hx hb d_Tree_read_39 (by decide) (by omega) (by omega) (fun h39 => ?_) (fun h39 => ?_)
    · have hj8 : j = 8 := by omega
      refine lv_lload_n hx hb d_Tree_read_77 rfl (lv_at hl 3 rfl) ?_
      exact W.lret (v := rdG L (dNow u) i t j) hx hb hr (fun tt9 ht9 hW9 => ⟨⟨_, (), rfl, (by rw [hj8]), trivial⟩, hS.F ht9⟩) hS.2.2 d_Tree_read_78
    · refine lv_lload_n hx hb d_Tree_read_42 rfl (lv_at hl 3 rfl) ?_
      refine lv_aload_n hx hb d_Tree_read_43 rfl (lv_at hl 0 rfl) ?_
      refine va_get (D := D) (ci := 3) (v := .ref (g 0)) (C := R_Tree) (T := T_Tree) (N := 5) hx hb hTB in_Tree hown hK hP 0 rfl rfl 0 (by decide) (hTB _ k_195) (fun _ h9 => h9) rfl d_Tree_read_44 ?_
      refine lv_aload_n hx hb d_Tree_read_47 rfl (lv_at hl 0 rfl) ?_
      refine va_get (D := D) (ci := 3) (v := .ref (g 6)) (C := R_Tree) (T := T_Tree) (N := 5) hx hb hTB in_Tree hown hK hP 0 rfl rfl 1 (by decide) (hTB _ k_196) (fun _ h9 => h9) rfl d_Tree_read_48 ?_
      refine lv_iload_n hx hb d_Tree_read_51 rfl (lv_at hl 1 rfl) ?_
      refine lv_iload_n hx hb d_Tree_read_52 rfl (lv_at hl 2 rfl) ?_
      refine lv_iload hx hb d_Tree_read_53 (lv_at hl 4 rfl) ?_
      refine gz_iadd hx hb d_Tree_read_55 ?_
      refine gz_roV (As := [.int (nI i), .int (nI (t + j))]) (rest := [.ref (g 0), .long (rdG L (dNow u) i t j)]) (wc := (wI g k L u)) ⟨hx, hb, hml, hown, hTB⟩ (c_Inodes_placeOf l D g k L hL0 hL u i (t + j) (by omega)) (cwV 2 hTB (gd_V k_467 k_362 k_363 k_54 k_364) rfl rfl rfl (by decide +kernel) ⟨Nat.le_of_ble_eq_true rfl, Nat.le_of_ble_eq_true rfl⟩) hK hP [4, 5, 6, 7, 8, 9, 10] rfl 4 rfl rfl rfl hl.1 rfl (Nat.le_of_ble_eq_true rfl) d_Tree_read_56 ⟨Nat.zero_le _, Nat.zero_le _⟩ hS (fun H locs hP hS => ?_)
      refine gz_roV (As := [.int (plc L (dNow u) i (t + j))]) (rest := [.long (rdG L (dNow u) i t j)]) (wc := (wD g k L u)) ⟨hx, hb, hml, hown, hTB⟩ (c_Disk_byteAt l D g k L hL0 hL u (plc L (dNow u) i (t + j))) (cwV 1 hTB (gd_V k_500 k_345 k_346 k_52 k_347) rfl rfl rfl (by decide +kernel) ⟨Nat.le_of_ble_eq_true rfl, Nat.le_of_ble_eq_true rfl⟩) hK hP [5, 6, 7, 8, 9, 10] rfl 5 rfl rfl rfl hl.1 rfl (Nat.le_of_ble_eq_true rfl) d_Tree_read_59 ⟨Nat.zero_le _, Nat.zero_le _⟩ hS (fun H locs hP hS => ?_)
      have := bN_lt L (dNow u) (plc L (dNow u) i (t + j))
      refine lv_i2l hx hb d_Tree_read_62 rfl ?_
      refine lv_bipush (v := nI 8) hx hb d_Tree_read_63 (by decide +kernel) ?_
      refine lv_iload hx hb d_Tree_read_65 (lv_at hl 4 rfl) ?_
      refine gz_imul hx hb d_Tree_read_67 ?_
      refine lv_lshl hx hb d_Tree_read_68 rfl ?_
      refine lv_lor hx hb d_Tree_read_69 ?_
      refine lv_lstore_n (lv' := [(3, .long ((rdG L (dNow u) i t j) ||| (((nI (bN L (dNow u) (plc L (dNow u) i (t + j)))).toInt64) <<< ((nI (8 * j)).toInt64 &&& 63)))), (0, .ref (g 9)), (1, .int (nI i)), (2, .int (nI t)), (5, .int (nI j))]) hx hb d_Tree_read_70 rfl hl (by decide) rfl (fun ls hl => ?_)
      refine lv_iinc (v := nI (j + 1)) (lv' := [(5, .int (nI (j + 1))), (3, .long ((rdG L (dNow u) i t j) ||| (((nI (bN L (dNow u) (plc L (dNow u) i (t + j)))).toInt64) <<< ((nI (8 * j)).toInt64 &&& 63)))), (0, .ref (g 9)), (1, .int (nI i)), (2, .int (nI t))]) hx hb d_Tree_read_71 hl (k := 4) rfl (nI_add j 1) (by decide) rfl (fun ls hl => ?_)
      refine lv_goto (tgt := 35) hx hb d_Tree_read_74 (by decide) ?_
      exact ih35 (j + 1) _ _ _ (by first | omega | (dsimp only; omega)) ⟨hP, hS, lv_sub hl [2, 3, 4, 1, 0] rfl, (by omega)⟩
  · exact absurd h17 (by omega)
theorem d_Tree_move_0 : decode b_Tree_move 0 = .ok (.iload_n 1, 1) := by decide +kernel
theorem d_Tree_move_1 : decode b_Tree_move 1 = .ok (.invokestatic 66, 3) := by decide +kernel
theorem d_Tree_move_4 : decode b_Tree_move 4 = .ok (.iload_n 2, 1) := by decide +kernel
theorem d_Tree_move_5 : decode b_Tree_move 5 = .ok (.invokestatic 69, 3) := by decide +kernel
theorem d_Tree_move_8 : decode b_Tree_move 8 = .ok (.iload_n 3, 1) := by decide +kernel
theorem d_Tree_move_9 : decode b_Tree_move 9 = .ok (.invokestatic 66, 3) := by decide +kernel
theorem d_Tree_move_12 : decode b_Tree_move 12 = .ok (.iload 4, 2) := by decide +kernel
theorem d_Tree_move_14 : decode b_Tree_move 14 = .ok (.invokestatic 69, 3) := by decide +kernel
theorem d_Tree_move_17 : decode b_Tree_move 17 = .ok (.aload_n 0, 1) := by decide +kernel
theorem d_Tree_move_18 : decode b_Tree_move 18 = .ok (.iload_n 1, 1) := by decide +kernel
theorem d_Tree_move_19 : decode b_Tree_move 19 = .ok (.iload_n 2, 1) := by decide +kernel
theorem d_Tree_move_20 : decode b_Tree_move 20 = .ok (.invokevirtual 90, 3) := by decide +kernel
theorem d_Tree_move_23 : decode b_Tree_move 23 = .ok (.istore 5, 2) := by decide +kernel
theorem d_Tree_move_25 : decode b_Tree_move 25 = .ok (.iload 5, 2) := by decide +kernel
theorem d_Tree_move_27 : decode b_Tree_move 27 = .ok (.ifCond .ge 6, 3) := by decide +kernel
theorem d_Tree_move_30 : decode b_Tree_move 30 = .ok (.iload 5, 2) := by decide +kernel
theorem d_Tree_move_32 : decode b_Tree_move 32 = .ok (.ireturn, 1) := by decide +kernel
theorem d_Tree_move_33 : decode b_Tree_move 33 = .ok (.aload_n 0, 1) := by decide +kernel
theorem d_Tree_move_34 : decode b_Tree_move 34 = .ok (.iload_n 3, 1) := by decide +kernel
theorem d_Tree_move_35 : decode b_Tree_move 35 = .ok (.iconst 2, 1) := by decide +kernel
theorem d_Tree_move_36 : decode b_Tree_move 36 = .ok (.invokevirtual 72, 3) := by decide +kernel
theorem d_Tree_move_39 : decode b_Tree_move 39 = .ok (.istore 6, 2) := by decide +kernel
theorem d_Tree_move_41 : decode b_Tree_move 41 = .ok (.iload 6, 2) := by decide +kernel
theorem d_Tree_move_43 : decode b_Tree_move 43 = .ok (.ifCond .ge 6, 3) := by decide +kernel
theorem d_Tree_move_46 : decode b_Tree_move 46 = .ok (.iload 6, 2) := by decide +kernel
theorem d_Tree_move_48 : decode b_Tree_move 48 = .ok (.ireturn, 1) := by decide +kernel
theorem d_Tree_move_49 : decode b_Tree_move 49 = .ok (.iload_n 1, 1) := by decide +kernel
theorem d_Tree_move_50 : decode b_Tree_move 50 = .ok (.iload_n 3, 1) := by decide +kernel
theorem d_Tree_move_51 : decode b_Tree_move 51 = .ok (.if_icmp .ne 11, 3) := by decide +kernel
theorem d_Tree_move_54 : decode b_Tree_move 54 = .ok (.iload_n 2, 1) := by decide +kernel
theorem d_Tree_move_55 : decode b_Tree_move 55 = .ok (.iload 4, 2) := by decide +kernel
theorem d_Tree_move_57 : decode b_Tree_move 57 = .ok (.if_icmp .ne 5, 3) := by decide +kernel
theorem d_Tree_move_60 : decode b_Tree_move 60 = .ok (.iconst 0, 1) := by decide +kernel
theorem d_Tree_move_61 : decode b_Tree_move 61 = .ok (.ireturn, 1) := by decide +kernel
theorem d_Tree_move_62 : decode b_Tree_move 62 = .ok (.aload_n 0, 1) := by decide +kernel
theorem d_Tree_move_63 : decode b_Tree_move 63 = .ok (.getfield 32, 3) := by decide +kernel
theorem d_Tree_move_66 : decode b_Tree_move 66 = .ok (.iload 5, 2) := by decide +kernel
theorem d_Tree_move_68 : decode b_Tree_move 68 = .ok (.invokevirtual 93, 3) := by decide +kernel
theorem d_Tree_move_71 : decode b_Tree_move 71 = .ok (.istore 7, 2) := by decide +kernel
theorem d_Tree_move_73 : decode b_Tree_move 73 = .ok (.aload_n 0, 1) := by decide +kernel
theorem d_Tree_move_74 : decode b_Tree_move 74 = .ok (.getfield 32, 3) := by decide +kernel
theorem d_Tree_move_77 : decode b_Tree_move 77 = .ok (.iload_n 3, 1) := by decide +kernel
theorem d_Tree_move_78 : decode b_Tree_move 78 = .ok (.iload 4, 2) := by decide +kernel
theorem d_Tree_move_80 : decode b_Tree_move 80 = .ok (.invokevirtual 76, 3) := by decide +kernel
theorem d_Tree_move_83 : decode b_Tree_move 83 = .ok (.istore 8, 2) := by decide +kernel
theorem d_Tree_move_85 : decode b_Tree_move 85 = .ok (.aload_n 0, 1) := by decide +kernel
theorem d_Tree_move_86 : decode b_Tree_move 86 = .ok (.iload 7, 2) := by decide +kernel
theorem d_Tree_move_88 : decode b_Tree_move 88 = .ok (.iload_n 3, 1) := by decide +kernel
theorem d_Tree_move_89 : decode b_Tree_move 89 = .ok (.iload 8, 2) := by decide +kernel
theorem d_Tree_move_91 : decode b_Tree_move 91 = .ok (.invokevirtual 123, 3) := by decide +kernel
theorem d_Tree_move_94 : decode b_Tree_move 94 = .ok (.istore 6, 2) := by decide +kernel
theorem d_Tree_move_96 : decode b_Tree_move 96 = .ok (.iload 6, 2) := by decide +kernel
theorem d_Tree_move_98 : decode b_Tree_move 98 = .ok (.ifCond .ge 6, 3) := by decide +kernel
theorem d_Tree_move_101 : decode b_Tree_move 101 = .ok (.iload 6, 2) := by decide +kernel
theorem d_Tree_move_103 : decode b_Tree_move 103 = .ok (.ireturn, 1) := by decide +kernel
theorem d_Tree_move_104 : decode b_Tree_move 104 = .ok (.aload_n 0, 1) := by decide +kernel
theorem d_Tree_move_105 : decode b_Tree_move 105 = .ok (.getfield 32, 3) := by decide +kernel
theorem d_Tree_move_108 : decode b_Tree_move 108 = .ok (.iload 5, 2) := by decide +kernel
theorem d_Tree_move_110 : decode b_Tree_move 110 = .ok (.invokevirtual 127, 3) := by decide +kernel
theorem d_Tree_move_113 : decode b_Tree_move 113 = .ok (.iload 8, 2) := by decide +kernel
theorem d_Tree_move_115 : decode b_Tree_move 115 = .ok (.iconst (-1), 1) := by decide +kernel
theorem d_Tree_move_116 : decode b_Tree_move 116 = .ok (.if_icmp .eq 35, 3) := by decide +kernel
theorem d_Tree_move_119 : decode b_Tree_move 119 = .ok (.aload_n 0, 1) := by decide +kernel
theorem d_Tree_move_120 : decode b_Tree_move 120 = .ok (.getfield 23, 3) := by decide +kernel
theorem d_Tree_move_123 : decode b_Tree_move 123 = .ok (.aload_n 0, 1) := by decide +kernel
theorem d_Tree_move_124 : decode b_Tree_move 124 = .ok (.getfield 32, 3) := by decide +kernel
theorem d_Tree_move_127 : decode b_Tree_move 127 = .ok (.iload 8, 2) := by decide +kernel
theorem d_Tree_move_129 : decode b_Tree_move 129 = .ok (.invokevirtual 93, 3) := by decide +kernel
theorem d_Tree_move_132 : decode b_Tree_move 132 = .ok (.invokevirtual 130, 3) := by decide +kernel
theorem d_Tree_move_135 : decode b_Tree_move 135 = .ok (.aload_n 0, 1) := by decide +kernel
theorem d_Tree_move_136 : decode b_Tree_move 136 = .ok (.getfield 32, 3) := by decide +kernel
theorem d_Tree_move_139 : decode b_Tree_move 139 = .ok (.iload 8, 2) := by decide +kernel
theorem d_Tree_move_141 : decode b_Tree_move 141 = .ok (.iload 4, 2) := by decide +kernel
theorem d_Tree_move_143 : decode b_Tree_move 143 = .ok (.iload 7, 2) := by decide +kernel
theorem d_Tree_move_145 : decode b_Tree_move 145 = .ok (.invokevirtual 133, 3) := by decide +kernel
theorem d_Tree_move_148 : decode b_Tree_move 148 = .ok (.goto 28, 3) := by decide +kernel
theorem d_Tree_move_151 : decode b_Tree_move 151 = .ok (.aload_n 0, 1) := by decide +kernel
theorem d_Tree_move_152 : decode b_Tree_move 152 = .ok (.getfield 32, 3) := by decide +kernel
theorem d_Tree_move_155 : decode b_Tree_move 155 = .ok (.iload_n 3, 1) := by decide +kernel
theorem d_Tree_move_156 : decode b_Tree_move 156 = .ok (.iload 4, 2) := by decide +kernel
theorem d_Tree_move_158 : decode b_Tree_move 158 = .ok (.iload 7, 2) := by decide +kernel
theorem d_Tree_move_160 : decode b_Tree_move 160 = .ok (.invokevirtual 83, 3) := by decide +kernel
theorem d_Tree_move_163 : decode b_Tree_move 163 = .ok (.ifCond .ne 13, 3) := by decide +kernel
theorem d_Tree_move_166 : decode b_Tree_move 166 = .ok (.aload_n 0, 1) := by decide +kernel
theorem d_Tree_move_167 : decode b_Tree_move 167 = .ok (.getfield 12, 3) := by decide +kernel
theorem d_Tree_move_170 : decode b_Tree_move 170 = .ok (.invokevirtual 87, 3) := by decide +kernel
theorem d_Tree_move_173 : decode b_Tree_move 173 = .ok (.bipush (-4), 2) := by decide +kernel
theorem d_Tree_move_175 : decode b_Tree_move 175 = .ok (.ireturn, 1) := by decide +kernel
theorem d_Tree_move_176 : decode b_Tree_move 176 = .ok (.aload_n 0, 1) := by decide +kernel
theorem d_Tree_move_177 : decode b_Tree_move 177 = .ok (.getfield 12, 3) := by decide +kernel
theorem d_Tree_move_180 : decode b_Tree_move 180 = .ok (.invokevirtual 48, 3) := by decide +kernel
theorem d_Tree_move_183 : decode b_Tree_move 183 = .ok (.iconst 0, 1) := by decide +kernel
theorem d_Tree_move_184 : decode b_Tree_move 184 = .ok (.ireturn, 1) := by decide +kernel
set_option maxHeartbeats 4000000 in
set_option maxRecDepth 100000 in
theorem c_Tree_move (l : Launch) (D : va_G) (g : Nat → Nat) (k : Nat → ClassId) (L : Nat) (hL0 : 96 ≤ L) (hL : L ≤ 768) (u : DSt) (f0 : Nat → Int32) (tl : Nat) (tp : Nat → Int32) (d w d2 w2 : Nat) (hd0 : d < 64) (hw1 : 1 ≤ w) (hw2 : w ≤ 65535) (hd1 : d2 < 64) (hw3 : 1 ≤ w2) (hw4 : w2 ≤ 65535) : MuI l y_Tree_move w_Tree_move ({ frames := 8, cells := 0, slots := 0, locals := 204 }) [.ref (g 9), .int (nI d), .int (nI w), .int (nI d2), .int (nI w2)] D cl5 (tyC k) (wT g k L u f0 tl tp) (wT g k L ((mvC L u f0 d w d2 w2).2) (mv2 L (dNow u) f0 d w d2 w2) tl tp) ((mvC L u f0 d w d2 w2).1) := by
  intro sz
  refine Met.ofW (cc := b_Tree_move) (maxL := 9) (ret := (some .int)) (by decide) rfl ?_
  intro p e s m args below meth c s₁ B hml hv
  obtain ⟨rfl, hsz, hP, hK, hD0⟩ := hv
  have hx := B.exec
  have hb := B.bytes
  have hr := B.returns
  have hts := atoms_spec (ws := w_Tree_move) B.pre
  have hTB : ∀ w ∈ lw_tb, w.before _ s = true := fun w h => hts w (List.mem_cons_of_mem _ h)
  have hown : s.vm.findClass R_Tree = some m.cls := findClass_of_methodNamed B.named
  have hlocks := B.notSynchronized
  subst hsz
  have hD := hD0.self (sz := s.heap.size)
  generalize hAe : va_A (wT g k L u f0 tl tp) s.heap.size = A at hD ⊢
  have hA : ∀ q : Nat, s.heap.size ≤ q → A q := fun q h => by rw [← hAe]; exact Or.inr h
  have hS : va_S A s.heap s.heap [] := va_S.rf
  have hl := lv_entry ([.ref (g 9), .int (nI d), .int (nI w), .int (nI d2), .int (nI w2)]) (n := 9) (Nat.le_of_ble_eq_true rfl)
  rw [lg_entry_eq]
  generalize (lg_sl ([.ref (g 9), .int (nI d), .int (nI w), .int (nI d2), .int (nI w2)]) ++ List.replicate (9 - (lg_sl ([.ref (g 9), .int (nI d), .int (nI w), .int (nI d2), .int (nI w2)])).length) Slot.unset).toArray = ls at hl ⊢
  have hl : lv_has ls 9 [(0, .ref (g 9)), (1, .int (nI d)), (2, .int (nI w)), (3, .int (nI d2)), (4, .int (nI w2))] := hl
  refine lv_iload_n hx hb d_Tree_move_0 rfl (lv_at hl 1 rfl) ?_
  refine gz_roSv (As := [.int (nI d)]) (rest := []) ⟨hx, hb, hml, hown, hTB⟩ (c_Tree_checkInode l d (by omega)) (cwS 1 hTB (gd_S k_327 k_328 k_51 k_329) rfl rfl rfl (by decide +kernel) ⟨Nat.le_of_ble_eq_true rfl, Nat.le_of_ble_eq_true rfl⟩) hP rfl hl.1 rfl (Nat.le_of_ble_eq_true rfl) d_Tree_move_1 ⟨Nat.zero_le _, Nat.zero_le _⟩ hS (fun H locs hP hS => ?_)
  refine lv_iload_n hx hb d_Tree_move_4 rfl (lv_at hl 2 rfl) ?_
  refine gz_roSv (As := [.int (nI w)]) (rest := []) ⟨hx, hb, hml, hown, hTB⟩ (c_Tree_checkName l w (by omega) (by omega)) (cwS 1 hTB (gd_S k_331 k_332 k_51 k_333) rfl rfl rfl (by decide +kernel) ⟨Nat.le_of_ble_eq_true rfl, Nat.le_of_ble_eq_true rfl⟩) hP rfl hl.1 rfl (Nat.le_of_ble_eq_true rfl) d_Tree_move_5 ⟨Nat.zero_le _, Nat.zero_le _⟩ hS (fun H locs hP hS => ?_)
  refine lv_iload_n hx hb d_Tree_move_8 rfl (lv_at hl 3 rfl) ?_
  refine gz_roSv (As := [.int (nI d2)]) (rest := []) ⟨hx, hb, hml, hown, hTB⟩ (c_Tree_checkInode l d2 (by omega)) (cwS 1 hTB (gd_S k_327 k_328 k_51 k_329) rfl rfl rfl (by decide +kernel) ⟨Nat.le_of_ble_eq_true rfl, Nat.le_of_ble_eq_true rfl⟩) hP rfl hl.1 rfl (Nat.le_of_ble_eq_true rfl) d_Tree_move_9 ⟨Nat.zero_le _, Nat.zero_le _⟩ hS (fun H locs hP hS => ?_)
  refine lv_iload hx hb d_Tree_move_12 (lv_at hl 4 rfl) ?_
  refine gz_roSv (As := [.int (nI w2)]) (rest := []) ⟨hx, hb, hml, hown, hTB⟩ (c_Tree_checkName l w2 (by omega) (by omega)) (cwS 1 hTB (gd_S k_331 k_332 k_51 k_333) rfl rfl rfl (by decide +kernel) ⟨Nat.le_of_ble_eq_true rfl, Nat.le_of_ble_eq_true rfl⟩) hP rfl hl.1 rfl (Nat.le_of_ble_eq_true rfl) d_Tree_move_14 ⟨Nat.zero_le _, Nat.zero_le _⟩ hS (fun H locs hP hS => ?_)
  refine lv_aload_n hx hb d_Tree_move_17 rfl (lv_at hl 0 rfl) ?_
  refine lv_iload_n hx hb d_Tree_move_18 rfl (lv_at hl 1 rfl) ?_
  refine lv_iload_n hx hb d_Tree_move_19 rfl (lv_at hl 2 rfl) ?_
  refine gz_roV (As := [.int (nI d), .int (nI w)]) (rest := []) (wc := (wT g k L u f0 tl tp)) ⟨hx, hb, hml, hown, hTB⟩ (c_Tree_entryOrFault l D g k L hL0 hL u f0 tl tp d w (by omega)) (cwV 2 hTB (gd_V k_446 k_448 k_11 k_51 k_449) rfl rfl rfl (by decide +kernel) ⟨Nat.le_of_ble_eq_true rfl, Nat.le_of_ble_eq_true rfl⟩) hK hP [0, 1, 2, 3, 4, 5, 6, 7, 8, 9, 10] rfl 0 rfl rfl rfl hl.1 rfl (Nat.le_of_ble_eq_true rfl) d_Tree_move_20 ⟨Nat.zero_le _, Nat.zero_le _⟩ hS (fun H locs hP hS => ?_)
  refine lv_istore (lv' := [(5, .int (eof L (dNow u) d w)), (0, .ref (g 9)), (1, .int (nI d)), (2, .int (nI w)), (3, .int (nI d2)), (4, .int (nI w2))]) hx hb d_Tree_move_23 hl (by decide) rfl (fun ls hl => ?_)
  refine lv_iload hx hb d_Tree_move_25 (lv_at hl 0 rfl) ?_
  refine lv_if_ge (tgt := 33) hx hb d_Tree_move_27 (by decide) (fun h27 => ?_) (fun h27 => ?_)
  · refine lv_aload_n hx hb d_Tree_move_33 rfl (lv_at hl 1 rfl) ?_
    refine lv_iload_n hx hb d_Tree_move_34 rfl (lv_at hl 4 rfl) ?_
    refine lv_iconst (v := nI 2) hx hb d_Tree_move_35 (by decide +kernel) ?_
    refine gz_roV (As := [.int (nI d2), .int (nI 2)]) (rest := []) (wc := (wT g k L u f0 tl tp)) ⟨hx, hb, hml, hown, hTB⟩ (c_Tree_kindFault l D g k L hL0 hL u f0 tl tp d2 2 (by decide)) (cwV 2 hTB (gd_V k_336 k_338 k_8 k_51 k_339) rfl rfl rfl (by decide +kernel) ⟨Nat.le_of_ble_eq_true rfl, Nat.le_of_ble_eq_true rfl⟩) hK hP [0, 1, 2, 3, 4, 5, 6, 7, 8, 9, 10] rfl 0 rfl rfl rfl hl.1 rfl (Nat.le_of_ble_eq_true rfl) d_Tree_move_36 ⟨Nat.zero_le _, Nat.zero_le _⟩ hS (fun H locs hP hS => ?_)
    refine lv_istore (lv' := [(6, .int (kfl (iK L (dNow u) d2) 2)), (5, .int (eof L (dNow u) d w)), (0, .ref (g 9)), (1, .int (nI d)), (2, .int (nI w)), (3, .int (nI d2)), (4, .int (nI w2))]) hx hb d_Tree_move_39 hl (by decide) rfl (fun ls hl => ?_)
    refine lv_iload hx hb d_Tree_move_41 (lv_at hl 0 rfl) ?_
    refine lv_if_ge (tgt := 49) hx hb d_Tree_move_43 (by decide) (fun h43 => ?_) (fun h43 => ?_)
    · refine lv_iload_n hx hb d_Tree_move_49 rfl (lv_at hl 3 rfl) ?_
      refine lv_iload_n hx hb d_Tree_move_50 rfl (lv_at hl 5 rfl) ?_
      refine gz_icmp_ne (tgt := 62) hx hb d_Tree_move_51 (by decide) (by omega) (by omega) (fun h51 => ?_) (fun h51 => ?_)
      · have hne : ¬ (d = d2 ∧ w = w2) := fun z => h51 z.1
        refine lv_aload_n hx hb d_Tree_move_62 rfl (lv_at hl 2 rfl) ?_
        refine va_get (D := D) (ci := 3) (v := .ref (g 7)) (C := R_Tree) (T := T_Tree) (N := 5) hx hb hTB in_Tree hown hK hP 0 rfl rfl 2 (by decide) (hTB _ k_197) (fun _ h9 => h9) rfl d_Tree_move_63 ?_
        refine lv_iload hx hb d_Tree_move_66 (lv_at hl 1 rfl) ?_
        refine gz_roV (As := [.int (eof L (dNow u) d w)]) (rest := []) (wc := (wR g k L u f0)) ⟨hx, hb, hml, hown, hTB⟩ (c_Dirs_inodeOf l D g k L hL0 hL u f0 (eof L (dNow u) d w)) (cwV 1 hTB (gd_V k_450 k_451 k_452 k_55 k_453) rfl rfl rfl (by decide +kernel) ⟨Nat.le_of_ble_eq_true rfl, Nat.le_of_ble_eq_true rfl⟩) hK hP [2, 3, 4, 5, 6, 7, 8, 9, 10] rfl 2 rfl rfl rfl hl.1 rfl (Nat.le_of_ble_eq_true rfl) d_Tree_move_68 ⟨Nat.zero_le _, Nat.zero_le _⟩ hS (fun H locs hP hS => ?_)
        have := ino_lt L (dNow u) (eof L (dNow u) d w)
        refine lv_istore (lv' := [(7, .int (nI (ino L (dNow u) (eof L (dNow u) d w)))), (6, .int (kfl (iK L (dNow u) d2) 2)), (5, .int (eof L (dNow u) d w)), (0, .ref (g 9)), (1, .int (nI d)), (2, .int (nI w)), (3, .int (nI d2)), (4, .int (nI w2))]) hx hb d_Tree_move_71 hl (by decide) rfl (fun ls hl => ?_)
        refine lv_aload_n hx hb d_Tree_move_73 rfl (lv_at hl 3 rfl) ?_
        refine va_get (D := D) (ci := 3) (v := .ref (g 7)) (C := R_Tree) (T := T_Tree) (N := 5) hx hb hTB in_Tree hown hK hP 0 rfl rfl 2 (by decide) (hTB _ k_197) (fun _ h9 => h9) rfl d_Tree_move_74 ?_
        refine lv_iload_n hx hb d_Tree_move_77 rfl (lv_at hl 6 rfl) ?_
        refine lv_iload hx hb d_Tree_move_78 (lv_at hl 7 rfl) ?_
        refine gz_roV (As := [.int (nI d2), .int (nI w2)]) (rest := []) (wc := (wR g k L u f0)) ⟨hx, hb, hml, hown, hTB⟩ (c_Dirs_entryNamed l D g k L hL0 hL u f0 d2 w2 (by omega)) (cwV 2 hTB (gd_V k_348 k_349 k_350 k_55 k_351) rfl rfl rfl (by decide +kernel) ⟨Nat.le_of_ble_eq_true rfl, Nat.le_of_ble_eq_true rfl⟩) hK hP [2, 3, 4, 5, 6, 7, 8, 9, 10] rfl 2 rfl rfl rfl hl.1 rfl (Nat.le_of_ble_eq_true rfl) d_Tree_move_80 ⟨Nat.zero_le _, Nat.zero_le _⟩ hS (fun H locs hP hS => ?_)
        refine lv_istore (lv' := [(8, .int (ent L (dNow u) d2 w2)), (7, .int (nI (ino L (dNow u) (eof L (dNow u) d w)))), (6, .int (kfl (iK L (dNow u) d2) 2)), (5, .int (eof L (dNow u) d w)), (0, .ref (g 9)), (1, .int (nI d)), (2, .int (nI w)), (3, .int (nI d2)), (4, .int (nI w2))]) hx hb d_Tree_move_83 hl (by decide) rfl (fun ls hl => ?_)
        refine lv_aload_n hx hb d_Tree_move_85 rfl (lv_at hl 4 rfl) ?_
        refine lv_iload hx hb d_Tree_move_86 (lv_at hl 1 rfl) ?_
        refine lv_iload_n hx hb d_Tree_move_88 rfl (lv_at hl 7 rfl) ?_
        refine lv_iload hx hb d_Tree_move_89 (lv_at hl 0 rfl) ?_
        refine gz_muI (As := [.int (nI (ino L (dNow u) (eof L (dNow u) d w))), .int (nI d2), .int (ent L (dNow u) d2 w2)]) (rest := []) (wc := (wT g k L u f0 tl tp)) (w1 := (wT g k L u (mvP L (dNow u) f0 (ino L (dNow u) (eof L (dNow u) d w)) (ent L (dNow u) d2 w2)) tl tp)) (wr := ([])) ⟨hx, hb, hml, hown, hTB⟩ (c_Tree_moveFault l D g k L hL0 hL u f0 tl tp (ino L (dNow u) (eof L (dNow u) d w)) d2 (ent L (dNow u) d2 w2) (by omega)) (cwV 3 hTB (gd_V k_508 k_510 k_12 k_51 k_511) rfl rfl rfl (by decide +kernel) ⟨Nat.le_of_ble_eq_true rfl, Nat.le_of_ble_eq_true rfl⟩) hK hP hD hA [0, 1, 2, 3, 4, 5, 6, 7, 8, 9, 10] [] rfl rfl (by decide) rfl (by decide) (by decide) 0 rfl rfl rfl hl.1 rfl (Nat.le_of_ble_eq_true rfl) d_Tree_move_91 ⟨Nat.zero_le _, Nat.zero_le _⟩ hS (fun H locs hP hD hS => ?_)
        have hP : va_P D cl5 (wT g k L u (mvP L (dNow u) f0 (ino L (dNow u) (eof L (dNow u) d w)) (ent L (dNow u) d2 w2)) tl tp) H := hP
        have hD : va_D A (wT g k L u (mvP L (dNow u) f0 (ino L (dNow u) (eof L (dNow u) d w)) (ent L (dNow u) d2 w2)) tl tp) := hD
        refine lv_istore (lv' := [(6, .int (mvF L (dNow u) f0 (ino L (dNow u) (eof L (dNow u) d w)) d2 (ent L (dNow u) d2 w2))), (8, .int (ent L (dNow u) d2 w2)), (7, .int (nI (ino L (dNow u) (eof L (dNow u) d w)))), (5, .int (eof L (dNow u) d w)), (0, .ref (g 9)), (1, .int (nI d)), (2, .int (nI w)), (3, .int (nI d2)), (4, .int (nI w2))]) hx hb d_Tree_move_94 hl (by decide) rfl (fun ls hl => ?_)
        refine lv_iload hx hb d_Tree_move_96 (lv_at hl 0 rfl) ?_
        refine lv_if_ge (tgt := 104) hx hb d_Tree_move_98 (by decide) (fun h98 => ?_) (fun h98 => ?_)
        · refine lv_aload_n hx hb d_Tree_move_104 rfl (lv_at hl 4 rfl) ?_
          refine va_get (D := D) (ci := 3) (v := .ref (g 7)) (C := R_Tree) (T := T_Tree) (N := 5) hx hb hTB in_Tree hown hK hP 0 rfl rfl 2 (by decide) (hTB _ k_197) (fun _ h9 => h9) rfl d_Tree_move_105 ?_
          refine lv_iload hx hb d_Tree_move_108 (lv_at hl 3 rfl) ?_
          refine gz_muV (As := [.int (eof L (dNow u) d w)]) (rest := []) (wc := (wR g k L u (mvP L (dNow u) f0 (ino L (dNow u) (eof L (dNow u) d w)) (ent L (dNow u) d2 w2)))) (w1 := (wR g k L (stE L u (eof L (dNow u) d w) (nI 0) (nI 0)) (mvP L (dNow u) f0 (ino L (dNow u) (eof L (dNow u) d w)) (ent L (dNow u) d2 w2)))) (wr := (hT g k tl tp)) ⟨hx, hb, hml, hown, hTB⟩ (c_Dirs_clearEntry l D g k L hL0 hL u (mvP L (dNow u) f0 (ino L (dNow u) (eof L (dNow u) d w)) (ent L (dNow u) d2 w2)) (eof L (dNow u) d w)) (cwV 1 hTB (gd_V k_530 k_531 k_532 k_55 k_533) rfl rfl rfl (by decide +kernel) ⟨Nat.le_of_ble_eq_true rfl, Nat.le_of_ble_eq_true rfl⟩) hK hP hD hA [2, 3, 4, 5, 6, 7, 8, 9, 10] [0, 1] rfl rfl (by decide) rfl (by decide) (by decide) 2 rfl rfl rfl hl.1 rfl (Nat.le_of_ble_eq_true rfl) d_Tree_move_110 ⟨Nat.zero_le _, Nat.zero_le _⟩ hS (fun H locs hP hD hS => ?_)
          have hP : va_P D cl5 (wT g k L (stE L u (eof L (dNow u) d w) (nI 0) (nI 0)) (mvP L (dNow u) f0 (ino L (dNow u) (eof L (dNow u) d w)) (ent L (dNow u) d2 w2)) tl tp) H := hP
          have hD : va_D A (wT g k L (stE L u (eof L (dNow u) d w) (nI 0) (nI 0)) (mvP L (dNow u) f0 (ino L (dNow u) (eof L (dNow u) d w)) (ent L (dNow u) d2 w2)) tl tp) := hD
          refine lv_iload hx hb d_Tree_move_113 (lv_at hl 1 rfl) ?_
          refine lv_iconst (v := (-1)) hx hb d_Tree_move_115 (by decide +kernel) ?_
          refine lv_icmp_eq (tgt := 151) hx hb d_Tree_move_116 (by decide) (fun h116 => ?_) (fun h116 => ?_)
          · refine lv_aload_n hx hb d_Tree_move_151 rfl (lv_at hl 4 rfl) ?_
            refine va_get (D := D) (ci := 3) (v := .ref (g 7)) (C := R_Tree) (T := T_Tree) (N := 5) hx hb hTB in_Tree hown hK hP 0 rfl rfl 2 (by decide) (hTB _ k_197) (fun _ h9 => h9) rfl d_Tree_move_152 ?_
            refine lv_iload_n hx hb d_Tree_move_155 rfl (lv_at hl 7 rfl) ?_
            refine lv_iload hx hb d_Tree_move_156 (lv_at hl 8 rfl) ?_
            refine lv_iload hx hb d_Tree_move_158 (lv_at hl 2 rfl) ?_
            refine gz_muI (As := [.int (nI d2), .int (nI w2), .int (nI (ino L (dNow u) (eof L (dNow u) d w)))]) (rest := []) (wc := (wR g k L (stE L u (eof L (dNow u) d w) (nI 0) (nI 0)) (mvP L (dNow u) f0 (ino L (dNow u) (eof L (dNow u) d w)) (ent L (dNow u) d2 w2)))) (w1 := (wR g k L ((adE L (stE L u (eof L (dNow u) d w) (nI 0) (nI 0)) d2 (nI w2) (nI (ino L (dNow u) (eof L (dNow u) d w)))).2) (mvP L (dNow u) f0 (ino L (dNow u) (eof L (dNow u) d w)) (ent L (dNow u) d2 w2)))) (wr := (hT g k tl tp)) ⟨hx, hb, hml, hown, hTB⟩ (c_Dirs_addEntry l D g k L hL0 hL (stE L u (eof L (dNow u) d w) (nI 0) (nI 0)) (mvP L (dNow u) f0 (ino L (dNow u) (eof L (dNow u) d w)) (ent L (dNow u) d2 w2)) d2 (nI w2) (nI (ino L (dNow u) (eof L (dNow u) d w)))) (cwV 3 hTB (gd_V k_386 k_387 k_388 k_55 k_389) rfl rfl rfl (by decide +kernel) ⟨Nat.le_of_ble_eq_true rfl, Nat.le_of_ble_eq_true rfl⟩) hK hP hD hA [2, 3, 4, 5, 6, 7, 8, 9, 10] [0, 1] rfl rfl (by decide) rfl (by decide) (by decide) 2 rfl rfl rfl hl.1 rfl (Nat.le_of_ble_eq_true rfl) d_Tree_move_160 ⟨Nat.zero_le _, Nat.zero_le _⟩ hS (fun H locs hP hD hS => ?_)
            have hP : va_P D cl5 (wT g k L ((adE L (stE L u (eof L (dNow u) d w) (nI 0) (nI 0)) d2 (nI w2) (nI (ino L (dNow u) (eof L (dNow u) d w)))).2) (mvP L (dNow u) f0 (ino L (dNow u) (eof L (dNow u) d w)) (ent L (dNow u) d2 w2)) tl tp) H := hP
            have hD : va_D A (wT g k L ((adE L (stE L u (eof L (dNow u) d w) (nI 0) (nI 0)) d2 (nI w2) (nI (ino L (dNow u) (eof L (dNow u) d w)))).2) (mvP L (dNow u) f0 (ino L (dNow u) (eof L (dNow u) d w)) (ent L (dNow u) d2 w2)) tl tp) := hD
            refine gz_ifz_ne (tgt := 176) hx hb d_Tree_move_163 (by decide) (fun h163 => ?_) (fun h163 => ?_)
            · refine lv_aload_n hx hb d_Tree_move_176 rfl (lv_at hl 4 rfl) ?_
              refine va_get (D := D) (ci := 3) (v := .ref (g 0)) (C := R_Tree) (T := T_Tree) (N := 5) hx hb hTB in_Tree hown hK hP 0 rfl rfl 0 (by decide) (hTB _ k_195) (fun _ h9 => h9) rfl d_Tree_move_177 ?_
              refine gz_muV (As := []) (rest := []) (wc := (wD g k L ((adE L (stE L u (eof L (dNow u) d w) (nI 0) (nI 0)) d2 (nI w2) (nI (ino L (dNow u) (eof L (dNow u) d w)))).2))) (w1 := (wD g k L (stl L ((adE L (stE L u (eof L (dNow u) d w) (nI 0) (nI 0)) d2 (nI w2) (nI (ino L (dNow u) (eof L (dNow u) d w)))).2)))) (wr := (hT g k tl tp ++ (hR g k (mvP L (dNow u) f0 (ino L (dNow u) (eof L (dNow u) d w)) (ent L (dNow u) d2 w2)) ++ hI g))) ⟨hx, hb, hml, hown, hTB⟩ (c_Disk_settle l D g k L hL0 hL ((adE L (stE L u (eof L (dNow u) d w) (nI 0) (nI 0)) d2 (nI w2) (nI (ino L (dNow u) (eof L (dNow u) d w)))).2)) (cwV 0 hTB (gd_V k_156 k_157 k_158 k_52 k_159) rfl rfl rfl (by decide +kernel) ⟨Nat.le_of_ble_eq_true rfl, Nat.le_of_ble_eq_true rfl⟩) hK hP hD hA [5, 6, 7, 8, 9, 10] [0, 1, 2, 3, 4] rfl rfl (by decide) rfl (by decide) (by decide) 5 rfl rfl rfl hl.1 rfl (Nat.le_of_ble_eq_true rfl) d_Tree_move_180 ⟨Nat.zero_le _, Nat.zero_le _⟩ hS (fun H locs hP hD hS => ?_)
              have hP : va_P D cl5 (wT g k L (stl L ((adE L (stE L u (eof L (dNow u) d w) (nI 0) (nI 0)) d2 (nI w2) (nI (ino L (dNow u) (eof L (dNow u) d w)))).2)) (mvP L (dNow u) f0 (ino L (dNow u) (eof L (dNow u) d w)) (ent L (dNow u) d2 w2)) tl tp) H := hP
              have hD : va_D A (wT g k L (stl L ((adE L (stE L u (eof L (dNow u) d w) (nI 0) (nI 0)) d2 (nI w2) (nI (ino L (dNow u) (eof L (dNow u) d w)))).2)) (mvP L (dNow u) f0 (ino L (dNow u) (eof L (dNow u) d w)) (ent L (dNow u) d2 w2)) tl tp) := hD
              refine lv_iconst (v := nI 0) hx hb d_Tree_move_183 (by decide +kernel) ?_
              have hP9 : va_P D cl5 (wT g k L ((mvC L u f0 d w d2 w2).2) (mv2 L (dNow u) f0 d w d2 w2) tl tp) H := (by unfold mvC; rw [if_pos h27, if_pos h43, if_neg hne, if_pos h98]; unfold mvD; rw [if_pos h116, if_pos h163]; unfold mv2; rw [if_pos ⟨h27, h43, hne⟩]; exact hP)
              have hD9 : va_D A (wT g k L ((mvC L u f0 d w d2 w2).2) (mv2 L (dNow u) f0 d w d2 w2) tl tp) := (by unfold mvC; rw [if_pos h27, if_pos h43, if_neg hne, if_pos h98]; unfold mvD; rw [if_pos h116, if_pos h163]; unfold mv2; rw [if_pos ⟨h27, h43, hne⟩]; exact hD)
              exact W.iret (v := nI 0) hx hb hr (fun tt9 ht9 hW9 => ⟨⟨_, (), rfl, (by unfold mvC; rw [if_pos h27, if_pos h43, if_neg hne, if_pos h98]; unfold mvD; rw [if_pos h116, if_pos h163]), ⟨by rw [ht9]; exact hP9, hD9⟩⟩, hS.F ht9⟩) hS.2.2 d_Tree_move_184
            · refine lv_aload_n hx hb d_Tree_move_166 rfl (lv_at hl 4 rfl) ?_
              refine va_get (D := D) (ci := 3) (v := .ref (g 0)) (C := R_Tree) (T := T_Tree) (N := 5) hx hb hTB in_Tree hown hK hP 0 rfl rfl 0 (by decide) (hTB _ k_195) (fun _ h9 => h9) rfl d_Tree_move_167 ?_
              refine gz_muV (As := []) (rest := []) (wc := (wD g k L ((adE L (stE L u (eof L (dNow u) d w) (nI 0) (nI 0)) d2 (nI w2) (nI (ino L (dNow u) (eof L (dNow u) d w)))).2))) (w1 := (wD g k L (und L ((adE L (stE L u (eof L (dNow u) d w) (nI 0) (nI 0)) d2 (nI w2) (nI (ino L (dNow u) (eof L (dNow u) d w)))).2)))) (wr := (hT g k tl tp ++ (hR g k (mvP L (dNow u) f0 (ino L (dNow u) (eof L (dNow u) d w)) (ent L (dNow u) d2 w2)) ++ hI g))) ⟨hx, hb, hml, hown, hTB⟩ (c_Disk_undo l D g k L hL0 hL ((adE L (stE L u (eof L (dNow u) d w) (nI 0) (nI 0)) d2 (nI w2) (nI (ino L (dNow u) (eof L (dNow u) d w)))).2)) (cwV 0 hTB (gd_V k_435 k_436 k_437 k_52 k_438) rfl rfl rfl (by decide +kernel) ⟨Nat.le_of_ble_eq_true rfl, Nat.le_of_ble_eq_true rfl⟩) hK hP hD hA [5, 6, 7, 8, 9, 10] [0, 1, 2, 3, 4] rfl rfl (by decide) rfl (by decide) (by decide) 5 rfl rfl rfl hl.1 rfl (Nat.le_of_ble_eq_true rfl) d_Tree_move_170 ⟨Nat.zero_le _, Nat.zero_le _⟩ hS (fun H locs hP hD hS => ?_)
              have hP : va_P D cl5 (wT g k L (und L ((adE L (stE L u (eof L (dNow u) d w) (nI 0) (nI 0)) d2 (nI w2) (nI (ino L (dNow u) (eof L (dNow u) d w)))).2)) (mvP L (dNow u) f0 (ino L (dNow u) (eof L (dNow u) d w)) (ent L (dNow u) d2 w2)) tl tp) H := hP
              have hD : va_D A (wT g k L (und L ((adE L (stE L u (eof L (dNow u) d w) (nI 0) (nI 0)) d2 (nI w2) (nI (ino L (dNow u) (eof L (dNow u) d w)))).2)) (mvP L (dNow u) f0 (ino L (dNow u) (eof L (dNow u) d w)) (ent L (dNow u) d2 w2)) tl tp) := hD
              refine lv_bipush (v := (-4)) hx hb d_Tree_move_173 (by decide +kernel) ?_
              have hP9 : va_P D cl5 (wT g k L ((mvC L u f0 d w d2 w2).2) (mv2 L (dNow u) f0 d w d2 w2) tl tp) H := (by unfold mvC; rw [if_pos h27, if_pos h43, if_neg hne, if_pos h98]; unfold mvD; rw [if_pos h116, if_neg (by rw [h163]; decide)]; unfold mv2; rw [if_pos ⟨h27, h43, hne⟩]; exact hP)
              have hD9 : va_D A (wT g k L ((mvC L u f0 d w d2 w2).2) (mv2 L (dNow u) f0 d w d2 w2) tl tp) := (by unfold mvC; rw [if_pos h27, if_pos h43, if_neg hne, if_pos h98]; unfold mvD; rw [if_pos h116, if_neg (by rw [h163]; decide)]; unfold mv2; rw [if_pos ⟨h27, h43, hne⟩]; exact hD)
              exact W.iret (v := (-4)) hx hb hr (fun tt9 ht9 hW9 => ⟨⟨_, (), rfl, (by unfold mvC; rw [if_pos h27, if_pos h43, if_neg hne, if_pos h98]; unfold mvD; rw [if_pos h116, if_neg (by rw [h163]; decide)]), ⟨by rw [ht9]; exact hP9, hD9⟩⟩, hS.F ht9⟩) hS.2.2 d_Tree_move_175
          · refine lv_aload_n hx hb d_Tree_move_119 rfl (lv_at hl 4 rfl) ?_
            refine va_get (D := D) (ci := 3) (v := .ref (g 6)) (C := R_Tree) (T := T_Tree) (N := 5) hx hb hTB in_Tree hown hK hP 0 rfl rfl 1 (by decide) (hTB _ k_196) (fun _ h9 => h9) rfl d_Tree_move_120 ?_
            refine lv_aload_n hx hb d_Tree_move_123 rfl (lv_at hl 4 rfl) ?_
            refine va_get (D := D) (ci := 3) (v := .ref (g 7)) (C := R_Tree) (T := T_Tree) (N := 5) hx hb hTB in_Tree hown hK hP 0 rfl rfl 2 (by decide) (hTB _ k_197) (fun _ h9 => h9) rfl d_Tree_move_124 ?_
            refine lv_iload hx hb d_Tree_move_127 (lv_at hl 1 rfl) ?_
            refine gz_roV (As := [.int (ent L (dNow u) d2 w2)]) (rest := [.ref (g 6)]) (wc := (wR g k L (stE L u (eof L (dNow u) d w) (nI 0) (nI 0)) (mvP L (dNow u) f0 (ino L (dNow u) (eof L (dNow u) d w)) (ent L (dNow u) d2 w2)))) ⟨hx, hb, hml, hown, hTB⟩ (c_Dirs_inodeOf l D g k L hL0 hL (stE L u (eof L (dNow u) d w) (nI 0) (nI 0)) (mvP L (dNow u) f0 (ino L (dNow u) (eof L (dNow u) d w)) (ent L (dNow u) d2 w2)) (ent L (dNow u) d2 w2)) (cwV 1 hTB (gd_V k_450 k_451 k_452 k_55 k_453) rfl rfl rfl (by decide +kernel) ⟨Nat.le_of_ble_eq_true rfl, Nat.le_of_ble_eq_true rfl⟩) hK hP [2, 3, 4, 5, 6, 7, 8, 9, 10] rfl 2 rfl rfl rfl hl.1 rfl (Nat.le_of_ble_eq_true rfl) d_Tree_move_129 ⟨Nat.zero_le _, Nat.zero_le _⟩ hS (fun H locs hP hS => ?_)
            have := ino_lt L (dNow (stE L u (eof L (dNow u) d w) (nI 0) (nI 0))) (ent L (dNow u) d2 w2)
            refine gz_muV (As := [.int (nI (ino L (dNow (stE L u (eof L (dNow u) d w) (nI 0) (nI 0))) (ent L (dNow u) d2 w2)))]) (rest := []) (wc := (wI g k L (stE L u (eof L (dNow u) d w) (nI 0) (nI 0)))) (w1 := (wI g k L (rel L (stE L u (eof L (dNow u) d w) (nI 0) (nI 0)) (ino L (dNow (stE L u (eof L (dNow u) d w) (nI 0) (nI 0))) (ent L (dNow u) d2 w2))))) (wr := (hT g k tl tp ++ hR g k (mvP L (dNow u) f0 (ino L (dNow u) (eof L (dNow u) d w)) (ent L (dNow u) d2 w2)))) ⟨hx, hb, hml, hown, hTB⟩ (c_Inodes_release l D g k L hL0 hL (stE L u (eof L (dNow u) d w) (nI 0) (nI 0)) (ino L (dNow (stE L u (eof L (dNow u) d w) (nI 0) (nI 0))) (ent L (dNow u) d2 w2))) (cwV 1 hTB (gd_V k_534 k_535 k_536 k_54 k_537) rfl rfl rfl (by decide +kernel) ⟨Nat.le_of_ble_eq_true rfl, Nat.le_of_ble_eq_true rfl⟩) hK hP hD hA [4, 5, 6, 7, 8, 9, 10] [0, 1, 2, 3] rfl rfl (by decide) rfl (by decide) (by decide) 4 rfl rfl rfl hl.1 rfl (Nat.le_of_ble_eq_true rfl) d_Tree_move_132 ⟨Nat.zero_le _, Nat.zero_le _⟩ hS (fun H locs hP hD hS => ?_)
            have hP : va_P D cl5 (wT g k L (rel L (stE L u (eof L (dNow u) d w) (nI 0) (nI 0)) (ino L (dNow (stE L u (eof L (dNow u) d w) (nI 0) (nI 0))) (ent L (dNow u) d2 w2))) (mvP L (dNow u) f0 (ino L (dNow u) (eof L (dNow u) d w)) (ent L (dNow u) d2 w2)) tl tp) H := hP
            have hD : va_D A (wT g k L (rel L (stE L u (eof L (dNow u) d w) (nI 0) (nI 0)) (ino L (dNow (stE L u (eof L (dNow u) d w) (nI 0) (nI 0))) (ent L (dNow u) d2 w2))) (mvP L (dNow u) f0 (ino L (dNow u) (eof L (dNow u) d w)) (ent L (dNow u) d2 w2)) tl tp) := hD
            refine lv_aload_n hx hb d_Tree_move_135 rfl (lv_at hl 4 rfl) ?_
            refine va_get (D := D) (ci := 3) (v := .ref (g 7)) (C := R_Tree) (T := T_Tree) (N := 5) hx hb hTB in_Tree hown hK hP 0 rfl rfl 2 (by decide) (hTB _ k_197) (fun _ h9 => h9) rfl d_Tree_move_136 ?_
            refine lv_iload hx hb d_Tree_move_139 (lv_at hl 1 rfl) ?_
            refine lv_iload hx hb d_Tree_move_141 (lv_at hl 8 rfl) ?_
            refine lv_iload hx hb d_Tree_move_143 (lv_at hl 2 rfl) ?_
            refine gz_muV (As := [.int (ent L (dNow u) d2 w2), .int (nI w2), .int (nI (ino L (dNow u) (eof L (dNow u) d w)))]) (rest := []) (wc := (wR g k L (rel L (stE L u (eof L (dNow u) d w) (nI 0) (nI 0)) (ino L (dNow (stE L u (eof L (dNow u) d w) (nI 0) (nI 0))) (ent L (dNow u) d2 w2))) (mvP L (dNow u) f0 (ino L (dNow u) (eof L (dNow u) d w)) (ent L (dNow u) d2 w2)))) (w1 := (wR g k L (stE L (rel L (stE L u (eof L (dNow u) d w) (nI 0) (nI 0)) (ino L (dNow (stE L u (eof L (dNow u) d w) (nI 0) (nI 0))) (ent L (dNow u) d2 w2))) (ent L (dNow u) d2 w2) (nI w2) (nI (ino L (dNow u) (eof L (dNow u) d w)))) (mvP L (dNow u) f0 (ino L (dNow u) (eof L (dNow u) d w)) (ent L (dNow u) d2 w2)))) (wr := (hT g k tl tp)) ⟨hx, hb, hml, hown, hTB⟩ (c_Dirs_setEntry l D g k L hL0 hL (rel L (stE L u (eof L (dNow u) d w) (nI 0) (nI 0)) (ino L (dNow (stE L u (eof L (dNow u) d w) (nI 0) (nI 0))) (ent L (dNow u) d2 w2))) (mvP L (dNow u) f0 (ino L (dNow u) (eof L (dNow u) d w)) (ent L (dNow u) d2 w2)) (ent L (dNow u) d2 w2) (nI w2) (nI (ino L (dNow u) (eof L (dNow u) d w)))) (cwV 3 hTB (gd_V k_539 k_430 k_431 k_55 k_432) rfl rfl rfl (by decide +kernel) ⟨Nat.le_of_ble_eq_true rfl, Nat.le_of_ble_eq_true rfl⟩) hK hP hD hA [2, 3, 4, 5, 6, 7, 8, 9, 10] [0, 1] rfl rfl (by decide) rfl (by decide) (by decide) 2 rfl rfl rfl hl.1 rfl (Nat.le_of_ble_eq_true rfl) d_Tree_move_145 ⟨Nat.zero_le _, Nat.zero_le _⟩ hS (fun H locs hP hD hS => ?_)
            have hP : va_P D cl5 (wT g k L (stE L (rel L (stE L u (eof L (dNow u) d w) (nI 0) (nI 0)) (ino L (dNow (stE L u (eof L (dNow u) d w) (nI 0) (nI 0))) (ent L (dNow u) d2 w2))) (ent L (dNow u) d2 w2) (nI w2) (nI (ino L (dNow u) (eof L (dNow u) d w)))) (mvP L (dNow u) f0 (ino L (dNow u) (eof L (dNow u) d w)) (ent L (dNow u) d2 w2)) tl tp) H := hP
            have hD : va_D A (wT g k L (stE L (rel L (stE L u (eof L (dNow u) d w) (nI 0) (nI 0)) (ino L (dNow (stE L u (eof L (dNow u) d w) (nI 0) (nI 0))) (ent L (dNow u) d2 w2))) (ent L (dNow u) d2 w2) (nI w2) (nI (ino L (dNow u) (eof L (dNow u) d w)))) (mvP L (dNow u) f0 (ino L (dNow u) (eof L (dNow u) d w)) (ent L (dNow u) d2 w2)) tl tp) := hD
            refine lv_goto (tgt := 176) hx hb d_Tree_move_148 (by decide) ?_
            refine lv_aload_n hx hb d_Tree_move_176 rfl (lv_at hl 4 rfl) ?_
            refine va_get (D := D) (ci := 3) (v := .ref (g 0)) (C := R_Tree) (T := T_Tree) (N := 5) hx hb hTB in_Tree hown hK hP 0 rfl rfl 0 (by decide) (hTB _ k_195) (fun _ h9 => h9) rfl d_Tree_move_177 ?_
            refine gz_muV (As := []) (rest := []) (wc := (wD g k L (stE L (rel L (stE L u (eof L (dNow u) d w) (nI 0) (nI 0)) (ino L (dNow (stE L u (eof L (dNow u) d w) (nI 0) (nI 0))) (ent L (dNow u) d2 w2))) (ent L (dNow u) d2 w2) (nI w2) (nI (ino L (dNow u) (eof L (dNow u) d w)))))) (w1 := (wD g k L (stl L (stE L (rel L (stE L u (eof L (dNow u) d w) (nI 0) (nI 0)) (ino L (dNow (stE L u (eof L (dNow u) d w) (nI 0) (nI 0))) (ent L (dNow u) d2 w2))) (ent L (dNow u) d2 w2) (nI w2) (nI (ino L (dNow u) (eof L (dNow u) d w))))))) (wr := (hT g k tl tp ++ (hR g k (mvP L (dNow u) f0 (ino L (dNow u) (eof L (dNow u) d w)) (ent L (dNow u) d2 w2)) ++ hI g))) ⟨hx, hb, hml, hown, hTB⟩ (c_Disk_settle l D g k L hL0 hL (stE L (rel L (stE L u (eof L (dNow u) d w) (nI 0) (nI 0)) (ino L (dNow (stE L u (eof L (dNow u) d w) (nI 0) (nI 0))) (ent L (dNow u) d2 w2))) (ent L (dNow u) d2 w2) (nI w2) (nI (ino L (dNow u) (eof L (dNow u) d w))))) (cwV 0 hTB (gd_V k_156 k_157 k_158 k_52 k_159) rfl rfl rfl (by decide +kernel) ⟨Nat.le_of_ble_eq_true rfl, Nat.le_of_ble_eq_true rfl⟩) hK hP hD hA [5, 6, 7, 8, 9, 10] [0, 1, 2, 3, 4] rfl rfl (by decide) rfl (by decide) (by decide) 5 rfl rfl rfl hl.1 rfl (Nat.le_of_ble_eq_true rfl) d_Tree_move_180 ⟨Nat.zero_le _, Nat.zero_le _⟩ hS (fun H locs hP hD hS => ?_)
            have hP : va_P D cl5 (wT g k L (stl L (stE L (rel L (stE L u (eof L (dNow u) d w) (nI 0) (nI 0)) (ino L (dNow (stE L u (eof L (dNow u) d w) (nI 0) (nI 0))) (ent L (dNow u) d2 w2))) (ent L (dNow u) d2 w2) (nI w2) (nI (ino L (dNow u) (eof L (dNow u) d w))))) (mvP L (dNow u) f0 (ino L (dNow u) (eof L (dNow u) d w)) (ent L (dNow u) d2 w2)) tl tp) H := hP
            have hD : va_D A (wT g k L (stl L (stE L (rel L (stE L u (eof L (dNow u) d w) (nI 0) (nI 0)) (ino L (dNow (stE L u (eof L (dNow u) d w) (nI 0) (nI 0))) (ent L (dNow u) d2 w2))) (ent L (dNow u) d2 w2) (nI w2) (nI (ino L (dNow u) (eof L (dNow u) d w))))) (mvP L (dNow u) f0 (ino L (dNow u) (eof L (dNow u) d w)) (ent L (dNow u) d2 w2)) tl tp) := hD
            refine lv_iconst (v := nI 0) hx hb d_Tree_move_183 (by decide +kernel) ?_
            have hP9 : va_P D cl5 (wT g k L ((mvC L u f0 d w d2 w2).2) (mv2 L (dNow u) f0 d w d2 w2) tl tp) H := (by unfold mvC; rw [if_pos h27, if_pos h43, if_neg hne, if_pos h98]; unfold mvD; rw [if_neg h116]; unfold mv2; rw [if_pos ⟨h27, h43, hne⟩]; exact hP)
            have hD9 : va_D A (wT g k L ((mvC L u f0 d w d2 w2).2) (mv2 L (dNow u) f0 d w d2 w2) tl tp) := (by unfold mvC; rw [if_pos h27, if_pos h43, if_neg hne, if_pos h98]; unfold mvD; rw [if_neg h116]; unfold mv2; rw [if_pos ⟨h27, h43, hne⟩]; exact hD)
            exact W.iret (v := nI 0) hx hb hr (fun tt9 ht9 hW9 => ⟨⟨_, (), rfl, (by unfold mvC; rw [if_pos h27, if_pos h43, if_neg hne, if_pos h98]; unfold mvD; rw [if_neg h116]), ⟨by rw [ht9]; exact hP9, hD9⟩⟩, hS.F ht9⟩) hS.2.2 d_Tree_move_184
        · refine lv_iload hx hb d_Tree_move_101 (lv_at hl 0 rfl) ?_
          have hP9 : va_P D cl5 (wT g k L ((mvC L u f0 d w d2 w2).2) (mv2 L (dNow u) f0 d w d2 w2) tl tp) H := (by unfold mvC; rw [if_pos h27, if_pos h43, if_neg hne, if_neg h98]; unfold mv2; rw [if_pos ⟨h27, h43, hne⟩]; exact hP)
          have hD9 : va_D A (wT g k L ((mvC L u f0 d w d2 w2).2) (mv2 L (dNow u) f0 d w d2 w2) tl tp) := (by unfold mvC; rw [if_pos h27, if_pos h43, if_neg hne, if_neg h98]; unfold mv2; rw [if_pos ⟨h27, h43, hne⟩]; exact hD)
          exact W.iret (v := mvF L (dNow u) f0 (ino L (dNow u) (eof L (dNow u) d w)) d2 (ent L (dNow u) d2 w2)) hx hb hr (fun tt9 ht9 hW9 => ⟨⟨_, (), rfl, (by unfold mvC; rw [if_pos h27, if_pos h43, if_neg hne, if_neg h98]), ⟨by rw [ht9]; exact hP9, hD9⟩⟩, hS.F ht9⟩) hS.2.2 d_Tree_move_103
      · refine lv_iload_n hx hb d_Tree_move_54 rfl (lv_at hl 4 rfl) ?_
        refine lv_iload hx hb d_Tree_move_55 (lv_at hl 6 rfl) ?_
        refine gz_icmp_ne (tgt := 62) hx hb d_Tree_move_57 (by decide) (by omega) (by omega) (fun h57 => ?_) (fun h57 => ?_)
        · have hne : ¬ (d = d2 ∧ w = w2) := fun z => h57 z.2
          refine lv_aload_n hx hb d_Tree_move_62 rfl (lv_at hl 2 rfl) ?_
          refine va_get (D := D) (ci := 3) (v := .ref (g 7)) (C := R_Tree) (T := T_Tree) (N := 5) hx hb hTB in_Tree hown hK hP 0 rfl rfl 2 (by decide) (hTB _ k_197) (fun _ h9 => h9) rfl d_Tree_move_63 ?_
          refine lv_iload hx hb d_Tree_move_66 (lv_at hl 1 rfl) ?_
          refine gz_roV (As := [.int (eof L (dNow u) d w)]) (rest := []) (wc := (wR g k L u f0)) ⟨hx, hb, hml, hown, hTB⟩ (c_Dirs_inodeOf l D g k L hL0 hL u f0 (eof L (dNow u) d w)) (cwV 1 hTB (gd_V k_450 k_451 k_452 k_55 k_453) rfl rfl rfl (by decide +kernel) ⟨Nat.le_of_ble_eq_true rfl, Nat.le_of_ble_eq_true rfl⟩) hK hP [2, 3, 4, 5, 6, 7, 8, 9, 10] rfl 2 rfl rfl rfl hl.1 rfl (Nat.le_of_ble_eq_true rfl) d_Tree_move_68 ⟨Nat.zero_le _, Nat.zero_le _⟩ hS (fun H locs hP hS => ?_)
          have := ino_lt L (dNow u) (eof L (dNow u) d w)
          refine lv_istore (lv' := [(7, .int (nI (ino L (dNow u) (eof L (dNow u) d w)))), (6, .int (kfl (iK L (dNow u) d2) 2)), (5, .int (eof L (dNow u) d w)), (0, .ref (g 9)), (1, .int (nI d)), (2, .int (nI w)), (3, .int (nI d2)), (4, .int (nI w2))]) hx hb d_Tree_move_71 hl (by decide) rfl (fun ls hl => ?_)
          refine lv_aload_n hx hb d_Tree_move_73 rfl (lv_at hl 3 rfl) ?_
          refine va_get (D := D) (ci := 3) (v := .ref (g 7)) (C := R_Tree) (T := T_Tree) (N := 5) hx hb hTB in_Tree hown hK hP 0 rfl rfl 2 (by decide) (hTB _ k_197) (fun _ h9 => h9) rfl d_Tree_move_74 ?_
          refine lv_iload_n hx hb d_Tree_move_77 rfl (lv_at hl 6 rfl) ?_
          refine lv_iload hx hb d_Tree_move_78 (lv_at hl 7 rfl) ?_
          refine gz_roV (As := [.int (nI d2), .int (nI w2)]) (rest := []) (wc := (wR g k L u f0)) ⟨hx, hb, hml, hown, hTB⟩ (c_Dirs_entryNamed l D g k L hL0 hL u f0 d2 w2 (by omega)) (cwV 2 hTB (gd_V k_348 k_349 k_350 k_55 k_351) rfl rfl rfl (by decide +kernel) ⟨Nat.le_of_ble_eq_true rfl, Nat.le_of_ble_eq_true rfl⟩) hK hP [2, 3, 4, 5, 6, 7, 8, 9, 10] rfl 2 rfl rfl rfl hl.1 rfl (Nat.le_of_ble_eq_true rfl) d_Tree_move_80 ⟨Nat.zero_le _, Nat.zero_le _⟩ hS (fun H locs hP hS => ?_)
          refine lv_istore (lv' := [(8, .int (ent L (dNow u) d2 w2)), (7, .int (nI (ino L (dNow u) (eof L (dNow u) d w)))), (6, .int (kfl (iK L (dNow u) d2) 2)), (5, .int (eof L (dNow u) d w)), (0, .ref (g 9)), (1, .int (nI d)), (2, .int (nI w)), (3, .int (nI d2)), (4, .int (nI w2))]) hx hb d_Tree_move_83 hl (by decide) rfl (fun ls hl => ?_)
          refine lv_aload_n hx hb d_Tree_move_85 rfl (lv_at hl 4 rfl) ?_
          refine lv_iload hx hb d_Tree_move_86 (lv_at hl 1 rfl) ?_
          refine lv_iload_n hx hb d_Tree_move_88 rfl (lv_at hl 7 rfl) ?_
          refine lv_iload hx hb d_Tree_move_89 (lv_at hl 0 rfl) ?_
          refine gz_muI (As := [.int (nI (ino L (dNow u) (eof L (dNow u) d w))), .int (nI d2), .int (ent L (dNow u) d2 w2)]) (rest := []) (wc := (wT g k L u f0 tl tp)) (w1 := (wT g k L u (mvP L (dNow u) f0 (ino L (dNow u) (eof L (dNow u) d w)) (ent L (dNow u) d2 w2)) tl tp)) (wr := ([])) ⟨hx, hb, hml, hown, hTB⟩ (c_Tree_moveFault l D g k L hL0 hL u f0 tl tp (ino L (dNow u) (eof L (dNow u) d w)) d2 (ent L (dNow u) d2 w2) (by omega)) (cwV 3 hTB (gd_V k_508 k_510 k_12 k_51 k_511) rfl rfl rfl (by decide +kernel) ⟨Nat.le_of_ble_eq_true rfl, Nat.le_of_ble_eq_true rfl⟩) hK hP hD hA [0, 1, 2, 3, 4, 5, 6, 7, 8, 9, 10] [] rfl rfl (by decide) rfl (by decide) (by decide) 0 rfl rfl rfl hl.1 rfl (Nat.le_of_ble_eq_true rfl) d_Tree_move_91 ⟨Nat.zero_le _, Nat.zero_le _⟩ hS (fun H locs hP hD hS => ?_)
          have hP : va_P D cl5 (wT g k L u (mvP L (dNow u) f0 (ino L (dNow u) (eof L (dNow u) d w)) (ent L (dNow u) d2 w2)) tl tp) H := hP
          have hD : va_D A (wT g k L u (mvP L (dNow u) f0 (ino L (dNow u) (eof L (dNow u) d w)) (ent L (dNow u) d2 w2)) tl tp) := hD
          refine lv_istore (lv' := [(6, .int (mvF L (dNow u) f0 (ino L (dNow u) (eof L (dNow u) d w)) d2 (ent L (dNow u) d2 w2))), (8, .int (ent L (dNow u) d2 w2)), (7, .int (nI (ino L (dNow u) (eof L (dNow u) d w)))), (5, .int (eof L (dNow u) d w)), (0, .ref (g 9)), (1, .int (nI d)), (2, .int (nI w)), (3, .int (nI d2)), (4, .int (nI w2))]) hx hb d_Tree_move_94 hl (by decide) rfl (fun ls hl => ?_)
          refine lv_iload hx hb d_Tree_move_96 (lv_at hl 0 rfl) ?_
          refine lv_if_ge (tgt := 104) hx hb d_Tree_move_98 (by decide) (fun h98 => ?_) (fun h98 => ?_)
          · refine lv_aload_n hx hb d_Tree_move_104 rfl (lv_at hl 4 rfl) ?_
            refine va_get (D := D) (ci := 3) (v := .ref (g 7)) (C := R_Tree) (T := T_Tree) (N := 5) hx hb hTB in_Tree hown hK hP 0 rfl rfl 2 (by decide) (hTB _ k_197) (fun _ h9 => h9) rfl d_Tree_move_105 ?_
            refine lv_iload hx hb d_Tree_move_108 (lv_at hl 3 rfl) ?_
            refine gz_muV (As := [.int (eof L (dNow u) d w)]) (rest := []) (wc := (wR g k L u (mvP L (dNow u) f0 (ino L (dNow u) (eof L (dNow u) d w)) (ent L (dNow u) d2 w2)))) (w1 := (wR g k L (stE L u (eof L (dNow u) d w) (nI 0) (nI 0)) (mvP L (dNow u) f0 (ino L (dNow u) (eof L (dNow u) d w)) (ent L (dNow u) d2 w2)))) (wr := (hT g k tl tp)) ⟨hx, hb, hml, hown, hTB⟩ (c_Dirs_clearEntry l D g k L hL0 hL u (mvP L (dNow u) f0 (ino L (dNow u) (eof L (dNow u) d w)) (ent L (dNow u) d2 w2)) (eof L (dNow u) d w)) (cwV 1 hTB (gd_V k_530 k_531 k_532 k_55 k_533) rfl rfl rfl (by decide +kernel) ⟨Nat.le_of_ble_eq_true rfl, Nat.le_of_ble_eq_true rfl⟩) hK hP hD hA [2, 3, 4, 5, 6, 7, 8, 9, 10] [0, 1] rfl rfl (by decide) rfl (by decide) (by decide) 2 rfl rfl rfl hl.1 rfl (Nat.le_of_ble_eq_true rfl) d_Tree_move_110 ⟨Nat.zero_le _, Nat.zero_le _⟩ hS (fun H locs hP hD hS => ?_)
            have hP : va_P D cl5 (wT g k L (stE L u (eof L (dNow u) d w) (nI 0) (nI 0)) (mvP L (dNow u) f0 (ino L (dNow u) (eof L (dNow u) d w)) (ent L (dNow u) d2 w2)) tl tp) H := hP
            have hD : va_D A (wT g k L (stE L u (eof L (dNow u) d w) (nI 0) (nI 0)) (mvP L (dNow u) f0 (ino L (dNow u) (eof L (dNow u) d w)) (ent L (dNow u) d2 w2)) tl tp) := hD
            refine lv_iload hx hb d_Tree_move_113 (lv_at hl 1 rfl) ?_
            refine lv_iconst (v := (-1)) hx hb d_Tree_move_115 (by decide +kernel) ?_
            refine lv_icmp_eq (tgt := 151) hx hb d_Tree_move_116 (by decide) (fun h116 => ?_) (fun h116 => ?_)
            · refine lv_aload_n hx hb d_Tree_move_151 rfl (lv_at hl 4 rfl) ?_
              refine va_get (D := D) (ci := 3) (v := .ref (g 7)) (C := R_Tree) (T := T_Tree) (N := 5) hx hb hTB in_Tree hown hK hP 0 rfl rfl 2 (by decide) (hTB _ k_197) (fun _ h9 => h9) rfl d_Tree_move_152 ?_
              refine lv_iload_n hx hb d_Tree_move_155 rfl (lv_at hl 7 rfl) ?_
              refine lv_iload hx hb d_Tree_move_156 (lv_at hl 8 rfl) ?_
              refine lv_iload hx hb d_Tree_move_158 (lv_at hl 2 rfl) ?_
              refine gz_muI (As := [.int (nI d2), .int (nI w2), .int (nI (ino L (dNow u) (eof L (dNow u) d w)))]) (rest := []) (wc := (wR g k L (stE L u (eof L (dNow u) d w) (nI 0) (nI 0)) (mvP L (dNow u) f0 (ino L (dNow u) (eof L (dNow u) d w)) (ent L (dNow u) d2 w2)))) (w1 := (wR g k L ((adE L (stE L u (eof L (dNow u) d w) (nI 0) (nI 0)) d2 (nI w2) (nI (ino L (dNow u) (eof L (dNow u) d w)))).2) (mvP L (dNow u) f0 (ino L (dNow u) (eof L (dNow u) d w)) (ent L (dNow u) d2 w2)))) (wr := (hT g k tl tp)) ⟨hx, hb, hml, hown, hTB⟩ (c_Dirs_addEntry l D g k L hL0 hL (stE L u (eof L (dNow u) d w) (nI 0) (nI 0)) (mvP L (dNow u) f0 (ino L (dNow u) (eof L (dNow u) d w)) (ent L (dNow u) d2 w2)) d2 (nI w2) (nI (ino L (dNow u) (eof L (dNow u) d w)))) (cwV 3 hTB (gd_V k_386 k_387 k_388 k_55 k_389) rfl rfl rfl (by decide +kernel) ⟨Nat.le_of_ble_eq_true rfl, Nat.le_of_ble_eq_true rfl⟩) hK hP hD hA [2, 3, 4, 5, 6, 7, 8, 9, 10] [0, 1] rfl rfl (by decide) rfl (by decide) (by decide) 2 rfl rfl rfl hl.1 rfl (Nat.le_of_ble_eq_true rfl) d_Tree_move_160 ⟨Nat.zero_le _, Nat.zero_le _⟩ hS (fun H locs hP hD hS => ?_)
              have hP : va_P D cl5 (wT g k L ((adE L (stE L u (eof L (dNow u) d w) (nI 0) (nI 0)) d2 (nI w2) (nI (ino L (dNow u) (eof L (dNow u) d w)))).2) (mvP L (dNow u) f0 (ino L (dNow u) (eof L (dNow u) d w)) (ent L (dNow u) d2 w2)) tl tp) H := hP
              have hD : va_D A (wT g k L ((adE L (stE L u (eof L (dNow u) d w) (nI 0) (nI 0)) d2 (nI w2) (nI (ino L (dNow u) (eof L (dNow u) d w)))).2) (mvP L (dNow u) f0 (ino L (dNow u) (eof L (dNow u) d w)) (ent L (dNow u) d2 w2)) tl tp) := hD
              refine gz_ifz_ne (tgt := 176) hx hb d_Tree_move_163 (by decide) (fun h163 => ?_) (fun h163 => ?_)
              · refine lv_aload_n hx hb d_Tree_move_176 rfl (lv_at hl 4 rfl) ?_
                refine va_get (D := D) (ci := 3) (v := .ref (g 0)) (C := R_Tree) (T := T_Tree) (N := 5) hx hb hTB in_Tree hown hK hP 0 rfl rfl 0 (by decide) (hTB _ k_195) (fun _ h9 => h9) rfl d_Tree_move_177 ?_
                refine gz_muV (As := []) (rest := []) (wc := (wD g k L ((adE L (stE L u (eof L (dNow u) d w) (nI 0) (nI 0)) d2 (nI w2) (nI (ino L (dNow u) (eof L (dNow u) d w)))).2))) (w1 := (wD g k L (stl L ((adE L (stE L u (eof L (dNow u) d w) (nI 0) (nI 0)) d2 (nI w2) (nI (ino L (dNow u) (eof L (dNow u) d w)))).2)))) (wr := (hT g k tl tp ++ (hR g k (mvP L (dNow u) f0 (ino L (dNow u) (eof L (dNow u) d w)) (ent L (dNow u) d2 w2)) ++ hI g))) ⟨hx, hb, hml, hown, hTB⟩ (c_Disk_settle l D g k L hL0 hL ((adE L (stE L u (eof L (dNow u) d w) (nI 0) (nI 0)) d2 (nI w2) (nI (ino L (dNow u) (eof L (dNow u) d w)))).2)) (cwV 0 hTB (gd_V k_156 k_157 k_158 k_52 k_159) rfl rfl rfl (by decide +kernel) ⟨Nat.le_of_ble_eq_true rfl, Nat.le_of_ble_eq_true rfl⟩) hK hP hD hA [5, 6, 7, 8, 9, 10] [0, 1, 2, 3, 4] rfl rfl (by decide) rfl (by decide) (by decide) 5 rfl rfl rfl hl.1 rfl (Nat.le_of_ble_eq_true rfl) d_Tree_move_180 ⟨Nat.zero_le _, Nat.zero_le _⟩ hS (fun H locs hP hD hS => ?_)
                have hP : va_P D cl5 (wT g k L (stl L ((adE L (stE L u (eof L (dNow u) d w) (nI 0) (nI 0)) d2 (nI w2) (nI (ino L (dNow u) (eof L (dNow u) d w)))).2)) (mvP L (dNow u) f0 (ino L (dNow u) (eof L (dNow u) d w)) (ent L (dNow u) d2 w2)) tl tp) H := hP
                have hD : va_D A (wT g k L (stl L ((adE L (stE L u (eof L (dNow u) d w) (nI 0) (nI 0)) d2 (nI w2) (nI (ino L (dNow u) (eof L (dNow u) d w)))).2)) (mvP L (dNow u) f0 (ino L (dNow u) (eof L (dNow u) d w)) (ent L (dNow u) d2 w2)) tl tp) := hD
                refine lv_iconst (v := nI 0) hx hb d_Tree_move_183 (by decide +kernel) ?_
                have hP9 : va_P D cl5 (wT g k L ((mvC L u f0 d w d2 w2).2) (mv2 L (dNow u) f0 d w d2 w2) tl tp) H := (by unfold mvC; rw [if_pos h27, if_pos h43, if_neg hne, if_pos h98]; unfold mvD; rw [if_pos h116, if_pos h163]; unfold mv2; rw [if_pos ⟨h27, h43, hne⟩]; exact hP)
                have hD9 : va_D A (wT g k L ((mvC L u f0 d w d2 w2).2) (mv2 L (dNow u) f0 d w d2 w2) tl tp) := (by unfold mvC; rw [if_pos h27, if_pos h43, if_neg hne, if_pos h98]; unfold mvD; rw [if_pos h116, if_pos h163]; unfold mv2; rw [if_pos ⟨h27, h43, hne⟩]; exact hD)
                exact W.iret (v := nI 0) hx hb hr (fun tt9 ht9 hW9 => ⟨⟨_, (), rfl, (by unfold mvC; rw [if_pos h27, if_pos h43, if_neg hne, if_pos h98]; unfold mvD; rw [if_pos h116, if_pos h163]), ⟨by rw [ht9]; exact hP9, hD9⟩⟩, hS.F ht9⟩) hS.2.2 d_Tree_move_184
              · refine lv_aload_n hx hb d_Tree_move_166 rfl (lv_at hl 4 rfl) ?_
                refine va_get (D := D) (ci := 3) (v := .ref (g 0)) (C := R_Tree) (T := T_Tree) (N := 5) hx hb hTB in_Tree hown hK hP 0 rfl rfl 0 (by decide) (hTB _ k_195) (fun _ h9 => h9) rfl d_Tree_move_167 ?_
                refine gz_muV (As := []) (rest := []) (wc := (wD g k L ((adE L (stE L u (eof L (dNow u) d w) (nI 0) (nI 0)) d2 (nI w2) (nI (ino L (dNow u) (eof L (dNow u) d w)))).2))) (w1 := (wD g k L (und L ((adE L (stE L u (eof L (dNow u) d w) (nI 0) (nI 0)) d2 (nI w2) (nI (ino L (dNow u) (eof L (dNow u) d w)))).2)))) (wr := (hT g k tl tp ++ (hR g k (mvP L (dNow u) f0 (ino L (dNow u) (eof L (dNow u) d w)) (ent L (dNow u) d2 w2)) ++ hI g))) ⟨hx, hb, hml, hown, hTB⟩ (c_Disk_undo l D g k L hL0 hL ((adE L (stE L u (eof L (dNow u) d w) (nI 0) (nI 0)) d2 (nI w2) (nI (ino L (dNow u) (eof L (dNow u) d w)))).2)) (cwV 0 hTB (gd_V k_435 k_436 k_437 k_52 k_438) rfl rfl rfl (by decide +kernel) ⟨Nat.le_of_ble_eq_true rfl, Nat.le_of_ble_eq_true rfl⟩) hK hP hD hA [5, 6, 7, 8, 9, 10] [0, 1, 2, 3, 4] rfl rfl (by decide) rfl (by decide) (by decide) 5 rfl rfl rfl hl.1 rfl (Nat.le_of_ble_eq_true rfl) d_Tree_move_170 ⟨Nat.zero_le _, Nat.zero_le _⟩ hS (fun H locs hP hD hS => ?_)
                have hP : va_P D cl5 (wT g k L (und L ((adE L (stE L u (eof L (dNow u) d w) (nI 0) (nI 0)) d2 (nI w2) (nI (ino L (dNow u) (eof L (dNow u) d w)))).2)) (mvP L (dNow u) f0 (ino L (dNow u) (eof L (dNow u) d w)) (ent L (dNow u) d2 w2)) tl tp) H := hP
                have hD : va_D A (wT g k L (und L ((adE L (stE L u (eof L (dNow u) d w) (nI 0) (nI 0)) d2 (nI w2) (nI (ino L (dNow u) (eof L (dNow u) d w)))).2)) (mvP L (dNow u) f0 (ino L (dNow u) (eof L (dNow u) d w)) (ent L (dNow u) d2 w2)) tl tp) := hD
                refine lv_bipush (v := (-4)) hx hb d_Tree_move_173 (by decide +kernel) ?_
                have hP9 : va_P D cl5 (wT g k L ((mvC L u f0 d w d2 w2).2) (mv2 L (dNow u) f0 d w d2 w2) tl tp) H := (by unfold mvC; rw [if_pos h27, if_pos h43, if_neg hne, if_pos h98]; unfold mvD; rw [if_pos h116, if_neg (by rw [h163]; decide)]; unfold mv2; rw [if_pos ⟨h27, h43, hne⟩]; exact hP)
                have hD9 : va_D A (wT g k L ((mvC L u f0 d w d2 w2).2) (mv2 L (dNow u) f0 d w d2 w2) tl tp) := (by unfold mvC; rw [if_pos h27, if_pos h43, if_neg hne, if_pos h98]; unfold mvD; rw [if_pos h116, if_neg (by rw [h163]; decide)]; unfold mv2; rw [if_pos ⟨h27, h43, hne⟩]; exact hD)
                exact W.iret (v := (-4)) hx hb hr (fun tt9 ht9 hW9 => ⟨⟨_, (), rfl, (by unfold mvC; rw [if_pos h27, if_pos h43, if_neg hne, if_pos h98]; unfold mvD; rw [if_pos h116, if_neg (by rw [h163]; decide)]), ⟨by rw [ht9]; exact hP9, hD9⟩⟩, hS.F ht9⟩) hS.2.2 d_Tree_move_175
            · refine lv_aload_n hx hb d_Tree_move_119 rfl (lv_at hl 4 rfl) ?_
              refine va_get (D := D) (ci := 3) (v := .ref (g 6)) (C := R_Tree) (T := T_Tree) (N := 5) hx hb hTB in_Tree hown hK hP 0 rfl rfl 1 (by decide) (hTB _ k_196) (fun _ h9 => h9) rfl d_Tree_move_120 ?_
              refine lv_aload_n hx hb d_Tree_move_123 rfl (lv_at hl 4 rfl) ?_
              refine va_get (D := D) (ci := 3) (v := .ref (g 7)) (C := R_Tree) (T := T_Tree) (N := 5) hx hb hTB in_Tree hown hK hP 0 rfl rfl 2 (by decide) (hTB _ k_197) (fun _ h9 => h9) rfl d_Tree_move_124 ?_
              refine lv_iload hx hb d_Tree_move_127 (lv_at hl 1 rfl) ?_
              refine gz_roV (As := [.int (ent L (dNow u) d2 w2)]) (rest := [.ref (g 6)]) (wc := (wR g k L (stE L u (eof L (dNow u) d w) (nI 0) (nI 0)) (mvP L (dNow u) f0 (ino L (dNow u) (eof L (dNow u) d w)) (ent L (dNow u) d2 w2)))) ⟨hx, hb, hml, hown, hTB⟩ (c_Dirs_inodeOf l D g k L hL0 hL (stE L u (eof L (dNow u) d w) (nI 0) (nI 0)) (mvP L (dNow u) f0 (ino L (dNow u) (eof L (dNow u) d w)) (ent L (dNow u) d2 w2)) (ent L (dNow u) d2 w2)) (cwV 1 hTB (gd_V k_450 k_451 k_452 k_55 k_453) rfl rfl rfl (by decide +kernel) ⟨Nat.le_of_ble_eq_true rfl, Nat.le_of_ble_eq_true rfl⟩) hK hP [2, 3, 4, 5, 6, 7, 8, 9, 10] rfl 2 rfl rfl rfl hl.1 rfl (Nat.le_of_ble_eq_true rfl) d_Tree_move_129 ⟨Nat.zero_le _, Nat.zero_le _⟩ hS (fun H locs hP hS => ?_)
              have := ino_lt L (dNow (stE L u (eof L (dNow u) d w) (nI 0) (nI 0))) (ent L (dNow u) d2 w2)
              refine gz_muV (As := [.int (nI (ino L (dNow (stE L u (eof L (dNow u) d w) (nI 0) (nI 0))) (ent L (dNow u) d2 w2)))]) (rest := []) (wc := (wI g k L (stE L u (eof L (dNow u) d w) (nI 0) (nI 0)))) (w1 := (wI g k L (rel L (stE L u (eof L (dNow u) d w) (nI 0) (nI 0)) (ino L (dNow (stE L u (eof L (dNow u) d w) (nI 0) (nI 0))) (ent L (dNow u) d2 w2))))) (wr := (hT g k tl tp ++ hR g k (mvP L (dNow u) f0 (ino L (dNow u) (eof L (dNow u) d w)) (ent L (dNow u) d2 w2)))) ⟨hx, hb, hml, hown, hTB⟩ (c_Inodes_release l D g k L hL0 hL (stE L u (eof L (dNow u) d w) (nI 0) (nI 0)) (ino L (dNow (stE L u (eof L (dNow u) d w) (nI 0) (nI 0))) (ent L (dNow u) d2 w2))) (cwV 1 hTB (gd_V k_534 k_535 k_536 k_54 k_537) rfl rfl rfl (by decide +kernel) ⟨Nat.le_of_ble_eq_true rfl, Nat.le_of_ble_eq_true rfl⟩) hK hP hD hA [4, 5, 6, 7, 8, 9, 10] [0, 1, 2, 3] rfl rfl (by decide) rfl (by decide) (by decide) 4 rfl rfl rfl hl.1 rfl (Nat.le_of_ble_eq_true rfl) d_Tree_move_132 ⟨Nat.zero_le _, Nat.zero_le _⟩ hS (fun H locs hP hD hS => ?_)
              have hP : va_P D cl5 (wT g k L (rel L (stE L u (eof L (dNow u) d w) (nI 0) (nI 0)) (ino L (dNow (stE L u (eof L (dNow u) d w) (nI 0) (nI 0))) (ent L (dNow u) d2 w2))) (mvP L (dNow u) f0 (ino L (dNow u) (eof L (dNow u) d w)) (ent L (dNow u) d2 w2)) tl tp) H := hP
              have hD : va_D A (wT g k L (rel L (stE L u (eof L (dNow u) d w) (nI 0) (nI 0)) (ino L (dNow (stE L u (eof L (dNow u) d w) (nI 0) (nI 0))) (ent L (dNow u) d2 w2))) (mvP L (dNow u) f0 (ino L (dNow u) (eof L (dNow u) d w)) (ent L (dNow u) d2 w2)) tl tp) := hD
              refine lv_aload_n hx hb d_Tree_move_135 rfl (lv_at hl 4 rfl) ?_
              refine va_get (D := D) (ci := 3) (v := .ref (g 7)) (C := R_Tree) (T := T_Tree) (N := 5) hx hb hTB in_Tree hown hK hP 0 rfl rfl 2 (by decide) (hTB _ k_197) (fun _ h9 => h9) rfl d_Tree_move_136 ?_
              refine lv_iload hx hb d_Tree_move_139 (lv_at hl 1 rfl) ?_
              refine lv_iload hx hb d_Tree_move_141 (lv_at hl 8 rfl) ?_
              refine lv_iload hx hb d_Tree_move_143 (lv_at hl 2 rfl) ?_
              refine gz_muV (As := [.int (ent L (dNow u) d2 w2), .int (nI w2), .int (nI (ino L (dNow u) (eof L (dNow u) d w)))]) (rest := []) (wc := (wR g k L (rel L (stE L u (eof L (dNow u) d w) (nI 0) (nI 0)) (ino L (dNow (stE L u (eof L (dNow u) d w) (nI 0) (nI 0))) (ent L (dNow u) d2 w2))) (mvP L (dNow u) f0 (ino L (dNow u) (eof L (dNow u) d w)) (ent L (dNow u) d2 w2)))) (w1 := (wR g k L (stE L (rel L (stE L u (eof L (dNow u) d w) (nI 0) (nI 0)) (ino L (dNow (stE L u (eof L (dNow u) d w) (nI 0) (nI 0))) (ent L (dNow u) d2 w2))) (ent L (dNow u) d2 w2) (nI w2) (nI (ino L (dNow u) (eof L (dNow u) d w)))) (mvP L (dNow u) f0 (ino L (dNow u) (eof L (dNow u) d w)) (ent L (dNow u) d2 w2)))) (wr := (hT g k tl tp)) ⟨hx, hb, hml, hown, hTB⟩ (c_Dirs_setEntry l D g k L hL0 hL (rel L (stE L u (eof L (dNow u) d w) (nI 0) (nI 0)) (ino L (dNow (stE L u (eof L (dNow u) d w) (nI 0) (nI 0))) (ent L (dNow u) d2 w2))) (mvP L (dNow u) f0 (ino L (dNow u) (eof L (dNow u) d w)) (ent L (dNow u) d2 w2)) (ent L (dNow u) d2 w2) (nI w2) (nI (ino L (dNow u) (eof L (dNow u) d w)))) (cwV 3 hTB (gd_V k_539 k_430 k_431 k_55 k_432) rfl rfl rfl (by decide +kernel) ⟨Nat.le_of_ble_eq_true rfl, Nat.le_of_ble_eq_true rfl⟩) hK hP hD hA [2, 3, 4, 5, 6, 7, 8, 9, 10] [0, 1] rfl rfl (by decide) rfl (by decide) (by decide) 2 rfl rfl rfl hl.1 rfl (Nat.le_of_ble_eq_true rfl) d_Tree_move_145 ⟨Nat.zero_le _, Nat.zero_le _⟩ hS (fun H locs hP hD hS => ?_)
              have hP : va_P D cl5 (wT g k L (stE L (rel L (stE L u (eof L (dNow u) d w) (nI 0) (nI 0)) (ino L (dNow (stE L u (eof L (dNow u) d w) (nI 0) (nI 0))) (ent L (dNow u) d2 w2))) (ent L (dNow u) d2 w2) (nI w2) (nI (ino L (dNow u) (eof L (dNow u) d w)))) (mvP L (dNow u) f0 (ino L (dNow u) (eof L (dNow u) d w)) (ent L (dNow u) d2 w2)) tl tp) H := hP
              have hD : va_D A (wT g k L (stE L (rel L (stE L u (eof L (dNow u) d w) (nI 0) (nI 0)) (ino L (dNow (stE L u (eof L (dNow u) d w) (nI 0) (nI 0))) (ent L (dNow u) d2 w2))) (ent L (dNow u) d2 w2) (nI w2) (nI (ino L (dNow u) (eof L (dNow u) d w)))) (mvP L (dNow u) f0 (ino L (dNow u) (eof L (dNow u) d w)) (ent L (dNow u) d2 w2)) tl tp) := hD
              refine lv_goto (tgt := 176) hx hb d_Tree_move_148 (by decide) ?_
              refine lv_aload_n hx hb d_Tree_move_176 rfl (lv_at hl 4 rfl) ?_
              refine va_get (D := D) (ci := 3) (v := .ref (g 0)) (C := R_Tree) (T := T_Tree) (N := 5) hx hb hTB in_Tree hown hK hP 0 rfl rfl 0 (by decide) (hTB _ k_195) (fun _ h9 => h9) rfl d_Tree_move_177 ?_
              refine gz_muV (As := []) (rest := []) (wc := (wD g k L (stE L (rel L (stE L u (eof L (dNow u) d w) (nI 0) (nI 0)) (ino L (dNow (stE L u (eof L (dNow u) d w) (nI 0) (nI 0))) (ent L (dNow u) d2 w2))) (ent L (dNow u) d2 w2) (nI w2) (nI (ino L (dNow u) (eof L (dNow u) d w)))))) (w1 := (wD g k L (stl L (stE L (rel L (stE L u (eof L (dNow u) d w) (nI 0) (nI 0)) (ino L (dNow (stE L u (eof L (dNow u) d w) (nI 0) (nI 0))) (ent L (dNow u) d2 w2))) (ent L (dNow u) d2 w2) (nI w2) (nI (ino L (dNow u) (eof L (dNow u) d w))))))) (wr := (hT g k tl tp ++ (hR g k (mvP L (dNow u) f0 (ino L (dNow u) (eof L (dNow u) d w)) (ent L (dNow u) d2 w2)) ++ hI g))) ⟨hx, hb, hml, hown, hTB⟩ (c_Disk_settle l D g k L hL0 hL (stE L (rel L (stE L u (eof L (dNow u) d w) (nI 0) (nI 0)) (ino L (dNow (stE L u (eof L (dNow u) d w) (nI 0) (nI 0))) (ent L (dNow u) d2 w2))) (ent L (dNow u) d2 w2) (nI w2) (nI (ino L (dNow u) (eof L (dNow u) d w))))) (cwV 0 hTB (gd_V k_156 k_157 k_158 k_52 k_159) rfl rfl rfl (by decide +kernel) ⟨Nat.le_of_ble_eq_true rfl, Nat.le_of_ble_eq_true rfl⟩) hK hP hD hA [5, 6, 7, 8, 9, 10] [0, 1, 2, 3, 4] rfl rfl (by decide) rfl (by decide) (by decide) 5 rfl rfl rfl hl.1 rfl (Nat.le_of_ble_eq_true rfl) d_Tree_move_180 ⟨Nat.zero_le _, Nat.zero_le _⟩ hS (fun H locs hP hD hS => ?_)
              have hP : va_P D cl5 (wT g k L (stl L (stE L (rel L (stE L u (eof L (dNow u) d w) (nI 0) (nI 0)) (ino L (dNow (stE L u (eof L (dNow u) d w) (nI 0) (nI 0))) (ent L (dNow u) d2 w2))) (ent L (dNow u) d2 w2) (nI w2) (nI (ino L (dNow u) (eof L (dNow u) d w))))) (mvP L (dNow u) f0 (ino L (dNow u) (eof L (dNow u) d w)) (ent L (dNow u) d2 w2)) tl tp) H := hP
              have hD : va_D A (wT g k L (stl L (stE L (rel L (stE L u (eof L (dNow u) d w) (nI 0) (nI 0)) (ino L (dNow (stE L u (eof L (dNow u) d w) (nI 0) (nI 0))) (ent L (dNow u) d2 w2))) (ent L (dNow u) d2 w2) (nI w2) (nI (ino L (dNow u) (eof L (dNow u) d w))))) (mvP L (dNow u) f0 (ino L (dNow u) (eof L (dNow u) d w)) (ent L (dNow u) d2 w2)) tl tp) := hD
              refine lv_iconst (v := nI 0) hx hb d_Tree_move_183 (by decide +kernel) ?_
              have hP9 : va_P D cl5 (wT g k L ((mvC L u f0 d w d2 w2).2) (mv2 L (dNow u) f0 d w d2 w2) tl tp) H := (by unfold mvC; rw [if_pos h27, if_pos h43, if_neg hne, if_pos h98]; unfold mvD; rw [if_neg h116]; unfold mv2; rw [if_pos ⟨h27, h43, hne⟩]; exact hP)
              have hD9 : va_D A (wT g k L ((mvC L u f0 d w d2 w2).2) (mv2 L (dNow u) f0 d w d2 w2) tl tp) := (by unfold mvC; rw [if_pos h27, if_pos h43, if_neg hne, if_pos h98]; unfold mvD; rw [if_neg h116]; unfold mv2; rw [if_pos ⟨h27, h43, hne⟩]; exact hD)
              exact W.iret (v := nI 0) hx hb hr (fun tt9 ht9 hW9 => ⟨⟨_, (), rfl, (by unfold mvC; rw [if_pos h27, if_pos h43, if_neg hne, if_pos h98]; unfold mvD; rw [if_neg h116]), ⟨by rw [ht9]; exact hP9, hD9⟩⟩, hS.F ht9⟩) hS.2.2 d_Tree_move_184
          · refine lv_iload hx hb d_Tree_move_101 (lv_at hl 0 rfl) ?_
            have hP9 : va_P D cl5 (wT g k L ((mvC L u f0 d w d2 w2).2) (mv2 L (dNow u) f0 d w d2 w2) tl tp) H := (by unfold mvC; rw [if_pos h27, if_pos h43, if_neg hne, if_neg h98]; unfold mv2; rw [if_pos ⟨h27, h43, hne⟩]; exact hP)
            have hD9 : va_D A (wT g k L ((mvC L u f0 d w d2 w2).2) (mv2 L (dNow u) f0 d w d2 w2) tl tp) := (by unfold mvC; rw [if_pos h27, if_pos h43, if_neg hne, if_neg h98]; unfold mv2; rw [if_pos ⟨h27, h43, hne⟩]; exact hD)
            exact W.iret (v := mvF L (dNow u) f0 (ino L (dNow u) (eof L (dNow u) d w)) d2 (ent L (dNow u) d2 w2)) hx hb hr (fun tt9 ht9 hW9 => ⟨⟨_, (), rfl, (by unfold mvC; rw [if_pos h27, if_pos h43, if_neg hne, if_neg h98]), ⟨by rw [ht9]; exact hP9, hD9⟩⟩, hS.F ht9⟩) hS.2.2 d_Tree_move_103
        · refine lv_iconst (v := nI 0) hx hb d_Tree_move_60 (by decide +kernel) ?_
          have hP9 : va_P D cl5 (wT g k L ((mvC L u f0 d w d2 w2).2) (mv2 L (dNow u) f0 d w d2 w2) tl tp) H := (by unfold mvC; rw [if_pos h27, if_pos h43, if_pos ⟨h51, h57⟩]; unfold mv2; rw [if_neg (fun z => z.2.2 ⟨h51, h57⟩)]; exact hP)
          have hD9 : va_D A (wT g k L ((mvC L u f0 d w d2 w2).2) (mv2 L (dNow u) f0 d w d2 w2) tl tp) := (by unfold mvC; rw [if_pos h27, if_pos h43, if_pos ⟨h51, h57⟩]; unfold mv2; rw [if_neg (fun z => z.2.2 ⟨h51, h57⟩)]; exact hD)
          exact W.iret (v := nI 0) hx hb hr (fun tt9 ht9 hW9 => ⟨⟨_, (), rfl, (by unfold mvC; rw [if_pos h27, if_pos h43, if_pos ⟨h51, h57⟩]), ⟨by rw [ht9]; exact hP9, hD9⟩⟩, hS.F ht9⟩) hS.2.2 d_Tree_move_61
    · refine lv_iload hx hb d_Tree_move_46 (lv_at hl 0 rfl) ?_
      have hP9 : va_P D cl5 (wT g k L ((mvC L u f0 d w d2 w2).2) (mv2 L (dNow u) f0 d w d2 w2) tl tp) H := (by unfold mvC; rw [if_pos h27, if_neg h43]; unfold mv2; rw [if_neg (fun z => h43 z.2.1)]; exact hP)
      have hD9 : va_D A (wT g k L ((mvC L u f0 d w d2 w2).2) (mv2 L (dNow u) f0 d w d2 w2) tl tp) := (by unfold mvC; rw [if_pos h27, if_neg h43]; unfold mv2; rw [if_neg (fun z => h43 z.2.1)]; exact hD)
      exact W.iret (v := kfl (iK L (dNow u) d2) 2) hx hb hr (fun tt9 ht9 hW9 => ⟨⟨_, (), rfl, (by unfold mvC; rw [if_pos h27, if_neg h43]), ⟨by rw [ht9]; exact hP9, hD9⟩⟩, hS.F ht9⟩) hS.2.2 d_Tree_move_48
  · refine lv_iload hx hb d_Tree_move_30 (lv_at hl 0 rfl) ?_
    have hP9 : va_P D cl5 (wT g k L ((mvC L u f0 d w d2 w2).2) (mv2 L (dNow u) f0 d w d2 w2) tl tp) H := (by unfold mvC; rw [if_neg h27]; unfold mv2; rw [if_neg (fun z => h27 z.1)]; exact hP)
    have hD9 : va_D A (wT g k L ((mvC L u f0 d w d2 w2).2) (mv2 L (dNow u) f0 d w d2 w2) tl tp) := (by unfold mvC; rw [if_neg h27]; unfold mv2; rw [if_neg (fun z => h27 z.1)]; exact hD)
    exact W.iret (v := eof L (dNow u) d w) hx hb hr (fun tt9 ht9 hW9 => ⟨⟨_, (), rfl, (by unfold mvC; rw [if_neg h27]), ⟨by rw [ht9]; exact hP9, hD9⟩⟩, hS.F ht9⟩) hS.2.2 d_Tree_move_32
theorem d_Tree_remove_0 : decode b_Tree_remove 0 = .ok (.iload_n 1, 1) := by decide +kernel
theorem d_Tree_remove_1 : decode b_Tree_remove 1 = .ok (.invokestatic 66, 3) := by decide +kernel
theorem d_Tree_remove_4 : decode b_Tree_remove 4 = .ok (.iload_n 2, 1) := by decide +kernel
theorem d_Tree_remove_5 : decode b_Tree_remove 5 = .ok (.invokestatic 69, 3) := by decide +kernel
theorem d_Tree_remove_8 : decode b_Tree_remove 8 = .ok (.aload_n 0, 1) := by decide +kernel
theorem d_Tree_remove_9 : decode b_Tree_remove 9 = .ok (.iload_n 1, 1) := by decide +kernel
theorem d_Tree_remove_10 : decode b_Tree_remove 10 = .ok (.iload_n 2, 1) := by decide +kernel
theorem d_Tree_remove_11 : decode b_Tree_remove 11 = .ok (.invokevirtual 90, 3) := by decide +kernel
theorem d_Tree_remove_14 : decode b_Tree_remove 14 = .ok (.istore_n 3, 1) := by decide +kernel
theorem d_Tree_remove_15 : decode b_Tree_remove 15 = .ok (.iload_n 3, 1) := by decide +kernel
theorem d_Tree_remove_16 : decode b_Tree_remove 16 = .ok (.ifCond .ge 5, 3) := by decide +kernel
theorem d_Tree_remove_19 : decode b_Tree_remove 19 = .ok (.iload_n 3, 1) := by decide +kernel
theorem d_Tree_remove_20 : decode b_Tree_remove 20 = .ok (.ireturn, 1) := by decide +kernel
theorem d_Tree_remove_21 : decode b_Tree_remove 21 = .ok (.aload_n 0, 1) := by decide +kernel
theorem d_Tree_remove_22 : decode b_Tree_remove 22 = .ok (.getfield 32, 3) := by decide +kernel
theorem d_Tree_remove_25 : decode b_Tree_remove 25 = .ok (.iload_n 3, 1) := by decide +kernel
theorem d_Tree_remove_26 : decode b_Tree_remove 26 = .ok (.invokevirtual 93, 3) := by decide +kernel
theorem d_Tree_remove_29 : decode b_Tree_remove 29 = .ok (.istore 4, 2) := by decide +kernel
theorem d_Tree_remove_31 : decode b_Tree_remove 31 = .ok (.aload_n 0, 1) := by decide +kernel
theorem d_Tree_remove_32 : decode b_Tree_remove 32 = .ok (.iload 4, 2) := by decide +kernel
theorem d_Tree_remove_34 : decode b_Tree_remove 34 = .ok (.invokevirtual 137, 3) := by decide +kernel
theorem d_Tree_remove_37 : decode b_Tree_remove 37 = .ok (.ifCond .eq 6, 3) := by decide +kernel
theorem d_Tree_remove_40 : decode b_Tree_remove 40 = .ok (.bipush (-6), 2) := by decide +kernel
theorem d_Tree_remove_42 : decode b_Tree_remove 42 = .ok (.ireturn, 1) := by decide +kernel
theorem d_Tree_remove_43 : decode b_Tree_remove 43 = .ok (.aload_n 0, 1) := by decide +kernel
theorem d_Tree_remove_44 : decode b_Tree_remove 44 = .ok (.getfield 32, 3) := by decide +kernel
theorem d_Tree_remove_47 : decode b_Tree_remove 47 = .ok (.iload_n 3, 1) := by decide +kernel
theorem d_Tree_remove_48 : decode b_Tree_remove 48 = .ok (.invokevirtual 127, 3) := by decide +kernel
theorem d_Tree_remove_51 : decode b_Tree_remove 51 = .ok (.aload_n 0, 1) := by decide +kernel
theorem d_Tree_remove_52 : decode b_Tree_remove 52 = .ok (.getfield 23, 3) := by decide +kernel
theorem d_Tree_remove_55 : decode b_Tree_remove 55 = .ok (.iload 4, 2) := by decide +kernel
theorem d_Tree_remove_57 : decode b_Tree_remove 57 = .ok (.invokevirtual 130, 3) := by decide +kernel
theorem d_Tree_remove_60 : decode b_Tree_remove 60 = .ok (.aload_n 0, 1) := by decide +kernel
theorem d_Tree_remove_61 : decode b_Tree_remove 61 = .ok (.getfield 12, 3) := by decide +kernel
theorem d_Tree_remove_64 : decode b_Tree_remove 64 = .ok (.invokevirtual 48, 3) := by decide +kernel
theorem d_Tree_remove_67 : decode b_Tree_remove 67 = .ok (.iconst 0, 1) := by decide +kernel
theorem d_Tree_remove_68 : decode b_Tree_remove 68 = .ok (.ireturn, 1) := by decide +kernel
set_option maxHeartbeats 4000000 in
set_option maxRecDepth 100000 in
theorem c_Tree_remove (l : Launch) (D : va_G) (g : Nat → Nat) (k : Nat → ClassId) (L : Nat) (hL0 : 96 ≤ L) (hL : L ≤ 768) (u : DSt) (f0 : Nat → Int32) (tl : Nat) (tp : Nat → Int32) (d w : Nat) (hd0 : d < 64) (hw1 : 1 ≤ w) (hw2 : w ≤ 65535) : MuI l y_Tree_remove w_Tree_remove ({ frames := 8, cells := 0, slots := 0, locals := 200 }) [.ref (g 9), .int (nI d), .int (nI w)] D cl5 (tyC k) (wT g k L u f0 tl tp) (wT g k L ((rmC L u d w).2) f0 tl tp) ((rmC L u d w).1) := by
  intro sz
  refine Met.ofW (cc := b_Tree_remove) (maxL := 5) (ret := (some .int)) (by decide) rfl ?_
  intro p e s m args below meth c s₁ B hml hv
  obtain ⟨rfl, hsz, hP, hK, hD0⟩ := hv
  have hx := B.exec
  have hb := B.bytes
  have hr := B.returns
  have hts := atoms_spec (ws := w_Tree_remove) B.pre
  have hTB : ∀ w ∈ lw_tb, w.before _ s = true := fun w h => hts w (List.mem_cons_of_mem _ h)
  have hown : s.vm.findClass R_Tree = some m.cls := findClass_of_methodNamed B.named
  have hlocks := B.notSynchronized
  subst hsz
  have hD := hD0.self (sz := s.heap.size)
  generalize hAe : va_A (wT g k L u f0 tl tp) s.heap.size = A at hD ⊢
  have hA : ∀ q : Nat, s.heap.size ≤ q → A q := fun q h => by rw [← hAe]; exact Or.inr h
  have hS : va_S A s.heap s.heap [] := va_S.rf
  have hl := lv_entry ([.ref (g 9), .int (nI d), .int (nI w)]) (n := 5) (Nat.le_of_ble_eq_true rfl)
  rw [lg_entry_eq]
  generalize (lg_sl ([.ref (g 9), .int (nI d), .int (nI w)]) ++ List.replicate (5 - (lg_sl ([.ref (g 9), .int (nI d), .int (nI w)])).length) Slot.unset).toArray = ls at hl ⊢
  have hl : lv_has ls 5 [(0, .ref (g 9)), (1, .int (nI d)), (2, .int (nI w))] := hl
  refine lv_iload_n hx hb d_Tree_remove_0 rfl (lv_at hl 1 rfl) ?_
  refine gz_roSv (As := [.int (nI d)]) (rest := []) ⟨hx, hb, hml, hown, hTB⟩ (c_Tree_checkInode l d (by omega)) (cwS 1 hTB (gd_S k_327 k_328 k_51 k_329) rfl rfl rfl (by decide +kernel) ⟨Nat.le_of_ble_eq_true rfl, Nat.le_of_ble_eq_true rfl⟩) hP rfl hl.1 rfl (Nat.le_of_ble_eq_true rfl) d_Tree_remove_1 ⟨Nat.zero_le _, Nat.zero_le _⟩ hS (fun H locs hP hS => ?_)
  refine lv_iload_n hx hb d_Tree_remove_4 rfl (lv_at hl 2 rfl) ?_
  refine gz_roSv (As := [.int (nI w)]) (rest := []) ⟨hx, hb, hml, hown, hTB⟩ (c_Tree_checkName l w (by omega) (by omega)) (cwS 1 hTB (gd_S k_331 k_332 k_51 k_333) rfl rfl rfl (by decide +kernel) ⟨Nat.le_of_ble_eq_true rfl, Nat.le_of_ble_eq_true rfl⟩) hP rfl hl.1 rfl (Nat.le_of_ble_eq_true rfl) d_Tree_remove_5 ⟨Nat.zero_le _, Nat.zero_le _⟩ hS (fun H locs hP hS => ?_)
  refine lv_aload_n hx hb d_Tree_remove_8 rfl (lv_at hl 0 rfl) ?_
  refine lv_iload_n hx hb d_Tree_remove_9 rfl (lv_at hl 1 rfl) ?_
  refine lv_iload_n hx hb d_Tree_remove_10 rfl (lv_at hl 2 rfl) ?_
  refine gz_roV (As := [.int (nI d), .int (nI w)]) (rest := []) (wc := (wT g k L u f0 tl tp)) ⟨hx, hb, hml, hown, hTB⟩ (c_Tree_entryOrFault l D g k L hL0 hL u f0 tl tp d w (by omega)) (cwV 2 hTB (gd_V k_446 k_448 k_11 k_51 k_449) rfl rfl rfl (by decide +kernel) ⟨Nat.le_of_ble_eq_true rfl, Nat.le_of_ble_eq_true rfl⟩) hK hP [0, 1, 2, 3, 4, 5, 6, 7, 8, 9, 10] rfl 0 rfl rfl rfl hl.1 rfl (Nat.le_of_ble_eq_true rfl) d_Tree_remove_11 ⟨Nat.zero_le _, Nat.zero_le _⟩ hS (fun H locs hP hS => ?_)
  refine lv_istore_n (lv' := [(3, .int (eof L (dNow u) d w)), (0, .ref (g 9)), (1, .int (nI d)), (2, .int (nI w))]) hx hb d_Tree_remove_14 rfl hl (by decide) rfl (fun ls hl => ?_)
  refine lv_iload_n hx hb d_Tree_remove_15 rfl (lv_at hl 0 rfl) ?_
  refine lv_if_ge (tgt := 21) hx hb d_Tree_remove_16 (by decide) (fun h16 => ?_) (fun h16 => ?_)
  · refine lv_aload_n hx hb d_Tree_remove_21 rfl (lv_at hl 1 rfl) ?_
    refine va_get (D := D) (ci := 3) (v := .ref (g 7)) (C := R_Tree) (T := T_Tree) (N := 5) hx hb hTB in_Tree hown hK hP 0 rfl rfl 2 (by decide) (hTB _ k_197) (fun _ h9 => h9) rfl d_Tree_remove_22 ?_
    refine lv_iload_n hx hb d_Tree_remove_25 rfl (lv_at hl 0 rfl) ?_
    refine gz_roV (As := [.int (eof L (dNow u) d w)]) (rest := []) (wc := (wR g k L u f0)) ⟨hx, hb, hml, hown, hTB⟩ (c_Dirs_inodeOf l D g k L hL0 hL u f0 (eof L (dNow u) d w)) (cwV 1 hTB (gd_V k_450 k_451 k_452 k_55 k_453) rfl rfl rfl (by decide +kernel) ⟨Nat.le_of_ble_eq_true rfl, Nat.le_of_ble_eq_true rfl⟩) hK hP [2, 3, 4, 5, 6, 7, 8, 9, 10] rfl 2 rfl rfl rfl hl.1 rfl (Nat.le_of_ble_eq_true rfl) d_Tree_remove_26 ⟨Nat.zero_le _, Nat.zero_le _⟩ hS (fun H locs hP hS => ?_)
    have := ino_lt L (dNow u) (eof L (dNow u) d w)
    refine lv_istore (lv' := [(4, .int (nI (ino L (dNow u) (eof L (dNow u) d w)))), (3, .int (eof L (dNow u) d w)), (0, .ref (g 9)), (1, .int (nI d)), (2, .int (nI w))]) hx hb d_Tree_remove_29 hl (by decide) rfl (fun ls hl => ?_)
    refine lv_aload_n hx hb d_Tree_remove_31 rfl (lv_at hl 2 rfl) ?_
    refine lv_iload hx hb d_Tree_remove_32 (lv_at hl 0 rfl) ?_
    refine gz_roV (As := [.int (nI (ino L (dNow u) (eof L (dNow u) d w)))]) (rest := []) (wc := (wT g k L u f0 tl tp)) ⟨hx, hb, hml, hown, hTB⟩ (c_Tree_hasEntries l D g k L hL0 hL u f0 tl tp (ino L (dNow u) (eof L (dNow u) d w))) (cwV 1 hTB (gd_V k_512 k_514 k_13 k_51 k_515) rfl rfl rfl (by decide +kernel) ⟨Nat.le_of_ble_eq_true rfl, Nat.le_of_ble_eq_true rfl⟩) hK hP [0, 1, 2, 3, 4, 5, 6, 7, 8, 9, 10] rfl 0 rfl rfl rfl hl.1 rfl (Nat.le_of_ble_eq_true rfl) d_Tree_remove_34 ⟨Nat.zero_le _, Nat.zero_le _⟩ hS (fun H locs hP hS => ?_)
    refine gz_ifz_eq (tgt := 43) hx hb d_Tree_remove_37 (by decide) (fun h37 => ?_) (fun h37 => ?_)
    · refine lv_aload_n hx hb d_Tree_remove_43 rfl (lv_at hl 2 rfl) ?_
      refine va_get (D := D) (ci := 3) (v := .ref (g 7)) (C := R_Tree) (T := T_Tree) (N := 5) hx hb hTB in_Tree hown hK hP 0 rfl rfl 2 (by decide) (hTB _ k_197) (fun _ h9 => h9) rfl d_Tree_remove_44 ?_
      refine lv_iload_n hx hb d_Tree_remove_47 rfl (lv_at hl 1 rfl) ?_
      refine gz_muV (As := [.int (eof L (dNow u) d w)]) (rest := []) (wc := (wR g k L u f0)) (w1 := (wR g k L (stE L u (eof L (dNow u) d w) (nI 0) (nI 0)) f0)) (wr := (hT g k tl tp)) ⟨hx, hb, hml, hown, hTB⟩ (c_Dirs_clearEntry l D g k L hL0 hL u f0 (eof L (dNow u) d w)) (cwV 1 hTB (gd_V k_530 k_531 k_532 k_55 k_533) rfl rfl rfl (by decide +kernel) ⟨Nat.le_of_ble_eq_true rfl, Nat.le_of_ble_eq_true rfl⟩) hK hP hD hA [2, 3, 4, 5, 6, 7, 8, 9, 10] [0, 1] rfl rfl (by decide) rfl (by decide) (by decide) 2 rfl rfl rfl hl.1 rfl (Nat.le_of_ble_eq_true rfl) d_Tree_remove_48 ⟨Nat.zero_le _, Nat.zero_le _⟩ hS (fun H locs hP hD hS => ?_)
      have hP : va_P D cl5 (wT g k L (stE L u (eof L (dNow u) d w) (nI 0) (nI 0)) f0 tl tp) H := hP
      have hD : va_D A (wT g k L (stE L u (eof L (dNow u) d w) (nI 0) (nI 0)) f0 tl tp) := hD
      refine lv_aload_n hx hb d_Tree_remove_51 rfl (lv_at hl 2 rfl) ?_
      refine va_get (D := D) (ci := 3) (v := .ref (g 6)) (C := R_Tree) (T := T_Tree) (N := 5) hx hb hTB in_Tree hown hK hP 0 rfl rfl 1 (by decide) (hTB _ k_196) (fun _ h9 => h9) rfl d_Tree_remove_52 ?_
      refine lv_iload hx hb d_Tree_remove_55 (lv_at hl 0 rfl) ?_
      refine gz_muV (As := [.int (nI (ino L (dNow u) (eof L (dNow u) d w)))]) (rest := []) (wc := (wI g k L (stE L u (eof L (dNow u) d w) (nI 0) (nI 0)))) (w1 := (wI g k L (rel L (stE L u (eof L (dNow u) d w) (nI 0) (nI 0)) (ino L (dNow u) (eof L (dNow u) d w))))) (wr := (hT g k tl tp ++ hR g k f0)) ⟨hx, hb, hml, hown, hTB⟩ (c_Inodes_release l D g k L hL0 hL (stE L u (eof L (dNow u) d w) (nI 0) (nI 0)) (ino L (dNow u) (eof L (dNow u) d w))) (cwV 1 hTB (gd_V k_534 k_535 k_536 k_54 k_537) rfl rfl rfl (by decide +kernel) ⟨Nat.le_of_ble_eq_true rfl, Nat.le_of_ble_eq_true rfl⟩) hK hP hD hA [4, 5, 6, 7, 8, 9, 10] [0, 1, 2, 3] rfl rfl (by decide) rfl (by decide) (by decide) 4 rfl rfl rfl hl.1 rfl (Nat.le_of_ble_eq_true rfl) d_Tree_remove_57 ⟨Nat.zero_le _, Nat.zero_le _⟩ hS (fun H locs hP hD hS => ?_)
      have hP : va_P D cl5 (wT g k L (rel L (stE L u (eof L (dNow u) d w) (nI 0) (nI 0)) (ino L (dNow u) (eof L (dNow u) d w))) f0 tl tp) H := hP
      have hD : va_D A (wT g k L (rel L (stE L u (eof L (dNow u) d w) (nI 0) (nI 0)) (ino L (dNow u) (eof L (dNow u) d w))) f0 tl tp) := hD
      refine lv_aload_n hx hb d_Tree_remove_60 rfl (lv_at hl 2 rfl) ?_
      refine va_get (D := D) (ci := 3) (v := .ref (g 0)) (C := R_Tree) (T := T_Tree) (N := 5) hx hb hTB in_Tree hown hK hP 0 rfl rfl 0 (by decide) (hTB _ k_195) (fun _ h9 => h9) rfl d_Tree_remove_61 ?_
      refine gz_muV (As := []) (rest := []) (wc := (wD g k L (rel L (stE L u (eof L (dNow u) d w) (nI 0) (nI 0)) (ino L (dNow u) (eof L (dNow u) d w))))) (w1 := (wD g k L (stl L (rel L (stE L u (eof L (dNow u) d w) (nI 0) (nI 0)) (ino L (dNow u) (eof L (dNow u) d w)))))) (wr := (hT g k tl tp ++ (hR g k f0 ++ hI g))) ⟨hx, hb, hml, hown, hTB⟩ (c_Disk_settle l D g k L hL0 hL (rel L (stE L u (eof L (dNow u) d w) (nI 0) (nI 0)) (ino L (dNow u) (eof L (dNow u) d w)))) (cwV 0 hTB (gd_V k_156 k_157 k_158 k_52 k_159) rfl rfl rfl (by decide +kernel) ⟨Nat.le_of_ble_eq_true rfl, Nat.le_of_ble_eq_true rfl⟩) hK hP hD hA [5, 6, 7, 8, 9, 10] [0, 1, 2, 3, 4] rfl rfl (by decide) rfl (by decide) (by decide) 5 rfl rfl rfl hl.1 rfl (Nat.le_of_ble_eq_true rfl) d_Tree_remove_64 ⟨Nat.zero_le _, Nat.zero_le _⟩ hS (fun H locs hP hD hS => ?_)
      have hP : va_P D cl5 (wT g k L (stl L (rel L (stE L u (eof L (dNow u) d w) (nI 0) (nI 0)) (ino L (dNow u) (eof L (dNow u) d w)))) f0 tl tp) H := hP
      have hD : va_D A (wT g k L (stl L (rel L (stE L u (eof L (dNow u) d w) (nI 0) (nI 0)) (ino L (dNow u) (eof L (dNow u) d w)))) f0 tl tp) := hD
      refine lv_iconst (v := nI 0) hx hb d_Tree_remove_67 (by decide +kernel) ?_
      have hP9 : va_P D cl5 (wT g k L ((rmC L u d w).2) f0 tl tp) H := (by unfold rmC; rw [if_pos h16, if_neg (by rw [h37]; decide)]; exact hP)
      have hD9 : va_D A (wT g k L ((rmC L u d w).2) f0 tl tp) := (by unfold rmC; rw [if_pos h16, if_neg (by rw [h37]; decide)]; exact hD)
      exact W.iret (v := nI 0) hx hb hr (fun tt9 ht9 hW9 => ⟨⟨_, (), rfl, (by unfold rmC; rw [if_pos h16, if_neg (by rw [h37]; decide)]), ⟨by rw [ht9]; exact hP9, hD9⟩⟩, hS.F ht9⟩) hS.2.2 d_Tree_remove_68
    · refine lv_bipush (v := (-6)) hx hb d_Tree_remove_40 (by decide +kernel) ?_
      have hP9 : va_P D cl5 (wT g k L ((rmC L u d w).2) f0 tl tp) H := (by unfold rmC; rw [if_pos h16, if_pos h37]; exact hP)
      have hD9 : va_D A (wT g k L ((rmC L u d w).2) f0 tl tp) := (by unfold rmC; rw [if_pos h16, if_pos h37]; exact hD)
      exact W.iret (v := (-6)) hx hb hr (fun tt9 ht9 hW9 => ⟨⟨_, (), rfl, (by unfold rmC; rw [if_pos h16, if_pos h37]), ⟨by rw [ht9]; exact hP9, hD9⟩⟩, hS.F ht9⟩) hS.2.2 d_Tree_remove_42
  · refine lv_iload_n hx hb d_Tree_remove_19 rfl (lv_at hl 0 rfl) ?_
    have hP9 : va_P D cl5 (wT g k L ((rmC L u d w).2) f0 tl tp) H := (by unfold rmC; rw [if_neg h16]; exact hP)
    have hD9 : va_D A (wT g k L ((rmC L u d w).2) f0 tl tp) := (by unfold rmC; rw [if_neg h16]; exact hD)
    exact W.iret (v := eof L (dNow u) d w) hx hb hr (fun tt9 ht9 hW9 => ⟨⟨_, (), rfl, (by unfold rmC; rw [if_neg h16]), ⟨by rw [ht9]; exact hP9, hD9⟩⟩, hS.F ht9⟩) hS.2.2 d_Tree_remove_20
theorem d_Tree_node_0 : decode b_Tree_node 0 = .ok (.iload_n 1, 1) := by decide +kernel
theorem d_Tree_node_1 : decode b_Tree_node 1 = .ok (.invokestatic 66, 3) := by decide +kernel
theorem d_Tree_node_4 : decode b_Tree_node 4 = .ok (.iload_n 2, 1) := by decide +kernel
theorem d_Tree_node_5 : decode b_Tree_node 5 = .ok (.ifCond .lt 19, 3) := by decide +kernel
theorem d_Tree_node_8 : decode b_Tree_node 8 = .ok (.iload_n 2, 1) := by decide +kernel
theorem d_Tree_node_9 : decode b_Tree_node 9 = .ok (.iconst 3, 1) := by decide +kernel
theorem d_Tree_node_10 : decode b_Tree_node 10 = .ok (.iconst 2, 1) := by decide +kernel
theorem d_Tree_node_11 : decode b_Tree_node 11 = .ok (.aload_n 0, 1) := by decide +kernel
theorem d_Tree_node_12 : decode b_Tree_node 12 = .ok (.getfield 23, 3) := by decide +kernel
theorem d_Tree_node_15 : decode b_Tree_node 15 = .ok (.iload_n 1, 1) := by decide +kernel
theorem d_Tree_node_16 : decode b_Tree_node 16 = .ok (.invokevirtual 147, 3) := by decide +kernel
theorem d_Tree_node_19 : decode b_Tree_node 19 = .ok (.imul, 1) := by decide +kernel
theorem d_Tree_node_20 : decode b_Tree_node 20 = .ok (.iadd, 1) := by decide +kernel
theorem d_Tree_node_21 : decode b_Tree_node 21 = .ok (.if_icmp .lt 13, 3) := by decide +kernel
theorem d_Tree_node_24 : decode b_Tree_node 24 = .ok (.new 115, 3) := by decide +kernel
theorem d_Tree_node_27 : decode b_Tree_node 27 = .ok (.dup, 1) := by decide +kernel
theorem d_Tree_node_28 : decode b_Tree_node 28 = .ok (.ldc 150, 2) := by decide +kernel
theorem d_Tree_node_30 : decode b_Tree_node 30 = .ok (.invokespecial 119, 3) := by decide +kernel
theorem d_Tree_node_33 : decode b_Tree_node 33 = .ok (.athrow, 1) := by decide +kernel
theorem d_Tree_node_34 : decode b_Tree_node 34 = .ok (.iload_n 2, 1) := by decide +kernel
theorem d_Tree_node_35 : decode b_Tree_node 35 = .ok (.tableswitch 52 0 2 #[25, 34, 43], 25) := by decide +kernel
theorem d_Tree_node_60 : decode b_Tree_node 60 = .ok (.aload_n 0, 1) := by decide +kernel
theorem d_Tree_node_61 : decode b_Tree_node 61 = .ok (.getfield 23, 3) := by decide +kernel
theorem d_Tree_node_64 : decode b_Tree_node 64 = .ok (.iload_n 1, 1) := by decide +kernel
theorem d_Tree_node_65 : decode b_Tree_node 65 = .ok (.invokevirtual 152, 3) := by decide +kernel
theorem d_Tree_node_68 : decode b_Tree_node 68 = .ok (.ireturn, 1) := by decide +kernel
theorem d_Tree_node_69 : decode b_Tree_node 69 = .ok (.aload_n 0, 1) := by decide +kernel
theorem d_Tree_node_70 : decode b_Tree_node 70 = .ok (.getfield 23, 3) := by decide +kernel
theorem d_Tree_node_73 : decode b_Tree_node 73 = .ok (.iload_n 1, 1) := by decide +kernel
theorem d_Tree_node_74 : decode b_Tree_node 74 = .ok (.invokevirtual 97, 3) := by decide +kernel
theorem d_Tree_node_77 : decode b_Tree_node 77 = .ok (.ireturn, 1) := by decide +kernel
theorem d_Tree_node_78 : decode b_Tree_node 78 = .ok (.aload_n 0, 1) := by decide +kernel
theorem d_Tree_node_79 : decode b_Tree_node 79 = .ok (.getfield 23, 3) := by decide +kernel
theorem d_Tree_node_82 : decode b_Tree_node 82 = .ok (.iload_n 1, 1) := by decide +kernel
theorem d_Tree_node_83 : decode b_Tree_node 83 = .ok (.invokevirtual 147, 3) := by decide +kernel
theorem d_Tree_node_86 : decode b_Tree_node 86 = .ok (.ireturn, 1) := by decide +kernel
theorem d_Tree_node_87 : decode b_Tree_node 87 = .ok (.iload_n 2, 1) := by decide +kernel
theorem d_Tree_node_88 : decode b_Tree_node 88 = .ok (.iconst 3, 1) := by decide +kernel
theorem d_Tree_node_89 : decode b_Tree_node 89 = .ok (.isub, 1) := by decide +kernel
theorem d_Tree_node_90 : decode b_Tree_node 90 = .ok (.iconst 2, 1) := by decide +kernel
theorem d_Tree_node_91 : decode b_Tree_node 91 = .ok (.idiv, 1) := by decide +kernel
theorem d_Tree_node_92 : decode b_Tree_node 92 = .ok (.istore_n 3, 1) := by decide +kernel
theorem d_Tree_node_93 : decode b_Tree_node 93 = .ok (.iload_n 2, 1) := by decide +kernel
theorem d_Tree_node_94 : decode b_Tree_node 94 = .ok (.iconst 2, 1) := by decide +kernel
theorem d_Tree_node_95 : decode b_Tree_node 95 = .ok (.irem, 1) := by decide +kernel
theorem d_Tree_node_96 : decode b_Tree_node 96 = .ok (.iconst 1, 1) := by decide +kernel
theorem d_Tree_node_97 : decode b_Tree_node 97 = .ok (.if_icmp .ne 15, 3) := by decide +kernel
theorem d_Tree_node_100 : decode b_Tree_node 100 = .ok (.aload_n 0, 1) := by decide +kernel
theorem d_Tree_node_101 : decode b_Tree_node 101 = .ok (.getfield 23, 3) := by decide +kernel
theorem d_Tree_node_104 : decode b_Tree_node 104 = .ok (.iload_n 1, 1) := by decide +kernel
theorem d_Tree_node_105 : decode b_Tree_node 105 = .ok (.iload_n 3, 1) := by decide +kernel
theorem d_Tree_node_106 : decode b_Tree_node 106 = .ok (.invokevirtual 155, 3) := by decide +kernel
theorem d_Tree_node_109 : decode b_Tree_node 109 = .ok (.goto 12, 3) := by decide +kernel
theorem d_Tree_node_112 : decode b_Tree_node 112 = .ok (.aload_n 0, 1) := by decide +kernel
theorem d_Tree_node_113 : decode b_Tree_node 113 = .ok (.getfield 23, 3) := by decide +kernel
theorem d_Tree_node_116 : decode b_Tree_node 116 = .ok (.iload_n 1, 1) := by decide +kernel
theorem d_Tree_node_117 : decode b_Tree_node 117 = .ok (.iload_n 3, 1) := by decide +kernel
theorem d_Tree_node_118 : decode b_Tree_node 118 = .ok (.invokevirtual 158, 3) := by decide +kernel
theorem d_Tree_node_121 : decode b_Tree_node 121 = .ok (.ireturn, 1) := by decide +kernel
set_option maxHeartbeats 4000000 in
set_option maxRecDepth 100000 in
theorem c_Tree_node (l : Launch) (D : va_G) (g : Nat → Nat) (k : Nat → ClassId) (L : Nat) (hL0 : 96 ≤ L) (hL : L ≤ 768) (u : DSt) (f0 : Nat → Int32) (tl : Nat) (tp : Nat → Int32) (i w : Nat) (hi0 : i < 64) (hw0 : w < 3 + 2 * iX L (dNow u) i) : RoI l y_Tree_node w_Tree_node ({ frames := 8, cells := 0, slots := 0, locals := 130 }) [.ref (g 9), .int (nI i), .int (nI w)] (RoP D cl5 (tyC k) (wT g k L u f0 tl tp)) (nI (ndC L (dNow u) i w)) := by
  refine Met.ofW (cc := b_Tree_node) (maxL := 4) (ret := (some .int)) (by decide) rfl ?_
  intro p e s m args below meth c s₁ B hml hv
  obtain ⟨rfl, hP, hK⟩ := hv
  have hx := B.exec
  have hb := B.bytes
  have hr := B.returns
  have hts := atoms_spec (ws := w_Tree_node) B.pre
  have hTB : ∀ w ∈ lw_tb, w.before _ s = true := fun w h => hts w (List.mem_cons_of_mem _ h)
  have hown : s.vm.findClass R_Tree = some m.cls := findClass_of_methodNamed B.named
  have hlocks := B.notSynchronized
  have hS : va_S (fun _ => False) s.heap s.heap [] := va_S.rf
  have hl := lv_entry ([.ref (g 9), .int (nI i), .int (nI w)]) (n := 4) (Nat.le_of_ble_eq_true rfl)
  rw [lg_entry_eq]
  generalize (lg_sl ([.ref (g 9), .int (nI i), .int (nI w)]) ++ List.replicate (4 - (lg_sl ([.ref (g 9), .int (nI i), .int (nI w)])).length) Slot.unset).toArray = ls at hl ⊢
  have hl : lv_has ls 4 [(0, .ref (g 9)), (1, .int (nI i)), (2, .int (nI w))] := hl
  have hix0 := iX_lt L (dNow u) i
  refine lv_iload_n hx hb d_Tree_node_0 rfl (lv_at hl 1 rfl) ?_
  refine gz_roSv (As := [.int (nI i)]) (rest := []) ⟨hx, hb, hml, hown, hTB⟩ (c_Tree_checkInode l i (by omega)) (cwS 1 hTB (gd_S k_327 k_328 k_51 k_329) rfl rfl rfl (by decide +kernel) ⟨Nat.le_of_ble_eq_true rfl, Nat.le_of_ble_eq_true rfl⟩) hP rfl hl.1 rfl (Nat.le_of_ble_eq_true rfl) d_Tree_node_1 ⟨Nat.zero_le _, Nat.zero_le _⟩ hS (fun H locs hP hS => ?_)
  refine lv_iload_n hx hb d_Tree_node_4 rfl (lv_at hl 2 rfl) ?_
  refine gz_if_lt (tgt := 24) hx hb d_Tree_node_5 (by decide) (by omega) ?_
  refine lv_iload_n hx hb d_Tree_node_8 rfl (lv_at hl 2 rfl) ?_
  refine lv_iconst (v := nI 3) hx hb d_Tree_node_9 (by decide +kernel) ?_
  refine lv_iconst (v := nI 2) hx hb d_Tree_node_10 (by decide +kernel) ?_
  refine lv_aload_n hx hb d_Tree_node_11 rfl (lv_at hl 0 rfl) ?_
  refine va_get (D := D) (ci := 3) (v := .ref (g 6)) (C := R_Tree) (T := T_Tree) (N := 5) hx hb hTB in_Tree hown hK hP 0 rfl rfl 1 (by decide) (hTB _ k_196) (fun _ h9 => h9) rfl d_Tree_node_12 ?_
  refine lv_iload_n hx hb d_Tree_node_15 rfl (lv_at hl 1 rfl) ?_
  refine gz_roV (As := [.int (nI i)]) (rest := [.int (nI 2), .int (nI 3), .int (nI w)]) (wc := (wI g k L u)) ⟨hx, hb, hml, hown, hTB⟩ (c_Inodes_extents l D g k L hL0 hL u i) (cwV 1 hTB (gd_V k_554 k_366 k_367 k_54 k_368) rfl rfl rfl (by decide +kernel) ⟨Nat.le_of_ble_eq_true rfl, Nat.le_of_ble_eq_true rfl⟩) hK hP [4, 5, 6, 7, 8, 9, 10] rfl 4 rfl rfl rfl hl.1 rfl (Nat.le_of_ble_eq_true rfl) d_Tree_node_16 ⟨Nat.zero_le _, Nat.zero_le _⟩ hS (fun H locs hP hS => ?_)
  have := iX_lt L (dNow u) i
  refine gz_imul hx hb d_Tree_node_19 ?_
  refine gz_iadd hx hb d_Tree_node_20 ?_
  refine gz_icmp_lt (tgt := 34) hx hb d_Tree_node_21 (by decide) (by omega) (by omega) (fun h21 => ?_) (fun h21 => ?_)
  · refine lv_iload_n hx hb d_Tree_node_34 rfl (lv_at hl 2 rfl) ?_
    rcases (show w = 0 ∨ w = 1 ∨ w = 2 ∨ 2 < w by omega) with h35 | h35 | h35 | h35
    · refine lv_tableIn (off := 25) (tgt := 60) hx hb d_Tree_node_35 (by rw [h35]; decide) (by rw [h35]; decide) (by rw [h35]; decide +kernel) (by decide) ?_
      refine lv_aload_n hx hb d_Tree_node_60 rfl (lv_at hl 0 rfl) ?_
      refine va_get (D := D) (ci := 3) (v := .ref (g 6)) (C := R_Tree) (T := T_Tree) (N := 5) hx hb hTB in_Tree hown hK hP 0 rfl rfl 1 (by decide) (hTB _ k_196) (fun _ h9 => h9) rfl d_Tree_node_61 ?_
      refine lv_iload_n hx hb d_Tree_node_64 rfl (lv_at hl 1 rfl) ?_
      refine gz_roV (As := [.int (nI i)]) (rest := []) (wc := (wI g k L u)) ⟨hx, hb, hml, hown, hTB⟩ (c_Inodes_kind l D g k L hL0 hL u i) (cwV 1 hTB (gd_V k_340 k_341 k_342 k_54 k_343) rfl rfl rfl (by decide +kernel) ⟨Nat.le_of_ble_eq_true rfl, Nat.le_of_ble_eq_true rfl⟩) hK hP [4, 5, 6, 7, 8, 9, 10] rfl 4 rfl rfl rfl hl.1 rfl (Nat.le_of_ble_eq_true rfl) d_Tree_node_65 ⟨Nat.zero_le _, Nat.zero_le _⟩ hS (fun H locs hP hS => ?_)
      have := iK_lt L (dNow u) i
      exact W.iret (v := nI (iK L (dNow u) i)) hx hb hr (fun tt9 ht9 hW9 => ⟨⟨_, (), rfl, (by unfold ndC; rw [if_pos h35]), trivial⟩, hS.F ht9⟩) hS.2.2 d_Tree_node_68
    · refine lv_tableIn (off := 34) (tgt := 69) hx hb d_Tree_node_35 (by rw [h35]; decide) (by rw [h35]; decide) (by rw [h35]; decide +kernel) (by decide) ?_
      refine lv_aload_n hx hb d_Tree_node_69 rfl (lv_at hl 0 rfl) ?_
      refine va_get (D := D) (ci := 3) (v := .ref (g 6)) (C := R_Tree) (T := T_Tree) (N := 5) hx hb hTB in_Tree hown hK hP 0 rfl rfl 1 (by decide) (hTB _ k_196) (fun _ h9 => h9) rfl d_Tree_node_70 ?_
      refine lv_iload_n hx hb d_Tree_node_73 rfl (lv_at hl 1 rfl) ?_
      refine gz_roV (As := [.int (nI i)]) (rest := []) (wc := (wI g k L u)) ⟨hx, hb, hml, hown, hTB⟩ (c_Inodes_size l D g k L hL0 hL u i) (cwV 1 hTB (gd_V k_462 k_353 k_354 k_54 k_355) rfl rfl rfl (by decide +kernel) ⟨Nat.le_of_ble_eq_true rfl, Nat.le_of_ble_eq_true rfl⟩) hK hP [4, 5, 6, 7, 8, 9, 10] rfl 4 rfl rfl rfl hl.1 rfl (Nat.le_of_ble_eq_true rfl) d_Tree_node_74 ⟨Nat.zero_le _, Nat.zero_le _⟩ hS (fun H locs hP hS => ?_)
      have := iS_lt L (dNow u) i
      exact W.iret (v := nI (iS L (dNow u) i)) hx hb hr (fun tt9 ht9 hW9 => ⟨⟨_, (), rfl, (by unfold ndC; rw [if_neg (by omega), if_pos h35]), trivial⟩, hS.F ht9⟩) hS.2.2 d_Tree_node_77
    · refine lv_tableIn (off := 43) (tgt := 78) hx hb d_Tree_node_35 (by rw [h35]; decide) (by rw [h35]; decide) (by rw [h35]; decide +kernel) (by decide) ?_
      refine lv_aload_n hx hb d_Tree_node_78 rfl (lv_at hl 0 rfl) ?_
      refine va_get (D := D) (ci := 3) (v := .ref (g 6)) (C := R_Tree) (T := T_Tree) (N := 5) hx hb hTB in_Tree hown hK hP 0 rfl rfl 1 (by decide) (hTB _ k_196) (fun _ h9 => h9) rfl d_Tree_node_79 ?_
      refine lv_iload_n hx hb d_Tree_node_82 rfl (lv_at hl 1 rfl) ?_
      refine gz_roV (As := [.int (nI i)]) (rest := []) (wc := (wI g k L u)) ⟨hx, hb, hml, hown, hTB⟩ (c_Inodes_extents l D g k L hL0 hL u i) (cwV 1 hTB (gd_V k_554 k_366 k_367 k_54 k_368) rfl rfl rfl (by decide +kernel) ⟨Nat.le_of_ble_eq_true rfl, Nat.le_of_ble_eq_true rfl⟩) hK hP [4, 5, 6, 7, 8, 9, 10] rfl 4 rfl rfl rfl hl.1 rfl (Nat.le_of_ble_eq_true rfl) d_Tree_node_83 ⟨Nat.zero_le _, Nat.zero_le _⟩ hS (fun H locs hP hS => ?_)
      have := iX_lt L (dNow u) i
      exact W.iret (v := nI (iX L (dNow u) i)) hx hb hr (fun tt9 ht9 hW9 => ⟨⟨_, (), rfl, (by unfold ndC; rw [if_neg (by omega), if_neg (by omega), if_pos h35]), trivial⟩, hS.F ht9⟩) hS.2.2 d_Tree_node_86
    · refine lv_tableOut (tgt := 87) hx hb d_Tree_node_35 (Or.inr (by rw [nI_toInt (by omega)]; omega)) (by decide) ?_
      refine lv_iload_n hx hb d_Tree_node_87 rfl (lv_at hl 2 rfl) ?_
      refine lv_iconst (v := nI 3) hx hb d_Tree_node_88 (by decide +kernel) ?_
      refine gz_isub hx hb d_Tree_node_89 (by omega) ?_
      refine lv_iconst (v := nI 2) hx hb d_Tree_node_90 (by decide +kernel) ?_
      refine gz_idiv hx hb d_Tree_node_91 (by omega) (by decide) (by decide) ?_
      refine lv_istore_n (lv' := [(3, .int (nI ((w - 3) / 2))), (0, .ref (g 9)), (1, .int (nI i)), (2, .int (nI w))]) hx hb d_Tree_node_92 rfl hl (by decide) rfl (fun ls hl => ?_)
      refine lv_iload_n hx hb d_Tree_node_93 rfl (lv_at hl 3 rfl) ?_
      refine lv_iconst (v := nI 2) hx hb d_Tree_node_94 (by decide +kernel) ?_
      refine gz_irem hx hb d_Tree_node_95 (by omega) (by decide) (by decide) ?_
      refine lv_iconst (v := nI 1) hx hb d_Tree_node_96 (by decide +kernel) ?_
      refine gz_icmp_ne (tgt := 112) hx hb d_Tree_node_97 (by decide) (by omega) (by omega) (fun h97 => ?_) (fun h97 => ?_)
      · refine lv_aload_n hx hb d_Tree_node_112 rfl (lv_at hl 1 rfl) ?_
        refine va_get (D := D) (ci := 3) (v := .ref (g 6)) (C := R_Tree) (T := T_Tree) (N := 5) hx hb hTB in_Tree hown hK hP 0 rfl rfl 1 (by decide) (hTB _ k_196) (fun _ h9 => h9) rfl d_Tree_node_113 ?_
        refine lv_iload_n hx hb d_Tree_node_116 rfl (lv_at hl 2 rfl) ?_
        refine lv_iload_n hx hb d_Tree_node_117 rfl (lv_at hl 0 rfl) ?_
        refine gz_roV (As := [.int (nI i), .int (nI ((w - 3) / 2))]) (rest := []) (wc := (wI g k L u)) ⟨hx, hb, hml, hown, hTB⟩ (c_Inodes_extentLength l D g k L hL0 hL u i ((w - 3) / 2)) (cwV 2 hTB (gd_V k_557 k_370 k_371 k_54 k_372) rfl rfl rfl (by decide +kernel) ⟨Nat.le_of_ble_eq_true rfl, Nat.le_of_ble_eq_true rfl⟩) hK hP [4, 5, 6, 7, 8, 9, 10] rfl 4 rfl rfl rfl hl.1 rfl (Nat.le_of_ble_eq_true rfl) d_Tree_node_118 ⟨Nat.zero_le _, Nat.zero_le _⟩ hS (fun H locs hP hS => ?_)
        have := xL_lt L (dNow u) i ((w - 3) / 2)
        exact W.iret (v := nI (xL L (dNow u) i ((w - 3) / 2))) hx hb hr (fun tt9 ht9 hW9 => ⟨⟨_, (), rfl, (by unfold ndC; rw [if_neg (by omega), if_neg (by omega), if_neg (by omega), if_neg h97]), trivial⟩, hS.F ht9⟩) hS.2.2 d_Tree_node_121
      · refine lv_aload_n hx hb d_Tree_node_100 rfl (lv_at hl 1 rfl) ?_
        refine va_get (D := D) (ci := 3) (v := .ref (g 6)) (C := R_Tree) (T := T_Tree) (N := 5) hx hb hTB in_Tree hown hK hP 0 rfl rfl 1 (by decide) (hTB _ k_196) (fun _ h9 => h9) rfl d_Tree_node_101 ?_
        refine lv_iload_n hx hb d_Tree_node_104 rfl (lv_at hl 2 rfl) ?_
        refine lv_iload_n hx hb d_Tree_node_105 rfl (lv_at hl 0 rfl) ?_
        refine gz_roV (As := [.int (nI i), .int (nI ((w - 3) / 2))]) (rest := []) (wc := (wI g k L u)) ⟨hx, hb, hml, hown, hTB⟩ (c_Inodes_extentFirst l D g k L hL0 hL u i ((w - 3) / 2)) (cwV 2 hTB (gd_V k_556 k_377 k_378 k_54 k_379) rfl rfl rfl (by decide +kernel) ⟨Nat.le_of_ble_eq_true rfl, Nat.le_of_ble_eq_true rfl⟩) hK hP [4, 5, 6, 7, 8, 9, 10] rfl 4 rfl rfl rfl hl.1 rfl (Nat.le_of_ble_eq_true rfl) d_Tree_node_106 ⟨Nat.zero_le _, Nat.zero_le _⟩ hS (fun H locs hP hS => ?_)
        have := xF_lt L (dNow u) i ((w - 3) / 2)
        refine lv_goto (tgt := 121) hx hb d_Tree_node_109 (by decide) ?_
        exact W.iret (v := nI (xF L (dNow u) i ((w - 3) / 2))) hx hb hr (fun tt9 ht9 hW9 => ⟨⟨_, (), rfl, (by unfold ndC; rw [if_neg (by omega), if_neg (by omega), if_neg (by omega), if_pos h97]), trivial⟩, hS.F ht9⟩) hS.2.2 d_Tree_node_121
  · exact absurd h21 (by omega)
theorem d_Tree_at_0 : decode b_Tree_at 0 = .ok (.aload_n 0, 1) := by decide +kernel
theorem d_Tree_at_1 : decode b_Tree_at 1 = .ok (.getfield 12, 3) := by decide +kernel
theorem d_Tree_at_4 : decode b_Tree_at 4 = .ok (.iload_n 1, 1) := by decide +kernel
theorem d_Tree_at_5 : decode b_Tree_at 5 = .ok (.iload_n 2, 1) := by decide +kernel
theorem d_Tree_at_6 : decode b_Tree_at 6 = .ok (.invokevirtual 161, 3) := by decide +kernel
theorem d_Tree_at_9 : decode b_Tree_at 9 = .ok (.ifCond .ne 13, 3) := by decide +kernel
theorem d_Tree_at_12 : decode b_Tree_at 12 = .ok (.new 54, 3) := by decide +kernel
theorem d_Tree_at_15 : decode b_Tree_at 15 = .ok (.dup, 1) := by decide +kernel
theorem d_Tree_at_16 : decode b_Tree_at 16 = .ok (.ldc 164, 2) := by decide +kernel
theorem d_Tree_at_18 : decode b_Tree_at 18 = .ok (.invokespecial 58, 3) := by decide +kernel
theorem d_Tree_at_21 : decode b_Tree_at 21 = .ok (.athrow, 1) := by decide +kernel
theorem d_Tree_at_22 : decode b_Tree_at 22 = .ok (.iload_n 1, 1) := by decide +kernel
theorem d_Tree_at_23 : decode b_Tree_at 23 = .ok (.bipush 64, 2) := by decide +kernel
theorem d_Tree_at_25 : decode b_Tree_at 25 = .ok (.imul, 1) := by decide +kernel
theorem d_Tree_at_26 : decode b_Tree_at 26 = .ok (.iload_n 2, 1) := by decide +kernel
theorem d_Tree_at_27 : decode b_Tree_at 27 = .ok (.iadd, 1) := by decide +kernel
theorem d_Tree_at_28 : decode b_Tree_at 28 = .ok (.istore 4, 2) := by decide +kernel
theorem d_Tree_at_30 : decode b_Tree_at 30 = .ok (.iload_n 3, 1) := by decide +kernel
theorem d_Tree_at_31 : decode b_Tree_at 31 = .ok (.ifCond .eq 15, 3) := by decide +kernel
theorem d_Tree_at_34 : decode b_Tree_at 34 = .ok (.aload_n 0, 1) := by decide +kernel
theorem d_Tree_at_35 : decode b_Tree_at 35 = .ok (.getfield 12, 3) := by decide +kernel
theorem d_Tree_at_38 : decode b_Tree_at 38 = .ok (.iload 4, 2) := by decide +kernel
theorem d_Tree_at_40 : decode b_Tree_at 40 = .ok (.invokevirtual 166, 3) := by decide +kernel
theorem d_Tree_at_43 : decode b_Tree_at 43 = .ok (.goto 12, 3) := by decide +kernel
theorem d_Tree_at_46 : decode b_Tree_at 46 = .ok (.aload_n 0, 1) := by decide +kernel
theorem d_Tree_at_47 : decode b_Tree_at 47 = .ok (.getfield 12, 3) := by decide +kernel
theorem d_Tree_at_50 : decode b_Tree_at 50 = .ok (.iload 4, 2) := by decide +kernel
theorem d_Tree_at_52 : decode b_Tree_at 52 = .ok (.invokevirtual 120, 3) := by decide +kernel
theorem d_Tree_at_55 : decode b_Tree_at 55 = .ok (.ireturn, 1) := by decide +kernel
set_option maxHeartbeats 4000000 in
set_option maxRecDepth 100000 in
theorem c_Tree_at (l : Launch) (D : va_G) (g : Nat → Nat) (k : Nat → ClassId) (L : Nat) (hL0 : 96 ≤ L) (hL : L ≤ 768) (u : DSt) (f0 : Nat → Int32) (tl : Nat) (tp : Nat → Int32) (b j : Nat) (cm : Bool) (hb0 : b < L) (hj0 : j < 64) : RoI l y_Tree_at w_Tree_at ({ frames := 7, cells := 0, slots := 0, locals := 110 }) [.ref (g 9), .int (nI b), .int (nI j), .int (zI (cm))] (RoP D cl5 (tyC k) (wT g k L u f0 tl tp)) (nI (if cm then bN L (dCom u) (nI (b * 64 + j)) else bN L (dNow u) (nI (b * 64 + j)))) := by
  refine Met.ofW (cc := b_Tree_at) (maxL := 5) (ret := (some .int)) (by decide) rfl ?_
  intro p e s m args below meth c s₁ B hml hv
  obtain ⟨rfl, hP, hK⟩ := hv
  have hx := B.exec
  have hb := B.bytes
  have hr := B.returns
  have hts := atoms_spec (ws := w_Tree_at) B.pre
  have hTB : ∀ w ∈ lw_tb, w.before _ s = true := fun w h => hts w (List.mem_cons_of_mem _ h)
  have hown : s.vm.findClass R_Tree = some m.cls := findClass_of_methodNamed B.named
  have hlocks := B.notSynchronized
  have hS : va_S (fun _ => False) s.heap s.heap [] := va_S.rf
  have hl := lv_entry ([.ref (g 9), .int (nI b), .int (nI j), .int (zI (cm))]) (n := 5) (Nat.le_of_ble_eq_true rfl)
  rw [lg_entry_eq]
  generalize (lg_sl ([.ref (g 9), .int (nI b), .int (nI j), .int (zI (cm))]) ++ List.replicate (5 - (lg_sl ([.ref (g 9), .int (nI b), .int (nI j), .int (zI (cm))])).length) Slot.unset).toArray = ls at hl ⊢
  have hl : lv_has ls 5 [(0, .ref (g 9)), (1, .int (nI b)), (2, .int (nI j)), (3, .int (zI (cm)))] := hl
  refine lv_aload_n hx hb d_Tree_at_0 rfl (lv_at hl 0 rfl) ?_
  refine va_get (D := D) (ci := 3) (v := .ref (g 0)) (C := R_Tree) (T := T_Tree) (N := 5) hx hb hTB in_Tree hown hK hP 0 rfl rfl 0 (by decide) (hTB _ k_195) (fun _ h9 => h9) rfl d_Tree_at_1 ?_
  refine lv_iload_n hx hb d_Tree_at_4 rfl (lv_at hl 1 rfl) ?_
  refine lv_iload_n hx hb d_Tree_at_5 rfl (lv_at hl 2 rfl) ?_
  refine gz_roV (As := [.int (nI b), .int (nI j)]) (rest := []) (wc := (wD g k L u)) ⟨hx, hb, hml, hown, hTB⟩ (c_Disk_hasByte l D g k L hL0 hL u (nI b) (nI j)) (cwV 2 hTB (gd_V k_565 k_566 k_567 k_52 k_568) rfl rfl rfl (by decide +kernel) ⟨Nat.le_of_ble_eq_true rfl, Nat.le_of_ble_eq_true rfl⟩) hK hP [5, 6, 7, 8, 9, 10] rfl 5 rfl rfl rfl hl.1 rfl (Nat.le_of_ble_eq_true rfl) d_Tree_at_6 ⟨Nat.zero_le _, Nat.zero_le _⟩ hS (fun H locs hP hS => ?_)
  refine gz_ifz_ne (tgt := 22) hx hb d_Tree_at_9 (by decide) (fun h9 => ?_) (fun h9 => ?_)
  · refine lv_iload_n hx hb d_Tree_at_22 rfl (lv_at hl 1 rfl) ?_
    refine lv_bipush (v := nI 64) hx hb d_Tree_at_23 (by decide +kernel) ?_
    refine gz_imul hx hb d_Tree_at_25 ?_
    refine lv_iload_n hx hb d_Tree_at_26 rfl (lv_at hl 2 rfl) ?_
    refine gz_iadd hx hb d_Tree_at_27 ?_
    refine lv_istore (lv' := [(4, .int (nI ((b * 64) + j))), (0, .ref (g 9)), (1, .int (nI b)), (2, .int (nI j)), (3, .int (zI (cm)))]) hx hb d_Tree_at_28 hl (by decide) rfl (fun ls hl => ?_)
    refine lv_iload_n hx hb d_Tree_at_30 rfl (lv_at hl 4 rfl) ?_
    refine gz_ifz_eq (tgt := 46) hx hb d_Tree_at_31 (by decide) (fun h31 => ?_) (fun h31 => ?_)
    · refine lv_aload_n hx hb d_Tree_at_46 rfl (lv_at hl 1 rfl) ?_
      refine va_get (D := D) (ci := 3) (v := .ref (g 0)) (C := R_Tree) (T := T_Tree) (N := 5) hx hb hTB in_Tree hown hK hP 0 rfl rfl 0 (by decide) (hTB _ k_195) (fun _ h9 => h9) rfl d_Tree_at_47 ?_
      refine lv_iload hx hb d_Tree_at_50 (lv_at hl 0 rfl) ?_
      refine gz_roV (As := [.int (nI ((b * 64) + j))]) (rest := []) (wc := (wD g k L u)) ⟨hx, hb, hml, hown, hTB⟩ (c_Disk_byteAt l D g k L hL0 hL u (nI ((b * 64) + j))) (cwV 1 hTB (gd_V k_500 k_345 k_346 k_52 k_347) rfl rfl rfl (by decide +kernel) ⟨Nat.le_of_ble_eq_true rfl, Nat.le_of_ble_eq_true rfl⟩) hK hP [5, 6, 7, 8, 9, 10] rfl 5 rfl rfl rfl hl.1 rfl (Nat.le_of_ble_eq_true rfl) d_Tree_at_52 ⟨Nat.zero_le _, Nat.zero_le _⟩ hS (fun H locs hP hS => ?_)
      have := bN_lt L (dNow u) (nI ((b * 64) + j))
      exact W.iret (v := nI (bN L (dNow u) (nI ((b * 64) + j)))) hx hb hr (fun tt9 ht9 hW9 => ⟨⟨_, (), rfl, (by rw [h31]; rfl), trivial⟩, hS.F ht9⟩) hS.2.2 d_Tree_at_55
    · refine lv_aload_n hx hb d_Tree_at_34 rfl (lv_at hl 1 rfl) ?_
      refine va_get (D := D) (ci := 3) (v := .ref (g 0)) (C := R_Tree) (T := T_Tree) (N := 5) hx hb hTB in_Tree hown hK hP 0 rfl rfl 0 (by decide) (hTB _ k_195) (fun _ h9 => h9) rfl d_Tree_at_35 ?_
      refine lv_iload hx hb d_Tree_at_38 (lv_at hl 0 rfl) ?_
      refine gz_roV (As := [.int (nI ((b * 64) + j))]) (rest := []) (wc := (wD g k L u)) ⟨hx, hb, hml, hown, hTB⟩ (c_Disk_committedByteAt l D g k L hL0 hL u (nI ((b * 64) + j))) (cwV 1 hTB (gd_V k_570 k_571 k_572 k_52 k_573) rfl rfl rfl (by decide +kernel) ⟨Nat.le_of_ble_eq_true rfl, Nat.le_of_ble_eq_true rfl⟩) hK hP [5, 6, 7, 8, 9, 10] rfl 5 rfl rfl rfl hl.1 rfl (Nat.le_of_ble_eq_true rfl) d_Tree_at_40 ⟨Nat.zero_le _, Nat.zero_le _⟩ hS (fun H locs hP hS => ?_)
      have := bN_lt L (dCom u) (nI ((b * 64) + j))
      refine lv_goto (tgt := 55) hx hb d_Tree_at_43 (by decide) ?_
      exact W.iret (v := nI (bN L (dCom u) (nI ((b * 64) + j)))) hx hb hr (fun tt9 ht9 hW9 => ⟨⟨_, (), rfl, (by rw [h31]; rfl), trivial⟩, hS.F ht9⟩) hS.2.2 d_Tree_at_55
  · exact absurd (hby_in hb0 hj0 hL) (by rw [h9]; decide)
theorem d_Tree_changed_0 : decode b_Tree_changed 0 = .ok (.aload_n 0, 1) := by decide +kernel
theorem d_Tree_changed_1 : decode b_Tree_changed 1 = .ok (.getfield 12, 3) := by decide +kernel
theorem d_Tree_changed_4 : decode b_Tree_changed 4 = .ok (.iload_n 1, 1) := by decide +kernel
theorem d_Tree_changed_5 : decode b_Tree_changed 5 = .ok (.invokevirtual 169, 3) := by decide +kernel
theorem d_Tree_changed_8 : decode b_Tree_changed 8 = .ok (.istore_n 2, 1) := by decide +kernel
theorem d_Tree_changed_9 : decode b_Tree_changed 9 = .ok (.iload_n 2, 1) := by decide +kernel
theorem d_Tree_changed_10 : decode b_Tree_changed 10 = .ok (.iconst (-1), 1) := by decide +kernel
theorem d_Tree_changed_11 : decode b_Tree_changed 11 = .ok (.if_icmp .ne 13, 3) := by decide +kernel
theorem d_Tree_changed_14 : decode b_Tree_changed 14 = .ok (.new 115, 3) := by decide +kernel
theorem d_Tree_changed_17 : decode b_Tree_changed 17 = .ok (.dup, 1) := by decide +kernel
theorem d_Tree_changed_18 : decode b_Tree_changed 18 = .ok (.ldc 172, 2) := by decide +kernel
theorem d_Tree_changed_20 : decode b_Tree_changed 20 = .ok (.invokespecial 119, 3) := by decide +kernel
theorem d_Tree_changed_23 : decode b_Tree_changed 23 = .ok (.athrow, 1) := by decide +kernel
theorem d_Tree_changed_24 : decode b_Tree_changed 24 = .ok (.iload_n 2, 1) := by decide +kernel
theorem d_Tree_changed_25 : decode b_Tree_changed 25 = .ok (.ireturn, 1) := by decide +kernel
set_option maxHeartbeats 4000000 in
set_option maxRecDepth 100000 in
theorem c_Tree_changed (l : Launch) (D : va_G) (g : Nat → Nat) (k : Nat → ClassId) (L : Nat) (hL0 : 96 ≤ L) (hL : L ≤ 768) (u : DSt) (f0 : Nat → Int32) (tl : Nat) (tp : Nat → Int32) (x : Int32) (hx0 : ¬ dbk L (dDif u) x = -1) : RoI l y_Tree_changed w_Tree_changed ({ frames := 7, cells := 0, slots := 0, locals := 110 }) [.ref (g 9), .int (x)] (RoP D cl5 (tyC k) (wT g k L u f0 tl tp)) (dbk L (dDif u) x) := by
  refine Met.ofW (cc := b_Tree_changed) (maxL := 3) (ret := (some .int)) (by decide) rfl ?_
  intro p e s m args below meth c s₁ B hml hv
  obtain ⟨rfl, hP, hK⟩ := hv
  have hx := B.exec
  have hb := B.bytes
  have hr := B.returns
  have hts := atoms_spec (ws := w_Tree_changed) B.pre
  have hTB : ∀ w ∈ lw_tb, w.before _ s = true := fun w h => hts w (List.mem_cons_of_mem _ h)
  have hown : s.vm.findClass R_Tree = some m.cls := findClass_of_methodNamed B.named
  have hlocks := B.notSynchronized
  have hS : va_S (fun _ => False) s.heap s.heap [] := va_S.rf
  have hl := lv_entry ([.ref (g 9), .int (x)]) (n := 3) (Nat.le_of_ble_eq_true rfl)
  rw [lg_entry_eq]
  generalize (lg_sl ([.ref (g 9), .int (x)]) ++ List.replicate (3 - (lg_sl ([.ref (g 9), .int (x)])).length) Slot.unset).toArray = ls at hl ⊢
  have hl : lv_has ls 3 [(0, .ref (g 9)), (1, .int (x))] := hl
  refine lv_aload_n hx hb d_Tree_changed_0 rfl (lv_at hl 0 rfl) ?_
  refine va_get (D := D) (ci := 3) (v := .ref (g 0)) (C := R_Tree) (T := T_Tree) (N := 5) hx hb hTB in_Tree hown hK hP 0 rfl rfl 0 (by decide) (hTB _ k_195) (fun _ h9 => h9) rfl d_Tree_changed_1 ?_
  refine lv_iload_n hx hb d_Tree_changed_4 rfl (lv_at hl 1 rfl) ?_
  refine gz_roV (As := [.int (x)]) (rest := []) (wc := (wD g k L u)) ⟨hx, hb, hml, hown, hTB⟩ (c_Disk_differingBlock l D g k L hL0 hL u x) (cwV 1 hTB (gd_V k_581 k_582 k_583 k_52 k_584) rfl rfl rfl (by decide +kernel) ⟨Nat.le_of_ble_eq_true rfl, Nat.le_of_ble_eq_true rfl⟩) hK hP [5, 6, 7, 8, 9, 10] rfl 5 rfl rfl rfl hl.1 rfl (Nat.le_of_ble_eq_true rfl) d_Tree_changed_5 ⟨Nat.zero_le _, Nat.zero_le _⟩ hS (fun H locs hP hS => ?_)
  refine lv_istore_n (lv' := [(2, .int (dbk L (dDif u) x)), (0, .ref (g 9)), (1, .int (x))]) hx hb d_Tree_changed_8 rfl hl (by decide) rfl (fun ls hl => ?_)
  refine lv_iload_n hx hb d_Tree_changed_9 rfl (lv_at hl 0 rfl) ?_
  refine lv_iconst (v := (-1)) hx hb d_Tree_changed_10 (by decide +kernel) ?_
  refine lv_icmp_ne (tgt := 24) hx hb d_Tree_changed_11 (by decide) (fun h11 => ?_) (fun h11 => ?_)
  · refine lv_iload_n hx hb d_Tree_changed_24 rfl (lv_at hl 0 rfl) ?_
    exact W.iret (v := dbk L (dDif u) x) hx hb hr (fun tt9 ht9 hW9 => ⟨⟨_, (), rfl, rfl, trivial⟩, hS.F ht9⟩) hS.2.2 d_Tree_changed_25
  · exact absurd h11 hx0
theorem d_Tree_look_0 : decode b_Tree_look 0 = .ok (.iload_n 1, 1) := by decide +kernel
theorem d_Tree_look_1 : decode b_Tree_look 1 = .ok (.tableswitch 98 0 6 #[43, 51, 59, 68, 76, 84, 89], 43) := by decide +kernel
theorem d_Tree_look_44 : decode b_Tree_look 44 = .ok (.aload_n 0, 1) := by decide +kernel
theorem d_Tree_look_45 : decode b_Tree_look 45 = .ok (.getfield 12, 3) := by decide +kernel
theorem d_Tree_look_48 : decode b_Tree_look 48 = .ok (.invokevirtual 174, 3) := by decide +kernel
theorem d_Tree_look_51 : decode b_Tree_look 51 = .ok (.ireturn, 1) := by decide +kernel
theorem d_Tree_look_52 : decode b_Tree_look 52 = .ok (.aload_n 0, 1) := by decide +kernel
theorem d_Tree_look_53 : decode b_Tree_look 53 = .ok (.getfield 12, 3) := by decide +kernel
theorem d_Tree_look_56 : decode b_Tree_look 56 = .ok (.invokevirtual 177, 3) := by decide +kernel
theorem d_Tree_look_59 : decode b_Tree_look 59 = .ok (.ireturn, 1) := by decide +kernel
theorem d_Tree_look_60 : decode b_Tree_look 60 = .ok (.aload_n 0, 1) := by decide +kernel
theorem d_Tree_look_61 : decode b_Tree_look 61 = .ok (.getfield 23, 3) := by decide +kernel
theorem d_Tree_look_64 : decode b_Tree_look 64 = .ok (.iconst 0, 1) := by decide +kernel
theorem d_Tree_look_65 : decode b_Tree_look 65 = .ok (.invokevirtual 180, 3) := by decide +kernel
theorem d_Tree_look_68 : decode b_Tree_look 68 = .ok (.ireturn, 1) := by decide +kernel
theorem d_Tree_look_69 : decode b_Tree_look 69 = .ok (.aload_n 0, 1) := by decide +kernel
theorem d_Tree_look_70 : decode b_Tree_look 70 = .ok (.getfield 12, 3) := by decide +kernel
theorem d_Tree_look_73 : decode b_Tree_look 73 = .ok (.invokevirtual 141, 3) := by decide +kernel
theorem d_Tree_look_76 : decode b_Tree_look 76 = .ok (.ireturn, 1) := by decide +kernel
theorem d_Tree_look_77 : decode b_Tree_look 77 = .ok (.aload_n 0, 1) := by decide +kernel
theorem d_Tree_look_78 : decode b_Tree_look 78 = .ok (.getfield 12, 3) := by decide +kernel
theorem d_Tree_look_81 : decode b_Tree_look 81 = .ok (.invokevirtual 183, 3) := by decide +kernel
theorem d_Tree_look_84 : decode b_Tree_look 84 = .ok (.ireturn, 1) := by decide +kernel
theorem d_Tree_look_85 : decode b_Tree_look 85 = .ok (.aload_n 0, 1) := by decide +kernel
theorem d_Tree_look_86 : decode b_Tree_look 86 = .ok (.getfield 40, 3) := by decide +kernel
theorem d_Tree_look_89 : decode b_Tree_look 89 = .ok (.ireturn, 1) := by decide +kernel
theorem d_Tree_look_90 : decode b_Tree_look 90 = .ok (.aload_n 0, 1) := by decide +kernel
theorem d_Tree_look_91 : decode b_Tree_look 91 = .ok (.getfield 23, 3) := by decide +kernel
theorem d_Tree_look_94 : decode b_Tree_look 94 = .ok (.iconst 2, 1) := by decide +kernel
theorem d_Tree_look_95 : decode b_Tree_look 95 = .ok (.invokevirtual 180, 3) := by decide +kernel
theorem d_Tree_look_98 : decode b_Tree_look 98 = .ok (.ireturn, 1) := by decide +kernel
theorem d_Tree_look_99 : decode b_Tree_look 99 = .ok (.new 115, 3) := by decide +kernel
theorem d_Tree_look_102 : decode b_Tree_look 102 = .ok (.dup, 1) := by decide +kernel
theorem d_Tree_look_103 : decode b_Tree_look 103 = .ok (.ldc 186, 2) := by decide +kernel
theorem d_Tree_look_105 : decode b_Tree_look 105 = .ok (.invokespecial 119, 3) := by decide +kernel
theorem d_Tree_look_108 : decode b_Tree_look 108 = .ok (.athrow, 1) := by decide +kernel
set_option maxHeartbeats 4000000 in
set_option maxRecDepth 100000 in
theorem c_Tree_look (l : Launch) (D : va_G) (g : Nat → Nat) (k : Nat → ClassId) (L : Nat) (hL0 : 96 ≤ L) (hL : L ≤ 768) (u : DSt) (f0 : Nat → Int32) (tl : Nat) (tp : Nat → Int32) (w : Nat) (hw0 : w ≤ 6) : RoI l y_Tree_look w_Tree_look ({ frames := 7, cells := 0, slots := 0, locals := 110 }) [.ref (g 9), .int (nI w)] (RoP D cl5 (tyC k) (wT g k L u f0 tl tp)) (lkC L u tl w) := by
  refine Met.ofW (cc := b_Tree_look) (maxL := 2) (ret := (some .int)) (by decide) rfl ?_
  intro p e s m args below meth c s₁ B hml hv
  obtain ⟨rfl, hP, hK⟩ := hv
  have hx := B.exec
  have hb := B.bytes
  have hr := B.returns
  have hts := atoms_spec (ws := w_Tree_look) B.pre
  have hTB : ∀ w ∈ lw_tb, w.before _ s = true := fun w h => hts w (List.mem_cons_of_mem _ h)
  have hown : s.vm.findClass R_Tree = some m.cls := findClass_of_methodNamed B.named
  have hlocks := B.notSynchronized
  have hS : va_S (fun _ => False) s.heap s.heap [] := va_S.rf
  have hl := lv_entry ([.ref (g 9), .int (nI w)]) (n := 2) (Nat.le_of_ble_eq_true rfl)
  rw [lg_entry_eq]
  generalize (lg_sl ([.ref (g 9), .int (nI w)]) ++ List.replicate (2 - (lg_sl ([.ref (g 9), .int (nI w)])).length) Slot.unset).toArray = ls at hl ⊢
  have hl : lv_has ls 2 [(0, .ref (g 9)), (1, .int (nI w))] := hl
  refine lv_iload_n hx hb d_Tree_look_0 rfl (lv_at hl 1 rfl) ?_
  rcases (show w = 0 ∨ w = 1 ∨ w = 2 ∨ w = 3 ∨ w = 4 ∨ w = 5 ∨ w = 6 ∨ 6 < w by omega) with h1 | h1 | h1 | h1 | h1 | h1 | h1 | h1
  · refine lv_tableIn (off := 43) (tgt := 44) hx hb d_Tree_look_1 (by rw [h1]; decide) (by rw [h1]; decide) (by rw [h1]; decide +kernel) (by decide) ?_
    refine lv_aload_n hx hb d_Tree_look_44 rfl (lv_at hl 0 rfl) ?_
    refine va_get (D := D) (ci := 3) (v := .ref (g 0)) (C := R_Tree) (T := T_Tree) (N := 5) hx hb hTB in_Tree hown hK hP 0 rfl rfl 0 (by decide) (hTB _ k_195) (fun _ h9 => h9) rfl d_Tree_look_45 ?_
    refine gz_roV (As := []) (rest := []) (wc := (wD g k L u)) ⟨hx, hb, hml, hown, hTB⟩ (c_Disk_blocks l D g k L hL0 hL u) (cwV 0 hTB (gd_V k_593 k_594 k_595 k_52 k_596) rfl rfl rfl (by decide +kernel) ⟨Nat.le_of_ble_eq_true rfl, Nat.le_of_ble_eq_true rfl⟩) hK hP [5, 6, 7, 8, 9, 10] rfl 5 rfl rfl rfl hl.1 rfl (Nat.le_of_ble_eq_true rfl) d_Tree_look_48 ⟨Nat.zero_le _, Nat.zero_le _⟩ hS (fun H locs hP hS => ?_)
    exact W.iret (v := nI L) hx hb hr (fun tt9 ht9 hW9 => ⟨⟨_, (), rfl, (by subst h1; rfl), trivial⟩, hS.F ht9⟩) hS.2.2 d_Tree_look_51
  · refine lv_tableIn (off := 51) (tgt := 52) hx hb d_Tree_look_1 (by rw [h1]; decide) (by rw [h1]; decide) (by rw [h1]; decide +kernel) (by decide) ?_
    refine lv_aload_n hx hb d_Tree_look_52 rfl (lv_at hl 0 rfl) ?_
    refine va_get (D := D) (ci := 3) (v := .ref (g 0)) (C := R_Tree) (T := T_Tree) (N := 5) hx hb hTB in_Tree hown hK hP 0 rfl rfl 0 (by decide) (hTB _ k_195) (fun _ h9 => h9) rfl d_Tree_look_53 ?_
    refine gz_roV (As := []) (rest := []) (wc := (wD g k L u)) ⟨hx, hb, hml, hown, hTB⟩ (c_Disk_freeBlocks l D g k L hL0 hL u) (cwV 0 hTB (gd_V k_597 k_598 k_599 k_52 k_600) rfl rfl rfl (by decide +kernel) ⟨Nat.le_of_ble_eq_true rfl, Nat.le_of_ble_eq_true rfl⟩) hK hP [5, 6, 7, 8, 9, 10] rfl 5 rfl rfl rfl hl.1 rfl (Nat.le_of_ble_eq_true rfl) d_Tree_look_56 ⟨Nat.zero_le _, Nat.zero_le _⟩ hS (fun H locs hP hS => ?_)
    exact W.iret (v := nI (fbs L (dNow u))) hx hb hr (fun tt9 ht9 hW9 => ⟨⟨_, (), rfl, (by subst h1; rfl), trivial⟩, hS.F ht9⟩) hS.2.2 d_Tree_look_59
  · refine lv_tableIn (off := 59) (tgt := 60) hx hb d_Tree_look_1 (by rw [h1]; decide) (by rw [h1]; decide) (by rw [h1]; decide +kernel) (by decide) ?_
    refine lv_aload_n hx hb d_Tree_look_60 rfl (lv_at hl 0 rfl) ?_
    refine va_get (D := D) (ci := 3) (v := .ref (g 6)) (C := R_Tree) (T := T_Tree) (N := 5) hx hb hTB in_Tree hown hK hP 0 rfl rfl 1 (by decide) (hTB _ k_196) (fun _ h9 => h9) rfl d_Tree_look_61 ?_
    refine lv_iconst (v := nI 0) hx hb d_Tree_look_64 (by decide +kernel) ?_
    refine gz_roV (As := [.int (nI 0)]) (rest := []) (wc := (wI g k L u)) ⟨hx, hb, hml, hown, hTB⟩ (c_Inodes_ofKind l D g k L hL0 hL u 0 (by decide)) (cwV 1 hTB (gd_V k_601 k_602 k_603 k_54 k_604) rfl rfl rfl (by decide +kernel) ⟨Nat.le_of_ble_eq_true rfl, Nat.le_of_ble_eq_true rfl⟩) hK hP [4, 5, 6, 7, 8, 9, 10] rfl 4 rfl rfl rfl hl.1 rfl (Nat.le_of_ble_eq_true rfl) d_Tree_look_65 ⟨Nat.zero_le _, Nat.zero_le _⟩ hS (fun H locs hP hS => ?_)
    exact W.iret (v := nI (iok L (dNow u) 0)) hx hb hr (fun tt9 ht9 hW9 => ⟨⟨_, (), rfl, (by subst h1; rfl), trivial⟩, hS.F ht9⟩) hS.2.2 d_Tree_look_68
  · refine lv_tableIn (off := 68) (tgt := 69) hx hb d_Tree_look_1 (by rw [h1]; decide) (by rw [h1]; decide) (by rw [h1]; decide +kernel) (by decide) ?_
    refine lv_aload_n hx hb d_Tree_look_69 rfl (lv_at hl 0 rfl) ?_
    refine va_get (D := D) (ci := 3) (v := .ref (g 0)) (C := R_Tree) (T := T_Tree) (N := 5) hx hb hTB in_Tree hown hK hP 0 rfl rfl 0 (by decide) (hTB _ k_195) (fun _ h9 => h9) rfl d_Tree_look_70 ?_
    refine gz_roV (As := []) (rest := []) (wc := (wD g k L u)) ⟨hx, hb, hml, hown, hTB⟩ (c_Disk_differingBlocks l D g k L hL0 hL u) (cwV 0 hTB (gd_V k_215 k_165 k_166 k_52 k_167) rfl rfl rfl (by decide +kernel) ⟨Nat.le_of_ble_eq_true rfl, Nat.le_of_ble_eq_true rfl⟩) hK hP [5, 6, 7, 8, 9, 10] rfl 5 rfl rfl rfl hl.1 rfl (Nat.le_of_ble_eq_true rfl) d_Tree_look_73 ⟨Nat.zero_le _, Nat.zero_le _⟩ hS (fun H locs hP hS => ?_)
    have := dcG_le (dDif u) L 0
    have : dct L (dDif u) ≤ L := this
    exact W.iret (v := nI (dct L (dDif u))) hx hb hr (fun tt9 ht9 hW9 => ⟨⟨_, (), rfl, (by subst h1; rfl), trivial⟩, hS.F ht9⟩) hS.2.2 d_Tree_look_76
  · refine lv_tableIn (off := 76) (tgt := 77) hx hb d_Tree_look_1 (by rw [h1]; decide) (by rw [h1]; decide) (by rw [h1]; decide +kernel) (by decide) ?_
    refine lv_aload_n hx hb d_Tree_look_77 rfl (lv_at hl 0 rfl) ?_
    refine va_get (D := D) (ci := 3) (v := .ref (g 0)) (C := R_Tree) (T := T_Tree) (N := 5) hx hb hTB in_Tree hown hK hP 0 rfl rfl 0 (by decide) (hTB _ k_195) (fun _ h9 => h9) rfl d_Tree_look_78 ?_
    refine gz_roV (As := []) (rest := []) (wc := (wD g k L u)) ⟨hx, hb, hml, hown, hTB⟩ (c_Disk_earlyCommits l D g k L hL0 hL u) (cwV 0 hTB (gd_V k_605 k_606 k_607 k_52 k_608) rfl rfl rfl (by decide +kernel) ⟨Nat.le_of_ble_eq_true rfl, Nat.le_of_ble_eq_true rfl⟩) hK hP [5, 6, 7, 8, 9, 10] rfl 5 rfl rfl rfl hl.1 rfl (Nat.le_of_ble_eq_true rfl) d_Tree_look_81 ⟨Nat.zero_le _, Nat.zero_le _⟩ hS (fun H locs hP hS => ?_)
    exact W.iret (v := dEa u) hx hb hr (fun tt9 ht9 hW9 => ⟨⟨_, (), rfl, (by subst h1; rfl), trivial⟩, hS.F ht9⟩) hS.2.2 d_Tree_look_84
  · refine lv_tableIn (off := 84) (tgt := 85) hx hb d_Tree_look_1 (by rw [h1]; decide) (by rw [h1]; decide) (by rw [h1]; decide +kernel) (by decide) ?_
    refine lv_aload_n hx hb d_Tree_look_85 rfl (lv_at hl 0 rfl) ?_
    refine va_get (D := D) (ci := 3) (v := .int (nI tl)) (C := R_Tree) (T := T_Tree) (N := 5) hx hb hTB in_Tree hown hK hP 0 rfl rfl 4 (by decide) (hTB _ k_199) (fun _ h9 => h9) rfl d_Tree_look_86 ?_
    exact W.iret (v := nI tl) hx hb hr (fun tt9 ht9 hW9 => ⟨⟨_, (), rfl, (by subst h1; rfl), trivial⟩, hS.F ht9⟩) hS.2.2 d_Tree_look_89
  · refine lv_tableIn (off := 89) (tgt := 90) hx hb d_Tree_look_1 (by rw [h1]; decide) (by rw [h1]; decide) (by rw [h1]; decide +kernel) (by decide) ?_
    refine lv_aload_n hx hb d_Tree_look_90 rfl (lv_at hl 0 rfl) ?_
    refine va_get (D := D) (ci := 3) (v := .ref (g 6)) (C := R_Tree) (T := T_Tree) (N := 5) hx hb hTB in_Tree hown hK hP 0 rfl rfl 1 (by decide) (hTB _ k_196) (fun _ h9 => h9) rfl d_Tree_look_91 ?_
    refine lv_iconst (v := nI 2) hx hb d_Tree_look_94 (by decide +kernel) ?_
    refine gz_roV (As := [.int (nI 2)]) (rest := []) (wc := (wI g k L u)) ⟨hx, hb, hml, hown, hTB⟩ (c_Inodes_ofKind l D g k L hL0 hL u 2 (by decide)) (cwV 1 hTB (gd_V k_601 k_602 k_603 k_54 k_604) rfl rfl rfl (by decide +kernel) ⟨Nat.le_of_ble_eq_true rfl, Nat.le_of_ble_eq_true rfl⟩) hK hP [4, 5, 6, 7, 8, 9, 10] rfl 4 rfl rfl rfl hl.1 rfl (Nat.le_of_ble_eq_true rfl) d_Tree_look_95 ⟨Nat.zero_le _, Nat.zero_le _⟩ hS (fun H locs hP hS => ?_)
    exact W.iret (v := nI (iok L (dNow u) 2)) hx hb hr (fun tt9 ht9 hW9 => ⟨⟨_, (), rfl, (by subst h1; rfl), trivial⟩, hS.F ht9⟩) hS.2.2 d_Tree_look_98
  · exact absurd h1 (by omega)
