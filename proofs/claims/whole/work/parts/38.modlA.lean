theorem d_Mod_feed_0 : decode b_Mod_feed 0 = .ok (.aload_n 0, 1) := by decide +kernel
theorem d_Mod_feed_1 : decode b_Mod_feed 1 = .ok (.iload_n 1, 1) := by decide +kernel
theorem d_Mod_feed_2 : decode b_Mod_feed 2 = .ok (.iconst 1, 1) := by decide +kernel
theorem d_Mod_feed_3 : decode b_Mod_feed 3 = .ok (.bipush 8, 2) := by decide +kernel
theorem d_Mod_feed_5 : decode b_Mod_feed 5 = .ok (.invokestatic 127, 3) := by decide +kernel
theorem d_Mod_feed_8 : decode b_Mod_feed 8 = .ok (.ifCond .ne 7, 3) := by decide +kernel
theorem d_Mod_feed_11 : decode b_Mod_feed 11 = .ok (.iconst 1, 1) := by decide +kernel
theorem d_Mod_feed_12 : decode b_Mod_feed 12 = .ok (.goto 4, 3) := by decide +kernel
theorem d_Mod_feed_15 : decode b_Mod_feed 15 = .ok (.iconst 0, 1) := by decide +kernel
theorem d_Mod_feed_16 : decode b_Mod_feed 16 = .ok (.iconst 1, 1) := by decide +kernel
theorem d_Mod_feed_17 : decode b_Mod_feed 17 = .ok (.invokevirtual 170, 3) := by decide +kernel
theorem d_Mod_feed_20 : decode b_Mod_feed 20 = .ok (.ifCond .ne 28, 3) := by decide +kernel
theorem d_Mod_feed_23 : decode b_Mod_feed 23 = .ok (.aload_n 0, 1) := by decide +kernel
theorem d_Mod_feed_24 : decode b_Mod_feed 24 = .ok (.aload_n 0, 1) := by decide +kernel
theorem d_Mod_feed_25 : decode b_Mod_feed 25 = .ok (.getfield 174, 3) := by decide +kernel
theorem d_Mod_feed_28 : decode b_Mod_feed 28 = .ok (.iload_n 1, 1) := by decide +kernel
theorem d_Mod_feed_29 : decode b_Mod_feed 29 = .ok (.iadd, 1) := by decide +kernel
theorem d_Mod_feed_30 : decode b_Mod_feed 30 = .ok (.sipush 512, 3) := by decide +kernel
theorem d_Mod_feed_33 : decode b_Mod_feed 33 = .ok (.if_icmp .le 7, 3) := by decide +kernel
theorem d_Mod_feed_36 : decode b_Mod_feed 36 = .ok (.iconst 1, 1) := by decide +kernel
theorem d_Mod_feed_37 : decode b_Mod_feed 37 = .ok (.goto 4, 3) := by decide +kernel
theorem d_Mod_feed_40 : decode b_Mod_feed 40 = .ok (.iconst 0, 1) := by decide +kernel
theorem d_Mod_feed_41 : decode b_Mod_feed 41 = .ok (.iconst 2, 1) := by decide +kernel
theorem d_Mod_feed_42 : decode b_Mod_feed 42 = .ok (.invokevirtual 170, 3) := by decide +kernel
theorem d_Mod_feed_45 : decode b_Mod_feed 45 = .ok (.ifCond .eq 5, 3) := by decide +kernel
theorem d_Mod_feed_48 : decode b_Mod_feed 48 = .ok (.iconst 0, 1) := by decide +kernel
theorem d_Mod_feed_49 : decode b_Mod_feed 49 = .ok (.ireturn, 1) := by decide +kernel
theorem d_Mod_feed_50 : decode b_Mod_feed 50 = .ok (.iconst 0, 1) := by decide +kernel
theorem d_Mod_feed_51 : decode b_Mod_feed 51 = .ok (.istore 4, 2) := by decide +kernel
theorem d_Mod_feed_53 : decode b_Mod_feed 53 = .ok (.iload 4, 2) := by decide +kernel
theorem d_Mod_feed_55 : decode b_Mod_feed 55 = .ok (.iload_n 1, 1) := by decide +kernel
theorem d_Mod_feed_56 : decode b_Mod_feed 56 = .ok (.if_icmp .ge 33, 3) := by decide +kernel
theorem d_Mod_feed_59 : decode b_Mod_feed 59 = .ok (.aload_n 0, 1) := by decide +kernel
theorem d_Mod_feed_60 : decode b_Mod_feed 60 = .ok (.getfield 7, 3) := by decide +kernel
theorem d_Mod_feed_63 : decode b_Mod_feed 63 = .ok (.aload_n 0, 1) := by decide +kernel
theorem d_Mod_feed_64 : decode b_Mod_feed 64 = .ok (.getfield 174, 3) := by decide +kernel
theorem d_Mod_feed_67 : decode b_Mod_feed 67 = .ok (.iload 4, 2) := by decide +kernel
theorem d_Mod_feed_69 : decode b_Mod_feed 69 = .ok (.iadd, 1) := by decide +kernel
theorem d_Mod_feed_70 : decode b_Mod_feed 70 = .ok (.lload_n 2, 1) := by decide +kernel
theorem d_Mod_feed_71 : decode b_Mod_feed 71 = .ok (.bipush 8, 2) := by decide +kernel
theorem d_Mod_feed_73 : decode b_Mod_feed 73 = .ok (.iload 4, 2) := by decide +kernel
theorem d_Mod_feed_75 : decode b_Mod_feed 75 = .ok (.imul, 1) := by decide +kernel
theorem d_Mod_feed_76 : decode b_Mod_feed 76 = .ok (.lshr, 1) := by decide +kernel
theorem d_Mod_feed_77 : decode b_Mod_feed 77 = .ok (.ldc2_w 177, 3) := by decide +kernel
theorem d_Mod_feed_80 : decode b_Mod_feed 80 = .ok (.land, 1) := by decide +kernel
theorem d_Mod_feed_81 : decode b_Mod_feed 81 = .ok (.l2i, 1) := by decide +kernel
theorem d_Mod_feed_82 : decode b_Mod_feed 82 = .ok (.iastore, 1) := by decide +kernel
theorem d_Mod_feed_83 : decode b_Mod_feed 83 = .ok (.iinc 4 1, 3) := by decide +kernel
theorem d_Mod_feed_86 : decode b_Mod_feed 86 = .ok (.goto (-33), 3) := by decide +kernel
theorem d_Mod_feed_89 : decode b_Mod_feed 89 = .ok (.aload_n 0, 1) := by decide +kernel
theorem d_Mod_feed_90 : decode b_Mod_feed 90 = .ok (.dup, 1) := by decide +kernel
theorem d_Mod_feed_91 : decode b_Mod_feed 91 = .ok (.getfield 174, 3) := by decide +kernel
theorem d_Mod_feed_94 : decode b_Mod_feed 94 = .ok (.iload_n 1, 1) := by decide +kernel
theorem d_Mod_feed_95 : decode b_Mod_feed 95 = .ok (.iadd, 1) := by decide +kernel
theorem d_Mod_feed_96 : decode b_Mod_feed 96 = .ok (.putfield 174, 3) := by decide +kernel
theorem d_Mod_feed_99 : decode b_Mod_feed 99 = .ok (.aload_n 0, 1) := by decide +kernel
theorem d_Mod_feed_100 : decode b_Mod_feed 100 = .ok (.getfield 174, 3) := by decide +kernel
theorem d_Mod_feed_103 : decode b_Mod_feed 103 = .ok (.ireturn, 1) := by decide +kernel
set_option maxHeartbeats 4000000 in
set_option maxRecDepth 100000 in
theorem c_Mod_feed (l : Launch) (D : va_G) (g : Nat → Nat) (k : Nat → ClassId) (L : Nat) (hL0 : 96 ≤ L) (hL : L ≤ 768) (r : RSt) (hrB : rB r) (n : Nat) (v : Int64) (hn1 : 1 ≤ n) (hn2 : n ≤ 8) (ht0 : rTl r + n ≤ 512) : MuI l y_Mod_feed w_Mod_feed ({ frames := 1, cells := 0, slots := 0, locals := 22 }) [.ref (g 20), .int (nI n), .long (v)] D cl5 (tyC k) (wM g k L r) (wM g k L (qTl (qTp (qTh r (nI 0)) (fdR (rTp r) (rTl r) v n)) (rTl r + n))) (nI (rTl r + n)) := by
  intro sz
  refine Met.ofW (cc := b_Mod_feed) (maxL := 5) (ret := (some .int)) (by decide) rfl ?_
  intro p9 e9 s m args9 below9 meth9 c9 s₁ B hml hv
  obtain ⟨rfl, hsz, hP, hK, hD0⟩ := hv
  have hx := B.exec
  have hb := B.bytes
  have hr := B.returns
  have hts := atoms_spec (ws := w_Mod_feed) B.pre
  have hTB : ∀ w ∈ lw_tb, w.before _ s = true := fun w h => hts w (List.mem_cons_of_mem _ h)
  have hown : s.vm.findClass R_Mod = some m.cls := findClass_of_methodNamed B.named
  have hlocks := B.notSynchronized
  subst hsz
  have hD := hD0.self (sz := s.heap.size)
  generalize hAe : va_A (wM g k L r) s.heap.size = A at hD ⊢
  have hA : ∀ q : Nat, s.heap.size ≤ q → A q := fun q h => by rw [← hAe]; exact Or.inr h
  have hS : va_S A s.heap s.heap [] := va_S.rf
  have hl := lv_entry ([.ref (g 20), .int (nI n), .long (v)]) (n := 5) (Nat.le_of_ble_eq_true rfl)
  rw [lg_entry_eq]
  generalize (lg_sl ([.ref (g 20), .int (nI n), .long (v)]) ++ List.replicate (5 - (lg_sl ([.ref (g 20), .int (nI n), .long (v)])).length) Slot.unset).toArray = ls at hl ⊢
  have hl : lv_has ls 5 [(0, .ref (g 20)), (1, .int (nI n)), (2, .long (v))] := hl
  refine lv_aload_n hx hb d_Mod_feed_0 rfl (lv_at hl 0 rfl) ?_
  refine lv_iload_n hx hb d_Mod_feed_1 rfl (lv_at hl 1 rfl) ?_
  refine lv_iconst (v := nI 1) hx hb d_Mod_feed_2 (by decide +kernel) ?_
  refine lv_bipush (v := nI 8) hx hb d_Mod_feed_3 (by decide +kernel) ?_
  refine gz_roS (As := [.int (nI n), .int (nI 1), .int (nI 8)]) (rest := [.ref (g 20)]) ⟨hx, hb, hml, hown, hTB⟩ (c_Mod_in l (nI n) (nI 1) (nI 8)) (cwS 3 hTB (gd_S k_695 k_696 k_56 k_697) rfl rfl rfl (by decide +kernel) ⟨Nat.le_of_ble_eq_true rfl, Nat.le_of_ble_eq_true rfl⟩) hP rfl hl.1 rfl (Nat.le_of_ble_eq_true rfl) d_Mod_feed_5 ⟨Nat.zero_le _, Nat.zero_le _⟩ hS (fun H locs hP hS => ?_)
  refine gz_ifz_ne (tgt := 15) hx hb d_Mod_feed_8 (by decide) (fun h8 => ?_) (fun h8 => ?_)
  · refine lv_iconst (v := nI 0) hx hb d_Mod_feed_15 (by decide +kernel) ?_
    refine lv_iconst (v := nI 1) hx hb d_Mod_feed_16 (by decide +kernel) ?_
    refine gz_muI (As := [.int (nI 0), .int (nI 1)]) (rest := []) (wc := (wM g k L r)) (w1 := (wM g k L (qTh r (nI 0)))) (wr := []) ⟨hx, hb, hml, hown, hTB⟩ (c_Mod_fails l D g k L hL0 hL r hrB false (nI 1)) (cwV 2 hTB (gd_V k_698 k_700 k_21 k_56 k_701) rfl rfl rfl (by decide +kernel) ⟨Nat.le_of_ble_eq_true rfl, Nat.le_of_ble_eq_true rfl⟩) hK hP hD hA [0, 1, 2, 3, 4, 5, 6, 7, 8, 9, 10] [] rfl rfl (by decide) rfl (by decide) (by decide) 0 rfl rfl rfl hl.1 rfl (Nat.le_of_ble_eq_true rfl) d_Mod_feed_17 ⟨Nat.zero_le _, Nat.zero_le _⟩ hS (fun H locs hP hD hS => ?_)
    have hP : va_P D cl5 (wM g k L (qTh r (nI 0))) H := hP
    have hD : va_D A (wM g k L (qTh r (nI 0))) := hD
    have hrB : rB (qTh r (nI 0)) := fun q => hrB q
    refine gz_ifz_ne (tgt := 48) hx hb d_Mod_feed_20 (by decide) (fun h20 => ?_) (fun h20 => ?_)
    · exact absurd h20 (by decide)
    · refine lv_aload_n hx hb d_Mod_feed_23 rfl (lv_at hl 0 rfl) ?_
      refine lv_aload_n hx hb d_Mod_feed_24 rfl (lv_at hl 0 rfl) ?_
      refine va_get (D := D) (ci := 4) (v := .int (nI (rTl (qTh r (nI 0))))) (C := R_Mod) (T := T_Mod) (N := 14) hx hb hTB in_Mod hown hK hP 0 rfl rfl 3 (by decide) (hTB _ k_647) (fun _ h9 => h9) rfl d_Mod_feed_25 ?_
      have hz0 : rTl (qTh r (nI 0)) = rTl r := rfl
      refine lv_iload_n hx hb d_Mod_feed_28 rfl (lv_at hl 1 rfl) ?_
      refine gz_iadd hx hb d_Mod_feed_29 ?_
      refine lv_sipush (v := nI 512) hx hb d_Mod_feed_30 (by decide +kernel) ?_
      refine gz_icmp_le (tgt := 40) hx hb d_Mod_feed_33 (by decide) (by omega) (by omega) (fun h33 => ?_) (fun h33 => ?_)
      · refine lv_iconst (v := nI 0) hx hb d_Mod_feed_40 (by decide +kernel) ?_
        refine lv_iconst (v := nI 2) hx hb d_Mod_feed_41 (by decide +kernel) ?_
        refine gz_muI (As := [.int (nI 0), .int (nI 2)]) (rest := []) (wc := (wM g k L (qTh r (nI 0)))) (w1 := (wM g k L (qTh (qTh r (nI 0)) (nI 0)))) (wr := []) ⟨hx, hb, hml, hown, hTB⟩ (c_Mod_fails l D g k L hL0 hL (qTh r (nI 0)) hrB false (nI 2)) (cwV 2 hTB (gd_V k_698 k_700 k_21 k_56 k_701) rfl rfl rfl (by decide +kernel) ⟨Nat.le_of_ble_eq_true rfl, Nat.le_of_ble_eq_true rfl⟩) hK hP hD hA [0, 1, 2, 3, 4, 5, 6, 7, 8, 9, 10] [] rfl rfl (by decide) rfl (by decide) (by decide) 0 rfl rfl rfl hl.1 rfl (Nat.le_of_ble_eq_true rfl) d_Mod_feed_42 ⟨Nat.zero_le _, Nat.zero_le _⟩ hS (fun H locs hP hD hS => ?_)
        have hP : va_P D cl5 (wM g k L (qTh (qTh r (nI 0)) (nI 0))) H := hP
        have hD : va_D A (wM g k L (qTh (qTh r (nI 0)) (nI 0))) := hD
        have hrB : rB (qTh (qTh r (nI 0)) (nI 0)) := fun q => hrB q
        refine gz_ifz_eq (tgt := 50) hx hb d_Mod_feed_45 (by decide) (fun h45 => ?_) (fun h45 => ?_)
        · refine lv_iconst (v := nI 0) hx hb d_Mod_feed_50 (by decide +kernel) ?_
          refine lv_istore (lv' := [(4, .int (nI 0)), (0, .ref (g 20)), (1, .int (nI n)), (2, .long (v))]) hx hb d_Mod_feed_51 hl (by decide) rfl (fun ls hl => ?_)
          refine gz_loop 53 (fun (zz : Nat) H locs ls => match zz with | i => va_P D cl5 (wM g k L (qTp (qTh r (nI 0)) (fdR (rTp r) (rTl r) v i))) H ∧ va_D A (wM g k L (qTp (qTh r (nI 0)) (fdR (rTp r) (rTl r) v i))) ∧ va_S A s.heap H locs ∧ lv_has ls 5 [(0, .ref (g 20)), (1, .int (nI n)), (2, .long (v)), (4, .int (nI i))] ∧ (i ≤ n) ∧ (rB (qTp (qTh r (nI 0)) (fdR (rTp r) (rTl r) v i)))) (fun (zz : Nat) => match zz with | i => n - i) (fun zz H locs ls hI ih53 => ?_) (0) ⟨hP, hD, hS, lv_sub hl [1, 2, 3, 0] rfl, (Nat.zero_le _), (fun q => hrB q)⟩
          obtain ⟨i, rfl⟩ : ∃ z, z = zz := ⟨_, rfl⟩
          obtain ⟨hP, hD, hS, hl, hi1, hrB⟩ := hI
          have hz1 : rTl (qTp (qTh r (nI 0)) (fdR (rTp r) (rTl r) v i)) = rTl r := rfl
          refine lv_iload hx hb d_Mod_feed_53 (lv_at hl 3 rfl) ?_
          refine lv_iload_n hx hb d_Mod_feed_55 rfl (lv_at hl 1 rfl) ?_
          refine gz_icmp_ge (tgt := 89) hx hb d_Mod_feed_56 (by decide) (by omega) (by omega) (fun h56 => ?_) (fun h56 => ?_)
          · have hin : i = n := by omega
            refine lv_aload_n hx hb d_Mod_feed_89 rfl (lv_at hl 0 rfl) ?_
            refine lv_dup hx hb d_Mod_feed_90 rfl ?_
            refine va_get (D := D) (ci := 4) (v := .int (nI (rTl (qTp (qTh r (nI 0)) (fdR (rTp r) (rTl r) v i))))) (C := R_Mod) (T := T_Mod) (N := 14) hx hb hTB in_Mod hown hK hP 0 rfl rfl 3 (by decide) (hTB _ k_647) (fun _ h9 => h9) rfl d_Mod_feed_91 ?_
            refine lv_iload_n hx hb d_Mod_feed_94 rfl (lv_at hl 1 rfl) ?_
            refine gz_iadd hx hb d_Mod_feed_95 ?_
            refine va_put (D := D) (ci := 4) (v := .int (nI ((rTl (qTp (qTh r (nI 0)) (fdR (rTp r) (rTl r) v i))) + n))) (ty := .int) (C := R_Mod) (T := T_Mod) (N := 14) hx hb hTB in_Mod t_Mod t_Mod_ok n_Mod hown hK hP hD hS 0 rfl rfl 3 (by decide) (hTB _ k_647) (fun _ h9 => h9) rfl (by decide +kernel) rfl rfl (Nat.le_of_ble_eq_true rfl) d_Mod_feed_96 (fun H locs hP hD hS => ?_)
            have hP : va_P D cl5 (wM g k L (qTl (qTp (qTh r (nI 0)) (fdR (rTp r) (rTl r) v i)) ((rTl (qTp (qTh r (nI 0)) (fdR (rTp r) (rTl r) v i))) + n))) H := hP
            have hD : va_D A (wM g k L (qTl (qTp (qTh r (nI 0)) (fdR (rTp r) (rTl r) v i)) ((rTl (qTp (qTh r (nI 0)) (fdR (rTp r) (rTl r) v i))) + n))) := hD
            refine lv_aload_n hx hb d_Mod_feed_99 rfl (lv_at hl 0 rfl) ?_
            refine va_get (D := D) (ci := 4) (v := .int (nI (rTl (qTl (qTp (qTh r (nI 0)) (fdR (rTp r) (rTl r) v i)) ((rTl (qTp (qTh r (nI 0)) (fdR (rTp r) (rTl r) v i))) + n))))) (C := R_Mod) (T := T_Mod) (N := 14) hx hb hTB in_Mod hown hK hP 0 rfl rfl 3 (by decide) (hTB _ k_647) (fun _ h9 => h9) rfl d_Mod_feed_100 ?_
            have hP9 : va_P D cl5 (wM g k L (qTl (qTp (qTh r (nI 0)) (fdR (rTp r) (rTl r) v n)) (rTl r + n))) H := (by subst hin; exact hP)
            have hD9 : va_D A (wM g k L (qTl (qTp (qTh r (nI 0)) (fdR (rTp r) (rTl r) v n)) (rTl r + n))) := (by subst hin; exact hD)
            exact W.iret (v := nI (rTl (qTl (qTp (qTh r (nI 0)) (fdR (rTp r) (rTl r) v i)) ((rTl (qTp (qTh r (nI 0)) (fdR (rTp r) (rTl r) v i))) + n)))) hx hb hr (fun tt9 ht9 hW9 => ⟨⟨_, (), rfl, rfl, ⟨by rw [ht9]; exact hP9, hD9⟩⟩, hS.F ht9⟩) hS.2.2 d_Mod_feed_103
          · refine lv_aload_n hx hb d_Mod_feed_59 rfl (lv_at hl 0 rfl) ?_
            refine va_get (D := D) (ci := 4) (v := .ref (g 21)) (C := R_Mod) (T := T_Mod) (N := 14) hx hb hTB in_Mod hown hK hP 0 rfl rfl 2 (by decide) (hTB _ k_646) (fun _ h9 => h9) rfl d_Mod_feed_60 ?_
            refine lv_aload_n hx hb d_Mod_feed_63 rfl (lv_at hl 0 rfl) ?_
            refine va_get (D := D) (ci := 4) (v := .int (nI (rTl (qTp (qTh r (nI 0)) (fdR (rTp r) (rTl r) v i))))) (C := R_Mod) (T := T_Mod) (N := 14) hx hb hTB in_Mod hown hK hP 0 rfl rfl 3 (by decide) (hTB _ k_647) (fun _ h9 => h9) rfl d_Mod_feed_64 ?_
            refine lv_iload hx hb d_Mod_feed_67 (lv_at hl 3 rfl) ?_
            refine gz_iadd hx hb d_Mod_feed_69 ?_
            refine lv_lload_n hx hb d_Mod_feed_70 rfl (lv_at hl 2 rfl) ?_
            refine lv_bipush (v := nI 8) hx hb d_Mod_feed_71 (by decide +kernel) ?_
            refine lv_iload hx hb d_Mod_feed_73 (lv_at hl 3 rfl) ?_
            refine gz_imul hx hb d_Mod_feed_75 ?_
            refine lv_lshr hx hb d_Mod_feed_76 rfl ?_
            refine lv_ldc2 (v := 255) hx hb hown (hTB _ k_702) d_Mod_feed_77 ?_
            refine lv_land hx hb d_Mod_feed_80 ?_
            refine lv_l2i hx hb d_Mod_feed_81 rfl ?_
            rw [fbR_N v (show i < 8 by omega)]
            refine gm_ast hx hb hK hP hD hS 1 2 rfl rfl (i := (rTl (qTp (qTh r (nI 0)) (fdR (rTp r) (rTl r) v i))) + i) (x := v.toBitVec.toNat / 2 ^ (8 * i) % 256) (by omega) (by omega) d_Mod_feed_82 (fun H locs hP hD hS => ?_)
            have hrB := rB_tp (i := (rTl (qTp (qTh r (nI 0)) (fdR (rTp r) (rTl r) v i))) + i) (x := v.toBitVec.toNat / 2 ^ (8 * i) % 256) hrB (by omega)
            have hP : va_P D cl5 (wM g k L (qTp (qTp (qTh r (nI 0)) (fdR (rTp r) (rTl r) v i)) (va_up (rTp (qTp (qTh r (nI 0)) (fdR (rTp r) (rTl r) v i))) ((rTl (qTp (qTh r (nI 0)) (fdR (rTp r) (rTl r) v i))) + i) (v.toBitVec.toNat / 2 ^ (8 * i) % 256)))) H := hP
            have hD : va_D A (wM g k L (qTp (qTp (qTh r (nI 0)) (fdR (rTp r) (rTl r) v i)) (va_up (rTp (qTp (qTh r (nI 0)) (fdR (rTp r) (rTl r) v i))) ((rTl (qTp (qTh r (nI 0)) (fdR (rTp r) (rTl r) v i))) + i) (v.toBitVec.toNat / 2 ^ (8 * i) % 256)))) := hD
            refine lv_iinc (v := nI (i + 1)) (lv' := [(4, .int (nI (i + 1))), (0, .ref (g 20)), (1, .int (nI n)), (2, .long (v))]) hx hb d_Mod_feed_83 hl (k := 3) rfl (nI_add i 1) (by decide) rfl (fun ls hl => ?_)
            refine lv_goto (tgt := 53) hx hb d_Mod_feed_86 (by decide) ?_
            exact ih53 (i + 1) _ _ _ (by first | omega | (dsimp only; omega)) ⟨hP, hD, hS, lv_sub hl [1, 2, 3, 0] rfl, (by omega), hrB⟩
        · exact absurd h45 (by decide)
      · exact absurd (show 512 < rTl r + n from h33) (by omega)
  · exact absurd h8 (by rw [inR_t hn1 hn2 (by decide)]; decide)
set_option maxHeartbeats 4000000 in
set_option maxRecDepth 100000 in
theorem c_Mod_feed_b (l : Launch) (D : va_G) (g : Nat → Nat) (k : Nat → ClassId) (L : Nat) (hL0 : 96 ≤ L) (hL : L ≤ 768) (r : RSt) (hrB : rB r) (x : Int32) (v : Int64) (hbad : inR x (nI 1) (nI 8) = false) : MuI l y_Mod_feed w_Mod_feed ({ frames := 1, cells := 0, slots := 0, locals := 22 }) [.ref (g 20), .int (x), .long (v)] D cl5 (tyC k) (wM g k L r) (wM g k L (qTh r (nI 1))) (nI 0) := by
  intro sz
  refine Met.ofW (cc := b_Mod_feed) (maxL := 5) (ret := (some .int)) (by decide) rfl ?_
  intro p9 e9 s m args9 below9 meth9 c9 s₁ B hml hv
  obtain ⟨rfl, hsz, hP, hK, hD0⟩ := hv
  have hx := B.exec
  have hb := B.bytes
  have hr := B.returns
  have hts := atoms_spec (ws := w_Mod_feed) B.pre
  have hTB : ∀ w ∈ lw_tb, w.before _ s = true := fun w h => hts w (List.mem_cons_of_mem _ h)
  have hown : s.vm.findClass R_Mod = some m.cls := findClass_of_methodNamed B.named
  have hlocks := B.notSynchronized
  subst hsz
  have hD := hD0.self (sz := s.heap.size)
  generalize hAe : va_A (wM g k L r) s.heap.size = A at hD ⊢
  have hA : ∀ q : Nat, s.heap.size ≤ q → A q := fun q h => by rw [← hAe]; exact Or.inr h
  have hS : va_S A s.heap s.heap [] := va_S.rf
  have hl := lv_entry ([.ref (g 20), .int (x), .long (v)]) (n := 5) (Nat.le_of_ble_eq_true rfl)
  rw [lg_entry_eq]
  generalize (lg_sl ([.ref (g 20), .int (x), .long (v)]) ++ List.replicate (5 - (lg_sl ([.ref (g 20), .int (x), .long (v)])).length) Slot.unset).toArray = ls at hl ⊢
  have hl : lv_has ls 5 [(0, .ref (g 20)), (1, .int (x)), (2, .long (v))] := hl
  refine lv_aload_n hx hb d_Mod_feed_0 rfl (lv_at hl 0 rfl) ?_
  refine lv_iload_n hx hb d_Mod_feed_1 rfl (lv_at hl 1 rfl) ?_
  refine lv_iconst (v := nI 1) hx hb d_Mod_feed_2 (by decide +kernel) ?_
  refine lv_bipush (v := nI 8) hx hb d_Mod_feed_3 (by decide +kernel) ?_
  refine gz_roS (As := [.int (x), .int (nI 1), .int (nI 8)]) (rest := [.ref (g 20)]) ⟨hx, hb, hml, hown, hTB⟩ (c_Mod_in l x (nI 1) (nI 8)) (cwS 3 hTB (gd_S k_695 k_696 k_56 k_697) rfl rfl rfl (by decide +kernel) ⟨Nat.le_of_ble_eq_true rfl, Nat.le_of_ble_eq_true rfl⟩) hP rfl hl.1 rfl (Nat.le_of_ble_eq_true rfl) d_Mod_feed_5 ⟨Nat.zero_le _, Nat.zero_le _⟩ hS (fun H locs hP hS => ?_)
  refine gz_ifz_ne (tgt := 15) hx hb d_Mod_feed_8 (by decide) (fun h8 => ?_) (fun h8 => ?_)
  · exact absurd (h8.symm.trans hbad) (by decide)
  · refine lv_iconst (v := nI 1) hx hb d_Mod_feed_11 (by decide +kernel) ?_
    refine lv_goto (tgt := 16) hx hb d_Mod_feed_12 (by decide) ?_
    refine lv_iconst (v := nI 1) hx hb d_Mod_feed_16 (by decide +kernel) ?_
    refine gz_muI (As := [.int (nI 1), .int (nI 1)]) (rest := []) (wc := (wM g k L r)) (w1 := (wM g k L (qTh r (nI 1)))) (wr := []) ⟨hx, hb, hml, hown, hTB⟩ (c_Mod_fails l D g k L hL0 hL r hrB true (nI 1)) (cwV 2 hTB (gd_V k_698 k_700 k_21 k_56 k_701) rfl rfl rfl (by decide +kernel) ⟨Nat.le_of_ble_eq_true rfl, Nat.le_of_ble_eq_true rfl⟩) hK hP hD hA [0, 1, 2, 3, 4, 5, 6, 7, 8, 9, 10] [] rfl rfl (by decide) rfl (by decide) (by decide) 0 rfl rfl rfl hl.1 rfl (Nat.le_of_ble_eq_true rfl) d_Mod_feed_17 ⟨Nat.zero_le _, Nat.zero_le _⟩ hS (fun H locs hP hD hS => ?_)
    have hP : va_P D cl5 (wM g k L (qTh r (nI 1))) H := hP
    have hD : va_D A (wM g k L (qTh r (nI 1))) := hD
    have hrB : rB (qTh r (nI 1)) := fun q => hrB q
    refine gz_ifz_ne (tgt := 48) hx hb d_Mod_feed_20 (by decide) (fun h20 => ?_) (fun h20 => ?_)
    · refine lv_iconst (v := nI 0) hx hb d_Mod_feed_48 (by decide +kernel) ?_
      have hP9 : va_P D cl5 (wM g k L (qTh r (nI 1))) H := hP
      have hD9 : va_D A (wM g k L (qTh r (nI 1))) := hD
      exact W.iret (v := nI 0) hx hb hr (fun tt9 ht9 hW9 => ⟨⟨_, (), rfl, rfl, ⟨by rw [ht9]; exact hP9, hD9⟩⟩, hS.F ht9⟩) hS.2.2 d_Mod_feed_49
    · exact absurd h20 (by decide)
set_option maxHeartbeats 4000000 in
set_option maxRecDepth 100000 in
theorem c_Mod_feed_c (l : Launch) (D : va_G) (g : Nat → Nat) (k : Nat → ClassId) (L : Nat) (hL0 : 96 ≤ L) (hL : L ≤ 768) (r : RSt) (hrB : rB r) (n : Nat) (v : Int64) (hn1 : 1 ≤ n) (hn2 : n ≤ 8) (ht1 : rTl r ≤ 512) (ht0 : 512 < rTl r + n) : MuI l y_Mod_feed w_Mod_feed ({ frames := 1, cells := 0, slots := 0, locals := 22 }) [.ref (g 20), .int (nI n), .long (v)] D cl5 (tyC k) (wM g k L r) (wM g k L (qTh r (nI 2))) (nI 0) := by
  intro sz
  refine Met.ofW (cc := b_Mod_feed) (maxL := 5) (ret := (some .int)) (by decide) rfl ?_
  intro p9 e9 s m args9 below9 meth9 c9 s₁ B hml hv
  obtain ⟨rfl, hsz, hP, hK, hD0⟩ := hv
  have hx := B.exec
  have hb := B.bytes
  have hr := B.returns
  have hts := atoms_spec (ws := w_Mod_feed) B.pre
  have hTB : ∀ w ∈ lw_tb, w.before _ s = true := fun w h => hts w (List.mem_cons_of_mem _ h)
  have hown : s.vm.findClass R_Mod = some m.cls := findClass_of_methodNamed B.named
  have hlocks := B.notSynchronized
  subst hsz
  have hD := hD0.self (sz := s.heap.size)
  generalize hAe : va_A (wM g k L r) s.heap.size = A at hD ⊢
  have hA : ∀ q : Nat, s.heap.size ≤ q → A q := fun q h => by rw [← hAe]; exact Or.inr h
  have hS : va_S A s.heap s.heap [] := va_S.rf
  have hl := lv_entry ([.ref (g 20), .int (nI n), .long (v)]) (n := 5) (Nat.le_of_ble_eq_true rfl)
  rw [lg_entry_eq]
  generalize (lg_sl ([.ref (g 20), .int (nI n), .long (v)]) ++ List.replicate (5 - (lg_sl ([.ref (g 20), .int (nI n), .long (v)])).length) Slot.unset).toArray = ls at hl ⊢
  have hl : lv_has ls 5 [(0, .ref (g 20)), (1, .int (nI n)), (2, .long (v))] := hl
  refine lv_aload_n hx hb d_Mod_feed_0 rfl (lv_at hl 0 rfl) ?_
  refine lv_iload_n hx hb d_Mod_feed_1 rfl (lv_at hl 1 rfl) ?_
  refine lv_iconst (v := nI 1) hx hb d_Mod_feed_2 (by decide +kernel) ?_
  refine lv_bipush (v := nI 8) hx hb d_Mod_feed_3 (by decide +kernel) ?_
  refine gz_roS (As := [.int (nI n), .int (nI 1), .int (nI 8)]) (rest := [.ref (g 20)]) ⟨hx, hb, hml, hown, hTB⟩ (c_Mod_in l (nI n) (nI 1) (nI 8)) (cwS 3 hTB (gd_S k_695 k_696 k_56 k_697) rfl rfl rfl (by decide +kernel) ⟨Nat.le_of_ble_eq_true rfl, Nat.le_of_ble_eq_true rfl⟩) hP rfl hl.1 rfl (Nat.le_of_ble_eq_true rfl) d_Mod_feed_5 ⟨Nat.zero_le _, Nat.zero_le _⟩ hS (fun H locs hP hS => ?_)
  refine gz_ifz_ne (tgt := 15) hx hb d_Mod_feed_8 (by decide) (fun h8 => ?_) (fun h8 => ?_)
  · refine lv_iconst (v := nI 0) hx hb d_Mod_feed_15 (by decide +kernel) ?_
    refine lv_iconst (v := nI 1) hx hb d_Mod_feed_16 (by decide +kernel) ?_
    refine gz_muI (As := [.int (nI 0), .int (nI 1)]) (rest := []) (wc := (wM g k L r)) (w1 := (wM g k L (qTh r (nI 0)))) (wr := []) ⟨hx, hb, hml, hown, hTB⟩ (c_Mod_fails l D g k L hL0 hL r hrB false (nI 1)) (cwV 2 hTB (gd_V k_698 k_700 k_21 k_56 k_701) rfl rfl rfl (by decide +kernel) ⟨Nat.le_of_ble_eq_true rfl, Nat.le_of_ble_eq_true rfl⟩) hK hP hD hA [0, 1, 2, 3, 4, 5, 6, 7, 8, 9, 10] [] rfl rfl (by decide) rfl (by decide) (by decide) 0 rfl rfl rfl hl.1 rfl (Nat.le_of_ble_eq_true rfl) d_Mod_feed_17 ⟨Nat.zero_le _, Nat.zero_le _⟩ hS (fun H locs hP hD hS => ?_)
    have hP : va_P D cl5 (wM g k L (qTh r (nI 0))) H := hP
    have hD : va_D A (wM g k L (qTh r (nI 0))) := hD
    have hrB : rB (qTh r (nI 0)) := fun q => hrB q
    refine gz_ifz_ne (tgt := 48) hx hb d_Mod_feed_20 (by decide) (fun h20 => ?_) (fun h20 => ?_)
    · exact absurd h20 (by decide)
    · refine lv_aload_n hx hb d_Mod_feed_23 rfl (lv_at hl 0 rfl) ?_
      refine lv_aload_n hx hb d_Mod_feed_24 rfl (lv_at hl 0 rfl) ?_
      refine va_get (D := D) (ci := 4) (v := .int (nI (rTl (qTh r (nI 0))))) (C := R_Mod) (T := T_Mod) (N := 14) hx hb hTB in_Mod hown hK hP 0 rfl rfl 3 (by decide) (hTB _ k_647) (fun _ h9 => h9) rfl d_Mod_feed_25 ?_
      have hz0 : rTl (qTh r (nI 0)) = rTl r := rfl
      refine lv_iload_n hx hb d_Mod_feed_28 rfl (lv_at hl 1 rfl) ?_
      refine gz_iadd hx hb d_Mod_feed_29 ?_
      refine lv_sipush (v := nI 512) hx hb d_Mod_feed_30 (by decide +kernel) ?_
      refine gz_icmp_le (tgt := 40) hx hb d_Mod_feed_33 (by decide) (by omega) (by omega) (fun h33 => ?_) (fun h33 => ?_)
      · exact absurd (show rTl r + n ≤ 512 from h33) (by omega)
      · refine lv_iconst (v := nI 1) hx hb d_Mod_feed_36 (by decide +kernel) ?_
        refine lv_goto (tgt := 41) hx hb d_Mod_feed_37 (by decide) ?_
        refine lv_iconst (v := nI 2) hx hb d_Mod_feed_41 (by decide +kernel) ?_
        refine gz_muI (As := [.int (nI 1), .int (nI 2)]) (rest := []) (wc := (wM g k L (qTh r (nI 0)))) (w1 := (wM g k L (qTh (qTh r (nI 0)) (nI 2)))) (wr := []) ⟨hx, hb, hml, hown, hTB⟩ (c_Mod_fails l D g k L hL0 hL (qTh r (nI 0)) hrB true (nI 2)) (cwV 2 hTB (gd_V k_698 k_700 k_21 k_56 k_701) rfl rfl rfl (by decide +kernel) ⟨Nat.le_of_ble_eq_true rfl, Nat.le_of_ble_eq_true rfl⟩) hK hP hD hA [0, 1, 2, 3, 4, 5, 6, 7, 8, 9, 10] [] rfl rfl (by decide) rfl (by decide) (by decide) 0 rfl rfl rfl hl.1 rfl (Nat.le_of_ble_eq_true rfl) d_Mod_feed_42 ⟨Nat.zero_le _, Nat.zero_le _⟩ hS (fun H locs hP hD hS => ?_)
        have hP : va_P D cl5 (wM g k L (qTh (qTh r (nI 0)) (nI 2))) H := hP
        have hD : va_D A (wM g k L (qTh (qTh r (nI 0)) (nI 2))) := hD
        have hrB : rB (qTh (qTh r (nI 0)) (nI 2)) := fun q => hrB q
        refine gz_ifz_eq (tgt := 50) hx hb d_Mod_feed_45 (by decide) (fun h45 => ?_) (fun h45 => ?_)
        · exact absurd h45 (by decide)
        · refine lv_iconst (v := nI 0) hx hb d_Mod_feed_48 (by decide +kernel) ?_
          have hP9 : va_P D cl5 (wM g k L (qTh r (nI 2))) H := hP
          have hD9 : va_D A (wM g k L (qTh r (nI 2))) := hD
          exact W.iret (v := nI 0) hx hb hr (fun tt9 ht9 hW9 => ⟨⟨_, (), rfl, rfl, ⟨by rw [ht9]; exact hP9, hD9⟩⟩, hS.F ht9⟩) hS.2.2 d_Mod_feed_49
  · exact absurd h8 (by rw [inR_t hn1 hn2 (by decide)]; decide)
