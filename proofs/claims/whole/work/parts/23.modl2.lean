theorem d_Mod_commitsAll_0 : decode b_Mod_commitsAll 0 = .ok (.aload_n 0, 1) := by decide +kernel
theorem d_Mod_commitsAll_1 : decode b_Mod_commitsAll 1 = .ok (.invokevirtual 67, 3) := by decide +kernel
theorem d_Mod_commitsAll_4 : decode b_Mod_commitsAll 4 = .ok (.istore_n 1, 1) := by decide +kernel
theorem d_Mod_commitsAll_5 : decode b_Mod_commitsAll 5 = .ok (.bipush 25, 2) := by decide +kernel
theorem d_Mod_commitsAll_7 : decode b_Mod_commitsAll 7 = .ok (.istore_n 2, 1) := by decide +kernel
theorem d_Mod_commitsAll_8 : decode b_Mod_commitsAll 8 = .ok (.iload_n 2, 1) := by decide +kernel
theorem d_Mod_commitsAll_9 : decode b_Mod_commitsAll 9 = .ok (.aload_n 0, 1) := by decide +kernel
theorem d_Mod_commitsAll_10 : decode b_Mod_commitsAll 10 = .ok (.getfield 41, 3) := by decide +kernel
theorem d_Mod_commitsAll_13 : decode b_Mod_commitsAll 13 = .ok (.if_icmp .ge 40, 3) := by decide +kernel
theorem d_Mod_commitsAll_16 : decode b_Mod_commitsAll 16 = .ok (.iconst 0, 1) := by decide +kernel
theorem d_Mod_commitsAll_17 : decode b_Mod_commitsAll 17 = .ok (.istore_n 3, 1) := by decide +kernel
theorem d_Mod_commitsAll_18 : decode b_Mod_commitsAll 18 = .ok (.iload_n 3, 1) := by decide +kernel
theorem d_Mod_commitsAll_19 : decode b_Mod_commitsAll 19 = .ok (.bipush 64, 2) := by decide +kernel
theorem d_Mod_commitsAll_21 : decode b_Mod_commitsAll 21 = .ok (.if_icmp .ge 26, 3) := by decide +kernel
theorem d_Mod_commitsAll_24 : decode b_Mod_commitsAll 24 = .ok (.aload_n 0, 1) := by decide +kernel
theorem d_Mod_commitsAll_25 : decode b_Mod_commitsAll 25 = .ok (.getfield 29, 3) := by decide +kernel
theorem d_Mod_commitsAll_28 : decode b_Mod_commitsAll 28 = .ok (.bipush 64, 2) := by decide +kernel
theorem d_Mod_commitsAll_30 : decode b_Mod_commitsAll 30 = .ok (.iload_n 2, 1) := by decide +kernel
theorem d_Mod_commitsAll_31 : decode b_Mod_commitsAll 31 = .ok (.imul, 1) := by decide +kernel
theorem d_Mod_commitsAll_32 : decode b_Mod_commitsAll 32 = .ok (.iload_n 3, 1) := by decide +kernel
theorem d_Mod_commitsAll_33 : decode b_Mod_commitsAll 33 = .ok (.iadd, 1) := by decide +kernel
theorem d_Mod_commitsAll_34 : decode b_Mod_commitsAll 34 = .ok (.aload_n 0, 1) := by decide +kernel
theorem d_Mod_commitsAll_35 : decode b_Mod_commitsAll 35 = .ok (.iload_n 2, 1) := by decide +kernel
theorem d_Mod_commitsAll_36 : decode b_Mod_commitsAll 36 = .ok (.iload_n 3, 1) := by decide +kernel
theorem d_Mod_commitsAll_37 : decode b_Mod_commitsAll 37 = .ok (.invokevirtual 60, 3) := by decide +kernel
theorem d_Mod_commitsAll_40 : decode b_Mod_commitsAll 40 = .ok (.iastore, 1) := by decide +kernel
theorem d_Mod_commitsAll_41 : decode b_Mod_commitsAll 41 = .ok (.iinc 3 1, 3) := by decide +kernel
theorem d_Mod_commitsAll_44 : decode b_Mod_commitsAll 44 = .ok (.goto (-26), 3) := by decide +kernel
theorem d_Mod_commitsAll_47 : decode b_Mod_commitsAll 47 = .ok (.iinc 2 1, 3) := by decide +kernel
theorem d_Mod_commitsAll_50 : decode b_Mod_commitsAll 50 = .ok (.goto (-42), 3) := by decide +kernel
theorem d_Mod_commitsAll_53 : decode b_Mod_commitsAll 53 = .ok (.aload_n 0, 1) := by decide +kernel
theorem d_Mod_commitsAll_54 : decode b_Mod_commitsAll 54 = .ok (.getfield 13, 3) := by decide +kernel
theorem d_Mod_commitsAll_57 : decode b_Mod_commitsAll 57 = .ok (.aload_n 0, 1) := by decide +kernel
theorem d_Mod_commitsAll_58 : decode b_Mod_commitsAll 58 = .ok (.getfield 23, 3) := by decide +kernel
theorem d_Mod_commitsAll_61 : decode b_Mod_commitsAll 61 = .ok (.invokestatic 70, 3) := by decide +kernel
theorem d_Mod_commitsAll_64 : decode b_Mod_commitsAll 64 = .ok (.aload_n 0, 1) := by decide +kernel
theorem d_Mod_commitsAll_65 : decode b_Mod_commitsAll 65 = .ok (.getfield 16, 3) := by decide +kernel
theorem d_Mod_commitsAll_68 : decode b_Mod_commitsAll 68 = .ok (.aload_n 0, 1) := by decide +kernel
theorem d_Mod_commitsAll_69 : decode b_Mod_commitsAll 69 = .ok (.getfield 26, 3) := by decide +kernel
theorem d_Mod_commitsAll_72 : decode b_Mod_commitsAll 72 = .ok (.invokestatic 70, 3) := by decide +kernel
theorem d_Mod_commitsAll_75 : decode b_Mod_commitsAll 75 = .ok (.iload_n 1, 1) := by decide +kernel
theorem d_Mod_commitsAll_76 : decode b_Mod_commitsAll 76 = .ok (.ireturn, 1) := by decide +kernel
set_option maxHeartbeats 4000000 in
set_option maxRecDepth 100000 in
theorem c_Mod_commitsAll (l : Launch) (D : va_G) (g : Nat → Nat) (k : Nat → ClassId) (L : Nat) (hL0 : 96 ≤ L) (hL : L ≤ 768) (r : RSt) (hrB : rB r) (hX : ∀ i, i < 64 → rNd r (20 * i + 2) ≤ 8) : MuI l y_Mod_commitsAll w_Mod_commitsAll ({ frames := 4, cells := 0, slots := 0, locals := 92 }) [.ref (g 20)] D cl5 (tyC k) (wM g k L r) (wM g k L (cmR L r)) (nI (chR L r)) := by
  intro sz
  refine Met.ofW (cc := b_Mod_commitsAll) (maxL := 4) (ret := (some .int)) (by decide) rfl ?_
  intro p9 e9 s m args9 below9 meth9 c9 s₁ B hml hv
  obtain ⟨rfl, hsz, hP, hK, hD0⟩ := hv
  have hx := B.exec
  have hb := B.bytes
  have hr := B.returns
  have hts := atoms_spec (ws := w_Mod_commitsAll) B.pre
  have hTB : ∀ w ∈ lw_tb, w.before _ s = true := fun w h => hts w (List.mem_cons_of_mem _ h)
  have hown : s.vm.findClass R_Mod = some m.cls := findClass_of_methodNamed B.named
  have hlocks := B.notSynchronized
  subst hsz
  have hD := hD0.self (sz := s.heap.size)
  generalize hAe : va_A (wM g k L r) s.heap.size = A at hD ⊢
  have hA : ∀ q : Nat, s.heap.size ≤ q → A q := fun q h => by rw [← hAe]; exact Or.inr h
  have hS : va_S A s.heap s.heap [] := va_S.rf
  have hl := lv_entry ([.ref (g 20)]) (n := 4) (Nat.le_of_ble_eq_true rfl)
  rw [lg_entry_eq]
  generalize (lg_sl ([.ref (g 20)]) ++ List.replicate (4 - (lg_sl ([.ref (g 20)])).length) Slot.unset).toArray = ls at hl ⊢
  have hl : lv_has ls 4 [(0, .ref (g 20))] := hl
  refine lv_aload_n hx hb d_Mod_commitsAll_0 rfl (lv_at hl 0 rfl) ?_
  refine gz_roV (As := []) (rest := []) (wc := (wM g k L r)) ⟨hx, hb, hml, hown, hTB⟩ (c_Mod_changes l D g k L hL0 hL r hrB hX) (cwV 0 hTB (gd_V k_621 k_623 k_16 k_56 k_624) rfl rfl rfl (by decide +kernel) ⟨Nat.le_of_ble_eq_true rfl, Nat.le_of_ble_eq_true rfl⟩) hK hP [0, 1, 2, 3, 4, 5, 6, 7, 8, 9, 10] rfl 0 rfl rfl rfl hl.1 rfl (Nat.le_of_ble_eq_true rfl) d_Mod_commitsAll_1 ⟨Nat.zero_le _, Nat.zero_le _⟩ hS (fun H locs hP hS => ?_)
  have := chG_le L r (L - 25) 25
  have : chR L r ≤ L - 25 := this
  refine lv_istore_n (lv' := [(1, .int (nI (chR L r))), (0, .ref (g 20))]) hx hb d_Mod_commitsAll_4 rfl hl (by decide) rfl (fun ls hl => ?_)
  refine lv_bipush (v := nI 25) hx hb d_Mod_commitsAll_5 (by decide +kernel) ?_
  refine lv_istore_n (lv' := [(2, .int (nI 25)), (1, .int (nI (chR L r))), (0, .ref (g 20))]) hx hb d_Mod_commitsAll_7 rfl hl (by decide) rfl (fun ls hl => ?_)
  refine gz_loop 8 (fun (zz : (Nat × RSt)) H locs ls => match zz with | (b, v) => va_P D cl5 (wM g k L v) H ∧ va_D A (wM g k L v) ∧ va_S A s.heap H locs ∧ lv_has ls 4 [(0, .ref (g 20)), (1, .int (nI (chR L r))), (2, .int (nI b))] ∧ (b ≤ L) ∧ (cmO L (L - b) b v = cmO L (L - 25) 25 r) ∧ (rB v) ∧ (∀ i, i < 64 → rNd v (20 * i + 2) ≤ 8)) (fun (zz : (Nat × RSt)) => match zz with | (b, v) => L - b) (fun zz H locs ls hI ih8 => ?_) (25, r) ⟨hP, hD, hS, lv_sub hl [2, 1, 0] rfl, (by omega), rfl, hrB, hX⟩
  obtain ⟨b, v⟩ := zz
  obtain ⟨hP, hD, hS, hl, hb1, hb2, hrB, hX⟩ := hI
  refine lv_iload_n hx hb d_Mod_commitsAll_8 rfl (lv_at hl 2 rfl) ?_
  refine lv_aload_n hx hb d_Mod_commitsAll_9 rfl (lv_at hl 0 rfl) ?_
  refine va_get (D := D) (ci := 4) (v := .int (nI L)) (C := R_Mod) (T := T_Mod) (N := 14) hx hb hTB in_Mod hown hK hP 0 rfl rfl 1 (by decide) (hTB _ k_645) (fun _ h9 => h9) rfl d_Mod_commitsAll_10 ?_
  refine gz_icmp_ge (tgt := 53) hx hb d_Mod_commitsAll_13 (by decide) (by omega) (by omega) (fun h13 => ?_) (fun h13 => ?_)
  · rw [show L - b = 0 by omega] at hb2
    have hb2 : v = _ := hb2
    refine lv_aload_n hx hb d_Mod_commitsAll_53 rfl (lv_at hl 0 rfl) ?_
    refine va_get (D := D) (ci := 4) (v := .ref (g 22)) (C := R_Mod) (T := T_Mod) (N := 14) hx hb hTB in_Mod hown hK hP 0 rfl rfl 4 (by decide) (hTB _ k_648) (fun _ h9 => h9) rfl d_Mod_commitsAll_54 ?_
    refine lv_aload_n hx hb d_Mod_commitsAll_57 rfl (lv_at hl 0 rfl) ?_
    refine va_get (D := D) (ci := 4) (v := .ref (g 25)) (C := R_Mod) (T := T_Mod) (N := 14) hx hb hTB in_Mod hown hK hP 0 rfl rfl 7 (by decide) (hTB _ k_651) (fun _ h9 => h9) rfl d_Mod_commitsAll_58 ?_
    refine gz_muS (As := [.ref (g 22), .ref (g 25)]) (rest := []) (wc := (wB (g 22) (g 25) k 1280 (rNd v) (rKn v))) (w1 := (wB (g 22) (g 25) k 1280 (rNd v) (cpM (rNd v) (rKn v) 1280))) (wr := [(g 20, .inr (4, [.int (rTh v), .int (nI L), .ref (g 21), .int (nI (rTl v)), .ref (g 22), .ref (g 23), .ref (g 24), .ref (g 25), .ref (g 26), .ref (g 27), .ref (g 28), .ref (g 29), .ref (g 30), .int (rCm v)])), (g 21, ac (k 2) 512 (rTp v)), (g 23, ac (k 2) 768 (rOw v)), (g 24, ac (k 2) 49152 (rNw v)), (g 26, ac (k 2) 768 (rKo v)), (g 27, ac (k 2) 49152 (rDn v)), (g 28, ac (k 2) 1280 (rAn v)), (g 29, ac (k 2) 768 (rAo v)), (g 30, ac (k 2) 49152 (rAw v))]) ⟨hx, hb, hml, hown, hTB⟩ (c_Mod_copy l D (g 22) (g 25) k 1280 (by decide) (rNd v) (rKn v)) (cwS 2 hTB (gd_S k_641 k_642 k_56 k_643) rfl rfl rfl (by decide +kernel) ⟨Nat.le_of_ble_eq_true rfl, Nat.le_of_ble_eq_true rfl⟩) hK hP hD hA [2, 5] [0, 1, 3, 4, 6, 7, 8, 9, 10] rfl rfl (by decide) rfl (by decide) (by decide) rfl hl.1 rfl (Nat.le_of_ble_eq_true rfl) d_Mod_commitsAll_61 ⟨Nat.zero_le _, Nat.zero_le _⟩ hS (fun H locs hP hD hS => ?_)
    have hP : va_P D cl5 (wM g k L (qKn v (cpM (rNd v) (rKn v) 1280))) H := hP.sub [0, 1, 9, 2, 3, 10, 4, 5, 6, 7, 8] rfl
    have hD : va_D A (wM g k L (qKn v (cpM (rNd v) (rKn v) 1280))) := hD.sub [0, 1, 9, 2, 3, 10, 4, 5, 6, 7, 8] (by decide) rfl
    have hrB := rBc_kn (n := 1280) (f := rNd v) hrB (fun q => (hrB q).2.1)
    refine lv_aload_n hx hb d_Mod_commitsAll_64 rfl (lv_at hl 0 rfl) ?_
    refine va_get (D := D) (ci := 4) (v := .ref (g 23)) (C := R_Mod) (T := T_Mod) (N := 14) hx hb hTB in_Mod hown hK hP 0 rfl rfl 5 (by decide) (hTB _ k_649) (fun _ h9 => h9) rfl d_Mod_commitsAll_65 ?_
    refine lv_aload_n hx hb d_Mod_commitsAll_68 rfl (lv_at hl 0 rfl) ?_
    refine va_get (D := D) (ci := 4) (v := .ref (g 26)) (C := R_Mod) (T := T_Mod) (N := 14) hx hb hTB in_Mod hown hK hP 0 rfl rfl 8 (by decide) (hTB _ k_652) (fun _ h9 => h9) rfl d_Mod_commitsAll_69 ?_
    refine gz_muS (As := [.ref (g 23), .ref (g 26)]) (rest := []) (wc := (wB (g 23) (g 26) k 768 (rOw (qKn v (cpM (rNd v) (rKn v) 1280))) (rKo (qKn v (cpM (rNd v) (rKn v) 1280))))) (w1 := (wB (g 23) (g 26) k 768 (rOw (qKn v (cpM (rNd v) (rKn v) 1280))) (cpM (rOw (qKn v (cpM (rNd v) (rKn v) 1280))) (rKo (qKn v (cpM (rNd v) (rKn v) 1280))) 768))) (wr := [(g 20, .inr (4, [.int (rTh (qKn v (cpM (rNd v) (rKn v) 1280))), .int (nI L), .ref (g 21), .int (nI (rTl (qKn v (cpM (rNd v) (rKn v) 1280)))), .ref (g 22), .ref (g 23), .ref (g 24), .ref (g 25), .ref (g 26), .ref (g 27), .ref (g 28), .ref (g 29), .ref (g 30), .int (rCm (qKn v (cpM (rNd v) (rKn v) 1280)))])), (g 21, ac (k 2) 512 (rTp (qKn v (cpM (rNd v) (rKn v) 1280)))), (g 22, ac (k 2) 1280 (rNd (qKn v (cpM (rNd v) (rKn v) 1280)))), (g 24, ac (k 2) 49152 (rNw (qKn v (cpM (rNd v) (rKn v) 1280)))), (g 25, ac (k 2) 1280 (rKn (qKn v (cpM (rNd v) (rKn v) 1280)))), (g 27, ac (k 2) 49152 (rDn (qKn v (cpM (rNd v) (rKn v) 1280)))), (g 28, ac (k 2) 1280 (rAn (qKn v (cpM (rNd v) (rKn v) 1280)))), (g 29, ac (k 2) 768 (rAo (qKn v (cpM (rNd v) (rKn v) 1280)))), (g 30, ac (k 2) 49152 (rAw (qKn v (cpM (rNd v) (rKn v) 1280))))]) ⟨hx, hb, hml, hown, hTB⟩ (c_Mod_copy l D (g 23) (g 26) k 768 (by decide) (rOw (qKn v (cpM (rNd v) (rKn v) 1280))) (rKo (qKn v (cpM (rNd v) (rKn v) 1280)))) (cwS 2 hTB (gd_S k_641 k_642 k_56 k_643) rfl rfl rfl (by decide +kernel) ⟨Nat.le_of_ble_eq_true rfl, Nat.le_of_ble_eq_true rfl⟩) hK hP hD hA [3, 6] [0, 1, 2, 4, 5, 7, 8, 9, 10] rfl rfl (by decide) rfl (by decide) (by decide) rfl hl.1 rfl (Nat.le_of_ble_eq_true rfl) d_Mod_commitsAll_72 ⟨Nat.zero_le _, Nat.zero_le _⟩ hS (fun H locs hP hD hS => ?_)
    have hP : va_P D cl5 (wM g k L (qKo (qKn v (cpM (rNd v) (rKn v) 1280)) (cpM (rOw (qKn v (cpM (rNd v) (rKn v) 1280))) (rKo (qKn v (cpM (rNd v) (rKn v) 1280))) 768))) H := hP.sub [0, 1, 2, 9, 3, 4, 10, 5, 6, 7, 8] rfl
    have hD : va_D A (wM g k L (qKo (qKn v (cpM (rNd v) (rKn v) 1280)) (cpM (rOw (qKn v (cpM (rNd v) (rKn v) 1280))) (rKo (qKn v (cpM (rNd v) (rKn v) 1280))) 768))) := hD.sub [0, 1, 2, 9, 3, 4, 10, 5, 6, 7, 8] (by decide) rfl
    have hrB := rBc_ko (n := 768) (f := rOw (qKn v (cpM (rNd v) (rKn v) 1280))) hrB (fun q => (hrB q).2.2.1)
    refine lv_iload_n hx hb d_Mod_commitsAll_75 rfl (lv_at hl 1 rfl) ?_
    have hP9 : va_P D cl5 (wM g k L (cmR L r)) H := (by unfold cmR; rw [← hb2]; exact hP)
    have hD9 : va_D A (wM g k L (cmR L r)) := (by unfold cmR; rw [← hb2]; exact hD)
    exact W.iret (v := nI (chR L r)) hx hb hr (fun tt9 ht9 hW9 => ⟨⟨_, (), rfl, rfl, ⟨by rw [ht9]; exact hP9, hD9⟩⟩, hS.F ht9⟩) hS.2.2 d_Mod_commitsAll_76
  · refine lv_iconst (v := nI 0) hx hb d_Mod_commitsAll_16 (by decide +kernel) ?_
    refine lv_istore_n (lv' := [(3, .int (nI 0)), (0, .ref (g 20)), (1, .int (nI (chR L r))), (2, .int (nI b))]) hx hb d_Mod_commitsAll_17 rfl hl (by decide) rfl (fun ls hl => ?_)
    refine gz_loop 18 (fun (zz : (Nat × RSt)) H locs ls => match zz with | (j, x) => va_P D cl5 (wM g k L x) H ∧ va_D A (wM g k L x) ∧ va_S A s.heap H locs ∧ lv_has ls 4 [(0, .ref (g 20)), (1, .int (nI (chR L r))), (2, .int (nI b)), (3, .int (nI j))] ∧ (j ≤ 64) ∧ (x = cmI L v b j) ∧ (rB x) ∧ (∀ i, i < 64 → rNd x (20 * i + 2) ≤ 8)) (fun (zz : (Nat × RSt)) => match zz with | (j, x) => 64 - j) (fun zz H locs ls hI ih18 => ?_) (0, v) ⟨hP, hD, hS, lv_sub hl [1, 2, 3, 0] rfl, (by omega), rfl, hrB, hX⟩
    obtain ⟨j, x⟩ := zz
    obtain ⟨hP, hD, hS, hl, hj1, hj2, hrB, hX⟩ := hI
    refine lv_iload_n hx hb d_Mod_commitsAll_18 rfl (lv_at hl 3 rfl) ?_
    refine lv_bipush (v := nI 64) hx hb d_Mod_commitsAll_19 (by decide +kernel) ?_
    refine gz_icmp_ge (tgt := 47) hx hb d_Mod_commitsAll_21 (by decide) (by omega) (by omega) (fun h21 => ?_) (fun h21 => ?_)
    · have hj8 : cmI L v b 64 = x := by rw [hj2, show j = 64 by omega]
      refine lv_iinc (v := nI (b + 1)) (lv' := [(2, .int (nI (b + 1))), (0, .ref (g 20)), (1, .int (nI (chR L r))), (3, .int (nI j))]) hx hb d_Mod_commitsAll_47 hl (k := 2) rfl (nI_add b 1) (by decide) rfl (fun ls hl => ?_)
      refine lv_goto (tgt := 8) hx hb d_Mod_commitsAll_50 (by decide) ?_
      exact ih8 (b + 1, x) _ _ _ (by first | omega | (dsimp only; omega)) ⟨hP, hD, hS, lv_sub hl [1, 2, 0] rfl, (by omega), (by rw [← hb2, show L - b = (L - (b + 1)) + 1 by omega, cmO, hj8]), hrB, hX⟩
    · refine lv_aload_n hx hb d_Mod_commitsAll_24 rfl (lv_at hl 0 rfl) ?_
      refine va_get (D := D) (ci := 4) (v := .ref (g 27)) (C := R_Mod) (T := T_Mod) (N := 14) hx hb hTB in_Mod hown hK hP 0 rfl rfl 9 (by decide) (hTB _ k_653) (fun _ h9 => h9) rfl d_Mod_commitsAll_25 ?_
      refine lv_bipush (v := nI 64) hx hb d_Mod_commitsAll_28 (by decide +kernel) ?_
      refine lv_iload_n hx hb d_Mod_commitsAll_30 rfl (lv_at hl 2 rfl) ?_
      refine gz_imul hx hb d_Mod_commitsAll_31 ?_
      refine lv_iload_n hx hb d_Mod_commitsAll_32 rfl (lv_at hl 3 rfl) ?_
      refine gz_iadd hx hb d_Mod_commitsAll_33 ?_
      refine lv_aload_n hx hb d_Mod_commitsAll_34 rfl (lv_at hl 0 rfl) ?_
      refine lv_iload_n hx hb d_Mod_commitsAll_35 rfl (lv_at hl 2 rfl) ?_
      refine lv_iload_n hx hb d_Mod_commitsAll_36 rfl (lv_at hl 3 rfl) ?_
      refine gz_roV (As := [.int (nI b), .int (nI j)]) (rest := [.int (nI ((64 * b) + j)), .ref (g 27)]) (wc := (wM g k L x)) ⟨hx, hb, hml, hown, hTB⟩ (c_Mod_byteOf l D g k L hL0 hL x hrB b j (by omega) (by omega) hX) (cwV 2 hTB (gd_V k_629 k_631 k_18 k_56 k_632) rfl rfl rfl (by decide +kernel) ⟨Nat.le_of_ble_eq_true rfl, Nat.le_of_ble_eq_true rfl⟩) hK hP [0, 1, 2, 3, 4, 5, 6, 7, 8, 9, 10] rfl 0 rfl rfl rfl hl.1 rfl (Nat.le_of_ble_eq_true rfl) d_Mod_commitsAll_37 ⟨Nat.zero_le _, Nat.zero_le _⟩ hS (fun H locs hP hS => ?_)
      have := boR_lt (L := L) hrB b j
      refine gm_ast hx hb hK hP hD hS 7 2 rfl rfl (i := (64 * b) + j) (x := boR L x b j) (by omega) (by omega) d_Mod_commitsAll_40 (fun H locs hP hD hS => ?_)
      have hrB := rB_dn (i := (64 * b) + j) (x := boR L x b j) hrB (by omega)
      have hP : va_P D cl5 (wM g k L (qDn x (va_up (rDn x) ((64 * b) + j) (boR L x b j)))) H := hP
      have hD : va_D A (wM g k L (qDn x (va_up (rDn x) ((64 * b) + j) (boR L x b j)))) := hD
      refine lv_iinc (v := nI (j + 1)) (lv' := [(3, .int (nI (j + 1))), (0, .ref (g 20)), (1, .int (nI (chR L r))), (2, .int (nI b))]) hx hb d_Mod_commitsAll_41 hl (k := 3) rfl (nI_add j 1) (by decide) rfl (fun ls hl => ?_)
      refine lv_goto (tgt := 18) hx hb d_Mod_commitsAll_44 (by decide) ?_
      exact ih18 (j + 1, qDn x (va_up (rDn x) ((64 * b) + j) (boR L x b j))) _ _ _ (by first | omega | (dsimp only; omega)) ⟨hP, hD, hS, lv_sub hl [1, 2, 3, 0] rfl, (by omega), (by rw [hj2]; rfl), hrB, hX⟩
theorem d_Mod_keepsAside_0 : decode b_Mod_keepsAside 0 = .ok (.aload_n 0, 1) := by decide +kernel
theorem d_Mod_keepsAside_1 : decode b_Mod_keepsAside 1 = .ok (.getfield 13, 3) := by decide +kernel
theorem d_Mod_keepsAside_4 : decode b_Mod_keepsAside 4 = .ok (.aload_n 0, 1) := by decide +kernel
theorem d_Mod_keepsAside_5 : decode b_Mod_keepsAside 5 = .ok (.getfield 32, 3) := by decide +kernel
theorem d_Mod_keepsAside_8 : decode b_Mod_keepsAside 8 = .ok (.invokestatic 70, 3) := by decide +kernel
theorem d_Mod_keepsAside_11 : decode b_Mod_keepsAside 11 = .ok (.aload_n 0, 1) := by decide +kernel
theorem d_Mod_keepsAside_12 : decode b_Mod_keepsAside 12 = .ok (.getfield 16, 3) := by decide +kernel
theorem d_Mod_keepsAside_15 : decode b_Mod_keepsAside 15 = .ok (.aload_n 0, 1) := by decide +kernel
theorem d_Mod_keepsAside_16 : decode b_Mod_keepsAside 16 = .ok (.getfield 35, 3) := by decide +kernel
theorem d_Mod_keepsAside_19 : decode b_Mod_keepsAside 19 = .ok (.invokestatic 70, 3) := by decide +kernel
theorem d_Mod_keepsAside_22 : decode b_Mod_keepsAside 22 = .ok (.aload_n 0, 1) := by decide +kernel
theorem d_Mod_keepsAside_23 : decode b_Mod_keepsAside 23 = .ok (.getfield 20, 3) := by decide +kernel
theorem d_Mod_keepsAside_26 : decode b_Mod_keepsAside 26 = .ok (.aload_n 0, 1) := by decide +kernel
theorem d_Mod_keepsAside_27 : decode b_Mod_keepsAside 27 = .ok (.getfield 38, 3) := by decide +kernel
theorem d_Mod_keepsAside_30 : decode b_Mod_keepsAside 30 = .ok (.invokestatic 70, 3) := by decide +kernel
theorem d_Mod_keepsAside_33 : decode b_Mod_keepsAside 33 = .ok (.return_, 1) := by decide +kernel
set_option maxHeartbeats 4000000 in
set_option maxRecDepth 100000 in
theorem c_Mod_keepsAside (l : Launch) (D : va_G) (g : Nat → Nat) (k : Nat → ClassId) (L : Nat) (hL0 : 96 ≤ L) (hL : L ≤ 768) (r : RSt) (hrB : rB r) : MuV l y_Mod_keepsAside w_Mod_keepsAside ({ frames := 1, cells := 0, slots := 0, locals := 22 }) [.ref (g 20)] D cl5 (tyC k) (wM g k L r) (wM g k L (ksR r)) := by
  intro sz
  refine Met.ofW (cc := b_Mod_keepsAside) (maxL := 1) (ret := none) (by decide) rfl ?_
  intro p9 e9 s m args9 below9 meth9 c9 s₁ B hml hv
  obtain ⟨rfl, hsz, hP, hK, hD0⟩ := hv
  have hx := B.exec
  have hb := B.bytes
  have hr := B.returns
  have hts := atoms_spec (ws := w_Mod_keepsAside) B.pre
  have hTB : ∀ w ∈ lw_tb, w.before _ s = true := fun w h => hts w (List.mem_cons_of_mem _ h)
  have hown : s.vm.findClass R_Mod = some m.cls := findClass_of_methodNamed B.named
  have hlocks := B.notSynchronized
  subst hsz
  have hD := hD0.self (sz := s.heap.size)
  generalize hAe : va_A (wM g k L r) s.heap.size = A at hD ⊢
  have hA : ∀ q : Nat, s.heap.size ≤ q → A q := fun q h => by rw [← hAe]; exact Or.inr h
  have hS : va_S A s.heap s.heap [] := va_S.rf
  have hl := lv_entry ([.ref (g 20)]) (n := 1) (Nat.le_of_ble_eq_true rfl)
  rw [lg_entry_eq]
  generalize (lg_sl ([.ref (g 20)]) ++ List.replicate (1 - (lg_sl ([.ref (g 20)])).length) Slot.unset).toArray = ls at hl ⊢
  have hl : lv_has ls 1 [(0, .ref (g 20))] := hl
  refine lv_aload_n hx hb d_Mod_keepsAside_0 rfl (lv_at hl 0 rfl) ?_
  refine va_get (D := D) (ci := 4) (v := .ref (g 22)) (C := R_Mod) (T := T_Mod) (N := 14) hx hb hTB in_Mod hown hK hP 0 rfl rfl 4 (by decide) (hTB _ k_648) (fun _ h9 => h9) rfl d_Mod_keepsAside_1 ?_
  refine lv_aload_n hx hb d_Mod_keepsAside_4 rfl (lv_at hl 0 rfl) ?_
  refine va_get (D := D) (ci := 4) (v := .ref (g 28)) (C := R_Mod) (T := T_Mod) (N := 14) hx hb hTB in_Mod hown hK hP 0 rfl rfl 10 (by decide) (hTB _ k_654) (fun _ h9 => h9) rfl d_Mod_keepsAside_5 ?_
  refine gz_muS (As := [.ref (g 22), .ref (g 28)]) (rest := []) (wc := (wB (g 22) (g 28) k 1280 (rNd r) (rAn r))) (w1 := (wB (g 22) (g 28) k 1280 (rNd r) (cpM (rNd r) (rAn r) 1280))) (wr := [(g 20, .inr (4, [.int (rTh r), .int (nI L), .ref (g 21), .int (nI (rTl r)), .ref (g 22), .ref (g 23), .ref (g 24), .ref (g 25), .ref (g 26), .ref (g 27), .ref (g 28), .ref (g 29), .ref (g 30), .int (rCm r)])), (g 21, ac (k 2) 512 (rTp r)), (g 23, ac (k 2) 768 (rOw r)), (g 24, ac (k 2) 49152 (rNw r)), (g 25, ac (k 2) 1280 (rKn r)), (g 26, ac (k 2) 768 (rKo r)), (g 27, ac (k 2) 49152 (rDn r)), (g 29, ac (k 2) 768 (rAo r)), (g 30, ac (k 2) 49152 (rAw r))]) ⟨hx, hb, hml, hown, hTB⟩ (c_Mod_copy l D (g 22) (g 28) k 1280 (by decide) (rNd r) (rAn r)) (cwS 2 hTB (gd_S k_641 k_642 k_56 k_643) rfl rfl rfl (by decide +kernel) ⟨Nat.le_of_ble_eq_true rfl, Nat.le_of_ble_eq_true rfl⟩) hK hP hD hA [2, 8] [0, 1, 3, 4, 5, 6, 7, 9, 10] rfl rfl (by decide) rfl (by decide) (by decide) rfl hl.1 rfl (Nat.le_of_ble_eq_true rfl) d_Mod_keepsAside_8 ⟨Nat.zero_le _, Nat.zero_le _⟩ hS (fun H locs hP hD hS => ?_)
  have hP : va_P D cl5 (wM g k L (qAn r (cpM (rNd r) (rAn r) 1280))) H := hP.sub [0, 1, 9, 2, 3, 4, 5, 6, 10, 7, 8] rfl
  have hD : va_D A (wM g k L (qAn r (cpM (rNd r) (rAn r) 1280))) := hD.sub [0, 1, 9, 2, 3, 4, 5, 6, 10, 7, 8] (by decide) rfl
  have hrB := rBc_an (n := 1280) (f := rNd r) hrB (fun q => (hrB q).2.1)
  refine lv_aload_n hx hb d_Mod_keepsAside_11 rfl (lv_at hl 0 rfl) ?_
  refine va_get (D := D) (ci := 4) (v := .ref (g 23)) (C := R_Mod) (T := T_Mod) (N := 14) hx hb hTB in_Mod hown hK hP 0 rfl rfl 5 (by decide) (hTB _ k_649) (fun _ h9 => h9) rfl d_Mod_keepsAside_12 ?_
  refine lv_aload_n hx hb d_Mod_keepsAside_15 rfl (lv_at hl 0 rfl) ?_
  refine va_get (D := D) (ci := 4) (v := .ref (g 29)) (C := R_Mod) (T := T_Mod) (N := 14) hx hb hTB in_Mod hown hK hP 0 rfl rfl 11 (by decide) (hTB _ k_655) (fun _ h9 => h9) rfl d_Mod_keepsAside_16 ?_
  refine gz_muS (As := [.ref (g 23), .ref (g 29)]) (rest := []) (wc := (wB (g 23) (g 29) k 768 (rOw (qAn r (cpM (rNd r) (rAn r) 1280))) (rAo (qAn r (cpM (rNd r) (rAn r) 1280))))) (w1 := (wB (g 23) (g 29) k 768 (rOw (qAn r (cpM (rNd r) (rAn r) 1280))) (cpM (rOw (qAn r (cpM (rNd r) (rAn r) 1280))) (rAo (qAn r (cpM (rNd r) (rAn r) 1280))) 768))) (wr := [(g 20, .inr (4, [.int (rTh (qAn r (cpM (rNd r) (rAn r) 1280))), .int (nI L), .ref (g 21), .int (nI (rTl (qAn r (cpM (rNd r) (rAn r) 1280)))), .ref (g 22), .ref (g 23), .ref (g 24), .ref (g 25), .ref (g 26), .ref (g 27), .ref (g 28), .ref (g 29), .ref (g 30), .int (rCm (qAn r (cpM (rNd r) (rAn r) 1280)))])), (g 21, ac (k 2) 512 (rTp (qAn r (cpM (rNd r) (rAn r) 1280)))), (g 22, ac (k 2) 1280 (rNd (qAn r (cpM (rNd r) (rAn r) 1280)))), (g 24, ac (k 2) 49152 (rNw (qAn r (cpM (rNd r) (rAn r) 1280)))), (g 25, ac (k 2) 1280 (rKn (qAn r (cpM (rNd r) (rAn r) 1280)))), (g 26, ac (k 2) 768 (rKo (qAn r (cpM (rNd r) (rAn r) 1280)))), (g 27, ac (k 2) 49152 (rDn (qAn r (cpM (rNd r) (rAn r) 1280)))), (g 28, ac (k 2) 1280 (rAn (qAn r (cpM (rNd r) (rAn r) 1280)))), (g 30, ac (k 2) 49152 (rAw (qAn r (cpM (rNd r) (rAn r) 1280))))]) ⟨hx, hb, hml, hown, hTB⟩ (c_Mod_copy l D (g 23) (g 29) k 768 (by decide) (rOw (qAn r (cpM (rNd r) (rAn r) 1280))) (rAo (qAn r (cpM (rNd r) (rAn r) 1280)))) (cwS 2 hTB (gd_S k_641 k_642 k_56 k_643) rfl rfl rfl (by decide +kernel) ⟨Nat.le_of_ble_eq_true rfl, Nat.le_of_ble_eq_true rfl⟩) hK hP hD hA [3, 9] [0, 1, 2, 4, 5, 6, 7, 8, 10] rfl rfl (by decide) rfl (by decide) (by decide) rfl hl.1 rfl (Nat.le_of_ble_eq_true rfl) d_Mod_keepsAside_19 ⟨Nat.zero_le _, Nat.zero_le _⟩ hS (fun H locs hP hD hS => ?_)
  have hP : va_P D cl5 (wM g k L (qAo (qAn r (cpM (rNd r) (rAn r) 1280)) (cpM (rOw (qAn r (cpM (rNd r) (rAn r) 1280))) (rAo (qAn r (cpM (rNd r) (rAn r) 1280))) 768))) H := hP.sub [0, 1, 2, 9, 3, 4, 5, 6, 7, 10, 8] rfl
  have hD : va_D A (wM g k L (qAo (qAn r (cpM (rNd r) (rAn r) 1280)) (cpM (rOw (qAn r (cpM (rNd r) (rAn r) 1280))) (rAo (qAn r (cpM (rNd r) (rAn r) 1280))) 768))) := hD.sub [0, 1, 2, 9, 3, 4, 5, 6, 7, 10, 8] (by decide) rfl
  have hrB := rBc_ao (n := 768) (f := rOw (qAn r (cpM (rNd r) (rAn r) 1280))) hrB (fun q => (hrB q).2.2.1)
  refine lv_aload_n hx hb d_Mod_keepsAside_22 rfl (lv_at hl 0 rfl) ?_
  refine va_get (D := D) (ci := 4) (v := .ref (g 24)) (C := R_Mod) (T := T_Mod) (N := 14) hx hb hTB in_Mod hown hK hP 0 rfl rfl 6 (by decide) (hTB _ k_650) (fun _ h9 => h9) rfl d_Mod_keepsAside_23 ?_
  refine lv_aload_n hx hb d_Mod_keepsAside_26 rfl (lv_at hl 0 rfl) ?_
  refine va_get (D := D) (ci := 4) (v := .ref (g 30)) (C := R_Mod) (T := T_Mod) (N := 14) hx hb hTB in_Mod hown hK hP 0 rfl rfl 12 (by decide) (hTB _ k_656) (fun _ h9 => h9) rfl d_Mod_keepsAside_27 ?_
  refine gz_muS (As := [.ref (g 24), .ref (g 30)]) (rest := []) (wc := (wB (g 24) (g 30) k 49152 (rNw (qAo (qAn r (cpM (rNd r) (rAn r) 1280)) (cpM (rOw (qAn r (cpM (rNd r) (rAn r) 1280))) (rAo (qAn r (cpM (rNd r) (rAn r) 1280))) 768))) (rAw (qAo (qAn r (cpM (rNd r) (rAn r) 1280)) (cpM (rOw (qAn r (cpM (rNd r) (rAn r) 1280))) (rAo (qAn r (cpM (rNd r) (rAn r) 1280))) 768))))) (w1 := (wB (g 24) (g 30) k 49152 (rNw (qAo (qAn r (cpM (rNd r) (rAn r) 1280)) (cpM (rOw (qAn r (cpM (rNd r) (rAn r) 1280))) (rAo (qAn r (cpM (rNd r) (rAn r) 1280))) 768))) (cpM (rNw (qAo (qAn r (cpM (rNd r) (rAn r) 1280)) (cpM (rOw (qAn r (cpM (rNd r) (rAn r) 1280))) (rAo (qAn r (cpM (rNd r) (rAn r) 1280))) 768))) (rAw (qAo (qAn r (cpM (rNd r) (rAn r) 1280)) (cpM (rOw (qAn r (cpM (rNd r) (rAn r) 1280))) (rAo (qAn r (cpM (rNd r) (rAn r) 1280))) 768))) 49152))) (wr := [(g 20, .inr (4, [.int (rTh (qAo (qAn r (cpM (rNd r) (rAn r) 1280)) (cpM (rOw (qAn r (cpM (rNd r) (rAn r) 1280))) (rAo (qAn r (cpM (rNd r) (rAn r) 1280))) 768))), .int (nI L), .ref (g 21), .int (nI (rTl (qAo (qAn r (cpM (rNd r) (rAn r) 1280)) (cpM (rOw (qAn r (cpM (rNd r) (rAn r) 1280))) (rAo (qAn r (cpM (rNd r) (rAn r) 1280))) 768)))), .ref (g 22), .ref (g 23), .ref (g 24), .ref (g 25), .ref (g 26), .ref (g 27), .ref (g 28), .ref (g 29), .ref (g 30), .int (rCm (qAo (qAn r (cpM (rNd r) (rAn r) 1280)) (cpM (rOw (qAn r (cpM (rNd r) (rAn r) 1280))) (rAo (qAn r (cpM (rNd r) (rAn r) 1280))) 768)))])), (g 21, ac (k 2) 512 (rTp (qAo (qAn r (cpM (rNd r) (rAn r) 1280)) (cpM (rOw (qAn r (cpM (rNd r) (rAn r) 1280))) (rAo (qAn r (cpM (rNd r) (rAn r) 1280))) 768)))), (g 22, ac (k 2) 1280 (rNd (qAo (qAn r (cpM (rNd r) (rAn r) 1280)) (cpM (rOw (qAn r (cpM (rNd r) (rAn r) 1280))) (rAo (qAn r (cpM (rNd r) (rAn r) 1280))) 768)))), (g 23, ac (k 2) 768 (rOw (qAo (qAn r (cpM (rNd r) (rAn r) 1280)) (cpM (rOw (qAn r (cpM (rNd r) (rAn r) 1280))) (rAo (qAn r (cpM (rNd r) (rAn r) 1280))) 768)))), (g 25, ac (k 2) 1280 (rKn (qAo (qAn r (cpM (rNd r) (rAn r) 1280)) (cpM (rOw (qAn r (cpM (rNd r) (rAn r) 1280))) (rAo (qAn r (cpM (rNd r) (rAn r) 1280))) 768)))), (g 26, ac (k 2) 768 (rKo (qAo (qAn r (cpM (rNd r) (rAn r) 1280)) (cpM (rOw (qAn r (cpM (rNd r) (rAn r) 1280))) (rAo (qAn r (cpM (rNd r) (rAn r) 1280))) 768)))), (g 27, ac (k 2) 49152 (rDn (qAo (qAn r (cpM (rNd r) (rAn r) 1280)) (cpM (rOw (qAn r (cpM (rNd r) (rAn r) 1280))) (rAo (qAn r (cpM (rNd r) (rAn r) 1280))) 768)))), (g 28, ac (k 2) 1280 (rAn (qAo (qAn r (cpM (rNd r) (rAn r) 1280)) (cpM (rOw (qAn r (cpM (rNd r) (rAn r) 1280))) (rAo (qAn r (cpM (rNd r) (rAn r) 1280))) 768)))), (g 29, ac (k 2) 768 (rAo (qAo (qAn r (cpM (rNd r) (rAn r) 1280)) (cpM (rOw (qAn r (cpM (rNd r) (rAn r) 1280))) (rAo (qAn r (cpM (rNd r) (rAn r) 1280))) 768))))]) ⟨hx, hb, hml, hown, hTB⟩ (c_Mod_copy l D (g 24) (g 30) k 49152 (by decide) (rNw (qAo (qAn r (cpM (rNd r) (rAn r) 1280)) (cpM (rOw (qAn r (cpM (rNd r) (rAn r) 1280))) (rAo (qAn r (cpM (rNd r) (rAn r) 1280))) 768))) (rAw (qAo (qAn r (cpM (rNd r) (rAn r) 1280)) (cpM (rOw (qAn r (cpM (rNd r) (rAn r) 1280))) (rAo (qAn r (cpM (rNd r) (rAn r) 1280))) 768)))) (cwS 2 hTB (gd_S k_641 k_642 k_56 k_643) rfl rfl rfl (by decide +kernel) ⟨Nat.le_of_ble_eq_true rfl, Nat.le_of_ble_eq_true rfl⟩) hK hP hD hA [4, 10] [0, 1, 2, 3, 5, 6, 7, 8, 9] rfl rfl (by decide) rfl (by decide) (by decide) rfl hl.1 rfl (Nat.le_of_ble_eq_true rfl) d_Mod_keepsAside_30 ⟨Nat.zero_le _, Nat.zero_le _⟩ hS (fun H locs hP hD hS => ?_)
  have hP : va_P D cl5 (wM g k L (qAw (qAo (qAn r (cpM (rNd r) (rAn r) 1280)) (cpM (rOw (qAn r (cpM (rNd r) (rAn r) 1280))) (rAo (qAn r (cpM (rNd r) (rAn r) 1280))) 768)) (cpM (rNw (qAo (qAn r (cpM (rNd r) (rAn r) 1280)) (cpM (rOw (qAn r (cpM (rNd r) (rAn r) 1280))) (rAo (qAn r (cpM (rNd r) (rAn r) 1280))) 768))) (rAw (qAo (qAn r (cpM (rNd r) (rAn r) 1280)) (cpM (rOw (qAn r (cpM (rNd r) (rAn r) 1280))) (rAo (qAn r (cpM (rNd r) (rAn r) 1280))) 768))) 49152))) H := hP.sub [0, 1, 2, 3, 9, 4, 5, 6, 7, 8, 10] rfl
  have hD : va_D A (wM g k L (qAw (qAo (qAn r (cpM (rNd r) (rAn r) 1280)) (cpM (rOw (qAn r (cpM (rNd r) (rAn r) 1280))) (rAo (qAn r (cpM (rNd r) (rAn r) 1280))) 768)) (cpM (rNw (qAo (qAn r (cpM (rNd r) (rAn r) 1280)) (cpM (rOw (qAn r (cpM (rNd r) (rAn r) 1280))) (rAo (qAn r (cpM (rNd r) (rAn r) 1280))) 768))) (rAw (qAo (qAn r (cpM (rNd r) (rAn r) 1280)) (cpM (rOw (qAn r (cpM (rNd r) (rAn r) 1280))) (rAo (qAn r (cpM (rNd r) (rAn r) 1280))) 768))) 49152))) := hD.sub [0, 1, 2, 3, 9, 4, 5, 6, 7, 8, 10] (by decide) rfl
  have hrB := rBc_aw (n := 49152) (f := rNw (qAo (qAn r (cpM (rNd r) (rAn r) 1280)) (cpM (rOw (qAn r (cpM (rNd r) (rAn r) 1280))) (rAo (qAn r (cpM (rNd r) (rAn r) 1280))) 768))) hrB (fun q => (hrB q).2.2.2.1)
  have hP9 : va_P D cl5 (wM g k L (ksR r)) H := hP
  have hD9 : va_D A (wM g k L (ksR r)) := hD
  exact W.vret hx hb hr (fun tt9 ht9 hW9 => ⟨⟨(), rfl, trivial, ⟨by rw [ht9]; exact hP9, hD9⟩⟩, hS.F ht9⟩) hS.2.2 d_Mod_keepsAside_33
theorem d_Mod_bringsBack_0 : decode b_Mod_bringsBack 0 = .ok (.aload_n 0, 1) := by decide +kernel
theorem d_Mod_bringsBack_1 : decode b_Mod_bringsBack 1 = .ok (.getfield 32, 3) := by decide +kernel
theorem d_Mod_bringsBack_4 : decode b_Mod_bringsBack 4 = .ok (.aload_n 0, 1) := by decide +kernel
theorem d_Mod_bringsBack_5 : decode b_Mod_bringsBack 5 = .ok (.getfield 13, 3) := by decide +kernel
theorem d_Mod_bringsBack_8 : decode b_Mod_bringsBack 8 = .ok (.invokestatic 70, 3) := by decide +kernel
theorem d_Mod_bringsBack_11 : decode b_Mod_bringsBack 11 = .ok (.aload_n 0, 1) := by decide +kernel
theorem d_Mod_bringsBack_12 : decode b_Mod_bringsBack 12 = .ok (.getfield 35, 3) := by decide +kernel
theorem d_Mod_bringsBack_15 : decode b_Mod_bringsBack 15 = .ok (.aload_n 0, 1) := by decide +kernel
theorem d_Mod_bringsBack_16 : decode b_Mod_bringsBack 16 = .ok (.getfield 16, 3) := by decide +kernel
theorem d_Mod_bringsBack_19 : decode b_Mod_bringsBack 19 = .ok (.invokestatic 70, 3) := by decide +kernel
theorem d_Mod_bringsBack_22 : decode b_Mod_bringsBack 22 = .ok (.aload_n 0, 1) := by decide +kernel
theorem d_Mod_bringsBack_23 : decode b_Mod_bringsBack 23 = .ok (.getfield 38, 3) := by decide +kernel
theorem d_Mod_bringsBack_26 : decode b_Mod_bringsBack 26 = .ok (.aload_n 0, 1) := by decide +kernel
theorem d_Mod_bringsBack_27 : decode b_Mod_bringsBack 27 = .ok (.getfield 20, 3) := by decide +kernel
theorem d_Mod_bringsBack_30 : decode b_Mod_bringsBack 30 = .ok (.invokestatic 70, 3) := by decide +kernel
theorem d_Mod_bringsBack_33 : decode b_Mod_bringsBack 33 = .ok (.return_, 1) := by decide +kernel
set_option maxHeartbeats 4000000 in
set_option maxRecDepth 100000 in
theorem c_Mod_bringsBack (l : Launch) (D : va_G) (g : Nat → Nat) (k : Nat → ClassId) (L : Nat) (hL0 : 96 ≤ L) (hL : L ≤ 768) (r : RSt) (hrB : rB r) : MuV l y_Mod_bringsBack w_Mod_bringsBack ({ frames := 1, cells := 0, slots := 0, locals := 22 }) [.ref (g 20)] D cl5 (tyC k) (wM g k L r) (wM g k L (bbR r)) := by
  intro sz
  refine Met.ofW (cc := b_Mod_bringsBack) (maxL := 1) (ret := none) (by decide) rfl ?_
  intro p9 e9 s m args9 below9 meth9 c9 s₁ B hml hv
  obtain ⟨rfl, hsz, hP, hK, hD0⟩ := hv
  have hx := B.exec
  have hb := B.bytes
  have hr := B.returns
  have hts := atoms_spec (ws := w_Mod_bringsBack) B.pre
  have hTB : ∀ w ∈ lw_tb, w.before _ s = true := fun w h => hts w (List.mem_cons_of_mem _ h)
  have hown : s.vm.findClass R_Mod = some m.cls := findClass_of_methodNamed B.named
  have hlocks := B.notSynchronized
  subst hsz
  have hD := hD0.self (sz := s.heap.size)
  generalize hAe : va_A (wM g k L r) s.heap.size = A at hD ⊢
  have hA : ∀ q : Nat, s.heap.size ≤ q → A q := fun q h => by rw [← hAe]; exact Or.inr h
  have hS : va_S A s.heap s.heap [] := va_S.rf
  have hl := lv_entry ([.ref (g 20)]) (n := 1) (Nat.le_of_ble_eq_true rfl)
  rw [lg_entry_eq]
  generalize (lg_sl ([.ref (g 20)]) ++ List.replicate (1 - (lg_sl ([.ref (g 20)])).length) Slot.unset).toArray = ls at hl ⊢
  have hl : lv_has ls 1 [(0, .ref (g 20))] := hl
  refine lv_aload_n hx hb d_Mod_bringsBack_0 rfl (lv_at hl 0 rfl) ?_
  refine va_get (D := D) (ci := 4) (v := .ref (g 28)) (C := R_Mod) (T := T_Mod) (N := 14) hx hb hTB in_Mod hown hK hP 0 rfl rfl 10 (by decide) (hTB _ k_654) (fun _ h9 => h9) rfl d_Mod_bringsBack_1 ?_
  refine lv_aload_n hx hb d_Mod_bringsBack_4 rfl (lv_at hl 0 rfl) ?_
  refine va_get (D := D) (ci := 4) (v := .ref (g 22)) (C := R_Mod) (T := T_Mod) (N := 14) hx hb hTB in_Mod hown hK hP 0 rfl rfl 4 (by decide) (hTB _ k_648) (fun _ h9 => h9) rfl d_Mod_bringsBack_5 ?_
  refine gz_muS (As := [.ref (g 28), .ref (g 22)]) (rest := []) (wc := (wB (g 28) (g 22) k 1280 (rAn r) (rNd r))) (w1 := (wB (g 28) (g 22) k 1280 (rAn r) (cpM (rAn r) (rNd r) 1280))) (wr := [(g 20, .inr (4, [.int (rTh r), .int (nI L), .ref (g 21), .int (nI (rTl r)), .ref (g 22), .ref (g 23), .ref (g 24), .ref (g 25), .ref (g 26), .ref (g 27), .ref (g 28), .ref (g 29), .ref (g 30), .int (rCm r)])), (g 21, ac (k 2) 512 (rTp r)), (g 23, ac (k 2) 768 (rOw r)), (g 24, ac (k 2) 49152 (rNw r)), (g 25, ac (k 2) 1280 (rKn r)), (g 26, ac (k 2) 768 (rKo r)), (g 27, ac (k 2) 49152 (rDn r)), (g 29, ac (k 2) 768 (rAo r)), (g 30, ac (k 2) 49152 (rAw r))]) ⟨hx, hb, hml, hown, hTB⟩ (c_Mod_copy l D (g 28) (g 22) k 1280 (by decide) (rAn r) (rNd r)) (cwS 2 hTB (gd_S k_641 k_642 k_56 k_643) rfl rfl rfl (by decide +kernel) ⟨Nat.le_of_ble_eq_true rfl, Nat.le_of_ble_eq_true rfl⟩) hK hP hD hA [8, 2] [0, 1, 3, 4, 5, 6, 7, 9, 10] rfl rfl (by decide) rfl (by decide) (by decide) rfl hl.1 rfl (Nat.le_of_ble_eq_true rfl) d_Mod_bringsBack_8 ⟨Nat.zero_le _, Nat.zero_le _⟩ hS (fun H locs hP hD hS => ?_)
  have hP : va_P D cl5 (wM g k L (qNd r (cpM (rAn r) (rNd r) 1280))) H := hP.sub [0, 1, 10, 2, 3, 4, 5, 6, 9, 7, 8] rfl
  have hD : va_D A (wM g k L (qNd r (cpM (rAn r) (rNd r) 1280))) := hD.sub [0, 1, 10, 2, 3, 4, 5, 6, 9, 7, 8] (by decide) rfl
  have hrB := rBc_nd (n := 1280) (f := rAn r) hrB (fun q => (hrB q).2.2.2.2.2.2.2.1)
  refine lv_aload_n hx hb d_Mod_bringsBack_11 rfl (lv_at hl 0 rfl) ?_
  refine va_get (D := D) (ci := 4) (v := .ref (g 29)) (C := R_Mod) (T := T_Mod) (N := 14) hx hb hTB in_Mod hown hK hP 0 rfl rfl 11 (by decide) (hTB _ k_655) (fun _ h9 => h9) rfl d_Mod_bringsBack_12 ?_
  refine lv_aload_n hx hb d_Mod_bringsBack_15 rfl (lv_at hl 0 rfl) ?_
  refine va_get (D := D) (ci := 4) (v := .ref (g 23)) (C := R_Mod) (T := T_Mod) (N := 14) hx hb hTB in_Mod hown hK hP 0 rfl rfl 5 (by decide) (hTB _ k_649) (fun _ h9 => h9) rfl d_Mod_bringsBack_16 ?_
  refine gz_muS (As := [.ref (g 29), .ref (g 23)]) (rest := []) (wc := (wB (g 29) (g 23) k 768 (rAo (qNd r (cpM (rAn r) (rNd r) 1280))) (rOw (qNd r (cpM (rAn r) (rNd r) 1280))))) (w1 := (wB (g 29) (g 23) k 768 (rAo (qNd r (cpM (rAn r) (rNd r) 1280))) (cpM (rAo (qNd r (cpM (rAn r) (rNd r) 1280))) (rOw (qNd r (cpM (rAn r) (rNd r) 1280))) 768))) (wr := [(g 20, .inr (4, [.int (rTh (qNd r (cpM (rAn r) (rNd r) 1280))), .int (nI L), .ref (g 21), .int (nI (rTl (qNd r (cpM (rAn r) (rNd r) 1280)))), .ref (g 22), .ref (g 23), .ref (g 24), .ref (g 25), .ref (g 26), .ref (g 27), .ref (g 28), .ref (g 29), .ref (g 30), .int (rCm (qNd r (cpM (rAn r) (rNd r) 1280)))])), (g 21, ac (k 2) 512 (rTp (qNd r (cpM (rAn r) (rNd r) 1280)))), (g 22, ac (k 2) 1280 (rNd (qNd r (cpM (rAn r) (rNd r) 1280)))), (g 24, ac (k 2) 49152 (rNw (qNd r (cpM (rAn r) (rNd r) 1280)))), (g 25, ac (k 2) 1280 (rKn (qNd r (cpM (rAn r) (rNd r) 1280)))), (g 26, ac (k 2) 768 (rKo (qNd r (cpM (rAn r) (rNd r) 1280)))), (g 27, ac (k 2) 49152 (rDn (qNd r (cpM (rAn r) (rNd r) 1280)))), (g 28, ac (k 2) 1280 (rAn (qNd r (cpM (rAn r) (rNd r) 1280)))), (g 30, ac (k 2) 49152 (rAw (qNd r (cpM (rAn r) (rNd r) 1280))))]) ⟨hx, hb, hml, hown, hTB⟩ (c_Mod_copy l D (g 29) (g 23) k 768 (by decide) (rAo (qNd r (cpM (rAn r) (rNd r) 1280))) (rOw (qNd r (cpM (rAn r) (rNd r) 1280)))) (cwS 2 hTB (gd_S k_641 k_642 k_56 k_643) rfl rfl rfl (by decide +kernel) ⟨Nat.le_of_ble_eq_true rfl, Nat.le_of_ble_eq_true rfl⟩) hK hP hD hA [9, 3] [0, 1, 2, 4, 5, 6, 7, 8, 10] rfl rfl (by decide) rfl (by decide) (by decide) rfl hl.1 rfl (Nat.le_of_ble_eq_true rfl) d_Mod_bringsBack_19 ⟨Nat.zero_le _, Nat.zero_le _⟩ hS (fun H locs hP hD hS => ?_)
  have hP : va_P D cl5 (wM g k L (qOw (qNd r (cpM (rAn r) (rNd r) 1280)) (cpM (rAo (qNd r (cpM (rAn r) (rNd r) 1280))) (rOw (qNd r (cpM (rAn r) (rNd r) 1280))) 768))) H := hP.sub [0, 1, 2, 10, 3, 4, 5, 6, 7, 9, 8] rfl
  have hD : va_D A (wM g k L (qOw (qNd r (cpM (rAn r) (rNd r) 1280)) (cpM (rAo (qNd r (cpM (rAn r) (rNd r) 1280))) (rOw (qNd r (cpM (rAn r) (rNd r) 1280))) 768))) := hD.sub [0, 1, 2, 10, 3, 4, 5, 6, 7, 9, 8] (by decide) rfl
  have hrB := rBc_ow (n := 768) (f := rAo (qNd r (cpM (rAn r) (rNd r) 1280))) hrB (fun q => (hrB q).2.2.2.2.2.2.2.2.1)
  refine lv_aload_n hx hb d_Mod_bringsBack_22 rfl (lv_at hl 0 rfl) ?_
  refine va_get (D := D) (ci := 4) (v := .ref (g 30)) (C := R_Mod) (T := T_Mod) (N := 14) hx hb hTB in_Mod hown hK hP 0 rfl rfl 12 (by decide) (hTB _ k_656) (fun _ h9 => h9) rfl d_Mod_bringsBack_23 ?_
  refine lv_aload_n hx hb d_Mod_bringsBack_26 rfl (lv_at hl 0 rfl) ?_
  refine va_get (D := D) (ci := 4) (v := .ref (g 24)) (C := R_Mod) (T := T_Mod) (N := 14) hx hb hTB in_Mod hown hK hP 0 rfl rfl 6 (by decide) (hTB _ k_650) (fun _ h9 => h9) rfl d_Mod_bringsBack_27 ?_
  refine gz_muS (As := [.ref (g 30), .ref (g 24)]) (rest := []) (wc := (wB (g 30) (g 24) k 49152 (rAw (qOw (qNd r (cpM (rAn r) (rNd r) 1280)) (cpM (rAo (qNd r (cpM (rAn r) (rNd r) 1280))) (rOw (qNd r (cpM (rAn r) (rNd r) 1280))) 768))) (rNw (qOw (qNd r (cpM (rAn r) (rNd r) 1280)) (cpM (rAo (qNd r (cpM (rAn r) (rNd r) 1280))) (rOw (qNd r (cpM (rAn r) (rNd r) 1280))) 768))))) (w1 := (wB (g 30) (g 24) k 49152 (rAw (qOw (qNd r (cpM (rAn r) (rNd r) 1280)) (cpM (rAo (qNd r (cpM (rAn r) (rNd r) 1280))) (rOw (qNd r (cpM (rAn r) (rNd r) 1280))) 768))) (cpM (rAw (qOw (qNd r (cpM (rAn r) (rNd r) 1280)) (cpM (rAo (qNd r (cpM (rAn r) (rNd r) 1280))) (rOw (qNd r (cpM (rAn r) (rNd r) 1280))) 768))) (rNw (qOw (qNd r (cpM (rAn r) (rNd r) 1280)) (cpM (rAo (qNd r (cpM (rAn r) (rNd r) 1280))) (rOw (qNd r (cpM (rAn r) (rNd r) 1280))) 768))) 49152))) (wr := [(g 20, .inr (4, [.int (rTh (qOw (qNd r (cpM (rAn r) (rNd r) 1280)) (cpM (rAo (qNd r (cpM (rAn r) (rNd r) 1280))) (rOw (qNd r (cpM (rAn r) (rNd r) 1280))) 768))), .int (nI L), .ref (g 21), .int (nI (rTl (qOw (qNd r (cpM (rAn r) (rNd r) 1280)) (cpM (rAo (qNd r (cpM (rAn r) (rNd r) 1280))) (rOw (qNd r (cpM (rAn r) (rNd r) 1280))) 768)))), .ref (g 22), .ref (g 23), .ref (g 24), .ref (g 25), .ref (g 26), .ref (g 27), .ref (g 28), .ref (g 29), .ref (g 30), .int (rCm (qOw (qNd r (cpM (rAn r) (rNd r) 1280)) (cpM (rAo (qNd r (cpM (rAn r) (rNd r) 1280))) (rOw (qNd r (cpM (rAn r) (rNd r) 1280))) 768)))])), (g 21, ac (k 2) 512 (rTp (qOw (qNd r (cpM (rAn r) (rNd r) 1280)) (cpM (rAo (qNd r (cpM (rAn r) (rNd r) 1280))) (rOw (qNd r (cpM (rAn r) (rNd r) 1280))) 768)))), (g 22, ac (k 2) 1280 (rNd (qOw (qNd r (cpM (rAn r) (rNd r) 1280)) (cpM (rAo (qNd r (cpM (rAn r) (rNd r) 1280))) (rOw (qNd r (cpM (rAn r) (rNd r) 1280))) 768)))), (g 23, ac (k 2) 768 (rOw (qOw (qNd r (cpM (rAn r) (rNd r) 1280)) (cpM (rAo (qNd r (cpM (rAn r) (rNd r) 1280))) (rOw (qNd r (cpM (rAn r) (rNd r) 1280))) 768)))), (g 25, ac (k 2) 1280 (rKn (qOw (qNd r (cpM (rAn r) (rNd r) 1280)) (cpM (rAo (qNd r (cpM (rAn r) (rNd r) 1280))) (rOw (qNd r (cpM (rAn r) (rNd r) 1280))) 768)))), (g 26, ac (k 2) 768 (rKo (qOw (qNd r (cpM (rAn r) (rNd r) 1280)) (cpM (rAo (qNd r (cpM (rAn r) (rNd r) 1280))) (rOw (qNd r (cpM (rAn r) (rNd r) 1280))) 768)))), (g 27, ac (k 2) 49152 (rDn (qOw (qNd r (cpM (rAn r) (rNd r) 1280)) (cpM (rAo (qNd r (cpM (rAn r) (rNd r) 1280))) (rOw (qNd r (cpM (rAn r) (rNd r) 1280))) 768)))), (g 28, ac (k 2) 1280 (rAn (qOw (qNd r (cpM (rAn r) (rNd r) 1280)) (cpM (rAo (qNd r (cpM (rAn r) (rNd r) 1280))) (rOw (qNd r (cpM (rAn r) (rNd r) 1280))) 768)))), (g 29, ac (k 2) 768 (rAo (qOw (qNd r (cpM (rAn r) (rNd r) 1280)) (cpM (rAo (qNd r (cpM (rAn r) (rNd r) 1280))) (rOw (qNd r (cpM (rAn r) (rNd r) 1280))) 768))))]) ⟨hx, hb, hml, hown, hTB⟩ (c_Mod_copy l D (g 30) (g 24) k 49152 (by decide) (rAw (qOw (qNd r (cpM (rAn r) (rNd r) 1280)) (cpM (rAo (qNd r (cpM (rAn r) (rNd r) 1280))) (rOw (qNd r (cpM (rAn r) (rNd r) 1280))) 768))) (rNw (qOw (qNd r (cpM (rAn r) (rNd r) 1280)) (cpM (rAo (qNd r (cpM (rAn r) (rNd r) 1280))) (rOw (qNd r (cpM (rAn r) (rNd r) 1280))) 768)))) (cwS 2 hTB (gd_S k_641 k_642 k_56 k_643) rfl rfl rfl (by decide +kernel) ⟨Nat.le_of_ble_eq_true rfl, Nat.le_of_ble_eq_true rfl⟩) hK hP hD hA [10, 4] [0, 1, 2, 3, 5, 6, 7, 8, 9] rfl rfl (by decide) rfl (by decide) (by decide) rfl hl.1 rfl (Nat.le_of_ble_eq_true rfl) d_Mod_bringsBack_30 ⟨Nat.zero_le _, Nat.zero_le _⟩ hS (fun H locs hP hD hS => ?_)
  have hP : va_P D cl5 (wM g k L (qNw (qOw (qNd r (cpM (rAn r) (rNd r) 1280)) (cpM (rAo (qNd r (cpM (rAn r) (rNd r) 1280))) (rOw (qNd r (cpM (rAn r) (rNd r) 1280))) 768)) (cpM (rAw (qOw (qNd r (cpM (rAn r) (rNd r) 1280)) (cpM (rAo (qNd r (cpM (rAn r) (rNd r) 1280))) (rOw (qNd r (cpM (rAn r) (rNd r) 1280))) 768))) (rNw (qOw (qNd r (cpM (rAn r) (rNd r) 1280)) (cpM (rAo (qNd r (cpM (rAn r) (rNd r) 1280))) (rOw (qNd r (cpM (rAn r) (rNd r) 1280))) 768))) 49152))) H := hP.sub [0, 1, 2, 3, 10, 4, 5, 6, 7, 8, 9] rfl
  have hD : va_D A (wM g k L (qNw (qOw (qNd r (cpM (rAn r) (rNd r) 1280)) (cpM (rAo (qNd r (cpM (rAn r) (rNd r) 1280))) (rOw (qNd r (cpM (rAn r) (rNd r) 1280))) 768)) (cpM (rAw (qOw (qNd r (cpM (rAn r) (rNd r) 1280)) (cpM (rAo (qNd r (cpM (rAn r) (rNd r) 1280))) (rOw (qNd r (cpM (rAn r) (rNd r) 1280))) 768))) (rNw (qOw (qNd r (cpM (rAn r) (rNd r) 1280)) (cpM (rAo (qNd r (cpM (rAn r) (rNd r) 1280))) (rOw (qNd r (cpM (rAn r) (rNd r) 1280))) 768))) 49152))) := hD.sub [0, 1, 2, 3, 10, 4, 5, 6, 7, 8, 9] (by decide) rfl
  have hrB := rBc_nw (n := 49152) (f := rAw (qOw (qNd r (cpM (rAn r) (rNd r) 1280)) (cpM (rAo (qNd r (cpM (rAn r) (rNd r) 1280))) (rOw (qNd r (cpM (rAn r) (rNd r) 1280))) 768))) hrB (fun q => (hrB q).2.2.2.2.2.2.2.2.2)
  have hP9 : va_P D cl5 (wM g k L (bbR r)) H := hP
  have hD9 : va_D A (wM g k L (bbR r)) := hD
  exact W.vret hx hb hr (fun tt9 ht9 hW9 => ⟨⟨(), rfl, trivial, ⟨by rw [ht9]; exact hP9, hD9⟩⟩, hS.F ht9⟩) hS.2.2 d_Mod_bringsBack_33
theorem d_Mod_blockOf_0 : decode b_Mod_blockOf 0 = .ok (.bipush 20, 2) := by decide +kernel
theorem d_Mod_blockOf_2 : decode b_Mod_blockOf 2 = .ok (.iload_n 1, 1) := by decide +kernel
theorem d_Mod_blockOf_3 : decode b_Mod_blockOf 3 = .ok (.imul, 1) := by decide +kernel
theorem d_Mod_blockOf_4 : decode b_Mod_blockOf 4 = .ok (.istore_n 3, 1) := by decide +kernel
theorem d_Mod_blockOf_5 : decode b_Mod_blockOf 5 = .ok (.iload_n 2, 1) := by decide +kernel
theorem d_Mod_blockOf_6 : decode b_Mod_blockOf 6 = .ok (.istore 4, 2) := by decide +kernel
theorem d_Mod_blockOf_8 : decode b_Mod_blockOf 8 = .ok (.iconst 0, 1) := by decide +kernel
theorem d_Mod_blockOf_9 : decode b_Mod_blockOf 9 = .ok (.istore 5, 2) := by decide +kernel
theorem d_Mod_blockOf_11 : decode b_Mod_blockOf 11 = .ok (.iload 4, 2) := by decide +kernel
theorem d_Mod_blockOf_13 : decode b_Mod_blockOf 13 = .ok (.aload_n 0, 1) := by decide +kernel
theorem d_Mod_blockOf_14 : decode b_Mod_blockOf 14 = .ok (.getfield 13, 3) := by decide +kernel
theorem d_Mod_blockOf_17 : decode b_Mod_blockOf 17 = .ok (.iload_n 3, 1) := by decide +kernel
theorem d_Mod_blockOf_18 : decode b_Mod_blockOf 18 = .ok (.iconst 4, 1) := by decide +kernel
theorem d_Mod_blockOf_19 : decode b_Mod_blockOf 19 = .ok (.iadd, 1) := by decide +kernel
theorem d_Mod_blockOf_20 : decode b_Mod_blockOf 20 = .ok (.iconst 2, 1) := by decide +kernel
theorem d_Mod_blockOf_21 : decode b_Mod_blockOf 21 = .ok (.iload 5, 2) := by decide +kernel
theorem d_Mod_blockOf_23 : decode b_Mod_blockOf 23 = .ok (.imul, 1) := by decide +kernel
theorem d_Mod_blockOf_24 : decode b_Mod_blockOf 24 = .ok (.iadd, 1) := by decide +kernel
theorem d_Mod_blockOf_25 : decode b_Mod_blockOf 25 = .ok (.iaload, 1) := by decide +kernel
theorem d_Mod_blockOf_26 : decode b_Mod_blockOf 26 = .ok (.if_icmp .lt 27, 3) := by decide +kernel
theorem d_Mod_blockOf_29 : decode b_Mod_blockOf 29 = .ok (.iload 4, 2) := by decide +kernel
theorem d_Mod_blockOf_31 : decode b_Mod_blockOf 31 = .ok (.aload_n 0, 1) := by decide +kernel
theorem d_Mod_blockOf_32 : decode b_Mod_blockOf 32 = .ok (.getfield 13, 3) := by decide +kernel
theorem d_Mod_blockOf_35 : decode b_Mod_blockOf 35 = .ok (.iload_n 3, 1) := by decide +kernel
theorem d_Mod_blockOf_36 : decode b_Mod_blockOf 36 = .ok (.iconst 4, 1) := by decide +kernel
theorem d_Mod_blockOf_37 : decode b_Mod_blockOf 37 = .ok (.iadd, 1) := by decide +kernel
theorem d_Mod_blockOf_38 : decode b_Mod_blockOf 38 = .ok (.iconst 2, 1) := by decide +kernel
theorem d_Mod_blockOf_39 : decode b_Mod_blockOf 39 = .ok (.iload 5, 2) := by decide +kernel
theorem d_Mod_blockOf_41 : decode b_Mod_blockOf 41 = .ok (.imul, 1) := by decide +kernel
theorem d_Mod_blockOf_42 : decode b_Mod_blockOf 42 = .ok (.iadd, 1) := by decide +kernel
theorem d_Mod_blockOf_43 : decode b_Mod_blockOf 43 = .ok (.iaload, 1) := by decide +kernel
theorem d_Mod_blockOf_44 : decode b_Mod_blockOf 44 = .ok (.isub, 1) := by decide +kernel
theorem d_Mod_blockOf_45 : decode b_Mod_blockOf 45 = .ok (.istore 4, 2) := by decide +kernel
theorem d_Mod_blockOf_47 : decode b_Mod_blockOf 47 = .ok (.iinc 5 1, 3) := by decide +kernel
theorem d_Mod_blockOf_50 : decode b_Mod_blockOf 50 = .ok (.goto (-39), 3) := by decide +kernel
theorem d_Mod_blockOf_53 : decode b_Mod_blockOf 53 = .ok (.aload_n 0, 1) := by decide +kernel
theorem d_Mod_blockOf_54 : decode b_Mod_blockOf 54 = .ok (.getfield 13, 3) := by decide +kernel
theorem d_Mod_blockOf_57 : decode b_Mod_blockOf 57 = .ok (.iload_n 3, 1) := by decide +kernel
theorem d_Mod_blockOf_58 : decode b_Mod_blockOf 58 = .ok (.iconst 3, 1) := by decide +kernel
theorem d_Mod_blockOf_59 : decode b_Mod_blockOf 59 = .ok (.iadd, 1) := by decide +kernel
theorem d_Mod_blockOf_60 : decode b_Mod_blockOf 60 = .ok (.iconst 2, 1) := by decide +kernel
theorem d_Mod_blockOf_61 : decode b_Mod_blockOf 61 = .ok (.iload 5, 2) := by decide +kernel
theorem d_Mod_blockOf_63 : decode b_Mod_blockOf 63 = .ok (.imul, 1) := by decide +kernel
theorem d_Mod_blockOf_64 : decode b_Mod_blockOf 64 = .ok (.iadd, 1) := by decide +kernel
theorem d_Mod_blockOf_65 : decode b_Mod_blockOf 65 = .ok (.iaload, 1) := by decide +kernel
theorem d_Mod_blockOf_66 : decode b_Mod_blockOf 66 = .ok (.iload 4, 2) := by decide +kernel
theorem d_Mod_blockOf_68 : decode b_Mod_blockOf 68 = .ok (.iadd, 1) := by decide +kernel
theorem d_Mod_blockOf_69 : decode b_Mod_blockOf 69 = .ok (.ireturn, 1) := by decide +kernel
set_option maxHeartbeats 4000000 in
set_option maxRecDepth 100000 in
theorem c_Mod_blockOf (l : Launch) (D : va_G) (g : Nat → Nat) (k : Nat → ClassId) (L : Nat) (hL0 : 96 ≤ L) (hL : L ≤ 768) (r : RSt) (hrB : rB r) (i t : Nat) (hi0 : i < 64) (ht0 : t < 1000000) (hX : ∀ i, i < 64 → rNd r (20 * i + 2) ≤ 8) (ht : t < bsR (rNd r) i) : RoI l y_Mod_blockOf w_Mod_blockOf ({ frames := 0, cells := 0, slots := 0, locals := 0 }) [.ref (g 20), .int (nI i), .int (nI t)] (RoP D cl5 (tyC k) (wM g k L r)) (nI (bkR (rNd r) i t)) := by
  refine Met.ofW (cc := b_Mod_blockOf) (maxL := 6) (ret := (some .int)) (by decide) rfl ?_
  intro p9 e9 s m args9 below9 meth9 c9 s₁ B hml hv
  obtain ⟨rfl, hP, hK⟩ := hv
  have hx := B.exec
  have hb := B.bytes
  have hr := B.returns
  have hts := atoms_spec (ws := w_Mod_blockOf) B.pre
  have hTB : ∀ w ∈ lw_tb, w.before _ s = true := fun w h => hts w (List.mem_cons_of_mem _ h)
  have hown : s.vm.findClass R_Mod = some m.cls := findClass_of_methodNamed B.named
  have hlocks := B.notSynchronized
  have hS : va_S (fun _ => False) s.heap s.heap [] := va_S.rf
  have hl := lv_entry ([.ref (g 20), .int (nI i), .int (nI t)]) (n := 6) (Nat.le_of_ble_eq_true rfl)
  rw [lg_entry_eq]
  generalize (lg_sl ([.ref (g 20), .int (nI i), .int (nI t)]) ++ List.replicate (6 - (lg_sl ([.ref (g 20), .int (nI i), .int (nI t)])).length) Slot.unset).toArray = ls at hl ⊢
  have hl : lv_has ls 6 [(0, .ref (g 20)), (1, .int (nI i)), (2, .int (nI t))] := hl
  have hxi := hX i hi0
  refine lv_bipush (v := nI 20) hx hb d_Mod_blockOf_0 (by decide +kernel) ?_
  refine lv_iload_n hx hb d_Mod_blockOf_2 rfl (lv_at hl 1 rfl) ?_
  refine gz_imul hx hb d_Mod_blockOf_3 ?_
  refine lv_istore_n (lv' := [(3, .int (nI (20 * i))), (0, .ref (g 20)), (1, .int (nI i)), (2, .int (nI t))]) hx hb d_Mod_blockOf_4 rfl hl (by decide) rfl (fun ls hl => ?_)
  refine lv_iload_n hx hb d_Mod_blockOf_5 rfl (lv_at hl 3 rfl) ?_
  refine lv_istore (lv' := [(4, .int (nI t)), (3, .int (nI (20 * i))), (0, .ref (g 20)), (1, .int (nI i)), (2, .int (nI t))]) hx hb d_Mod_blockOf_6 hl (by decide) rfl (fun ls hl => ?_)
  refine lv_iconst (v := nI 0) hx hb d_Mod_blockOf_8 (by decide +kernel) ?_
  refine lv_istore (lv' := [(5, .int (nI 0)), (4, .int (nI t)), (3, .int (nI (20 * i))), (0, .ref (g 20)), (1, .int (nI i)), (2, .int (nI t))]) hx hb d_Mod_blockOf_9 hl (by decide) rfl (fun ls hl => ?_)
  refine gz_loop 11 (fun (zz : (Nat × Nat)) H locs ls => match zz with | (e, u) => va_P D cl5 (wM g k L r) H ∧ va_S (fun _ => False) s.heap H locs ∧ lv_has ls 6 [(0, .ref (g 20)), (3, .int (nI (20 * i))), (4, .int (nI u)), (5, .int (nI e))] ∧ (e < rNd r (20 * i + 2)) ∧ (bs (rNd r) i e + u = t) ∧ (bkG (rNd r) i (8 - e) e u = bkR (rNd r) i t)) (fun (zz : (Nat × Nat)) => match zz with | (e, u) => 8 - e) (fun zz H locs ls hI ih11 => ?_) (0, t) ⟨hP, hS, lv_sub hl [3, 2, 1, 0] rfl, (bs_0 ht), (Nat.zero_add _), rfl⟩
  obtain ⟨e, u⟩ := zz
  obtain ⟨hP, hS, hl, he1, he2, he3⟩ := hI
  refine lv_iload hx hb d_Mod_blockOf_11 (lv_at hl 2 rfl) ?_
  refine lv_aload_n hx hb d_Mod_blockOf_13 rfl (lv_at hl 0 rfl) ?_
  refine va_get (D := D) (ci := 4) (v := .ref (g 22)) (C := R_Mod) (T := T_Mod) (N := 14) hx hb hTB in_Mod hown hK hP 0 rfl rfl 4 (by decide) (hTB _ k_648) (fun _ h9 => h9) rfl d_Mod_blockOf_14 ?_
  refine lv_iload_n hx hb d_Mod_blockOf_17 rfl (lv_at hl 1 rfl) ?_
  refine lv_iconst (v := nI 4) hx hb d_Mod_blockOf_18 (by decide +kernel) ?_
  refine gz_iadd hx hb d_Mod_blockOf_19 ?_
  refine lv_iconst (v := nI 2) hx hb d_Mod_blockOf_20 (by decide +kernel) ?_
  refine lv_iload hx hb d_Mod_blockOf_21 (lv_at hl 3 rfl) ?_
  refine gz_imul hx hb d_Mod_blockOf_23 ?_
  refine gz_iadd hx hb d_Mod_blockOf_24 ?_
  refine gm_ald hx hb hK hP 2 2 rfl rfl (i := ((20 * i) + 4) + (2 * e)) (by omega) (by omega) d_Mod_blockOf_25 ?_
  have := (hrB (((20 * i) + 4) + (2 * e))).2.1
  refine gz_icmp_lt (tgt := 53) hx hb d_Mod_blockOf_26 (by decide) (by omega) (by omega) (fun h26 => ?_) (fun h26 => ?_)
  · refine lv_aload_n hx hb d_Mod_blockOf_53 rfl (lv_at hl 0 rfl) ?_
    refine va_get (D := D) (ci := 4) (v := .ref (g 22)) (C := R_Mod) (T := T_Mod) (N := 14) hx hb hTB in_Mod hown hK hP 0 rfl rfl 4 (by decide) (hTB _ k_648) (fun _ h9 => h9) rfl d_Mod_blockOf_54 ?_
    refine lv_iload_n hx hb d_Mod_blockOf_57 rfl (lv_at hl 1 rfl) ?_
    refine lv_iconst (v := nI 3) hx hb d_Mod_blockOf_58 (by decide +kernel) ?_
    refine gz_iadd hx hb d_Mod_blockOf_59 ?_
    refine lv_iconst (v := nI 2) hx hb d_Mod_blockOf_60 (by decide +kernel) ?_
    refine lv_iload hx hb d_Mod_blockOf_61 (lv_at hl 3 rfl) ?_
    refine gz_imul hx hb d_Mod_blockOf_63 ?_
    refine gz_iadd hx hb d_Mod_blockOf_64 ?_
    refine gm_ald hx hb hK hP 2 2 rfl rfl (i := ((20 * i) + 3) + (2 * e)) (by omega) (by omega) d_Mod_blockOf_65 ?_
    have := (hrB (((20 * i) + 3) + (2 * e))).2.1
    refine lv_iload hx hb d_Mod_blockOf_66 (lv_at hl 2 rfl) ?_
    refine gz_iadd hx hb d_Mod_blockOf_68 ?_
    exact W.iret (v := nI ((rNd r (((20 * i) + 3) + (2 * e))) + u)) hx hb hr (fun tt9 ht9 hW9 => ⟨⟨_, (), rfl, (by rw [← he3, show 8 - e = (8 - (e + 1)) + 1 by omega, bkG, if_pos h26]), trivial⟩, hS.F ht9⟩) hS.2.2 d_Mod_blockOf_69
  · refine lv_iload hx hb d_Mod_blockOf_29 (lv_at hl 2 rfl) ?_
    refine lv_aload_n hx hb d_Mod_blockOf_31 rfl (lv_at hl 0 rfl) ?_
    refine va_get (D := D) (ci := 4) (v := .ref (g 22)) (C := R_Mod) (T := T_Mod) (N := 14) hx hb hTB in_Mod hown hK hP 0 rfl rfl 4 (by decide) (hTB _ k_648) (fun _ h9 => h9) rfl d_Mod_blockOf_32 ?_
    refine lv_iload_n hx hb d_Mod_blockOf_35 rfl (lv_at hl 1 rfl) ?_
    refine lv_iconst (v := nI 4) hx hb d_Mod_blockOf_36 (by decide +kernel) ?_
    refine gz_iadd hx hb d_Mod_blockOf_37 ?_
    refine lv_iconst (v := nI 2) hx hb d_Mod_blockOf_38 (by decide +kernel) ?_
    refine lv_iload hx hb d_Mod_blockOf_39 (lv_at hl 3 rfl) ?_
    refine gz_imul hx hb d_Mod_blockOf_41 ?_
    refine gz_iadd hx hb d_Mod_blockOf_42 ?_
    refine gm_ald hx hb hK hP 2 2 rfl rfl (i := ((20 * i) + 4) + (2 * e)) (by omega) (by omega) d_Mod_blockOf_43 ?_
    have := (hrB (((20 * i) + 4) + (2 * e))).2.1
    refine gz_isub hx hb d_Mod_blockOf_44 (by omega) ?_
    refine lv_istore (lv' := [(4, .int (nI (u - (rNd r (((20 * i) + 4) + (2 * e)))))), (0, .ref (g 20)), (3, .int (nI (20 * i))), (5, .int (nI e))]) hx hb d_Mod_blockOf_45 hl (by decide) rfl (fun ls hl => ?_)
    refine lv_iinc (v := nI (e + 1)) (lv' := [(5, .int (nI (e + 1))), (4, .int (nI (u - (rNd r (((20 * i) + 4) + (2 * e)))))), (0, .ref (g 20)), (3, .int (nI (20 * i)))]) hx hb d_Mod_blockOf_47 hl (k := 3) rfl (nI_add e 1) (by decide) rfl (fun ls hl => ?_)
    refine lv_goto (tgt := 11) hx hb d_Mod_blockOf_50 (by decide) ?_
    exact ih11 (e + 1, u - (rNd r (((20 * i) + 4) + (2 * e)))) _ _ _ (by first | omega | (dsimp only; omega)) ⟨hP, hS, lv_sub hl [2, 3, 1, 0] rfl, (bs_s ht he1 he2 h26), (by rw [bs]; omega), (by rw [← he3, show 8 - e = (8 - (e + 1)) + 1 by omega, bkG, if_neg (by omega)])⟩
theorem d_Mod_blocksOf_0 : decode b_Mod_blocksOf 0 = .ok (.iconst 0, 1) := by decide +kernel
theorem d_Mod_blocksOf_1 : decode b_Mod_blocksOf 1 = .ok (.istore_n 2, 1) := by decide +kernel
theorem d_Mod_blocksOf_2 : decode b_Mod_blocksOf 2 = .ok (.iconst 0, 1) := by decide +kernel
theorem d_Mod_blocksOf_3 : decode b_Mod_blocksOf 3 = .ok (.istore_n 3, 1) := by decide +kernel
theorem d_Mod_blocksOf_4 : decode b_Mod_blocksOf 4 = .ok (.iload_n 3, 1) := by decide +kernel
theorem d_Mod_blocksOf_5 : decode b_Mod_blocksOf 5 = .ok (.aload_n 0, 1) := by decide +kernel
theorem d_Mod_blocksOf_6 : decode b_Mod_blocksOf 6 = .ok (.getfield 13, 3) := by decide +kernel
theorem d_Mod_blocksOf_9 : decode b_Mod_blocksOf 9 = .ok (.bipush 20, 2) := by decide +kernel
theorem d_Mod_blocksOf_11 : decode b_Mod_blocksOf 11 = .ok (.iload_n 1, 1) := by decide +kernel
theorem d_Mod_blocksOf_12 : decode b_Mod_blocksOf 12 = .ok (.imul, 1) := by decide +kernel
theorem d_Mod_blocksOf_13 : decode b_Mod_blocksOf 13 = .ok (.iconst 2, 1) := by decide +kernel
theorem d_Mod_blocksOf_14 : decode b_Mod_blocksOf 14 = .ok (.iadd, 1) := by decide +kernel
theorem d_Mod_blocksOf_15 : decode b_Mod_blocksOf 15 = .ok (.iaload, 1) := by decide +kernel
theorem d_Mod_blocksOf_16 : decode b_Mod_blocksOf 16 = .ok (.if_icmp .ge 27, 3) := by decide +kernel
theorem d_Mod_blocksOf_19 : decode b_Mod_blocksOf 19 = .ok (.iload_n 2, 1) := by decide +kernel
theorem d_Mod_blocksOf_20 : decode b_Mod_blocksOf 20 = .ok (.aload_n 0, 1) := by decide +kernel
theorem d_Mod_blocksOf_21 : decode b_Mod_blocksOf 21 = .ok (.getfield 13, 3) := by decide +kernel
theorem d_Mod_blocksOf_24 : decode b_Mod_blocksOf 24 = .ok (.bipush 20, 2) := by decide +kernel
theorem d_Mod_blocksOf_26 : decode b_Mod_blocksOf 26 = .ok (.iload_n 1, 1) := by decide +kernel
theorem d_Mod_blocksOf_27 : decode b_Mod_blocksOf 27 = .ok (.imul, 1) := by decide +kernel
theorem d_Mod_blocksOf_28 : decode b_Mod_blocksOf 28 = .ok (.iconst 4, 1) := by decide +kernel
theorem d_Mod_blocksOf_29 : decode b_Mod_blocksOf 29 = .ok (.iadd, 1) := by decide +kernel
theorem d_Mod_blocksOf_30 : decode b_Mod_blocksOf 30 = .ok (.iconst 2, 1) := by decide +kernel
theorem d_Mod_blocksOf_31 : decode b_Mod_blocksOf 31 = .ok (.iload_n 3, 1) := by decide +kernel
theorem d_Mod_blocksOf_32 : decode b_Mod_blocksOf 32 = .ok (.imul, 1) := by decide +kernel
theorem d_Mod_blocksOf_33 : decode b_Mod_blocksOf 33 = .ok (.iadd, 1) := by decide +kernel
theorem d_Mod_blocksOf_34 : decode b_Mod_blocksOf 34 = .ok (.iaload, 1) := by decide +kernel
theorem d_Mod_blocksOf_35 : decode b_Mod_blocksOf 35 = .ok (.iadd, 1) := by decide +kernel
theorem d_Mod_blocksOf_36 : decode b_Mod_blocksOf 36 = .ok (.istore_n 2, 1) := by decide +kernel
theorem d_Mod_blocksOf_37 : decode b_Mod_blocksOf 37 = .ok (.iinc 3 1, 3) := by decide +kernel
theorem d_Mod_blocksOf_40 : decode b_Mod_blocksOf 40 = .ok (.goto (-36), 3) := by decide +kernel
theorem d_Mod_blocksOf_43 : decode b_Mod_blocksOf 43 = .ok (.iload_n 2, 1) := by decide +kernel
theorem d_Mod_blocksOf_44 : decode b_Mod_blocksOf 44 = .ok (.ireturn, 1) := by decide +kernel
set_option maxHeartbeats 4000000 in
set_option maxRecDepth 100000 in
theorem c_Mod_blocksOf (l : Launch) (D : va_G) (g : Nat → Nat) (k : Nat → ClassId) (L : Nat) (hL0 : 96 ≤ L) (hL : L ≤ 768) (r : RSt) (hrB : rB r) (i : Nat) (hi0 : i < 64) (hX : ∀ i, i < 64 → rNd r (20 * i + 2) ≤ 8) : RoI l y_Mod_blocksOf w_Mod_blocksOf ({ frames := 0, cells := 0, slots := 0, locals := 0 }) [.ref (g 20), .int (nI i)] (RoP D cl5 (tyC k) (wM g k L r)) (nI (bsR (rNd r) i)) := by
  refine Met.ofW (cc := b_Mod_blocksOf) (maxL := 4) (ret := (some .int)) (by decide) rfl ?_
  intro p9 e9 s m args9 below9 meth9 c9 s₁ B hml hv
  obtain ⟨rfl, hP, hK⟩ := hv
  have hx := B.exec
  have hb := B.bytes
  have hr := B.returns
  have hts := atoms_spec (ws := w_Mod_blocksOf) B.pre
  have hTB : ∀ w ∈ lw_tb, w.before _ s = true := fun w h => hts w (List.mem_cons_of_mem _ h)
  have hown : s.vm.findClass R_Mod = some m.cls := findClass_of_methodNamed B.named
  have hlocks := B.notSynchronized
  have hS : va_S (fun _ => False) s.heap s.heap [] := va_S.rf
  have hl := lv_entry ([.ref (g 20), .int (nI i)]) (n := 4) (Nat.le_of_ble_eq_true rfl)
  rw [lg_entry_eq]
  generalize (lg_sl ([.ref (g 20), .int (nI i)]) ++ List.replicate (4 - (lg_sl ([.ref (g 20), .int (nI i)])).length) Slot.unset).toArray = ls at hl ⊢
  have hl : lv_has ls 4 [(0, .ref (g 20)), (1, .int (nI i))] := hl
  have hxi := hX i hi0
  refine lv_iconst (v := nI 0) hx hb d_Mod_blocksOf_0 (by decide +kernel) ?_
  refine lv_istore_n (lv' := [(2, .int (nI 0)), (0, .ref (g 20)), (1, .int (nI i))]) hx hb d_Mod_blocksOf_1 rfl hl (by decide) rfl (fun ls hl => ?_)
  refine lv_iconst (v := nI 0) hx hb d_Mod_blocksOf_2 (by decide +kernel) ?_
  refine lv_istore_n (lv' := [(3, .int (nI 0)), (2, .int (nI 0)), (0, .ref (g 20)), (1, .int (nI i))]) hx hb d_Mod_blocksOf_3 rfl hl (by decide) rfl (fun ls hl => ?_)
  refine gz_loop 4 (fun (zz : Nat) H locs ls => match zz with | e => va_P D cl5 (wM g k L r) H ∧ va_S (fun _ => False) s.heap H locs ∧ lv_has ls 4 [(0, .ref (g 20)), (1, .int (nI i)), (2, .int (nI (bs (rNd r) i e))), (3, .int (nI e))] ∧ (e ≤ rNd r (20 * i + 2))) (fun (zz : Nat) => match zz with | e => 8 - e) (fun zz H locs ls hI ih4 => ?_) (0) ⟨hP, hS, lv_sub hl [2, 3, 1, 0] rfl, (Nat.zero_le _)⟩
  obtain ⟨e, rfl⟩ : ∃ z, z = zz := ⟨_, rfl⟩
  obtain ⟨hP, hS, hl, he1⟩ := hI
  have hbl := bs_le (fun q => (hrB q).2.1) i e
  refine lv_iload_n hx hb d_Mod_blocksOf_4 rfl (lv_at hl 3 rfl) ?_
  refine lv_aload_n hx hb d_Mod_blocksOf_5 rfl (lv_at hl 0 rfl) ?_
  refine va_get (D := D) (ci := 4) (v := .ref (g 22)) (C := R_Mod) (T := T_Mod) (N := 14) hx hb hTB in_Mod hown hK hP 0 rfl rfl 4 (by decide) (hTB _ k_648) (fun _ h9 => h9) rfl d_Mod_blocksOf_6 ?_
  refine lv_bipush (v := nI 20) hx hb d_Mod_blocksOf_9 (by decide +kernel) ?_
  refine lv_iload_n hx hb d_Mod_blocksOf_11 rfl (lv_at hl 1 rfl) ?_
  refine gz_imul hx hb d_Mod_blocksOf_12 ?_
  refine lv_iconst (v := nI 2) hx hb d_Mod_blocksOf_13 (by decide +kernel) ?_
  refine gz_iadd hx hb d_Mod_blocksOf_14 ?_
  refine gm_ald hx hb hK hP 2 2 rfl rfl (i := (20 * i) + 2) (by omega) (by omega) d_Mod_blocksOf_15 ?_
  have := (hrB ((20 * i) + 2)).2.1
  refine gz_icmp_ge (tgt := 43) hx hb d_Mod_blocksOf_16 (by decide) (by omega) (by omega) (fun h16 => ?_) (fun h16 => ?_)
  · refine lv_iload_n hx hb d_Mod_blocksOf_43 rfl (lv_at hl 2 rfl) ?_
    exact W.iret (v := nI (bs (rNd r) i e)) hx hb hr (fun tt9 ht9 hW9 => ⟨⟨_, (), rfl, (by unfold bsR; rw [show rNd r (20 * i + 2) = e by omega]), trivial⟩, hS.F ht9⟩) hS.2.2 d_Mod_blocksOf_44
  · refine lv_iload_n hx hb d_Mod_blocksOf_19 rfl (lv_at hl 2 rfl) ?_
    refine lv_aload_n hx hb d_Mod_blocksOf_20 rfl (lv_at hl 0 rfl) ?_
    refine va_get (D := D) (ci := 4) (v := .ref (g 22)) (C := R_Mod) (T := T_Mod) (N := 14) hx hb hTB in_Mod hown hK hP 0 rfl rfl 4 (by decide) (hTB _ k_648) (fun _ h9 => h9) rfl d_Mod_blocksOf_21 ?_
    refine lv_bipush (v := nI 20) hx hb d_Mod_blocksOf_24 (by decide +kernel) ?_
    refine lv_iload_n hx hb d_Mod_blocksOf_26 rfl (lv_at hl 1 rfl) ?_
    refine gz_imul hx hb d_Mod_blocksOf_27 ?_
    refine lv_iconst (v := nI 4) hx hb d_Mod_blocksOf_28 (by decide +kernel) ?_
    refine gz_iadd hx hb d_Mod_blocksOf_29 ?_
    refine lv_iconst (v := nI 2) hx hb d_Mod_blocksOf_30 (by decide +kernel) ?_
    refine lv_iload_n hx hb d_Mod_blocksOf_31 rfl (lv_at hl 3 rfl) ?_
    refine gz_imul hx hb d_Mod_blocksOf_32 ?_
    refine gz_iadd hx hb d_Mod_blocksOf_33 ?_
    refine gm_ald hx hb hK hP 2 2 rfl rfl (i := ((20 * i) + 4) + (2 * e)) (by omega) (by omega) d_Mod_blocksOf_34 ?_
    have := (hrB (((20 * i) + 4) + (2 * e))).2.1
    refine gz_iadd hx hb d_Mod_blocksOf_35 ?_
    refine lv_istore_n (lv' := [(2, .int (nI ((bs (rNd r) i e) + (rNd r (((20 * i) + 4) + (2 * e)))))), (0, .ref (g 20)), (1, .int (nI i)), (3, .int (nI e))]) hx hb d_Mod_blocksOf_36 rfl hl (by decide) rfl (fun ls hl => ?_)
    refine lv_iinc (v := nI (e + 1)) (lv' := [(3, .int (nI (e + 1))), (2, .int (nI ((bs (rNd r) i e) + (rNd r (((20 * i) + 4) + (2 * e)))))), (0, .ref (g 20)), (1, .int (nI i))]) hx hb d_Mod_blocksOf_37 hl (k := 3) rfl (nI_add e 1) (by decide) rfl (fun ls hl => ?_)
    refine lv_goto (tgt := 4) hx hb d_Mod_blocksOf_40 (by decide) ?_
    exact ih4 (e + 1) _ _ _ (by first | omega | (dsimp only; omega)) ⟨hP, hS, lv_sub hl [2, 3, 1, 0] rfl, (by omega)⟩
theorem d_Mod_get_0 : decode b_Mod_get 0 = .ok (.aload_n 0, 1) := by decide +kernel
theorem d_Mod_get_1 : decode b_Mod_get 1 = .ok (.getfield 20, 3) := by decide +kernel
theorem d_Mod_get_4 : decode b_Mod_get 4 = .ok (.bipush 64, 2) := by decide +kernel
theorem d_Mod_get_6 : decode b_Mod_get 6 = .ok (.aload_n 0, 1) := by decide +kernel
theorem d_Mod_get_7 : decode b_Mod_get 7 = .ok (.iload_n 1, 1) := by decide +kernel
theorem d_Mod_get_8 : decode b_Mod_get 8 = .ok (.iload_n 2, 1) := by decide +kernel
theorem d_Mod_get_9 : decode b_Mod_get 9 = .ok (.bipush 64, 2) := by decide +kernel
theorem d_Mod_get_11 : decode b_Mod_get 11 = .ok (.idiv, 1) := by decide +kernel
theorem d_Mod_get_12 : decode b_Mod_get 12 = .ok (.invokevirtual 88, 3) := by decide +kernel
theorem d_Mod_get_15 : decode b_Mod_get 15 = .ok (.imul, 1) := by decide +kernel
theorem d_Mod_get_16 : decode b_Mod_get 16 = .ok (.iload_n 2, 1) := by decide +kernel
theorem d_Mod_get_17 : decode b_Mod_get 17 = .ok (.bipush 64, 2) := by decide +kernel
theorem d_Mod_get_19 : decode b_Mod_get 19 = .ok (.irem, 1) := by decide +kernel
theorem d_Mod_get_20 : decode b_Mod_get 20 = .ok (.iadd, 1) := by decide +kernel
theorem d_Mod_get_21 : decode b_Mod_get 21 = .ok (.iaload, 1) := by decide +kernel
theorem d_Mod_get_22 : decode b_Mod_get 22 = .ok (.ireturn, 1) := by decide +kernel
set_option maxHeartbeats 4000000 in
set_option maxRecDepth 100000 in
theorem c_Mod_get (l : Launch) (D : va_G) (g : Nat → Nat) (k : Nat → ClassId) (L : Nat) (hL0 : 96 ≤ L) (hL : L ≤ 768) (r : RSt) (hrB : rB r) (i c0 : Nat) (hi0 : i < 64) (hc0 : c0 < 1000000) (hX : ∀ i, i < 64 → rNd r (20 * i + 2) ≤ 8) (hG : ∀ i, i < 64 → ∀ t, t < bsR (rNd r) i → bkR (rNd r) i t < 768) (hc1 : c0 / 64 < bsR (rNd r) i) : RoI l y_Mod_get w_Mod_get ({ frames := 1, cells := 0, slots := 0, locals := 25 }) [.ref (g 20), .int (nI i), .int (nI c0)] (RoP D cl5 (tyC k) (wM g k L r)) (nI (gtR r i c0)) := by
  refine Met.ofW (cc := b_Mod_get) (maxL := 3) (ret := (some .int)) (by decide) rfl ?_
  intro p9 e9 s m args9 below9 meth9 c9 s₁ B hml hv
  obtain ⟨rfl, hP, hK⟩ := hv
  have hx := B.exec
  have hb := B.bytes
  have hr := B.returns
  have hts := atoms_spec (ws := w_Mod_get) B.pre
  have hTB : ∀ w ∈ lw_tb, w.before _ s = true := fun w h => hts w (List.mem_cons_of_mem _ h)
  have hown : s.vm.findClass R_Mod = some m.cls := findClass_of_methodNamed B.named
  have hlocks := B.notSynchronized
  have hS : va_S (fun _ => False) s.heap s.heap [] := va_S.rf
  have hl := lv_entry ([.ref (g 20), .int (nI i), .int (nI c0)]) (n := 3) (Nat.le_of_ble_eq_true rfl)
  rw [lg_entry_eq]
  generalize (lg_sl ([.ref (g 20), .int (nI i), .int (nI c0)]) ++ List.replicate (3 - (lg_sl ([.ref (g 20), .int (nI i), .int (nI c0)])).length) Slot.unset).toArray = ls at hl ⊢
  have hl : lv_has ls 3 [(0, .ref (g 20)), (1, .int (nI i)), (2, .int (nI c0))] := hl
  have hbk := hG i hi0 _ hc1
  refine lv_aload_n hx hb d_Mod_get_0 rfl (lv_at hl 0 rfl) ?_
  refine va_get (D := D) (ci := 4) (v := .ref (g 24)) (C := R_Mod) (T := T_Mod) (N := 14) hx hb hTB in_Mod hown hK hP 0 rfl rfl 6 (by decide) (hTB _ k_650) (fun _ h9 => h9) rfl d_Mod_get_1 ?_
  refine lv_bipush (v := nI 64) hx hb d_Mod_get_4 (by decide +kernel) ?_
  refine lv_aload_n hx hb d_Mod_get_6 rfl (lv_at hl 0 rfl) ?_
  refine lv_iload_n hx hb d_Mod_get_7 rfl (lv_at hl 1 rfl) ?_
  refine lv_iload_n hx hb d_Mod_get_8 rfl (lv_at hl 2 rfl) ?_
  refine lv_bipush (v := nI 64) hx hb d_Mod_get_9 (by decide +kernel) ?_
  refine gz_idiv hx hb d_Mod_get_11 (by omega) (by decide) (by decide) ?_
  refine gz_roV (As := [.int (nI i), .int (nI (c0 / 64))]) (rest := [.int (nI 64), .ref (g 24)]) (wc := (wM g k L r)) ⟨hx, hb, hml, hown, hTB⟩ (c_Mod_blockOf l D g k L hL0 hL r hrB i (c0 / 64) (by omega) (by omega) hX (by omega)) (cwV 2 hTB (gd_V k_754 k_756 k_32 k_56 k_757) rfl rfl rfl (by decide +kernel) ⟨Nat.le_of_ble_eq_true rfl, Nat.le_of_ble_eq_true rfl⟩) hK hP [0, 1, 2, 3, 4, 5, 6, 7, 8, 9, 10] rfl 0 rfl rfl rfl hl.1 rfl (Nat.le_of_ble_eq_true rfl) d_Mod_get_12 ⟨Nat.zero_le _, Nat.zero_le _⟩ hS (fun H locs hP hS => ?_)
  refine gz_imul hx hb d_Mod_get_15 ?_
  refine lv_iload_n hx hb d_Mod_get_16 rfl (lv_at hl 2 rfl) ?_
  refine lv_bipush (v := nI 64) hx hb d_Mod_get_17 (by decide +kernel) ?_
  refine gz_irem hx hb d_Mod_get_19 (by omega) (by decide) (by decide) ?_
  refine gz_iadd hx hb d_Mod_get_20 ?_
  refine gm_ald hx hb hK hP 4 2 rfl rfl (i := (64 * (bkR (rNd r) i (c0 / 64))) + (c0 % 64)) (by omega) (by omega) d_Mod_get_21 ?_
  have := (hrB ((64 * (bkR (rNd r) i (c0 / 64))) + (c0 % 64))).2.2.2.1
  exact W.iret (v := nI (rNw r ((64 * (bkR (rNd r) i (c0 / 64))) + (c0 % 64)))) hx hb hr (fun tt9 ht9 hW9 => ⟨⟨_, (), rfl, rfl, trivial⟩, hS.F ht9⟩) hS.2.2 d_Mod_get_22
theorem d_Mod_put_0 : decode b_Mod_put 0 = .ok (.aload_n 0, 1) := by decide +kernel
theorem d_Mod_put_1 : decode b_Mod_put 1 = .ok (.getfield 20, 3) := by decide +kernel
theorem d_Mod_put_4 : decode b_Mod_put 4 = .ok (.bipush 64, 2) := by decide +kernel
theorem d_Mod_put_6 : decode b_Mod_put 6 = .ok (.aload_n 0, 1) := by decide +kernel
theorem d_Mod_put_7 : decode b_Mod_put 7 = .ok (.iload_n 1, 1) := by decide +kernel
theorem d_Mod_put_8 : decode b_Mod_put 8 = .ok (.iload_n 2, 1) := by decide +kernel
theorem d_Mod_put_9 : decode b_Mod_put 9 = .ok (.bipush 64, 2) := by decide +kernel
theorem d_Mod_put_11 : decode b_Mod_put 11 = .ok (.idiv, 1) := by decide +kernel
theorem d_Mod_put_12 : decode b_Mod_put 12 = .ok (.invokevirtual 88, 3) := by decide +kernel
theorem d_Mod_put_15 : decode b_Mod_put 15 = .ok (.imul, 1) := by decide +kernel
theorem d_Mod_put_16 : decode b_Mod_put 16 = .ok (.iload_n 2, 1) := by decide +kernel
theorem d_Mod_put_17 : decode b_Mod_put 17 = .ok (.bipush 64, 2) := by decide +kernel
theorem d_Mod_put_19 : decode b_Mod_put 19 = .ok (.irem, 1) := by decide +kernel
theorem d_Mod_put_20 : decode b_Mod_put 20 = .ok (.iadd, 1) := by decide +kernel
theorem d_Mod_put_21 : decode b_Mod_put 21 = .ok (.iload_n 3, 1) := by decide +kernel
theorem d_Mod_put_22 : decode b_Mod_put 22 = .ok (.iastore, 1) := by decide +kernel
theorem d_Mod_put_23 : decode b_Mod_put 23 = .ok (.return_, 1) := by decide +kernel
set_option maxHeartbeats 4000000 in
set_option maxRecDepth 100000 in
theorem c_Mod_put (l : Launch) (D : va_G) (g : Nat → Nat) (k : Nat → ClassId) (L : Nat) (hL0 : 96 ≤ L) (hL : L ≤ 768) (r : RSt) (hrB : rB r) (i c0 v : Nat) (hi0 : i < 64) (hc0 : c0 < 1000000) (hX : ∀ i, i < 64 → rNd r (20 * i + 2) ≤ 8) (hG : ∀ i, i < 64 → ∀ t, t < bsR (rNd r) i → bkR (rNd r) i t < 768) (hc1 : c0 / 64 < bsR (rNd r) i) (hv0 : v < 65536) : MuV l y_Mod_put w_Mod_put ({ frames := 1, cells := 0, slots := 0, locals := 25 }) [.ref (g 20), .int (nI i), .int (nI c0), .int (nI v)] D cl5 (tyC k) (wM g k L r) (wM g k L (ptR r i c0 v)) := by
  intro sz
  refine Met.ofW (cc := b_Mod_put) (maxL := 4) (ret := none) (by decide) rfl ?_
  intro p9 e9 s m args9 below9 meth9 c9 s₁ B hml hv
  obtain ⟨rfl, hsz, hP, hK, hD0⟩ := hv
  have hx := B.exec
  have hb := B.bytes
  have hr := B.returns
  have hts := atoms_spec (ws := w_Mod_put) B.pre
  have hTB : ∀ w ∈ lw_tb, w.before _ s = true := fun w h => hts w (List.mem_cons_of_mem _ h)
  have hown : s.vm.findClass R_Mod = some m.cls := findClass_of_methodNamed B.named
  have hlocks := B.notSynchronized
  subst hsz
  have hD := hD0.self (sz := s.heap.size)
  generalize hAe : va_A (wM g k L r) s.heap.size = A at hD ⊢
  have hA : ∀ q : Nat, s.heap.size ≤ q → A q := fun q h => by rw [← hAe]; exact Or.inr h
  have hS : va_S A s.heap s.heap [] := va_S.rf
  have hl := lv_entry ([.ref (g 20), .int (nI i), .int (nI c0), .int (nI v)]) (n := 4) (Nat.le_of_ble_eq_true rfl)
  rw [lg_entry_eq]
  generalize (lg_sl ([.ref (g 20), .int (nI i), .int (nI c0), .int (nI v)]) ++ List.replicate (4 - (lg_sl ([.ref (g 20), .int (nI i), .int (nI c0), .int (nI v)])).length) Slot.unset).toArray = ls at hl ⊢
  have hl : lv_has ls 4 [(0, .ref (g 20)), (1, .int (nI i)), (2, .int (nI c0)), (3, .int (nI v))] := hl
  have hbk := hG i hi0 _ hc1
  refine lv_aload_n hx hb d_Mod_put_0 rfl (lv_at hl 0 rfl) ?_
  refine va_get (D := D) (ci := 4) (v := .ref (g 24)) (C := R_Mod) (T := T_Mod) (N := 14) hx hb hTB in_Mod hown hK hP 0 rfl rfl 6 (by decide) (hTB _ k_650) (fun _ h9 => h9) rfl d_Mod_put_1 ?_
  refine lv_bipush (v := nI 64) hx hb d_Mod_put_4 (by decide +kernel) ?_
  refine lv_aload_n hx hb d_Mod_put_6 rfl (lv_at hl 0 rfl) ?_
  refine lv_iload_n hx hb d_Mod_put_7 rfl (lv_at hl 1 rfl) ?_
  refine lv_iload_n hx hb d_Mod_put_8 rfl (lv_at hl 2 rfl) ?_
  refine lv_bipush (v := nI 64) hx hb d_Mod_put_9 (by decide +kernel) ?_
  refine gz_idiv hx hb d_Mod_put_11 (by omega) (by decide) (by decide) ?_
  refine gz_roV (As := [.int (nI i), .int (nI (c0 / 64))]) (rest := [.int (nI 64), .ref (g 24)]) (wc := (wM g k L r)) ⟨hx, hb, hml, hown, hTB⟩ (c_Mod_blockOf l D g k L hL0 hL r hrB i (c0 / 64) (by omega) (by omega) hX (by omega)) (cwV 2 hTB (gd_V k_754 k_756 k_32 k_56 k_757) rfl rfl rfl (by decide +kernel) ⟨Nat.le_of_ble_eq_true rfl, Nat.le_of_ble_eq_true rfl⟩) hK hP [0, 1, 2, 3, 4, 5, 6, 7, 8, 9, 10] rfl 0 rfl rfl rfl hl.1 rfl (Nat.le_of_ble_eq_true rfl) d_Mod_put_12 ⟨Nat.zero_le _, Nat.zero_le _⟩ hS (fun H locs hP hS => ?_)
  refine gz_imul hx hb d_Mod_put_15 ?_
  refine lv_iload_n hx hb d_Mod_put_16 rfl (lv_at hl 2 rfl) ?_
  refine lv_bipush (v := nI 64) hx hb d_Mod_put_17 (by decide +kernel) ?_
  refine gz_irem hx hb d_Mod_put_19 (by omega) (by decide) (by decide) ?_
  refine gz_iadd hx hb d_Mod_put_20 ?_
  refine lv_iload_n hx hb d_Mod_put_21 rfl (lv_at hl 3 rfl) ?_
  refine gm_ast hx hb hK hP hD hS 4 2 rfl rfl (i := (64 * (bkR (rNd r) i (c0 / 64))) + (c0 % 64)) (x := v) (by omega) (by omega) d_Mod_put_22 (fun H locs hP hD hS => ?_)
  have hrB := rB_nw (i := (64 * (bkR (rNd r) i (c0 / 64))) + (c0 % 64)) (x := v) hrB (by omega)
  have hP : va_P D cl5 (wM g k L (qNw r (va_up (rNw r) ((64 * (bkR (rNd r) i (c0 / 64))) + (c0 % 64)) v))) H := hP
  have hD : va_D A (wM g k L (qNw r (va_up (rNw r) ((64 * (bkR (rNd r) i (c0 / 64))) + (c0 % 64)) v))) := hD
  have hP9 : va_P D cl5 (wM g k L (ptR r i c0 v)) H := hP
  have hD9 : va_D A (wM g k L (ptR r i c0 v)) := hD
  exact W.vret hx hb hr (fun tt9 ht9 hW9 => ⟨⟨(), rfl, trivial, ⟨by rw [ht9]; exact hP9, hD9⟩⟩, hS.F ht9⟩) hS.2.2 d_Mod_put_23
theorem d_Mod_nameAt_0 : decode b_Mod_nameAt 0 = .ok (.aload_n 0, 1) := by decide +kernel
theorem d_Mod_nameAt_1 : decode b_Mod_nameAt 1 = .ok (.iload_n 1, 1) := by decide +kernel
theorem d_Mod_nameAt_2 : decode b_Mod_nameAt 2 = .ok (.iconst 4, 1) := by decide +kernel
theorem d_Mod_nameAt_3 : decode b_Mod_nameAt 3 = .ok (.iload_n 2, 1) := by decide +kernel
theorem d_Mod_nameAt_4 : decode b_Mod_nameAt 4 = .ok (.imul, 1) := by decide +kernel
theorem d_Mod_nameAt_5 : decode b_Mod_nameAt 5 = .ok (.invokevirtual 91, 3) := by decide +kernel
theorem d_Mod_nameAt_8 : decode b_Mod_nameAt 8 = .ok (.aload_n 0, 1) := by decide +kernel
theorem d_Mod_nameAt_9 : decode b_Mod_nameAt 9 = .ok (.iload_n 1, 1) := by decide +kernel
theorem d_Mod_nameAt_10 : decode b_Mod_nameAt 10 = .ok (.iconst 4, 1) := by decide +kernel
theorem d_Mod_nameAt_11 : decode b_Mod_nameAt 11 = .ok (.iload_n 2, 1) := by decide +kernel
theorem d_Mod_nameAt_12 : decode b_Mod_nameAt 12 = .ok (.imul, 1) := by decide +kernel
theorem d_Mod_nameAt_13 : decode b_Mod_nameAt 13 = .ok (.iconst 1, 1) := by decide +kernel
theorem d_Mod_nameAt_14 : decode b_Mod_nameAt 14 = .ok (.iadd, 1) := by decide +kernel
theorem d_Mod_nameAt_15 : decode b_Mod_nameAt 15 = .ok (.invokevirtual 91, 3) := by decide +kernel
theorem d_Mod_nameAt_18 : decode b_Mod_nameAt 18 = .ok (.bipush 8, 2) := by decide +kernel
theorem d_Mod_nameAt_20 : decode b_Mod_nameAt 20 = .ok (.ishl, 1) := by decide +kernel
theorem d_Mod_nameAt_21 : decode b_Mod_nameAt 21 = .ok (.ior, 1) := by decide +kernel
theorem d_Mod_nameAt_22 : decode b_Mod_nameAt 22 = .ok (.ireturn, 1) := by decide +kernel
set_option maxHeartbeats 4000000 in
set_option maxRecDepth 100000 in
theorem c_Mod_nameAt (l : Launch) (D : va_G) (g : Nat → Nat) (k : Nat → ClassId) (L : Nat) (hL0 : 96 ≤ L) (hL : L ≤ 768) (r : RSt) (hrB : rB r) (d e : Nat) (hd0 : d < 64) (he0 : e < 200000) (hX : ∀ i, i < 64 → rNd r (20 * i + 2) ≤ 8) (hG : ∀ i, i < 64 → ∀ t, t < bsR (rNd r) i → bkR (rNd r) i t < 768) (he1 : 4 * e / 64 < bsR (rNd r) d) (hW : ∀ q, rNw r q < 256) : RoI l y_Mod_nameAt w_Mod_nameAt ({ frames := 2, cells := 0, slots := 0, locals := 47 }) [.ref (g 20), .int (nI d), .int (nI e)] (RoP D cl5 (tyC k) (wM g k L r)) (nI (nmR r d e)) := by
  refine Met.ofW (cc := b_Mod_nameAt) (maxL := 3) (ret := (some .int)) (by decide) rfl ?_
  intro p9 e9 s m args9 below9 meth9 c9 s₁ B hml hv
  obtain ⟨rfl, hP, hK⟩ := hv
  have hx := B.exec
  have hb := B.bytes
  have hr := B.returns
  have hts := atoms_spec (ws := w_Mod_nameAt) B.pre
  have hTB : ∀ w ∈ lw_tb, w.before _ s = true := fun w h => hts w (List.mem_cons_of_mem _ h)
  have hown : s.vm.findClass R_Mod = some m.cls := findClass_of_methodNamed B.named
  have hlocks := B.notSynchronized
  have hS : va_S (fun _ => False) s.heap s.heap [] := va_S.rf
  have hl := lv_entry ([.ref (g 20), .int (nI d), .int (nI e)]) (n := 3) (Nat.le_of_ble_eq_true rfl)
  rw [lg_entry_eq]
  generalize (lg_sl ([.ref (g 20), .int (nI d), .int (nI e)]) ++ List.replicate (3 - (lg_sl ([.ref (g 20), .int (nI d), .int (nI e)])).length) Slot.unset).toArray = ls at hl ⊢
  have hl : lv_has ls 3 [(0, .ref (g 20)), (1, .int (nI d)), (2, .int (nI e))] := hl
  refine lv_aload_n hx hb d_Mod_nameAt_0 rfl (lv_at hl 0 rfl) ?_
  refine lv_iload_n hx hb d_Mod_nameAt_1 rfl (lv_at hl 1 rfl) ?_
  refine lv_iconst (v := nI 4) hx hb d_Mod_nameAt_2 (by decide +kernel) ?_
  refine lv_iload_n hx hb d_Mod_nameAt_3 rfl (lv_at hl 2 rfl) ?_
  refine gz_imul hx hb d_Mod_nameAt_4 ?_
  refine gz_roV (As := [.int (nI d), .int (nI (4 * e))]) (rest := []) (wc := (wM g k L r)) ⟨hx, hb, hml, hown, hTB⟩ (c_Mod_get l D g k L hL0 hL r hrB d (4 * e) (by omega) (by omega) hX hG (by omega)) (cwV 2 hTB (gd_V k_750 k_752 k_31 k_56 k_753) rfl rfl rfl (by decide +kernel) ⟨Nat.le_of_ble_eq_true rfl, Nat.le_of_ble_eq_true rfl⟩) hK hP [0, 1, 2, 3, 4, 5, 6, 7, 8, 9, 10] rfl 0 rfl rfl rfl hl.1 rfl (Nat.le_of_ble_eq_true rfl) d_Mod_nameAt_5 ⟨Nat.zero_le _, Nat.zero_le _⟩ hS (fun H locs hP hS => ?_)
  have : gtR r d (4 * e) < 65536 := (hrB _).2.2.2.1
  refine lv_aload_n hx hb d_Mod_nameAt_8 rfl (lv_at hl 0 rfl) ?_
  refine lv_iload_n hx hb d_Mod_nameAt_9 rfl (lv_at hl 1 rfl) ?_
  refine lv_iconst (v := nI 4) hx hb d_Mod_nameAt_10 (by decide +kernel) ?_
  refine lv_iload_n hx hb d_Mod_nameAt_11 rfl (lv_at hl 2 rfl) ?_
  refine gz_imul hx hb d_Mod_nameAt_12 ?_
  refine lv_iconst (v := nI 1) hx hb d_Mod_nameAt_13 (by decide +kernel) ?_
  refine gz_iadd hx hb d_Mod_nameAt_14 ?_
  refine gz_roV (As := [.int (nI d), .int (nI ((4 * e) + 1))]) (rest := [.int (nI (gtR r d (4 * e)))]) (wc := (wM g k L r)) ⟨hx, hb, hml, hown, hTB⟩ (c_Mod_get l D g k L hL0 hL r hrB d ((4 * e) + 1) (by omega) (by omega) hX hG (by omega)) (cwV 2 hTB (gd_V k_750 k_752 k_31 k_56 k_753) rfl rfl rfl (by decide +kernel) ⟨Nat.le_of_ble_eq_true rfl, Nat.le_of_ble_eq_true rfl⟩) hK hP [0, 1, 2, 3, 4, 5, 6, 7, 8, 9, 10] rfl 0 rfl rfl rfl hl.1 rfl (Nat.le_of_ble_eq_true rfl) d_Mod_nameAt_15 ⟨Nat.zero_le _, Nat.zero_le _⟩ hS (fun H locs hP hS => ?_)
  have : gtR r d ((4 * e) + 1) < 65536 := (hrB _).2.2.2.1
  have h8a : gtR r d (4 * e) < 256 := hW _
  have h8b : gtR r d (4 * e + 1) < 256 := hW _
  refine lv_bipush (v := nI 8) hx hb d_Mod_nameAt_18 (by decide +kernel) ?_
  refine gm_ishl hx hb d_Mod_nameAt_20 (by omega) (by omega) ?_
  refine gm_ior hx hb d_Mod_nameAt_21 (by omega) (by omega) ?_
  exact W.iret (v := nI ((gtR r d (4 * e)) + (gtR r d ((4 * e) + 1)) * 256)) hx hb hr (fun tt9 ht9 hW9 => ⟨⟨_, (), rfl, rfl, trivial⟩, hS.F ht9⟩) hS.2.2 d_Mod_nameAt_22
theorem d_Mod_entryOf_0 : decode b_Mod_entryOf 0 = .ok (.iconst 0, 1) := by decide +kernel
theorem d_Mod_entryOf_1 : decode b_Mod_entryOf 1 = .ok (.istore_n 3, 1) := by decide +kernel
theorem d_Mod_entryOf_2 : decode b_Mod_entryOf 2 = .ok (.iload_n 3, 1) := by decide +kernel
theorem d_Mod_entryOf_3 : decode b_Mod_entryOf 3 = .ok (.aload_n 0, 1) := by decide +kernel
theorem d_Mod_entryOf_4 : decode b_Mod_entryOf 4 = .ok (.iload_n 1, 1) := by decide +kernel
theorem d_Mod_entryOf_5 : decode b_Mod_entryOf 5 = .ok (.invokevirtual 94, 3) := by decide +kernel
theorem d_Mod_entryOf_8 : decode b_Mod_entryOf 8 = .ok (.iconst 4, 1) := by decide +kernel
theorem d_Mod_entryOf_9 : decode b_Mod_entryOf 9 = .ok (.idiv, 1) := by decide +kernel
theorem d_Mod_entryOf_10 : decode b_Mod_entryOf 10 = .ok (.if_icmp .ge 21, 3) := by decide +kernel
theorem d_Mod_entryOf_13 : decode b_Mod_entryOf 13 = .ok (.aload_n 0, 1) := by decide +kernel
theorem d_Mod_entryOf_14 : decode b_Mod_entryOf 14 = .ok (.iload_n 1, 1) := by decide +kernel
theorem d_Mod_entryOf_15 : decode b_Mod_entryOf 15 = .ok (.iload_n 3, 1) := by decide +kernel
theorem d_Mod_entryOf_16 : decode b_Mod_entryOf 16 = .ok (.invokevirtual 97, 3) := by decide +kernel
theorem d_Mod_entryOf_19 : decode b_Mod_entryOf 19 = .ok (.iload_n 2, 1) := by decide +kernel
theorem d_Mod_entryOf_20 : decode b_Mod_entryOf 20 = .ok (.if_icmp .ne 5, 3) := by decide +kernel
theorem d_Mod_entryOf_23 : decode b_Mod_entryOf 23 = .ok (.iload_n 3, 1) := by decide +kernel
theorem d_Mod_entryOf_24 : decode b_Mod_entryOf 24 = .ok (.ireturn, 1) := by decide +kernel
theorem d_Mod_entryOf_25 : decode b_Mod_entryOf 25 = .ok (.iinc 3 1, 3) := by decide +kernel
theorem d_Mod_entryOf_28 : decode b_Mod_entryOf 28 = .ok (.goto (-26), 3) := by decide +kernel
theorem d_Mod_entryOf_31 : decode b_Mod_entryOf 31 = .ok (.iconst (-1), 1) := by decide +kernel
theorem d_Mod_entryOf_32 : decode b_Mod_entryOf 32 = .ok (.ireturn, 1) := by decide +kernel
set_option maxHeartbeats 4000000 in
set_option maxRecDepth 100000 in
theorem c_Mod_entryOf (l : Launch) (D : va_G) (g : Nat → Nat) (k : Nat → ClassId) (L : Nat) (hL0 : 96 ≤ L) (hL : L ≤ 768) (r : RSt) (hrB : rB r) (d w : Nat) (hd0 : d < 64) (hw0 : w < 65536) (hX : ∀ i, i < 64 → rNd r (20 * i + 2) ≤ 8) (hG : ∀ i, i < 64 → ∀ t, t < bsR (rNd r) i → bkR (rNd r) i t < 768) (hS0 : ∀ i, i < 64 → rNd r (20 * i + 1) ≤ 64 * bsR (rNd r) i) (hW : ∀ q, rNw r q < 256) : RoI l y_Mod_entryOf w_Mod_entryOf ({ frames := 3, cells := 0, slots := 0, locals := 69 }) [.ref (g 20), .int (nI d), .int (nI w)] (RoP D cl5 (tyC k) (wM g k L r)) (eoR r d w) := by
  refine Met.ofW (cc := b_Mod_entryOf) (maxL := 4) (ret := (some .int)) (by decide) rfl ?_
  intro p9 e9 s m args9 below9 meth9 c9 s₁ B hml hv
  obtain ⟨rfl, hP, hK⟩ := hv
  have hx := B.exec
  have hb := B.bytes
  have hr := B.returns
  have hts := atoms_spec (ws := w_Mod_entryOf) B.pre
  have hTB : ∀ w ∈ lw_tb, w.before _ s = true := fun w h => hts w (List.mem_cons_of_mem _ h)
  have hown : s.vm.findClass R_Mod = some m.cls := findClass_of_methodNamed B.named
  have hlocks := B.notSynchronized
  have hS : va_S (fun _ => False) s.heap s.heap [] := va_S.rf
  have hl := lv_entry ([.ref (g 20), .int (nI d), .int (nI w)]) (n := 4) (Nat.le_of_ble_eq_true rfl)
  rw [lg_entry_eq]
  generalize (lg_sl ([.ref (g 20), .int (nI d), .int (nI w)]) ++ List.replicate (4 - (lg_sl ([.ref (g 20), .int (nI d), .int (nI w)])).length) Slot.unset).toArray = ls at hl ⊢
  have hl : lv_has ls 4 [(0, .ref (g 20)), (1, .int (nI d)), (2, .int (nI w))] := hl
  refine lv_iconst (v := nI 0) hx hb d_Mod_entryOf_0 (by decide +kernel) ?_
  refine lv_istore_n (lv' := [(3, .int (nI 0)), (0, .ref (g 20)), (1, .int (nI d)), (2, .int (nI w))]) hx hb d_Mod_entryOf_1 rfl hl (by decide) rfl (fun ls hl => ?_)
  refine gz_loop 2 (fun (zz : Nat) H locs ls => match zz with | e => va_P D cl5 (wM g k L r) H ∧ va_S (fun _ => False) s.heap H locs ∧ lv_has ls 4 [(0, .ref (g 20)), (1, .int (nI d)), (2, .int (nI w)), (3, .int (nI e))] ∧ (e ≤ rNd r (20 * d + 1) / 4) ∧ (eoG r d w (rNd r (20 * d + 1) / 4 - e) e = eoR r d w)) (fun (zz : Nat) => match zz with | e => rNd r (20 * d + 1) / 4 - e) (fun zz H locs ls hI ih2 => ?_) (0) ⟨hP, hS, lv_sub hl [1, 2, 3, 0] rfl, (Nat.zero_le _), rfl⟩
  obtain ⟨e, rfl⟩ : ∃ z, z = zz := ⟨_, rfl⟩
  obtain ⟨hP, hS, hl, he1, he2⟩ := hI
  have hsz := (hrB (20 * d + 1)).2.1
  have hsd := hS0 d hd0
  refine lv_iload_n hx hb d_Mod_entryOf_2 rfl (lv_at hl 3 rfl) ?_
  refine lv_aload_n hx hb d_Mod_entryOf_3 rfl (lv_at hl 0 rfl) ?_
  refine lv_iload_n hx hb d_Mod_entryOf_4 rfl (lv_at hl 1 rfl) ?_
  refine gz_roV (As := [.int (nI d)]) (rest := [.int (nI e)]) (wc := (wM g k L r)) ⟨hx, hb, hml, hown, hTB⟩ (c_Mod_sizeOf l D g k L hL0 hL r hrB d (by omega)) (cwV 1 hTB (gd_V k_742 k_744 k_29 k_56 k_745) rfl rfl rfl (by decide +kernel) ⟨Nat.le_of_ble_eq_true rfl, Nat.le_of_ble_eq_true rfl⟩) hK hP [0, 1, 2, 3, 4, 5, 6, 7, 8, 9, 10] rfl 0 rfl rfl rfl hl.1 rfl (Nat.le_of_ble_eq_true rfl) d_Mod_entryOf_5 ⟨Nat.zero_le _, Nat.zero_le _⟩ hS (fun H locs hP hS => ?_)
  have := (hrB (20 * d + 1)).2.1
  refine lv_iconst (v := nI 4) hx hb d_Mod_entryOf_8 (by decide +kernel) ?_
  refine gz_idiv hx hb d_Mod_entryOf_9 (by omega) (by decide) (by decide) ?_
  refine gz_icmp_ge (tgt := 31) hx hb d_Mod_entryOf_10 (by decide) (by omega) (by omega) (fun h10 => ?_) (fun h10 => ?_)
  · refine lv_iconst (v := (-1)) hx hb d_Mod_entryOf_31 (by decide +kernel) ?_
    exact W.iret (v := (-1)) hx hb hr (fun tt9 ht9 hW9 => ⟨⟨_, (), rfl, (by rw [← he2, show rNd r (20 * d + 1) / 4 - e = 0 by omega]; rfl), trivial⟩, hS.F ht9⟩) hS.2.2 d_Mod_entryOf_32
  · refine lv_aload_n hx hb d_Mod_entryOf_13 rfl (lv_at hl 0 rfl) ?_
    refine lv_iload_n hx hb d_Mod_entryOf_14 rfl (lv_at hl 1 rfl) ?_
    refine lv_iload_n hx hb d_Mod_entryOf_15 rfl (lv_at hl 3 rfl) ?_
    refine gz_roV (As := [.int (nI d), .int (nI e)]) (rest := []) (wc := (wM g k L r)) ⟨hx, hb, hml, hown, hTB⟩ (c_Mod_nameAt l D g k L hL0 hL r hrB d e (by omega) (by omega) hX hG (by omega) hW) (cwV 2 hTB (gd_V k_746 k_748 k_30 k_56 k_749) rfl rfl rfl (by decide +kernel) ⟨Nat.le_of_ble_eq_true rfl, Nat.le_of_ble_eq_true rfl⟩) hK hP [0, 1, 2, 3, 4, 5, 6, 7, 8, 9, 10] rfl 0 rfl rfl rfl hl.1 rfl (Nat.le_of_ble_eq_true rfl) d_Mod_entryOf_16 ⟨Nat.zero_le _, Nat.zero_le _⟩ hS (fun H locs hP hS => ?_)
    have : nmR r d e < 65536 := by have h8a : gtR r d (4 * e) < 256 := hW _; have h8b : gtR r d (4 * e + 1) < 256 := hW _; unfold nmR; omega
    refine lv_iload_n hx hb d_Mod_entryOf_19 rfl (lv_at hl 2 rfl) ?_
    refine gz_icmp_ne (tgt := 25) hx hb d_Mod_entryOf_20 (by decide) (by omega) (by omega) (fun h20 => ?_) (fun h20 => ?_)
    · refine lv_iinc (v := nI (e + 1)) (lv' := [(3, .int (nI (e + 1))), (0, .ref (g 20)), (1, .int (nI d)), (2, .int (nI w))]) hx hb d_Mod_entryOf_25 hl (k := 3) rfl (nI_add e 1) (by decide) rfl (fun ls hl => ?_)
      refine lv_goto (tgt := 2) hx hb d_Mod_entryOf_28 (by decide) ?_
      exact ih2 (e + 1) _ _ _ (by first | omega | (dsimp only; omega)) ⟨hP, hS, lv_sub hl [1, 2, 3, 0] rfl, (by omega), (by rw [← he2, show rNd r (20 * d + 1) / 4 - e = (rNd r (20 * d + 1) / 4 - (e + 1)) + 1 by omega, eoG, if_neg h20])⟩
    · refine lv_iload_n hx hb d_Mod_entryOf_23 rfl (lv_at hl 3 rfl) ?_
      exact W.iret (v := nI e) hx hb hr (fun tt9 ht9 hW9 => ⟨⟨_, (), rfl, (by rw [← he2, show rNd r (20 * d + 1) / 4 - e = (rNd r (20 * d + 1) / 4 - (e + 1)) + 1 by omega, eoG, if_pos h20]), trivial⟩, hS.F ht9⟩) hS.2.2 d_Mod_entryOf_24
theorem d_Mod_inodeAt_0 : decode b_Mod_inodeAt 0 = .ok (.aload_n 0, 1) := by decide +kernel
theorem d_Mod_inodeAt_1 : decode b_Mod_inodeAt 1 = .ok (.iload_n 1, 1) := by decide +kernel
theorem d_Mod_inodeAt_2 : decode b_Mod_inodeAt 2 = .ok (.iconst 4, 1) := by decide +kernel
theorem d_Mod_inodeAt_3 : decode b_Mod_inodeAt 3 = .ok (.iload_n 2, 1) := by decide +kernel
theorem d_Mod_inodeAt_4 : decode b_Mod_inodeAt 4 = .ok (.imul, 1) := by decide +kernel
theorem d_Mod_inodeAt_5 : decode b_Mod_inodeAt 5 = .ok (.iconst 2, 1) := by decide +kernel
theorem d_Mod_inodeAt_6 : decode b_Mod_inodeAt 6 = .ok (.iadd, 1) := by decide +kernel
theorem d_Mod_inodeAt_7 : decode b_Mod_inodeAt 7 = .ok (.invokevirtual 91, 3) := by decide +kernel
theorem d_Mod_inodeAt_10 : decode b_Mod_inodeAt 10 = .ok (.ireturn, 1) := by decide +kernel
set_option maxHeartbeats 4000000 in
set_option maxRecDepth 100000 in
theorem c_Mod_inodeAt (l : Launch) (D : va_G) (g : Nat → Nat) (k : Nat → ClassId) (L : Nat) (hL0 : 96 ≤ L) (hL : L ≤ 768) (r : RSt) (hrB : rB r) (d e : Nat) (hd0 : d < 64) (he0 : e < 200000) (hX : ∀ i, i < 64 → rNd r (20 * i + 2) ≤ 8) (hG : ∀ i, i < 64 → ∀ t, t < bsR (rNd r) i → bkR (rNd r) i t < 768) (he1 : 4 * e / 64 < bsR (rNd r) d) : RoI l y_Mod_inodeAt w_Mod_inodeAt ({ frames := 2, cells := 0, slots := 0, locals := 47 }) [.ref (g 20), .int (nI d), .int (nI e)] (RoP D cl5 (tyC k) (wM g k L r)) (nI (iaR r d e)) := by
  refine Met.ofW (cc := b_Mod_inodeAt) (maxL := 3) (ret := (some .int)) (by decide) rfl ?_
  intro p9 e9 s m args9 below9 meth9 c9 s₁ B hml hv
  obtain ⟨rfl, hP, hK⟩ := hv
  have hx := B.exec
  have hb := B.bytes
  have hr := B.returns
  have hts := atoms_spec (ws := w_Mod_inodeAt) B.pre
  have hTB : ∀ w ∈ lw_tb, w.before _ s = true := fun w h => hts w (List.mem_cons_of_mem _ h)
  have hown : s.vm.findClass R_Mod = some m.cls := findClass_of_methodNamed B.named
  have hlocks := B.notSynchronized
  have hS : va_S (fun _ => False) s.heap s.heap [] := va_S.rf
  have hl := lv_entry ([.ref (g 20), .int (nI d), .int (nI e)]) (n := 3) (Nat.le_of_ble_eq_true rfl)
  rw [lg_entry_eq]
  generalize (lg_sl ([.ref (g 20), .int (nI d), .int (nI e)]) ++ List.replicate (3 - (lg_sl ([.ref (g 20), .int (nI d), .int (nI e)])).length) Slot.unset).toArray = ls at hl ⊢
  have hl : lv_has ls 3 [(0, .ref (g 20)), (1, .int (nI d)), (2, .int (nI e))] := hl
  refine lv_aload_n hx hb d_Mod_inodeAt_0 rfl (lv_at hl 0 rfl) ?_
  refine lv_iload_n hx hb d_Mod_inodeAt_1 rfl (lv_at hl 1 rfl) ?_
  refine lv_iconst (v := nI 4) hx hb d_Mod_inodeAt_2 (by decide +kernel) ?_
  refine lv_iload_n hx hb d_Mod_inodeAt_3 rfl (lv_at hl 2 rfl) ?_
  refine gz_imul hx hb d_Mod_inodeAt_4 ?_
  refine lv_iconst (v := nI 2) hx hb d_Mod_inodeAt_5 (by decide +kernel) ?_
  refine gz_iadd hx hb d_Mod_inodeAt_6 ?_
  refine gz_roV (As := [.int (nI d), .int (nI ((4 * e) + 2))]) (rest := []) (wc := (wM g k L r)) ⟨hx, hb, hml, hown, hTB⟩ (c_Mod_get l D g k L hL0 hL r hrB d ((4 * e) + 2) (by omega) (by omega) hX hG (by omega)) (cwV 2 hTB (gd_V k_750 k_752 k_31 k_56 k_753) rfl rfl rfl (by decide +kernel) ⟨Nat.le_of_ble_eq_true rfl, Nat.le_of_ble_eq_true rfl⟩) hK hP [0, 1, 2, 3, 4, 5, 6, 7, 8, 9, 10] rfl 0 rfl rfl rfl hl.1 rfl (Nat.le_of_ble_eq_true rfl) d_Mod_inodeAt_7 ⟨Nat.zero_le _, Nat.zero_le _⟩ hS (fun H locs hP hS => ?_)
  have : gtR r d ((4 * e) + 2) < 65536 := (hrB _).2.2.2.1
  exact W.iret (v := nI (gtR r d ((4 * e) + 2))) hx hb hr (fun tt9 ht9 hW9 => ⟨⟨_, (), rfl, rfl, trivial⟩, hS.F ht9⟩) hS.2.2 d_Mod_inodeAt_10
theorem d_Mod_enters_0 : decode b_Mod_enters 0 = .ok (.aload_n 0, 1) := by decide +kernel
theorem d_Mod_enters_1 : decode b_Mod_enters 1 = .ok (.iload_n 1, 1) := by decide +kernel
theorem d_Mod_enters_2 : decode b_Mod_enters 2 = .ok (.iconst 4, 1) := by decide +kernel
theorem d_Mod_enters_3 : decode b_Mod_enters 3 = .ok (.iload_n 2, 1) := by decide +kernel
theorem d_Mod_enters_4 : decode b_Mod_enters 4 = .ok (.imul, 1) := by decide +kernel
theorem d_Mod_enters_5 : decode b_Mod_enters 5 = .ok (.iload_n 3, 1) := by decide +kernel
theorem d_Mod_enters_6 : decode b_Mod_enters 6 = .ok (.sipush 255, 3) := by decide +kernel
theorem d_Mod_enters_9 : decode b_Mod_enters 9 = .ok (.iand, 1) := by decide +kernel
theorem d_Mod_enters_10 : decode b_Mod_enters 10 = .ok (.invokevirtual 84, 3) := by decide +kernel
theorem d_Mod_enters_13 : decode b_Mod_enters 13 = .ok (.aload_n 0, 1) := by decide +kernel
theorem d_Mod_enters_14 : decode b_Mod_enters 14 = .ok (.iload_n 1, 1) := by decide +kernel
theorem d_Mod_enters_15 : decode b_Mod_enters 15 = .ok (.iconst 4, 1) := by decide +kernel
theorem d_Mod_enters_16 : decode b_Mod_enters 16 = .ok (.iload_n 2, 1) := by decide +kernel
theorem d_Mod_enters_17 : decode b_Mod_enters 17 = .ok (.imul, 1) := by decide +kernel
theorem d_Mod_enters_18 : decode b_Mod_enters 18 = .ok (.iconst 1, 1) := by decide +kernel
theorem d_Mod_enters_19 : decode b_Mod_enters 19 = .ok (.iadd, 1) := by decide +kernel
theorem d_Mod_enters_20 : decode b_Mod_enters 20 = .ok (.iload_n 3, 1) := by decide +kernel
theorem d_Mod_enters_21 : decode b_Mod_enters 21 = .ok (.bipush 8, 2) := by decide +kernel
theorem d_Mod_enters_23 : decode b_Mod_enters 23 = .ok (.ishr, 1) := by decide +kernel
theorem d_Mod_enters_24 : decode b_Mod_enters 24 = .ok (.invokevirtual 84, 3) := by decide +kernel
theorem d_Mod_enters_27 : decode b_Mod_enters 27 = .ok (.aload_n 0, 1) := by decide +kernel
theorem d_Mod_enters_28 : decode b_Mod_enters 28 = .ok (.iload_n 1, 1) := by decide +kernel
theorem d_Mod_enters_29 : decode b_Mod_enters 29 = .ok (.iconst 4, 1) := by decide +kernel
theorem d_Mod_enters_30 : decode b_Mod_enters 30 = .ok (.iload_n 2, 1) := by decide +kernel
theorem d_Mod_enters_31 : decode b_Mod_enters 31 = .ok (.imul, 1) := by decide +kernel
theorem d_Mod_enters_32 : decode b_Mod_enters 32 = .ok (.iconst 2, 1) := by decide +kernel
theorem d_Mod_enters_33 : decode b_Mod_enters 33 = .ok (.iadd, 1) := by decide +kernel
theorem d_Mod_enters_34 : decode b_Mod_enters 34 = .ok (.iload 4, 2) := by decide +kernel
theorem d_Mod_enters_36 : decode b_Mod_enters 36 = .ok (.invokevirtual 84, 3) := by decide +kernel
theorem d_Mod_enters_39 : decode b_Mod_enters 39 = .ok (.return_, 1) := by decide +kernel
set_option maxHeartbeats 4000000 in
set_option maxRecDepth 100000 in
theorem c_Mod_enters (l : Launch) (D : va_G) (g : Nat → Nat) (k : Nat → ClassId) (L : Nat) (hL0 : 96 ≤ L) (hL : L ≤ 768) (r : RSt) (hrB : rB r) (d e w i : Nat) (hd0 : d < 64) (he0 : e < 200000) (hX : ∀ i, i < 64 → rNd r (20 * i + 2) ≤ 8) (hG : ∀ i, i < 64 → ∀ t, t < bsR (rNd r) i → bkR (rNd r) i t < 768) (he1 : 4 * e / 64 < bsR (rNd r) d) (hw0 : w < 65536) (hi0 : i < 65536) : MuV l y_Mod_enters w_Mod_enters ({ frames := 2, cells := 0, slots := 0, locals := 48 }) [.ref (g 20), .int (nI d), .int (nI e), .int (nI w), .int (nI i)] D cl5 (tyC k) (wM g k L r) (wM g k L (enR r d e w i)) := by
  intro sz
  refine Met.ofW (cc := b_Mod_enters) (maxL := 5) (ret := none) (by decide) rfl ?_
  intro p9 e9 s m args9 below9 meth9 c9 s₁ B hml hv
  obtain ⟨rfl, hsz, hP, hK, hD0⟩ := hv
  have hx := B.exec
  have hb := B.bytes
  have hr := B.returns
  have hts := atoms_spec (ws := w_Mod_enters) B.pre
  have hTB : ∀ w ∈ lw_tb, w.before _ s = true := fun w h => hts w (List.mem_cons_of_mem _ h)
  have hown : s.vm.findClass R_Mod = some m.cls := findClass_of_methodNamed B.named
  have hlocks := B.notSynchronized
  subst hsz
  have hD := hD0.self (sz := s.heap.size)
  generalize hAe : va_A (wM g k L r) s.heap.size = A at hD ⊢
  have hA : ∀ q : Nat, s.heap.size ≤ q → A q := fun q h => by rw [← hAe]; exact Or.inr h
  have hS : va_S A s.heap s.heap [] := va_S.rf
  have hl := lv_entry ([.ref (g 20), .int (nI d), .int (nI e), .int (nI w), .int (nI i)]) (n := 5) (Nat.le_of_ble_eq_true rfl)
  rw [lg_entry_eq]
  generalize (lg_sl ([.ref (g 20), .int (nI d), .int (nI e), .int (nI w), .int (nI i)]) ++ List.replicate (5 - (lg_sl ([.ref (g 20), .int (nI d), .int (nI e), .int (nI w), .int (nI i)])).length) Slot.unset).toArray = ls at hl ⊢
  have hl : lv_has ls 5 [(0, .ref (g 20)), (1, .int (nI d)), (2, .int (nI e)), (3, .int (nI w)), (4, .int (nI i))] := hl
  refine lv_aload_n hx hb d_Mod_enters_0 rfl (lv_at hl 0 rfl) ?_
  refine lv_iload_n hx hb d_Mod_enters_1 rfl (lv_at hl 1 rfl) ?_
  refine lv_iconst (v := nI 4) hx hb d_Mod_enters_2 (by decide +kernel) ?_
  refine lv_iload_n hx hb d_Mod_enters_3 rfl (lv_at hl 2 rfl) ?_
  refine gz_imul hx hb d_Mod_enters_4 ?_
  refine lv_iload_n hx hb d_Mod_enters_5 rfl (lv_at hl 3 rfl) ?_
  refine lv_sipush (v := nI 255) hx hb d_Mod_enters_6 (by decide +kernel) ?_
  refine gm_and hx hb d_Mod_enters_9 (by omega) ?_
  refine gz_muV (As := [.int (nI d), .int (nI (4 * e)), .int (nI (w % 256))]) (rest := []) (wc := (wM g k L r)) (w1 := (wM g k L (ptR r d (4 * e) (w % 256)))) (wr := []) ⟨hx, hb, hml, hown, hTB⟩ (c_Mod_put l D g k L hL0 hL r hrB d (4 * e) (w % 256) (by omega) (by omega) hX hG (by first | omega | (show _ < bsR (rNd r) _; omega)) (by omega)) (cwV 3 hTB (gd_V k_778 k_780 k_38 k_56 k_781) rfl rfl rfl (by decide +kernel) ⟨Nat.le_of_ble_eq_true rfl, Nat.le_of_ble_eq_true rfl⟩) hK hP hD hA [0, 1, 2, 3, 4, 5, 6, 7, 8, 9, 10] [] rfl rfl (by decide) rfl (by decide) (by decide) 0 rfl rfl rfl hl.1 rfl (Nat.le_of_ble_eq_true rfl) d_Mod_enters_10 ⟨Nat.zero_le _, Nat.zero_le _⟩ hS (fun H locs hP hD hS => ?_)
  have hP : va_P D cl5 (wM g k L (ptR r d (4 * e) (w % 256))) H := hP
  have hD : va_D A (wM g k L (ptR r d (4 * e) (w % 256))) := hD
  have hrB := ptR_B (i := d) (c := 4 * e) (v := w % 256) hrB (by omega)
  refine lv_aload_n hx hb d_Mod_enters_13 rfl (lv_at hl 0 rfl) ?_
  refine lv_iload_n hx hb d_Mod_enters_14 rfl (lv_at hl 1 rfl) ?_
  refine lv_iconst (v := nI 4) hx hb d_Mod_enters_15 (by decide +kernel) ?_
  refine lv_iload_n hx hb d_Mod_enters_16 rfl (lv_at hl 2 rfl) ?_
  refine gz_imul hx hb d_Mod_enters_17 ?_
  refine lv_iconst (v := nI 1) hx hb d_Mod_enters_18 (by decide +kernel) ?_
  refine gz_iadd hx hb d_Mod_enters_19 ?_
  refine lv_iload_n hx hb d_Mod_enters_20 rfl (lv_at hl 3 rfl) ?_
  refine lv_bipush (v := nI 8) hx hb d_Mod_enters_21 (by decide +kernel) ?_
  refine gm_ishr hx hb d_Mod_enters_23 (by omega) (by omega) ?_
  refine gz_muV (As := [.int (nI d), .int (nI ((4 * e) + 1)), .int (nI (w / 2 ^ 8))]) (rest := []) (wc := (wM g k L (ptR r d (4 * e) (w % 256)))) (w1 := (wM g k L (ptR (ptR r d (4 * e) (w % 256)) d ((4 * e) + 1) (w / 2 ^ 8)))) (wr := []) ⟨hx, hb, hml, hown, hTB⟩ (c_Mod_put l D g k L hL0 hL (ptR r d (4 * e) (w % 256)) hrB d ((4 * e) + 1) (w / 2 ^ 8) (by omega) (by omega) hX hG (by first | omega | (show _ < bsR (rNd r) _; omega)) (by omega)) (cwV 3 hTB (gd_V k_778 k_780 k_38 k_56 k_781) rfl rfl rfl (by decide +kernel) ⟨Nat.le_of_ble_eq_true rfl, Nat.le_of_ble_eq_true rfl⟩) hK hP hD hA [0, 1, 2, 3, 4, 5, 6, 7, 8, 9, 10] [] rfl rfl (by decide) rfl (by decide) (by decide) 0 rfl rfl rfl hl.1 rfl (Nat.le_of_ble_eq_true rfl) d_Mod_enters_24 ⟨Nat.zero_le _, Nat.zero_le _⟩ hS (fun H locs hP hD hS => ?_)
  have hP : va_P D cl5 (wM g k L (ptR (ptR r d (4 * e) (w % 256)) d ((4 * e) + 1) (w / 2 ^ 8))) H := hP
  have hD : va_D A (wM g k L (ptR (ptR r d (4 * e) (w % 256)) d ((4 * e) + 1) (w / 2 ^ 8))) := hD
  have hrB := ptR_B (i := d) (c := (4 * e) + 1) (v := w / 2 ^ 8) hrB (by omega)
  refine lv_aload_n hx hb d_Mod_enters_27 rfl (lv_at hl 0 rfl) ?_
  refine lv_iload_n hx hb d_Mod_enters_28 rfl (lv_at hl 1 rfl) ?_
  refine lv_iconst (v := nI 4) hx hb d_Mod_enters_29 (by decide +kernel) ?_
  refine lv_iload_n hx hb d_Mod_enters_30 rfl (lv_at hl 2 rfl) ?_
  refine gz_imul hx hb d_Mod_enters_31 ?_
  refine lv_iconst (v := nI 2) hx hb d_Mod_enters_32 (by decide +kernel) ?_
  refine gz_iadd hx hb d_Mod_enters_33 ?_
  refine lv_iload hx hb d_Mod_enters_34 (lv_at hl 4 rfl) ?_
  refine gz_muV (As := [.int (nI d), .int (nI ((4 * e) + 2)), .int (nI i)]) (rest := []) (wc := (wM g k L (ptR (ptR r d (4 * e) (w % 256)) d ((4 * e) + 1) (w / 2 ^ 8)))) (w1 := (wM g k L (ptR (ptR (ptR r d (4 * e) (w % 256)) d ((4 * e) + 1) (w / 2 ^ 8)) d ((4 * e) + 2) i))) (wr := []) ⟨hx, hb, hml, hown, hTB⟩ (c_Mod_put l D g k L hL0 hL (ptR (ptR r d (4 * e) (w % 256)) d ((4 * e) + 1) (w / 2 ^ 8)) hrB d ((4 * e) + 2) i (by omega) (by omega) hX hG (by first | omega | (show _ < bsR (rNd r) _; omega)) (by omega)) (cwV 3 hTB (gd_V k_778 k_780 k_38 k_56 k_781) rfl rfl rfl (by decide +kernel) ⟨Nat.le_of_ble_eq_true rfl, Nat.le_of_ble_eq_true rfl⟩) hK hP hD hA [0, 1, 2, 3, 4, 5, 6, 7, 8, 9, 10] [] rfl rfl (by decide) rfl (by decide) (by decide) 0 rfl rfl rfl hl.1 rfl (Nat.le_of_ble_eq_true rfl) d_Mod_enters_36 ⟨Nat.zero_le _, Nat.zero_le _⟩ hS (fun H locs hP hD hS => ?_)
  have hP : va_P D cl5 (wM g k L (ptR (ptR (ptR r d (4 * e) (w % 256)) d ((4 * e) + 1) (w / 2 ^ 8)) d ((4 * e) + 2) i)) H := hP
  have hD : va_D A (wM g k L (ptR (ptR (ptR r d (4 * e) (w % 256)) d ((4 * e) + 1) (w / 2 ^ 8)) d ((4 * e) + 2) i)) := hD
  have hrB := ptR_B (i := d) (c := (4 * e) + 2) (v := i) hrB (by omega)
  have hP9 : va_P D cl5 (wM g k L (enR r d e w i)) H := hP
  have hD9 : va_D A (wM g k L (enR r d e w i)) := hD
  exact W.vret hx hb hr (fun tt9 ht9 hW9 => ⟨⟨(), rfl, trivial, ⟨by rw [ht9]; exact hP9, hD9⟩⟩, hS.F ht9⟩) hS.2.2 d_Mod_enters_39
theorem d_Mod_isEmpty_0 : decode b_Mod_isEmpty 0 = .ok (.iconst 1, 1) := by decide +kernel
theorem d_Mod_isEmpty_1 : decode b_Mod_isEmpty 1 = .ok (.istore_n 2, 1) := by decide +kernel
theorem d_Mod_isEmpty_2 : decode b_Mod_isEmpty 2 = .ok (.iconst 0, 1) := by decide +kernel
theorem d_Mod_isEmpty_3 : decode b_Mod_isEmpty 3 = .ok (.istore_n 3, 1) := by decide +kernel
theorem d_Mod_isEmpty_4 : decode b_Mod_isEmpty 4 = .ok (.iload_n 3, 1) := by decide +kernel
theorem d_Mod_isEmpty_5 : decode b_Mod_isEmpty 5 = .ok (.aload_n 0, 1) := by decide +kernel
theorem d_Mod_isEmpty_6 : decode b_Mod_isEmpty 6 = .ok (.iload_n 1, 1) := by decide +kernel
theorem d_Mod_isEmpty_7 : decode b_Mod_isEmpty 7 = .ok (.invokevirtual 94, 3) := by decide +kernel
theorem d_Mod_isEmpty_10 : decode b_Mod_isEmpty 10 = .ok (.iconst 4, 1) := by decide +kernel
theorem d_Mod_isEmpty_11 : decode b_Mod_isEmpty 11 = .ok (.idiv, 1) := by decide +kernel
theorem d_Mod_isEmpty_12 : decode b_Mod_isEmpty 12 = .ok (.if_icmp .ge 28, 3) := by decide +kernel
theorem d_Mod_isEmpty_15 : decode b_Mod_isEmpty 15 = .ok (.iload_n 2, 1) := by decide +kernel
theorem d_Mod_isEmpty_16 : decode b_Mod_isEmpty 16 = .ok (.ifCond .eq 16, 3) := by decide +kernel
theorem d_Mod_isEmpty_19 : decode b_Mod_isEmpty 19 = .ok (.aload_n 0, 1) := by decide +kernel
theorem d_Mod_isEmpty_20 : decode b_Mod_isEmpty 20 = .ok (.iload_n 1, 1) := by decide +kernel
theorem d_Mod_isEmpty_21 : decode b_Mod_isEmpty 21 = .ok (.iload_n 3, 1) := by decide +kernel
theorem d_Mod_isEmpty_22 : decode b_Mod_isEmpty 22 = .ok (.invokevirtual 97, 3) := by decide +kernel
theorem d_Mod_isEmpty_25 : decode b_Mod_isEmpty 25 = .ok (.ifCond .ne 7, 3) := by decide +kernel
theorem d_Mod_isEmpty_28 : decode b_Mod_isEmpty 28 = .ok (.iconst 1, 1) := by decide +kernel
theorem d_Mod_isEmpty_29 : decode b_Mod_isEmpty 29 = .ok (.goto 4, 3) := by decide +kernel
theorem d_Mod_isEmpty_32 : decode b_Mod_isEmpty 32 = .ok (.iconst 0, 1) := by decide +kernel
theorem d_Mod_isEmpty_33 : decode b_Mod_isEmpty 33 = .ok (.istore_n 2, 1) := by decide +kernel
theorem d_Mod_isEmpty_34 : decode b_Mod_isEmpty 34 = .ok (.iinc 3 1, 3) := by decide +kernel
theorem d_Mod_isEmpty_37 : decode b_Mod_isEmpty 37 = .ok (.goto (-33), 3) := by decide +kernel
theorem d_Mod_isEmpty_40 : decode b_Mod_isEmpty 40 = .ok (.iload_n 2, 1) := by decide +kernel
theorem d_Mod_isEmpty_41 : decode b_Mod_isEmpty 41 = .ok (.ireturn, 1) := by decide +kernel
set_option maxHeartbeats 4000000 in
set_option maxRecDepth 100000 in
theorem c_Mod_isEmpty (l : Launch) (D : va_G) (g : Nat → Nat) (k : Nat → ClassId) (L : Nat) (hL0 : 96 ≤ L) (hL : L ≤ 768) (r : RSt) (hrB : rB r) (d : Nat) (hd0 : d < 64) (hX : ∀ i, i < 64 → rNd r (20 * i + 2) ≤ 8) (hG : ∀ i, i < 64 → ∀ t, t < bsR (rNd r) i → bkR (rNd r) i t < 768) (hS0 : ∀ i, i < 64 → rNd r (20 * i + 1) ≤ 64 * bsR (rNd r) i) (hW : ∀ q, rNw r q < 256) : RoI l y_Mod_isEmpty w_Mod_isEmpty ({ frames := 3, cells := 0, slots := 0, locals := 69 }) [.ref (g 20), .int (nI d)] (RoP D cl5 (tyC k) (wM g k L r)) (zI (ieR r d)) := by
  refine Met.ofW (cc := b_Mod_isEmpty) (maxL := 4) (ret := (some .boolean)) (by decide) rfl ?_
  intro p9 e9 s m args9 below9 meth9 c9 s₁ B hml hv
  obtain ⟨rfl, hP, hK⟩ := hv
  have hx := B.exec
  have hb := B.bytes
  have hr := B.returns
  have hts := atoms_spec (ws := w_Mod_isEmpty) B.pre
  have hTB : ∀ w ∈ lw_tb, w.before _ s = true := fun w h => hts w (List.mem_cons_of_mem _ h)
  have hown : s.vm.findClass R_Mod = some m.cls := findClass_of_methodNamed B.named
  have hlocks := B.notSynchronized
  have hS : va_S (fun _ => False) s.heap s.heap [] := va_S.rf
  have hl := lv_entry ([.ref (g 20), .int (nI d)]) (n := 4) (Nat.le_of_ble_eq_true rfl)
  rw [lg_entry_eq]
  generalize (lg_sl ([.ref (g 20), .int (nI d)]) ++ List.replicate (4 - (lg_sl ([.ref (g 20), .int (nI d)])).length) Slot.unset).toArray = ls at hl ⊢
  have hl : lv_has ls 4 [(0, .ref (g 20)), (1, .int (nI d))] := hl
  refine lv_iconst (v := nI 1) hx hb d_Mod_isEmpty_0 (by decide +kernel) ?_
  refine lv_istore_n (lv' := [(2, .int (nI 1)), (0, .ref (g 20)), (1, .int (nI d))]) hx hb d_Mod_isEmpty_1 rfl hl (by decide) rfl (fun ls hl => ?_)
  refine lv_iconst (v := nI 0) hx hb d_Mod_isEmpty_2 (by decide +kernel) ?_
  refine lv_istore_n (lv' := [(3, .int (nI 0)), (2, .int (nI 1)), (0, .ref (g 20)), (1, .int (nI d))]) hx hb d_Mod_isEmpty_3 rfl hl (by decide) rfl (fun ls hl => ?_)
  refine gz_loop 4 (fun (zz : Nat) H locs ls => match zz with | e => va_P D cl5 (wM g k L r) H ∧ va_S (fun _ => False) s.heap H locs ∧ lv_has ls 4 [(0, .ref (g 20)), (1, .int (nI d)), (2, .int (zI (ieG r d e))), (3, .int (nI e))] ∧ (e ≤ rNd r (20 * d + 1) / 4)) (fun (zz : Nat) => match zz with | e => rNd r (20 * d + 1) / 4 - e) (fun zz H locs ls hI ih4 => ?_) (0) ⟨hP, hS, lv_sub hl [2, 3, 1, 0] rfl, (Nat.zero_le _)⟩
  obtain ⟨e, rfl⟩ : ∃ z, z = zz := ⟨_, rfl⟩
  obtain ⟨hP, hS, hl, he1⟩ := hI
  have hsz := (hrB (20 * d + 1)).2.1
  have hsd := hS0 d hd0
  refine lv_iload_n hx hb d_Mod_isEmpty_4 rfl (lv_at hl 3 rfl) ?_
  refine lv_aload_n hx hb d_Mod_isEmpty_5 rfl (lv_at hl 0 rfl) ?_
  refine lv_iload_n hx hb d_Mod_isEmpty_6 rfl (lv_at hl 1 rfl) ?_
  refine gz_roV (As := [.int (nI d)]) (rest := [.int (nI e)]) (wc := (wM g k L r)) ⟨hx, hb, hml, hown, hTB⟩ (c_Mod_sizeOf l D g k L hL0 hL r hrB d (by omega)) (cwV 1 hTB (gd_V k_742 k_744 k_29 k_56 k_745) rfl rfl rfl (by decide +kernel) ⟨Nat.le_of_ble_eq_true rfl, Nat.le_of_ble_eq_true rfl⟩) hK hP [0, 1, 2, 3, 4, 5, 6, 7, 8, 9, 10] rfl 0 rfl rfl rfl hl.1 rfl (Nat.le_of_ble_eq_true rfl) d_Mod_isEmpty_7 ⟨Nat.zero_le _, Nat.zero_le _⟩ hS (fun H locs hP hS => ?_)
  have := (hrB (20 * d + 1)).2.1
  refine lv_iconst (v := nI 4) hx hb d_Mod_isEmpty_10 (by decide +kernel) ?_
  refine gz_idiv hx hb d_Mod_isEmpty_11 (by omega) (by decide) (by decide) ?_
  refine gz_icmp_ge (tgt := 40) hx hb d_Mod_isEmpty_12 (by decide) (by omega) (by omega) (fun h12 => ?_) (fun h12 => ?_)
  · have hee : e = rNd r (20 * d + 1) / 4 := by omega
    refine lv_iload_n hx hb d_Mod_isEmpty_40 rfl (lv_at hl 2 rfl) ?_
    exact W.zret (v := zI (ieG r d e)) (ty := .boolean) hx hb hr (zI_nar _) (fun tt9 ht9 hW9 => ⟨⟨_, (), rfl, (by unfold ieR; rw [← hee]), trivial⟩, hS.F ht9⟩) hS.2.2 d_Mod_isEmpty_41
  · refine lv_iload_n hx hb d_Mod_isEmpty_15 rfl (lv_at hl 2 rfl) ?_
    refine gz_ifz_eq (tgt := 32) hx hb d_Mod_isEmpty_16 (by decide) (fun h16 => ?_) (fun h16 => ?_)
    · refine lv_iconst (v := nI 0) hx hb d_Mod_isEmpty_32 (by decide +kernel) ?_
      refine lv_istore_n (lv' := [(2, .int (nI 0)), (0, .ref (g 20)), (1, .int (nI d)), (3, .int (nI e))]) hx hb d_Mod_isEmpty_33 rfl hl (by decide) rfl (fun ls hl => ?_)
      refine lv_iinc (v := nI (e + 1)) (lv' := [(3, .int (nI (e + 1))), (2, .int (nI 0)), (0, .ref (g 20)), (1, .int (nI d))]) hx hb d_Mod_isEmpty_34 hl (k := 3) rfl (nI_add e 1) (by decide) rfl (fun ls hl => ?_)
      refine lv_goto (tgt := 4) hx hb d_Mod_isEmpty_37 (by decide) ?_
      have hl : lv_has ls 4 [(3, .int (nI (e + 1))), (2, .int (zI (ieG r d (e + 1)))), (0, .ref (g 20)), (1, .int (nI d))] := by rw [ieG, h16]; exact hl
      exact ih4 (e + 1) _ _ _ (by first | omega | (dsimp only; omega)) ⟨hP, hS, lv_sub hl [2, 3, 1, 0] rfl, (by omega)⟩
    · refine lv_aload_n hx hb d_Mod_isEmpty_19 rfl (lv_at hl 0 rfl) ?_
      refine lv_iload_n hx hb d_Mod_isEmpty_20 rfl (lv_at hl 1 rfl) ?_
      refine lv_iload_n hx hb d_Mod_isEmpty_21 rfl (lv_at hl 3 rfl) ?_
      refine gz_roV (As := [.int (nI d), .int (nI e)]) (rest := []) (wc := (wM g k L r)) ⟨hx, hb, hml, hown, hTB⟩ (c_Mod_nameAt l D g k L hL0 hL r hrB d e (by omega) (by omega) hX hG (by omega) hW) (cwV 2 hTB (gd_V k_746 k_748 k_30 k_56 k_749) rfl rfl rfl (by decide +kernel) ⟨Nat.le_of_ble_eq_true rfl, Nat.le_of_ble_eq_true rfl⟩) hK hP [0, 1, 2, 3, 4, 5, 6, 7, 8, 9, 10] rfl 0 rfl rfl rfl hl.1 rfl (Nat.le_of_ble_eq_true rfl) d_Mod_isEmpty_22 ⟨Nat.zero_le _, Nat.zero_le _⟩ hS (fun H locs hP hS => ?_)
      have : nmR r d e < 65536 := by have h8a : gtR r d (4 * e) < 256 := hW _; have h8b : gtR r d (4 * e + 1) < 256 := hW _; unfold nmR; omega
      refine gz_if_ne (tgt := 32) hx hb d_Mod_isEmpty_25 (by decide) (by omega) (fun h25 => ?_) (fun h25 => ?_)
      · refine lv_iconst (v := nI 0) hx hb d_Mod_isEmpty_32 (by decide +kernel) ?_
        refine lv_istore_n (lv' := [(2, .int (nI 0)), (0, .ref (g 20)), (1, .int (nI d)), (3, .int (nI e))]) hx hb d_Mod_isEmpty_33 rfl hl (by decide) rfl (fun ls hl => ?_)
        refine lv_iinc (v := nI (e + 1)) (lv' := [(3, .int (nI (e + 1))), (2, .int (nI 0)), (0, .ref (g 20)), (1, .int (nI d))]) hx hb d_Mod_isEmpty_34 hl (k := 3) rfl (nI_add e 1) (by decide) rfl (fun ls hl => ?_)
        refine lv_goto (tgt := 4) hx hb d_Mod_isEmpty_37 (by decide) ?_
        have hl : lv_has ls 4 [(3, .int (nI (e + 1))), (2, .int (zI (ieG r d (e + 1)))), (0, .ref (g 20)), (1, .int (nI d))] := by rw [ieG, h16, decide_eq_false h25]; exact hl
        exact ih4 (e + 1) _ _ _ (by first | omega | (dsimp only; omega)) ⟨hP, hS, lv_sub hl [2, 3, 1, 0] rfl, (by omega)⟩
      · refine lv_iconst (v := nI 1) hx hb d_Mod_isEmpty_28 (by decide +kernel) ?_
        refine lv_goto (tgt := 33) hx hb d_Mod_isEmpty_29 (by decide) ?_
        refine lv_istore_n (lv' := [(2, .int (nI 1)), (0, .ref (g 20)), (1, .int (nI d)), (3, .int (nI e))]) hx hb d_Mod_isEmpty_33 rfl hl (by decide) rfl (fun ls hl => ?_)
        refine lv_iinc (v := nI (e + 1)) (lv' := [(3, .int (nI (e + 1))), (2, .int (nI 1)), (0, .ref (g 20)), (1, .int (nI d))]) hx hb d_Mod_isEmpty_34 hl (k := 3) rfl (nI_add e 1) (by decide) rfl (fun ls hl => ?_)
        refine lv_goto (tgt := 4) hx hb d_Mod_isEmpty_37 (by decide) ?_
        have hl : lv_has ls 4 [(3, .int (nI (e + 1))), (2, .int (zI (ieG r d (e + 1)))), (0, .ref (g 20)), (1, .int (nI d))] := by rw [ieG, h16, decide_eq_true h25]; exact hl
        exact ih4 (e + 1) _ _ _ (by first | omega | (dsimp only; omega)) ⟨hP, hS, lv_sub hl [2, 3, 1, 0] rfl, (by omega)⟩
theorem d_Mod_badDirectory_0 : decode b_Mod_badDirectory 0 = .ok (.aload_n 0, 1) := by decide +kernel
theorem d_Mod_badDirectory_1 : decode b_Mod_badDirectory 1 = .ok (.iload_n 1, 1) := by decide +kernel
theorem d_Mod_badDirectory_2 : decode b_Mod_badDirectory 2 = .ok (.invokevirtual 111, 3) := by decide +kernel
theorem d_Mod_badDirectory_5 : decode b_Mod_badDirectory 5 = .ok (.ifCond .ne 7, 3) := by decide +kernel
theorem d_Mod_badDirectory_8 : decode b_Mod_badDirectory 8 = .ok (.iconst (-1), 1) := by decide +kernel
theorem d_Mod_badDirectory_9 : decode b_Mod_badDirectory 9 = .ok (.goto 18, 3) := by decide +kernel
theorem d_Mod_badDirectory_12 : decode b_Mod_badDirectory 12 = .ok (.aload_n 0, 1) := by decide +kernel
theorem d_Mod_badDirectory_13 : decode b_Mod_badDirectory 13 = .ok (.iload_n 1, 1) := by decide +kernel
theorem d_Mod_badDirectory_14 : decode b_Mod_badDirectory 14 = .ok (.invokevirtual 111, 3) := by decide +kernel
theorem d_Mod_badDirectory_17 : decode b_Mod_badDirectory 17 = .ok (.iconst 1, 1) := by decide +kernel
theorem d_Mod_badDirectory_18 : decode b_Mod_badDirectory 18 = .ok (.if_icmp .ne 8, 3) := by decide +kernel
theorem d_Mod_badDirectory_21 : decode b_Mod_badDirectory 21 = .ok (.bipush (-5), 2) := by decide +kernel
theorem d_Mod_badDirectory_23 : decode b_Mod_badDirectory 23 = .ok (.goto 4, 3) := by decide +kernel
theorem d_Mod_badDirectory_26 : decode b_Mod_badDirectory 26 = .ok (.iconst 0, 1) := by decide +kernel
theorem d_Mod_badDirectory_27 : decode b_Mod_badDirectory 27 = .ok (.ireturn, 1) := by decide +kernel
set_option maxHeartbeats 4000000 in
set_option maxRecDepth 100000 in
theorem c_Mod_badDirectory (l : Launch) (D : va_G) (g : Nat → Nat) (k : Nat → ClassId) (L : Nat) (hL0 : 96 ≤ L) (hL : L ≤ 768) (r : RSt) (hrB : rB r) (i : Nat) (hi0 : i < 64) : RoI l y_Mod_badDirectory w_Mod_badDirectory ({ frames := 1, cells := 0, slots := 0, locals := 21 }) [.ref (g 20), .int (nI i)] (RoP D cl5 (tyC k) (wM g k L r)) (bdR r i) := by
  refine Met.ofW (cc := b_Mod_badDirectory) (maxL := 2) (ret := (some .int)) (by decide) rfl ?_
  intro p9 e9 s m args9 below9 meth9 c9 s₁ B hml hv
  obtain ⟨rfl, hP, hK⟩ := hv
  have hx := B.exec
  have hb := B.bytes
  have hr := B.returns
  have hts := atoms_spec (ws := w_Mod_badDirectory) B.pre
  have hTB : ∀ w ∈ lw_tb, w.before _ s = true := fun w h => hts w (List.mem_cons_of_mem _ h)
  have hown : s.vm.findClass R_Mod = some m.cls := findClass_of_methodNamed B.named
  have hlocks := B.notSynchronized
  have hS : va_S (fun _ => False) s.heap s.heap [] := va_S.rf
  have hl := lv_entry ([.ref (g 20), .int (nI i)]) (n := 2) (Nat.le_of_ble_eq_true rfl)
  rw [lg_entry_eq]
  generalize (lg_sl ([.ref (g 20), .int (nI i)]) ++ List.replicate (2 - (lg_sl ([.ref (g 20), .int (nI i)])).length) Slot.unset).toArray = ls at hl ⊢
  have hl : lv_has ls 2 [(0, .ref (g 20)), (1, .int (nI i))] := hl
  refine lv_aload_n hx hb d_Mod_badDirectory_0 rfl (lv_at hl 0 rfl) ?_
  refine lv_iload_n hx hb d_Mod_badDirectory_1 rfl (lv_at hl 1 rfl) ?_
  refine gz_roV (As := [.int (nI i)]) (rest := []) (wc := (wM g k L r)) ⟨hx, hb, hml, hown, hTB⟩ (c_Mod_kind l D g k L hL0 hL r hrB i (by omega)) (cwV 1 hTB (gd_V k_734 k_736 k_27 k_56 k_737) rfl rfl rfl (by decide +kernel) ⟨Nat.le_of_ble_eq_true rfl, Nat.le_of_ble_eq_true rfl⟩) hK hP [0, 1, 2, 3, 4, 5, 6, 7, 8, 9, 10] rfl 0 rfl rfl rfl hl.1 rfl (Nat.le_of_ble_eq_true rfl) d_Mod_badDirectory_2 ⟨Nat.zero_le _, Nat.zero_le _⟩ hS (fun H locs hP hS => ?_)
  have := (hrB (20 * i)).2.1
  refine gz_if_ne (tgt := 12) hx hb d_Mod_badDirectory_5 (by decide) (by omega) (fun h5 => ?_) (fun h5 => ?_)
  · refine lv_aload_n hx hb d_Mod_badDirectory_12 rfl (lv_at hl 0 rfl) ?_
    refine lv_iload_n hx hb d_Mod_badDirectory_13 rfl (lv_at hl 1 rfl) ?_
    refine gz_roV (As := [.int (nI i)]) (rest := []) (wc := (wM g k L r)) ⟨hx, hb, hml, hown, hTB⟩ (c_Mod_kind l D g k L hL0 hL r hrB i (by omega)) (cwV 1 hTB (gd_V k_734 k_736 k_27 k_56 k_737) rfl rfl rfl (by decide +kernel) ⟨Nat.le_of_ble_eq_true rfl, Nat.le_of_ble_eq_true rfl⟩) hK hP [0, 1, 2, 3, 4, 5, 6, 7, 8, 9, 10] rfl 0 rfl rfl rfl hl.1 rfl (Nat.le_of_ble_eq_true rfl) d_Mod_badDirectory_14 ⟨Nat.zero_le _, Nat.zero_le _⟩ hS (fun H locs hP hS => ?_)
    have := (hrB (20 * i)).2.1
    refine lv_iconst (v := nI 1) hx hb d_Mod_badDirectory_17 (by decide +kernel) ?_
    refine gz_icmp_ne (tgt := 26) hx hb d_Mod_badDirectory_18 (by decide) (by omega) (by omega) (fun h18 => ?_) (fun h18 => ?_)
    · refine lv_iconst (v := nI 0) hx hb d_Mod_badDirectory_26 (by decide +kernel) ?_
      exact W.iret (v := nI 0) hx hb hr (fun tt9 ht9 hW9 => ⟨⟨_, (), rfl, (by unfold bdR; rw [if_neg h5, if_neg h18]), trivial⟩, hS.F ht9⟩) hS.2.2 d_Mod_badDirectory_27
    · refine lv_bipush (v := (-5)) hx hb d_Mod_badDirectory_21 (by decide +kernel) ?_
      refine lv_goto (tgt := 27) hx hb d_Mod_badDirectory_23 (by decide) ?_
      exact W.iret (v := (-5)) hx hb hr (fun tt9 ht9 hW9 => ⟨⟨_, (), rfl, (by unfold bdR; rw [if_neg h5, if_pos h18]), trivial⟩, hS.F ht9⟩) hS.2.2 d_Mod_badDirectory_27
  · refine lv_iconst (v := (-1)) hx hb d_Mod_badDirectory_8 (by decide +kernel) ?_
    refine lv_goto (tgt := 27) hx hb d_Mod_badDirectory_9 (by decide) ?_
    exact W.iret (v := (-1)) hx hb hr (fun tt9 ht9 hW9 => ⟨⟨_, (), rfl, (by unfold bdR; rw [if_pos h5]), trivial⟩, hS.F ht9⟩) hS.2.2 d_Mod_badDirectory_27
theorem d_Mod_badFile_0 : decode b_Mod_badFile 0 = .ok (.aload_n 0, 1) := by decide +kernel
theorem d_Mod_badFile_1 : decode b_Mod_badFile 1 = .ok (.iload_n 1, 1) := by decide +kernel
theorem d_Mod_badFile_2 : decode b_Mod_badFile 2 = .ok (.invokevirtual 111, 3) := by decide +kernel
theorem d_Mod_badFile_5 : decode b_Mod_badFile 5 = .ok (.ifCond .ne 7, 3) := by decide +kernel
theorem d_Mod_badFile_8 : decode b_Mod_badFile 8 = .ok (.iconst (-1), 1) := by decide +kernel
theorem d_Mod_badFile_9 : decode b_Mod_badFile 9 = .ok (.goto 18, 3) := by decide +kernel
theorem d_Mod_badFile_12 : decode b_Mod_badFile 12 = .ok (.aload_n 0, 1) := by decide +kernel
theorem d_Mod_badFile_13 : decode b_Mod_badFile 13 = .ok (.iload_n 1, 1) := by decide +kernel
theorem d_Mod_badFile_14 : decode b_Mod_badFile 14 = .ok (.invokevirtual 111, 3) := by decide +kernel
theorem d_Mod_badFile_17 : decode b_Mod_badFile 17 = .ok (.iconst 2, 1) := by decide +kernel
theorem d_Mod_badFile_18 : decode b_Mod_badFile 18 = .ok (.if_icmp .ne 8, 3) := by decide +kernel
theorem d_Mod_badFile_21 : decode b_Mod_badFile 21 = .ok (.bipush (-5), 2) := by decide +kernel
theorem d_Mod_badFile_23 : decode b_Mod_badFile 23 = .ok (.goto 4, 3) := by decide +kernel
theorem d_Mod_badFile_26 : decode b_Mod_badFile 26 = .ok (.iconst 0, 1) := by decide +kernel
theorem d_Mod_badFile_27 : decode b_Mod_badFile 27 = .ok (.ireturn, 1) := by decide +kernel
set_option maxHeartbeats 4000000 in
set_option maxRecDepth 100000 in
theorem c_Mod_badFile (l : Launch) (D : va_G) (g : Nat → Nat) (k : Nat → ClassId) (L : Nat) (hL0 : 96 ≤ L) (hL : L ≤ 768) (r : RSt) (hrB : rB r) (i : Nat) (hi0 : i < 64) : RoI l y_Mod_badFile w_Mod_badFile ({ frames := 1, cells := 0, slots := 0, locals := 21 }) [.ref (g 20), .int (nI i)] (RoP D cl5 (tyC k) (wM g k L r)) (bfR r i) := by
  refine Met.ofW (cc := b_Mod_badFile) (maxL := 2) (ret := (some .int)) (by decide) rfl ?_
  intro p9 e9 s m args9 below9 meth9 c9 s₁ B hml hv
  obtain ⟨rfl, hP, hK⟩ := hv
  have hx := B.exec
  have hb := B.bytes
  have hr := B.returns
  have hts := atoms_spec (ws := w_Mod_badFile) B.pre
  have hTB : ∀ w ∈ lw_tb, w.before _ s = true := fun w h => hts w (List.mem_cons_of_mem _ h)
  have hown : s.vm.findClass R_Mod = some m.cls := findClass_of_methodNamed B.named
  have hlocks := B.notSynchronized
  have hS : va_S (fun _ => False) s.heap s.heap [] := va_S.rf
  have hl := lv_entry ([.ref (g 20), .int (nI i)]) (n := 2) (Nat.le_of_ble_eq_true rfl)
  rw [lg_entry_eq]
  generalize (lg_sl ([.ref (g 20), .int (nI i)]) ++ List.replicate (2 - (lg_sl ([.ref (g 20), .int (nI i)])).length) Slot.unset).toArray = ls at hl ⊢
  have hl : lv_has ls 2 [(0, .ref (g 20)), (1, .int (nI i))] := hl
  refine lv_aload_n hx hb d_Mod_badFile_0 rfl (lv_at hl 0 rfl) ?_
  refine lv_iload_n hx hb d_Mod_badFile_1 rfl (lv_at hl 1 rfl) ?_
  refine gz_roV (As := [.int (nI i)]) (rest := []) (wc := (wM g k L r)) ⟨hx, hb, hml, hown, hTB⟩ (c_Mod_kind l D g k L hL0 hL r hrB i (by omega)) (cwV 1 hTB (gd_V k_734 k_736 k_27 k_56 k_737) rfl rfl rfl (by decide +kernel) ⟨Nat.le_of_ble_eq_true rfl, Nat.le_of_ble_eq_true rfl⟩) hK hP [0, 1, 2, 3, 4, 5, 6, 7, 8, 9, 10] rfl 0 rfl rfl rfl hl.1 rfl (Nat.le_of_ble_eq_true rfl) d_Mod_badFile_2 ⟨Nat.zero_le _, Nat.zero_le _⟩ hS (fun H locs hP hS => ?_)
  have := (hrB (20 * i)).2.1
  refine gz_if_ne (tgt := 12) hx hb d_Mod_badFile_5 (by decide) (by omega) (fun h5 => ?_) (fun h5 => ?_)
  · refine lv_aload_n hx hb d_Mod_badFile_12 rfl (lv_at hl 0 rfl) ?_
    refine lv_iload_n hx hb d_Mod_badFile_13 rfl (lv_at hl 1 rfl) ?_
    refine gz_roV (As := [.int (nI i)]) (rest := []) (wc := (wM g k L r)) ⟨hx, hb, hml, hown, hTB⟩ (c_Mod_kind l D g k L hL0 hL r hrB i (by omega)) (cwV 1 hTB (gd_V k_734 k_736 k_27 k_56 k_737) rfl rfl rfl (by decide +kernel) ⟨Nat.le_of_ble_eq_true rfl, Nat.le_of_ble_eq_true rfl⟩) hK hP [0, 1, 2, 3, 4, 5, 6, 7, 8, 9, 10] rfl 0 rfl rfl rfl hl.1 rfl (Nat.le_of_ble_eq_true rfl) d_Mod_badFile_14 ⟨Nat.zero_le _, Nat.zero_le _⟩ hS (fun H locs hP hS => ?_)
    have := (hrB (20 * i)).2.1
    refine lv_iconst (v := nI 2) hx hb d_Mod_badFile_17 (by decide +kernel) ?_
    refine gz_icmp_ne (tgt := 26) hx hb d_Mod_badFile_18 (by decide) (by omega) (by omega) (fun h18 => ?_) (fun h18 => ?_)
    · refine lv_iconst (v := nI 0) hx hb d_Mod_badFile_26 (by decide +kernel) ?_
      exact W.iret (v := nI 0) hx hb hr (fun tt9 ht9 hW9 => ⟨⟨_, (), rfl, (by unfold bfR; rw [if_neg h5, if_neg h18]), trivial⟩, hS.F ht9⟩) hS.2.2 d_Mod_badFile_27
    · refine lv_bipush (v := (-5)) hx hb d_Mod_badFile_21 (by decide +kernel) ?_
      refine lv_goto (tgt := 27) hx hb d_Mod_badFile_23 (by decide) ?_
      exact W.iret (v := (-5)) hx hb hr (fun tt9 ht9 hW9 => ⟨⟨_, (), rfl, (by unfold bfR; rw [if_neg h5, if_pos h18]), trivial⟩, hS.F ht9⟩) hS.2.2 d_Mod_badFile_27
  · refine lv_iconst (v := (-1)) hx hb d_Mod_badFile_8 (by decide +kernel) ?_
    refine lv_goto (tgt := 27) hx hb d_Mod_badFile_9 (by decide) ?_
    exact W.iret (v := (-1)) hx hb hr (fun tt9 ht9 hW9 => ⟨⟨_, (), rfl, (by unfold bfR; rw [if_pos h5]), trivial⟩, hS.F ht9⟩) hS.2.2 d_Mod_badFile_27
