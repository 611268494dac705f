theorem d_Mod_adds_0 : decode b_Mod_adds 0 = .ok (.aload_n 0, 1) := by decide +kernel
theorem d_Mod_adds_1 : decode b_Mod_adds 1 = .ok (.iload_n 1, 1) := by decide +kernel
theorem d_Mod_adds_2 : decode b_Mod_adds 2 = .ok (.iconst 0, 1) := by decide +kernel
theorem d_Mod_adds_3 : decode b_Mod_adds 3 = .ok (.invokevirtual 100, 3) := by decide +kernel
theorem d_Mod_adds_6 : decode b_Mod_adds 6 = .ok (.istore 4, 2) := by decide +kernel
theorem d_Mod_adds_8 : decode b_Mod_adds 8 = .ok (.iload 4, 2) := by decide +kernel
theorem d_Mod_adds_10 : decode b_Mod_adds 10 = .ok (.ifCond .ge 30, 3) := by decide +kernel
theorem d_Mod_adds_13 : decode b_Mod_adds 13 = .ok (.aload_n 0, 1) := by decide +kernel
theorem d_Mod_adds_14 : decode b_Mod_adds 14 = .ok (.iload_n 1, 1) := by decide +kernel
theorem d_Mod_adds_15 : decode b_Mod_adds 15 = .ok (.invokevirtual 94, 3) := by decide +kernel
theorem d_Mod_adds_18 : decode b_Mod_adds 18 = .ok (.iconst 4, 1) := by decide +kernel
theorem d_Mod_adds_19 : decode b_Mod_adds 19 = .ok (.idiv, 1) := by decide +kernel
theorem d_Mod_adds_20 : decode b_Mod_adds 20 = .ok (.istore 4, 2) := by decide +kernel
theorem d_Mod_adds_22 : decode b_Mod_adds 22 = .ok (.aload_n 0, 1) := by decide +kernel
theorem d_Mod_adds_23 : decode b_Mod_adds 23 = .ok (.iload_n 1, 1) := by decide +kernel
theorem d_Mod_adds_24 : decode b_Mod_adds 24 = .ok (.aload_n 0, 1) := by decide +kernel
theorem d_Mod_adds_25 : decode b_Mod_adds 25 = .ok (.iload_n 1, 1) := by decide +kernel
theorem d_Mod_adds_26 : decode b_Mod_adds 26 = .ok (.invokevirtual 94, 3) := by decide +kernel
theorem d_Mod_adds_29 : decode b_Mod_adds 29 = .ok (.bipush 64, 2) := by decide +kernel
theorem d_Mod_adds_31 : decode b_Mod_adds 31 = .ok (.iadd, 1) := by decide +kernel
theorem d_Mod_adds_32 : decode b_Mod_adds 32 = .ok (.invokevirtual 103, 3) := by decide +kernel
theorem d_Mod_adds_35 : decode b_Mod_adds 35 = .ok (.ifCond .ne 5, 3) := by decide +kernel
theorem d_Mod_adds_38 : decode b_Mod_adds 38 = .ok (.iconst 0, 1) := by decide +kernel
theorem d_Mod_adds_39 : decode b_Mod_adds 39 = .ok (.ireturn, 1) := by decide +kernel
theorem d_Mod_adds_40 : decode b_Mod_adds 40 = .ok (.aload_n 0, 1) := by decide +kernel
theorem d_Mod_adds_41 : decode b_Mod_adds 41 = .ok (.iload_n 1, 1) := by decide +kernel
theorem d_Mod_adds_42 : decode b_Mod_adds 42 = .ok (.iload 4, 2) := by decide +kernel
theorem d_Mod_adds_44 : decode b_Mod_adds 44 = .ok (.iload_n 2, 1) := by decide +kernel
theorem d_Mod_adds_45 : decode b_Mod_adds 45 = .ok (.iload_n 3, 1) := by decide +kernel
theorem d_Mod_adds_46 : decode b_Mod_adds 46 = .ok (.invokevirtual 107, 3) := by decide +kernel
theorem d_Mod_adds_49 : decode b_Mod_adds 49 = .ok (.iconst 1, 1) := by decide +kernel
theorem d_Mod_adds_50 : decode b_Mod_adds 50 = .ok (.ireturn, 1) := by decide +kernel
set_option maxHeartbeats 4000000 in
set_option maxRecDepth 100000 in
theorem c_Mod_adds (l : Launch) (D : va_G) (g : Nat → Nat) (k : Nat → ClassId) (L : Nat) (hL0 : 96 ≤ L) (hL : L ≤ 768) (r : RSt) (hrB : rB r) (d w i : Nat) (hd0 : d < 64) (hw0 : w < 65536) (hi0 : i < 65536) (hs0 : rNd r (20 * d + 1) < 65000) (hok : okR L r) : MuI l y_Mod_adds w_Mod_adds ({ frames := 4, cells := 0, slots := 0, locals := 92 }) [.ref (g 20), .int (nI d), .int (nI w), .int (nI i)] D cl5 (tyC k) (wM g k L r) (wM g k L ((adR L r d w i).2)) (zI (adR L r d w i).1) := by
  intro sz
  refine Met.ofW (cc := b_Mod_adds) (maxL := 5) (ret := (some .boolean)) (by decide) rfl ?_
  intro p9 e9 s m args9 below9 meth9 c9 s₁ B hml hv
  obtain ⟨rfl, hsz, hP, hK, hD0⟩ := hv
  have hx := B.exec
  have hb := B.bytes
  have hr := B.returns
  have hts := atoms_spec (ws := w_Mod_adds) B.pre
  have hTB : ∀ w ∈ lw_tb, w.before _ s = true := fun w h => hts w (List.mem_cons_of_mem _ h)
  have hown : s.vm.findClass R_Mod = some m.cls := findClass_of_methodNamed B.named
  have hlocks := B.notSynchronized
  subst hsz
  have hD := hD0.self (sz := s.heap.size)
  generalize hAe : va_A (wM g k L r) s.heap.size = A at hD ⊢
  have hA : ∀ q : Nat, s.heap.size ≤ q → A q := fun q h => by rw [← hAe]; exact Or.inr h
  have hS : va_S A s.heap s.heap [] := va_S.rf
  have hl := lv_entry ([.ref (g 20), .int (nI d), .int (nI w), .int (nI i)]) (n := 5) (Nat.le_of_ble_eq_true rfl)
  rw [lg_entry_eq]
  generalize (lg_sl ([.ref (g 20), .int (nI d), .int (nI w), .int (nI i)]) ++ List.replicate (5 - (lg_sl ([.ref (g 20), .int (nI d), .int (nI w), .int (nI i)])).length) Slot.unset).toArray = ls at hl ⊢
  have hl : lv_has ls 5 [(0, .ref (g 20)), (1, .int (nI d)), (2, .int (nI w)), (3, .int (nI i))] := hl
  obtain ⟨hwf, hS0, hW⟩ := id hok
  have hX := wf_X hwf
  have hG := wf_G hwf hL
  have hsb := (hrB (20 * d + 1)).2.1
  refine lv_aload_n hx hb d_Mod_adds_0 rfl (lv_at hl 0 rfl) ?_
  refine lv_iload_n hx hb d_Mod_adds_1 rfl (lv_at hl 1 rfl) ?_
  refine lv_iconst (v := nI 0) hx hb d_Mod_adds_2 (by decide +kernel) ?_
  refine gz_roV (As := [.int (nI d), .int (nI 0)]) (rest := []) (wc := (wM g k L r)) ⟨hx, hb, hml, hown, hTB⟩ (c_Mod_entryOf l D g k L hL0 hL r hrB d 0 (by omega) (by omega) hX hG hS0 hW) (cwV 2 hTB (gd_V k_738 k_740 k_28 k_56 k_741) rfl rfl rfl (by decide +kernel) ⟨Nat.le_of_ble_eq_true rfl, Nat.le_of_ble_eq_true rfl⟩) hK hP [0, 1, 2, 3, 4, 5, 6, 7, 8, 9, 10] rfl 0 rfl rfl rfl hl.1 rfl (Nat.le_of_ble_eq_true rfl) d_Mod_adds_3 ⟨Nat.zero_le _, Nat.zero_le _⟩ hS (fun H locs hP hS => ?_)
  refine lv_istore (lv' := [(4, .int (eoR r d 0)), (0, .ref (g 20)), (1, .int (nI d)), (2, .int (nI w)), (3, .int (nI i))]) hx hb d_Mod_adds_6 hl (by decide) rfl (fun ls hl => ?_)
  refine lv_iload hx hb d_Mod_adds_8 (lv_at hl 0 rfl) ?_
  refine lv_if_ge (tgt := 40) hx hb d_Mod_adds_10 (by decide) (fun h10 => ?_) (fun h10 => ?_)
  · obtain ⟨j, hj, ej, -⟩ := eoR_of h10
    have hl : lv_has ls 5 [(4, .int (nI j)), (0, .ref (g 20)), (1, .int (nI d)), (2, .int (nI w)), (3, .int (nI i))] := by rw [← ej]; exact hl
    have hsd := hS0 d hd0
    have hsb := (hrB (20 * d + 1)).2.1
    refine lv_aload_n hx hb d_Mod_adds_40 rfl (lv_at hl 1 rfl) ?_
    refine lv_iload_n hx hb d_Mod_adds_41 rfl (lv_at hl 2 rfl) ?_
    refine lv_iload hx hb d_Mod_adds_42 (lv_at hl 0 rfl) ?_
    refine lv_iload_n hx hb d_Mod_adds_44 rfl (lv_at hl 3 rfl) ?_
    refine lv_iload_n hx hb d_Mod_adds_45 rfl (lv_at hl 4 rfl) ?_
    refine gz_muV (As := [.int (nI d), .int (nI j), .int (nI w), .int (nI i)]) (rest := []) (wc := (wM g k L r)) (w1 := (wM g k L (enR r d j w i))) (wr := []) ⟨hx, hb, hml, hown, hTB⟩ (c_Mod_enters l D g k L hL0 hL r hrB d j w i (by omega) (by omega) hX hG (by omega) (by omega) (by omega)) (cwV 4 hTB (gd_V k_782 k_784 k_39 k_56 k_785) rfl rfl rfl (by decide +kernel) ⟨Nat.le_of_ble_eq_true rfl, Nat.le_of_ble_eq_true rfl⟩) hK hP hD hA [0, 1, 2, 3, 4, 5, 6, 7, 8, 9, 10] [] rfl rfl (by decide) rfl (by decide) (by decide) 0 rfl rfl rfl hl.1 rfl (Nat.le_of_ble_eq_true rfl) d_Mod_adds_46 ⟨Nat.zero_le _, Nat.zero_le _⟩ hS (fun H locs hP hD hS => ?_)
    have hP : va_P D cl5 (wM g k L (enR r d j w i)) H := hP
    have hD : va_D A (wM g k L (enR r d j w i)) := hD
    refine lv_iconst (v := nI 1) hx hb d_Mod_adds_49 (by decide +kernel) ?_
    have hP9 : va_P D cl5 (wM g k L ((adR L r d w i).2)) H := (by unfold adR; rw [if_pos h10, ej, nI_clamp (by omega)]; exact hP)
    have hD9 : va_D A (wM g k L ((adR L r d w i).2)) := (by unfold adR; rw [if_pos h10, ej, nI_clamp (by omega)]; exact hD)
    exact W.zret (v := nI 1) (ty := .boolean) hx hb hr (by decide +kernel) (fun tt9 ht9 hW9 => ⟨⟨_, (), rfl, (by unfold adR; rw [if_pos h10, ej, nI_clamp (by omega)]; rfl), ⟨by rw [ht9]; exact hP9, hD9⟩⟩, hS.F ht9⟩) hS.2.2 d_Mod_adds_50
  · refine lv_aload_n hx hb d_Mod_adds_13 rfl (lv_at hl 1 rfl) ?_
    refine lv_iload_n hx hb d_Mod_adds_14 rfl (lv_at hl 2 rfl) ?_
    refine gz_roV (As := [.int (nI d)]) (rest := []) (wc := (wM g k L r)) ⟨hx, hb, hml, hown, hTB⟩ (c_Mod_sizeOf l D g k L hL0 hL r hrB d (by omega)) (cwV 1 hTB (gd_V k_742 k_744 k_29 k_56 k_745) rfl rfl rfl (by decide +kernel) ⟨Nat.le_of_ble_eq_true rfl, Nat.le_of_ble_eq_true rfl⟩) hK hP [0, 1, 2, 3, 4, 5, 6, 7, 8, 9, 10] rfl 0 rfl rfl rfl hl.1 rfl (Nat.le_of_ble_eq_true rfl) d_Mod_adds_15 ⟨Nat.zero_le _, Nat.zero_le _⟩ hS (fun H locs hP hS => ?_)
    have := (hrB (20 * d + 1)).2.1
    refine lv_iconst (v := nI 4) hx hb d_Mod_adds_18 (by decide +kernel) ?_
    refine gz_idiv hx hb d_Mod_adds_19 (by omega) (by decide) (by decide) ?_
    refine lv_istore (lv' := [(4, .int (nI ((rNd r (20 * d + 1)) / 4))), (0, .ref (g 20)), (1, .int (nI d)), (2, .int (nI w)), (3, .int (nI i))]) hx hb d_Mod_adds_20 hl (by decide) rfl (fun ls hl => ?_)
    refine lv_aload_n hx hb d_Mod_adds_22 rfl (lv_at hl 1 rfl) ?_
    refine lv_iload_n hx hb d_Mod_adds_23 rfl (lv_at hl 2 rfl) ?_
    refine lv_aload_n hx hb d_Mod_adds_24 rfl (lv_at hl 1 rfl) ?_
    refine lv_iload_n hx hb d_Mod_adds_25 rfl (lv_at hl 2 rfl) ?_
    refine gz_roV (As := [.int (nI d)]) (rest := [.int (nI d), .ref (g 20)]) (wc := (wM g k L r)) ⟨hx, hb, hml, hown, hTB⟩ (c_Mod_sizeOf l D g k L hL0 hL r hrB d (by omega)) (cwV 1 hTB (gd_V k_742 k_744 k_29 k_56 k_745) rfl rfl rfl (by decide +kernel) ⟨Nat.le_of_ble_eq_true rfl, Nat.le_of_ble_eq_true rfl⟩) hK hP [0, 1, 2, 3, 4, 5, 6, 7, 8, 9, 10] rfl 0 rfl rfl rfl hl.1 rfl (Nat.le_of_ble_eq_true rfl) d_Mod_adds_26 ⟨Nat.zero_le _, Nat.zero_le _⟩ hS (fun H locs hP hS => ?_)
    have := (hrB (20 * d + 1)).2.1
    refine lv_bipush (v := nI 64) hx hb d_Mod_adds_29 (by decide +kernel) ?_
    refine gz_iadd hx hb d_Mod_adds_31 ?_
    refine gz_muI (As := [.int (nI d), .int (nI ((rNd r (20 * d + 1)) + 64))]) (rest := []) (wc := (wM g k L r)) (w1 := (wM g k L ((szR L r d ((rNd r (20 * d + 1)) + 64)).2))) (wr := []) ⟨hx, hb, hml, hown, hTB⟩ (c_Mod_sizes l D g k L hL0 hL r hrB d ((rNd r (20 * d + 1)) + 64) (by omega) (by omega) hwf) (cwV 2 hTB (gd_V k_762 k_764 k_34 k_56 k_765) rfl rfl rfl (by decide +kernel) ⟨Nat.le_of_ble_eq_true rfl, Nat.le_of_ble_eq_true rfl⟩) hK hP hD hA [0, 1, 2, 3, 4, 5, 6, 7, 8, 9, 10] [] rfl rfl (by decide) rfl (by decide) (by decide) 0 rfl rfl rfl hl.1 rfl (Nat.le_of_ble_eq_true rfl) d_Mod_adds_32 ⟨Nat.zero_le _, Nat.zero_le _⟩ hS (fun H locs hP hD hS => ?_)
    have hP : va_P D cl5 (wM g k L ((szR L r d ((rNd r (20 * d + 1)) + 64)).2)) H := hP
    have hD : va_D A (wM g k L ((szR L r d ((rNd r (20 * d + 1)) + 64)).2)) := hD
    refine gz_ifz_ne (tgt := 40) hx hb d_Mod_adds_35 (by decide) (fun h35 => ?_) (fun h35 => ?_)
    · obtain ⟨hwf, hrB, hbs, -⟩ := sz_wf (n := rNd r (20 * d + 1) + 64) hd0 hL (by omega) hwf hrB
      have hbs : bsR (rNd (szR L r d (rNd r (20 * d + 1) + 64)).2) d = (rNd r (20 * d + 1) + 64 + 63) / 64 := hbs h35
      have hX := wf_X hwf
      have hG := wf_G hwf hL
      refine lv_aload_n hx hb d_Mod_adds_40 rfl (lv_at hl 1 rfl) ?_
      refine lv_iload_n hx hb d_Mod_adds_41 rfl (lv_at hl 2 rfl) ?_
      refine lv_iload hx hb d_Mod_adds_42 (lv_at hl 0 rfl) ?_
      refine lv_iload_n hx hb d_Mod_adds_44 rfl (lv_at hl 3 rfl) ?_
      refine lv_iload_n hx hb d_Mod_adds_45 rfl (lv_at hl 4 rfl) ?_
      refine gz_muV (As := [.int (nI d), .int (nI ((rNd r (20 * d + 1)) / 4)), .int (nI w), .int (nI i)]) (rest := []) (wc := (wM g k L ((szR L r d ((rNd r (20 * d + 1)) + 64)).2))) (w1 := (wM g k L (enR ((szR L r d ((rNd r (20 * d + 1)) + 64)).2) d ((rNd r (20 * d + 1)) / 4) w i))) (wr := []) ⟨hx, hb, hml, hown, hTB⟩ (c_Mod_enters l D g k L hL0 hL ((szR L r d ((rNd r (20 * d + 1)) + 64)).2) hrB d ((rNd r (20 * d + 1)) / 4) w i (by omega) (by omega) hX hG (by omega) (by omega) (by omega)) (cwV 4 hTB (gd_V k_782 k_784 k_39 k_56 k_785) rfl rfl rfl (by decide +kernel) ⟨Nat.le_of_ble_eq_true rfl, Nat.le_of_ble_eq_true rfl⟩) hK hP hD hA [0, 1, 2, 3, 4, 5, 6, 7, 8, 9, 10] [] rfl rfl (by decide) rfl (by decide) (by decide) 0 rfl rfl rfl hl.1 rfl (Nat.le_of_ble_eq_true rfl) d_Mod_adds_46 ⟨Nat.zero_le _, Nat.zero_le _⟩ hS (fun H locs hP hD hS => ?_)
      have hP : va_P D cl5 (wM g k L (enR ((szR L r d ((rNd r (20 * d + 1)) + 64)).2) d ((rNd r (20 * d + 1)) / 4) w i)) H := hP
      have hD : va_D A (wM g k L (enR ((szR L r d ((rNd r (20 * d + 1)) + 64)).2) d ((rNd r (20 * d + 1)) / 4) w i)) := hD
      refine lv_iconst (v := nI 1) hx hb d_Mod_adds_49 (by decide +kernel) ?_
      have hP9 : va_P D cl5 (wM g k L ((adR L r d w i).2)) H := (by unfold adR; rw [if_neg h10, if_pos h35]; exact hP)
      have hD9 : va_D A (wM g k L ((adR L r d w i).2)) := (by unfold adR; rw [if_neg h10, if_pos h35]; exact hD)
      exact W.zret (v := nI 1) (ty := .boolean) hx hb hr (by decide +kernel) (fun tt9 ht9 hW9 => ⟨⟨_, (), rfl, (by unfold adR; rw [if_neg h10, if_pos h35]; rfl), ⟨by rw [ht9]; exact hP9, hD9⟩⟩, hS.F ht9⟩) hS.2.2 d_Mod_adds_50
    · refine lv_iconst (v := nI 0) hx hb d_Mod_adds_38 (by decide +kernel) ?_
      have hP9 : va_P D cl5 (wM g k L ((adR L r d w i).2)) H := (by unfold adR; rw [if_neg h10, if_neg (by rw [h35]; decide)]; exact hP)
      have hD9 : va_D A (wM g k L ((adR L r d w i).2)) := (by unfold adR; rw [if_neg h10, if_neg (by rw [h35]; decide)]; exact hD)
      exact W.zret (v := nI 0) (ty := .boolean) hx hb hr (by decide +kernel) (fun tt9 ht9 hW9 => ⟨⟨_, (), rfl, (by unfold adR; rw [if_neg h10, if_neg (by rw [h35]; decide)]; rfl), ⟨by rw [ht9]; exact hP9, hD9⟩⟩, hS.F ht9⟩) hS.2.2 d_Mod_adds_39
theorem d_Mod_makes_0 : decode b_Mod_makes 0 = .ok (.aload_n 0, 1) := by decide +kernel
theorem d_Mod_makes_1 : decode b_Mod_makes 1 = .ok (.iload_n 1, 1) := by decide +kernel
theorem d_Mod_makes_2 : decode b_Mod_makes 2 = .ok (.invokevirtual 117, 3) := by decide +kernel
theorem d_Mod_makes_5 : decode b_Mod_makes 5 = .ok (.ifCond .ge 9, 3) := by decide +kernel
theorem d_Mod_makes_8 : decode b_Mod_makes 8 = .ok (.aload_n 0, 1) := by decide +kernel
theorem d_Mod_makes_9 : decode b_Mod_makes 9 = .ok (.iload_n 1, 1) := by decide +kernel
theorem d_Mod_makes_10 : decode b_Mod_makes 10 = .ok (.invokevirtual 117, 3) := by decide +kernel
theorem d_Mod_makes_13 : decode b_Mod_makes 13 = .ok (.ireturn, 1) := by decide +kernel
theorem d_Mod_makes_14 : decode b_Mod_makes 14 = .ok (.aload_n 0, 1) := by decide +kernel
theorem d_Mod_makes_15 : decode b_Mod_makes 15 = .ok (.iload_n 1, 1) := by decide +kernel
theorem d_Mod_makes_16 : decode b_Mod_makes 16 = .ok (.iload_n 2, 1) := by decide +kernel
theorem d_Mod_makes_17 : decode b_Mod_makes 17 = .ok (.invokevirtual 100, 3) := by decide +kernel
theorem d_Mod_makes_20 : decode b_Mod_makes 20 = .ok (.ifCond .lt 6, 3) := by decide +kernel
theorem d_Mod_makes_23 : decode b_Mod_makes 23 = .ok (.bipush (-2), 2) := by decide +kernel
theorem d_Mod_makes_25 : decode b_Mod_makes 25 = .ok (.ireturn, 1) := by decide +kernel
theorem d_Mod_makes_26 : decode b_Mod_makes 26 = .ok (.iconst 0, 1) := by decide +kernel
theorem d_Mod_makes_27 : decode b_Mod_makes 27 = .ok (.istore 4, 2) := by decide +kernel
theorem d_Mod_makes_29 : decode b_Mod_makes 29 = .ok (.iload 4, 2) := by decide +kernel
theorem d_Mod_makes_31 : decode b_Mod_makes 31 = .ok (.bipush 64, 2) := by decide +kernel
theorem d_Mod_makes_33 : decode b_Mod_makes 33 = .ok (.if_icmp .ge 18, 3) := by decide +kernel
theorem d_Mod_makes_36 : decode b_Mod_makes 36 = .ok (.aload_n 0, 1) := by decide +kernel
theorem d_Mod_makes_37 : decode b_Mod_makes 37 = .ok (.iload 4, 2) := by decide +kernel
theorem d_Mod_makes_39 : decode b_Mod_makes 39 = .ok (.invokevirtual 111, 3) := by decide +kernel
theorem d_Mod_makes_42 : decode b_Mod_makes 42 = .ok (.ifCond .le 9, 3) := by decide +kernel
theorem d_Mod_makes_45 : decode b_Mod_makes 45 = .ok (.iinc 4 1, 3) := by decide +kernel
theorem d_Mod_makes_48 : decode b_Mod_makes 48 = .ok (.goto (-19), 3) := by decide +kernel
theorem d_Mod_makes_51 : decode b_Mod_makes 51 = .ok (.iload 4, 2) := by decide +kernel
theorem d_Mod_makes_53 : decode b_Mod_makes 53 = .ok (.bipush 64, 2) := by decide +kernel
theorem d_Mod_makes_55 : decode b_Mod_makes 55 = .ok (.if_icmp .ne 6, 3) := by decide +kernel
theorem d_Mod_makes_58 : decode b_Mod_makes 58 = .ok (.bipush (-3), 2) := by decide +kernel
theorem d_Mod_makes_60 : decode b_Mod_makes 60 = .ok (.ireturn, 1) := by decide +kernel
theorem d_Mod_makes_61 : decode b_Mod_makes 61 = .ok (.aload_n 0, 1) := by decide +kernel
theorem d_Mod_makes_62 : decode b_Mod_makes 62 = .ok (.getfield 13, 3) := by decide +kernel
theorem d_Mod_makes_65 : decode b_Mod_makes 65 = .ok (.bipush 20, 2) := by decide +kernel
theorem d_Mod_makes_67 : decode b_Mod_makes 67 = .ok (.iload 4, 2) := by decide +kernel
theorem d_Mod_makes_69 : decode b_Mod_makes 69 = .ok (.imul, 1) := by decide +kernel
theorem d_Mod_makes_70 : decode b_Mod_makes 70 = .ok (.iload_n 3, 1) := by decide +kernel
theorem d_Mod_makes_71 : decode b_Mod_makes 71 = .ok (.ifCond .eq 7, 3) := by decide +kernel
theorem d_Mod_makes_74 : decode b_Mod_makes 74 = .ok (.iconst 2, 1) := by decide +kernel
theorem d_Mod_makes_75 : decode b_Mod_makes 75 = .ok (.goto 4, 3) := by decide +kernel
theorem d_Mod_makes_78 : decode b_Mod_makes 78 = .ok (.iconst 1, 1) := by decide +kernel
theorem d_Mod_makes_79 : decode b_Mod_makes 79 = .ok (.iastore, 1) := by decide +kernel
theorem d_Mod_makes_80 : decode b_Mod_makes 80 = .ok (.aload_n 0, 1) := by decide +kernel
theorem d_Mod_makes_81 : decode b_Mod_makes 81 = .ok (.iload_n 1, 1) := by decide +kernel
theorem d_Mod_makes_82 : decode b_Mod_makes 82 = .ok (.iload_n 2, 1) := by decide +kernel
theorem d_Mod_makes_83 : decode b_Mod_makes 83 = .ok (.iload 4, 2) := by decide +kernel
theorem d_Mod_makes_85 : decode b_Mod_makes 85 = .ok (.invokevirtual 120, 3) := by decide +kernel
theorem d_Mod_makes_88 : decode b_Mod_makes 88 = .ok (.ifCond .eq 8, 3) := by decide +kernel
theorem d_Mod_makes_91 : decode b_Mod_makes 91 = .ok (.iload 4, 2) := by decide +kernel
theorem d_Mod_makes_93 : decode b_Mod_makes 93 = .ok (.goto 5, 3) := by decide +kernel
theorem d_Mod_makes_96 : decode b_Mod_makes 96 = .ok (.bipush (-4), 2) := by decide +kernel
theorem d_Mod_makes_98 : decode b_Mod_makes 98 = .ok (.ireturn, 1) := by decide +kernel
set_option maxHeartbeats 4000000 in
set_option maxRecDepth 100000 in
theorem c_Mod_makes (l : Launch) (D : va_G) (g : Nat → Nat) (k : Nat → ClassId) (L : Nat) (hL0 : 96 ≤ L) (hL : L ≤ 768) (r : RSt) (hrB : rB r) (d w : Nat) (b : Bool) (hd0 : d < 64) (hw0 : w < 65536) (hs0 : rNd r (20 * d + 1) < 65000) (hok : okR L r) : MuI l y_Mod_makes w_Mod_makes ({ frames := 5, cells := 0, slots := 0, locals := 116 }) [.ref (g 20), .int (nI d), .int (nI w), .int (zI (b))] D cl5 (tyC k) (wM g k L r) (wM g k L ((mkR L r d w (if b then 2 else 1)).2)) ((mkR L r d w (if b then 2 else 1)).1) := by
  intro sz
  refine Met.ofW (cc := b_Mod_makes) (maxL := 5) (ret := (some .int)) (by decide) rfl ?_
  intro p9 e9 s m args9 below9 meth9 c9 s₁ B hml hv
  obtain ⟨rfl, hsz, hP, hK, hD0⟩ := hv
  have hx := B.exec
  have hb := B.bytes
  have hr := B.returns
  have hts := atoms_spec (ws := w_Mod_makes) B.pre
  have hTB : ∀ w ∈ lw_tb, w.before _ s = true := fun w h => hts w (List.mem_cons_of_mem _ h)
  have hown : s.vm.findClass R_Mod = some m.cls := findClass_of_methodNamed B.named
  have hlocks := B.notSynchronized
  subst hsz
  have hD := hD0.self (sz := s.heap.size)
  generalize hAe : va_A (wM g k L r) s.heap.size = A at hD ⊢
  have hA : ∀ q : Nat, s.heap.size ≤ q → A q := fun q h => by rw [← hAe]; exact Or.inr h
  have hS : va_S A s.heap s.heap [] := va_S.rf
  have hl := lv_entry ([.ref (g 20), .int (nI d), .int (nI w), .int (zI (b))]) (n := 5) (Nat.le_of_ble_eq_true rfl)
  rw [lg_entry_eq]
  generalize (lg_sl ([.ref (g 20), .int (nI d), .int (nI w), .int (zI (b))]) ++ List.replicate (5 - (lg_sl ([.ref (g 20), .int (nI d), .int (nI w), .int (zI (b))])).length) Slot.unset).toArray = ls at hl ⊢
  have hl : lv_has ls 5 [(0, .ref (g 20)), (1, .int (nI d)), (2, .int (nI w)), (3, .int (zI (b)))] := hl
  obtain ⟨hwf, hS0, hW⟩ := id hok
  have hX := wf_X hwf
  have hG := wf_G hwf hL
  refine lv_aload_n hx hb d_Mod_makes_0 rfl (lv_at hl 0 rfl) ?_
  refine lv_iload_n hx hb d_Mod_makes_1 rfl (lv_at hl 1 rfl) ?_
  refine gz_roV (As := [.int (nI d)]) (rest := []) (wc := (wM g k L r)) ⟨hx, hb, hml, hown, hTB⟩ (c_Mod_badDirectory l D g k L hL0 hL r hrB d (by omega)) (cwV 1 hTB (gd_V k_730 k_732 k_26 k_56 k_733) rfl rfl rfl (by decide +kernel) ⟨Nat.le_of_ble_eq_true rfl, Nat.le_of_ble_eq_true rfl⟩) hK hP [0, 1, 2, 3, 4, 5, 6, 7, 8, 9, 10] rfl 0 rfl rfl rfl hl.1 rfl (Nat.le_of_ble_eq_true rfl) d_Mod_makes_2 ⟨Nat.zero_le _, Nat.zero_le _⟩ hS (fun H locs hP hS => ?_)
  refine lv_if_ge (tgt := 14) hx hb d_Mod_makes_5 (by decide) (fun h5 => ?_) (fun h5 => ?_)
  · refine lv_aload_n hx hb d_Mod_makes_14 rfl (lv_at hl 0 rfl) ?_
    refine lv_iload_n hx hb d_Mod_makes_15 rfl (lv_at hl 1 rfl) ?_
    refine lv_iload_n hx hb d_Mod_makes_16 rfl (lv_at hl 2 rfl) ?_
    refine gz_roV (As := [.int (nI d), .int (nI w)]) (rest := []) (wc := (wM g k L r)) ⟨hx, hb, hml, hown, hTB⟩ (c_Mod_entryOf l D g k L hL0 hL r hrB d w (by omega) (by omega) hX hG hS0 hW) (cwV 2 hTB (gd_V k_738 k_740 k_28 k_56 k_741) rfl rfl rfl (by decide +kernel) ⟨Nat.le_of_ble_eq_true rfl, Nat.le_of_ble_eq_true rfl⟩) hK hP [0, 1, 2, 3, 4, 5, 6, 7, 8, 9, 10] rfl 0 rfl rfl rfl hl.1 rfl (Nat.le_of_ble_eq_true rfl) d_Mod_makes_17 ⟨Nat.zero_le _, Nat.zero_le _⟩ hS (fun H locs hP hS => ?_)
    refine lv_if_lt (tgt := 26) hx hb d_Mod_makes_20 (by decide) (fun h20 => ?_) (fun h20 => ?_)
    · refine lv_iconst (v := nI 0) hx hb d_Mod_makes_26 (by decide +kernel) ?_
      refine lv_istore (lv' := [(4, .int (nI 0)), (0, .ref (g 20)), (1, .int (nI d)), (2, .int (nI w)), (3, .int (zI (b)))]) hx hb d_Mod_makes_27 hl (by decide) rfl (fun ls hl => ?_)
      refine gz_loop 29 (fun (zz : Nat) H locs ls => match zz with | i => va_P D cl5 (wM g k L r) H ∧ va_D A (wM g k L r) ∧ va_S A s.heap H locs ∧ lv_has ls 5 [(0, .ref (g 20)), (1, .int (nI d)), (2, .int (nI w)), (3, .int (zI (b))), (4, .int (nI i))] ∧ (i ≤ 64) ∧ (fkG (rNd r) (64 - i) i = fkR (rNd r))) (fun (zz : Nat) => match zz with | i => 64 - i) (fun zz H locs ls hI ih29 => ?_) (0) ⟨hP, hD, hS, lv_sub hl [1, 2, 3, 4, 0] rfl, (Nat.zero_le _), rfl⟩
      obtain ⟨i, rfl⟩ : ∃ z, z = zz := ⟨_, rfl⟩
      obtain ⟨hP, hD, hS, hl, hi1, hi2⟩ := hI
      refine lv_iload hx hb d_Mod_makes_29 (lv_at hl 4 rfl) ?_
      refine lv_bipush (v := nI 64) hx hb d_Mod_makes_31 (by decide +kernel) ?_
      refine gz_icmp_ge (tgt := 51) hx hb d_Mod_makes_33 (by decide) (by omega) (by omega) (fun h33 => ?_) (fun h33 => ?_)
      · have hfk : fkR (rNd r) = i := by rw [← hi2, show 64 - i = 0 by omega]; rfl
        refine lv_iload hx hb d_Mod_makes_51 (lv_at hl 4 rfl) ?_
        refine lv_bipush (v := nI 64) hx hb d_Mod_makes_53 (by decide +kernel) ?_
        refine gz_icmp_ne (tgt := 61) hx hb d_Mod_makes_55 (by decide) (by omega) (by omega) (fun h55 => ?_) (fun h55 => ?_)
        · refine lv_aload_n hx hb d_Mod_makes_61 rfl (lv_at hl 0 rfl) ?_
          refine va_get (D := D) (ci := 4) (v := .ref (g 22)) (C := R_Mod) (T := T_Mod) (N := 14) hx hb hTB in_Mod hown hK hP 0 rfl rfl 4 (by decide) (hTB _ k_648) (fun _ h9 => h9) rfl d_Mod_makes_62 ?_
          refine lv_bipush (v := nI 20) hx hb d_Mod_makes_65 (by decide +kernel) ?_
          refine lv_iload hx hb d_Mod_makes_67 (lv_at hl 4 rfl) ?_
          refine gz_imul hx hb d_Mod_makes_69 ?_
          refine lv_iload_n hx hb d_Mod_makes_70 rfl (lv_at hl 3 rfl) ?_
          refine gz_ifz_eq (tgt := 78) hx hb d_Mod_makes_71 (by decide) (fun h71 => ?_) (fun h71 => ?_)
          · refine lv_iconst (v := nI 1) hx hb d_Mod_makes_78 (by decide +kernel) ?_
            refine gm_ast hx hb hK hP hD hS 2 2 rfl rfl (i := 20 * i) (x := 1) (by omega) (by omega) d_Mod_makes_79 (fun H locs hP hD hS => ?_)
            have hrB := rB_nd (i := 20 * i) (x := 1) hrB (by omega)
            have hP : va_P D cl5 (wM g k L (qNd r (va_up (rNd r) (20 * i) 1))) H := hP
            have hD : va_D A (wM g k L (qNd r (va_up (rNd r) (20 * i) 1))) := hD
            refine lv_aload_n hx hb d_Mod_makes_80 rfl (lv_at hl 0 rfl) ?_
            refine lv_iload_n hx hb d_Mod_makes_81 rfl (lv_at hl 1 rfl) ?_
            refine lv_iload_n hx hb d_Mod_makes_82 rfl (lv_at hl 2 rfl) ?_
            refine lv_iload hx hb d_Mod_makes_83 (lv_at hl 4 rfl) ?_
            have hok : okR L (mk1 r i 1) := ok_up0 hok
            have hs1 : rNd (qNd r (va_up (rNd r) (20 * i) 1)) (20 * d + 1) < 65000 := by rw [show rNd (qNd r (va_up (rNd r) (20 * i) 1)) (20 * d + 1) = rNd r (20 * d + 1) from va_up_ne _ _ (by omega)]; exact hs0
            refine gz_muI (As := [.int (nI d), .int (nI w), .int (nI i)]) (rest := []) (wc := (wM g k L (qNd r (va_up (rNd r) (20 * i) 1)))) (w1 := (wM g k L ((adR L (qNd r (va_up (rNd r) (20 * i) 1)) d w i).2))) (wr := []) ⟨hx, hb, hml, hown, hTB⟩ (c_Mod_adds l D g k L hL0 hL (qNd r (va_up (rNd r) (20 * i) 1)) hrB d w i (by omega) (by omega) (by omega) (by omega) hok) (cwV 3 hTB (gd_V k_758 k_760 k_33 k_56 k_761) rfl rfl rfl (by decide +kernel) ⟨Nat.le_of_ble_eq_true rfl, Nat.le_of_ble_eq_true rfl⟩) hK hP hD hA [0, 1, 2, 3, 4, 5, 6, 7, 8, 9, 10] [] rfl rfl (by decide) rfl (by decide) (by decide) 0 rfl rfl rfl hl.1 rfl (Nat.le_of_ble_eq_true rfl) d_Mod_makes_85 ⟨Nat.zero_le _, Nat.zero_le _⟩ hS (fun H locs hP hD hS => ?_)
            have hP : va_P D cl5 (wM g k L ((adR L (qNd r (va_up (rNd r) (20 * i) 1)) d w i).2)) H := hP
            have hD : va_D A (wM g k L ((adR L (qNd r (va_up (rNd r) (20 * i) 1)) d w i).2)) := hD
            refine gz_ifz_eq (tgt := 96) hx hb d_Mod_makes_88 (by decide) (fun h88 => ?_) (fun h88 => ?_)
            · refine lv_bipush (v := (-4)) hx hb d_Mod_makes_96 (by decide +kernel) ?_
              have hP9 : va_P D cl5 (wM g k L ((mkR L r d w (if b then 2 else 1)).2)) H := (by unfold mkR; rw [if_pos h5, if_pos h20, if_neg (fun z => h55 (hfk.symm.trans z)), hfk, h71]; rw [if_neg (show ¬ (adR L (mk1 r i (if false = true then 2 else 1)) d w i).1 = true from fun z => absurd (h88.symm.trans z) (by decide))]; exact hP)
              have hD9 : va_D A (wM g k L ((mkR L r d w (if b then 2 else 1)).2)) := (by unfold mkR; rw [if_pos h5, if_pos h20, if_neg (fun z => h55 (hfk.symm.trans z)), hfk, h71]; rw [if_neg (show ¬ (adR L (mk1 r i (if false = true then 2 else 1)) d w i).1 = true from fun z => absurd (h88.symm.trans z) (by decide))]; exact hD)
              exact W.iret (v := (-4)) hx hb hr (fun tt9 ht9 hW9 => ⟨⟨_, (), rfl, (by unfold mkR; rw [if_pos h5, if_pos h20, if_neg (fun z => h55 (hfk.symm.trans z)), hfk, h71]; rw [if_neg (show ¬ (adR L (mk1 r i (if false = true then 2 else 1)) d w i).1 = true from fun z => absurd (h88.symm.trans z) (by decide))]), ⟨by rw [ht9]; exact hP9, hD9⟩⟩, hS.F ht9⟩) hS.2.2 d_Mod_makes_98
            · refine lv_iload hx hb d_Mod_makes_91 (lv_at hl 4 rfl) ?_
              refine lv_goto (tgt := 98) hx hb d_Mod_makes_93 (by decide) ?_
              have hP9 : va_P D cl5 (wM g k L ((mkR L r d w (if b then 2 else 1)).2)) H := (by unfold mkR; rw [if_pos h5, if_pos h20, if_neg (fun z => h55 (hfk.symm.trans z)), hfk, h71]; rw [if_pos (show (adR L (mk1 r i (if false = true then 2 else 1)) d w i).1 = true from h88)]; exact hP)
              have hD9 : va_D A (wM g k L ((mkR L r d w (if b then 2 else 1)).2)) := (by unfold mkR; rw [if_pos h5, if_pos h20, if_neg (fun z => h55 (hfk.symm.trans z)), hfk, h71]; rw [if_pos (show (adR L (mk1 r i (if false = true then 2 else 1)) d w i).1 = true from h88)]; exact hD)
              exact W.iret (v := nI i) hx hb hr (fun tt9 ht9 hW9 => ⟨⟨_, (), rfl, (by unfold mkR; rw [if_pos h5, if_pos h20, if_neg (fun z => h55 (hfk.symm.trans z)), hfk, h71]; rw [if_pos (show (adR L (mk1 r i (if false = true then 2 else 1)) d w i).1 = true from h88)]), ⟨by rw [ht9]; exact hP9, hD9⟩⟩, hS.F ht9⟩) hS.2.2 d_Mod_makes_98
          · refine lv_iconst (v := nI 2) hx hb d_Mod_makes_74 (by decide +kernel) ?_
            refine lv_goto (tgt := 79) hx hb d_Mod_makes_75 (by decide) ?_
            refine gm_ast hx hb hK hP hD hS 2 2 rfl rfl (i := 20 * i) (x := 2) (by omega) (by omega) d_Mod_makes_79 (fun H locs hP hD hS => ?_)
            have hrB := rB_nd (i := 20 * i) (x := 2) hrB (by omega)
            have hP : va_P D cl5 (wM g k L (qNd r (va_up (rNd r) (20 * i) 2))) H := hP
            have hD : va_D A (wM g k L (qNd r (va_up (rNd r) (20 * i) 2))) := hD
            refine lv_aload_n hx hb d_Mod_makes_80 rfl (lv_at hl 0 rfl) ?_
            refine lv_iload_n hx hb d_Mod_makes_81 rfl (lv_at hl 1 rfl) ?_
            refine lv_iload_n hx hb d_Mod_makes_82 rfl (lv_at hl 2 rfl) ?_
            refine lv_iload hx hb d_Mod_makes_83 (lv_at hl 4 rfl) ?_
            have hok : okR L (mk1 r i 2) := ok_up0 hok
            have hs1 : rNd (qNd r (va_up (rNd r) (20 * i) 2)) (20 * d + 1) < 65000 := by rw [show rNd (qNd r (va_up (rNd r) (20 * i) 2)) (20 * d + 1) = rNd r (20 * d + 1) from va_up_ne _ _ (by omega)]; exact hs0
            refine gz_muI (As := [.int (nI d), .int (nI w), .int (nI i)]) (rest := []) (wc := (wM g k L (qNd r (va_up (rNd r) (20 * i) 2)))) (w1 := (wM g k L ((adR L (qNd r (va_up (rNd r) (20 * i) 2)) d w i).2))) (wr := []) ⟨hx, hb, hml, hown, hTB⟩ (c_Mod_adds l D g k L hL0 hL (qNd r (va_up (rNd r) (20 * i) 2)) hrB d w i (by omega) (by omega) (by omega) (by omega) hok) (cwV 3 hTB (gd_V k_758 k_760 k_33 k_56 k_761) rfl rfl rfl (by decide +kernel) ⟨Nat.le_of_ble_eq_true rfl, Nat.le_of_ble_eq_true rfl⟩) hK hP hD hA [0, 1, 2, 3, 4, 5, 6, 7, 8, 9, 10] [] rfl rfl (by decide) rfl (by decide) (by decide) 0 rfl rfl rfl hl.1 rfl (Nat.le_of_ble_eq_true rfl) d_Mod_makes_85 ⟨Nat.zero_le _, Nat.zero_le _⟩ hS (fun H locs hP hD hS => ?_)
            have hP : va_P D cl5 (wM g k L ((adR L (qNd r (va_up (rNd r) (20 * i) 2)) d w i).2)) H := hP
            have hD : va_D A (wM g k L ((adR L (qNd r (va_up (rNd r) (20 * i) 2)) d w i).2)) := hD
            refine gz_ifz_eq (tgt := 96) hx hb d_Mod_makes_88 (by decide) (fun h88 => ?_) (fun h88 => ?_)
            · refine lv_bipush (v := (-4)) hx hb d_Mod_makes_96 (by decide +kernel) ?_
              have hP9 : va_P D cl5 (wM g k L ((mkR L r d w (if b then 2 else 1)).2)) H := (by unfold mkR; rw [if_pos h5, if_pos h20, if_neg (fun z => h55 (hfk.symm.trans z)), hfk, h71]; rw [if_neg (show ¬ (adR L (mk1 r i (if true = true then 2 else 1)) d w i).1 = true from fun z => absurd (h88.symm.trans z) (by decide))]; exact hP)
              have hD9 : va_D A (wM g k L ((mkR L r d w (if b then 2 else 1)).2)) := (by unfold mkR; rw [if_pos h5, if_pos h20, if_neg (fun z => h55 (hfk.symm.trans z)), hfk, h71]; rw [if_neg (show ¬ (adR L (mk1 r i (if true = true then 2 else 1)) d w i).1 = true from fun z => absurd (h88.symm.trans z) (by decide))]; exact hD)
              exact W.iret (v := (-4)) hx hb hr (fun tt9 ht9 hW9 => ⟨⟨_, (), rfl, (by unfold mkR; rw [if_pos h5, if_pos h20, if_neg (fun z => h55 (hfk.symm.trans z)), hfk, h71]; rw [if_neg (show ¬ (adR L (mk1 r i (if true = true then 2 else 1)) d w i).1 = true from fun z => absurd (h88.symm.trans z) (by decide))]), ⟨by rw [ht9]; exact hP9, hD9⟩⟩, hS.F ht9⟩) hS.2.2 d_Mod_makes_98
            · refine lv_iload hx hb d_Mod_makes_91 (lv_at hl 4 rfl) ?_
              refine lv_goto (tgt := 98) hx hb d_Mod_makes_93 (by decide) ?_
              have hP9 : va_P D cl5 (wM g k L ((mkR L r d w (if b then 2 else 1)).2)) H := (by unfold mkR; rw [if_pos h5, if_pos h20, if_neg (fun z => h55 (hfk.symm.trans z)), hfk, h71]; rw [if_pos (show (adR L (mk1 r i (if true = true then 2 else 1)) d w i).1 = true from h88)]; exact hP)
              have hD9 : va_D A (wM g k L ((mkR L r d w (if b then 2 else 1)).2)) := (by unfold mkR; rw [if_pos h5, if_pos h20, if_neg (fun z => h55 (hfk.symm.trans z)), hfk, h71]; rw [if_pos (show (adR L (mk1 r i (if true = true then 2 else 1)) d w i).1 = true from h88)]; exact hD)
              exact W.iret (v := nI i) hx hb hr (fun tt9 ht9 hW9 => ⟨⟨_, (), rfl, (by unfold mkR; rw [if_pos h5, if_pos h20, if_neg (fun z => h55 (hfk.symm.trans z)), hfk, h71]; rw [if_pos (show (adR L (mk1 r i (if true = true then 2 else 1)) d w i).1 = true from h88)]), ⟨by rw [ht9]; exact hP9, hD9⟩⟩, hS.F ht9⟩) hS.2.2 d_Mod_makes_98
        · refine lv_bipush (v := (-3)) hx hb d_Mod_makes_58 (by decide +kernel) ?_
          have hP9 : va_P D cl5 (wM g k L ((mkR L r d w (if b then 2 else 1)).2)) H := (by unfold mkR; rw [if_pos h5, if_pos h20, if_pos (hfk.trans h55)]; exact hP)
          have hD9 : va_D A (wM g k L ((mkR L r d w (if b then 2 else 1)).2)) := (by unfold mkR; rw [if_pos h5, if_pos h20, if_pos (hfk.trans h55)]; exact hD)
          exact W.iret (v := (-3)) hx hb hr (fun tt9 ht9 hW9 => ⟨⟨_, (), rfl, (by unfold mkR; rw [if_pos h5, if_pos h20, if_pos (hfk.trans h55)]), ⟨by rw [ht9]; exact hP9, hD9⟩⟩, hS.F ht9⟩) hS.2.2 d_Mod_makes_60
      · refine lv_aload_n hx hb d_Mod_makes_36 rfl (lv_at hl 0 rfl) ?_
        refine lv_iload hx hb d_Mod_makes_37 (lv_at hl 4 rfl) ?_
        refine gz_roV (As := [.int (nI i)]) (rest := []) (wc := (wM g k L r)) ⟨hx, hb, hml, hown, hTB⟩ (c_Mod_kind l D g k L hL0 hL r hrB i (by omega)) (cwV 1 hTB (gd_V k_734 k_736 k_27 k_56 k_737) rfl rfl rfl (by decide +kernel) ⟨Nat.le_of_ble_eq_true rfl, Nat.le_of_ble_eq_true rfl⟩) hK hP [0, 1, 2, 3, 4, 5, 6, 7, 8, 9, 10] rfl 0 rfl rfl rfl hl.1 rfl (Nat.le_of_ble_eq_true rfl) d_Mod_makes_39 ⟨Nat.zero_le _, Nat.zero_le _⟩ hS (fun H locs hP hS => ?_)
        have := (hrB (20 * i)).2.1
        refine gz_if_le (tgt := 51) hx hb d_Mod_makes_42 (by decide) (by omega) (fun h42 => ?_) (fun h42 => ?_)
        · have hfk : fkR (rNd r) = i := by rw [← hi2, show 64 - i = (64 - (i + 1)) + 1 by omega, fkG, if_neg (by omega)]
          refine lv_iload hx hb d_Mod_makes_51 (lv_at hl 4 rfl) ?_
          refine lv_bipush (v := nI 64) hx hb d_Mod_makes_53 (by decide +kernel) ?_
          refine gz_icmp_ne (tgt := 61) hx hb d_Mod_makes_55 (by decide) (by omega) (by omega) (fun h55 => ?_) (fun h55 => ?_)
          · refine lv_aload_n hx hb d_Mod_makes_61 rfl (lv_at hl 0 rfl) ?_
            refine va_get (D := D) (ci := 4) (v := .ref (g 22)) (C := R_Mod) (T := T_Mod) (N := 14) hx hb hTB in_Mod hown hK hP 0 rfl rfl 4 (by decide) (hTB _ k_648) (fun _ h9 => h9) rfl d_Mod_makes_62 ?_
            refine lv_bipush (v := nI 20) hx hb d_Mod_makes_65 (by decide +kernel) ?_
            refine lv_iload hx hb d_Mod_makes_67 (lv_at hl 4 rfl) ?_
            refine gz_imul hx hb d_Mod_makes_69 ?_
            refine lv_iload_n hx hb d_Mod_makes_70 rfl (lv_at hl 3 rfl) ?_
            refine gz_ifz_eq (tgt := 78) hx hb d_Mod_makes_71 (by decide) (fun h71 => ?_) (fun h71 => ?_)
            · refine lv_iconst (v := nI 1) hx hb d_Mod_makes_78 (by decide +kernel) ?_
              refine gm_ast hx hb hK hP hD hS 2 2 rfl rfl (i := 20 * i) (x := 1) (by omega) (by omega) d_Mod_makes_79 (fun H locs hP hD hS => ?_)
              have hrB := rB_nd (i := 20 * i) (x := 1) hrB (by omega)
              have hP : va_P D cl5 (wM g k L (qNd r (va_up (rNd r) (20 * i) 1))) H := hP
              have hD : va_D A (wM g k L (qNd r (va_up (rNd r) (20 * i) 1))) := hD
              refine lv_aload_n hx hb d_Mod_makes_80 rfl (lv_at hl 0 rfl) ?_
              refine lv_iload_n hx hb d_Mod_makes_81 rfl (lv_at hl 1 rfl) ?_
              refine lv_iload_n hx hb d_Mod_makes_82 rfl (lv_at hl 2 rfl) ?_
              refine lv_iload hx hb d_Mod_makes_83 (lv_at hl 4 rfl) ?_
              have hok : okR L (mk1 r i 1) := ok_up0 hok
              have hs1 : rNd (qNd r (va_up (rNd r) (20 * i) 1)) (20 * d + 1) < 65000 := by rw [show rNd (qNd r (va_up (rNd r) (20 * i) 1)) (20 * d + 1) = rNd r (20 * d + 1) from va_up_ne _ _ (by omega)]; exact hs0
              refine gz_muI (As := [.int (nI d), .int (nI w), .int (nI i)]) (rest := []) (wc := (wM g k L (qNd r (va_up (rNd r) (20 * i) 1)))) (w1 := (wM g k L ((adR L (qNd r (va_up (rNd r) (20 * i) 1)) d w i).2))) (wr := []) ⟨hx, hb, hml, hown, hTB⟩ (c_Mod_adds l D g k L hL0 hL (qNd r (va_up (rNd r) (20 * i) 1)) hrB d w i (by omega) (by omega) (by omega) (by omega) hok) (cwV 3 hTB (gd_V k_758 k_760 k_33 k_56 k_761) rfl rfl rfl (by decide +kernel) ⟨Nat.le_of_ble_eq_true rfl, Nat.le_of_ble_eq_true rfl⟩) hK hP hD hA [0, 1, 2, 3, 4, 5, 6, 7, 8, 9, 10] [] rfl rfl (by decide) rfl (by decide) (by decide) 0 rfl rfl rfl hl.1 rfl (Nat.le_of_ble_eq_true rfl) d_Mod_makes_85 ⟨Nat.zero_le _, Nat.zero_le _⟩ hS (fun H locs hP hD hS => ?_)
              have hP : va_P D cl5 (wM g k L ((adR L (qNd r (va_up (rNd r) (20 * i) 1)) d w i).2)) H := hP
              have hD : va_D A (wM g k L ((adR L (qNd r (va_up (rNd r) (20 * i) 1)) d w i).2)) := hD
              refine gz_ifz_eq (tgt := 96) hx hb d_Mod_makes_88 (by decide) (fun h88 => ?_) (fun h88 => ?_)
              · refine lv_bipush (v := (-4)) hx hb d_Mod_makes_96 (by decide +kernel) ?_
                have hP9 : va_P D cl5 (wM g k L ((mkR L r d w (if b then 2 else 1)).2)) H := (by unfold mkR; rw [if_pos h5, if_pos h20, if_neg (fun z => h55 (hfk.symm.trans z)), hfk, h71]; rw [if_neg (show ¬ (adR L (mk1 r i (if false = true then 2 else 1)) d w i).1 = true from fun z => absurd (h88.symm.trans z) (by decide))]; exact hP)
                have hD9 : va_D A (wM g k L ((mkR L r d w (if b then 2 else 1)).2)) := (by unfold mkR; rw [if_pos h5, if_pos h20, if_neg (fun z => h55 (hfk.symm.trans z)), hfk, h71]; rw [if_neg (show ¬ (adR L (mk1 r i (if false = true then 2 else 1)) d w i).1 = true from fun z => absurd (h88.symm.trans z) (by decide))]; exact hD)
                exact W.iret (v := (-4)) hx hb hr (fun tt9 ht9 hW9 => ⟨⟨_, (), rfl, (by unfold mkR; rw [if_pos h5, if_pos h20, if_neg (fun z => h55 (hfk.symm.trans z)), hfk, h71]; rw [if_neg (show ¬ (adR L (mk1 r i (if false = true then 2 else 1)) d w i).1 = true from fun z => absurd (h88.symm.trans z) (by decide))]), ⟨by rw [ht9]; exact hP9, hD9⟩⟩, hS.F ht9⟩) hS.2.2 d_Mod_makes_98
              · refine lv_iload hx hb d_Mod_makes_91 (lv_at hl 4 rfl) ?_
                refine lv_goto (tgt := 98) hx hb d_Mod_makes_93 (by decide) ?_
                have hP9 : va_P D cl5 (wM g k L ((mkR L r d w (if b then 2 else 1)).2)) H := (by unfold mkR; rw [if_pos h5, if_pos h20, if_neg (fun z => h55 (hfk.symm.trans z)), hfk, h71]; rw [if_pos (show (adR L (mk1 r i (if false = true then 2 else 1)) d w i).1 = true from h88)]; exact hP)
                have hD9 : va_D A (wM g k L ((mkR L r d w (if b then 2 else 1)).2)) := (by unfold mkR; rw [if_pos h5, if_pos h20, if_neg (fun z => h55 (hfk.symm.trans z)), hfk, h71]; rw [if_pos (show (adR L (mk1 r i (if false = true then 2 else 1)) d w i).1 = true from h88)]; exact hD)
                exact W.iret (v := nI i) hx hb hr (fun tt9 ht9 hW9 => ⟨⟨_, (), rfl, (by unfold mkR; rw [if_pos h5, if_pos h20, if_neg (fun z => h55 (hfk.symm.trans z)), hfk, h71]; rw [if_pos (show (adR L (mk1 r i (if false = true then 2 else 1)) d w i).1 = true from h88)]), ⟨by rw [ht9]; exact hP9, hD9⟩⟩, hS.F ht9⟩) hS.2.2 d_Mod_makes_98
            · refine lv_iconst (v := nI 2) hx hb d_Mod_makes_74 (by decide +kernel) ?_
              refine lv_goto (tgt := 79) hx hb d_Mod_makes_75 (by decide) ?_
              refine gm_ast hx hb hK hP hD hS 2 2 rfl rfl (i := 20 * i) (x := 2) (by omega) (by omega) d_Mod_makes_79 (fun H locs hP hD hS => ?_)
              have hrB := rB_nd (i := 20 * i) (x := 2) hrB (by omega)
              have hP : va_P D cl5 (wM g k L (qNd r (va_up (rNd r) (20 * i) 2))) H := hP
              have hD : va_D A (wM g k L (qNd r (va_up (rNd r) (20 * i) 2))) := hD
              refine lv_aload_n hx hb d_Mod_makes_80 rfl (lv_at hl 0 rfl) ?_
              refine lv_iload_n hx hb d_Mod_makes_81 rfl (lv_at hl 1 rfl) ?_
              refine lv_iload_n hx hb d_Mod_makes_82 rfl (lv_at hl 2 rfl) ?_
              refine lv_iload hx hb d_Mod_makes_83 (lv_at hl 4 rfl) ?_
              have hok : okR L (mk1 r i 2) := ok_up0 hok
              have hs1 : rNd (qNd r (va_up (rNd r) (20 * i) 2)) (20 * d + 1) < 65000 := by rw [show rNd (qNd r (va_up (rNd r) (20 * i) 2)) (20 * d + 1) = rNd r (20 * d + 1) from va_up_ne _ _ (by omega)]; exact hs0
              refine gz_muI (As := [.int (nI d), .int (nI w), .int (nI i)]) (rest := []) (wc := (wM g k L (qNd r (va_up (rNd r) (20 * i) 2)))) (w1 := (wM g k L ((adR L (qNd r (va_up (rNd r) (20 * i) 2)) d w i).2))) (wr := []) ⟨hx, hb, hml, hown, hTB⟩ (c_Mod_adds l D g k L hL0 hL (qNd r (va_up (rNd r) (20 * i) 2)) hrB d w i (by omega) (by omega) (by omega) (by omega) hok) (cwV 3 hTB (gd_V k_758 k_760 k_33 k_56 k_761) rfl rfl rfl (by decide +kernel) ⟨Nat.le_of_ble_eq_true rfl, Nat.le_of_ble_eq_true rfl⟩) hK hP hD hA [0, 1, 2, 3, 4, 5, 6, 7, 8, 9, 10] [] rfl rfl (by decide) rfl (by decide) (by decide) 0 rfl rfl rfl hl.1 rfl (Nat.le_of_ble_eq_true rfl) d_Mod_makes_85 ⟨Nat.zero_le _, Nat.zero_le _⟩ hS (fun H locs hP hD hS => ?_)
              have hP : va_P D cl5 (wM g k L ((adR L (qNd r (va_up (rNd r) (20 * i) 2)) d w i).2)) H := hP
              have hD : va_D A (wM g k L ((adR L (qNd r (va_up (rNd r) (20 * i) 2)) d w i).2)) := hD
              refine gz_ifz_eq (tgt := 96) hx hb d_Mod_makes_88 (by decide) (fun h88 => ?_) (fun h88 => ?_)
              · refine lv_bipush (v := (-4)) hx hb d_Mod_makes_96 (by decide +kernel) ?_
                have hP9 : va_P D cl5 (wM g k L ((mkR L r d w (if b then 2 else 1)).2)) H := (by unfold mkR; rw [if_pos h5, if_pos h20, if_neg (fun z => h55 (hfk.symm.trans z)), hfk, h71]; rw [if_neg (show ¬ (adR L (mk1 r i (if true = true then 2 else 1)) d w i).1 = true from fun z => absurd (h88.symm.trans z) (by decide))]; exact hP)
                have hD9 : va_D A (wM g k L ((mkR L r d w (if b then 2 else 1)).2)) := (by unfold mkR; rw [if_pos h5, if_pos h20, if_neg (fun z => h55 (hfk.symm.trans z)), hfk, h71]; rw [if_neg (show ¬ (adR L (mk1 r i (if true = true then 2 else 1)) d w i).1 = true from fun z => absurd (h88.symm.trans z) (by decide))]; exact hD)
                exact W.iret (v := (-4)) hx hb hr (fun tt9 ht9 hW9 => ⟨⟨_, (), rfl, (by unfold mkR; rw [if_pos h5, if_pos h20, if_neg (fun z => h55 (hfk.symm.trans z)), hfk, h71]; rw [if_neg (show ¬ (adR L (mk1 r i (if true = true then 2 else 1)) d w i).1 = true from fun z => absurd (h88.symm.trans z) (by decide))]), ⟨by rw [ht9]; exact hP9, hD9⟩⟩, hS.F ht9⟩) hS.2.2 d_Mod_makes_98
              · refine lv_iload hx hb d_Mod_makes_91 (lv_at hl 4 rfl) ?_
                refine lv_goto (tgt := 98) hx hb d_Mod_makes_93 (by decide) ?_
                have hP9 : va_P D cl5 (wM g k L ((mkR L r d w (if b then 2 else 1)).2)) H := (by unfold mkR; rw [if_pos h5, if_pos h20, if_neg (fun z => h55 (hfk.symm.trans z)), hfk, h71]; rw [if_pos (show (adR L (mk1 r i (if true = true then 2 else 1)) d w i).1 = true from h88)]; exact hP)
                have hD9 : va_D A (wM g k L ((mkR L r d w (if b then 2 else 1)).2)) := (by unfold mkR; rw [if_pos h5, if_pos h20, if_neg (fun z => h55 (hfk.symm.trans z)), hfk, h71]; rw [if_pos (show (adR L (mk1 r i (if true = true then 2 else 1)) d w i).1 = true from h88)]; exact hD)
                exact W.iret (v := nI i) hx hb hr (fun tt9 ht9 hW9 => ⟨⟨_, (), rfl, (by unfold mkR; rw [if_pos h5, if_pos h20, if_neg (fun z => h55 (hfk.symm.trans z)), hfk, h71]; rw [if_pos (show (adR L (mk1 r i (if true = true then 2 else 1)) d w i).1 = true from h88)]), ⟨by rw [ht9]; exact hP9, hD9⟩⟩, hS.F ht9⟩) hS.2.2 d_Mod_makes_98
          · refine lv_bipush (v := (-3)) hx hb d_Mod_makes_58 (by decide +kernel) ?_
            have hP9 : va_P D cl5 (wM g k L ((mkR L r d w (if b then 2 else 1)).2)) H := (by unfold mkR; rw [if_pos h5, if_pos h20, if_pos (hfk.trans h55)]; exact hP)
            have hD9 : va_D A (wM g k L ((mkR L r d w (if b then 2 else 1)).2)) := (by unfold mkR; rw [if_pos h5, if_pos h20, if_pos (hfk.trans h55)]; exact hD)
            exact W.iret (v := (-3)) hx hb hr (fun tt9 ht9 hW9 => ⟨⟨_, (), rfl, (by unfold mkR; rw [if_pos h5, if_pos h20, if_pos (hfk.trans h55)]), ⟨by rw [ht9]; exact hP9, hD9⟩⟩, hS.F ht9⟩) hS.2.2 d_Mod_makes_60
        · refine lv_iinc (v := nI (i + 1)) (lv' := [(4, .int (nI (i + 1))), (0, .ref (g 20)), (1, .int (nI d)), (2, .int (nI w)), (3, .int (zI (b)))]) hx hb d_Mod_makes_45 hl (k := 4) rfl (nI_add i 1) (by decide) rfl (fun ls hl => ?_)
          refine lv_goto (tgt := 29) hx hb d_Mod_makes_48 (by decide) ?_
          exact ih29 (i + 1) _ _ _ (by first | omega | (dsimp only; omega)) ⟨hP, hD, hS, lv_sub hl [1, 2, 3, 4, 0] rfl, (by omega), (by rw [← hi2, show 64 - i = (64 - (i + 1)) + 1 by omega, fkG, if_pos h42])⟩
    · refine lv_bipush (v := (-2)) hx hb d_Mod_makes_23 (by decide +kernel) ?_
      have hP9 : va_P D cl5 (wM g k L ((mkR L r d w (if b then 2 else 1)).2)) H := (by unfold mkR; rw [if_pos h5, if_neg h20]; exact hP)
      have hD9 : va_D A (wM g k L ((mkR L r d w (if b then 2 else 1)).2)) := (by unfold mkR; rw [if_pos h5, if_neg h20]; exact hD)
      exact W.iret (v := (-2)) hx hb hr (fun tt9 ht9 hW9 => ⟨⟨_, (), rfl, (by unfold mkR; rw [if_pos h5, if_neg h20]), ⟨by rw [ht9]; exact hP9, hD9⟩⟩, hS.F ht9⟩) hS.2.2 d_Mod_makes_25
  · refine lv_aload_n hx hb d_Mod_makes_8 rfl (lv_at hl 0 rfl) ?_
    refine lv_iload_n hx hb d_Mod_makes_9 rfl (lv_at hl 1 rfl) ?_
    refine gz_roV (As := [.int (nI d)]) (rest := []) (wc := (wM g k L r)) ⟨hx, hb, hml, hown, hTB⟩ (c_Mod_badDirectory l D g k L hL0 hL r hrB d (by omega)) (cwV 1 hTB (gd_V k_730 k_732 k_26 k_56 k_733) rfl rfl rfl (by decide +kernel) ⟨Nat.le_of_ble_eq_true rfl, Nat.le_of_ble_eq_true rfl⟩) hK hP [0, 1, 2, 3, 4, 5, 6, 7, 8, 9, 10] rfl 0 rfl rfl rfl hl.1 rfl (Nat.le_of_ble_eq_true rfl) d_Mod_makes_10 ⟨Nat.zero_le _, Nat.zero_le _⟩ hS (fun H locs hP hS => ?_)
    have hP9 : va_P D cl5 (wM g k L ((mkR L r d w (if b then 2 else 1)).2)) H := (by unfold mkR; rw [if_neg h5]; exact hP)
    have hD9 : va_D A (wM g k L ((mkR L r d w (if b then 2 else 1)).2)) := (by unfold mkR; rw [if_neg h5]; exact hD)
    exact W.iret (v := bdR r d) hx hb hr (fun tt9 ht9 hW9 => ⟨⟨_, (), rfl, (by unfold mkR; rw [if_neg h5]), ⟨by rw [ht9]; exact hP9, hD9⟩⟩, hS.F ht9⟩) hS.2.2 d_Mod_makes_13
theorem d_Mod_writes_0 : decode b_Mod_writes 0 = .ok (.aload_n 0, 1) := by decide +kernel
theorem d_Mod_writes_1 : decode b_Mod_writes 1 = .ok (.iload_n 1, 1) := by decide +kernel
theorem d_Mod_writes_2 : decode b_Mod_writes 2 = .ok (.invokevirtual 124, 3) := by decide +kernel
theorem d_Mod_writes_5 : decode b_Mod_writes 5 = .ok (.ifCond .ge 9, 3) := by decide +kernel
theorem d_Mod_writes_8 : decode b_Mod_writes 8 = .ok (.aload_n 0, 1) := by decide +kernel
theorem d_Mod_writes_9 : decode b_Mod_writes 9 = .ok (.iload_n 1, 1) := by decide +kernel
theorem d_Mod_writes_10 : decode b_Mod_writes 10 = .ok (.invokevirtual 124, 3) := by decide +kernel
theorem d_Mod_writes_13 : decode b_Mod_writes 13 = .ok (.ireturn, 1) := by decide +kernel
theorem d_Mod_writes_14 : decode b_Mod_writes 14 = .ok (.aload_n 0, 1) := by decide +kernel
theorem d_Mod_writes_15 : decode b_Mod_writes 15 = .ok (.iload_n 1, 1) := by decide +kernel
theorem d_Mod_writes_16 : decode b_Mod_writes 16 = .ok (.invokevirtual 94, 3) := by decide +kernel
theorem d_Mod_writes_19 : decode b_Mod_writes 19 = .ok (.istore 4, 2) := by decide +kernel
theorem d_Mod_writes_21 : decode b_Mod_writes 21 = .ok (.iload_n 2, 1) := by decide +kernel
theorem d_Mod_writes_22 : decode b_Mod_writes 22 = .ok (.iconst 0, 1) := by decide +kernel
theorem d_Mod_writes_23 : decode b_Mod_writes 23 = .ok (.iload 4, 2) := by decide +kernel
theorem d_Mod_writes_25 : decode b_Mod_writes 25 = .ok (.invokestatic 127, 3) := by decide +kernel
theorem d_Mod_writes_28 : decode b_Mod_writes 28 = .ok (.ifCond .ne 6, 3) := by decide +kernel
theorem d_Mod_writes_31 : decode b_Mod_writes 31 = .ok (.bipush (-8), 2) := by decide +kernel
theorem d_Mod_writes_33 : decode b_Mod_writes 33 = .ok (.ireturn, 1) := by decide +kernel
theorem d_Mod_writes_34 : decode b_Mod_writes 34 = .ok (.iload_n 2, 1) := by decide +kernel
theorem d_Mod_writes_35 : decode b_Mod_writes 35 = .ok (.iload_n 3, 1) := by decide +kernel
theorem d_Mod_writes_36 : decode b_Mod_writes 36 = .ok (.iadd, 1) := by decide +kernel
theorem d_Mod_writes_37 : decode b_Mod_writes 37 = .ok (.iload 4, 2) := by decide +kernel
theorem d_Mod_writes_39 : decode b_Mod_writes 39 = .ok (.if_icmp .le 17, 3) := by decide +kernel
theorem d_Mod_writes_42 : decode b_Mod_writes 42 = .ok (.aload_n 0, 1) := by decide +kernel
theorem d_Mod_writes_43 : decode b_Mod_writes 43 = .ok (.iload_n 1, 1) := by decide +kernel
theorem d_Mod_writes_44 : decode b_Mod_writes 44 = .ok (.iload_n 2, 1) := by decide +kernel
theorem d_Mod_writes_45 : decode b_Mod_writes 45 = .ok (.iload_n 3, 1) := by decide +kernel
theorem d_Mod_writes_46 : decode b_Mod_writes 46 = .ok (.iadd, 1) := by decide +kernel
theorem d_Mod_writes_47 : decode b_Mod_writes 47 = .ok (.invokevirtual 103, 3) := by decide +kernel
theorem d_Mod_writes_50 : decode b_Mod_writes 50 = .ok (.ifCond .ne 6, 3) := by decide +kernel
theorem d_Mod_writes_53 : decode b_Mod_writes 53 = .ok (.bipush (-4), 2) := by decide +kernel
theorem d_Mod_writes_55 : decode b_Mod_writes 55 = .ok (.ireturn, 1) := by decide +kernel
theorem d_Mod_writes_56 : decode b_Mod_writes 56 = .ok (.iconst 0, 1) := by decide +kernel
theorem d_Mod_writes_57 : decode b_Mod_writes 57 = .ok (.istore 5, 2) := by decide +kernel
theorem d_Mod_writes_59 : decode b_Mod_writes 59 = .ok (.iload 5, 2) := by decide +kernel
theorem d_Mod_writes_61 : decode b_Mod_writes 61 = .ok (.iload_n 3, 1) := by decide +kernel
theorem d_Mod_writes_62 : decode b_Mod_writes 62 = .ok (.if_icmp .ge 25, 3) := by decide +kernel
theorem d_Mod_writes_65 : decode b_Mod_writes 65 = .ok (.aload_n 0, 1) := by decide +kernel
theorem d_Mod_writes_66 : decode b_Mod_writes 66 = .ok (.iload_n 1, 1) := by decide +kernel
theorem d_Mod_writes_67 : decode b_Mod_writes 67 = .ok (.iload_n 2, 1) := by decide +kernel
theorem d_Mod_writes_68 : decode b_Mod_writes 68 = .ok (.iload 5, 2) := by decide +kernel
theorem d_Mod_writes_70 : decode b_Mod_writes 70 = .ok (.iadd, 1) := by decide +kernel
theorem d_Mod_writes_71 : decode b_Mod_writes 71 = .ok (.aload_n 0, 1) := by decide +kernel
theorem d_Mod_writes_72 : decode b_Mod_writes 72 = .ok (.getfield 7, 3) := by decide +kernel
theorem d_Mod_writes_75 : decode b_Mod_writes 75 = .ok (.iload 5, 2) := by decide +kernel
theorem d_Mod_writes_77 : decode b_Mod_writes 77 = .ok (.iaload, 1) := by decide +kernel
theorem d_Mod_writes_78 : decode b_Mod_writes 78 = .ok (.invokevirtual 84, 3) := by decide +kernel
theorem d_Mod_writes_81 : decode b_Mod_writes 81 = .ok (.iinc 5 1, 3) := by decide +kernel
theorem d_Mod_writes_84 : decode b_Mod_writes 84 = .ok (.goto (-25), 3) := by decide +kernel
theorem d_Mod_writes_87 : decode b_Mod_writes 87 = .ok (.aload_n 0, 1) := by decide +kernel
theorem d_Mod_writes_88 : decode b_Mod_writes 88 = .ok (.iload_n 1, 1) := by decide +kernel
theorem d_Mod_writes_89 : decode b_Mod_writes 89 = .ok (.invokevirtual 94, 3) := by decide +kernel
theorem d_Mod_writes_92 : decode b_Mod_writes 92 = .ok (.ireturn, 1) := by decide +kernel
set_option maxHeartbeats 4000000 in
set_option maxRecDepth 100000 in
theorem c_Mod_writes (l : Launch) (D : va_G) (g : Nat → Nat) (k : Nat → ClassId) (L : Nat) (hL0 : 96 ≤ L) (hL : L ≤ 768) (r : RSt) (hrB : rB r) (i : Nat) (x : Int32) (n : Nat) (hi0 : i < 64) (hn0 : n ≤ 512) (hs0 : rNd r (20 * i + 1) < 60000) (hok : okR L r) : MuI l y_Mod_writes w_Mod_writes ({ frames := 3, cells := 0, slots := 0, locals := 73 }) [.ref (g 20), .int (nI i), .int (x), .int (nI n)] D cl5 (tyC k) (wM g k L r) (wM g k L ((wwR L r i x n).2)) ((wwR L r i x n).1) := by
  intro sz
  refine Met.ofW (cc := b_Mod_writes) (maxL := 6) (ret := (some .int)) (by decide) rfl ?_
  intro p9 e9 s m args9 below9 meth9 c9 s₁ B hml hv
  obtain ⟨rfl, hsz, hP, hK, hD0⟩ := hv
  have hx := B.exec
  have hb := B.bytes
  have hr := B.returns
  have hts := atoms_spec (ws := w_Mod_writes) B.pre
  have hTB : ∀ w ∈ lw_tb, w.before _ s = true := fun w h => hts w (List.mem_cons_of_mem _ h)
  have hown : s.vm.findClass R_Mod = some m.cls := findClass_of_methodNamed B.named
  have hlocks := B.notSynchronized
  subst hsz
  have hD := hD0.self (sz := s.heap.size)
  generalize hAe : va_A (wM g k L r) s.heap.size = A at hD ⊢
  have hA : ∀ q : Nat, s.heap.size ≤ q → A q := fun q h => by rw [← hAe]; exact Or.inr h
  have hS : va_S A s.heap s.heap [] := va_S.rf
  have hl := lv_entry ([.ref (g 20), .int (nI i), .int (x), .int (nI n)]) (n := 6) (Nat.le_of_ble_eq_true rfl)
  rw [lg_entry_eq]
  generalize (lg_sl ([.ref (g 20), .int (nI i), .int (x), .int (nI n)]) ++ List.replicate (6 - (lg_sl ([.ref (g 20), .int (nI i), .int (x), .int (nI n)])).length) Slot.unset).toArray = ls at hl ⊢
  have hl : lv_has ls 6 [(0, .ref (g 20)), (1, .int (nI i)), (2, .int (x)), (3, .int (nI n))] := hl
  obtain ⟨hwf, hS0, hW⟩ := id hok
  have hX := wf_X hwf
  have hG := wf_G hwf hL
  refine lv_aload_n hx hb d_Mod_writes_0 rfl (lv_at hl 0 rfl) ?_
  refine lv_iload_n hx hb d_Mod_writes_1 rfl (lv_at hl 1 rfl) ?_
  refine gz_roV (As := [.int (nI i)]) (rest := []) (wc := (wM g k L r)) ⟨hx, hb, hml, hown, hTB⟩ (c_Mod_badFile l D g k L hL0 hL r hrB i (by omega)) (cwV 1 hTB (gd_V k_790 k_792 k_41 k_56 k_793) rfl rfl rfl (by decide +kernel) ⟨Nat.le_of_ble_eq_true rfl, Nat.le_of_ble_eq_true rfl⟩) hK hP [0, 1, 2, 3, 4, 5, 6, 7, 8, 9, 10] rfl 0 rfl rfl rfl hl.1 rfl (Nat.le_of_ble_eq_true rfl) d_Mod_writes_2 ⟨Nat.zero_le _, Nat.zero_le _⟩ hS (fun H locs hP hS => ?_)
  refine lv_if_ge (tgt := 14) hx hb d_Mod_writes_5 (by decide) (fun h5 => ?_) (fun h5 => ?_)
  · refine lv_aload_n hx hb d_Mod_writes_14 rfl (lv_at hl 0 rfl) ?_
    refine lv_iload_n hx hb d_Mod_writes_15 rfl (lv_at hl 1 rfl) ?_
    refine gz_roV (As := [.int (nI i)]) (rest := []) (wc := (wM g k L r)) ⟨hx, hb, hml, hown, hTB⟩ (c_Mod_sizeOf l D g k L hL0 hL r hrB i (by omega)) (cwV 1 hTB (gd_V k_742 k_744 k_29 k_56 k_745) rfl rfl rfl (by decide +kernel) ⟨Nat.le_of_ble_eq_true rfl, Nat.le_of_ble_eq_true rfl⟩) hK hP [0, 1, 2, 3, 4, 5, 6, 7, 8, 9, 10] rfl 0 rfl rfl rfl hl.1 rfl (Nat.le_of_ble_eq_true rfl) d_Mod_writes_16 ⟨Nat.zero_le _, Nat.zero_le _⟩ hS (fun H locs hP hS => ?_)
    have := (hrB (20 * i + 1)).2.1
    refine lv_istore (lv' := [(4, .int (nI (rNd r (20 * i + 1)))), (0, .ref (g 20)), (1, .int (nI i)), (2, .int (x)), (3, .int (nI n))]) hx hb d_Mod_writes_19 hl (by decide) rfl (fun ls hl => ?_)
    refine lv_iload_n hx hb d_Mod_writes_21 rfl (lv_at hl 3 rfl) ?_
    refine lv_iconst (v := nI 0) hx hb d_Mod_writes_22 (by decide +kernel) ?_
    refine lv_iload hx hb d_Mod_writes_23 (lv_at hl 0 rfl) ?_
    refine gz_roS (As := [.int (x), .int (nI 0), .int (nI (rNd r (20 * i + 1)))]) (rest := []) ⟨hx, hb, hml, hown, hTB⟩ (c_Mod_in l x (nI 0) (nI (rNd r (20 * i + 1)))) (cwS 3 hTB (gd_S k_695 k_696 k_56 k_697) rfl rfl rfl (by decide +kernel) ⟨Nat.le_of_ble_eq_true rfl, Nat.le_of_ble_eq_true rfl⟩) hP rfl hl.1 rfl (Nat.le_of_ble_eq_true rfl) d_Mod_writes_25 ⟨Nat.zero_le _, Nat.zero_le _⟩ hS (fun H locs hP hS => ?_)
    refine gz_ifz_ne (tgt := 34) hx hb d_Mod_writes_28 (by decide) (fun h28 => ?_) (fun h28 => ?_)
    · obtain ⟨t, ht, rfl⟩ := inR_of (by omega) h28
      have hsd := hS0 i hi0
      refine lv_iload_n hx hb d_Mod_writes_34 rfl (lv_at hl 3 rfl) ?_
      refine lv_iload_n hx hb d_Mod_writes_35 rfl (lv_at hl 4 rfl) ?_
      refine gz_iadd hx hb d_Mod_writes_36 ?_
      refine lv_iload hx hb d_Mod_writes_37 (lv_at hl 0 rfl) ?_
      refine gz_icmp_le (tgt := 56) hx hb d_Mod_writes_39 (by decide) (by omega) (by omega) (fun h39 => ?_) (fun h39 => ?_)
      · have hz : wzR L r i t n = (true, r) := by unfold wzR; rw [if_neg (by omega)]
        have hwz : wfN (rNd r) L := hwf
        have hbz : t + n ≤ 64 * bsR (rNd r) i := by omega
        refine lv_iconst (v := nI 0) hx hb d_Mod_writes_56 (by decide +kernel) ?_
        refine lv_istore (lv' := [(5, .int (nI 0)), (4, .int (nI (rNd r (20 * i + 1)))), (0, .ref (g 20)), (1, .int (nI i)), (2, .int (nI t)), (3, .int (nI n))]) hx hb d_Mod_writes_57 hl (by decide) rfl (fun ls hl => ?_)
        refine gz_loop 59 (fun (zz : (Nat × RSt)) H locs ls => match zz with | (j, y) => va_P D cl5 (wM g k L y) H ∧ va_D A (wM g k L y) ∧ va_S A s.heap H locs ∧ lv_has ls 6 [(0, .ref (g 20)), (1, .int (nI i)), (2, .int (nI t)), (3, .int (nI n)), (5, .int (nI j))] ∧ (j ≤ n) ∧ (wpG i t (n - j) j y = wpG i t n 0 r) ∧ (rB y) ∧ (rNd y = rNd r)) (fun (zz : (Nat × RSt)) => match zz with | (j, y) => n - j) (fun zz H locs ls hI ih59 => ?_) (0, r) ⟨hP, hD, hS, lv_sub hl [2, 3, 4, 5, 0] rfl, (Nat.zero_le _), rfl, hrB, rfl⟩
        obtain ⟨j, y⟩ := zz
        obtain ⟨hP, hD, hS, hl, hj1, hj2, hrB, hnd⟩ := hI
        have hX : ∀ i, i < 64 → rNd y (20 * i + 2) ≤ 8 := by rw [hnd]; exact wf_X hwz
        have hG : ∀ i, i < 64 → ∀ t, t < bsR (rNd y) i → bkR (rNd y) i t < 768 := by rw [hnd]; exact wf_G hwz hL
        have hby : t + n ≤ 64 * bsR (rNd y) i := by rw [hnd]; exact hbz
        refine lv_iload hx hb d_Mod_writes_59 (lv_at hl 4 rfl) ?_
        refine lv_iload_n hx hb d_Mod_writes_61 rfl (lv_at hl 3 rfl) ?_
        refine gz_icmp_ge (tgt := 87) hx hb d_Mod_writes_62 (by decide) (by omega) (by omega) (fun h62 => ?_) (fun h62 => ?_)
        · rw [show n - j = 0 by omega] at hj2
          have hy : y = _ := hj2
          refine lv_aload_n hx hb d_Mod_writes_87 rfl (lv_at hl 0 rfl) ?_
          refine lv_iload_n hx hb d_Mod_writes_88 rfl (lv_at hl 1 rfl) ?_
          refine gz_roV (As := [.int (nI i)]) (rest := []) (wc := (wM g k L y)) ⟨hx, hb, hml, hown, hTB⟩ (c_Mod_sizeOf l D g k L hL0 hL y hrB i (by omega)) (cwV 1 hTB (gd_V k_742 k_744 k_29 k_56 k_745) rfl rfl rfl (by decide +kernel) ⟨Nat.le_of_ble_eq_true rfl, Nat.le_of_ble_eq_true rfl⟩) hK hP [0, 1, 2, 3, 4, 5, 6, 7, 8, 9, 10] rfl 0 rfl rfl rfl hl.1 rfl (Nat.le_of_ble_eq_true rfl) d_Mod_writes_89 ⟨Nat.zero_le _, Nat.zero_le _⟩ hS (fun H locs hP hS => ?_)
          have := (hrB (20 * i + 1)).2.1
          have hP9 : va_P D cl5 (wM g k L ((wwR L r i (nI t) n).2)) H := (by unfold wwR; rw [if_pos h5, if_pos h28, nI_clamp (by omega)]; unfold wwN; rw [hz]; rw [if_pos rfl, ← hy]; exact hP)
          have hD9 : va_D A (wM g k L ((wwR L r i (nI t) n).2)) := (by unfold wwR; rw [if_pos h5, if_pos h28, nI_clamp (by omega)]; unfold wwN; rw [hz]; rw [if_pos rfl, ← hy]; exact hD)
          exact W.iret (v := nI (rNd y (20 * i + 1))) hx hb hr (fun tt9 ht9 hW9 => ⟨⟨_, (), rfl, (by unfold wwR; rw [if_pos h5, if_pos h28, nI_clamp (by omega)]; unfold wwN; rw [hz]; rw [if_pos rfl, ← hy]), ⟨by rw [ht9]; exact hP9, hD9⟩⟩, hS.F ht9⟩) hS.2.2 d_Mod_writes_92
        · refine lv_aload_n hx hb d_Mod_writes_65 rfl (lv_at hl 0 rfl) ?_
          refine lv_iload_n hx hb d_Mod_writes_66 rfl (lv_at hl 1 rfl) ?_
          refine lv_iload_n hx hb d_Mod_writes_67 rfl (lv_at hl 2 rfl) ?_
          refine lv_iload hx hb d_Mod_writes_68 (lv_at hl 4 rfl) ?_
          refine gz_iadd hx hb d_Mod_writes_70 ?_
          refine lv_aload_n hx hb d_Mod_writes_71 rfl (lv_at hl 0 rfl) ?_
          refine va_get (D := D) (ci := 4) (v := .ref (g 21)) (C := R_Mod) (T := T_Mod) (N := 14) hx hb hTB in_Mod hown hK hP 0 rfl rfl 2 (by decide) (hTB _ k_646) (fun _ h9 => h9) rfl d_Mod_writes_72 ?_
          refine lv_iload hx hb d_Mod_writes_75 (lv_at hl 4 rfl) ?_
          refine gm_ald hx hb hK hP 1 2 rfl rfl (i := j) (by omega) (by omega) d_Mod_writes_77 ?_
          have := (hrB j).1
          refine gz_muV (As := [.int (nI i), .int (nI (t + j)), .int (nI (rTp y j))]) (rest := []) (wc := (wM g k L y)) (w1 := (wM g k L (ptR y i (t + j) (rTp y j)))) (wr := []) ⟨hx, hb, hml, hown, hTB⟩ (c_Mod_put l D g k L hL0 hL y hrB i (t + j) (rTp y j) (by omega) (by omega) hX hG (by first | omega | (show _ < bsR (rNd r) _; omega)) (by omega)) (cwV 3 hTB (gd_V k_778 k_780 k_38 k_56 k_781) rfl rfl rfl (by decide +kernel) ⟨Nat.le_of_ble_eq_true rfl, Nat.le_of_ble_eq_true rfl⟩) hK hP hD hA [0, 1, 2, 3, 4, 5, 6, 7, 8, 9, 10] [] rfl rfl (by decide) rfl (by decide) (by decide) 0 rfl rfl rfl hl.1 rfl (Nat.le_of_ble_eq_true rfl) d_Mod_writes_78 ⟨Nat.zero_le _, Nat.zero_le _⟩ hS (fun H locs hP hD hS => ?_)
          have hP : va_P D cl5 (wM g k L (ptR y i (t + j) (rTp y j))) H := hP
          have hD : va_D A (wM g k L (ptR y i (t + j) (rTp y j))) := hD
          have hrB := ptR_B (i := i) (c := t + j) (v := rTp y j) hrB (by omega)
          refine lv_iinc (v := nI (j + 1)) (lv' := [(5, .int (nI (j + 1))), (0, .ref (g 20)), (1, .int (nI i)), (2, .int (nI t)), (3, .int (nI n))]) hx hb d_Mod_writes_81 hl (k := 4) rfl (nI_add j 1) (by decide) rfl (fun ls hl => ?_)
          refine lv_goto (tgt := 59) hx hb d_Mod_writes_84 (by decide) ?_
          exact ih59 (j + 1, ptR y i (t + j) (rTp y j)) _ _ _ (by first | omega | (dsimp only; omega)) ⟨hP, hD, hS, lv_sub hl [1, 2, 3, 4, 0] rfl, (by omega), (by rw [← hj2, show n - j = (n - (j + 1)) + 1 by omega, wpG]), hrB, hnd⟩
      · have hz : wzR L r i t n = szR L r i (t + n) := by unfold wzR; rw [if_pos h39]
        refine lv_aload_n hx hb d_Mod_writes_42 rfl (lv_at hl 1 rfl) ?_
        refine lv_iload_n hx hb d_Mod_writes_43 rfl (lv_at hl 2 rfl) ?_
        refine lv_iload_n hx hb d_Mod_writes_44 rfl (lv_at hl 3 rfl) ?_
        refine lv_iload_n hx hb d_Mod_writes_45 rfl (lv_at hl 4 rfl) ?_
        refine gz_iadd hx hb d_Mod_writes_46 ?_
        refine gz_muI (As := [.int (nI i), .int (nI (t + n))]) (rest := []) (wc := (wM g k L r)) (w1 := (wM g k L ((szR L r i (t + n)).2))) (wr := []) ⟨hx, hb, hml, hown, hTB⟩ (c_Mod_sizes l D g k L hL0 hL r hrB i (t + n) (by omega) (by omega) hwf) (cwV 2 hTB (gd_V k_762 k_764 k_34 k_56 k_765) rfl rfl rfl (by decide +kernel) ⟨Nat.le_of_ble_eq_true rfl, Nat.le_of_ble_eq_true rfl⟩) hK hP hD hA [0, 1, 2, 3, 4, 5, 6, 7, 8, 9, 10] [] rfl rfl (by decide) rfl (by decide) (by decide) 0 rfl rfl rfl hl.1 rfl (Nat.le_of_ble_eq_true rfl) d_Mod_writes_47 ⟨Nat.zero_le _, Nat.zero_le _⟩ hS (fun H locs hP hD hS => ?_)
        have hP : va_P D cl5 (wM g k L ((szR L r i (t + n)).2)) H := hP
        have hD : va_D A (wM g k L ((szR L r i (t + n)).2)) := hD
        refine gz_ifz_ne (tgt := 56) hx hb d_Mod_writes_50 (by decide) (fun h50 => ?_) (fun h50 => ?_)
        · obtain ⟨hwz, hrB, hbs, -⟩ := sz_wf (n := t + n) hi0 hL (by omega) hwf hrB
          have hbs : bsR (rNd (szR L r i (t + n)).2) i = (t + n + 63) / 64 := hbs h50
          have hbz : t + n ≤ 64 * bsR (rNd (szR L r i (t + n)).2) i := by omega
          refine lv_iconst (v := nI 0) hx hb d_Mod_writes_56 (by decide +kernel) ?_
          refine lv_istore (lv' := [(5, .int (nI 0)), (4, .int (nI (rNd r (20 * i + 1)))), (0, .ref (g 20)), (1, .int (nI i)), (2, .int (nI t)), (3, .int (nI n))]) hx hb d_Mod_writes_57 hl (by decide) rfl (fun ls hl => ?_)
          refine gz_loop 59 (fun (zz : (Nat × RSt)) H locs ls => match zz with | (j, y) => va_P D cl5 (wM g k L y) H ∧ va_D A (wM g k L y) ∧ va_S A s.heap H locs ∧ lv_has ls 6 [(0, .ref (g 20)), (1, .int (nI i)), (2, .int (nI t)), (3, .int (nI n)), (5, .int (nI j))] ∧ (j ≤ n) ∧ (wpG i t (n - j) j y = wpG i t n 0 ((szR L r i (t + n)).2)) ∧ (rB y) ∧ (rNd y = rNd ((szR L r i (t + n)).2))) (fun (zz : (Nat × RSt)) => match zz with | (j, y) => n - j) (fun zz H locs ls hI ih59 => ?_) (0, (szR L r i (t + n)).2) ⟨hP, hD, hS, lv_sub hl [2, 3, 4, 5, 0] rfl, (Nat.zero_le _), rfl, hrB, rfl⟩
          obtain ⟨j, y⟩ := zz
          obtain ⟨hP, hD, hS, hl, hj1, hj2, hrB, hnd⟩ := hI
          have hX : ∀ i, i < 64 → rNd y (20 * i + 2) ≤ 8 := by rw [hnd]; exact wf_X hwz
          have hG : ∀ i, i < 64 → ∀ t, t < bsR (rNd y) i → bkR (rNd y) i t < 768 := by rw [hnd]; exact wf_G hwz hL
          have hby : t + n ≤ 64 * bsR (rNd y) i := by rw [hnd]; exact hbz
          refine lv_iload hx hb d_Mod_writes_59 (lv_at hl 4 rfl) ?_
          refine lv_iload_n hx hb d_Mod_writes_61 rfl (lv_at hl 3 rfl) ?_
          refine gz_icmp_ge (tgt := 87) hx hb d_Mod_writes_62 (by decide) (by omega) (by omega) (fun h62 => ?_) (fun h62 => ?_)
          · rw [show n - j = 0 by omega] at hj2
            have hy : y = _ := hj2
            refine lv_aload_n hx hb d_Mod_writes_87 rfl (lv_at hl 0 rfl) ?_
            refine lv_iload_n hx hb d_Mod_writes_88 rfl (lv_at hl 1 rfl) ?_
            refine gz_roV (As := [.int (nI i)]) (rest := []) (wc := (wM g k L y)) ⟨hx, hb, hml, hown, hTB⟩ (c_Mod_sizeOf l D g k L hL0 hL y hrB i (by omega)) (cwV 1 hTB (gd_V k_742 k_744 k_29 k_56 k_745) rfl rfl rfl (by decide +kernel) ⟨Nat.le_of_ble_eq_true rfl, Nat.le_of_ble_eq_true rfl⟩) hK hP [0, 1, 2, 3, 4, 5, 6, 7, 8, 9, 10] rfl 0 rfl rfl rfl hl.1 rfl (Nat.le_of_ble_eq_true rfl) d_Mod_writes_89 ⟨Nat.zero_le _, Nat.zero_le _⟩ hS (fun H locs hP hS => ?_)
            have := (hrB (20 * i + 1)).2.1
            have hP9 : va_P D cl5 (wM g k L ((wwR L r i (nI t) n).2)) H := (by unfold wwR; rw [if_pos h5, if_pos h28, nI_clamp (by omega)]; unfold wwN; rw [hz]; rw [if_pos h50, ← hy]; exact hP)
            have hD9 : va_D A (wM g k L ((wwR L r i (nI t) n).2)) := (by unfold wwR; rw [if_pos h5, if_pos h28, nI_clamp (by omega)]; unfold wwN; rw [hz]; rw [if_pos h50, ← hy]; exact hD)
            exact W.iret (v := nI (rNd y (20 * i + 1))) hx hb hr (fun tt9 ht9 hW9 => ⟨⟨_, (), rfl, (by unfold wwR; rw [if_pos h5, if_pos h28, nI_clamp (by omega)]; unfold wwN; rw [hz]; rw [if_pos h50, ← hy]), ⟨by rw [ht9]; exact hP9, hD9⟩⟩, hS.F ht9⟩) hS.2.2 d_Mod_writes_92
          · refine lv_aload_n hx hb d_Mod_writes_65 rfl (lv_at hl 0 rfl) ?_
            refine lv_iload_n hx hb d_Mod_writes_66 rfl (lv_at hl 1 rfl) ?_
            refine lv_iload_n hx hb d_Mod_writes_67 rfl (lv_at hl 2 rfl) ?_
            refine lv_iload hx hb d_Mod_writes_68 (lv_at hl 4 rfl) ?_
            refine gz_iadd hx hb d_Mod_writes_70 ?_
            refine lv_aload_n hx hb d_Mod_writes_71 rfl (lv_at hl 0 rfl) ?_
            refine va_get (D := D) (ci := 4) (v := .ref (g 21)) (C := R_Mod) (T := T_Mod) (N := 14) hx hb hTB in_Mod hown hK hP 0 rfl rfl 2 (by decide) (hTB _ k_646) (fun _ h9 => h9) rfl d_Mod_writes_72 ?_
            refine lv_iload hx hb d_Mod_writes_75 (lv_at hl 4 rfl) ?_
            refine gm_ald hx hb hK hP 1 2 rfl rfl (i := j) (by omega) (by omega) d_Mod_writes_77 ?_
            have := (hrB j).1
            refine gz_muV (As := [.int (nI i), .int (nI (t + j)), .int (nI (rTp y j))]) (rest := []) (wc := (wM g k L y)) (w1 := (wM g k L (ptR y i (t + j) (rTp y j)))) (wr := []) ⟨hx, hb, hml, hown, hTB⟩ (c_Mod_put l D g k L hL0 hL y hrB i (t + j) (rTp y j) (by omega) (by omega) hX hG (by first | omega | (show _ < bsR (rNd r) _; omega)) (by omega)) (cwV 3 hTB (gd_V k_778 k_780 k_38 k_56 k_781) rfl rfl rfl (by decide +kernel) ⟨Nat.le_of_ble_eq_true rfl, Nat.le_of_ble_eq_true rfl⟩) hK hP hD hA [0, 1, 2, 3, 4, 5, 6, 7, 8, 9, 10] [] rfl rfl (by decide) rfl (by decide) (by decide) 0 rfl rfl rfl hl.1 rfl (Nat.le_of_ble_eq_true rfl) d_Mod_writes_78 ⟨Nat.zero_le _, Nat.zero_le _⟩ hS (fun H locs hP hD hS => ?_)
            have hP : va_P D cl5 (wM g k L (ptR y i (t + j) (rTp y j))) H := hP
            have hD : va_D A (wM g k L (ptR y i (t + j) (rTp y j))) := hD
            have hrB := ptR_B (i := i) (c := t + j) (v := rTp y j) hrB (by omega)
            refine lv_iinc (v := nI (j + 1)) (lv' := [(5, .int (nI (j + 1))), (0, .ref (g 20)), (1, .int (nI i)), (2, .int (nI t)), (3, .int (nI n))]) hx hb d_Mod_writes_81 hl (k := 4) rfl (nI_add j 1) (by decide) rfl (fun ls hl => ?_)
            refine lv_goto (tgt := 59) hx hb d_Mod_writes_84 (by decide) ?_
            exact ih59 (j + 1, ptR y i (t + j) (rTp y j)) _ _ _ (by first | omega | (dsimp only; omega)) ⟨hP, hD, hS, lv_sub hl [1, 2, 3, 4, 0] rfl, (by omega), (by rw [← hj2, show n - j = (n - (j + 1)) + 1 by omega, wpG]), hrB, hnd⟩
        · refine lv_bipush (v := (-4)) hx hb d_Mod_writes_53 (by decide +kernel) ?_
          have hP9 : va_P D cl5 (wM g k L ((wwR L r i (nI t) n).2)) H := (by unfold wwR; rw [if_pos h5, if_pos h28, nI_clamp (by omega)]; unfold wwN; rw [hz]; rw [if_neg (by rw [h50]; decide)]; exact hP)
          have hD9 : va_D A (wM g k L ((wwR L r i (nI t) n).2)) := (by unfold wwR; rw [if_pos h5, if_pos h28, nI_clamp (by omega)]; unfold wwN; rw [hz]; rw [if_neg (by rw [h50]; decide)]; exact hD)
          exact W.iret (v := (-4)) hx hb hr (fun tt9 ht9 hW9 => ⟨⟨_, (), rfl, (by unfold wwR; rw [if_pos h5, if_pos h28, nI_clamp (by omega)]; unfold wwN; rw [hz]; rw [if_neg (by rw [h50]; decide)]), ⟨by rw [ht9]; exact hP9, hD9⟩⟩, hS.F ht9⟩) hS.2.2 d_Mod_writes_55
    · refine lv_bipush (v := (-8)) hx hb d_Mod_writes_31 (by decide +kernel) ?_
      have hP9 : va_P D cl5 (wM g k L ((wwR L r i x n).2)) H := (by unfold wwR; rw [if_pos h5, if_neg (by rw [h28]; decide)]; exact hP)
      have hD9 : va_D A (wM g k L ((wwR L r i x n).2)) := (by unfold wwR; rw [if_pos h5, if_neg (by rw [h28]; decide)]; exact hD)
      exact W.iret (v := (-8)) hx hb hr (fun tt9 ht9 hW9 => ⟨⟨_, (), rfl, (by unfold wwR; rw [if_pos h5, if_neg (by rw [h28]; decide)]), ⟨by rw [ht9]; exact hP9, hD9⟩⟩, hS.F ht9⟩) hS.2.2 d_Mod_writes_33
  · refine lv_aload_n hx hb d_Mod_writes_8 rfl (lv_at hl 0 rfl) ?_
    refine lv_iload_n hx hb d_Mod_writes_9 rfl (lv_at hl 1 rfl) ?_
    refine gz_roV (As := [.int (nI i)]) (rest := []) (wc := (wM g k L r)) ⟨hx, hb, hml, hown, hTB⟩ (c_Mod_badFile l D g k L hL0 hL r hrB i (by omega)) (cwV 1 hTB (gd_V k_790 k_792 k_41 k_56 k_793) rfl rfl rfl (by decide +kernel) ⟨Nat.le_of_ble_eq_true rfl, Nat.le_of_ble_eq_true rfl⟩) hK hP [0, 1, 2, 3, 4, 5, 6, 7, 8, 9, 10] rfl 0 rfl rfl rfl hl.1 rfl (Nat.le_of_ble_eq_true rfl) d_Mod_writes_10 ⟨Nat.zero_le _, Nat.zero_le _⟩ hS (fun H locs hP hS => ?_)
    have hP9 : va_P D cl5 (wM g k L ((wwR L r i x n).2)) H := (by unfold wwR; rw [if_neg h5]; exact hP)
    have hD9 : va_D A (wM g k L ((wwR L r i x n).2)) := (by unfold wwR; rw [if_neg h5]; exact hD)
    exact W.iret (v := bfR r i) hx hb hr (fun tt9 ht9 hW9 => ⟨⟨_, (), rfl, (by unfold wwR; rw [if_neg h5]), ⟨by rw [ht9]; exact hP9, hD9⟩⟩, hS.F ht9⟩) hS.2.2 d_Mod_writes_13
theorem d_Mod_cuts_0 : decode b_Mod_cuts 0 = .ok (.aload_n 0, 1) := by decide +kernel
theorem d_Mod_cuts_1 : decode b_Mod_cuts 1 = .ok (.iload_n 1, 1) := by decide +kernel
theorem d_Mod_cuts_2 : decode b_Mod_cuts 2 = .ok (.invokevirtual 124, 3) := by decide +kernel
theorem d_Mod_cuts_5 : decode b_Mod_cuts 5 = .ok (.ifCond .ge 9, 3) := by decide +kernel
theorem d_Mod_cuts_8 : decode b_Mod_cuts 8 = .ok (.aload_n 0, 1) := by decide +kernel
theorem d_Mod_cuts_9 : decode b_Mod_cuts 9 = .ok (.iload_n 1, 1) := by decide +kernel
theorem d_Mod_cuts_10 : decode b_Mod_cuts 10 = .ok (.invokevirtual 124, 3) := by decide +kernel
theorem d_Mod_cuts_13 : decode b_Mod_cuts 13 = .ok (.ireturn, 1) := by decide +kernel
theorem d_Mod_cuts_14 : decode b_Mod_cuts 14 = .ok (.iload_n 2, 1) := by decide +kernel
theorem d_Mod_cuts_15 : decode b_Mod_cuts 15 = .ok (.iconst 0, 1) := by decide +kernel
theorem d_Mod_cuts_16 : decode b_Mod_cuts 16 = .ok (.aload_n 0, 1) := by decide +kernel
theorem d_Mod_cuts_17 : decode b_Mod_cuts 17 = .ok (.iload_n 1, 1) := by decide +kernel
theorem d_Mod_cuts_18 : decode b_Mod_cuts 18 = .ok (.invokevirtual 94, 3) := by decide +kernel
theorem d_Mod_cuts_21 : decode b_Mod_cuts 21 = .ok (.sipush 1024, 3) := by decide +kernel
theorem d_Mod_cuts_24 : decode b_Mod_cuts 24 = .ok (.iadd, 1) := by decide +kernel
theorem d_Mod_cuts_25 : decode b_Mod_cuts 25 = .ok (.invokestatic 127, 3) := by decide +kernel
theorem d_Mod_cuts_28 : decode b_Mod_cuts 28 = .ok (.ifCond .ne 6, 3) := by decide +kernel
theorem d_Mod_cuts_31 : decode b_Mod_cuts 31 = .ok (.bipush (-8), 2) := by decide +kernel
theorem d_Mod_cuts_33 : decode b_Mod_cuts 33 = .ok (.ireturn, 1) := by decide +kernel
theorem d_Mod_cuts_34 : decode b_Mod_cuts 34 = .ok (.aload_n 0, 1) := by decide +kernel
theorem d_Mod_cuts_35 : decode b_Mod_cuts 35 = .ok (.iload_n 1, 1) := by decide +kernel
theorem d_Mod_cuts_36 : decode b_Mod_cuts 36 = .ok (.iload_n 2, 1) := by decide +kernel
theorem d_Mod_cuts_37 : decode b_Mod_cuts 37 = .ok (.invokevirtual 103, 3) := by decide +kernel
theorem d_Mod_cuts_40 : decode b_Mod_cuts 40 = .ok (.ifCond .eq 7, 3) := by decide +kernel
theorem d_Mod_cuts_43 : decode b_Mod_cuts 43 = .ok (.iload_n 2, 1) := by decide +kernel
theorem d_Mod_cuts_44 : decode b_Mod_cuts 44 = .ok (.goto 5, 3) := by decide +kernel
theorem d_Mod_cuts_47 : decode b_Mod_cuts 47 = .ok (.bipush (-4), 2) := by decide +kernel
theorem d_Mod_cuts_49 : decode b_Mod_cuts 49 = .ok (.ireturn, 1) := by decide +kernel
set_option maxHeartbeats 4000000 in
set_option maxRecDepth 100000 in
theorem c_Mod_cuts (l : Launch) (D : va_G) (g : Nat → Nat) (k : Nat → ClassId) (L : Nat) (hL0 : 96 ≤ L) (hL : L ≤ 768) (r : RSt) (hrB : rB r) (i : Nat) (x : Int32) (hi0 : i < 64) (hs0 : rNd r (20 * i + 1) < 60000) (hok : okR L r) : MuI l y_Mod_cuts w_Mod_cuts ({ frames := 3, cells := 0, slots := 0, locals := 73 }) [.ref (g 20), .int (nI i), .int (x)] D cl5 (tyC k) (wM g k L r) (wM g k L ((ccR L r i x).2)) ((ccR L r i x).1) := by
  intro sz
  refine Met.ofW (cc := b_Mod_cuts) (maxL := 3) (ret := (some .int)) (by decide) rfl ?_
  intro p9 e9 s m args9 below9 meth9 c9 s₁ B hml hv
  obtain ⟨rfl, hsz, hP, hK, hD0⟩ := hv
  have hx := B.exec
  have hb := B.bytes
  have hr := B.returns
  have hts := atoms_spec (ws := w_Mod_cuts) B.pre
  have hTB : ∀ w ∈ lw_tb, w.before _ s = true := fun w h => hts w (List.mem_cons_of_mem _ h)
  have hown : s.vm.findClass R_Mod = some m.cls := findClass_of_methodNamed B.named
  have hlocks := B.notSynchronized
  subst hsz
  have hD := hD0.self (sz := s.heap.size)
  generalize hAe : va_A (wM g k L r) s.heap.size = A at hD ⊢
  have hA : ∀ q : Nat, s.heap.size ≤ q → A q := fun q h => by rw [← hAe]; exact Or.inr h
  have hS : va_S A s.heap s.heap [] := va_S.rf
  have hl := lv_entry ([.ref (g 20), .int (nI i), .int (x)]) (n := 3) (Nat.le_of_ble_eq_true rfl)
  rw [lg_entry_eq]
  generalize (lg_sl ([.ref (g 20), .int (nI i), .int (x)]) ++ List.replicate (3 - (lg_sl ([.ref (g 20), .int (nI i), .int (x)])).length) Slot.unset).toArray = ls at hl ⊢
  have hl : lv_has ls 3 [(0, .ref (g 20)), (1, .int (nI i)), (2, .int (x))] := hl
  obtain ⟨hwf, hS0, hW⟩ := id hok
  have hX := wf_X hwf
  have hG := wf_G hwf hL
  refine lv_aload_n hx hb d_Mod_cuts_0 rfl (lv_at hl 0 rfl) ?_
  refine lv_iload_n hx hb d_Mod_cuts_1 rfl (lv_at hl 1 rfl) ?_
  refine gz_roV (As := [.int (nI i)]) (rest := []) (wc := (wM g k L r)) ⟨hx, hb, hml, hown, hTB⟩ (c_Mod_badFile l D g k L hL0 hL r hrB i (by omega)) (cwV 1 hTB (gd_V k_790 k_792 k_41 k_56 k_793) rfl rfl rfl (by decide +kernel) ⟨Nat.le_of_ble_eq_true rfl, Nat.le_of_ble_eq_true rfl⟩) hK hP [0, 1, 2, 3, 4, 5, 6, 7, 8, 9, 10] rfl 0 rfl rfl rfl hl.1 rfl (Nat.le_of_ble_eq_true rfl) d_Mod_cuts_2 ⟨Nat.zero_le _, Nat.zero_le _⟩ hS (fun H locs hP hS => ?_)
  refine lv_if_ge (tgt := 14) hx hb d_Mod_cuts_5 (by decide) (fun h5 => ?_) (fun h5 => ?_)
  · refine lv_iload_n hx hb d_Mod_cuts_14 rfl (lv_at hl 2 rfl) ?_
    refine lv_iconst (v := nI 0) hx hb d_Mod_cuts_15 (by decide +kernel) ?_
    refine lv_aload_n hx hb d_Mod_cuts_16 rfl (lv_at hl 0 rfl) ?_
    refine lv_iload_n hx hb d_Mod_cuts_17 rfl (lv_at hl 1 rfl) ?_
    refine gz_roV (As := [.int (nI i)]) (rest := [.int (nI 0), .int (x)]) (wc := (wM g k L r)) ⟨hx, hb, hml, hown, hTB⟩ (c_Mod_sizeOf l D g k L hL0 hL r hrB i (by omega)) (cwV 1 hTB (gd_V k_742 k_744 k_29 k_56 k_745) rfl rfl rfl (by decide +kernel) ⟨Nat.le_of_ble_eq_true rfl, Nat.le_of_ble_eq_true rfl⟩) hK hP [0, 1, 2, 3, 4, 5, 6, 7, 8, 9, 10] rfl 0 rfl rfl rfl hl.1 rfl (Nat.le_of_ble_eq_true rfl) d_Mod_cuts_18 ⟨Nat.zero_le _, Nat.zero_le _⟩ hS (fun H locs hP hS => ?_)
    have := (hrB (20 * i + 1)).2.1
    refine lv_sipush (v := nI 1024) hx hb d_Mod_cuts_21 (by decide +kernel) ?_
    refine gz_iadd hx hb d_Mod_cuts_24 ?_
    refine gz_roS (As := [.int (x), .int (nI 0), .int (nI ((rNd r (20 * i + 1)) + 1024))]) (rest := []) ⟨hx, hb, hml, hown, hTB⟩ (c_Mod_in l x (nI 0) (nI ((rNd r (20 * i + 1)) + 1024))) (cwS 3 hTB (gd_S k_695 k_696 k_56 k_697) rfl rfl rfl (by decide +kernel) ⟨Nat.le_of_ble_eq_true rfl, Nat.le_of_ble_eq_true rfl⟩) hP rfl hl.1 rfl (Nat.le_of_ble_eq_true rfl) d_Mod_cuts_25 ⟨Nat.zero_le _, Nat.zero_le _⟩ hS (fun H locs hP hS => ?_)
    refine gz_ifz_ne (tgt := 34) hx hb d_Mod_cuts_28 (by decide) (fun h28 => ?_) (fun h28 => ?_)
    · obtain ⟨t, ht, rfl⟩ := inR_of (by omega) h28
      refine lv_aload_n hx hb d_Mod_cuts_34 rfl (lv_at hl 0 rfl) ?_
      refine lv_iload_n hx hb d_Mod_cuts_35 rfl (lv_at hl 1 rfl) ?_
      refine lv_iload_n hx hb d_Mod_cuts_36 rfl (lv_at hl 2 rfl) ?_
      refine gz_muI (As := [.int (nI i), .int (nI t)]) (rest := []) (wc := (wM g k L r)) (w1 := (wM g k L ((szR L r i t).2))) (wr := []) ⟨hx, hb, hml, hown, hTB⟩ (c_Mod_sizes l D g k L hL0 hL r hrB i t (by omega) (by omega) hwf) (cwV 2 hTB (gd_V k_762 k_764 k_34 k_56 k_765) rfl rfl rfl (by decide +kernel) ⟨Nat.le_of_ble_eq_true rfl, Nat.le_of_ble_eq_true rfl⟩) hK hP hD hA [0, 1, 2, 3, 4, 5, 6, 7, 8, 9, 10] [] rfl rfl (by decide) rfl (by decide) (by decide) 0 rfl rfl rfl hl.1 rfl (Nat.le_of_ble_eq_true rfl) d_Mod_cuts_37 ⟨Nat.zero_le _, Nat.zero_le _⟩ hS (fun H locs hP hD hS => ?_)
      have hP : va_P D cl5 (wM g k L ((szR L r i t).2)) H := hP
      have hD : va_D A (wM g k L ((szR L r i t).2)) := hD
      refine gz_ifz_eq (tgt := 47) hx hb d_Mod_cuts_40 (by decide) (fun h40 => ?_) (fun h40 => ?_)
      · refine lv_bipush (v := (-4)) hx hb d_Mod_cuts_47 (by decide +kernel) ?_
        have hP9 : va_P D cl5 (wM g k L ((ccR L r i (nI t)).2)) H := (by unfold ccR; rw [if_pos h5, if_pos h28, nI_clamp (by omega)]; unfold ccN; rw [if_neg (by rw [h40]; decide)]; exact hP)
        have hD9 : va_D A (wM g k L ((ccR L r i (nI t)).2)) := (by unfold ccR; rw [if_pos h5, if_pos h28, nI_clamp (by omega)]; unfold ccN; rw [if_neg (by rw [h40]; decide)]; exact hD)
        exact W.iret (v := (-4)) hx hb hr (fun tt9 ht9 hW9 => ⟨⟨_, (), rfl, (by unfold ccR; rw [if_pos h5, if_pos h28, nI_clamp (by omega)]; unfold ccN; rw [if_neg (by rw [h40]; decide)]), ⟨by rw [ht9]; exact hP9, hD9⟩⟩, hS.F ht9⟩) hS.2.2 d_Mod_cuts_49
      · refine lv_iload_n hx hb d_Mod_cuts_43 rfl (lv_at hl 2 rfl) ?_
        refine lv_goto (tgt := 49) hx hb d_Mod_cuts_44 (by decide) ?_
        have hP9 : va_P D cl5 (wM g k L ((ccR L r i (nI t)).2)) H := (by unfold ccR; rw [if_pos h5, if_pos h28, nI_clamp (by omega)]; unfold ccN; rw [if_pos h40]; exact hP)
        have hD9 : va_D A (wM g k L ((ccR L r i (nI t)).2)) := (by unfold ccR; rw [if_pos h5, if_pos h28, nI_clamp (by omega)]; unfold ccN; rw [if_pos h40]; exact hD)
        exact W.iret (v := nI t) hx hb hr (fun tt9 ht9 hW9 => ⟨⟨_, (), rfl, (by unfold ccR; rw [if_pos h5, if_pos h28, nI_clamp (by omega)]; unfold ccN; rw [if_pos h40]), ⟨by rw [ht9]; exact hP9, hD9⟩⟩, hS.F ht9⟩) hS.2.2 d_Mod_cuts_49
    · refine lv_bipush (v := (-8)) hx hb d_Mod_cuts_31 (by decide +kernel) ?_
      have hP9 : va_P D cl5 (wM g k L ((ccR L r i x).2)) H := (by unfold ccR; rw [if_pos h5, if_neg (by rw [h28]; decide)]; exact hP)
      have hD9 : va_D A (wM g k L ((ccR L r i x).2)) := (by unfold ccR; rw [if_pos h5, if_neg (by rw [h28]; decide)]; exact hD)
      exact W.iret (v := (-8)) hx hb hr (fun tt9 ht9 hW9 => ⟨⟨_, (), rfl, (by unfold ccR; rw [if_pos h5, if_neg (by rw [h28]; decide)]), ⟨by rw [ht9]; exact hP9, hD9⟩⟩, hS.F ht9⟩) hS.2.2 d_Mod_cuts_33
  · refine lv_aload_n hx hb d_Mod_cuts_8 rfl (lv_at hl 0 rfl) ?_
    refine lv_iload_n hx hb d_Mod_cuts_9 rfl (lv_at hl 1 rfl) ?_
    refine gz_roV (As := [.int (nI i)]) (rest := []) (wc := (wM g k L r)) ⟨hx, hb, hml, hown, hTB⟩ (c_Mod_badFile l D g k L hL0 hL r hrB i (by omega)) (cwV 1 hTB (gd_V k_790 k_792 k_41 k_56 k_793) rfl rfl rfl (by decide +kernel) ⟨Nat.le_of_ble_eq_true rfl, Nat.le_of_ble_eq_true rfl⟩) hK hP [0, 1, 2, 3, 4, 5, 6, 7, 8, 9, 10] rfl 0 rfl rfl rfl hl.1 rfl (Nat.le_of_ble_eq_true rfl) d_Mod_cuts_10 ⟨Nat.zero_le _, Nat.zero_le _⟩ hS (fun H locs hP hS => ?_)
    have hP9 : va_P D cl5 (wM g k L ((ccR L r i x).2)) H := (by unfold ccR; rw [if_neg h5]; exact hP)
    have hD9 : va_D A (wM g k L ((ccR L r i x).2)) := (by unfold ccR; rw [if_neg h5]; exact hD)
    exact W.iret (v := bfR r i) hx hb hr (fun tt9 ht9 hW9 => ⟨⟨_, (), rfl, (by unfold ccR; rw [if_neg h5]), ⟨by rw [ht9]; exact hP9, hD9⟩⟩, hS.F ht9⟩) hS.2.2 d_Mod_cuts_13
theorem d_Mod_removes_0 : decode b_Mod_removes 0 = .ok (.aload_n 0, 1) := by decide +kernel
theorem d_Mod_removes_1 : decode b_Mod_removes 1 = .ok (.iload_n 1, 1) := by decide +kernel
theorem d_Mod_removes_2 : decode b_Mod_removes 2 = .ok (.invokevirtual 117, 3) := by decide +kernel
theorem d_Mod_removes_5 : decode b_Mod_removes 5 = .ok (.ifCond .ge 9, 3) := by decide +kernel
theorem d_Mod_removes_8 : decode b_Mod_removes 8 = .ok (.aload_n 0, 1) := by decide +kernel
theorem d_Mod_removes_9 : decode b_Mod_removes 9 = .ok (.iload_n 1, 1) := by decide +kernel
theorem d_Mod_removes_10 : decode b_Mod_removes 10 = .ok (.invokevirtual 117, 3) := by decide +kernel
theorem d_Mod_removes_13 : decode b_Mod_removes 13 = .ok (.ireturn, 1) := by decide +kernel
theorem d_Mod_removes_14 : decode b_Mod_removes 14 = .ok (.aload_n 0, 1) := by decide +kernel
theorem d_Mod_removes_15 : decode b_Mod_removes 15 = .ok (.iload_n 1, 1) := by decide +kernel
theorem d_Mod_removes_16 : decode b_Mod_removes 16 = .ok (.iload_n 2, 1) := by decide +kernel
theorem d_Mod_removes_17 : decode b_Mod_removes 17 = .ok (.invokevirtual 100, 3) := by decide +kernel
theorem d_Mod_removes_20 : decode b_Mod_removes 20 = .ok (.istore_n 3, 1) := by decide +kernel
theorem d_Mod_removes_21 : decode b_Mod_removes 21 = .ok (.iload_n 3, 1) := by decide +kernel
theorem d_Mod_removes_22 : decode b_Mod_removes 22 = .ok (.ifCond .ge 5, 3) := by decide +kernel
theorem d_Mod_removes_25 : decode b_Mod_removes 25 = .ok (.iconst (-1), 1) := by decide +kernel
theorem d_Mod_removes_26 : decode b_Mod_removes 26 = .ok (.ireturn, 1) := by decide +kernel
theorem d_Mod_removes_27 : decode b_Mod_removes 27 = .ok (.aload_n 0, 1) := by decide +kernel
theorem d_Mod_removes_28 : decode b_Mod_removes 28 = .ok (.iload_n 1, 1) := by decide +kernel
theorem d_Mod_removes_29 : decode b_Mod_removes 29 = .ok (.iload_n 3, 1) := by decide +kernel
theorem d_Mod_removes_30 : decode b_Mod_removes 30 = .ok (.invokevirtual 114, 3) := by decide +kernel
theorem d_Mod_removes_33 : decode b_Mod_removes 33 = .ok (.istore 4, 2) := by decide +kernel
theorem d_Mod_removes_35 : decode b_Mod_removes 35 = .ok (.aload_n 0, 1) := by decide +kernel
theorem d_Mod_removes_36 : decode b_Mod_removes 36 = .ok (.iload 4, 2) := by decide +kernel
theorem d_Mod_removes_38 : decode b_Mod_removes 38 = .ok (.invokevirtual 111, 3) := by decide +kernel
theorem d_Mod_removes_41 : decode b_Mod_removes 41 = .ok (.iconst 2, 1) := by decide +kernel
theorem d_Mod_removes_42 : decode b_Mod_removes 42 = .ok (.if_icmp .ne 15, 3) := by decide +kernel
theorem d_Mod_removes_45 : decode b_Mod_removes 45 = .ok (.aload_n 0, 1) := by decide +kernel
theorem d_Mod_removes_46 : decode b_Mod_removes 46 = .ok (.iload 4, 2) := by decide +kernel
theorem d_Mod_removes_48 : decode b_Mod_removes 48 = .ok (.invokevirtual 130, 3) := by decide +kernel
theorem d_Mod_removes_51 : decode b_Mod_removes 51 = .ok (.ifCond .ne 6, 3) := by decide +kernel
theorem d_Mod_removes_54 : decode b_Mod_removes 54 = .ok (.bipush (-6), 2) := by decide +kernel
theorem d_Mod_removes_56 : decode b_Mod_removes 56 = .ok (.ireturn, 1) := by decide +kernel
theorem d_Mod_removes_57 : decode b_Mod_removes 57 = .ok (.aload_n 0, 1) := by decide +kernel
theorem d_Mod_removes_58 : decode b_Mod_removes 58 = .ok (.iload 4, 2) := by decide +kernel
theorem d_Mod_removes_60 : decode b_Mod_removes 60 = .ok (.invokevirtual 136, 3) := by decide +kernel
theorem d_Mod_removes_63 : decode b_Mod_removes 63 = .ok (.aload_n 0, 1) := by decide +kernel
theorem d_Mod_removes_64 : decode b_Mod_removes 64 = .ok (.iload_n 1, 1) := by decide +kernel
theorem d_Mod_removes_65 : decode b_Mod_removes 65 = .ok (.iload_n 3, 1) := by decide +kernel
theorem d_Mod_removes_66 : decode b_Mod_removes 66 = .ok (.iconst 0, 1) := by decide +kernel
theorem d_Mod_removes_67 : decode b_Mod_removes 67 = .ok (.iconst 0, 1) := by decide +kernel
theorem d_Mod_removes_68 : decode b_Mod_removes 68 = .ok (.invokevirtual 107, 3) := by decide +kernel
theorem d_Mod_removes_71 : decode b_Mod_removes 71 = .ok (.iconst 0, 1) := by decide +kernel
theorem d_Mod_removes_72 : decode b_Mod_removes 72 = .ok (.ireturn, 1) := by decide +kernel
set_option maxHeartbeats 4000000 in
set_option maxRecDepth 100000 in
theorem c_Mod_removes (l : Launch) (D : va_G) (g : Nat → Nat) (k : Nat → ClassId) (L : Nat) (hL0 : 96 ≤ L) (hL : L ≤ 768) (r : RSt) (hrB : rB r) (d w : Nat) (hd0 : d < 64) (hw0 : w < 65536) (hok : okR L r) (hE : 0 ≤ bdR r d → ∀ e, e < rNd r (20 * d + 1) / 4 → iaR r d e < 64) (hN : 0 ≤ bdR r d → ∀ e, e < rNd r (20 * d + 1) / 4 → nmR r d e = w → iaR r d e ≠ d) : MuI l y_Mod_removes w_Mod_removes ({ frames := 4, cells := 0, slots := 0, locals := 92 }) [.ref (g 20), .int (nI d), .int (nI w)] D cl5 (tyC k) (wM g k L r) (wM g k L ((rrR r d w).2)) ((rrR r d w).1) := by
  intro sz
  refine Met.ofW (cc := b_Mod_removes) (maxL := 5) (ret := (some .int)) (by decide) rfl ?_
  intro p9 e9 s m args9 below9 meth9 c9 s₁ B hml hv
  obtain ⟨rfl, hsz, hP, hK, hD0⟩ := hv
  have hx := B.exec
  have hb := B.bytes
  have hr := B.returns
  have hts := atoms_spec (ws := w_Mod_removes) B.pre
  have hTB : ∀ w ∈ lw_tb, w.before _ s = true := fun w h => hts w (List.mem_cons_of_mem _ h)
  have hown : s.vm.findClass R_Mod = some m.cls := findClass_of_methodNamed B.named
  have hlocks := B.notSynchronized
  subst hsz
  have hD := hD0.self (sz := s.heap.size)
  generalize hAe : va_A (wM g k L r) s.heap.size = A at hD ⊢
  have hA : ∀ q : Nat, s.heap.size ≤ q → A q := fun q h => by rw [← hAe]; exact Or.inr h
  have hS : va_S A s.heap s.heap [] := va_S.rf
  have hl := lv_entry ([.ref (g 20), .int (nI d), .int (nI w)]) (n := 5) (Nat.le_of_ble_eq_true rfl)
  rw [lg_entry_eq]
  generalize (lg_sl ([.ref (g 20), .int (nI d), .int (nI w)]) ++ List.replicate (5 - (lg_sl ([.ref (g 20), .int (nI d), .int (nI w)])).length) Slot.unset).toArray = ls at hl ⊢
  have hl : lv_has ls 5 [(0, .ref (g 20)), (1, .int (nI d)), (2, .int (nI w))] := hl
  obtain ⟨hwf, hS0, hW⟩ := id hok
  have hX := wf_X hwf
  have hG := wf_G hwf hL
  refine lv_aload_n hx hb d_Mod_removes_0 rfl (lv_at hl 0 rfl) ?_
  refine lv_iload_n hx hb d_Mod_removes_1 rfl (lv_at hl 1 rfl) ?_
  refine gz_roV (As := [.int (nI d)]) (rest := []) (wc := (wM g k L r)) ⟨hx, hb, hml, hown, hTB⟩ (c_Mod_badDirectory l D g k L hL0 hL r hrB d (by omega)) (cwV 1 hTB (gd_V k_730 k_732 k_26 k_56 k_733) rfl rfl rfl (by decide +kernel) ⟨Nat.le_of_ble_eq_true rfl, Nat.le_of_ble_eq_true rfl⟩) hK hP [0, 1, 2, 3, 4, 5, 6, 7, 8, 9, 10] rfl 0 rfl rfl rfl hl.1 rfl (Nat.le_of_ble_eq_true rfl) d_Mod_removes_2 ⟨Nat.zero_le _, Nat.zero_le _⟩ hS (fun H locs hP hS => ?_)
  refine lv_if_ge (tgt := 14) hx hb d_Mod_removes_5 (by decide) (fun h5 => ?_) (fun h5 => ?_)
  · refine lv_aload_n hx hb d_Mod_removes_14 rfl (lv_at hl 0 rfl) ?_
    refine lv_iload_n hx hb d_Mod_removes_15 rfl (lv_at hl 1 rfl) ?_
    refine lv_iload_n hx hb d_Mod_removes_16 rfl (lv_at hl 2 rfl) ?_
    refine gz_roV (As := [.int (nI d), .int (nI w)]) (rest := []) (wc := (wM g k L r)) ⟨hx, hb, hml, hown, hTB⟩ (c_Mod_entryOf l D g k L hL0 hL r hrB d w (by omega) (by omega) hX hG hS0 hW) (cwV 2 hTB (gd_V k_738 k_740 k_28 k_56 k_741) rfl rfl rfl (by decide +kernel) ⟨Nat.le_of_ble_eq_true rfl, Nat.le_of_ble_eq_true rfl⟩) hK hP [0, 1, 2, 3, 4, 5, 6, 7, 8, 9, 10] rfl 0 rfl rfl rfl hl.1 rfl (Nat.le_of_ble_eq_true rfl) d_Mod_removes_17 ⟨Nat.zero_le _, Nat.zero_le _⟩ hS (fun H locs hP hS => ?_)
    refine lv_istore_n (lv' := [(3, .int (eoR r d w)), (0, .ref (g 20)), (1, .int (nI d)), (2, .int (nI w))]) hx hb d_Mod_removes_20 rfl hl (by decide) rfl (fun ls hl => ?_)
    refine lv_iload_n hx hb d_Mod_removes_21 rfl (lv_at hl 0 rfl) ?_
    refine lv_if_ge (tgt := 27) hx hb d_Mod_removes_22 (by decide) (fun h22 => ?_) (fun h22 => ?_)
    · obtain ⟨j, hj, ej, hnm⟩ := eoR_of h22
      have hl : lv_has ls 5 [(3, .int (nI j)), (0, .ref (g 20)), (1, .int (nI d)), (2, .int (nI w))] := by rw [← ej]; exact hl
      have hsd := hS0 d hd0
      have hsb := (hrB (20 * d + 1)).2.1
      have hia := hE h5 j hj
      have hid := hN h5 j hj hnm
      refine lv_aload_n hx hb d_Mod_removes_27 rfl (lv_at hl 1 rfl) ?_
      refine lv_iload_n hx hb d_Mod_removes_28 rfl (lv_at hl 2 rfl) ?_
      refine lv_iload_n hx hb d_Mod_removes_29 rfl (lv_at hl 0 rfl) ?_
      refine gz_roV (As := [.int (nI d), .int (nI j)]) (rest := []) (wc := (wM g k L r)) ⟨hx, hb, hml, hown, hTB⟩ (c_Mod_inodeAt l D g k L hL0 hL r hrB d j (by omega) (by omega) hX hG (by omega)) (cwV 2 hTB (gd_V k_802 k_804 k_44 k_56 k_805) rfl rfl rfl (by decide +kernel) ⟨Nat.le_of_ble_eq_true rfl, Nat.le_of_ble_eq_true rfl⟩) hK hP [0, 1, 2, 3, 4, 5, 6, 7, 8, 9, 10] rfl 0 rfl rfl rfl hl.1 rfl (Nat.le_of_ble_eq_true rfl) d_Mod_removes_30 ⟨Nat.zero_le _, Nat.zero_le _⟩ hS (fun H locs hP hS => ?_)
      have : iaR r d j < 65536 := (hrB _).2.2.2.1
      refine lv_istore (lv' := [(4, .int (nI (iaR r d j))), (3, .int (nI j)), (0, .ref (g 20)), (1, .int (nI d)), (2, .int (nI w))]) hx hb d_Mod_removes_33 hl (by decide) rfl (fun ls hl => ?_)
      refine lv_aload_n hx hb d_Mod_removes_35 rfl (lv_at hl 2 rfl) ?_
      refine lv_iload hx hb d_Mod_removes_36 (lv_at hl 0 rfl) ?_
      refine gz_roV (As := [.int (nI (iaR r d j))]) (rest := []) (wc := (wM g k L r)) ⟨hx, hb, hml, hown, hTB⟩ (c_Mod_kind l D g k L hL0 hL r hrB (iaR r d j) (by omega)) (cwV 1 hTB (gd_V k_734 k_736 k_27 k_56 k_737) rfl rfl rfl (by decide +kernel) ⟨Nat.le_of_ble_eq_true rfl, Nat.le_of_ble_eq_true rfl⟩) hK hP [0, 1, 2, 3, 4, 5, 6, 7, 8, 9, 10] rfl 0 rfl rfl rfl hl.1 rfl (Nat.le_of_ble_eq_true rfl) d_Mod_removes_38 ⟨Nat.zero_le _, Nat.zero_le _⟩ hS (fun H locs hP hS => ?_)
      have := (hrB (20 * (iaR r d j))).2.1
      refine lv_iconst (v := nI 2) hx hb d_Mod_removes_41 (by decide +kernel) ?_
      refine gz_icmp_ne (tgt := 57) hx hb d_Mod_removes_42 (by decide) (by omega) (by omega) (fun h42 => ?_) (fun h42 => ?_)
      · refine lv_aload_n hx hb d_Mod_removes_57 rfl (lv_at hl 2 rfl) ?_
        refine lv_iload hx hb d_Mod_removes_58 (lv_at hl 0 rfl) ?_
        refine gz_muV (As := [.int (nI (iaR r d j))]) (rest := []) (wc := (wM g k L r)) (w1 := (wM g k L (frR r (iaR r d j)))) (wr := []) ⟨hx, hb, hml, hown, hTB⟩ (c_Mod_frees l D g k L hL0 hL r hrB (iaR r d j) (by omega) hwf) (cwV 1 hTB (gd_V k_814 k_816 k_47 k_56 k_817) rfl rfl rfl (by decide +kernel) ⟨Nat.le_of_ble_eq_true rfl, Nat.le_of_ble_eq_true rfl⟩) hK hP hD hA [0, 1, 2, 3, 4, 5, 6, 7, 8, 9, 10] [] rfl rfl (by decide) rfl (by decide) (by decide) 0 rfl rfl rfl hl.1 rfl (Nat.le_of_ble_eq_true rfl) d_Mod_removes_60 ⟨Nat.zero_le _, Nat.zero_le _⟩ hS (fun H locs hP hD hS => ?_)
        have hP : va_P D cl5 (wM g k L (frR r (iaR r d j))) H := hP
        have hD : va_D A (wM g k L (frR r (iaR r d j))) := hD
        have hsb2 := (hrB (20 * d + 1)).2.1
        have hbf : bsR (rNd (frR r (iaR r d j))) d = bsR (rNd r) d := fr_bs hia hd0 (fun z => hid z.symm) hwf hrB
        have hwf2 := (fr_wf hia hwf hrB).1
        have hrB := (fr_wf hia hwf hrB).2
        have hX := wf_X hwf2
        have hG := wf_G hwf2 hL
        refine lv_aload_n hx hb d_Mod_removes_63 rfl (lv_at hl 2 rfl) ?_
        refine lv_iload_n hx hb d_Mod_removes_64 rfl (lv_at hl 3 rfl) ?_
        refine lv_iload_n hx hb d_Mod_removes_65 rfl (lv_at hl 1 rfl) ?_
        refine lv_iconst (v := nI 0) hx hb d_Mod_removes_66 (by decide +kernel) ?_
        refine lv_iconst (v := nI 0) hx hb d_Mod_removes_67 (by decide +kernel) ?_
        refine gz_muV (As := [.int (nI d), .int (nI j), .int (nI 0), .int (nI 0)]) (rest := []) (wc := (wM g k L (frR r (iaR r d j)))) (w1 := (wM g k L (enR (frR r (iaR r d j)) d j 0 0))) (wr := []) ⟨hx, hb, hml, hown, hTB⟩ (c_Mod_enters l D g k L hL0 hL (frR r (iaR r d j)) hrB d j 0 0 (by omega) (by omega) hX hG (by omega) (by omega) (by omega)) (cwV 4 hTB (gd_V k_782 k_784 k_39 k_56 k_785) rfl rfl rfl (by decide +kernel) ⟨Nat.le_of_ble_eq_true rfl, Nat.le_of_ble_eq_true rfl⟩) hK hP hD hA [0, 1, 2, 3, 4, 5, 6, 7, 8, 9, 10] [] rfl rfl (by decide) rfl (by decide) (by decide) 0 rfl rfl rfl hl.1 rfl (Nat.le_of_ble_eq_true rfl) d_Mod_removes_68 ⟨Nat.zero_le _, Nat.zero_le _⟩ hS (fun H locs hP hD hS => ?_)
        have hP : va_P D cl5 (wM g k L (enR (frR r (iaR r d j)) d j 0 0)) H := hP
        have hD : va_D A (wM g k L (enR (frR r (iaR r d j)) d j 0 0)) := hD
        refine lv_iconst (v := nI 0) hx hb d_Mod_removes_71 (by decide +kernel) ?_
        have hP9 : va_P D cl5 (wM g k L ((rrR r d w).2)) H := (by unfold rrR; rw [if_pos h5, if_pos h22, ej, nI_clamp (by omega), if_neg (fun z => h42 z.1)]; exact hP)
        have hD9 : va_D A (wM g k L ((rrR r d w).2)) := (by unfold rrR; rw [if_pos h5, if_pos h22, ej, nI_clamp (by omega), if_neg (fun z => h42 z.1)]; exact hD)
        exact W.iret (v := nI 0) hx hb hr (fun tt9 ht9 hW9 => ⟨⟨_, (), rfl, (by unfold rrR; rw [if_pos h5, if_pos h22, ej, nI_clamp (by omega), if_neg (fun z => h42 z.1)]), ⟨by rw [ht9]; exact hP9, hD9⟩⟩, hS.F ht9⟩) hS.2.2 d_Mod_removes_72
      · refine lv_aload_n hx hb d_Mod_removes_45 rfl (lv_at hl 2 rfl) ?_
        refine lv_iload hx hb d_Mod_removes_46 (lv_at hl 0 rfl) ?_
        refine gz_roV (As := [.int (nI (iaR r d j))]) (rest := []) (wc := (wM g k L r)) ⟨hx, hb, hml, hown, hTB⟩ (c_Mod_isEmpty l D g k L hL0 hL r hrB (iaR r d j) (by omega) hX hG hS0 hW) (cwV 1 hTB (gd_V k_806 k_808 k_45 k_56 k_809) rfl rfl rfl (by decide +kernel) ⟨Nat.le_of_ble_eq_true rfl, Nat.le_of_ble_eq_true rfl⟩) hK hP [0, 1, 2, 3, 4, 5, 6, 7, 8, 9, 10] rfl 0 rfl rfl rfl hl.1 rfl (Nat.le_of_ble_eq_true rfl) d_Mod_removes_48 ⟨Nat.zero_le _, Nat.zero_le _⟩ hS (fun H locs hP hS => ?_)
        refine gz_ifz_ne (tgt := 57) hx hb d_Mod_removes_51 (by decide) (fun h51 => ?_) (fun h51 => ?_)
        · refine lv_aload_n hx hb d_Mod_removes_57 rfl (lv_at hl 2 rfl) ?_
          refine lv_iload hx hb d_Mod_removes_58 (lv_at hl 0 rfl) ?_
          refine gz_muV (As := [.int (nI (iaR r d j))]) (rest := []) (wc := (wM g k L r)) (w1 := (wM g k L (frR r (iaR r d j)))) (wr := []) ⟨hx, hb, hml, hown, hTB⟩ (c_Mod_frees l D g k L hL0 hL r hrB (iaR r d j) (by omega) hwf) (cwV 1 hTB (gd_V k_814 k_816 k_47 k_56 k_817) rfl rfl rfl (by decide +kernel) ⟨Nat.le_of_ble_eq_true rfl, Nat.le_of_ble_eq_true rfl⟩) hK hP hD hA [0, 1, 2, 3, 4, 5, 6, 7, 8, 9, 10] [] rfl rfl (by decide) rfl (by decide) (by decide) 0 rfl rfl rfl hl.1 rfl (Nat.le_of_ble_eq_true rfl) d_Mod_removes_60 ⟨Nat.zero_le _, Nat.zero_le _⟩ hS (fun H locs hP hD hS => ?_)
          have hP : va_P D cl5 (wM g k L (frR r (iaR r d j))) H := hP
          have hD : va_D A (wM g k L (frR r (iaR r d j))) := hD
          have hsb2 := (hrB (20 * d + 1)).2.1
          have hbf : bsR (rNd (frR r (iaR r d j))) d = bsR (rNd r) d := fr_bs hia hd0 (fun z => hid z.symm) hwf hrB
          have hwf2 := (fr_wf hia hwf hrB).1
          have hrB := (fr_wf hia hwf hrB).2
          have hX := wf_X hwf2
          have hG := wf_G hwf2 hL
          refine lv_aload_n hx hb d_Mod_removes_63 rfl (lv_at hl 2 rfl) ?_
          refine lv_iload_n hx hb d_Mod_removes_64 rfl (lv_at hl 3 rfl) ?_
          refine lv_iload_n hx hb d_Mod_removes_65 rfl (lv_at hl 1 rfl) ?_
          refine lv_iconst (v := nI 0) hx hb d_Mod_removes_66 (by decide +kernel) ?_
          refine lv_iconst (v := nI 0) hx hb d_Mod_removes_67 (by decide +kernel) ?_
          refine gz_muV (As := [.int (nI d), .int (nI j), .int (nI 0), .int (nI 0)]) (rest := []) (wc := (wM g k L (frR r (iaR r d j)))) (w1 := (wM g k L (enR (frR r (iaR r d j)) d j 0 0))) (wr := []) ⟨hx, hb, hml, hown, hTB⟩ (c_Mod_enters l D g k L hL0 hL (frR r (iaR r d j)) hrB d j 0 0 (by omega) (by omega) hX hG (by omega) (by omega) (by omega)) (cwV 4 hTB (gd_V k_782 k_784 k_39 k_56 k_785) rfl rfl rfl (by decide +kernel) ⟨Nat.le_of_ble_eq_true rfl, Nat.le_of_ble_eq_true rfl⟩) hK hP hD hA [0, 1, 2, 3, 4, 5, 6, 7, 8, 9, 10] [] rfl rfl (by decide) rfl (by decide) (by decide) 0 rfl rfl rfl hl.1 rfl (Nat.le_of_ble_eq_true rfl) d_Mod_removes_68 ⟨Nat.zero_le _, Nat.zero_le _⟩ hS (fun H locs hP hD hS => ?_)
          have hP : va_P D cl5 (wM g k L (enR (frR r (iaR r d j)) d j 0 0)) H := hP
          have hD : va_D A (wM g k L (enR (frR r (iaR r d j)) d j 0 0)) := hD
          refine lv_iconst (v := nI 0) hx hb d_Mod_removes_71 (by decide +kernel) ?_
          have hP9 : va_P D cl5 (wM g k L ((rrR r d w).2)) H := (by unfold rrR; rw [if_pos h5, if_pos h22, ej, nI_clamp (by omega), if_neg (fun z => absurd (h51.symm.trans z.2) (by decide))]; exact hP)
          have hD9 : va_D A (wM g k L ((rrR r d w).2)) := (by unfold rrR; rw [if_pos h5, if_pos h22, ej, nI_clamp (by omega), if_neg (fun z => absurd (h51.symm.trans z.2) (by decide))]; exact hD)
          exact W.iret (v := nI 0) hx hb hr (fun tt9 ht9 hW9 => ⟨⟨_, (), rfl, (by unfold rrR; rw [if_pos h5, if_pos h22, ej, nI_clamp (by omega), if_neg (fun z => absurd (h51.symm.trans z.2) (by decide))]), ⟨by rw [ht9]; exact hP9, hD9⟩⟩, hS.F ht9⟩) hS.2.2 d_Mod_removes_72
        · refine lv_bipush (v := (-6)) hx hb d_Mod_removes_54 (by decide +kernel) ?_
          have hP9 : va_P D cl5 (wM g k L ((rrR r d w).2)) H := (by unfold rrR; rw [if_pos h5, if_pos h22, ej, nI_clamp (by omega), if_pos ⟨h42, h51⟩]; exact hP)
          have hD9 : va_D A (wM g k L ((rrR r d w).2)) := (by unfold rrR; rw [if_pos h5, if_pos h22, ej, nI_clamp (by omega), if_pos ⟨h42, h51⟩]; exact hD)
          exact W.iret (v := (-6)) hx hb hr (fun tt9 ht9 hW9 => ⟨⟨_, (), rfl, (by unfold rrR; rw [if_pos h5, if_pos h22, ej, nI_clamp (by omega), if_pos ⟨h42, h51⟩]), ⟨by rw [ht9]; exact hP9, hD9⟩⟩, hS.F ht9⟩) hS.2.2 d_Mod_removes_56
    · refine lv_iconst (v := (-1)) hx hb d_Mod_removes_25 (by decide +kernel) ?_
      have hP9 : va_P D cl5 (wM g k L ((rrR r d w).2)) H := (by unfold rrR; rw [if_pos h5, if_neg h22]; exact hP)
      have hD9 : va_D A (wM g k L ((rrR r d w).2)) := (by unfold rrR; rw [if_pos h5, if_neg h22]; exact hD)
      exact W.iret (v := (-1)) hx hb hr (fun tt9 ht9 hW9 => ⟨⟨_, (), rfl, (by unfold rrR; rw [if_pos h5, if_neg h22]), ⟨by rw [ht9]; exact hP9, hD9⟩⟩, hS.F ht9⟩) hS.2.2 d_Mod_removes_26
  · refine lv_aload_n hx hb d_Mod_removes_8 rfl (lv_at hl 0 rfl) ?_
    refine lv_iload_n hx hb d_Mod_removes_9 rfl (lv_at hl 1 rfl) ?_
    refine gz_roV (As := [.int (nI d)]) (rest := []) (wc := (wM g k L r)) ⟨hx, hb, hml, hown, hTB⟩ (c_Mod_badDirectory l D g k L hL0 hL r hrB d (by omega)) (cwV 1 hTB (gd_V k_730 k_732 k_26 k_56 k_733) rfl rfl rfl (by decide +kernel) ⟨Nat.le_of_ble_eq_true rfl, Nat.le_of_ble_eq_true rfl⟩) hK hP [0, 1, 2, 3, 4, 5, 6, 7, 8, 9, 10] rfl 0 rfl rfl rfl hl.1 rfl (Nat.le_of_ble_eq_true rfl) d_Mod_removes_10 ⟨Nat.zero_le _, Nat.zero_le _⟩ hS (fun H locs hP hS => ?_)
    have hP9 : va_P D cl5 (wM g k L ((rrR r d w).2)) H := (by unfold rrR; rw [if_neg h5]; exact hP)
    have hD9 : va_D A (wM g k L ((rrR r d w).2)) := (by unfold rrR; rw [if_neg h5]; exact hD)
    exact W.iret (v := bdR r d) hx hb hr (fun tt9 ht9 hW9 => ⟨⟨_, (), rfl, (by unfold rrR; rw [if_neg h5]), ⟨by rw [ht9]; exact hP9, hD9⟩⟩, hS.F ht9⟩) hS.2.2 d_Mod_removes_13
theorem d_Mod_parentOf_0 : decode b_Mod_parentOf 0 = .ok (.iconst 0, 1) := by decide +kernel
theorem d_Mod_parentOf_1 : decode b_Mod_parentOf 1 = .ok (.istore_n 2, 1) := by decide +kernel
theorem d_Mod_parentOf_2 : decode b_Mod_parentOf 2 = .ok (.iload_n 2, 1) := by decide +kernel
theorem d_Mod_parentOf_3 : decode b_Mod_parentOf 3 = .ok (.bipush 64, 2) := by decide +kernel
theorem d_Mod_parentOf_5 : decode b_Mod_parentOf 5 = .ok (.if_icmp .ge 62, 3) := by decide +kernel
theorem d_Mod_parentOf_8 : decode b_Mod_parentOf 8 = .ok (.iload_n 1, 1) := by decide +kernel
theorem d_Mod_parentOf_9 : decode b_Mod_parentOf 9 = .ok (.ifCond .le 58, 3) := by decide +kernel
theorem d_Mod_parentOf_12 : decode b_Mod_parentOf 12 = .ok (.iconst 0, 1) := by decide +kernel
theorem d_Mod_parentOf_13 : decode b_Mod_parentOf 13 = .ok (.istore_n 3, 1) := by decide +kernel
theorem d_Mod_parentOf_14 : decode b_Mod_parentOf 14 = .ok (.aload_n 0, 1) := by decide +kernel
theorem d_Mod_parentOf_15 : decode b_Mod_parentOf 15 = .ok (.iload_n 2, 1) := by decide +kernel
theorem d_Mod_parentOf_16 : decode b_Mod_parentOf 16 = .ok (.invokevirtual 111, 3) := by decide +kernel
theorem d_Mod_parentOf_19 : decode b_Mod_parentOf 19 = .ok (.iconst 2, 1) := by decide +kernel
theorem d_Mod_parentOf_20 : decode b_Mod_parentOf 20 = .ok (.if_icmp .ne 41, 3) := by decide +kernel
theorem d_Mod_parentOf_23 : decode b_Mod_parentOf 23 = .ok (.iload_n 3, 1) := by decide +kernel
theorem d_Mod_parentOf_24 : decode b_Mod_parentOf 24 = .ok (.aload_n 0, 1) := by decide +kernel
theorem d_Mod_parentOf_25 : decode b_Mod_parentOf 25 = .ok (.iload_n 2, 1) := by decide +kernel
theorem d_Mod_parentOf_26 : decode b_Mod_parentOf 26 = .ok (.invokevirtual 94, 3) := by decide +kernel
theorem d_Mod_parentOf_29 : decode b_Mod_parentOf 29 = .ok (.iconst 4, 1) := by decide +kernel
theorem d_Mod_parentOf_30 : decode b_Mod_parentOf 30 = .ok (.idiv, 1) := by decide +kernel
theorem d_Mod_parentOf_31 : decode b_Mod_parentOf 31 = .ok (.if_icmp .ge 30, 3) := by decide +kernel
theorem d_Mod_parentOf_34 : decode b_Mod_parentOf 34 = .ok (.aload_n 0, 1) := by decide +kernel
theorem d_Mod_parentOf_35 : decode b_Mod_parentOf 35 = .ok (.iload_n 2, 1) := by decide +kernel
theorem d_Mod_parentOf_36 : decode b_Mod_parentOf 36 = .ok (.iload_n 3, 1) := by decide +kernel
theorem d_Mod_parentOf_37 : decode b_Mod_parentOf 37 = .ok (.invokevirtual 97, 3) := by decide +kernel
theorem d_Mod_parentOf_40 : decode b_Mod_parentOf 40 = .ok (.ifCond .le 15, 3) := by decide +kernel
theorem d_Mod_parentOf_43 : decode b_Mod_parentOf 43 = .ok (.aload_n 0, 1) := by decide +kernel
theorem d_Mod_parentOf_44 : decode b_Mod_parentOf 44 = .ok (.iload_n 2, 1) := by decide +kernel
theorem d_Mod_parentOf_45 : decode b_Mod_parentOf 45 = .ok (.iload_n 3, 1) := by decide +kernel
theorem d_Mod_parentOf_46 : decode b_Mod_parentOf 46 = .ok (.invokevirtual 114, 3) := by decide +kernel
theorem d_Mod_parentOf_49 : decode b_Mod_parentOf 49 = .ok (.iload_n 1, 1) := by decide +kernel
theorem d_Mod_parentOf_50 : decode b_Mod_parentOf 50 = .ok (.if_icmp .ne 5, 3) := by decide +kernel
theorem d_Mod_parentOf_53 : decode b_Mod_parentOf 53 = .ok (.iload_n 2, 1) := by decide +kernel
theorem d_Mod_parentOf_54 : decode b_Mod_parentOf 54 = .ok (.ireturn, 1) := by decide +kernel
theorem d_Mod_parentOf_55 : decode b_Mod_parentOf 55 = .ok (.iinc 3 1, 3) := by decide +kernel
theorem d_Mod_parentOf_58 : decode b_Mod_parentOf 58 = .ok (.goto (-44), 3) := by decide +kernel
theorem d_Mod_parentOf_61 : decode b_Mod_parentOf 61 = .ok (.iinc 2 1, 3) := by decide +kernel
theorem d_Mod_parentOf_64 : decode b_Mod_parentOf 64 = .ok (.goto (-62), 3) := by decide +kernel
theorem d_Mod_parentOf_67 : decode b_Mod_parentOf 67 = .ok (.iconst (-1), 1) := by decide +kernel
theorem d_Mod_parentOf_68 : decode b_Mod_parentOf 68 = .ok (.ireturn, 1) := by decide +kernel
set_option maxHeartbeats 4000000 in
set_option maxRecDepth 100000 in
theorem c_Mod_parentOf (l : Launch) (D : va_G) (g : Nat → Nat) (k : Nat → ClassId) (L : Nat) (hL0 : 96 ≤ L) (hL : L ≤ 768) (r : RSt) (hrB : rB r) (i : Nat) (hi0 : i < 1000000) (hok : okR L r) : RoI l y_Mod_parentOf w_Mod_parentOf ({ frames := 3, cells := 0, slots := 0, locals := 69 }) [.ref (g 20), .int (nI i)] (RoP D cl5 (tyC k) (wM g k L r)) (paR r i) := by
  refine Met.ofW (cc := b_Mod_parentOf) (maxL := 4) (ret := (some .int)) (by decide) rfl ?_
  intro p9 e9 s m args9 below9 meth9 c9 s₁ B hml hv
  obtain ⟨rfl, hP, hK⟩ := hv
  have hx := B.exec
  have hb := B.bytes
  have hr := B.returns
  have hts := atoms_spec (ws := w_Mod_parentOf) B.pre
  have hTB : ∀ w ∈ lw_tb, w.before _ s = true := fun w h => hts w (List.mem_cons_of_mem _ h)
  have hown : s.vm.findClass R_Mod = some m.cls := findClass_of_methodNamed B.named
  have hlocks := B.notSynchronized
  have hS : va_S (fun _ => False) s.heap s.heap [] := va_S.rf
  have hl := lv_entry ([.ref (g 20), .int (nI i)]) (n := 4) (Nat.le_of_ble_eq_true rfl)
  rw [lg_entry_eq]
  generalize (lg_sl ([.ref (g 20), .int (nI i)]) ++ List.replicate (4 - (lg_sl ([.ref (g 20), .int (nI i)])).length) Slot.unset).toArray = ls at hl ⊢
  have hl : lv_has ls 4 [(0, .ref (g 20)), (1, .int (nI i))] := hl
  obtain ⟨hwf, hS0, hW⟩ := id hok
  have hX := wf_X hwf
  have hG := wf_G hwf hL
  refine lv_iconst (v := nI 0) hx hb d_Mod_parentOf_0 (by decide +kernel) ?_
  refine lv_istore_n (lv' := [(2, .int (nI 0)), (0, .ref (g 20)), (1, .int (nI i))]) hx hb d_Mod_parentOf_1 rfl hl (by decide) rfl (fun ls hl => ?_)
  refine gz_loop 2 (fun (zz : Nat) H locs ls => match zz with | d => va_P D cl5 (wM g k L r) H ∧ va_S (fun _ => False) s.heap H locs ∧ lv_has ls 4 [(0, .ref (g 20)), (1, .int (nI i)), (2, .int (nI d))] ∧ (d ≤ 64) ∧ (0 < i → paG r i (64 - d) d = paR r i)) (fun (zz : Nat) => match zz with | d => 64 - d) (fun zz H locs ls hI ih2 => ?_) (0) ⟨hP, hS, lv_sub hl [1, 2, 0] rfl, (Nat.zero_le _), (fun z => by unfold paR; rw [if_pos z])⟩
  obtain ⟨d, rfl⟩ : ∃ z, z = zz := ⟨_, rfl⟩
  obtain ⟨hP, hS, hl, hd1, hd2⟩ := hI
  refine lv_iload_n hx hb d_Mod_parentOf_2 rfl (lv_at hl 2 rfl) ?_
  refine lv_bipush (v := nI 64) hx hb d_Mod_parentOf_3 (by decide +kernel) ?_
  refine gz_icmp_ge (tgt := 67) hx hb d_Mod_parentOf_5 (by decide) (by omega) (by omega) (fun h5 => ?_) (fun h5 => ?_)
  · refine lv_iconst (v := (-1)) hx hb d_Mod_parentOf_67 (by decide +kernel) ?_
    exact W.iret (v := (-1)) hx hb hr (fun tt9 ht9 hW9 => ⟨⟨_, (), rfl, (by rcases Nat.eq_zero_or_pos i with z | z; (unfold paR; rw [if_neg (by omega)]); (rw [← hd2 z, show 64 - d = 0 by omega]; rfl)), trivial⟩, hS.F ht9⟩) hS.2.2 d_Mod_parentOf_68
  · refine lv_iload_n hx hb d_Mod_parentOf_8 rfl (lv_at hl 1 rfl) ?_
    refine gz_if_le (tgt := 67) hx hb d_Mod_parentOf_9 (by decide) (by omega) (fun h9 => ?_) (fun h9 => ?_)
    · refine lv_iconst (v := (-1)) hx hb d_Mod_parentOf_67 (by decide +kernel) ?_
      exact W.iret (v := (-1)) hx hb hr (fun tt9 ht9 hW9 => ⟨⟨_, (), rfl, (by first | (unfold paR; rw [if_neg (by omega)]; done) | (rw [← hd2 (by omega), show 64 - d = 0 by omega]; rfl)), trivial⟩, hS.F ht9⟩) hS.2.2 d_Mod_parentOf_68
    · refine lv_iconst (v := nI 0) hx hb d_Mod_parentOf_12 (by decide +kernel) ?_
      refine lv_istore_n (lv' := [(3, .int (nI 0)), (0, .ref (g 20)), (1, .int (nI i)), (2, .int (nI d))]) hx hb d_Mod_parentOf_13 rfl hl (by decide) rfl (fun ls hl => ?_)
      refine gz_loop 14 (fun (zz : Nat) H locs ls => match zz with | e => va_P D cl5 (wM g k L r) H ∧ va_S (fun _ => False) s.heap H locs ∧ lv_has ls 4 [(0, .ref (g 20)), (1, .int (nI i)), (2, .int (nI d)), (3, .int (nI e))] ∧ (e ≤ rNd r (20 * d + 1) / 4) ∧ (pnG r i d (rNd r (20 * d + 1) / 4 - e) e = pnR r i d)) (fun (zz : Nat) => match zz with | e => rNd r (20 * d + 1) / 4 - e) (fun zz H locs ls hI ih14 => ?_) (0) ⟨hP, hS, lv_sub hl [1, 2, 3, 0] rfl, (Nat.zero_le _), rfl⟩
      obtain ⟨e, rfl⟩ : ∃ z, z = zz := ⟨_, rfl⟩
      obtain ⟨hP, hS, hl, he1, he2⟩ := hI
      have hsb := (hrB (20 * d + 1)).2.1
      have hsd := hS0 d (by omega)
      refine lv_aload_n hx hb d_Mod_parentOf_14 rfl (lv_at hl 0 rfl) ?_
      refine lv_iload_n hx hb d_Mod_parentOf_15 rfl (lv_at hl 2 rfl) ?_
      refine gz_roV (As := [.int (nI d)]) (rest := []) (wc := (wM g k L r)) ⟨hx, hb, hml, hown, hTB⟩ (c_Mod_kind l D g k L hL0 hL r hrB d (by omega)) (cwV 1 hTB (gd_V k_734 k_736 k_27 k_56 k_737) rfl rfl rfl (by decide +kernel) ⟨Nat.le_of_ble_eq_true rfl, Nat.le_of_ble_eq_true rfl⟩) hK hP [0, 1, 2, 3, 4, 5, 6, 7, 8, 9, 10] rfl 0 rfl rfl rfl hl.1 rfl (Nat.le_of_ble_eq_true rfl) d_Mod_parentOf_16 ⟨Nat.zero_le _, Nat.zero_le _⟩ hS (fun H locs hP hS => ?_)
      have := (hrB (20 * d)).2.1
      refine lv_iconst (v := nI 2) hx hb d_Mod_parentOf_19 (by decide +kernel) ?_
      refine gz_icmp_ne (tgt := 61) hx hb d_Mod_parentOf_20 (by decide) (by omega) (by omega) (fun h20 => ?_) (fun h20 => ?_)
      · have hnp : ¬ (rNd r (20 * d) = 2 ∧ pnR r i d = true) := fun z => h20 z.1
        refine lv_iinc (v := nI (d + 1)) (lv' := [(2, .int (nI (d + 1))), (0, .ref (g 20)), (1, .int (nI i)), (3, .int (nI e))]) hx hb d_Mod_parentOf_61 hl (k := 2) rfl (nI_add d 1) (by decide) rfl (fun ls hl => ?_)
        refine lv_goto (tgt := 2) hx hb d_Mod_parentOf_64 (by decide) ?_
        exact ih2 (d + 1) _ _ _ (by first | omega | (dsimp only; omega)) ⟨hP, hS, lv_sub hl [1, 2, 0] rfl, (by omega), (fun z => by rw [← hd2 z, show 64 - d = (64 - (d + 1)) + 1 by omega, paG, if_neg hnp])⟩
      · refine lv_iload_n hx hb d_Mod_parentOf_23 rfl (lv_at hl 3 rfl) ?_
        refine lv_aload_n hx hb d_Mod_parentOf_24 rfl (lv_at hl 0 rfl) ?_
        refine lv_iload_n hx hb d_Mod_parentOf_25 rfl (lv_at hl 2 rfl) ?_
        refine gz_roV (As := [.int (nI d)]) (rest := [.int (nI e)]) (wc := (wM g k L r)) ⟨hx, hb, hml, hown, hTB⟩ (c_Mod_sizeOf l D g k L hL0 hL r hrB d (by omega)) (cwV 1 hTB (gd_V k_742 k_744 k_29 k_56 k_745) rfl rfl rfl (by decide +kernel) ⟨Nat.le_of_ble_eq_true rfl, Nat.le_of_ble_eq_true rfl⟩) hK hP [0, 1, 2, 3, 4, 5, 6, 7, 8, 9, 10] rfl 0 rfl rfl rfl hl.1 rfl (Nat.le_of_ble_eq_true rfl) d_Mod_parentOf_26 ⟨Nat.zero_le _, Nat.zero_le _⟩ hS (fun H locs hP hS => ?_)
        have := (hrB (20 * d + 1)).2.1
        refine lv_iconst (v := nI 4) hx hb d_Mod_parentOf_29 (by decide +kernel) ?_
        refine gz_idiv hx hb d_Mod_parentOf_30 (by omega) (by decide) (by decide) ?_
        refine gz_icmp_ge (tgt := 61) hx hb d_Mod_parentOf_31 (by decide) (by omega) (by omega) (fun h31 => ?_) (fun h31 => ?_)
        · have hnp : ¬ (rNd r (20 * d) = 2 ∧ pnR r i d = true) := fun z => by have z2 := z.2; rw [← he2, show rNd r (20 * d + 1) / 4 - e = 0 by omega] at z2; cases z2
          refine lv_iinc (v := nI (d + 1)) (lv' := [(2, .int (nI (d + 1))), (0, .ref (g 20)), (1, .int (nI i)), (3, .int (nI e))]) hx hb d_Mod_parentOf_61 hl (k := 2) rfl (nI_add d 1) (by decide) rfl (fun ls hl => ?_)
          refine lv_goto (tgt := 2) hx hb d_Mod_parentOf_64 (by decide) ?_
          exact ih2 (d + 1) _ _ _ (by first | omega | (dsimp only; omega)) ⟨hP, hS, lv_sub hl [1, 2, 0] rfl, (by omega), (fun z => by rw [← hd2 z, show 64 - d = (64 - (d + 1)) + 1 by omega, paG, if_neg hnp])⟩
        · refine lv_aload_n hx hb d_Mod_parentOf_34 rfl (lv_at hl 0 rfl) ?_
          refine lv_iload_n hx hb d_Mod_parentOf_35 rfl (lv_at hl 2 rfl) ?_
          refine lv_iload_n hx hb d_Mod_parentOf_36 rfl (lv_at hl 3 rfl) ?_
          refine gz_roV (As := [.int (nI d), .int (nI e)]) (rest := []) (wc := (wM g k L r)) ⟨hx, hb, hml, hown, hTB⟩ (c_Mod_nameAt l D g k L hL0 hL r hrB d e (by omega) (by omega) hX hG (by omega) hW) (cwV 2 hTB (gd_V k_746 k_748 k_30 k_56 k_749) rfl rfl rfl (by decide +kernel) ⟨Nat.le_of_ble_eq_true rfl, Nat.le_of_ble_eq_true rfl⟩) hK hP [0, 1, 2, 3, 4, 5, 6, 7, 8, 9, 10] rfl 0 rfl rfl rfl hl.1 rfl (Nat.le_of_ble_eq_true rfl) d_Mod_parentOf_37 ⟨Nat.zero_le _, Nat.zero_le _⟩ hS (fun H locs hP hS => ?_)
          have : nmR r d e < 65536 := by have h8a : gtR r d (4 * e) < 256 := hW _; have h8b : gtR r d (4 * e + 1) < 256 := hW _; unfold nmR; omega
          refine gz_if_le (tgt := 55) hx hb d_Mod_parentOf_40 (by decide) (by omega) (fun h40 => ?_) (fun h40 => ?_)
          · refine lv_iinc (v := nI (e + 1)) (lv' := [(3, .int (nI (e + 1))), (0, .ref (g 20)), (1, .int (nI i)), (2, .int (nI d))]) hx hb d_Mod_parentOf_55 hl (k := 3) rfl (nI_add e 1) (by decide) rfl (fun ls hl => ?_)
            refine lv_goto (tgt := 14) hx hb d_Mod_parentOf_58 (by decide) ?_
            exact ih14 (e + 1) _ _ _ (by first | omega | (dsimp only; omega)) ⟨hP, hS, lv_sub hl [1, 2, 3, 0] rfl, (by omega), (by rw [← he2, show rNd r (20 * d + 1) / 4 - e = (rNd r (20 * d + 1) / 4 - (e + 1)) + 1 by omega, pnG, if_neg (by omega)])⟩
          · refine lv_aload_n hx hb d_Mod_parentOf_43 rfl (lv_at hl 0 rfl) ?_
            refine lv_iload_n hx hb d_Mod_parentOf_44 rfl (lv_at hl 2 rfl) ?_
            refine lv_iload_n hx hb d_Mod_parentOf_45 rfl (lv_at hl 3 rfl) ?_
            refine gz_roV (As := [.int (nI d), .int (nI e)]) (rest := []) (wc := (wM g k L r)) ⟨hx, hb, hml, hown, hTB⟩ (c_Mod_inodeAt l D g k L hL0 hL r hrB d e (by omega) (by omega) hX hG (by omega)) (cwV 2 hTB (gd_V k_802 k_804 k_44 k_56 k_805) rfl rfl rfl (by decide +kernel) ⟨Nat.le_of_ble_eq_true rfl, Nat.le_of_ble_eq_true rfl⟩) hK hP [0, 1, 2, 3, 4, 5, 6, 7, 8, 9, 10] rfl 0 rfl rfl rfl hl.1 rfl (Nat.le_of_ble_eq_true rfl) d_Mod_parentOf_46 ⟨Nat.zero_le _, Nat.zero_le _⟩ hS (fun H locs hP hS => ?_)
            have : iaR r d e < 65536 := (hrB _).2.2.2.1
            refine lv_iload_n hx hb d_Mod_parentOf_49 rfl (lv_at hl 1 rfl) ?_
            refine gz_icmp_ne (tgt := 55) hx hb d_Mod_parentOf_50 (by decide) (by omega) (by omega) (fun h50 => ?_) (fun h50 => ?_)
            · refine lv_iinc (v := nI (e + 1)) (lv' := [(3, .int (nI (e + 1))), (0, .ref (g 20)), (1, .int (nI i)), (2, .int (nI d))]) hx hb d_Mod_parentOf_55 hl (k := 3) rfl (nI_add e 1) (by decide) rfl (fun ls hl => ?_)
              refine lv_goto (tgt := 14) hx hb d_Mod_parentOf_58 (by decide) ?_
              exact ih14 (e + 1) _ _ _ (by first | omega | (dsimp only; omega)) ⟨hP, hS, lv_sub hl [1, 2, 3, 0] rfl, (by omega), (by rw [← he2, show rNd r (20 * d + 1) / 4 - e = (rNd r (20 * d + 1) / 4 - (e + 1)) + 1 by omega, pnG, if_neg (by omega)])⟩
            · refine lv_iload_n hx hb d_Mod_parentOf_53 rfl (lv_at hl 2 rfl) ?_
              exact W.iret (v := nI d) hx hb hr (fun tt9 ht9 hW9 => ⟨⟨_, (), rfl, (by rw [← hd2 (by omega), show 64 - d = (64 - (d + 1)) + 1 by omega, paG, if_pos ⟨h20, by rw [← he2, show rNd r (20 * d + 1) / 4 - e = (rNd r (20 * d + 1) / 4 - (e + 1)) + 1 by omega, pnG, if_pos ⟨h40, h50⟩]⟩]), trivial⟩, hS.F ht9⟩) hS.2.2 d_Mod_parentOf_54
