theorem d_Mod_move_0 : decode b_Mod_move 0 = .ok (.iload_n 1, 1) := by decide +kernel
theorem d_Mod_move_1 : decode b_Mod_move 1 = .ok (.invokestatic 180, 3) := by decide +kernel
theorem d_Mod_move_4 : decode b_Mod_move 4 = .ok (.ifCond .ne 25, 3) := by decide +kernel
theorem d_Mod_move_7 : decode b_Mod_move 7 = .ok (.iload_n 2, 1) := by decide +kernel
theorem d_Mod_move_8 : decode b_Mod_move 8 = .ok (.invokestatic 183, 3) := by decide +kernel
theorem d_Mod_move_11 : decode b_Mod_move 11 = .ok (.ifCond .ne 18, 3) := by decide +kernel
theorem d_Mod_move_14 : decode b_Mod_move 14 = .ok (.iload_n 3, 1) := by decide +kernel
theorem d_Mod_move_15 : decode b_Mod_move 15 = .ok (.invokestatic 180, 3) := by decide +kernel
theorem d_Mod_move_18 : decode b_Mod_move 18 = .ok (.ifCond .ne 11, 3) := by decide +kernel
theorem d_Mod_move_21 : decode b_Mod_move 21 = .ok (.iload 4, 2) := by decide +kernel
theorem d_Mod_move_23 : decode b_Mod_move 23 = .ok (.invokestatic 183, 3) := by decide +kernel
theorem d_Mod_move_26 : decode b_Mod_move 26 = .ok (.ifCond .eq 7, 3) := by decide +kernel
theorem d_Mod_move_29 : decode b_Mod_move 29 = .ok (.iconst 1, 1) := by decide +kernel
theorem d_Mod_move_30 : decode b_Mod_move 30 = .ok (.goto 4, 3) := by decide +kernel
theorem d_Mod_move_33 : decode b_Mod_move 33 = .ok (.iconst 0, 1) := by decide +kernel
theorem d_Mod_move_34 : decode b_Mod_move 34 = .ok (.istore 5, 2) := by decide +kernel
theorem d_Mod_move_36 : decode b_Mod_move 36 = .ok (.aload_n 0, 1) := by decide +kernel
theorem d_Mod_move_37 : decode b_Mod_move 37 = .ok (.iload 5, 2) := by decide +kernel
theorem d_Mod_move_39 : decode b_Mod_move 39 = .ok (.iconst 1, 1) := by decide +kernel
theorem d_Mod_move_40 : decode b_Mod_move 40 = .ok (.invokevirtual 170, 3) := by decide +kernel
theorem d_Mod_move_43 : decode b_Mod_move 43 = .ok (.ifCond .eq 7, 3) := by decide +kernel
theorem d_Mod_move_46 : decode b_Mod_move 46 = .ok (.iconst 0, 1) := by decide +kernel
theorem d_Mod_move_47 : decode b_Mod_move 47 = .ok (.goto 13, 3) := by decide +kernel
theorem d_Mod_move_50 : decode b_Mod_move 50 = .ok (.aload_n 0, 1) := by decide +kernel
theorem d_Mod_move_51 : decode b_Mod_move 51 = .ok (.iconst 3, 1) := by decide +kernel
theorem d_Mod_move_52 : decode b_Mod_move 52 = .ok (.iload_n 1, 1) := by decide +kernel
theorem d_Mod_move_53 : decode b_Mod_move 53 = .ok (.iload_n 2, 1) := by decide +kernel
theorem d_Mod_move_54 : decode b_Mod_move 54 = .ok (.iload_n 3, 1) := by decide +kernel
theorem d_Mod_move_55 : decode b_Mod_move 55 = .ok (.iload 4, 2) := by decide +kernel
theorem d_Mod_move_57 : decode b_Mod_move 57 = .ok (.invokevirtual 186, 3) := by decide +kernel
theorem d_Mod_move_60 : decode b_Mod_move 60 = .ok (.ireturn, 1) := by decide +kernel
set_option maxHeartbeats 4000000 in
set_option maxRecDepth 100000 in
theorem c_Mod_move (l : Launch) (D : va_G) (g : Nat → Nat) (k : Nat → ClassId) (L : Nat) (hL0 : 96 ≤ L) (hL : L ≤ 768) (r : RSt) (hrB : rB r) (d w d2 w2 : Nat) (hd0 : d < 64) (hw1 : 1 ≤ w) (hwx : w ≤ 65535) (hd2 : d2 < 64) (hw3 : 1 ≤ w2) (hw4 : w2 ≤ 65535) (hq : dsP L (opMv L d w d2 w2) (pMv L d d2 w2) (qTh r (nI 0))) : MuI l y_Mod_move w_Mod_move ({ frames := 8, cells := 0, slots := 0, locals := 196 }) [.ref (g 20), .int (nI d), .int (nI w), .int (nI d2), .int (nI w2)] D cl5 (tyC k) (wM g k L r) (wM g k L ((dsR L (opMv L d w d2 w2) (qTh r (nI 0))).2)) ((dsR L (opMv L d w d2 w2) (qTh r (nI 0))).1) := by
  intro sz
  refine Met.ofW (cc := b_Mod_move) (maxL := 6) (ret := (some .int)) (by decide) rfl ?_
  intro p9 e9 s m args9 below9 meth9 c9 s₁ B hml hv
  obtain ⟨rfl, hsz, hP, hK, hD0⟩ := hv
  have hx := B.exec
  have hb := B.bytes
  have hr := B.returns
  have hts := atoms_spec (ws := w_Mod_move) B.pre
  have hTB : ∀ w ∈ lw_tb, w.before _ s = true := fun w h => hts w (List.mem_cons_of_mem _ h)
  have hown : s.vm.findClass R_Mod = some m.cls := findClass_of_methodNamed B.named
  have hlocks := B.notSynchronized
  subst hsz
  have hD := hD0.self (sz := s.heap.size)
  generalize hAe : va_A (wM g k L r) s.heap.size = A at hD ⊢
  have hA : ∀ q : Nat, s.heap.size ≤ q → A q := fun q h => by rw [← hAe]; exact Or.inr h
  have hS : va_S A s.heap s.heap [] := va_S.rf
  have hl := lv_entry ([.ref (g 20), .int (nI d), .int (nI w), .int (nI d2), .int (nI w2)]) (n := 6) (Nat.le_of_ble_eq_true rfl)
  rw [lg_entry_eq]
  generalize (lg_sl ([.ref (g 20), .int (nI d), .int (nI w), .int (nI d2), .int (nI w2)]) ++ List.replicate (6 - (lg_sl ([.ref (g 20), .int (nI d), .int (nI w), .int (nI d2), .int (nI w2)])).length) Slot.unset).toArray = ls at hl ⊢
  have hl : lv_has ls 6 [(0, .ref (g 20)), (1, .int (nI d)), (2, .int (nI w)), (3, .int (nI d2)), (4, .int (nI w2))] := hl
  refine lv_iload_n hx hb d_Mod_move_0 rfl (lv_at hl 1 rfl) ?_
  refine gz_roS (As := [.int (nI d)]) (rest := []) ⟨hx, hb, hml, hown, hTB⟩ (c_Mod_isBad l (nI d)) (cwS 1 hTB (gd_S k_707 k_708 k_56 k_709) rfl rfl rfl (by decide +kernel) ⟨Nat.le_of_ble_eq_true rfl, Nat.le_of_ble_eq_true rfl⟩) hP rfl hl.1 rfl (Nat.le_of_ble_eq_true rfl) d_Mod_move_1 ⟨Nat.zero_le _, Nat.zero_le _⟩ hS (fun H locs hP hS => ?_)
  refine gz_ifz_ne (tgt := 29) hx hb d_Mod_move_4 (by decide) (fun h4 => ?_) (fun h4 => ?_)
  · exact absurd h4 (by rw [inB_f (Nat.zero_le _) (by omega) (by decide)]; decide)
  · refine lv_iload_n hx hb d_Mod_move_7 rfl (lv_at hl 2 rfl) ?_
    refine gz_roS (As := [.int (nI w)]) (rest := []) ⟨hx, hb, hml, hown, hTB⟩ (c_Mod_isBadName l (nI w)) (cwS 1 hTB (gd_S k_710 k_711 k_56 k_712) rfl rfl rfl (by decide +kernel) ⟨Nat.le_of_ble_eq_true rfl, Nat.le_of_ble_eq_true rfl⟩) hP rfl hl.1 rfl (Nat.le_of_ble_eq_true rfl) d_Mod_move_8 ⟨Nat.zero_le _, Nat.zero_le _⟩ hS (fun H locs hP hS => ?_)
    refine gz_ifz_ne (tgt := 29) hx hb d_Mod_move_11 (by decide) (fun h11 => ?_) (fun h11 => ?_)
    · exact absurd h11 (by rw [inB_f (by omega) (by omega) (by decide)]; decide)
    · refine lv_iload_n hx hb d_Mod_move_14 rfl (lv_at hl 3 rfl) ?_
      refine gz_roS (As := [.int (nI d2)]) (rest := []) ⟨hx, hb, hml, hown, hTB⟩ (c_Mod_isBad l (nI d2)) (cwS 1 hTB (gd_S k_707 k_708 k_56 k_709) rfl rfl rfl (by decide +kernel) ⟨Nat.le_of_ble_eq_true rfl, Nat.le_of_ble_eq_true rfl⟩) hP rfl hl.1 rfl (Nat.le_of_ble_eq_true rfl) d_Mod_move_15 ⟨Nat.zero_le _, Nat.zero_le _⟩ hS (fun H locs hP hS => ?_)
      refine gz_ifz_ne (tgt := 29) hx hb d_Mod_move_18 (by decide) (fun h18 => ?_) (fun h18 => ?_)
      · exact absurd h18 (by rw [inB_f (Nat.zero_le _) (by omega) (by decide)]; decide)
      · refine lv_iload hx hb d_Mod_move_21 (lv_at hl 4 rfl) ?_
        refine gz_roS (As := [.int (nI w2)]) (rest := []) ⟨hx, hb, hml, hown, hTB⟩ (c_Mod_isBadName l (nI w2)) (cwS 1 hTB (gd_S k_710 k_711 k_56 k_712) rfl rfl rfl (by decide +kernel) ⟨Nat.le_of_ble_eq_true rfl, Nat.le_of_ble_eq_true rfl⟩) hP rfl hl.1 rfl (Nat.le_of_ble_eq_true rfl) d_Mod_move_23 ⟨Nat.zero_le _, Nat.zero_le _⟩ hS (fun H locs hP hS => ?_)
        refine gz_ifz_eq (tgt := 33) hx hb d_Mod_move_26 (by decide) (fun h26 => ?_) (fun h26 => ?_)
        · refine lv_iconst (v := nI 0) hx hb d_Mod_move_33 (by decide +kernel) ?_
          refine lv_istore (lv' := [(5, .int (nI 0)), (0, .ref (g 20)), (1, .int (nI d)), (2, .int (nI w)), (3, .int (nI d2)), (4, .int (nI w2))]) hx hb d_Mod_move_34 hl (by decide) rfl (fun ls hl => ?_)
          refine lv_aload_n hx hb d_Mod_move_36 rfl (lv_at hl 1 rfl) ?_
          refine lv_iload hx hb d_Mod_move_37 (lv_at hl 0 rfl) ?_
          refine lv_iconst (v := nI 1) hx hb d_Mod_move_39 (by decide +kernel) ?_
          refine gz_muI (As := [.int (nI 0), .int (nI 1)]) (rest := []) (wc := (wM g k L r)) (w1 := (wM g k L (qTh r (nI 0)))) (wr := []) ⟨hx, hb, hml, hown, hTB⟩ (c_Mod_fails l D g k L hL0 hL r hrB false (nI 1)) (cwV 2 hTB (gd_V k_698 k_700 k_21 k_56 k_701) rfl rfl rfl (by decide +kernel) ⟨Nat.le_of_ble_eq_true rfl, Nat.le_of_ble_eq_true rfl⟩) hK hP hD hA [0, 1, 2, 3, 4, 5, 6, 7, 8, 9, 10] [] rfl rfl (by decide) rfl (by decide) (by decide) 0 rfl rfl rfl hl.1 rfl (Nat.le_of_ble_eq_true rfl) d_Mod_move_40 ⟨Nat.zero_le _, Nat.zero_le _⟩ hS (fun H locs hP hD hS => ?_)
          have hP : va_P D cl5 (wM g k L (qTh r (nI 0))) H := hP
          have hD : va_D A (wM g k L (qTh r (nI 0))) := hD
          have hrB : rB (qTh r (nI 0)) := fun q => hrB q
          refine gz_ifz_eq (tgt := 50) hx hb d_Mod_move_43 (by decide) (fun h43 => ?_) (fun h43 => ?_)
          · refine lv_aload_n hx hb d_Mod_move_50 rfl (lv_at hl 1 rfl) ?_
            refine lv_iconst (v := nI 3) hx hb d_Mod_move_51 (by decide +kernel) ?_
            refine lv_iload_n hx hb d_Mod_move_52 rfl (lv_at hl 2 rfl) ?_
            refine lv_iload_n hx hb d_Mod_move_53 rfl (lv_at hl 3 rfl) ?_
            refine lv_iload_n hx hb d_Mod_move_54 rfl (lv_at hl 4 rfl) ?_
            refine lv_iload hx hb d_Mod_move_55 (lv_at hl 5 rfl) ?_
            refine gz_muI (As := [.int (nI 3), .int (nI d), .int (nI w), .int (nI d2), .int (nI w2)]) (rest := []) (wc := (wM g k L (qTh r (nI 0)))) (w1 := (wM g k L ((dsR L (opMv L d w d2 w2) (qTh r (nI 0))).2))) (wr := []) ⟨hx, hb, hml, hown, hTB⟩ (c_Mod_does_move l D g k L hL0 hL (qTh r (nI 0)) hrB d w d2 w2 (by omega) (by omega) (by omega) (by omega) hq) (cwV 5 hTB (gd_V k_714 k_716 k_22 k_56 k_717) rfl rfl rfl (by decide +kernel) ⟨Nat.le_of_ble_eq_true rfl, Nat.le_of_ble_eq_true rfl⟩) hK hP hD hA [0, 1, 2, 3, 4, 5, 6, 7, 8, 9, 10] [] rfl rfl (by decide) rfl (by decide) (by decide) 0 rfl rfl rfl hl.1 rfl (Nat.le_of_ble_eq_true rfl) d_Mod_move_57 ⟨Nat.zero_le _, Nat.zero_le _⟩ hS (fun H locs hP hD hS => ?_)
            have hP : va_P D cl5 (wM g k L ((dsR L (opMv L d w d2 w2) (qTh r (nI 0))).2)) H := hP
            have hD : va_D A (wM g k L ((dsR L (opMv L d w d2 w2) (qTh r (nI 0))).2)) := hD
            have hP9 : va_P D cl5 (wM g k L ((dsR L (opMv L d w d2 w2) (qTh r (nI 0))).2)) H := hP
            have hD9 : va_D A (wM g k L ((dsR L (opMv L d w d2 w2) (qTh r (nI 0))).2)) := hD
            exact W.iret (v := (dsR L (opMv L d w d2 w2) (qTh r (nI 0))).1) hx hb hr (fun tt9 ht9 hW9 => ⟨⟨_, (), rfl, rfl, ⟨by rw [ht9]; exact hP9, hD9⟩⟩, hS.F ht9⟩) hS.2.2 d_Mod_move_60
          · exact absurd h43 (by decide)
        · exact absurd h26 (by rw [inB_f (by omega) (by omega) (by decide)]; decide)
set_option maxHeartbeats 4000000 in
set_option maxRecDepth 100000 in
theorem c_Mod_move_b (l : Launch) (D : va_G) (g : Nat → Nat) (k : Nat → ClassId) (L : Nat) (hL0 : 96 ≤ L) (hL : L ≤ 768) (r : RSt) (hrB : rB r) (x y x2 y2 : Int32) (hbad : (!inR x (nI 0) (nI 63) || !inR y (nI 1) (nI 65535) || !inR x2 (nI 0) (nI 63) || !inR y2 (nI 1) (nI 65535)) = true) : MuI l y_Mod_move w_Mod_move ({ frames := 8, cells := 0, slots := 0, locals := 196 }) [.ref (g 20), .int (x), .int (y), .int (x2), .int (y2)] D cl5 (tyC k) (wM g k L r) (wM g k L (qTh r (nI 1))) (nI 0) := by
  intro sz
  refine Met.ofW (cc := b_Mod_move) (maxL := 6) (ret := (some .int)) (by decide) rfl ?_
  intro p9 e9 s m args9 below9 meth9 c9 s₁ B hml hv
  obtain ⟨rfl, hsz, hP, hK, hD0⟩ := hv
  have hx := B.exec
  have hb := B.bytes
  have hr := B.returns
  have hts := atoms_spec (ws := w_Mod_move) B.pre
  have hTB : ∀ w ∈ lw_tb, w.before _ s = true := fun w h => hts w (List.mem_cons_of_mem _ h)
  have hown : s.vm.findClass R_Mod = some m.cls := findClass_of_methodNamed B.named
  have hlocks := B.notSynchronized
  subst hsz
  have hD := hD0.self (sz := s.heap.size)
  generalize hAe : va_A (wM g k L r) s.heap.size = A at hD ⊢
  have hA : ∀ q : Nat, s.heap.size ≤ q → A q := fun q h => by rw [← hAe]; exact Or.inr h
  have hS : va_S A s.heap s.heap [] := va_S.rf
  have hl := lv_entry ([.ref (g 20), .int (x), .int (y), .int (x2), .int (y2)]) (n := 6) (Nat.le_of_ble_eq_true rfl)
  rw [lg_entry_eq]
  generalize (lg_sl ([.ref (g 20), .int (x), .int (y), .int (x2), .int (y2)]) ++ List.replicate (6 - (lg_sl ([.ref (g 20), .int (x), .int (y), .int (x2), .int (y2)])).length) Slot.unset).toArray = ls at hl ⊢
  have hl : lv_has ls 6 [(0, .ref (g 20)), (1, .int (x)), (2, .int (y)), (3, .int (x2)), (4, .int (y2))] := hl
  refine lv_iload_n hx hb d_Mod_move_0 rfl (lv_at hl 1 rfl) ?_
  refine gz_roS (As := [.int (x)]) (rest := []) ⟨hx, hb, hml, hown, hTB⟩ (c_Mod_isBad l x) (cwS 1 hTB (gd_S k_707 k_708 k_56 k_709) rfl rfl rfl (by decide +kernel) ⟨Nat.le_of_ble_eq_true rfl, Nat.le_of_ble_eq_true rfl⟩) hP rfl hl.1 rfl (Nat.le_of_ble_eq_true rfl) d_Mod_move_1 ⟨Nat.zero_le _, Nat.zero_le _⟩ hS (fun H locs hP hS => ?_)
  refine gz_ifz_ne (tgt := 29) hx hb d_Mod_move_4 (by decide) (fun h4 => ?_) (fun h4 => ?_)
  · refine lv_iconst (v := nI 1) hx hb d_Mod_move_29 (by decide +kernel) ?_
    refine lv_goto (tgt := 34) hx hb d_Mod_move_30 (by decide) ?_
    refine lv_istore (lv' := [(5, .int (nI 1)), (0, .ref (g 20)), (1, .int (x)), (2, .int (y)), (3, .int (x2)), (4, .int (y2))]) hx hb d_Mod_move_34 hl (by decide) rfl (fun ls hl => ?_)
    refine lv_aload_n hx hb d_Mod_move_36 rfl (lv_at hl 1 rfl) ?_
    refine lv_iload hx hb d_Mod_move_37 (lv_at hl 0 rfl) ?_
    refine lv_iconst (v := nI 1) hx hb d_Mod_move_39 (by decide +kernel) ?_
    refine gz_muI (As := [.int (nI 1), .int (nI 1)]) (rest := []) (wc := (wM g k L r)) (w1 := (wM g k L (qTh r (nI 1)))) (wr := []) ⟨hx, hb, hml, hown, hTB⟩ (c_Mod_fails l D g k L hL0 hL r hrB true (nI 1)) (cwV 2 hTB (gd_V k_698 k_700 k_21 k_56 k_701) rfl rfl rfl (by decide +kernel) ⟨Nat.le_of_ble_eq_true rfl, Nat.le_of_ble_eq_true rfl⟩) hK hP hD hA [0, 1, 2, 3, 4, 5, 6, 7, 8, 9, 10] [] rfl rfl (by decide) rfl (by decide) (by decide) 0 rfl rfl rfl hl.1 rfl (Nat.le_of_ble_eq_true rfl) d_Mod_move_40 ⟨Nat.zero_le _, Nat.zero_le _⟩ hS (fun H locs hP hD hS => ?_)
    have hP : va_P D cl5 (wM g k L (qTh r (nI 1))) H := hP
    have hD : va_D A (wM g k L (qTh r (nI 1))) := hD
    have hrB : rB (qTh r (nI 1)) := fun q => hrB q
    refine gz_ifz_eq (tgt := 50) hx hb d_Mod_move_43 (by decide) (fun h43 => ?_) (fun h43 => ?_)
    · exact absurd h43 (by decide)
    · refine lv_iconst (v := nI 0) hx hb d_Mod_move_46 (by decide +kernel) ?_
      refine lv_goto (tgt := 60) hx hb d_Mod_move_47 (by decide) ?_
      have hP9 : va_P D cl5 (wM g k L (qTh r (nI 1))) H := hP
      have hD9 : va_D A (wM g k L (qTh r (nI 1))) := hD
      exact W.iret (v := nI 0) hx hb hr (fun tt9 ht9 hW9 => ⟨⟨_, (), rfl, rfl, ⟨by rw [ht9]; exact hP9, hD9⟩⟩, hS.F ht9⟩) hS.2.2 d_Mod_move_60
  · refine lv_iload_n hx hb d_Mod_move_7 rfl (lv_at hl 2 rfl) ?_
    refine gz_roS (As := [.int (y)]) (rest := []) ⟨hx, hb, hml, hown, hTB⟩ (c_Mod_isBadName l y) (cwS 1 hTB (gd_S k_710 k_711 k_56 k_712) rfl rfl rfl (by decide +kernel) ⟨Nat.le_of_ble_eq_true rfl, Nat.le_of_ble_eq_true rfl⟩) hP rfl hl.1 rfl (Nat.le_of_ble_eq_true rfl) d_Mod_move_8 ⟨Nat.zero_le _, Nat.zero_le _⟩ hS (fun H locs hP hS => ?_)
    refine gz_ifz_ne (tgt := 29) hx hb d_Mod_move_11 (by decide) (fun h11 => ?_) (fun h11 => ?_)
    · refine lv_iconst (v := nI 1) hx hb d_Mod_move_29 (by decide +kernel) ?_
      refine lv_goto (tgt := 34) hx hb d_Mod_move_30 (by decide) ?_
      refine lv_istore (lv' := [(5, .int (nI 1)), (0, .ref (g 20)), (1, .int (x)), (2, .int (y)), (3, .int (x2)), (4, .int (y2))]) hx hb d_Mod_move_34 hl (by decide) rfl (fun ls hl => ?_)
      refine lv_aload_n hx hb d_Mod_move_36 rfl (lv_at hl 1 rfl) ?_
      refine lv_iload hx hb d_Mod_move_37 (lv_at hl 0 rfl) ?_
      refine lv_iconst (v := nI 1) hx hb d_Mod_move_39 (by decide +kernel) ?_
      refine gz_muI (As := [.int (nI 1), .int (nI 1)]) (rest := []) (wc := (wM g k L r)) (w1 := (wM g k L (qTh r (nI 1)))) (wr := []) ⟨hx, hb, hml, hown, hTB⟩ (c_Mod_fails l D g k L hL0 hL r hrB true (nI 1)) (cwV 2 hTB (gd_V k_698 k_700 k_21 k_56 k_701) rfl rfl rfl (by decide +kernel) ⟨Nat.le_of_ble_eq_true rfl, Nat.le_of_ble_eq_true rfl⟩) hK hP hD hA [0, 1, 2, 3, 4, 5, 6, 7, 8, 9, 10] [] rfl rfl (by decide) rfl (by decide) (by decide) 0 rfl rfl rfl hl.1 rfl (Nat.le_of_ble_eq_true rfl) d_Mod_move_40 ⟨Nat.zero_le _, Nat.zero_le _⟩ hS (fun H locs hP hD hS => ?_)
      have hP : va_P D cl5 (wM g k L (qTh r (nI 1))) H := hP
      have hD : va_D A (wM g k L (qTh r (nI 1))) := hD
      have hrB : rB (qTh r (nI 1)) := fun q => hrB q
      refine gz_ifz_eq (tgt := 50) hx hb d_Mod_move_43 (by decide) (fun h43 => ?_) (fun h43 => ?_)
      · exact absurd h43 (by decide)
      · refine lv_iconst (v := nI 0) hx hb d_Mod_move_46 (by decide +kernel) ?_
        refine lv_goto (tgt := 60) hx hb d_Mod_move_47 (by decide) ?_
        have hP9 : va_P D cl5 (wM g k L (qTh r (nI 1))) H := hP
        have hD9 : va_D A (wM g k L (qTh r (nI 1))) := hD
        exact W.iret (v := nI 0) hx hb hr (fun tt9 ht9 hW9 => ⟨⟨_, (), rfl, rfl, ⟨by rw [ht9]; exact hP9, hD9⟩⟩, hS.F ht9⟩) hS.2.2 d_Mod_move_60
    · refine lv_iload_n hx hb d_Mod_move_14 rfl (lv_at hl 3 rfl) ?_
      refine gz_roS (As := [.int (x2)]) (rest := []) ⟨hx, hb, hml, hown, hTB⟩ (c_Mod_isBad l x2) (cwS 1 hTB (gd_S k_707 k_708 k_56 k_709) rfl rfl rfl (by decide +kernel) ⟨Nat.le_of_ble_eq_true rfl, Nat.le_of_ble_eq_true rfl⟩) hP rfl hl.1 rfl (Nat.le_of_ble_eq_true rfl) d_Mod_move_15 ⟨Nat.zero_le _, Nat.zero_le _⟩ hS (fun H locs hP hS => ?_)
      refine gz_ifz_ne (tgt := 29) hx hb d_Mod_move_18 (by decide) (fun h18 => ?_) (fun h18 => ?_)
      · refine lv_iconst (v := nI 1) hx hb d_Mod_move_29 (by decide +kernel) ?_
        refine lv_goto (tgt := 34) hx hb d_Mod_move_30 (by decide) ?_
        refine lv_istore (lv' := [(5, .int (nI 1)), (0, .ref (g 20)), (1, .int (x)), (2, .int (y)), (3, .int (x2)), (4, .int (y2))]) hx hb d_Mod_move_34 hl (by decide) rfl (fun ls hl => ?_)
        refine lv_aload_n hx hb d_Mod_move_36 rfl (lv_at hl 1 rfl) ?_
        refine lv_iload hx hb d_Mod_move_37 (lv_at hl 0 rfl) ?_
        refine lv_iconst (v := nI 1) hx hb d_Mod_move_39 (by decide +kernel) ?_
        refine gz_muI (As := [.int (nI 1), .int (nI 1)]) (rest := []) (wc := (wM g k L r)) (w1 := (wM g k L (qTh r (nI 1)))) (wr := []) ⟨hx, hb, hml, hown, hTB⟩ (c_Mod_fails l D g k L hL0 hL r hrB true (nI 1)) (cwV 2 hTB (gd_V k_698 k_700 k_21 k_56 k_701) rfl rfl rfl (by decide +kernel) ⟨Nat.le_of_ble_eq_true rfl, Nat.le_of_ble_eq_true rfl⟩) hK hP hD hA [0, 1, 2, 3, 4, 5, 6, 7, 8, 9, 10] [] rfl rfl (by decide) rfl (by decide) (by decide) 0 rfl rfl rfl hl.1 rfl (Nat.le_of_ble_eq_true rfl) d_Mod_move_40 ⟨Nat.zero_le _, Nat.zero_le _⟩ hS (fun H locs hP hD hS => ?_)
        have hP : va_P D cl5 (wM g k L (qTh r (nI 1))) H := hP
        have hD : va_D A (wM g k L (qTh r (nI 1))) := hD
        have hrB : rB (qTh r (nI 1)) := fun q => hrB q
        refine gz_ifz_eq (tgt := 50) hx hb d_Mod_move_43 (by decide) (fun h43 => ?_) (fun h43 => ?_)
        · exact absurd h43 (by decide)
        · refine lv_iconst (v := nI 0) hx hb d_Mod_move_46 (by decide +kernel) ?_
          refine lv_goto (tgt := 60) hx hb d_Mod_move_47 (by decide) ?_
          have hP9 : va_P D cl5 (wM g k L (qTh r (nI 1))) H := hP
          have hD9 : va_D A (wM g k L (qTh r (nI 1))) := hD
          exact W.iret (v := nI 0) hx hb hr (fun tt9 ht9 hW9 => ⟨⟨_, (), rfl, rfl, ⟨by rw [ht9]; exact hP9, hD9⟩⟩, hS.F ht9⟩) hS.2.2 d_Mod_move_60
      · refine lv_iload hx hb d_Mod_move_21 (lv_at hl 4 rfl) ?_
        refine gz_roS (As := [.int (y2)]) (rest := []) ⟨hx, hb, hml, hown, hTB⟩ (c_Mod_isBadName l y2) (cwS 1 hTB (gd_S k_710 k_711 k_56 k_712) rfl rfl rfl (by decide +kernel) ⟨Nat.le_of_ble_eq_true rfl, Nat.le_of_ble_eq_true rfl⟩) hP rfl hl.1 rfl (Nat.le_of_ble_eq_true rfl) d_Mod_move_23 ⟨Nat.zero_le _, Nat.zero_le _⟩ hS (fun H locs hP hS => ?_)
        refine gz_ifz_eq (tgt := 33) hx hb d_Mod_move_26 (by decide) (fun h26 => ?_) (fun h26 => ?_)
        · exact absurd hbad (by rw [h4, h11, h18, h26]; decide)
        · refine lv_iconst (v := nI 1) hx hb d_Mod_move_29 (by decide +kernel) ?_
          refine lv_goto (tgt := 34) hx hb d_Mod_move_30 (by decide) ?_
          refine lv_istore (lv' := [(5, .int (nI 1)), (0, .ref (g 20)), (1, .int (x)), (2, .int (y)), (3, .int (x2)), (4, .int (y2))]) hx hb d_Mod_move_34 hl (by decide) rfl (fun ls hl => ?_)
          refine lv_aload_n hx hb d_Mod_move_36 rfl (lv_at hl 1 rfl) ?_
          refine lv_iload hx hb d_Mod_move_37 (lv_at hl 0 rfl) ?_
          refine lv_iconst (v := nI 1) hx hb d_Mod_move_39 (by decide +kernel) ?_
          refine gz_muI (As := [.int (nI 1), .int (nI 1)]) (rest := []) (wc := (wM g k L r)) (w1 := (wM g k L (qTh r (nI 1)))) (wr := []) ⟨hx, hb, hml, hown, hTB⟩ (c_Mod_fails l D g k L hL0 hL r hrB true (nI 1)) (cwV 2 hTB (gd_V k_698 k_700 k_21 k_56 k_701) rfl rfl rfl (by decide +kernel) ⟨Nat.le_of_ble_eq_true rfl, Nat.le_of_ble_eq_true rfl⟩) hK hP hD hA [0, 1, 2, 3, 4, 5, 6, 7, 8, 9, 10] [] rfl rfl (by decide) rfl (by decide) (by decide) 0 rfl rfl rfl hl.1 rfl (Nat.le_of_ble_eq_true rfl) d_Mod_move_40 ⟨Nat.zero_le _, Nat.zero_le _⟩ hS (fun H locs hP hD hS => ?_)
          have hP : va_P D cl5 (wM g k L (qTh r (nI 1))) H := hP
          have hD : va_D A (wM g k L (qTh r (nI 1))) := hD
          have hrB : rB (qTh r (nI 1)) := fun q => hrB q
          refine gz_ifz_eq (tgt := 50) hx hb d_Mod_move_43 (by decide) (fun h43 => ?_) (fun h43 => ?_)
          · exact absurd h43 (by decide)
          · refine lv_iconst (v := nI 0) hx hb d_Mod_move_46 (by decide +kernel) ?_
            refine lv_goto (tgt := 60) hx hb d_Mod_move_47 (by decide) ?_
            have hP9 : va_P D cl5 (wM g k L (qTh r (nI 1))) H := hP
            have hD9 : va_D A (wM g k L (qTh r (nI 1))) := hD
            exact W.iret (v := nI 0) hx hb hr (fun tt9 ht9 hW9 => ⟨⟨_, (), rfl, rfl, ⟨by rw [ht9]; exact hP9, hD9⟩⟩, hS.F ht9⟩) hS.2.2 d_Mod_move_60
theorem d_Mod_commit_0 : decode b_Mod_commit 0 = .ok (.aload_n 0, 1) := by decide +kernel
theorem d_Mod_commit_1 : decode b_Mod_commit 1 = .ok (.iconst 0, 1) := by decide +kernel
theorem d_Mod_commit_2 : decode b_Mod_commit 2 = .ok (.putfield 49, 3) := by decide +kernel
theorem d_Mod_commit_5 : decode b_Mod_commit 5 = .ok (.aload_n 0, 1) := by decide +kernel
theorem d_Mod_commit_6 : decode b_Mod_commit 6 = .ok (.invokevirtual 45, 3) := by decide +kernel
theorem d_Mod_commit_9 : decode b_Mod_commit 9 = .ok (.ireturn, 1) := by decide +kernel
set_option maxHeartbeats 4000000 in
set_option maxRecDepth 100000 in
theorem c_Mod_commit (l : Launch) (D : va_G) (g : Nat → Nat) (k : Nat → ClassId) (L : Nat) (hL0 : 96 ≤ L) (hL : L ≤ 768) (r : RSt) (hrB : rB r) (hX : ∀ i, i < 64 → rNd r (20 * i + 2) ≤ 8) : MuI l y_Mod_commit w_Mod_commit ({ frames := 5, cells := 0, slots := 0, locals := 115 }) [.ref (g 20)] D cl5 (tyC k) (wM g k L r) (wM g k L (cmR L (qTh r (nI 0)))) (nI (chR L (qTh r (nI 0)))) := by
  intro sz
  refine Met.ofW (cc := b_Mod_commit) (maxL := 1) (ret := (some .int)) (by decide) rfl ?_
  intro p9 e9 s m args9 below9 meth9 c9 s₁ B hml hv
  obtain ⟨rfl, hsz, hP, hK, hD0⟩ := hv
  have hx := B.exec
  have hb := B.bytes
  have hr := B.returns
  have hts := atoms_spec (ws := w_Mod_commit) B.pre
  have hTB : ∀ w ∈ lw_tb, w.before _ s = true := fun w h => hts w (List.mem_cons_of_mem _ h)
  have hown : s.vm.findClass R_Mod = some m.cls := findClass_of_methodNamed B.named
  have hlocks := B.notSynchronized
  subst hsz
  have hD := hD0.self (sz := s.heap.size)
  generalize hAe : va_A (wM g k L r) s.heap.size = A at hD ⊢
  have hA : ∀ q : Nat, s.heap.size ≤ q → A q := fun q h => by rw [← hAe]; exact Or.inr h
  have hS : va_S A s.heap s.heap [] := va_S.rf
  have hl := lv_entry ([.ref (g 20)]) (n := 1) (Nat.le_of_ble_eq_true rfl)
  rw [lg_entry_eq]
  generalize (lg_sl ([.ref (g 20)]) ++ List.replicate (1 - (lg_sl ([.ref (g 20)])).length) Slot.unset).toArray = ls at hl ⊢
  have hl : lv_has ls 1 [(0, .ref (g 20))] := hl
  refine lv_aload_n hx hb d_Mod_commit_0 rfl (lv_at hl 0 rfl) ?_
  refine lv_iconst (v := nI 0) hx hb d_Mod_commit_1 (by decide +kernel) ?_
  refine va_put (D := D) (ci := 4) (v := .int (nI 0)) (ty := .int) (C := R_Mod) (T := T_Mod) (N := 14) hx hb hTB in_Mod t_Mod t_Mod_ok n_Mod hown hK hP hD hS 0 rfl rfl 0 (by decide) (hTB _ k_644) (fun _ h9 => h9) rfl (by decide +kernel) rfl rfl (Nat.le_of_ble_eq_true rfl) d_Mod_commit_2 (fun H locs hP hD hS => ?_)
  have hP : va_P D cl5 (wM g k L (qTh r (nI 0))) H := hP
  have hD : va_D A (wM g k L (qTh r (nI 0))) := hD
  have hrB : rB (qTh r (nI 0)) := fun q => hrB q
  refine lv_aload_n hx hb d_Mod_commit_5 rfl (lv_at hl 0 rfl) ?_
  refine gz_muI (As := []) (rest := []) (wc := (wM g k L (qTh r (nI 0)))) (w1 := (wM g k L (cmR L (qTh r (nI 0))))) (wr := []) ⟨hx, hb, hml, hown, hTB⟩ (c_Mod_commitsAll l D g k L hL0 hL (qTh r (nI 0)) hrB hX) (cwV 0 hTB (gd_V k_617 k_619 k_15 k_56 k_620) rfl rfl rfl (by decide +kernel) ⟨Nat.le_of_ble_eq_true rfl, Nat.le_of_ble_eq_true rfl⟩) hK hP hD hA [0, 1, 2, 3, 4, 5, 6, 7, 8, 9, 10] [] rfl rfl (by decide) rfl (by decide) (by decide) 0 rfl rfl rfl hl.1 rfl (Nat.le_of_ble_eq_true rfl) d_Mod_commit_6 ⟨Nat.zero_le _, Nat.zero_le _⟩ hS (fun H locs hP hD hS => ?_)
  have hP : va_P D cl5 (wM g k L (cmR L (qTh r (nI 0)))) H := hP
  have hD : va_D A (wM g k L (cmR L (qTh r (nI 0)))) := hD
  have hP9 : va_P D cl5 (wM g k L (cmR L (qTh r (nI 0)))) H := hP
  have hD9 : va_D A (wM g k L (cmR L (qTh r (nI 0)))) := hD
  exact W.iret (v := nI (chR L (qTh r (nI 0)))) hx hb hr (fun tt9 ht9 hW9 => ⟨⟨_, (), rfl, rfl, ⟨by rw [ht9]; exact hP9, hD9⟩⟩, hS.F ht9⟩) hS.2.2 d_Mod_commit_9
theorem d_Mod_drop_0 : decode b_Mod_drop 0 = .ok (.aload_n 0, 1) := by decide +kernel
theorem d_Mod_drop_1 : decode b_Mod_drop 1 = .ok (.iconst 0, 1) := by decide +kernel
theorem d_Mod_drop_2 : decode b_Mod_drop 2 = .ok (.putfield 49, 3) := by decide +kernel
theorem d_Mod_drop_5 : decode b_Mod_drop 5 = .ok (.aload_n 0, 1) := by decide +kernel
theorem d_Mod_drop_6 : decode b_Mod_drop 6 = .ok (.invokevirtual 67, 3) := by decide +kernel
theorem d_Mod_drop_9 : decode b_Mod_drop 9 = .ok (.istore_n 1, 1) := by decide +kernel
theorem d_Mod_drop_10 : decode b_Mod_drop 10 = .ok (.aload_n 0, 1) := by decide +kernel
theorem d_Mod_drop_11 : decode b_Mod_drop 11 = .ok (.getfield 23, 3) := by decide +kernel
theorem d_Mod_drop_14 : decode b_Mod_drop 14 = .ok (.aload_n 0, 1) := by decide +kernel
theorem d_Mod_drop_15 : decode b_Mod_drop 15 = .ok (.getfield 13, 3) := by decide +kernel
theorem d_Mod_drop_18 : decode b_Mod_drop 18 = .ok (.invokestatic 70, 3) := by decide +kernel
theorem d_Mod_drop_21 : decode b_Mod_drop 21 = .ok (.aload_n 0, 1) := by decide +kernel
theorem d_Mod_drop_22 : decode b_Mod_drop 22 = .ok (.getfield 26, 3) := by decide +kernel
theorem d_Mod_drop_25 : decode b_Mod_drop 25 = .ok (.aload_n 0, 1) := by decide +kernel
theorem d_Mod_drop_26 : decode b_Mod_drop 26 = .ok (.getfield 16, 3) := by decide +kernel
theorem d_Mod_drop_29 : decode b_Mod_drop 29 = .ok (.invokestatic 70, 3) := by decide +kernel
theorem d_Mod_drop_32 : decode b_Mod_drop 32 = .ok (.aload_n 0, 1) := by decide +kernel
theorem d_Mod_drop_33 : decode b_Mod_drop 33 = .ok (.getfield 29, 3) := by decide +kernel
theorem d_Mod_drop_36 : decode b_Mod_drop 36 = .ok (.aload_n 0, 1) := by decide +kernel
theorem d_Mod_drop_37 : decode b_Mod_drop 37 = .ok (.getfield 20, 3) := by decide +kernel
theorem d_Mod_drop_40 : decode b_Mod_drop 40 = .ok (.invokestatic 70, 3) := by decide +kernel
theorem d_Mod_drop_43 : decode b_Mod_drop 43 = .ok (.iload_n 1, 1) := by decide +kernel
theorem d_Mod_drop_44 : decode b_Mod_drop 44 = .ok (.ireturn, 1) := by decide +kernel
set_option maxHeartbeats 4000000 in
set_option maxRecDepth 100000 in
theorem c_Mod_drop (l : Launch) (D : va_G) (g : Nat → Nat) (k : Nat → ClassId) (L : Nat) (hL0 : 96 ≤ L) (hL : L ≤ 768) (r : RSt) (hrB : rB r) (hX : ∀ i, i < 64 → rNd r (20 * i + 2) ≤ 8) : MuI l y_Mod_drop w_Mod_drop ({ frames := 4, cells := 0, slots := 0, locals := 92 }) [.ref (g 20)] D cl5 (tyC k) (wM g k L r) (wM g k L (drR (qTh r (nI 0)))) (nI (chR L (qTh r (nI 0)))) := by
  intro sz
  refine Met.ofW (cc := b_Mod_drop) (maxL := 2) (ret := (some .int)) (by decide) rfl ?_
  intro p9 e9 s m args9 below9 meth9 c9 s₁ B hml hv
  obtain ⟨rfl, hsz, hP, hK, hD0⟩ := hv
  have hx := B.exec
  have hb := B.bytes
  have hr := B.returns
  have hts := atoms_spec (ws := w_Mod_drop) B.pre
  have hTB : ∀ w ∈ lw_tb, w.before _ s = true := fun w h => hts w (List.mem_cons_of_mem _ h)
  have hown : s.vm.findClass R_Mod = some m.cls := findClass_of_methodNamed B.named
  have hlocks := B.notSynchronized
  subst hsz
  have hD := hD0.self (sz := s.heap.size)
  generalize hAe : va_A (wM g k L r) s.heap.size = A at hD ⊢
  have hA : ∀ q : Nat, s.heap.size ≤ q → A q := fun q h => by rw [← hAe]; exact Or.inr h
  have hS : va_S A s.heap s.heap [] := va_S.rf
  have hl := lv_entry ([.ref (g 20)]) (n := 2) (Nat.le_of_ble_eq_true rfl)
  rw [lg_entry_eq]
  generalize (lg_sl ([.ref (g 20)]) ++ List.replicate (2 - (lg_sl ([.ref (g 20)])).length) Slot.unset).toArray = ls at hl ⊢
  have hl : lv_has ls 2 [(0, .ref (g 20))] := hl
  refine lv_aload_n hx hb d_Mod_drop_0 rfl (lv_at hl 0 rfl) ?_
  refine lv_iconst (v := nI 0) hx hb d_Mod_drop_1 (by decide +kernel) ?_
  refine va_put (D := D) (ci := 4) (v := .int (nI 0)) (ty := .int) (C := R_Mod) (T := T_Mod) (N := 14) hx hb hTB in_Mod t_Mod t_Mod_ok n_Mod hown hK hP hD hS 0 rfl rfl 0 (by decide) (hTB _ k_644) (fun _ h9 => h9) rfl (by decide +kernel) rfl rfl (Nat.le_of_ble_eq_true rfl) d_Mod_drop_2 (fun H locs hP hD hS => ?_)
  have hP : va_P D cl5 (wM g k L (qTh r (nI 0))) H := hP
  have hD : va_D A (wM g k L (qTh r (nI 0))) := hD
  have hrB : rB (qTh r (nI 0)) := fun q => hrB q
  refine lv_aload_n hx hb d_Mod_drop_5 rfl (lv_at hl 0 rfl) ?_
  refine gz_roV (As := []) (rest := []) (wc := (wM g k L (qTh r (nI 0)))) ⟨hx, hb, hml, hown, hTB⟩ (c_Mod_changes l D g k L hL0 hL (qTh r (nI 0)) hrB hX) (cwV 0 hTB (gd_V k_621 k_623 k_16 k_56 k_624) rfl rfl rfl (by decide +kernel) ⟨Nat.le_of_ble_eq_true rfl, Nat.le_of_ble_eq_true rfl⟩) hK hP [0, 1, 2, 3, 4, 5, 6, 7, 8, 9, 10] rfl 0 rfl rfl rfl hl.1 rfl (Nat.le_of_ble_eq_true rfl) d_Mod_drop_6 ⟨Nat.zero_le _, Nat.zero_le _⟩ hS (fun H locs hP hS => ?_)
  have := chG_le L (qTh r (nI 0)) (L - 25) 25
  have : chR L (qTh r (nI 0)) ≤ L - 25 := this
  refine lv_istore_n (lv' := [(1, .int (nI (chR L (qTh r (nI 0))))), (0, .ref (g 20))]) hx hb d_Mod_drop_9 rfl hl (by decide) rfl (fun ls hl => ?_)
  refine lv_aload_n hx hb d_Mod_drop_10 rfl (lv_at hl 1 rfl) ?_
  refine va_get (D := D) (ci := 4) (v := .ref (g 25)) (C := R_Mod) (T := T_Mod) (N := 14) hx hb hTB in_Mod hown hK hP 0 rfl rfl 7 (by decide) (hTB _ k_651) (fun _ h9 => h9) rfl d_Mod_drop_11 ?_
  refine lv_aload_n hx hb d_Mod_drop_14 rfl (lv_at hl 1 rfl) ?_
  refine va_get (D := D) (ci := 4) (v := .ref (g 22)) (C := R_Mod) (T := T_Mod) (N := 14) hx hb hTB in_Mod hown hK hP 0 rfl rfl 4 (by decide) (hTB _ k_648) (fun _ h9 => h9) rfl d_Mod_drop_15 ?_
  refine gz_muS (As := [.ref (g 25), .ref (g 22)]) (rest := []) (wc := (wB (g 25) (g 22) k 1280 (rKn (qTh r (nI 0))) (rNd (qTh r (nI 0))))) (w1 := (wB (g 25) (g 22) k 1280 (rKn (qTh r (nI 0))) (cpM (rKn (qTh r (nI 0))) (rNd (qTh r (nI 0))) 1280))) (wr := [(g 20, .inr (4, [.int (rTh (qTh r (nI 0))), .int (nI L), .ref (g 21), .int (nI (rTl (qTh r (nI 0)))), .ref (g 22), .ref (g 23), .ref (g 24), .ref (g 25), .ref (g 26), .ref (g 27), .ref (g 28), .ref (g 29), .ref (g 30), .int (rCm (qTh r (nI 0)))])), (g 21, ac (k 2) 512 (rTp (qTh r (nI 0)))), (g 23, ac (k 2) 768 (rOw (qTh r (nI 0)))), (g 24, ac (k 2) 49152 (rNw (qTh r (nI 0)))), (g 26, ac (k 2) 768 (rKo (qTh r (nI 0)))), (g 27, ac (k 2) 49152 (rDn (qTh r (nI 0)))), (g 28, ac (k 2) 1280 (rAn (qTh r (nI 0)))), (g 29, ac (k 2) 768 (rAo (qTh r (nI 0)))), (g 30, ac (k 2) 49152 (rAw (qTh r (nI 0))))]) ⟨hx, hb, hml, hown, hTB⟩ (c_Mod_copy l D (g 25) (g 22) k 1280 (by decide) (rKn (qTh r (nI 0))) (rNd (qTh r (nI 0)))) (cwS 2 hTB (gd_S k_641 k_642 k_56 k_643) rfl rfl rfl (by decide +kernel) ⟨Nat.le_of_ble_eq_true rfl, Nat.le_of_ble_eq_true rfl⟩) hK hP hD hA [5, 2] [0, 1, 3, 4, 6, 7, 8, 9, 10] rfl rfl (by decide) rfl (by decide) (by decide) rfl hl.1 rfl (Nat.le_of_ble_eq_true rfl) d_Mod_drop_18 ⟨Nat.zero_le _, Nat.zero_le _⟩ hS (fun H locs hP hD hS => ?_)
  have hP : va_P D cl5 (wM g k L (qNd (qTh r (nI 0)) (cpM (rKn (qTh r (nI 0))) (rNd (qTh r (nI 0))) 1280))) H := hP.sub [0, 1, 10, 2, 3, 9, 4, 5, 6, 7, 8] rfl
  have hD : va_D A (wM g k L (qNd (qTh r (nI 0)) (cpM (rKn (qTh r (nI 0))) (rNd (qTh r (nI 0))) 1280))) := hD.sub [0, 1, 10, 2, 3, 9, 4, 5, 6, 7, 8] (by decide) rfl
  have hrB := rBc_nd (n := 1280) (f := rKn (qTh r (nI 0))) hrB (fun q => (hrB q).2.2.2.2.1)
  refine lv_aload_n hx hb d_Mod_drop_21 rfl (lv_at hl 1 rfl) ?_
  refine va_get (D := D) (ci := 4) (v := .ref (g 26)) (C := R_Mod) (T := T_Mod) (N := 14) hx hb hTB in_Mod hown hK hP 0 rfl rfl 8 (by decide) (hTB _ k_652) (fun _ h9 => h9) rfl d_Mod_drop_22 ?_
  refine lv_aload_n hx hb d_Mod_drop_25 rfl (lv_at hl 1 rfl) ?_
  refine va_get (D := D) (ci := 4) (v := .ref (g 23)) (C := R_Mod) (T := T_Mod) (N := 14) hx hb hTB in_Mod hown hK hP 0 rfl rfl 5 (by decide) (hTB _ k_649) (fun _ h9 => h9) rfl d_Mod_drop_26 ?_
  refine gz_muS (As := [.ref (g 26), .ref (g 23)]) (rest := []) (wc := (wB (g 26) (g 23) k 768 (rKo (qNd (qTh r (nI 0)) (cpM (rKn (qTh r (nI 0))) (rNd (qTh r (nI 0))) 1280))) (rOw (qNd (qTh r (nI 0)) (cpM (rKn (qTh r (nI 0))) (rNd (qTh r (nI 0))) 1280))))) (w1 := (wB (g 26) (g 23) k 768 (rKo (qNd (qTh r (nI 0)) (cpM (rKn (qTh r (nI 0))) (rNd (qTh r (nI 0))) 1280))) (cpM (rKo (qNd (qTh r (nI 0)) (cpM (rKn (qTh r (nI 0))) (rNd (qTh r (nI 0))) 1280))) (rOw (qNd (qTh r (nI 0)) (cpM (rKn (qTh r (nI 0))) (rNd (qTh r (nI 0))) 1280))) 768))) (wr := [(g 20, .inr (4, [.int (rTh (qNd (qTh r (nI 0)) (cpM (rKn (qTh r (nI 0))) (rNd (qTh r (nI 0))) 1280))), .int (nI L), .ref (g 21), .int (nI (rTl (qNd (qTh r (nI 0)) (cpM (rKn (qTh r (nI 0))) (rNd (qTh r (nI 0))) 1280)))), .ref (g 22), .ref (g 23), .ref (g 24), .ref (g 25), .ref (g 26), .ref (g 27), .ref (g 28), .ref (g 29), .ref (g 30), .int (rCm (qNd (qTh r (nI 0)) (cpM (rKn (qTh r (nI 0))) (rNd (qTh r (nI 0))) 1280)))])), (g 21, ac (k 2) 512 (rTp (qNd (qTh r (nI 0)) (cpM (rKn (qTh r (nI 0))) (rNd (qTh r (nI 0))) 1280)))), (g 22, ac (k 2) 1280 (rNd (qNd (qTh r (nI 0)) (cpM (rKn (qTh r (nI 0))) (rNd (qTh r (nI 0))) 1280)))), (g 24, ac (k 2) 49152 (rNw (qNd (qTh r (nI 0)) (cpM (rKn (qTh r (nI 0))) (rNd (qTh r (nI 0))) 1280)))), (g 25, ac (k 2) 1280 (rKn (qNd (qTh r (nI 0)) (cpM (rKn (qTh r (nI 0))) (rNd (qTh r (nI 0))) 1280)))), (g 27, ac (k 2) 49152 (rDn (qNd (qTh r (nI 0)) (cpM (rKn (qTh r (nI 0))) (rNd (qTh r (nI 0))) 1280)))), (g 28, ac (k 2) 1280 (rAn (qNd (qTh r (nI 0)) (cpM (rKn (qTh r (nI 0))) (rNd (qTh r (nI 0))) 1280)))), (g 29, ac (k 2) 768 (rAo (qNd (qTh r (nI 0)) (cpM (rKn (qTh r (nI 0))) (rNd (qTh r (nI 0))) 1280)))), (g 30, ac (k 2) 49152 (rAw (qNd (qTh r (nI 0)) (cpM (rKn (qTh r (nI 0))) (rNd (qTh r (nI 0))) 1280))))]) ⟨hx, hb, hml, hown, hTB⟩ (c_Mod_copy l D (g 26) (g 23) k 768 (by decide) (rKo (qNd (qTh r (nI 0)) (cpM (rKn (qTh r (nI 0))) (rNd (qTh r (nI 0))) 1280))) (rOw (qNd (qTh r (nI 0)) (cpM (rKn (qTh r (nI 0))) (rNd (qTh r (nI 0))) 1280)))) (cwS 2 hTB (gd_S k_641 k_642 k_56 k_643) rfl rfl rfl (by decide +kernel) ⟨Nat.le_of_ble_eq_true rfl, Nat.le_of_ble_eq_true rfl⟩) hK hP hD hA [6, 3] [0, 1, 2, 4, 5, 7, 8, 9, 10] rfl rfl (by decide) rfl (by decide) (by decide) rfl hl.1 rfl (Nat.le_of_ble_eq_true rfl) d_Mod_drop_29 ⟨Nat.zero_le _, Nat.zero_le _⟩ hS (fun H locs hP hD hS => ?_)
  have hP : va_P D cl5 (wM g k L (qOw (qNd (qTh r (nI 0)) (cpM (rKn (qTh r (nI 0))) (rNd (qTh r (nI 0))) 1280)) (cpM (rKo (qNd (qTh r (nI 0)) (cpM (rKn (qTh r (nI 0))) (rNd (qTh r (nI 0))) 1280))) (rOw (qNd (qTh r (nI 0)) (cpM (rKn (qTh r (nI 0))) (rNd (qTh r (nI 0))) 1280))) 768))) H := hP.sub [0, 1, 2, 10, 3, 4, 9, 5, 6, 7, 8] rfl
  have hD : va_D A (wM g k L (qOw (qNd (qTh r (nI 0)) (cpM (rKn (qTh r (nI 0))) (rNd (qTh r (nI 0))) 1280)) (cpM (rKo (qNd (qTh r (nI 0)) (cpM (rKn (qTh r (nI 0))) (rNd (qTh r (nI 0))) 1280))) (rOw (qNd (qTh r (nI 0)) (cpM (rKn (qTh r (nI 0))) (rNd (qTh r (nI 0))) 1280))) 768))) := hD.sub [0, 1, 2, 10, 3, 4, 9, 5, 6, 7, 8] (by decide) rfl
  have hrB := rBc_ow (n := 768) (f := rKo (qNd (qTh r (nI 0)) (cpM (rKn (qTh r (nI 0))) (rNd (qTh r (nI 0))) 1280))) hrB (fun q => (hrB q).2.2.2.2.2.1)
  refine lv_aload_n hx hb d_Mod_drop_32 rfl (lv_at hl 1 rfl) ?_
  refine va_get (D := D) (ci := 4) (v := .ref (g 27)) (C := R_Mod) (T := T_Mod) (N := 14) hx hb hTB in_Mod hown hK hP 0 rfl rfl 9 (by decide) (hTB _ k_653) (fun _ h9 => h9) rfl d_Mod_drop_33 ?_
  refine lv_aload_n hx hb d_Mod_drop_36 rfl (lv_at hl 1 rfl) ?_
  refine va_get (D := D) (ci := 4) (v := .ref (g 24)) (C := R_Mod) (T := T_Mod) (N := 14) hx hb hTB in_Mod hown hK hP 0 rfl rfl 6 (by decide) (hTB _ k_650) (fun _ h9 => h9) rfl d_Mod_drop_37 ?_
  refine gz_muS (As := [.ref (g 27), .ref (g 24)]) (rest := []) (wc := (wB (g 27) (g 24) k 49152 (rDn (qOw (qNd (qTh r (nI 0)) (cpM (rKn (qTh r (nI 0))) (rNd (qTh r (nI 0))) 1280)) (cpM (rKo (qNd (qTh r (nI 0)) (cpM (rKn (qTh r (nI 0))) (rNd (qTh r (nI 0))) 1280))) (rOw (qNd (qTh r (nI 0)) (cpM (rKn (qTh r (nI 0))) (rNd (qTh r (nI 0))) 1280))) 768))) (rNw (qOw (qNd (qTh r (nI 0)) (cpM (rKn (qTh r (nI 0))) (rNd (qTh r (nI 0))) 1280)) (cpM (rKo (qNd (qTh r (nI 0)) (cpM (rKn (qTh r (nI 0))) (rNd (qTh r (nI 0))) 1280))) (rOw (qNd (qTh r (nI 0)) (cpM (rKn (qTh r (nI 0))) (rNd (qTh r (nI 0))) 1280))) 768))))) (w1 := (wB (g 27) (g 24) k 49152 (rDn (qOw (qNd (qTh r (nI 0)) (cpM (rKn (qTh r (nI 0))) (rNd (qTh r (nI 0))) 1280)) (cpM (rKo (qNd (qTh r (nI 0)) (cpM (rKn (qTh r (nI 0))) (rNd (qTh r (nI 0))) 1280))) (rOw (qNd (qTh r (nI 0)) (cpM (rKn (qTh r (nI 0))) (rNd (qTh r (nI 0))) 1280))) 768))) (cpM (rDn (qOw (qNd (qTh r (nI 0)) (cpM (rKn (qTh r (nI 0))) (rNd (qTh r (nI 0))) 1280)) (cpM (rKo (qNd (qTh r (nI 0)) (cpM (rKn (qTh r (nI 0))) (rNd (qTh r (nI 0))) 1280))) (rOw (qNd (qTh r (nI 0)) (cpM (rKn (qTh r (nI 0))) (rNd (qTh r (nI 0))) 1280))) 768))) (rNw (qOw (qNd (qTh r (nI 0)) (cpM (rKn (qTh r (nI 0))) (rNd (qTh r (nI 0))) 1280)) (cpM (rKo (qNd (qTh r (nI 0)) (cpM (rKn (qTh r (nI 0))) (rNd (qTh r (nI 0))) 1280))) (rOw (qNd (qTh r (nI 0)) (cpM (rKn (qTh r (nI 0))) (rNd (qTh r (nI 0))) 1280))) 768))) 49152))) (wr := [(g 20, .inr (4, [.int (rTh (qOw (qNd (qTh r (nI 0)) (cpM (rKn (qTh r (nI 0))) (rNd (qTh r (nI 0))) 1280)) (cpM (rKo (qNd (qTh r (nI 0)) (cpM (rKn (qTh r (nI 0))) (rNd (qTh r (nI 0))) 1280))) (rOw (qNd (qTh r (nI 0)) (cpM (rKn (qTh r (nI 0))) (rNd (qTh r (nI 0))) 1280))) 768))), .int (nI L), .ref (g 21), .int (nI (rTl (qOw (qNd (qTh r (nI 0)) (cpM (rKn (qTh r (nI 0))) (rNd (qTh r (nI 0))) 1280)) (cpM (rKo (qNd (qTh r (nI 0)) (cpM (rKn (qTh r (nI 0))) (rNd (qTh r (nI 0))) 1280))) (rOw (qNd (qTh r (nI 0)) (cpM (rKn (qTh r (nI 0))) (rNd (qTh r (nI 0))) 1280))) 768)))), .ref (g 22), .ref (g 23), .ref (g 24), .ref (g 25), .ref (g 26), .ref (g 27), .ref (g 28), .ref (g 29), .ref (g 30), .int (rCm (qOw (qNd (qTh r (nI 0)) (cpM (rKn (qTh r (nI 0))) (rNd (qTh r (nI 0))) 1280)) (cpM (rKo (qNd (qTh r (nI 0)) (cpM (rKn (qTh r (nI 0))) (rNd (qTh r (nI 0))) 1280))) (rOw (qNd (qTh r (nI 0)) (cpM (rKn (qTh r (nI 0))) (rNd (qTh r (nI 0))) 1280))) 768)))])), (g 21, ac (k 2) 512 (rTp (qOw (qNd (qTh r (nI 0)) (cpM (rKn (qTh r (nI 0))) (rNd (qTh r (nI 0))) 1280)) (cpM (rKo (qNd (qTh r (nI 0)) (cpM (rKn (qTh r (nI 0))) (rNd (qTh r (nI 0))) 1280))) (rOw (qNd (qTh r (nI 0)) (cpM (rKn (qTh r (nI 0))) (rNd (qTh r (nI 0))) 1280))) 768)))), (g 22, ac (k 2) 1280 (rNd (qOw (qNd (qTh r (nI 0)) (cpM (rKn (qTh r (nI 0))) (rNd (qTh r (nI 0))) 1280)) (cpM (rKo (qNd (qTh r (nI 0)) (cpM (rKn (qTh r (nI 0))) (rNd (qTh r (nI 0))) 1280))) (rOw (qNd (qTh r (nI 0)) (cpM (rKn (qTh r (nI 0))) (rNd (qTh r (nI 0))) 1280))) 768)))), (g 23, ac (k 2) 768 (rOw (qOw (qNd (qTh r (nI 0)) (cpM (rKn (qTh r (nI 0))) (rNd (qTh r (nI 0))) 1280)) (cpM (rKo (qNd (qTh r (nI 0)) (cpM (rKn (qTh r (nI 0))) (rNd (qTh r (nI 0))) 1280))) (rOw (qNd (qTh r (nI 0)) (cpM (rKn (qTh r (nI 0))) (rNd (qTh r (nI 0))) 1280))) 768)))), (g 25, ac (k 2) 1280 (rKn (qOw (qNd (qTh r (nI 0)) (cpM (rKn (qTh r (nI 0))) (rNd (qTh r (nI 0))) 1280)) (cpM (rKo (qNd (qTh r (nI 0)) (cpM (rKn (qTh r (nI 0))) (rNd (qTh r (nI 0))) 1280))) (rOw (qNd (qTh r (nI 0)) (cpM (rKn (qTh r (nI 0))) (rNd (qTh r (nI 0))) 1280))) 768)))), (g 26, ac (k 2) 768 (rKo (qOw (qNd (qTh r (nI 0)) (cpM (rKn (qTh r (nI 0))) (rNd (qTh r (nI 0))) 1280)) (cpM (rKo (qNd (qTh r (nI 0)) (cpM (rKn (qTh r (nI 0))) (rNd (qTh r (nI 0))) 1280))) (rOw (qNd (qTh r (nI 0)) (cpM (rKn (qTh r (nI 0))) (rNd (qTh r (nI 0))) 1280))) 768)))), (g 28, ac (k 2) 1280 (rAn (qOw (qNd (qTh r (nI 0)) (cpM (rKn (qTh r (nI 0))) (rNd (qTh r (nI 0))) 1280)) (cpM (rKo (qNd (qTh r (nI 0)) (cpM (rKn (qTh r (nI 0))) (rNd (qTh r (nI 0))) 1280))) (rOw (qNd (qTh r (nI 0)) (cpM (rKn (qTh r (nI 0))) (rNd (qTh r (nI 0))) 1280))) 768)))), (g 29, ac (k 2) 768 (rAo (qOw (qNd (qTh r (nI 0)) (cpM (rKn (qTh r (nI 0))) (rNd (qTh r (nI 0))) 1280)) (cpM (rKo (qNd (qTh r (nI 0)) (cpM (rKn (qTh r (nI 0))) (rNd (qTh r (nI 0))) 1280))) (rOw (qNd (qTh r (nI 0)) (cpM (rKn (qTh r (nI 0))) (rNd (qTh r (nI 0))) 1280))) 768)))), (g 30, ac (k 2) 49152 (rAw (qOw (qNd (qTh r (nI 0)) (cpM (rKn (qTh r (nI 0))) (rNd (qTh r (nI 0))) 1280)) (cpM (rKo (qNd (qTh r (nI 0)) (cpM (rKn (qTh r (nI 0))) (rNd (qTh r (nI 0))) 1280))) (rOw (qNd (qTh r (nI 0)) (cpM (rKn (qTh r (nI 0))) (rNd (qTh r (nI 0))) 1280))) 768))))]) ⟨hx, hb, hml, hown, hTB⟩ (c_Mod_copy l D (g 27) (g 24) k 49152 (by decide) (rDn (qOw (qNd (qTh r (nI 0)) (cpM (rKn (qTh r (nI 0))) (rNd (qTh r (nI 0))) 1280)) (cpM (rKo (qNd (qTh r (nI 0)) (cpM (rKn (qTh r (nI 0))) (rNd (qTh r (nI 0))) 1280))) (rOw (qNd (qTh r (nI 0)) (cpM (rKn (qTh r (nI 0))) (rNd (qTh r (nI 0))) 1280))) 768))) (rNw (qOw (qNd (qTh r (nI 0)) (cpM (rKn (qTh r (nI 0))) (rNd (qTh r (nI 0))) 1280)) (cpM (rKo (qNd (qTh r (nI 0)) (cpM (rKn (qTh r (nI 0))) (rNd (qTh r (nI 0))) 1280))) (rOw (qNd (qTh r (nI 0)) (cpM (rKn (qTh r (nI 0))) (rNd (qTh r (nI 0))) 1280))) 768)))) (cwS 2 hTB (gd_S k_641 k_642 k_56 k_643) rfl rfl rfl (by decide +kernel) ⟨Nat.le_of_ble_eq_true rfl, Nat.le_of_ble_eq_true rfl⟩) hK hP hD hA [7, 4] [0, 1, 2, 3, 5, 6, 8, 9, 10] rfl rfl (by decide) rfl (by decide) (by decide) rfl hl.1 rfl (Nat.le_of_ble_eq_true rfl) d_Mod_drop_40 ⟨Nat.zero_le _, Nat.zero_le _⟩ hS (fun H locs hP hD hS => ?_)
  have hP : va_P D cl5 (wM g k L (qNw (qOw (qNd (qTh r (nI 0)) (cpM (rKn (qTh r (nI 0))) (rNd (qTh r (nI 0))) 1280)) (cpM (rKo (qNd (qTh r (nI 0)) (cpM (rKn (qTh r (nI 0))) (rNd (qTh r (nI 0))) 1280))) (rOw (qNd (qTh r (nI 0)) (cpM (rKn (qTh r (nI 0))) (rNd (qTh r (nI 0))) 1280))) 768)) (cpM (rDn (qOw (qNd (qTh r (nI 0)) (cpM (rKn (qTh r (nI 0))) (rNd (qTh r (nI 0))) 1280)) (cpM (rKo (qNd (qTh r (nI 0)) (cpM (rKn (qTh r (nI 0))) (rNd (qTh r (nI 0))) 1280))) (rOw (qNd (qTh r (nI 0)) (cpM (rKn (qTh r (nI 0))) (rNd (qTh r (nI 0))) 1280))) 768))) (rNw (qOw (qNd (qTh r (nI 0)) (cpM (rKn (qTh r (nI 0))) (rNd (qTh r (nI 0))) 1280)) (cpM (rKo (qNd (qTh r (nI 0)) (cpM (rKn (qTh r (nI 0))) (rNd (qTh r (nI 0))) 1280))) (rOw (qNd (qTh r (nI 0)) (cpM (rKn (qTh r (nI 0))) (rNd (qTh r (nI 0))) 1280))) 768))) 49152))) H := hP.sub [0, 1, 2, 3, 10, 4, 5, 9, 6, 7, 8] rfl
  have hD : va_D A (wM g k L (qNw (qOw (qNd (qTh r (nI 0)) (cpM (rKn (qTh r (nI 0))) (rNd (qTh r (nI 0))) 1280)) (cpM (rKo (qNd (qTh r (nI 0)) (cpM (rKn (qTh r (nI 0))) (rNd (qTh r (nI 0))) 1280))) (rOw (qNd (qTh r (nI 0)) (cpM (rKn (qTh r (nI 0))) (rNd (qTh r (nI 0))) 1280))) 768)) (cpM (rDn (qOw (qNd (qTh r (nI 0)) (cpM (rKn (qTh r (nI 0))) (rNd (qTh r (nI 0))) 1280)) (cpM (rKo (qNd (qTh r (nI 0)) (cpM (rKn (qTh r (nI 0))) (rNd (qTh r (nI 0))) 1280))) (rOw (qNd (qTh r (nI 0)) (cpM (rKn (qTh r (nI 0))) (rNd (qTh r (nI 0))) 1280))) 768))) (rNw (qOw (qNd (qTh r (nI 0)) (cpM (rKn (qTh r (nI 0))) (rNd (qTh r (nI 0))) 1280)) (cpM (rKo (qNd (qTh r (nI 0)) (cpM (rKn (qTh r (nI 0))) (rNd (qTh r (nI 0))) 1280))) (rOw (qNd (qTh r (nI 0)) (cpM (rKn (qTh r (nI 0))) (rNd (qTh r (nI 0))) 1280))) 768))) 49152))) := hD.sub [0, 1, 2, 3, 10, 4, 5, 9, 6, 7, 8] (by decide) rfl
  have hrB := rBc_nw (n := 49152) (f := rDn (qOw (qNd (qTh r (nI 0)) (cpM (rKn (qTh r (nI 0))) (rNd (qTh r (nI 0))) 1280)) (cpM (rKo (qNd (qTh r (nI 0)) (cpM (rKn (qTh r (nI 0))) (rNd (qTh r (nI 0))) 1280))) (rOw (qNd (qTh r (nI 0)) (cpM (rKn (qTh r (nI 0))) (rNd (qTh r (nI 0))) 1280))) 768))) hrB (fun q => (hrB q).2.2.2.2.2.2.1)
  refine lv_iload_n hx hb d_Mod_drop_43 rfl (lv_at hl 0 rfl) ?_
  have hP9 : va_P D cl5 (wM g k L (drR (qTh r (nI 0)))) H := hP
  have hD9 : va_D A (wM g k L (drR (qTh r (nI 0)))) := hD
  exact W.iret (v := nI (chR L (qTh r (nI 0)))) hx hb hr (fun tt9 ht9 hW9 => ⟨⟨_, (), rfl, rfl, ⟨by rw [ht9]; exact hP9, hD9⟩⟩, hS.F ht9⟩) hS.2.2 d_Mod_drop_44
theorem d_Mod_read_0 : decode b_Mod_read 0 = .ok (.aload_n 0, 1) := by decide +kernel
theorem d_Mod_read_1 : decode b_Mod_read 1 = .ok (.iload_n 1, 1) := by decide +kernel
theorem d_Mod_read_2 : decode b_Mod_read 2 = .ok (.invokestatic 180, 3) := by decide +kernel
theorem d_Mod_read_5 : decode b_Mod_read 5 = .ok (.iconst 1, 1) := by decide +kernel
theorem d_Mod_read_6 : decode b_Mod_read 6 = .ok (.invokevirtual 170, 3) := by decide +kernel
theorem d_Mod_read_9 : decode b_Mod_read 9 = .ok (.ifCond .ne 39, 3) := by decide +kernel
theorem d_Mod_read_12 : decode b_Mod_read 12 = .ok (.aload_n 0, 1) := by decide +kernel
theorem d_Mod_read_13 : decode b_Mod_read 13 = .ok (.aload_n 0, 1) := by decide +kernel
theorem d_Mod_read_14 : decode b_Mod_read 14 = .ok (.iload_n 1, 1) := by decide +kernel
theorem d_Mod_read_15 : decode b_Mod_read 15 = .ok (.invokevirtual 111, 3) := by decide +kernel
theorem d_Mod_read_18 : decode b_Mod_read 18 = .ok (.ifCond .eq 18, 3) := by decide +kernel
theorem d_Mod_read_21 : decode b_Mod_read 21 = .ok (.iload_n 2, 1) := by decide +kernel
theorem d_Mod_read_22 : decode b_Mod_read 22 = .ok (.iconst 0, 1) := by decide +kernel
theorem d_Mod_read_23 : decode b_Mod_read 23 = .ok (.aload_n 0, 1) := by decide +kernel
theorem d_Mod_read_24 : decode b_Mod_read 24 = .ok (.iload_n 1, 1) := by decide +kernel
theorem d_Mod_read_25 : decode b_Mod_read 25 = .ok (.invokevirtual 94, 3) := by decide +kernel
theorem d_Mod_read_28 : decode b_Mod_read 28 = .ok (.iconst 1, 1) := by decide +kernel
theorem d_Mod_read_29 : decode b_Mod_read 29 = .ok (.isub, 1) := by decide +kernel
theorem d_Mod_read_30 : decode b_Mod_read 30 = .ok (.invokestatic 127, 3) := by decide +kernel
theorem d_Mod_read_33 : decode b_Mod_read 33 = .ok (.ifCond .ne 7, 3) := by decide +kernel
theorem d_Mod_read_36 : decode b_Mod_read 36 = .ok (.iconst 1, 1) := by decide +kernel
theorem d_Mod_read_37 : decode b_Mod_read 37 = .ok (.goto 4, 3) := by decide +kernel
theorem d_Mod_read_40 : decode b_Mod_read 40 = .ok (.iconst 0, 1) := by decide +kernel
theorem d_Mod_read_41 : decode b_Mod_read 41 = .ok (.iconst 2, 1) := by decide +kernel
theorem d_Mod_read_42 : decode b_Mod_read 42 = .ok (.invokevirtual 170, 3) := by decide +kernel
theorem d_Mod_read_45 : decode b_Mod_read 45 = .ok (.ifCond .eq 5, 3) := by decide +kernel
theorem d_Mod_read_48 : decode b_Mod_read 48 = .ok (.lconst 0, 1) := by decide +kernel
theorem d_Mod_read_49 : decode b_Mod_read 49 = .ok (.lreturn, 1) := by decide +kernel
theorem d_Mod_read_50 : decode b_Mod_read 50 = .ok (.lconst 0, 1) := by decide +kernel
theorem d_Mod_read_51 : decode b_Mod_read 51 = .ok (.lstore_n 3, 1) := by decide +kernel
theorem d_Mod_read_52 : decode b_Mod_read 52 = .ok (.iconst 0, 1) := by decide +kernel
theorem d_Mod_read_53 : decode b_Mod_read 53 = .ok (.istore 5, 2) := by decide +kernel
theorem d_Mod_read_55 : decode b_Mod_read 55 = .ok (.iload 5, 2) := by decide +kernel
theorem d_Mod_read_57 : decode b_Mod_read 57 = .ok (.bipush 8, 2) := by decide +kernel
theorem d_Mod_read_59 : decode b_Mod_read 59 = .ok (.if_icmp .ge 40, 3) := by decide +kernel
theorem d_Mod_read_62 : decode b_Mod_read 62 = .ok (.iload_n 2, 1) := by decide +kernel
theorem d_Mod_read_63 : decode b_Mod_read 63 = .ok (.iload 5, 2) := by decide +kernel
theorem d_Mod_read_65 : decode b_Mod_read 65 = .ok (.iadd, 1) := by decide +kernel
theorem d_Mod_read_66 : decode b_Mod_read 66 = .ok (.aload_n 0, 1) := by decide +kernel
theorem d_Mod_read_67 : decode b_Mod_read 67 = .ok (.iload_n 1, 1) := by decide +kernel
theorem d_Mod_read_68 : decode b_Mod_read 68 = .ok (.invokevirtual 94, 3) := by decide +kernel
theorem d_Mod_read_71 : decode b_Mod_read 71 = .ok (.if_icmp .ge 28, 3) := by decide +kernel
theorem d_Mod_read_74 : decode b_Mod_read 74 = .ok (.lload_n 3, 1) := by decide +kernel
theorem d_Mod_read_75 : decode b_Mod_read 75 = .ok (.aload_n 0, 1) := by decide +kernel
theorem d_Mod_read_76 : decode b_Mod_read 76 = .ok (.iload_n 1, 1) := by decide +kernel
theorem d_Mod_read_77 : decode b_Mod_read 77 = .ok (.iload_n 2, 1) := by decide +kernel
theorem d_Mod_read_78 : decode b_Mod_read 78 = .ok (.iload 5, 2) := by decide +kernel
theorem d_Mod_read_80 : decode b_Mod_read 80 = .ok (.iadd, 1) := by decide +kernel
theorem d_Mod_read_81 : decode b_Mod_read 81 = .ok (.invokevirtual 91, 3) := by decide +kernel
theorem d_Mod_read_84 : decode b_Mod_read 84 = .ok (.i2l, 1) := by decide +kernel
theorem d_Mod_read_85 : decode b_Mod_read 85 = .ok (.bipush 8, 2) := by decide +kernel
theorem d_Mod_read_87 : decode b_Mod_read 87 = .ok (.iload 5, 2) := by decide +kernel
theorem d_Mod_read_89 : decode b_Mod_read 89 = .ok (.imul, 1) := by decide +kernel
theorem d_Mod_read_90 : decode b_Mod_read 90 = .ok (.lshl, 1) := by decide +kernel
theorem d_Mod_read_91 : decode b_Mod_read 91 = .ok (.lor, 1) := by decide +kernel
theorem d_Mod_read_92 : decode b_Mod_read 92 = .ok (.lstore_n 3, 1) := by decide +kernel
theorem d_Mod_read_93 : decode b_Mod_read 93 = .ok (.iinc 5 1, 3) := by decide +kernel
theorem d_Mod_read_96 : decode b_Mod_read 96 = .ok (.goto (-41), 3) := by decide +kernel
theorem d_Mod_read_99 : decode b_Mod_read 99 = .ok (.lload_n 3, 1) := by decide +kernel
theorem d_Mod_read_100 : decode b_Mod_read 100 = .ok (.lreturn, 1) := by decide +kernel
set_option maxHeartbeats 4000000 in
set_option maxRecDepth 100000 in
theorem c_Mod_read (l : Launch) (D : va_G) (g : Nat → Nat) (k : Nat → ClassId) (L : Nat) (hL0 : 96 ≤ L) (hL : L ≤ 768) (r : RSt) (hrB : rB r) (i t : Nat) (hi0 : i < 64) (hk0 : rNd r (20 * i) ≠ 0) (ht0 : t < rNd r (20 * i + 1)) (hX : ∀ i, i < 64 → rNd r (20 * i + 2) ≤ 8) (hG : ∀ i, i < 64 → ∀ t, t < bsR (rNd r) i → bkR (rNd r) i t < 768) (hS0 : ∀ i, i < 64 → rNd r (20 * i + 1) ≤ 64 * bsR (rNd r) i) : MuL l y_Mod_read w_Mod_read ({ frames := 2, cells := 0, slots := 0, locals := 47 }) [.ref (g 20), .int (nI i), .int (nI t)] D cl5 (tyC k) (wM g k L r) (wM g k L (qTh r (nI 0))) (rlR r i t) := by
  intro sz
  refine Met.ofW (cc := b_Mod_read) (maxL := 6) (ret := (some .long)) (by decide) rfl ?_
  intro p9 e9 s m args9 below9 meth9 c9 s₁ B hml hv
  obtain ⟨rfl, hsz, hP, hK, hD0⟩ := hv
  have hx := B.exec
  have hb := B.bytes
  have hr := B.returns
  have hts := atoms_spec (ws := w_Mod_read) B.pre
  have hTB : ∀ w ∈ lw_tb, w.before _ s = true := fun w h => hts w (List.mem_cons_of_mem _ h)
  have hown : s.vm.findClass R_Mod = some m.cls := findClass_of_methodNamed B.named
  have hlocks := B.notSynchronized
  subst hsz
  have hD := hD0.self (sz := s.heap.size)
  generalize hAe : va_A (wM g k L r) s.heap.size = A at hD ⊢
  have hA : ∀ q : Nat, s.heap.size ≤ q → A q := fun q h => by rw [← hAe]; exact Or.inr h
  have hS : va_S A s.heap s.heap [] := va_S.rf
  have hl := lv_entry ([.ref (g 20), .int (nI i), .int (nI t)]) (n := 6) (Nat.le_of_ble_eq_true rfl)
  rw [lg_entry_eq]
  generalize (lg_sl ([.ref (g 20), .int (nI i), .int (nI t)]) ++ List.replicate (6 - (lg_sl ([.ref (g 20), .int (nI i), .int (nI t)])).length) Slot.unset).toArray = ls at hl ⊢
  have hl : lv_has ls 6 [(0, .ref (g 20)), (1, .int (nI i)), (2, .int (nI t))] := hl
  have hsb := (hrB (20 * i + 1)).2.1
  refine lv_aload_n hx hb d_Mod_read_0 rfl (lv_at hl 0 rfl) ?_
  refine lv_iload_n hx hb d_Mod_read_1 rfl (lv_at hl 1 rfl) ?_
  refine gz_roS (As := [.int (nI i)]) (rest := [.ref (g 20)]) ⟨hx, hb, hml, hown, hTB⟩ (c_Mod_isBad l (nI i)) (cwS 1 hTB (gd_S k_707 k_708 k_56 k_709) rfl rfl rfl (by decide +kernel) ⟨Nat.le_of_ble_eq_true rfl, Nat.le_of_ble_eq_true rfl⟩) hP rfl hl.1 rfl (Nat.le_of_ble_eq_true rfl) d_Mod_read_2 ⟨Nat.zero_le _, Nat.zero_le _⟩ hS (fun H locs hP hS => ?_)
  refine lv_iconst (v := nI 1) hx hb d_Mod_read_5 (by decide +kernel) ?_
  refine gz_muI (As := [.int (zI (!inR (nI i) (nI 0) (nI 63))), .int (nI 1)]) (rest := []) (wc := (wM g k L r)) (w1 := (wM g k L (qTh r (if !inR (nI i) (nI 0) (nI 63) then (nI 1) else nI 0)))) (wr := []) ⟨hx, hb, hml, hown, hTB⟩ (c_Mod_fails l D g k L hL0 hL r hrB (!inR (nI i) (nI 0) (nI 63)) (nI 1)) (cwV 2 hTB (gd_V k_698 k_700 k_21 k_56 k_701) rfl rfl rfl (by decide +kernel) ⟨Nat.le_of_ble_eq_true rfl, Nat.le_of_ble_eq_true rfl⟩) hK hP hD hA [0, 1, 2, 3, 4, 5, 6, 7, 8, 9, 10] [] rfl rfl (by decide) rfl (by decide) (by decide) 0 rfl rfl rfl hl.1 rfl (Nat.le_of_ble_eq_true rfl) d_Mod_read_6 ⟨Nat.zero_le _, Nat.zero_le _⟩ hS (fun H locs hP hD hS => ?_)
  have hP : va_P D cl5 (wM g k L (qTh r (if !inR (nI i) (nI 0) (nI 63) then (nI 1) else nI 0))) H := hP
  have hD : va_D A (wM g k L (qTh r (if !inR (nI i) (nI 0) (nI 63) then (nI 1) else nI 0))) := hD
  have hrB : rB (qTh r (if !inR (nI i) (nI 0) (nI 63) then (nI 1) else nI 0)) := fun q => hrB q
  refine gz_ifz_ne (tgt := 48) hx hb d_Mod_read_9 (by decide) (fun h9 => ?_) (fun h9 => ?_)
  · exact absurd h9 (by rw [inB_f (Nat.zero_le _) (by omega) (by decide)]; decide)
  · have hP : va_P D cl5 (wM g k L (qTh r (nI 0))) H := by rw [h9] at hP; exact hP
    have hD : va_D A (wM g k L (qTh r (nI 0))) := by rw [h9] at hD; exact hD
    have hrB : rB (qTh r (nI 0)) := fun q => hrB q
    refine lv_aload_n hx hb d_Mod_read_12 rfl (lv_at hl 0 rfl) ?_
    refine lv_aload_n hx hb d_Mod_read_13 rfl (lv_at hl 0 rfl) ?_
    refine lv_iload_n hx hb d_Mod_read_14 rfl (lv_at hl 1 rfl) ?_
    refine gz_roV (As := [.int (nI i)]) (rest := [.ref (g 20)]) (wc := (wM g k L (qTh r (nI 0)))) ⟨hx, hb, hml, hown, hTB⟩ (c_Mod_kind l D g k L hL0 hL (qTh r (nI 0)) hrB i (by omega)) (cwV 1 hTB (gd_V k_734 k_736 k_27 k_56 k_737) rfl rfl rfl (by decide +kernel) ⟨Nat.le_of_ble_eq_true rfl, Nat.le_of_ble_eq_true rfl⟩) hK hP [0, 1, 2, 3, 4, 5, 6, 7, 8, 9, 10] rfl 0 rfl rfl rfl hl.1 rfl (Nat.le_of_ble_eq_true rfl) d_Mod_read_15 ⟨Nat.zero_le _, Nat.zero_le _⟩ hS (fun H locs hP hS => ?_)
    have := (hrB (20 * i)).2.1
    refine gz_if_eq (tgt := 36) hx hb d_Mod_read_18 (by decide) (by omega) (fun h18 => ?_) (fun h18 => ?_)
    · exact absurd h18 hk0
    · refine lv_iload_n hx hb d_Mod_read_21 rfl (lv_at hl 2 rfl) ?_
      refine lv_iconst (v := nI 0) hx hb d_Mod_read_22 (by decide +kernel) ?_
      refine lv_aload_n hx hb d_Mod_read_23 rfl (lv_at hl 0 rfl) ?_
      refine lv_iload_n hx hb d_Mod_read_24 rfl (lv_at hl 1 rfl) ?_
      refine gz_roV (As := [.int (nI i)]) (rest := [.int (nI 0), .int (nI t), .ref (g 20)]) (wc := (wM g k L (qTh r (nI 0)))) ⟨hx, hb, hml, hown, hTB⟩ (c_Mod_sizeOf l D g k L hL0 hL (qTh r (nI 0)) hrB i (by omega)) (cwV 1 hTB (gd_V k_742 k_744 k_29 k_56 k_745) rfl rfl rfl (by decide +kernel) ⟨Nat.le_of_ble_eq_true rfl, Nat.le_of_ble_eq_true rfl⟩) hK hP [0, 1, 2, 3, 4, 5, 6, 7, 8, 9, 10] rfl 0 rfl rfl rfl hl.1 rfl (Nat.le_of_ble_eq_true rfl) d_Mod_read_25 ⟨Nat.zero_le _, Nat.zero_le _⟩ hS (fun H locs hP hS => ?_)
      have := (hrB (20 * i + 1)).2.1
      have hs1 : 1 ≤ rNd (qTh r (nI 0)) (20 * i + 1) := Nat.lt_of_le_of_lt (Nat.zero_le _) ht0
      refine lv_iconst (v := nI 1) hx hb d_Mod_read_28 (by decide +kernel) ?_
      refine gz_isub hx hb d_Mod_read_29 (by omega) ?_
      refine gz_roS (As := [.int (nI t), .int (nI 0), .int (nI ((rNd (qTh r (nI 0)) (20 * i + 1)) - 1))]) (rest := [.ref (g 20)]) ⟨hx, hb, hml, hown, hTB⟩ (c_Mod_in l (nI t) (nI 0) (nI ((rNd (qTh r (nI 0)) (20 * i + 1)) - 1))) (cwS 3 hTB (gd_S k_695 k_696 k_56 k_697) rfl rfl rfl (by decide +kernel) ⟨Nat.le_of_ble_eq_true rfl, Nat.le_of_ble_eq_true rfl⟩) hP rfl hl.1 rfl (Nat.le_of_ble_eq_true rfl) d_Mod_read_30 ⟨Nat.zero_le _, Nat.zero_le _⟩ hS (fun H locs hP hS => ?_)
      refine gz_ifz_ne (tgt := 40) hx hb d_Mod_read_33 (by decide) (fun h33 => ?_) (fun h33 => ?_)
      · refine lv_iconst (v := nI 0) hx hb d_Mod_read_40 (by decide +kernel) ?_
        refine lv_iconst (v := nI 2) hx hb d_Mod_read_41 (by decide +kernel) ?_
        refine gz_muI (As := [.int (nI 0), .int (nI 2)]) (rest := []) (wc := (wM g k L (qTh r (nI 0)))) (w1 := (wM g k L (qTh (qTh r (nI 0)) (nI 0)))) (wr := []) ⟨hx, hb, hml, hown, hTB⟩ (c_Mod_fails l D g k L hL0 hL (qTh r (nI 0)) hrB false (nI 2)) (cwV 2 hTB (gd_V k_698 k_700 k_21 k_56 k_701) rfl rfl rfl (by decide +kernel) ⟨Nat.le_of_ble_eq_true rfl, Nat.le_of_ble_eq_true rfl⟩) hK hP hD hA [0, 1, 2, 3, 4, 5, 6, 7, 8, 9, 10] [] rfl rfl (by decide) rfl (by decide) (by decide) 0 rfl rfl rfl hl.1 rfl (Nat.le_of_ble_eq_true rfl) d_Mod_read_42 ⟨Nat.zero_le _, Nat.zero_le _⟩ hS (fun H locs hP hD hS => ?_)
        have hP : va_P D cl5 (wM g k L (qTh (qTh r (nI 0)) (nI 0))) H := hP
        have hD : va_D A (wM g k L (qTh (qTh r (nI 0)) (nI 0))) := hD
        have hrB : rB (qTh (qTh r (nI 0)) (nI 0)) := fun q => hrB q
        refine gz_ifz_eq (tgt := 50) hx hb d_Mod_read_45 (by decide) (fun h45 => ?_) (fun h45 => ?_)
        · refine lv_lconst (v := 0) hx hb d_Mod_read_50 (by decide +kernel) ?_
          refine lv_lstore_n (lv' := [(3, .long (0)), (0, .ref (g 20)), (1, .int (nI i)), (2, .int (nI t))]) hx hb d_Mod_read_51 rfl hl (by decide) rfl (fun ls hl => ?_)
          refine lv_iconst (v := nI 0) hx hb d_Mod_read_52 (by decide +kernel) ?_
          refine lv_istore (lv' := [(5, .int (nI 0)), (3, .long (0)), (0, .ref (g 20)), (1, .int (nI i)), (2, .int (nI t))]) hx hb d_Mod_read_53 hl (by decide) rfl (fun ls hl => ?_)
          refine gz_loop 55 (fun (zz : Nat) H locs ls => match zz with | j => va_P D cl5 (wM g k L (qTh (qTh r (nI 0)) (nI 0))) H ∧ va_D A (wM g k L (qTh (qTh r (nI 0)) (nI 0))) ∧ va_S A s.heap H locs ∧ lv_has ls 6 [(0, .ref (g 20)), (1, .int (nI i)), (2, .int (nI t)), (3, .long (rlG r i t j)), (5, .int (nI j))] ∧ (j ≤ 8) ∧ (t + j ≤ rNd r (20 * i + 1))) (fun (zz : Nat) => match zz with | j => 8 - j) (fun zz H locs ls hI ih55 => ?_) (0) ⟨hP, hD, hS, lv_sub hl [2, 3, 4, 1, 0] rfl, (by omega), (by omega)⟩
          obtain ⟨j, rfl⟩ : ∃ z, z = zz := ⟨_, rfl⟩
          obtain ⟨hP, hD, hS, hl, hj1, hj2⟩ := hI
          have hsd := hS0 i hi0
          have hsx : rNd (qTh r (nI 0)) (20 * i + 1) = rNd r (20 * i + 1) := rfl
          refine lv_iload hx hb d_Mod_read_55 (lv_at hl 4 rfl) ?_
          refine lv_bipush (v := nI 8) hx hb d_Mod_read_57 (by decide +kernel) ?_
          refine gz_icmp_ge (tgt := 99) hx hb d_Mod_read_59 (by decide) (by omega) (by omega) (fun h59 => ?_) (fun h59 => ?_)
          · refine lv_lload_n hx hb d_Mod_read_99 rfl (lv_at hl 3 rfl) ?_
            have hP9 : va_P D cl5 (wM g k L (qTh r (nI 0))) H := hP
            have hD9 : va_D A (wM g k L (qTh r (nI 0))) := hD
            exact W.lret (v := rlG r i t j) hx hb hr (fun tt9 ht9 hW9 => ⟨⟨_, (), rfl, (by unfold rlR; rw [show min 8 (rNd r (20 * i + 1) - t) = j by omega]), ⟨by rw [ht9]; exact hP9, hD9⟩⟩, hS.F ht9⟩) hS.2.2 d_Mod_read_100
          · refine lv_iload_n hx hb d_Mod_read_62 rfl (lv_at hl 2 rfl) ?_
            refine lv_iload hx hb d_Mod_read_63 (lv_at hl 4 rfl) ?_
            refine gz_iadd hx hb d_Mod_read_65 ?_
            refine lv_aload_n hx hb d_Mod_read_66 rfl (lv_at hl 0 rfl) ?_
            refine lv_iload_n hx hb d_Mod_read_67 rfl (lv_at hl 1 rfl) ?_
            refine gz_roV (As := [.int (nI i)]) (rest := [.int (nI (t + j))]) (wc := (wM g k L (qTh (qTh r (nI 0)) (nI 0)))) ⟨hx, hb, hml, hown, hTB⟩ (c_Mod_sizeOf l D g k L hL0 hL (qTh (qTh r (nI 0)) (nI 0)) hrB i (by omega)) (cwV 1 hTB (gd_V k_742 k_744 k_29 k_56 k_745) rfl rfl rfl (by decide +kernel) ⟨Nat.le_of_ble_eq_true rfl, Nat.le_of_ble_eq_true rfl⟩) hK hP [0, 1, 2, 3, 4, 5, 6, 7, 8, 9, 10] rfl 0 rfl rfl rfl hl.1 rfl (Nat.le_of_ble_eq_true rfl) d_Mod_read_68 ⟨Nat.zero_le _, Nat.zero_le _⟩ hS (fun H locs hP hS => ?_)
            have := (hrB (20 * i + 1)).2.1
            refine gz_icmp_ge (tgt := 99) hx hb d_Mod_read_71 (by decide) (by omega) (by omega) (fun h71 => ?_) (fun h71 => ?_)
            · refine lv_lload_n hx hb d_Mod_read_99 rfl (lv_at hl 3 rfl) ?_
              have hP9 : va_P D cl5 (wM g k L (qTh r (nI 0))) H := hP
              have hD9 : va_D A (wM g k L (qTh r (nI 0))) := hD
              exact W.lret (v := rlG r i t j) hx hb hr (fun tt9 ht9 hW9 => ⟨⟨_, (), rfl, (by unfold rlR; rw [show min 8 (rNd r (20 * i + 1) - t) = j by have h71x : rNd r (20 * i + 1) ≤ t + j := h71; omega]), ⟨by rw [ht9]; exact hP9, hD9⟩⟩, hS.F ht9⟩) hS.2.2 d_Mod_read_100
            · refine lv_lload_n hx hb d_Mod_read_74 rfl (lv_at hl 3 rfl) ?_
              refine lv_aload_n hx hb d_Mod_read_75 rfl (lv_at hl 0 rfl) ?_
              refine lv_iload_n hx hb d_Mod_read_76 rfl (lv_at hl 1 rfl) ?_
              refine lv_iload_n hx hb d_Mod_read_77 rfl (lv_at hl 2 rfl) ?_
              refine lv_iload hx hb d_Mod_read_78 (lv_at hl 4 rfl) ?_
              refine gz_iadd hx hb d_Mod_read_80 ?_
              have h71x : t + j < rNd r (20 * i + 1) := h71
              have hsd2 : rNd r (20 * i + 1) ≤ 64 * bsR (rNd (qTh (qTh r (nI 0)) (nI 0))) i := hsd
              refine gz_roV (As := [.int (nI i), .int (nI (t + j))]) (rest := [.long (rlG r i t j)]) (wc := (wM g k L (qTh (qTh r (nI 0)) (nI 0)))) ⟨hx, hb, hml, hown, hTB⟩ (c_Mod_get l D g k L hL0 hL (qTh (qTh r (nI 0)) (nI 0)) hrB i (t + j) (by omega) (by omega) hX hG (by omega)) (cwV 2 hTB (gd_V k_750 k_752 k_31 k_56 k_753) rfl rfl rfl (by decide +kernel) ⟨Nat.le_of_ble_eq_true rfl, Nat.le_of_ble_eq_true rfl⟩) hK hP [0, 1, 2, 3, 4, 5, 6, 7, 8, 9, 10] rfl 0 rfl rfl rfl hl.1 rfl (Nat.le_of_ble_eq_true rfl) d_Mod_read_81 ⟨Nat.zero_le _, Nat.zero_le _⟩ hS (fun H locs hP hS => ?_)
              have : gtR (qTh (qTh r (nI 0)) (nI 0)) i (t + j) < 65536 := (hrB _).2.2.2.1
              refine lv_i2l hx hb d_Mod_read_84 rfl ?_
              refine lv_bipush (v := nI 8) hx hb d_Mod_read_85 (by decide +kernel) ?_
              refine lv_iload hx hb d_Mod_read_87 (lv_at hl 4 rfl) ?_
              refine gz_imul hx hb d_Mod_read_89 ?_
              refine lv_lshl hx hb d_Mod_read_90 rfl ?_
              refine lv_lor hx hb d_Mod_read_91 ?_
              refine lv_lstore_n (lv' := [(3, .long ((rlG r i t j) ||| (((nI (gtR (qTh (qTh r (nI 0)) (nI 0)) i (t + j))).toInt64) <<< ((nI (8 * j)).toInt64 &&& 63)))), (0, .ref (g 20)), (1, .int (nI i)), (2, .int (nI t)), (5, .int (nI j))]) hx hb d_Mod_read_92 rfl hl (by decide) rfl (fun ls hl => ?_)
              refine lv_iinc (v := nI (j + 1)) (lv' := [(5, .int (nI (j + 1))), (3, .long ((rlG r i t j) ||| (((nI (gtR (qTh (qTh r (nI 0)) (nI 0)) i (t + j))).toInt64) <<< ((nI (8 * j)).toInt64 &&& 63)))), (0, .ref (g 20)), (1, .int (nI i)), (2, .int (nI t))]) hx hb d_Mod_read_93 hl (k := 4) rfl (nI_add j 1) (by decide) rfl (fun ls hl => ?_)
              refine lv_goto (tgt := 55) hx hb d_Mod_read_96 (by decide) ?_
              exact ih55 (j + 1) _ _ _ (by first | omega | (dsimp only; omega)) ⟨hP, hD, hS, lv_sub hl [2, 3, 4, 1, 0] rfl, (by omega), (by have h71 : t + j < rNd r (20 * i + 1) := h71; omega)⟩
        · exact absurd h45 (by decide)
      · exact absurd h33 (by rw [inR_t (Nat.zero_le _) (show t ≤ rNd r (20 * i + 1) - 1 by omega) (show rNd r (20 * i + 1) - 1 < 2147483648 by omega)]; decide)
set_option maxHeartbeats 4000000 in
set_option maxRecDepth 100000 in
theorem c_Mod_read_b (l : Launch) (D : va_G) (g : Nat → Nat) (k : Nat → ClassId) (L : Nat) (hL0 : 96 ≤ L) (hL : L ≤ 768) (r : RSt) (hrB : rB r) (x y : Int32) (hbad : (!inR x (nI 0) (nI 63)) = true) : MuL l y_Mod_read w_Mod_read ({ frames := 2, cells := 0, slots := 0, locals := 47 }) [.ref (g 20), .int (x), .int (y)] D cl5 (tyC k) (wM g k L r) (wM g k L (qTh r (nI 1))) (0) := by
  intro sz
  refine Met.ofW (cc := b_Mod_read) (maxL := 6) (ret := (some .long)) (by decide) rfl ?_
  intro p9 e9 s m args9 below9 meth9 c9 s₁ B hml hv
  obtain ⟨rfl, hsz, hP, hK, hD0⟩ := hv
  have hx := B.exec
  have hb := B.bytes
  have hr := B.returns
  have hts := atoms_spec (ws := w_Mod_read) B.pre
  have hTB : ∀ w ∈ lw_tb, w.before _ s = true := fun w h => hts w (List.mem_cons_of_mem _ h)
  have hown : s.vm.findClass R_Mod = some m.cls := findClass_of_methodNamed B.named
  have hlocks := B.notSynchronized
  subst hsz
  have hD := hD0.self (sz := s.heap.size)
  generalize hAe : va_A (wM g k L r) s.heap.size = A at hD ⊢
  have hA : ∀ q : Nat, s.heap.size ≤ q → A q := fun q h => by rw [← hAe]; exact Or.inr h
  have hS : va_S A s.heap s.heap [] := va_S.rf
  have hl := lv_entry ([.ref (g 20), .int (x), .int (y)]) (n := 6) (Nat.le_of_ble_eq_true rfl)
  rw [lg_entry_eq]
  generalize (lg_sl ([.ref (g 20), .int (x), .int (y)]) ++ List.replicate (6 - (lg_sl ([.ref (g 20), .int (x), .int (y)])).length) Slot.unset).toArray = ls at hl ⊢
  have hl : lv_has ls 6 [(0, .ref (g 20)), (1, .int (x)), (2, .int (y))] := hl
  refine lv_aload_n hx hb d_Mod_read_0 rfl (lv_at hl 0 rfl) ?_
  refine lv_iload_n hx hb d_Mod_read_1 rfl (lv_at hl 1 rfl) ?_
  refine gz_roS (As := [.int (x)]) (rest := [.ref (g 20)]) ⟨hx, hb, hml, hown, hTB⟩ (c_Mod_isBad l x) (cwS 1 hTB (gd_S k_707 k_708 k_56 k_709) rfl rfl rfl (by decide +kernel) ⟨Nat.le_of_ble_eq_true rfl, Nat.le_of_ble_eq_true rfl⟩) hP rfl hl.1 rfl (Nat.le_of_ble_eq_true rfl) d_Mod_read_2 ⟨Nat.zero_le _, Nat.zero_le _⟩ hS (fun H locs hP hS => ?_)
  refine lv_iconst (v := nI 1) hx hb d_Mod_read_5 (by decide +kernel) ?_
  refine gz_muI (As := [.int (zI (!inR x (nI 0) (nI 63))), .int (nI 1)]) (rest := []) (wc := (wM g k L r)) (w1 := (wM g k L (qTh r (if !inR x (nI 0) (nI 63) then (nI 1) else nI 0)))) (wr := []) ⟨hx, hb, hml, hown, hTB⟩ (c_Mod_fails l D g k L hL0 hL r hrB (!inR x (nI 0) (nI 63)) (nI 1)) (cwV 2 hTB (gd_V k_698 k_700 k_21 k_56 k_701) rfl rfl rfl (by decide +kernel) ⟨Nat.le_of_ble_eq_true rfl, Nat.le_of_ble_eq_true rfl⟩) hK hP hD hA [0, 1, 2, 3, 4, 5, 6, 7, 8, 9, 10] [] rfl rfl (by decide) rfl (by decide) (by decide) 0 rfl rfl rfl hl.1 rfl (Nat.le_of_ble_eq_true rfl) d_Mod_read_6 ⟨Nat.zero_le _, Nat.zero_le _⟩ hS (fun H locs hP hD hS => ?_)
  have hP : va_P D cl5 (wM g k L (qTh r (if !inR x (nI 0) (nI 63) then (nI 1) else nI 0))) H := hP
  have hD : va_D A (wM g k L (qTh r (if !inR x (nI 0) (nI 63) then (nI 1) else nI 0))) := hD
  have hrB : rB (qTh r (if !inR x (nI 0) (nI 63) then (nI 1) else nI 0)) := fun q => hrB q
  refine gz_ifz_ne (tgt := 48) hx hb d_Mod_read_9 (by decide) (fun h9 => ?_) (fun h9 => ?_)
  · have hP : va_P D cl5 (wM g k L (qTh r (nI 1))) H := by rw [h9] at hP; exact hP
    have hD : va_D A (wM g k L (qTh r (nI 1))) := by rw [h9] at hD; exact hD
    refine lv_lconst (v := 0) hx hb d_Mod_read_48 (by decide +kernel) ?_
    have hP9 : va_P D cl5 (wM g k L (qTh r (nI 1))) H := hP
    have hD9 : va_D A (wM g k L (qTh r (nI 1))) := hD
    exact W.lret (v := 0) hx hb hr (fun tt9 ht9 hW9 => ⟨⟨_, (), rfl, rfl, ⟨by rw [ht9]; exact hP9, hD9⟩⟩, hS.F ht9⟩) hS.2.2 d_Mod_read_49
  · exact absurd (h9.symm.trans hbad) (by decide)
set_option maxHeartbeats 4000000 in
set_option maxRecDepth 100000 in
theorem c_Mod_read_c (l : Launch) (D : va_G) (g : Nat → Nat) (k : Nat → ClassId) (L : Nat) (hL0 : 96 ≤ L) (hL : L ≤ 768) (r : RSt) (hrB : rB r) (i : Nat) (y : Int32) (hi0 : i < 64) (hno : rNd r (20 * i) = 0 ∨ inR y (nI 0) (nI (rNd r (20 * i + 1)) - nI 1) = false) : MuL l y_Mod_read w_Mod_read ({ frames := 2, cells := 0, slots := 0, locals := 47 }) [.ref (g 20), .int (nI i), .int (y)] D cl5 (tyC k) (wM g k L r) (wM g k L (qTh r (nI 2))) (0) := by
  intro sz
  refine Met.ofW (cc := b_Mod_read) (maxL := 6) (ret := (some .long)) (by decide) rfl ?_
  intro p9 e9 s m args9 below9 meth9 c9 s₁ B hml hv
  obtain ⟨rfl, hsz, hP, hK, hD0⟩ := hv
  have hx := B.exec
  have hb := B.bytes
  have hr := B.returns
  have hts := atoms_spec (ws := w_Mod_read) B.pre
  have hTB : ∀ w ∈ lw_tb, w.before _ s = true := fun w h => hts w (List.mem_cons_of_mem _ h)
  have hown : s.vm.findClass R_Mod = some m.cls := findClass_of_methodNamed B.named
  have hlocks := B.notSynchronized
  subst hsz
  have hD := hD0.self (sz := s.heap.size)
  generalize hAe : va_A (wM g k L r) s.heap.size = A at hD ⊢
  have hA : ∀ q : Nat, s.heap.size ≤ q → A q := fun q h => by rw [← hAe]; exact Or.inr h
  have hS : va_S A s.heap s.heap [] := va_S.rf
  have hl := lv_entry ([.ref (g 20), .int (nI i), .int (y)]) (n := 6) (Nat.le_of_ble_eq_true rfl)
  rw [lg_entry_eq]
  generalize (lg_sl ([.ref (g 20), .int (nI i), .int (y)]) ++ List.replicate (6 - (lg_sl ([.ref (g 20), .int (nI i), .int (y)])).length) Slot.unset).toArray = ls at hl ⊢
  have hl : lv_has ls 6 [(0, .ref (g 20)), (1, .int (nI i)), (2, .int (y))] := hl
  refine lv_aload_n hx hb d_Mod_read_0 rfl (lv_at hl 0 rfl) ?_
  refine lv_iload_n hx hb d_Mod_read_1 rfl (lv_at hl 1 rfl) ?_
  refine gz_roS (As := [.int (nI i)]) (rest := [.ref (g 20)]) ⟨hx, hb, hml, hown, hTB⟩ (c_Mod_isBad l (nI i)) (cwS 1 hTB (gd_S k_707 k_708 k_56 k_709) rfl rfl rfl (by decide +kernel) ⟨Nat.le_of_ble_eq_true rfl, Nat.le_of_ble_eq_true rfl⟩) hP rfl hl.1 rfl (Nat.le_of_ble_eq_true rfl) d_Mod_read_2 ⟨Nat.zero_le _, Nat.zero_le _⟩ hS (fun H locs hP hS => ?_)
  refine lv_iconst (v := nI 1) hx hb d_Mod_read_5 (by decide +kernel) ?_
  refine gz_muI (As := [.int (zI (!inR (nI i) (nI 0) (nI 63))), .int (nI 1)]) (rest := []) (wc := (wM g k L r)) (w1 := (wM g k L (qTh r (if !inR (nI i) (nI 0) (nI 63) then (nI 1) else nI 0)))) (wr := []) ⟨hx, hb, hml, hown, hTB⟩ (c_Mod_fails l D g k L hL0 hL r hrB (!inR (nI i) (nI 0) (nI 63)) (nI 1)) (cwV 2 hTB (gd_V k_698 k_700 k_21 k_56 k_701) rfl rfl rfl (by decide +kernel) ⟨Nat.le_of_ble_eq_true rfl, Nat.le_of_ble_eq_true rfl⟩) hK hP hD hA [0, 1, 2, 3, 4, 5, 6, 7, 8, 9, 10] [] rfl rfl (by decide) rfl (by decide) (by decide) 0 rfl rfl rfl hl.1 rfl (Nat.le_of_ble_eq_true rfl) d_Mod_read_6 ⟨Nat.zero_le _, Nat.zero_le _⟩ hS (fun H locs hP hD hS => ?_)
  have hP : va_P D cl5 (wM g k L (qTh r (if !inR (nI i) (nI 0) (nI 63) then (nI 1) else nI 0))) H := hP
  have hD : va_D A (wM g k L (qTh r (if !inR (nI i) (nI 0) (nI 63) then (nI 1) else nI 0))) := hD
  have hrB : rB (qTh r (if !inR (nI i) (nI 0) (nI 63) then (nI 1) else nI 0)) := fun q => hrB q
  refine gz_ifz_ne (tgt := 48) hx hb d_Mod_read_9 (by decide) (fun h9 => ?_) (fun h9 => ?_)
  · exact absurd h9 (by rw [inB_f (Nat.zero_le _) (by omega) (by decide)]; decide)
  · have hP : va_P D cl5 (wM g k L (qTh r (nI 0))) H := by rw [h9] at hP; exact hP
    have hD : va_D A (wM g k L (qTh r (nI 0))) := by rw [h9] at hD; exact hD
    have hrB : rB (qTh r (nI 0)) := fun q => hrB q
    refine lv_aload_n hx hb d_Mod_read_12 rfl (lv_at hl 0 rfl) ?_
    refine lv_aload_n hx hb d_Mod_read_13 rfl (lv_at hl 0 rfl) ?_
    refine lv_iload_n hx hb d_Mod_read_14 rfl (lv_at hl 1 rfl) ?_
    refine gz_roV (As := [.int (nI i)]) (rest := [.ref (g 20)]) (wc := (wM g k L (qTh r (nI 0)))) ⟨hx, hb, hml, hown, hTB⟩ (c_Mod_kind l D g k L hL0 hL (qTh r (nI 0)) hrB i (by omega)) (cwV 1 hTB (gd_V k_734 k_736 k_27 k_56 k_737) rfl rfl rfl (by decide +kernel) ⟨Nat.le_of_ble_eq_true rfl, Nat.le_of_ble_eq_true rfl⟩) hK hP [0, 1, 2, 3, 4, 5, 6, 7, 8, 9, 10] rfl 0 rfl rfl rfl hl.1 rfl (Nat.le_of_ble_eq_true rfl) d_Mod_read_15 ⟨Nat.zero_le _, Nat.zero_le _⟩ hS (fun H locs hP hS => ?_)
    have := (hrB (20 * i)).2.1
    refine gz_if_eq (tgt := 36) hx hb d_Mod_read_18 (by decide) (by omega) (fun h18 => ?_) (fun h18 => ?_)
    · refine lv_iconst (v := nI 1) hx hb d_Mod_read_36 (by decide +kernel) ?_
      refine lv_goto (tgt := 41) hx hb d_Mod_read_37 (by decide) ?_
      refine lv_iconst (v := nI 2) hx hb d_Mod_read_41 (by decide +kernel) ?_
      refine gz_muI (As := [.int (nI 1), .int (nI 2)]) (rest := []) (wc := (wM g k L (qTh r (nI 0)))) (w1 := (wM g k L (qTh (qTh r (nI 0)) (nI 2)))) (wr := []) ⟨hx, hb, hml, hown, hTB⟩ (c_Mod_fails l D g k L hL0 hL (qTh r (nI 0)) hrB true (nI 2)) (cwV 2 hTB (gd_V k_698 k_700 k_21 k_56 k_701) rfl rfl rfl (by decide +kernel) ⟨Nat.le_of_ble_eq_true rfl, Nat.le_of_ble_eq_true rfl⟩) hK hP hD hA [0, 1, 2, 3, 4, 5, 6, 7, 8, 9, 10] [] rfl rfl (by decide) rfl (by decide) (by decide) 0 rfl rfl rfl hl.1 rfl (Nat.le_of_ble_eq_true rfl) d_Mod_read_42 ⟨Nat.zero_le _, Nat.zero_le _⟩ hS (fun H locs hP hD hS => ?_)
      have hP : va_P D cl5 (wM g k L (qTh (qTh r (nI 0)) (nI 2))) H := hP
      have hD : va_D A (wM g k L (qTh (qTh r (nI 0)) (nI 2))) := hD
      have hrB : rB (qTh (qTh r (nI 0)) (nI 2)) := fun q => hrB q
      refine gz_ifz_eq (tgt := 50) hx hb d_Mod_read_45 (by decide) (fun h45 => ?_) (fun h45 => ?_)
      · exact absurd h45 (by decide)
      · refine lv_lconst (v := 0) hx hb d_Mod_read_48 (by decide +kernel) ?_
        have hP9 : va_P D cl5 (wM g k L (qTh r (nI 2))) H := hP
        have hD9 : va_D A (wM g k L (qTh r (nI 2))) := hD
        exact W.lret (v := 0) hx hb hr (fun tt9 ht9 hW9 => ⟨⟨_, (), rfl, rfl, ⟨by rw [ht9]; exact hP9, hD9⟩⟩, hS.F ht9⟩) hS.2.2 d_Mod_read_49
    · refine lv_iload_n hx hb d_Mod_read_21 rfl (lv_at hl 2 rfl) ?_
      refine lv_iconst (v := nI 0) hx hb d_Mod_read_22 (by decide +kernel) ?_
      refine lv_aload_n hx hb d_Mod_read_23 rfl (lv_at hl 0 rfl) ?_
      refine lv_iload_n hx hb d_Mod_read_24 rfl (lv_at hl 1 rfl) ?_
      refine gz_roV (As := [.int (nI i)]) (rest := [.int (nI 0), .int (y), .ref (g 20)]) (wc := (wM g k L (qTh r (nI 0)))) ⟨hx, hb, hml, hown, hTB⟩ (c_Mod_sizeOf l D g k L hL0 hL (qTh r (nI 0)) hrB i (by omega)) (cwV 1 hTB (gd_V k_742 k_744 k_29 k_56 k_745) rfl rfl rfl (by decide +kernel) ⟨Nat.le_of_ble_eq_true rfl, Nat.le_of_ble_eq_true rfl⟩) hK hP [0, 1, 2, 3, 4, 5, 6, 7, 8, 9, 10] rfl 0 rfl rfl rfl hl.1 rfl (Nat.le_of_ble_eq_true rfl) d_Mod_read_25 ⟨Nat.zero_le _, Nat.zero_le _⟩ hS (fun H locs hP hS => ?_)
      have := (hrB (20 * i + 1)).2.1
      refine lv_iconst (v := nI 1) hx hb d_Mod_read_28 (by decide +kernel) ?_
      refine lv_isub hx hb d_Mod_read_29 ?_
      refine gz_roS (As := [.int (y), .int (nI 0), .int ((nI (rNd (qTh r (nI 0)) (20 * i + 1))) - (nI 1))]) (rest := [.ref (g 20)]) ⟨hx, hb, hml, hown, hTB⟩ (c_Mod_in l y (nI 0) ((nI (rNd (qTh r (nI 0)) (20 * i + 1))) - (nI 1))) (cwS 3 hTB (gd_S k_695 k_696 k_56 k_697) rfl rfl rfl (by decide +kernel) ⟨Nat.le_of_ble_eq_true rfl, Nat.le_of_ble_eq_true rfl⟩) hP rfl hl.1 rfl (Nat.le_of_ble_eq_true rfl) d_Mod_read_30 ⟨Nat.zero_le _, Nat.zero_le _⟩ hS (fun H locs hP hS => ?_)
      refine gz_ifz_ne (tgt := 40) hx hb d_Mod_read_33 (by decide) (fun h33 => ?_) (fun h33 => ?_)
      · exact hno.elim (fun z => absurd z h18) (fun z => absurd (h33.symm.trans z) (by decide))
      · refine lv_iconst (v := nI 1) hx hb d_Mod_read_36 (by decide +kernel) ?_
        refine lv_goto (tgt := 41) hx hb d_Mod_read_37 (by decide) ?_
        refine lv_iconst (v := nI 2) hx hb d_Mod_read_41 (by decide +kernel) ?_
        refine gz_muI (As := [.int (nI 1), .int (nI 2)]) (rest := []) (wc := (wM g k L (qTh r (nI 0)))) (w1 := (wM g k L (qTh (qTh r (nI 0)) (nI 2)))) (wr := []) ⟨hx, hb, hml, hown, hTB⟩ (c_Mod_fails l D g k L hL0 hL (qTh r (nI 0)) hrB true (nI 2)) (cwV 2 hTB (gd_V k_698 k_700 k_21 k_56 k_701) rfl rfl rfl (by decide +kernel) ⟨Nat.le_of_ble_eq_true rfl, Nat.le_of_ble_eq_true rfl⟩) hK hP hD hA [0, 1, 2, 3, 4, 5, 6, 7, 8, 9, 10] [] rfl rfl (by decide) rfl (by decide) (by decide) 0 rfl rfl rfl hl.1 rfl (Nat.le_of_ble_eq_true rfl) d_Mod_read_42 ⟨Nat.zero_le _, Nat.zero_le _⟩ hS (fun H locs hP hD hS => ?_)
        have hP : va_P D cl5 (wM g k L (qTh (qTh r (nI 0)) (nI 2))) H := hP
        have hD : va_D A (wM g k L (qTh (qTh r (nI 0)) (nI 2))) := hD
        have hrB : rB (qTh (qTh r (nI 0)) (nI 2)) := fun q => hrB q
        refine gz_ifz_eq (tgt := 50) hx hb d_Mod_read_45 (by decide) (fun h45 => ?_) (fun h45 => ?_)
        · exact absurd h45 (by decide)
        · refine lv_lconst (v := 0) hx hb d_Mod_read_48 (by decide +kernel) ?_
          have hP9 : va_P D cl5 (wM g k L (qTh r (nI 2))) H := hP
          have hD9 : va_D A (wM g k L (qTh r (nI 2))) := hD
          exact W.lret (v := 0) hx hb hr (fun tt9 ht9 hW9 => ⟨⟨_, (), rfl, rfl, ⟨by rw [ht9]; exact hP9, hD9⟩⟩, hS.F ht9⟩) hS.2.2 d_Mod_read_49
theorem d_Mod_node_0 : decode b_Mod_node 0 = .ok (.aload_n 0, 1) := by decide +kernel
theorem d_Mod_node_1 : decode b_Mod_node 1 = .ok (.iload_n 1, 1) := by decide +kernel
theorem d_Mod_node_2 : decode b_Mod_node 2 = .ok (.invokestatic 180, 3) := by decide +kernel
theorem d_Mod_node_5 : decode b_Mod_node 5 = .ok (.iconst 1, 1) := by decide +kernel
theorem d_Mod_node_6 : decode b_Mod_node 6 = .ok (.invokevirtual 170, 3) := by decide +kernel
theorem d_Mod_node_9 : decode b_Mod_node 9 = .ok (.ifCond .ne 42, 3) := by decide +kernel
theorem d_Mod_node_12 : decode b_Mod_node 12 = .ok (.aload_n 0, 1) := by decide +kernel
theorem d_Mod_node_13 : decode b_Mod_node 13 = .ok (.iload_n 2, 1) := by decide +kernel
theorem d_Mod_node_14 : decode b_Mod_node 14 = .ok (.iconst 0, 1) := by decide +kernel
theorem d_Mod_node_15 : decode b_Mod_node 15 = .ok (.iconst 2, 1) := by decide +kernel
theorem d_Mod_node_16 : decode b_Mod_node 16 = .ok (.iconst 2, 1) := by decide +kernel
theorem d_Mod_node_17 : decode b_Mod_node 17 = .ok (.aload_n 0, 1) := by decide +kernel
theorem d_Mod_node_18 : decode b_Mod_node 18 = .ok (.getfield 13, 3) := by decide +kernel
theorem d_Mod_node_21 : decode b_Mod_node 21 = .ok (.bipush 20, 2) := by decide +kernel
theorem d_Mod_node_23 : decode b_Mod_node 23 = .ok (.iload_n 1, 1) := by decide +kernel
theorem d_Mod_node_24 : decode b_Mod_node 24 = .ok (.bipush 63, 2) := by decide +kernel
theorem d_Mod_node_26 : decode b_Mod_node 26 = .ok (.iand, 1) := by decide +kernel
theorem d_Mod_node_27 : decode b_Mod_node 27 = .ok (.imul, 1) := by decide +kernel
theorem d_Mod_node_28 : decode b_Mod_node 28 = .ok (.iconst 2, 1) := by decide +kernel
theorem d_Mod_node_29 : decode b_Mod_node 29 = .ok (.iadd, 1) := by decide +kernel
theorem d_Mod_node_30 : decode b_Mod_node 30 = .ok (.iaload, 1) := by decide +kernel
theorem d_Mod_node_31 : decode b_Mod_node 31 = .ok (.imul, 1) := by decide +kernel
theorem d_Mod_node_32 : decode b_Mod_node 32 = .ok (.iadd, 1) := by decide +kernel
theorem d_Mod_node_33 : decode b_Mod_node 33 = .ok (.invokestatic 127, 3) := by decide +kernel
theorem d_Mod_node_36 : decode b_Mod_node 36 = .ok (.ifCond .ne 7, 3) := by decide +kernel
theorem d_Mod_node_39 : decode b_Mod_node 39 = .ok (.iconst 1, 1) := by decide +kernel
theorem d_Mod_node_40 : decode b_Mod_node 40 = .ok (.goto 4, 3) := by decide +kernel
theorem d_Mod_node_43 : decode b_Mod_node 43 = .ok (.iconst 0, 1) := by decide +kernel
theorem d_Mod_node_44 : decode b_Mod_node 44 = .ok (.iconst 2, 1) := by decide +kernel
theorem d_Mod_node_45 : decode b_Mod_node 45 = .ok (.invokevirtual 170, 3) := by decide +kernel
theorem d_Mod_node_48 : decode b_Mod_node 48 = .ok (.ifCond .eq 5, 3) := by decide +kernel
theorem d_Mod_node_51 : decode b_Mod_node 51 = .ok (.iconst 0, 1) := by decide +kernel
theorem d_Mod_node_52 : decode b_Mod_node 52 = .ok (.ireturn, 1) := by decide +kernel
theorem d_Mod_node_53 : decode b_Mod_node 53 = .ok (.iload_n 2, 1) := by decide +kernel
theorem d_Mod_node_54 : decode b_Mod_node 54 = .ok (.iconst 3, 1) := by decide +kernel
theorem d_Mod_node_55 : decode b_Mod_node 55 = .ok (.if_icmp .ge 15, 3) := by decide +kernel
theorem d_Mod_node_58 : decode b_Mod_node 58 = .ok (.aload_n 0, 1) := by decide +kernel
theorem d_Mod_node_59 : decode b_Mod_node 59 = .ok (.getfield 13, 3) := by decide +kernel
theorem d_Mod_node_62 : decode b_Mod_node 62 = .ok (.bipush 20, 2) := by decide +kernel
theorem d_Mod_node_64 : decode b_Mod_node 64 = .ok (.iload_n 1, 1) := by decide +kernel
theorem d_Mod_node_65 : decode b_Mod_node 65 = .ok (.imul, 1) := by decide +kernel
theorem d_Mod_node_66 : decode b_Mod_node 66 = .ok (.iload_n 2, 1) := by decide +kernel
theorem d_Mod_node_67 : decode b_Mod_node 67 = .ok (.iadd, 1) := by decide +kernel
theorem d_Mod_node_68 : decode b_Mod_node 68 = .ok (.iaload, 1) := by decide +kernel
theorem d_Mod_node_69 : decode b_Mod_node 69 = .ok (.ireturn, 1) := by decide +kernel
theorem d_Mod_node_70 : decode b_Mod_node 70 = .ok (.aload_n 0, 1) := by decide +kernel
theorem d_Mod_node_71 : decode b_Mod_node 71 = .ok (.getfield 13, 3) := by decide +kernel
theorem d_Mod_node_74 : decode b_Mod_node 74 = .ok (.bipush 20, 2) := by decide +kernel
theorem d_Mod_node_76 : decode b_Mod_node 76 = .ok (.iload_n 1, 1) := by decide +kernel
theorem d_Mod_node_77 : decode b_Mod_node 77 = .ok (.imul, 1) := by decide +kernel
theorem d_Mod_node_78 : decode b_Mod_node 78 = .ok (.iload_n 2, 1) := by decide +kernel
theorem d_Mod_node_79 : decode b_Mod_node 79 = .ok (.iadd, 1) := by decide +kernel
theorem d_Mod_node_80 : decode b_Mod_node 80 = .ok (.iaload, 1) := by decide +kernel
theorem d_Mod_node_81 : decode b_Mod_node 81 = .ok (.ireturn, 1) := by decide +kernel
set_option maxHeartbeats 4000000 in
set_option maxRecDepth 100000 in
theorem c_Mod_node (l : Launch) (D : va_G) (g : Nat → Nat) (k : Nat → ClassId) (L : Nat) (hL0 : 96 ≤ L) (hL : L ≤ 768) (r : RSt) (hrB : rB r) (i w : Nat) (hi0 : i < 64) (hX : ∀ i, i < 64 → rNd r (20 * i + 2) ≤ 8) (hw0 : w ≤ 2 + 2 * rNd r (20 * i + 2)) : MuI l y_Mod_node w_Mod_node ({ frames := 2, cells := 0, slots := 0, locals := 42 }) [.ref (g 20), .int (nI i), .int (nI w)] D cl5 (tyC k) (wM g k L r) (wM g k L (qTh r (nI 0))) (nI (rNd r (20 * i + w))) := by
  intro sz
  refine Met.ofW (cc := b_Mod_node) (maxL := 3) (ret := (some .int)) (by decide) rfl ?_
  intro p9 e9 s m args9 below9 meth9 c9 s₁ B hml hv
  obtain ⟨rfl, hsz, hP, hK, hD0⟩ := hv
  have hx := B.exec
  have hb := B.bytes
  have hr := B.returns
  have hts := atoms_spec (ws := w_Mod_node) B.pre
  have hTB : ∀ w ∈ lw_tb, w.before _ s = true := fun w h => hts w (List.mem_cons_of_mem _ h)
  have hown : s.vm.findClass R_Mod = some m.cls := findClass_of_methodNamed B.named
  have hlocks := B.notSynchronized
  subst hsz
  have hD := hD0.self (sz := s.heap.size)
  generalize hAe : va_A (wM g k L r) s.heap.size = A at hD ⊢
  have hA : ∀ q : Nat, s.heap.size ≤ q → A q := fun q h => by rw [← hAe]; exact Or.inr h
  have hS : va_S A s.heap s.heap [] := va_S.rf
  have hl := lv_entry ([.ref (g 20), .int (nI i), .int (nI w)]) (n := 3) (Nat.le_of_ble_eq_true rfl)
  rw [lg_entry_eq]
  generalize (lg_sl ([.ref (g 20), .int (nI i), .int (nI w)]) ++ List.replicate (3 - (lg_sl ([.ref (g 20), .int (nI i), .int (nI w)])).length) Slot.unset).toArray = ls at hl ⊢
  have hl : lv_has ls 3 [(0, .ref (g 20)), (1, .int (nI i)), (2, .int (nI w))] := hl
  have hxi := hX i hi0
  refine lv_aload_n hx hb d_Mod_node_0 rfl (lv_at hl 0 rfl) ?_
  refine lv_iload_n hx hb d_Mod_node_1 rfl (lv_at hl 1 rfl) ?_
  refine gz_roS (As := [.int (nI i)]) (rest := [.ref (g 20)]) ⟨hx, hb, hml, hown, hTB⟩ (c_Mod_isBad l (nI i)) (cwS 1 hTB (gd_S k_707 k_708 k_56 k_709) rfl rfl rfl (by decide +kernel) ⟨Nat.le_of_ble_eq_true rfl, Nat.le_of_ble_eq_true rfl⟩) hP rfl hl.1 rfl (Nat.le_of_ble_eq_true rfl) d_Mod_node_2 ⟨Nat.zero_le _, Nat.zero_le _⟩ hS (fun H locs hP hS => ?_)
  refine lv_iconst (v := nI 1) hx hb d_Mod_node_5 (by decide +kernel) ?_
  refine gz_muI (As := [.int (zI (!inR (nI i) (nI 0) (nI 63))), .int (nI 1)]) (rest := []) (wc := (wM g k L r)) (w1 := (wM g k L (qTh r (if !inR (nI i) (nI 0) (nI 63) then (nI 1) else nI 0)))) (wr := []) ⟨hx, hb, hml, hown, hTB⟩ (c_Mod_fails l D g k L hL0 hL r hrB (!inR (nI i) (nI 0) (nI 63)) (nI 1)) (cwV 2 hTB (gd_V k_698 k_700 k_21 k_56 k_701) rfl rfl rfl (by decide +kernel) ⟨Nat.le_of_ble_eq_true rfl, Nat.le_of_ble_eq_true rfl⟩) hK hP hD hA [0, 1, 2, 3, 4, 5, 6, 7, 8, 9, 10] [] rfl rfl (by decide) rfl (by decide) (by decide) 0 rfl rfl rfl hl.1 rfl (Nat.le_of_ble_eq_true rfl) d_Mod_node_6 ⟨Nat.zero_le _, Nat.zero_le _⟩ hS (fun H locs hP hD hS => ?_)
  have hP : va_P D cl5 (wM g k L (qTh r (if !inR (nI i) (nI 0) (nI 63) then (nI 1) else nI 0))) H := hP
  have hD : va_D A (wM g k L (qTh r (if !inR (nI i) (nI 0) (nI 63) then (nI 1) else nI 0))) := hD
  have hrB : rB (qTh r (if !inR (nI i) (nI 0) (nI 63) then (nI 1) else nI 0)) := fun q => hrB q
  refine gz_ifz_ne (tgt := 51) hx hb d_Mod_node_9 (by decide) (fun h9 => ?_) (fun h9 => ?_)
  · exact absurd h9 (by rw [inB_f (Nat.zero_le _) (by omega) (by decide)]; decide)
  · have hP : va_P D cl5 (wM g k L (qTh r (nI 0))) H := by rw [h9] at hP; exact hP
    have hD : va_D A (wM g k L (qTh r (nI 0))) := by rw [h9] at hD; exact hD
    have hrB : rB (qTh r (nI 0)) := fun q => hrB q
    refine lv_aload_n hx hb d_Mod_node_12 rfl (lv_at hl 0 rfl) ?_
    refine lv_iload_n hx hb d_Mod_node_13 rfl (lv_at hl 2 rfl) ?_
    refine lv_iconst (v := nI 0) hx hb d_Mod_node_14 (by decide +kernel) ?_
    refine lv_iconst (v := nI 2) hx hb d_Mod_node_15 (by decide +kernel) ?_
    refine lv_iconst (v := nI 2) hx hb d_Mod_node_16 (by decide +kernel) ?_
    refine lv_aload_n hx hb d_Mod_node_17 rfl (lv_at hl 0 rfl) ?_
    refine va_get (D := D) (ci := 4) (v := .ref (g 22)) (C := R_Mod) (T := T_Mod) (N := 14) hx hb hTB in_Mod hown hK hP 0 rfl rfl 4 (by decide) (hTB _ k_648) (fun _ h9 => h9) rfl d_Mod_node_18 ?_
    refine lv_bipush (v := nI 20) hx hb d_Mod_node_21 (by decide +kernel) ?_
    refine lv_iload_n hx hb d_Mod_node_23 rfl (lv_at hl 1 rfl) ?_
    refine lv_bipush (v := nI 63) hx hb d_Mod_node_24 (by decide +kernel) ?_
    refine gm_and6 hx hb d_Mod_node_26 (by omega) ?_
    rw [show i % 64 = i from Nat.mod_eq_of_lt hi0]
    refine gz_imul hx hb d_Mod_node_27 ?_
    refine lv_iconst (v := nI 2) hx hb d_Mod_node_28 (by decide +kernel) ?_
    refine gz_iadd hx hb d_Mod_node_29 ?_
    refine gm_ald hx hb hK hP 2 2 rfl rfl (i := (20 * i) + 2) (by omega) (by omega) d_Mod_node_30 ?_
    have := (hrB ((20 * i) + 2)).2.1
    refine gz_imul hx hb d_Mod_node_31 ?_
    refine gz_iadd hx hb d_Mod_node_32 ?_
    refine gz_roS (As := [.int (nI w), .int (nI 0), .int (nI (2 + (2 * (rNd (qTh r (nI 0)) ((20 * i) + 2)))))]) (rest := [.ref (g 20)]) ⟨hx, hb, hml, hown, hTB⟩ (c_Mod_in l (nI w) (nI 0) (nI (2 + (2 * (rNd (qTh r (nI 0)) ((20 * i) + 2)))))) (cwS 3 hTB (gd_S k_695 k_696 k_56 k_697) rfl rfl rfl (by decide +kernel) ⟨Nat.le_of_ble_eq_true rfl, Nat.le_of_ble_eq_true rfl⟩) hP rfl hl.1 rfl (Nat.le_of_ble_eq_true rfl) d_Mod_node_33 ⟨Nat.zero_le _, Nat.zero_le _⟩ hS (fun H locs hP hS => ?_)
    refine gz_ifz_ne (tgt := 43) hx hb d_Mod_node_36 (by decide) (fun h36 => ?_) (fun h36 => ?_)
    · refine lv_iconst (v := nI 0) hx hb d_Mod_node_43 (by decide +kernel) ?_
      refine lv_iconst (v := nI 2) hx hb d_Mod_node_44 (by decide +kernel) ?_
      refine gz_muI (As := [.int (nI 0), .int (nI 2)]) (rest := []) (wc := (wM g k L (qTh r (nI 0)))) (w1 := (wM g k L (qTh (qTh r (nI 0)) (nI 0)))) (wr := []) ⟨hx, hb, hml, hown, hTB⟩ (c_Mod_fails l D g k L hL0 hL (qTh r (nI 0)) hrB false (nI 2)) (cwV 2 hTB (gd_V k_698 k_700 k_21 k_56 k_701) rfl rfl rfl (by decide +kernel) ⟨Nat.le_of_ble_eq_true rfl, Nat.le_of_ble_eq_true rfl⟩) hK hP hD hA [0, 1, 2, 3, 4, 5, 6, 7, 8, 9, 10] [] rfl rfl (by decide) rfl (by decide) (by decide) 0 rfl rfl rfl hl.1 rfl (Nat.le_of_ble_eq_true rfl) d_Mod_node_45 ⟨Nat.zero_le _, Nat.zero_le _⟩ hS (fun H locs hP hD hS => ?_)
      have hP : va_P D cl5 (wM g k L (qTh (qTh r (nI 0)) (nI 0))) H := hP
      have hD : va_D A (wM g k L (qTh (qTh r (nI 0)) (nI 0))) := hD
      have hrB : rB (qTh (qTh r (nI 0)) (nI 0)) := fun q => hrB q
      refine gz_ifz_eq (tgt := 53) hx hb d_Mod_node_48 (by decide) (fun h48 => ?_) (fun h48 => ?_)
      · refine lv_iload_n hx hb d_Mod_node_53 rfl (lv_at hl 2 rfl) ?_
        refine lv_iconst (v := nI 3) hx hb d_Mod_node_54 (by decide +kernel) ?_
        refine gz_icmp_ge (tgt := 70) hx hb d_Mod_node_55 (by decide) (by omega) (by omega) (fun h55 => ?_) (fun h55 => ?_)
        · refine lv_aload_n hx hb d_Mod_node_70 rfl (lv_at hl 0 rfl) ?_
          refine va_get (D := D) (ci := 4) (v := .ref (g 22)) (C := R_Mod) (T := T_Mod) (N := 14) hx hb hTB in_Mod hown hK hP 0 rfl rfl 4 (by decide) (hTB _ k_648) (fun _ h9 => h9) rfl d_Mod_node_71 ?_
          refine lv_bipush (v := nI 20) hx hb d_Mod_node_74 (by decide +kernel) ?_
          refine lv_iload_n hx hb d_Mod_node_76 rfl (lv_at hl 1 rfl) ?_
          refine gz_imul hx hb d_Mod_node_77 ?_
          refine lv_iload_n hx hb d_Mod_node_78 rfl (lv_at hl 2 rfl) ?_
          refine gz_iadd hx hb d_Mod_node_79 ?_
          refine gm_ald hx hb hK hP 2 2 rfl rfl (i := (20 * i) + w) (by omega) (by omega) d_Mod_node_80 ?_
          have := (hrB ((20 * i) + w)).2.1
          have hP9 : va_P D cl5 (wM g k L (qTh r (nI 0))) H := hP
          have hD9 : va_D A (wM g k L (qTh r (nI 0))) := hD
          exact W.iret (v := nI (rNd (qTh (qTh r (nI 0)) (nI 0)) ((20 * i) + w))) hx hb hr (fun tt9 ht9 hW9 => ⟨⟨_, (), rfl, rfl, ⟨by rw [ht9]; exact hP9, hD9⟩⟩, hS.F ht9⟩) hS.2.2 d_Mod_node_81
        · refine lv_aload_n hx hb d_Mod_node_58 rfl (lv_at hl 0 rfl) ?_
          refine va_get (D := D) (ci := 4) (v := .ref (g 22)) (C := R_Mod) (T := T_Mod) (N := 14) hx hb hTB in_Mod hown hK hP 0 rfl rfl 4 (by decide) (hTB _ k_648) (fun _ h9 => h9) rfl d_Mod_node_59 ?_
          refine lv_bipush (v := nI 20) hx hb d_Mod_node_62 (by decide +kernel) ?_
          refine lv_iload_n hx hb d_Mod_node_64 rfl (lv_at hl 1 rfl) ?_
          refine gz_imul hx hb d_Mod_node_65 ?_
          refine lv_iload_n hx hb d_Mod_node_66 rfl (lv_at hl 2 rfl) ?_
          refine gz_iadd hx hb d_Mod_node_67 ?_
          refine gm_ald hx hb hK hP 2 2 rfl rfl (i := (20 * i) + w) (by omega) (by omega) d_Mod_node_68 ?_
          have := (hrB ((20 * i) + w)).2.1
          have hP9 : va_P D cl5 (wM g k L (qTh r (nI 0))) H := hP
          have hD9 : va_D A (wM g k L (qTh r (nI 0))) := hD
          exact W.iret (v := nI (rNd (qTh (qTh r (nI 0)) (nI 0)) ((20 * i) + w))) hx hb hr (fun tt9 ht9 hW9 => ⟨⟨_, (), rfl, rfl, ⟨by rw [ht9]; exact hP9, hD9⟩⟩, hS.F ht9⟩) hS.2.2 d_Mod_node_69
      · exact absurd h48 (by decide)
    · exact absurd h36 (by rw [inR_t (Nat.zero_le _) (show w ≤ 2 + 2 * rNd r (20 * i + 2) from hw0) (show 2 + 2 * rNd r (20 * i + 2) < 2147483648 by omega)]; decide)
set_option maxHeartbeats 4000000 in
set_option maxRecDepth 100000 in
theorem c_Mod_node_b (l : Launch) (D : va_G) (g : Nat → Nat) (k : Nat → ClassId) (L : Nat) (hL0 : 96 ≤ L) (hL : L ≤ 768) (r : RSt) (hrB : rB r) (x y : Int32) (hbad : (!inR x (nI 0) (nI 63)) = true) : MuI l y_Mod_node w_Mod_node ({ frames := 2, cells := 0, slots := 0, locals := 42 }) [.ref (g 20), .int (x), .int (y)] D cl5 (tyC k) (wM g k L r) (wM g k L (qTh r (nI 1))) (nI 0) := by
  intro sz
  refine Met.ofW (cc := b_Mod_node) (maxL := 3) (ret := (some .int)) (by decide) rfl ?_
  intro p9 e9 s m args9 below9 meth9 c9 s₁ B hml hv
  obtain ⟨rfl, hsz, hP, hK, hD0⟩ := hv
  have hx := B.exec
  have hb := B.bytes
  have hr := B.returns
  have hts := atoms_spec (ws := w_Mod_node) B.pre
  have hTB : ∀ w ∈ lw_tb, w.before _ s = true := fun w h => hts w (List.mem_cons_of_mem _ h)
  have hown : s.vm.findClass R_Mod = some m.cls := findClass_of_methodNamed B.named
  have hlocks := B.notSynchronized
  subst hsz
  have hD := hD0.self (sz := s.heap.size)
  generalize hAe : va_A (wM g k L r) s.heap.size = A at hD ⊢
  have hA : ∀ q : Nat, s.heap.size ≤ q → A q := fun q h => by rw [← hAe]; exact Or.inr h
  have hS : va_S A s.heap s.heap [] := va_S.rf
  have hl := lv_entry ([.ref (g 20), .int (x), .int (y)]) (n := 3) (Nat.le_of_ble_eq_true rfl)
  rw [lg_entry_eq]
  generalize (lg_sl ([.ref (g 20), .int (x), .int (y)]) ++ List.replicate (3 - (lg_sl ([.ref (g 20), .int (x), .int (y)])).length) Slot.unset).toArray = ls at hl ⊢
  have hl : lv_has ls 3 [(0, .ref (g 20)), (1, .int (x)), (2, .int (y))] := hl
  refine lv_aload_n hx hb d_Mod_node_0 rfl (lv_at hl 0 rfl) ?_
  refine lv_iload_n hx hb d_Mod_node_1 rfl (lv_at hl 1 rfl) ?_
  refine gz_roS (As := [.int (x)]) (rest := [.ref (g 20)]) ⟨hx, hb, hml, hown, hTB⟩ (c_Mod_isBad l x) (cwS 1 hTB (gd_S k_707 k_708 k_56 k_709) rfl rfl rfl (by decide +kernel) ⟨Nat.le_of_ble_eq_true rfl, Nat.le_of_ble_eq_true rfl⟩) hP rfl hl.1 rfl (Nat.le_of_ble_eq_true rfl) d_Mod_node_2 ⟨Nat.zero_le _, Nat.zero_le _⟩ hS (fun H locs hP hS => ?_)
  refine lv_iconst (v := nI 1) hx hb d_Mod_node_5 (by decide +kernel) ?_
  refine gz_muI (As := [.int (zI (!inR x (nI 0) (nI 63))), .int (nI 1)]) (rest := []) (wc := (wM g k L r)) (w1 := (wM g k L (qTh r (if !inR x (nI 0) (nI 63) then (nI 1) else nI 0)))) (wr := []) ⟨hx, hb, hml, hown, hTB⟩ (c_Mod_fails l D g k L hL0 hL r hrB (!inR x (nI 0) (nI 63)) (nI 1)) (cwV 2 hTB (gd_V k_698 k_700 k_21 k_56 k_701) rfl rfl rfl (by decide +kernel) ⟨Nat.le_of_ble_eq_true rfl, Nat.le_of_ble_eq_true rfl⟩) hK hP hD hA [0, 1, 2, 3, 4, 5, 6, 7, 8, 9, 10] [] rfl rfl (by decide) rfl (by decide) (by decide) 0 rfl rfl rfl hl.1 rfl (Nat.le_of_ble_eq_true rfl) d_Mod_node_6 ⟨Nat.zero_le _, Nat.zero_le _⟩ hS (fun H locs hP hD hS => ?_)
  have hP : va_P D cl5 (wM g k L (qTh r (if !inR x (nI 0) (nI 63) then (nI 1) else nI 0))) H := hP
  have hD : va_D A (wM g k L (qTh r (if !inR x (nI 0) (nI 63) then (nI 1) else nI 0))) := hD
  have hrB : rB (qTh r (if !inR x (nI 0) (nI 63) then (nI 1) else nI 0)) := fun q => hrB q
  refine gz_ifz_ne (tgt := 51) hx hb d_Mod_node_9 (by decide) (fun h9 => ?_) (fun h9 => ?_)
  · have hP : va_P D cl5 (wM g k L (qTh r (nI 1))) H := by rw [h9] at hP; exact hP
    have hD : va_D A (wM g k L (qTh r (nI 1))) := by rw [h9] at hD; exact hD
    refine lv_iconst (v := nI 0) hx hb d_Mod_node_51 (by decide +kernel) ?_
    have hP9 : va_P D cl5 (wM g k L (qTh r (nI 1))) H := hP
    have hD9 : va_D A (wM g k L (qTh r (nI 1))) := hD
    exact W.iret (v := nI 0) hx hb hr (fun tt9 ht9 hW9 => ⟨⟨_, (), rfl, rfl, ⟨by rw [ht9]; exact hP9, hD9⟩⟩, hS.F ht9⟩) hS.2.2 d_Mod_node_52
  · exact absurd (h9.symm.trans hbad) (by decide)
set_option maxHeartbeats 4000000 in
set_option maxRecDepth 100000 in
theorem c_Mod_node_c (l : Launch) (D : va_G) (g : Nat → Nat) (k : Nat → ClassId) (L : Nat) (hL0 : 96 ≤ L) (hL : L ≤ 768) (r : RSt) (hrB : rB r) (i : Nat) (y : Int32) (hi0 : i < 64) (hX : ∀ i, i < 64 → rNd r (20 * i + 2) ≤ 8) (hno : inR y (nI 0) (nI (2 + 2 * rNd r (20 * i + 2))) = false) : MuI l y_Mod_node w_Mod_node ({ frames := 2, cells := 0, slots := 0, locals := 42 }) [.ref (g 20), .int (nI i), .int (y)] D cl5 (tyC k) (wM g k L r) (wM g k L (qTh r (nI 2))) (nI 0) := by
  intro sz
  refine Met.ofW (cc := b_Mod_node) (maxL := 3) (ret := (some .int)) (by decide) rfl ?_
  intro p9 e9 s m args9 below9 meth9 c9 s₁ B hml hv
  obtain ⟨rfl, hsz, hP, hK, hD0⟩ := hv
  have hx := B.exec
  have hb := B.bytes
  have hr := B.returns
  have hts := atoms_spec (ws := w_Mod_node) B.pre
  have hTB : ∀ w ∈ lw_tb, w.before _ s = true := fun w h => hts w (List.mem_cons_of_mem _ h)
  have hown : s.vm.findClass R_Mod = some m.cls := findClass_of_methodNamed B.named
  have hlocks := B.notSynchronized
  subst hsz
  have hD := hD0.self (sz := s.heap.size)
  generalize hAe : va_A (wM g k L r) s.heap.size = A at hD ⊢
  have hA : ∀ q : Nat, s.heap.size ≤ q → A q := fun q h => by rw [← hAe]; exact Or.inr h
  have hS : va_S A s.heap s.heap [] := va_S.rf
  have hl := lv_entry ([.ref (g 20), .int (nI i), .int (y)]) (n := 3) (Nat.le_of_ble_eq_true rfl)
  rw [lg_entry_eq]
  generalize (lg_sl ([.ref (g 20), .int (nI i), .int (y)]) ++ List.replicate (3 - (lg_sl ([.ref (g 20), .int (nI i), .int (y)])).length) Slot.unset).toArray = ls at hl ⊢
  have hl : lv_has ls 3 [(0, .ref (g 20)), (1, .int (nI i)), (2, .int (y))] := hl
  have hxi := hX i hi0
  refine lv_aload_n hx hb d_Mod_node_0 rfl (lv_at hl 0 rfl) ?_
  refine lv_iload_n hx hb d_Mod_node_1 rfl (lv_at hl 1 rfl) ?_
  refine gz_roS (As := [.int (nI i)]) (rest := [.ref (g 20)]) ⟨hx, hb, hml, hown, hTB⟩ (c_Mod_isBad l (nI i)) (cwS 1 hTB (gd_S k_707 k_708 k_56 k_709) rfl rfl rfl (by decide +kernel) ⟨Nat.le_of_ble_eq_true rfl, Nat.le_of_ble_eq_true rfl⟩) hP rfl hl.1 rfl (Nat.le_of_ble_eq_true rfl) d_Mod_node_2 ⟨Nat.zero_le _, Nat.zero_le _⟩ hS (fun H locs hP hS => ?_)
  refine lv_iconst (v := nI 1) hx hb d_Mod_node_5 (by decide +kernel) ?_
  refine gz_muI (As := [.int (zI (!inR (nI i) (nI 0) (nI 63))), .int (nI 1)]) (rest := []) (wc := (wM g k L r)) (w1 := (wM g k L (qTh r (if !inR (nI i) (nI 0) (nI 63) then (nI 1) else nI 0)))) (wr := []) ⟨hx, hb, hml, hown, hTB⟩ (c_Mod_fails l D g k L hL0 hL r hrB (!inR (nI i) (nI 0) (nI 63)) (nI 1)) (cwV 2 hTB (gd_V k_698 k_700 k_21 k_56 k_701) rfl rfl rfl (by decide +kernel) ⟨Nat.le_of_ble_eq_true rfl, Nat.le_of_ble_eq_true rfl⟩) hK hP hD hA [0, 1, 2, 3, 4, 5, 6, 7, 8, 9, 10] [] rfl rfl (by decide) rfl (by decide) (by decide) 0 rfl rfl rfl hl.1 rfl (Nat.le_of_ble_eq_true rfl) d_Mod_node_6 ⟨Nat.zero_le _, Nat.zero_le _⟩ hS (fun H locs hP hD hS => ?_)
  have hP : va_P D cl5 (wM g k L (qTh r (if !inR (nI i) (nI 0) (nI 63) then (nI 1) else nI 0))) H := hP
  have hD : va_D A (wM g k L (qTh r (if !inR (nI i) (nI 0) (nI 63) then (nI 1) else nI 0))) := hD
  have hrB : rB (qTh r (if !inR (nI i) (nI 0) (nI 63) then (nI 1) else nI 0)) := fun q => hrB q
  refine gz_ifz_ne (tgt := 51) hx hb d_Mod_node_9 (by decide) (fun h9 => ?_) (fun h9 => ?_)
  · exact absurd h9 (by rw [inB_f (Nat.zero_le _) (by omega) (by decide)]; decide)
  · have hP : va_P D cl5 (wM g k L (qTh r (nI 0))) H := by rw [h9] at hP; exact hP
    have hD : va_D A (wM g k L (qTh r (nI 0))) := by rw [h9] at hD; exact hD
    have hrB : rB (qTh r (nI 0)) := fun q => hrB q
    refine lv_aload_n hx hb d_Mod_node_12 rfl (lv_at hl 0 rfl) ?_
    refine lv_iload_n hx hb d_Mod_node_13 rfl (lv_at hl 2 rfl) ?_
    refine lv_iconst (v := nI 0) hx hb d_Mod_node_14 (by decide +kernel) ?_
    refine lv_iconst (v := nI 2) hx hb d_Mod_node_15 (by decide +kernel) ?_
    refine lv_iconst (v := nI 2) hx hb d_Mod_node_16 (by decide +kernel) ?_
    refine lv_aload_n hx hb d_Mod_node_17 rfl (lv_at hl 0 rfl) ?_
    refine va_get (D := D) (ci := 4) (v := .ref (g 22)) (C := R_Mod) (T := T_Mod) (N := 14) hx hb hTB in_Mod hown hK hP 0 rfl rfl 4 (by decide) (hTB _ k_648) (fun _ h9 => h9) rfl d_Mod_node_18 ?_
    refine lv_bipush (v := nI 20) hx hb d_Mod_node_21 (by decide +kernel) ?_
    refine lv_iload_n hx hb d_Mod_node_23 rfl (lv_at hl 1 rfl) ?_
    refine lv_bipush (v := nI 63) hx hb d_Mod_node_24 (by decide +kernel) ?_
    refine gm_and6 hx hb d_Mod_node_26 (by omega) ?_
    rw [show i % 64 = i from Nat.mod_eq_of_lt hi0]
    refine gz_imul hx hb d_Mod_node_27 ?_
    refine lv_iconst (v := nI 2) hx hb d_Mod_node_28 (by decide +kernel) ?_
    refine gz_iadd hx hb d_Mod_node_29 ?_
    refine gm_ald hx hb hK hP 2 2 rfl rfl (i := (20 * i) + 2) (by omega) (by omega) d_Mod_node_30 ?_
    have := (hrB ((20 * i) + 2)).2.1
    refine gz_imul hx hb d_Mod_node_31 ?_
    refine gz_iadd hx hb d_Mod_node_32 ?_
    refine gz_roS (As := [.int (y), .int (nI 0), .int (nI (2 + (2 * (rNd (qTh r (nI 0)) ((20 * i) + 2)))))]) (rest := [.ref (g 20)]) ⟨hx, hb, hml, hown, hTB⟩ (c_Mod_in l y (nI 0) (nI (2 + (2 * (rNd (qTh r (nI 0)) ((20 * i) + 2)))))) (cwS 3 hTB (gd_S k_695 k_696 k_56 k_697) rfl rfl rfl (by decide +kernel) ⟨Nat.le_of_ble_eq_true rfl, Nat.le_of_ble_eq_true rfl⟩) hP rfl hl.1 rfl (Nat.le_of_ble_eq_true rfl) d_Mod_node_33 ⟨Nat.zero_le _, Nat.zero_le _⟩ hS (fun H locs hP hS => ?_)
    refine gz_ifz_ne (tgt := 43) hx hb d_Mod_node_36 (by decide) (fun h36 => ?_) (fun h36 => ?_)
    · exact absurd (h36.symm.trans hno) (by decide)
    · refine lv_iconst (v := nI 1) hx hb d_Mod_node_39 (by decide +kernel) ?_
      refine lv_goto (tgt := 44) hx hb d_Mod_node_40 (by decide) ?_
      refine lv_iconst (v := nI 2) hx hb d_Mod_node_44 (by decide +kernel) ?_
      refine gz_muI (As := [.int (nI 1), .int (nI 2)]) (rest := []) (wc := (wM g k L (qTh r (nI 0)))) (w1 := (wM g k L (qTh (qTh r (nI 0)) (nI 2)))) (wr := []) ⟨hx, hb, hml, hown, hTB⟩ (c_Mod_fails l D g k L hL0 hL (qTh r (nI 0)) hrB true (nI 2)) (cwV 2 hTB (gd_V k_698 k_700 k_21 k_56 k_701) rfl rfl rfl (by decide +kernel) ⟨Nat.le_of_ble_eq_true rfl, Nat.le_of_ble_eq_true rfl⟩) hK hP hD hA [0, 1, 2, 3, 4, 5, 6, 7, 8, 9, 10] [] rfl rfl (by decide) rfl (by decide) (by decide) 0 rfl rfl rfl hl.1 rfl (Nat.le_of_ble_eq_true rfl) d_Mod_node_45 ⟨Nat.zero_le _, Nat.zero_le _⟩ hS (fun H locs hP hD hS => ?_)
      have hP : va_P D cl5 (wM g k L (qTh (qTh r (nI 0)) (nI 2))) H := hP
      have hD : va_D A (wM g k L (qTh (qTh r (nI 0)) (nI 2))) := hD
      have hrB : rB (qTh (qTh r (nI 0)) (nI 2)) := fun q => hrB q
      refine gz_ifz_eq (tgt := 53) hx hb d_Mod_node_48 (by decide) (fun h48 => ?_) (fun h48 => ?_)
      · exact absurd h48 (by decide)
      · refine lv_iconst (v := nI 0) hx hb d_Mod_node_51 (by decide +kernel) ?_
        have hP9 : va_P D cl5 (wM g k L (qTh r (nI 2))) H := hP
        have hD9 : va_D A (wM g k L (qTh r (nI 2))) := hD
        exact W.iret (v := nI 0) hx hb hr (fun tt9 ht9 hW9 => ⟨⟨_, (), rfl, rfl, ⟨by rw [ht9]; exact hP9, hD9⟩⟩, hS.F ht9⟩) hS.2.2 d_Mod_node_52
theorem d_Mod_at_0 : decode b_Mod_at 0 = .ok (.aload_n 0, 1) := by decide +kernel
theorem d_Mod_at_1 : decode b_Mod_at 1 = .ok (.iload_n 1, 1) := by decide +kernel
theorem d_Mod_at_2 : decode b_Mod_at 2 = .ok (.iconst 0, 1) := by decide +kernel
theorem d_Mod_at_3 : decode b_Mod_at 3 = .ok (.aload_n 0, 1) := by decide +kernel
theorem d_Mod_at_4 : decode b_Mod_at 4 = .ok (.getfield 41, 3) := by decide +kernel
theorem d_Mod_at_7 : decode b_Mod_at 7 = .ok (.iconst 1, 1) := by decide +kernel
theorem d_Mod_at_8 : decode b_Mod_at 8 = .ok (.isub, 1) := by decide +kernel
theorem d_Mod_at_9 : decode b_Mod_at 9 = .ok (.invokestatic 127, 3) := by decide +kernel
theorem d_Mod_at_12 : decode b_Mod_at 12 = .ok (.ifCond .eq 13, 3) := by decide +kernel
theorem d_Mod_at_15 : decode b_Mod_at 15 = .ok (.iload_n 2, 1) := by decide +kernel
theorem d_Mod_at_16 : decode b_Mod_at 16 = .ok (.iconst 0, 1) := by decide +kernel
theorem d_Mod_at_17 : decode b_Mod_at 17 = .ok (.bipush 63, 2) := by decide +kernel
theorem d_Mod_at_19 : decode b_Mod_at 19 = .ok (.invokestatic 127, 3) := by decide +kernel
theorem d_Mod_at_22 : decode b_Mod_at 22 = .ok (.ifCond .ne 7, 3) := by decide +kernel
theorem d_Mod_at_25 : decode b_Mod_at 25 = .ok (.iconst 1, 1) := by decide +kernel
theorem d_Mod_at_26 : decode b_Mod_at 26 = .ok (.goto 4, 3) := by decide +kernel
theorem d_Mod_at_29 : decode b_Mod_at 29 = .ok (.iconst 0, 1) := by decide +kernel
theorem d_Mod_at_30 : decode b_Mod_at 30 = .ok (.iconst 1, 1) := by decide +kernel
theorem d_Mod_at_31 : decode b_Mod_at 31 = .ok (.invokevirtual 170, 3) := by decide +kernel
theorem d_Mod_at_34 : decode b_Mod_at 34 = .ok (.ifCond .eq 5, 3) := by decide +kernel
theorem d_Mod_at_37 : decode b_Mod_at 37 = .ok (.iconst 0, 1) := by decide +kernel
theorem d_Mod_at_38 : decode b_Mod_at 38 = .ok (.ireturn, 1) := by decide +kernel
theorem d_Mod_at_39 : decode b_Mod_at 39 = .ok (.iload_n 3, 1) := by decide +kernel
theorem d_Mod_at_40 : decode b_Mod_at 40 = .ok (.ifCond .eq 17, 3) := by decide +kernel
theorem d_Mod_at_43 : decode b_Mod_at 43 = .ok (.aload_n 0, 1) := by decide +kernel
theorem d_Mod_at_44 : decode b_Mod_at 44 = .ok (.getfield 29, 3) := by decide +kernel
theorem d_Mod_at_47 : decode b_Mod_at 47 = .ok (.bipush 64, 2) := by decide +kernel
theorem d_Mod_at_49 : decode b_Mod_at 49 = .ok (.iload_n 1, 1) := by decide +kernel
theorem d_Mod_at_50 : decode b_Mod_at 50 = .ok (.imul, 1) := by decide +kernel
theorem d_Mod_at_51 : decode b_Mod_at 51 = .ok (.iload_n 2, 1) := by decide +kernel
theorem d_Mod_at_52 : decode b_Mod_at 52 = .ok (.iadd, 1) := by decide +kernel
theorem d_Mod_at_53 : decode b_Mod_at 53 = .ok (.iaload, 1) := by decide +kernel
theorem d_Mod_at_54 : decode b_Mod_at 54 = .ok (.goto 9, 3) := by decide +kernel
theorem d_Mod_at_57 : decode b_Mod_at 57 = .ok (.aload_n 0, 1) := by decide +kernel
theorem d_Mod_at_58 : decode b_Mod_at 58 = .ok (.iload_n 1, 1) := by decide +kernel
theorem d_Mod_at_59 : decode b_Mod_at 59 = .ok (.iload_n 2, 1) := by decide +kernel
theorem d_Mod_at_60 : decode b_Mod_at 60 = .ok (.invokevirtual 60, 3) := by decide +kernel
theorem d_Mod_at_63 : decode b_Mod_at 63 = .ok (.ireturn, 1) := by decide +kernel
set_option maxHeartbeats 4000000 in
set_option maxRecDepth 100000 in
theorem c_Mod_at (l : Launch) (D : va_G) (g : Nat → Nat) (k : Nat → ClassId) (L : Nat) (hL0 : 96 ≤ L) (hL : L ≤ 768) (r : RSt) (hrB : rB r) (b j : Nat) (cm : Bool) (hb0 : b < L) (hj0 : j < 64) (hX : ∀ i, i < 64 → rNd r (20 * i + 2) ≤ 8) : MuI l y_Mod_at w_Mod_at ({ frames := 2, cells := 0, slots := 0, locals := 47 }) [.ref (g 20), .int (nI b), .int (nI j), .int (zI (cm))] D cl5 (tyC k) (wM g k L r) (wM g k L (qTh r (nI 0))) (nI (if cm then rDn r (64 * b + j) else boR L (qTh r (nI 0)) b j)) := by
  intro sz
  refine Met.ofW (cc := b_Mod_at) (maxL := 4) (ret := (some .int)) (by decide) rfl ?_
  intro p9 e9 s m args9 below9 meth9 c9 s₁ B hml hv
  obtain ⟨rfl, hsz, hP, hK, hD0⟩ := hv
  have hx := B.exec
  have hb := B.bytes
  have hr := B.returns
  have hts := atoms_spec (ws := w_Mod_at) B.pre
  have hTB : ∀ w ∈ lw_tb, w.before _ s = true := fun w h => hts w (List.mem_cons_of_mem _ h)
  have hown : s.vm.findClass R_Mod = some m.cls := findClass_of_methodNamed B.named
  have hlocks := B.notSynchronized
  subst hsz
  have hD := hD0.self (sz := s.heap.size)
  generalize hAe : va_A (wM g k L r) s.heap.size = A at hD ⊢
  have hA : ∀ q : Nat, s.heap.size ≤ q → A q := fun q h => by rw [← hAe]; exact Or.inr h
  have hS : va_S A s.heap s.heap [] := va_S.rf
  have hl := lv_entry ([.ref (g 20), .int (nI b), .int (nI j), .int (zI (cm))]) (n := 4) (Nat.le_of_ble_eq_true rfl)
  rw [lg_entry_eq]
  generalize (lg_sl ([.ref (g 20), .int (nI b), .int (nI j), .int (zI (cm))]) ++ List.replicate (4 - (lg_sl ([.ref (g 20), .int (nI b), .int (nI j), .int (zI (cm))])).length) Slot.unset).toArray = ls at hl ⊢
  have hl : lv_has ls 4 [(0, .ref (g 20)), (1, .int (nI b)), (2, .int (nI j)), (3, .int (zI (cm)))] := hl
  refine lv_aload_n hx hb d_Mod_at_0 rfl (lv_at hl 0 rfl) ?_
  refine lv_iload_n hx hb d_Mod_at_1 rfl (lv_at hl 1 rfl) ?_
  refine lv_iconst (v := nI 0) hx hb d_Mod_at_2 (by decide +kernel) ?_
  refine lv_aload_n hx hb d_Mod_at_3 rfl (lv_at hl 0 rfl) ?_
  refine va_get (D := D) (ci := 4) (v := .int (nI L)) (C := R_Mod) (T := T_Mod) (N := 14) hx hb hTB in_Mod hown hK hP 0 rfl rfl 1 (by decide) (hTB _ k_645) (fun _ h9 => h9) rfl d_Mod_at_4 ?_
  refine lv_iconst (v := nI 1) hx hb d_Mod_at_7 (by decide +kernel) ?_
  refine gz_isub hx hb d_Mod_at_8 (by omega) ?_
  refine gz_roS (As := [.int (nI b), .int (nI 0), .int (nI (L - 1))]) (rest := [.ref (g 20)]) ⟨hx, hb, hml, hown, hTB⟩ (c_Mod_in l (nI b) (nI 0) (nI (L - 1))) (cwS 3 hTB (gd_S k_695 k_696 k_56 k_697) rfl rfl rfl (by decide +kernel) ⟨Nat.le_of_ble_eq_true rfl, Nat.le_of_ble_eq_true rfl⟩) hP rfl hl.1 rfl (Nat.le_of_ble_eq_true rfl) d_Mod_at_9 ⟨Nat.zero_le _, Nat.zero_le _⟩ hS (fun H locs hP hS => ?_)
  refine gz_ifz_eq (tgt := 25) hx hb d_Mod_at_12 (by decide) (fun h12 => ?_) (fun h12 => ?_)
  · exact absurd h12 (by rw [inR_t (Nat.zero_le _) (show b ≤ L - 1 by omega) (by omega)]; decide)
  · refine lv_iload_n hx hb d_Mod_at_15 rfl (lv_at hl 2 rfl) ?_
    refine lv_iconst (v := nI 0) hx hb d_Mod_at_16 (by decide +kernel) ?_
    refine lv_bipush (v := nI 63) hx hb d_Mod_at_17 (by decide +kernel) ?_
    refine gz_roS (As := [.int (nI j), .int (nI 0), .int (nI 63)]) (rest := [.ref (g 20)]) ⟨hx, hb, hml, hown, hTB⟩ (c_Mod_in l (nI j) (nI 0) (nI 63)) (cwS 3 hTB (gd_S k_695 k_696 k_56 k_697) rfl rfl rfl (by decide +kernel) ⟨Nat.le_of_ble_eq_true rfl, Nat.le_of_ble_eq_true rfl⟩) hP rfl hl.1 rfl (Nat.le_of_ble_eq_true rfl) d_Mod_at_19 ⟨Nat.zero_le _, Nat.zero_le _⟩ hS (fun H locs hP hS => ?_)
    refine gz_ifz_ne (tgt := 29) hx hb d_Mod_at_22 (by decide) (fun h22 => ?_) (fun h22 => ?_)
    · refine lv_iconst (v := nI 0) hx hb d_Mod_at_29 (by decide +kernel) ?_
      refine lv_iconst (v := nI 1) hx hb d_Mod_at_30 (by decide +kernel) ?_
      refine gz_muI (As := [.int (nI 0), .int (nI 1)]) (rest := []) (wc := (wM g k L r)) (w1 := (wM g k L (qTh r (nI 0)))) (wr := []) ⟨hx, hb, hml, hown, hTB⟩ (c_Mod_fails l D g k L hL0 hL r hrB false (nI 1)) (cwV 2 hTB (gd_V k_698 k_700 k_21 k_56 k_701) rfl rfl rfl (by decide +kernel) ⟨Nat.le_of_ble_eq_true rfl, Nat.le_of_ble_eq_true rfl⟩) hK hP hD hA [0, 1, 2, 3, 4, 5, 6, 7, 8, 9, 10] [] rfl rfl (by decide) rfl (by decide) (by decide) 0 rfl rfl rfl hl.1 rfl (Nat.le_of_ble_eq_true rfl) d_Mod_at_31 ⟨Nat.zero_le _, Nat.zero_le _⟩ hS (fun H locs hP hD hS => ?_)
      have hP : va_P D cl5 (wM g k L (qTh r (nI 0))) H := hP
      have hD : va_D A (wM g k L (qTh r (nI 0))) := hD
      have hrB : rB (qTh r (nI 0)) := fun q => hrB q
      refine gz_ifz_eq (tgt := 39) hx hb d_Mod_at_34 (by decide) (fun h34 => ?_) (fun h34 => ?_)
      · refine lv_iload_n hx hb d_Mod_at_39 rfl (lv_at hl 3 rfl) ?_
        refine gz_ifz_eq (tgt := 57) hx hb d_Mod_at_40 (by decide) (fun h40 => ?_) (fun h40 => ?_)
        · refine lv_aload_n hx hb d_Mod_at_57 rfl (lv_at hl 0 rfl) ?_
          refine lv_iload_n hx hb d_Mod_at_58 rfl (lv_at hl 1 rfl) ?_
          refine lv_iload_n hx hb d_Mod_at_59 rfl (lv_at hl 2 rfl) ?_
          refine gz_roV (As := [.int (nI b), .int (nI j)]) (rest := []) (wc := (wM g k L (qTh r (nI 0)))) ⟨hx, hb, hml, hown, hTB⟩ (c_Mod_byteOf l D g k L hL0 hL (qTh r (nI 0)) hrB b j (by omega) (by omega) hX) (cwV 2 hTB (gd_V k_629 k_631 k_18 k_56 k_632) rfl rfl rfl (by decide +kernel) ⟨Nat.le_of_ble_eq_true rfl, Nat.le_of_ble_eq_true rfl⟩) hK hP [0, 1, 2, 3, 4, 5, 6, 7, 8, 9, 10] rfl 0 rfl rfl rfl hl.1 rfl (Nat.le_of_ble_eq_true rfl) d_Mod_at_60 ⟨Nat.zero_le _, Nat.zero_le _⟩ hS (fun H locs hP hS => ?_)
          have := boR_lt (L := L) hrB b j
          have hP9 : va_P D cl5 (wM g k L (qTh r (nI 0))) H := hP
          have hD9 : va_D A (wM g k L (qTh r (nI 0))) := hD
          exact W.iret (v := nI (boR L (qTh r (nI 0)) b j)) hx hb hr (fun tt9 ht9 hW9 => ⟨⟨_, (), rfl, (by rw [h40]; rfl), ⟨by rw [ht9]; exact hP9, hD9⟩⟩, hS.F ht9⟩) hS.2.2 d_Mod_at_63
        · refine lv_aload_n hx hb d_Mod_at_43 rfl (lv_at hl 0 rfl) ?_
          refine va_get (D := D) (ci := 4) (v := .ref (g 27)) (C := R_Mod) (T := T_Mod) (N := 14) hx hb hTB in_Mod hown hK hP 0 rfl rfl 9 (by decide) (hTB _ k_653) (fun _ h9 => h9) rfl d_Mod_at_44 ?_
          refine lv_bipush (v := nI 64) hx hb d_Mod_at_47 (by decide +kernel) ?_
          refine lv_iload_n hx hb d_Mod_at_49 rfl (lv_at hl 1 rfl) ?_
          refine gz_imul hx hb d_Mod_at_50 ?_
          refine lv_iload_n hx hb d_Mod_at_51 rfl (lv_at hl 2 rfl) ?_
          refine gz_iadd hx hb d_Mod_at_52 ?_
          refine gm_ald hx hb hK hP 7 2 rfl rfl (i := (64 * b) + j) (by omega) (by omega) d_Mod_at_53 ?_
          have := (hrB ((64 * b) + j)).2.2.2.2.2.2.1
          refine lv_goto (tgt := 63) hx hb d_Mod_at_54 (by decide) ?_
          have hP9 : va_P D cl5 (wM g k L (qTh r (nI 0))) H := hP
          have hD9 : va_D A (wM g k L (qTh r (nI 0))) := hD
          exact W.iret (v := nI (rDn (qTh r (nI 0)) ((64 * b) + j))) hx hb hr (fun tt9 ht9 hW9 => ⟨⟨_, (), rfl, (by rw [h40]; rfl), ⟨by rw [ht9]; exact hP9, hD9⟩⟩, hS.F ht9⟩) hS.2.2 d_Mod_at_63
      · exact absurd h34 (by decide)
    · exact absurd h22 (by rw [inR_t (Nat.zero_le _) (show j ≤ 63 by omega) (by decide)]; decide)
set_option maxHeartbeats 4000000 in
set_option maxRecDepth 100000 in
theorem c_Mod_at_b (l : Launch) (D : va_G) (g : Nat → Nat) (k : Nat → ClassId) (L : Nat) (hL0 : 96 ≤ L) (hL : L ≤ 768) (r : RSt) (hrB : rB r) (x y : Int32) (cm : Bool) (hbad : (inR x (nI 0) (nI (L - 1)) && inR y (nI 0) (nI 63)) = false) : MuI l y_Mod_at w_Mod_at ({ frames := 2, cells := 0, slots := 0, locals := 47 }) [.ref (g 20), .int (x), .int (y), .int (zI (cm))] D cl5 (tyC k) (wM g k L r) (wM g k L (qTh r (nI 1))) (nI 0) := by
  intro sz
  refine Met.ofW (cc := b_Mod_at) (maxL := 4) (ret := (some .int)) (by decide) rfl ?_
  intro p9 e9 s m args9 below9 meth9 c9 s₁ B hml hv
  obtain ⟨rfl, hsz, hP, hK, hD0⟩ := hv
  have hx := B.exec
  have hb := B.bytes
  have hr := B.returns
  have hts := atoms_spec (ws := w_Mod_at) B.pre
  have hTB : ∀ w ∈ lw_tb, w.before _ s = true := fun w h => hts w (List.mem_cons_of_mem _ h)
  have hown : s.vm.findClass R_Mod = some m.cls := findClass_of_methodNamed B.named
  have hlocks := B.notSynchronized
  subst hsz
  have hD := hD0.self (sz := s.heap.size)
  generalize hAe : va_A (wM g k L r) s.heap.size = A at hD ⊢
  have hA : ∀ q : Nat, s.heap.size ≤ q → A q := fun q h => by rw [← hAe]; exact Or.inr h
  have hS : va_S A s.heap s.heap [] := va_S.rf
  have hl := lv_entry ([.ref (g 20), .int (x), .int (y), .int (zI (cm))]) (n := 4) (Nat.le_of_ble_eq_true rfl)
  rw [lg_entry_eq]
  generalize (lg_sl ([.ref (g 20), .int (x), .int (y), .int (zI (cm))]) ++ List.replicate (4 - (lg_sl ([.ref (g 20), .int (x), .int (y), .int (zI (cm))])).length) Slot.unset).toArray = ls at hl ⊢
  have hl : lv_has ls 4 [(0, .ref (g 20)), (1, .int (x)), (2, .int (y)), (3, .int (zI (cm)))] := hl
  refine lv_aload_n hx hb d_Mod_at_0 rfl (lv_at hl 0 rfl) ?_
  refine lv_iload_n hx hb d_Mod_at_1 rfl (lv_at hl 1 rfl) ?_
  refine lv_iconst (v := nI 0) hx hb d_Mod_at_2 (by decide +kernel) ?_
  refine lv_aload_n hx hb d_Mod_at_3 rfl (lv_at hl 0 rfl) ?_
  refine va_get (D := D) (ci := 4) (v := .int (nI L)) (C := R_Mod) (T := T_Mod) (N := 14) hx hb hTB in_Mod hown hK hP 0 rfl rfl 1 (by decide) (hTB _ k_645) (fun _ h9 => h9) rfl d_Mod_at_4 ?_
  refine lv_iconst (v := nI 1) hx hb d_Mod_at_7 (by decide +kernel) ?_
  refine gz_isub hx hb d_Mod_at_8 (by omega) ?_
  refine gz_roS (As := [.int (x), .int (nI 0), .int (nI (L - 1))]) (rest := [.ref (g 20)]) ⟨hx, hb, hml, hown, hTB⟩ (c_Mod_in l x (nI 0) (nI (L - 1))) (cwS 3 hTB (gd_S k_695 k_696 k_56 k_697) rfl rfl rfl (by decide +kernel) ⟨Nat.le_of_ble_eq_true rfl, Nat.le_of_ble_eq_true rfl⟩) hP rfl hl.1 rfl (Nat.le_of_ble_eq_true rfl) d_Mod_at_9 ⟨Nat.zero_le _, Nat.zero_le _⟩ hS (fun H locs hP hS => ?_)
  refine gz_ifz_eq (tgt := 25) hx hb d_Mod_at_12 (by decide) (fun h12 => ?_) (fun h12 => ?_)
  · refine lv_iconst (v := nI 1) hx hb d_Mod_at_25 (by decide +kernel) ?_
    refine lv_goto (tgt := 30) hx hb d_Mod_at_26 (by decide) ?_
    refine lv_iconst (v := nI 1) hx hb d_Mod_at_30 (by decide +kernel) ?_
    refine gz_muI (As := [.int (nI 1), .int (nI 1)]) (rest := []) (wc := (wM g k L r)) (w1 := (wM g k L (qTh r (nI 1)))) (wr := []) ⟨hx, hb, hml, hown, hTB⟩ (c_Mod_fails l D g k L hL0 hL r hrB true (nI 1)) (cwV 2 hTB (gd_V k_698 k_700 k_21 k_56 k_701) rfl rfl rfl (by decide +kernel) ⟨Nat.le_of_ble_eq_true rfl, Nat.le_of_ble_eq_true rfl⟩) hK hP hD hA [0, 1, 2, 3, 4, 5, 6, 7, 8, 9, 10] [] rfl rfl (by decide) rfl (by decide) (by decide) 0 rfl rfl rfl hl.1 rfl (Nat.le_of_ble_eq_true rfl) d_Mod_at_31 ⟨Nat.zero_le _, Nat.zero_le _⟩ hS (fun H locs hP hD hS => ?_)
    have hP : va_P D cl5 (wM g k L (qTh r (nI 1))) H := hP
    have hD : va_D A (wM g k L (qTh r (nI 1))) := hD
    have hrB : rB (qTh r (nI 1)) := fun q => hrB q
    refine gz_ifz_eq (tgt := 39) hx hb d_Mod_at_34 (by decide) (fun h34 => ?_) (fun h34 => ?_)
    · exact absurd h34 (by decide)
    · refine lv_iconst (v := nI 0) hx hb d_Mod_at_37 (by decide +kernel) ?_
      have hP9 : va_P D cl5 (wM g k L (qTh r (nI 1))) H := hP
      have hD9 : va_D A (wM g k L (qTh r (nI 1))) := hD
      exact W.iret (v := nI 0) hx hb hr (fun tt9 ht9 hW9 => ⟨⟨_, (), rfl, rfl, ⟨by rw [ht9]; exact hP9, hD9⟩⟩, hS.F ht9⟩) hS.2.2 d_Mod_at_38
  · refine lv_iload_n hx hb d_Mod_at_15 rfl (lv_at hl 2 rfl) ?_
    refine lv_iconst (v := nI 0) hx hb d_Mod_at_16 (by decide +kernel) ?_
    refine lv_bipush (v := nI 63) hx hb d_Mod_at_17 (by decide +kernel) ?_
    refine gz_roS (As := [.int (y), .int (nI 0), .int (nI 63)]) (rest := [.ref (g 20)]) ⟨hx, hb, hml, hown, hTB⟩ (c_Mod_in l y (nI 0) (nI 63)) (cwS 3 hTB (gd_S k_695 k_696 k_56 k_697) rfl rfl rfl (by decide +kernel) ⟨Nat.le_of_ble_eq_true rfl, Nat.le_of_ble_eq_true rfl⟩) hP rfl hl.1 rfl (Nat.le_of_ble_eq_true rfl) d_Mod_at_19 ⟨Nat.zero_le _, Nat.zero_le _⟩ hS (fun H locs hP hS => ?_)
    refine gz_ifz_ne (tgt := 29) hx hb d_Mod_at_22 (by decide) (fun h22 => ?_) (fun h22 => ?_)
    · exact absurd hbad (by rw [h12, h22]; decide)
    · refine lv_iconst (v := nI 1) hx hb d_Mod_at_25 (by decide +kernel) ?_
      refine lv_goto (tgt := 30) hx hb d_Mod_at_26 (by decide) ?_
      refine lv_iconst (v := nI 1) hx hb d_Mod_at_30 (by decide +kernel) ?_
      refine gz_muI (As := [.int (nI 1), .int (nI 1)]) (rest := []) (wc := (wM g k L r)) (w1 := (wM g k L (qTh r (nI 1)))) (wr := []) ⟨hx, hb, hml, hown, hTB⟩ (c_Mod_fails l D g k L hL0 hL r hrB true (nI 1)) (cwV 2 hTB (gd_V k_698 k_700 k_21 k_56 k_701) rfl rfl rfl (by decide +kernel) ⟨Nat.le_of_ble_eq_true rfl, Nat.le_of_ble_eq_true rfl⟩) hK hP hD hA [0, 1, 2, 3, 4, 5, 6, 7, 8, 9, 10] [] rfl rfl (by decide) rfl (by decide) (by decide) 0 rfl rfl rfl hl.1 rfl (Nat.le_of_ble_eq_true rfl) d_Mod_at_31 ⟨Nat.zero_le _, Nat.zero_le _⟩ hS (fun H locs hP hD hS => ?_)
      have hP : va_P D cl5 (wM g k L (qTh r (nI 1))) H := hP
      have hD : va_D A (wM g k L (qTh r (nI 1))) := hD
      have hrB : rB (qTh r (nI 1)) := fun q => hrB q
      refine gz_ifz_eq (tgt := 39) hx hb d_Mod_at_34 (by decide) (fun h34 => ?_) (fun h34 => ?_)
      · exact absurd h34 (by decide)
      · refine lv_iconst (v := nI 0) hx hb d_Mod_at_37 (by decide +kernel) ?_
        have hP9 : va_P D cl5 (wM g k L (qTh r (nI 1))) H := hP
        have hD9 : va_D A (wM g k L (qTh r (nI 1))) := hD
        exact W.iret (v := nI 0) hx hb hr (fun tt9 ht9 hW9 => ⟨⟨_, (), rfl, rfl, ⟨by rw [ht9]; exact hP9, hD9⟩⟩, hS.F ht9⟩) hS.2.2 d_Mod_at_38
theorem d_Mod_changed_0 : decode b_Mod_changed 0 = .ok (.aload_n 0, 1) := by decide +kernel
theorem d_Mod_changed_1 : decode b_Mod_changed 1 = .ok (.iconst 0, 1) := by decide +kernel
theorem d_Mod_changed_2 : decode b_Mod_changed 2 = .ok (.putfield 49, 3) := by decide +kernel
theorem d_Mod_changed_5 : decode b_Mod_changed 5 = .ok (.iload_n 1, 1) := by decide +kernel
theorem d_Mod_changed_6 : decode b_Mod_changed 6 = .ok (.istore_n 2, 1) := by decide +kernel
theorem d_Mod_changed_7 : decode b_Mod_changed 7 = .ok (.bipush 25, 2) := by decide +kernel
theorem d_Mod_changed_9 : decode b_Mod_changed 9 = .ok (.istore_n 3, 1) := by decide +kernel
theorem d_Mod_changed_10 : decode b_Mod_changed 10 = .ok (.iload_n 3, 1) := by decide +kernel
theorem d_Mod_changed_11 : decode b_Mod_changed 11 = .ok (.aload_n 0, 1) := by decide +kernel
theorem d_Mod_changed_12 : decode b_Mod_changed 12 = .ok (.getfield 41, 3) := by decide +kernel
theorem d_Mod_changed_15 : decode b_Mod_changed 15 = .ok (.if_icmp .ge 33, 3) := by decide +kernel
theorem d_Mod_changed_18 : decode b_Mod_changed 18 = .ok (.iload_n 2, 1) := by decide +kernel
theorem d_Mod_changed_19 : decode b_Mod_changed 19 = .ok (.ifCond .lt 29, 3) := by decide +kernel
theorem d_Mod_changed_22 : decode b_Mod_changed 22 = .ok (.aload_n 0, 1) := by decide +kernel
theorem d_Mod_changed_23 : decode b_Mod_changed 23 = .ok (.iload_n 3, 1) := by decide +kernel
theorem d_Mod_changed_24 : decode b_Mod_changed 24 = .ok (.invokevirtual 63, 3) := by decide +kernel
theorem d_Mod_changed_27 : decode b_Mod_changed 27 = .ok (.ifCond .ne 6, 3) := by decide +kernel
theorem d_Mod_changed_30 : decode b_Mod_changed 30 = .ok (.goto 12, 3) := by decide +kernel
theorem d_Mod_changed_33 : decode b_Mod_changed 33 = .ok (.iload_n 2, 1) := by decide +kernel
theorem d_Mod_changed_34 : decode b_Mod_changed 34 = .ok (.ifCond .ne 5, 3) := by decide +kernel
theorem d_Mod_changed_37 : decode b_Mod_changed 37 = .ok (.iload_n 3, 1) := by decide +kernel
theorem d_Mod_changed_38 : decode b_Mod_changed 38 = .ok (.ireturn, 1) := by decide +kernel
theorem d_Mod_changed_39 : decode b_Mod_changed 39 = .ok (.iinc 2 (-1), 3) := by decide +kernel
theorem d_Mod_changed_42 : decode b_Mod_changed 42 = .ok (.iinc 3 1, 3) := by decide +kernel
theorem d_Mod_changed_45 : decode b_Mod_changed 45 = .ok (.goto (-35), 3) := by decide +kernel
theorem d_Mod_changed_48 : decode b_Mod_changed 48 = .ok (.aload_n 0, 1) := by decide +kernel
theorem d_Mod_changed_49 : decode b_Mod_changed 49 = .ok (.iconst 1, 1) := by decide +kernel
theorem d_Mod_changed_50 : decode b_Mod_changed 50 = .ok (.putfield 49, 3) := by decide +kernel
theorem d_Mod_changed_53 : decode b_Mod_changed 53 = .ok (.iconst 0, 1) := by decide +kernel
theorem d_Mod_changed_54 : decode b_Mod_changed 54 = .ok (.ireturn, 1) := by decide +kernel
set_option maxHeartbeats 4000000 in
set_option maxRecDepth 100000 in
theorem c_Mod_changed (l : Launch) (D : va_G) (g : Nat → Nat) (k : Nat → ClassId) (L : Nat) (hL0 : 96 ≤ L) (hL : L ≤ 768) (r : RSt) (hrB : rB r) (x0 : Int32) (hX : ∀ i, i < 64 → rNd r (20 * i + 2) ≤ 8) (hno : ¬ cgR L (qTh r (nI 0)) x0 = -1) : MuI l y_Mod_changed w_Mod_changed ({ frames := 3, cells := 0, slots := 0, locals := 70 }) [.ref (g 20), .int (x0)] D cl5 (tyC k) (wM g k L r) (wM g k L (qTh r (nI 0))) (cgR L (qTh r (nI 0)) x0) := by
  intro sz
  refine Met.ofW (cc := b_Mod_changed) (maxL := 4) (ret := (some .int)) (by decide) rfl ?_
  intro p9 e9 s m args9 below9 meth9 c9 s₁ B hml hv
  obtain ⟨rfl, hsz, hP, hK, hD0⟩ := hv
  have hx := B.exec
  have hb := B.bytes
  have hr := B.returns
  have hts := atoms_spec (ws := w_Mod_changed) B.pre
  have hTB : ∀ w ∈ lw_tb, w.before _ s = true := fun w h => hts w (List.mem_cons_of_mem _ h)
  have hown : s.vm.findClass R_Mod = some m.cls := findClass_of_methodNamed B.named
  have hlocks := B.notSynchronized
  subst hsz
  have hD := hD0.self (sz := s.heap.size)
  generalize hAe : va_A (wM g k L r) s.heap.size = A at hD ⊢
  have hA : ∀ q : Nat, s.heap.size ≤ q → A q := fun q h => by rw [← hAe]; exact Or.inr h
  have hS : va_S A s.heap s.heap [] := va_S.rf
  have hl := lv_entry ([.ref (g 20), .int (x0)]) (n := 4) (Nat.le_of_ble_eq_true rfl)
  rw [lg_entry_eq]
  generalize (lg_sl ([.ref (g 20), .int (x0)]) ++ List.replicate (4 - (lg_sl ([.ref (g 20), .int (x0)])).length) Slot.unset).toArray = ls at hl ⊢
  have hl : lv_has ls 4 [(0, .ref (g 20)), (1, .int (x0))] := hl
  refine lv_aload_n hx hb d_Mod_changed_0 rfl (lv_at hl 0 rfl) ?_
  refine lv_iconst (v := nI 0) hx hb d_Mod_changed_1 (by decide +kernel) ?_
  refine va_put (D := D) (ci := 4) (v := .int (nI 0)) (ty := .int) (C := R_Mod) (T := T_Mod) (N := 14) hx hb hTB in_Mod t_Mod t_Mod_ok n_Mod hown hK hP hD hS 0 rfl rfl 0 (by decide) (hTB _ k_644) (fun _ h9 => h9) rfl (by decide +kernel) rfl rfl (Nat.le_of_ble_eq_true rfl) d_Mod_changed_2 (fun H locs hP hD hS => ?_)
  have hP : va_P D cl5 (wM g k L (qTh r (nI 0))) H := hP
  have hD : va_D A (wM g k L (qTh r (nI 0))) := hD
  have hrB : rB (qTh r (nI 0)) := fun q => hrB q
  refine lv_iload_n hx hb d_Mod_changed_5 rfl (lv_at hl 1 rfl) ?_
  refine lv_istore_n (lv' := [(2, .int (x0)), (0, .ref (g 20)), (1, .int (x0))]) hx hb d_Mod_changed_6 rfl hl (by decide) rfl (fun ls hl => ?_)
  refine lv_bipush (v := nI 25) hx hb d_Mod_changed_7 (by decide +kernel) ?_
  refine lv_istore_n (lv' := [(3, .int (nI 25)), (2, .int (x0)), (0, .ref (g 20)), (1, .int (x0))]) hx hb d_Mod_changed_9 rfl hl (by decide) rfl (fun ls hl => ?_)
  refine gz_loop 10 (fun (zz : (Nat × Int32)) H locs ls => match zz with | (b, x) => va_P D cl5 (wM g k L (qTh r (nI 0))) H ∧ va_D A (wM g k L (qTh r (nI 0))) ∧ va_S A s.heap H locs ∧ lv_has ls 4 [(0, .ref (g 20)), (2, .int (x)), (3, .int (nI b))] ∧ (b ≤ L) ∧ (cgG L (qTh r (nI 0)) (L - b) b x = cgR L (qTh r (nI 0)) x0)) (fun (zz : (Nat × Int32)) => match zz with | (b, x) => L - b) (fun zz H locs ls hI ih10 => ?_) (25, x0) ⟨hP, hD, hS, lv_sub hl [2, 1, 0] rfl, (by omega), rfl⟩
  obtain ⟨b, x⟩ := zz
  obtain ⟨hP, hD, hS, hl, hb1, hb2⟩ := hI
  refine lv_iload_n hx hb d_Mod_changed_10 rfl (lv_at hl 2 rfl) ?_
  refine lv_aload_n hx hb d_Mod_changed_11 rfl (lv_at hl 0 rfl) ?_
  refine va_get (D := D) (ci := 4) (v := .int (nI L)) (C := R_Mod) (T := T_Mod) (N := 14) hx hb hTB in_Mod hown hK hP 0 rfl rfl 1 (by decide) (hTB _ k_645) (fun _ h9 => h9) rfl d_Mod_changed_12 ?_
  refine gz_icmp_ge (tgt := 48) hx hb d_Mod_changed_15 (by decide) (by omega) (by omega) (fun h15 => ?_) (fun h15 => ?_)
  · exact absurd (show cgR L (qTh r (nI 0)) x0 = -1 by rw [← hb2, show L - b = 0 by omega]; rfl) hno
  · refine lv_iload_n hx hb d_Mod_changed_18 rfl (lv_at hl 1 rfl) ?_
    refine lv_if_lt (tgt := 48) hx hb d_Mod_changed_19 (by decide) (fun h19 => ?_) (fun h19 => ?_)
    · exact absurd (show cgR L (qTh r (nI 0)) x0 = -1 by rw [← hb2, show L - b = (L - (b + 1)) + 1 by omega, cgG, if_pos h19]) hno
    · refine lv_aload_n hx hb d_Mod_changed_22 rfl (lv_at hl 0 rfl) ?_
      refine lv_iload_n hx hb d_Mod_changed_23 rfl (lv_at hl 2 rfl) ?_
      refine gz_roV (As := [.int (nI b)]) (rest := []) (wc := (wM g k L (qTh r (nI 0)))) ⟨hx, hb, hml, hown, hTB⟩ (c_Mod_isChanged l D g k L hL0 hL (qTh r (nI 0)) hrB b (by omega) hX) (cwV 1 hTB (gd_V k_625 k_627 k_17 k_56 k_628) rfl rfl rfl (by decide +kernel) ⟨Nat.le_of_ble_eq_true rfl, Nat.le_of_ble_eq_true rfl⟩) hK hP [0, 1, 2, 3, 4, 5, 6, 7, 8, 9, 10] rfl 0 rfl rfl rfl hl.1 rfl (Nat.le_of_ble_eq_true rfl) d_Mod_changed_24 ⟨Nat.zero_le _, Nat.zero_le _⟩ hS (fun H locs hP hS => ?_)
      refine gz_ifz_ne (tgt := 33) hx hb d_Mod_changed_27 (by decide) (fun h27 => ?_) (fun h27 => ?_)
      · refine lv_iload_n hx hb d_Mod_changed_33 rfl (lv_at hl 1 rfl) ?_
        refine lv_if_ne (tgt := 39) hx hb d_Mod_changed_34 (by decide) (fun h34 => ?_) (fun h34 => ?_)
        · refine lv_iinc (v := x + Int32.ofInt (-1)) (lv' := [(2, .int (x + Int32.ofInt (-1))), (0, .ref (g 20)), (3, .int (nI b))]) hx hb d_Mod_changed_39 hl (k := 1) rfl rfl (by decide) rfl (fun ls hl => ?_)
          refine lv_iinc (v := nI (b + 1)) (lv' := [(3, .int (nI (b + 1))), (2, .int (x + Int32.ofInt (-1))), (0, .ref (g 20))]) hx hb d_Mod_changed_42 hl (k := 2) rfl (nI_add b 1) (by decide) rfl (fun ls hl => ?_)
          refine lv_goto (tgt := 10) hx hb d_Mod_changed_45 (by decide) ?_
          exact ih10 (b + 1, x + Int32.ofInt (-1)) _ _ _ (by first | omega | (dsimp only; omega)) ⟨hP, hD, hS, lv_sub hl [2, 1, 0] rfl, (by omega), (by rw [← hb2, show L - b = (L - (b + 1)) + 1 by omega, cgG, if_neg h19, if_pos h27, if_neg h34])⟩
        · refine lv_iload_n hx hb d_Mod_changed_37 rfl (lv_at hl 2 rfl) ?_
          have hP9 : va_P D cl5 (wM g k L (qTh r (nI 0))) H := hP
          have hD9 : va_D A (wM g k L (qTh r (nI 0))) := hD
          exact W.iret (v := nI b) hx hb hr (fun tt9 ht9 hW9 => ⟨⟨_, (), rfl, (by rw [← hb2, show L - b = (L - (b + 1)) + 1 by omega, cgG, if_neg h19, if_pos h27, if_pos h34]), ⟨by rw [ht9]; exact hP9, hD9⟩⟩, hS.F ht9⟩) hS.2.2 d_Mod_changed_38
      · refine lv_goto (tgt := 42) hx hb d_Mod_changed_30 (by decide) ?_
        refine lv_iinc (v := nI (b + 1)) (lv' := [(3, .int (nI (b + 1))), (0, .ref (g 20)), (2, .int (x))]) hx hb d_Mod_changed_42 hl (k := 2) rfl (nI_add b 1) (by decide) rfl (fun ls hl => ?_)
        refine lv_goto (tgt := 10) hx hb d_Mod_changed_45 (by decide) ?_
        exact ih10 (b + 1, x) _ _ _ (by first | omega | (dsimp only; omega)) ⟨hP, hD, hS, lv_sub hl [1, 2, 0] rfl, (by omega), (by rw [← hb2, show L - b = (L - (b + 1)) + 1 by omega, cgG, if_neg h19, if_neg (by rw [h27]; decide)])⟩
set_option maxHeartbeats 4000000 in
set_option maxRecDepth 100000 in
theorem c_Mod_changed_b (l : Launch) (D : va_G) (g : Nat → Nat) (k : Nat → ClassId) (L : Nat) (hL0 : 96 ≤ L) (hL : L ≤ 768) (r : RSt) (hrB : rB r) (x0 : Int32) (hX : ∀ i, i < 64 → rNd r (20 * i + 2) ≤ 8) (hno : cgR L (qTh r (nI 0)) x0 = -1) : MuI l y_Mod_changed w_Mod_changed ({ frames := 3, cells := 0, slots := 0, locals := 70 }) [.ref (g 20), .int (x0)] D cl5 (tyC k) (wM g k L r) (wM g k L (qTh r (nI 1))) (nI 0) := by
  intro sz
  refine Met.ofW (cc := b_Mod_changed) (maxL := 4) (ret := (some .int)) (by decide) rfl ?_
  intro p9 e9 s m args9 below9 meth9 c9 s₁ B hml hv
  obtain ⟨rfl, hsz, hP, hK, hD0⟩ := hv
  have hx := B.exec
  have hb := B.bytes
  have hr := B.returns
  have hts := atoms_spec (ws := w_Mod_changed) B.pre
  have hTB : ∀ w ∈ lw_tb, w.before _ s = true := fun w h => hts w (List.mem_cons_of_mem _ h)
  have hown : s.vm.findClass R_Mod = some m.cls := findClass_of_methodNamed B.named
  have hlocks := B.notSynchronized
  subst hsz
  have hD := hD0.self (sz := s.heap.size)
  generalize hAe : va_A (wM g k L r) s.heap.size = A at hD ⊢
  have hA : ∀ q : Nat, s.heap.size ≤ q → A q := fun q h => by rw [← hAe]; exact Or.inr h
  have hS : va_S A s.heap s.heap [] := va_S.rf
  have hl := lv_entry ([.ref (g 20), .int (x0)]) (n := 4) (Nat.le_of_ble_eq_true rfl)
  rw [lg_entry_eq]
  generalize (lg_sl ([.ref (g 20), .int (x0)]) ++ List.replicate (4 - (lg_sl ([.ref (g 20), .int (x0)])).length) Slot.unset).toArray = ls at hl ⊢
  have hl : lv_has ls 4 [(0, .ref (g 20)), (1, .int (x0))] := hl
  refine lv_aload_n hx hb d_Mod_changed_0 rfl (lv_at hl 0 rfl) ?_
  refine lv_iconst (v := nI 0) hx hb d_Mod_changed_1 (by decide +kernel) ?_
  refine va_put (D := D) (ci := 4) (v := .int (nI 0)) (ty := .int) (C := R_Mod) (T := T_Mod) (N := 14) hx hb hTB in_Mod t_Mod t_Mod_ok n_Mod hown hK hP hD hS 0 rfl rfl 0 (by decide) (hTB _ k_644) (fun _ h9 => h9) rfl (by decide +kernel) rfl rfl (Nat.le_of_ble_eq_true rfl) d_Mod_changed_2 (fun H locs hP hD hS => ?_)
  have hP : va_P D cl5 (wM g k L (qTh r (nI 0))) H := hP
  have hD : va_D A (wM g k L (qTh r (nI 0))) := hD
  have hrB : rB (qTh r (nI 0)) := fun q => hrB q
  refine lv_iload_n hx hb d_Mod_changed_5 rfl (lv_at hl 1 rfl) ?_
  refine lv_istore_n (lv' := [(2, .int (x0)), (0, .ref (g 20)), (1, .int (x0))]) hx hb d_Mod_changed_6 rfl hl (by decide) rfl (fun ls hl => ?_)
  refine lv_bipush (v := nI 25) hx hb d_Mod_changed_7 (by decide +kernel) ?_
  refine lv_istore_n (lv' := [(3, .int (nI 25)), (2, .int (x0)), (0, .ref (g 20)), (1, .int (x0))]) hx hb d_Mod_changed_9 rfl hl (by decide) rfl (fun ls hl => ?_)
  refine gz_loop 10 (fun (zz : (Nat × Int32)) H locs ls => match zz with | (b, x) => va_P D cl5 (wM g k L (qTh r (nI 0))) H ∧ va_D A (wM g k L (qTh r (nI 0))) ∧ va_S A s.heap H locs ∧ lv_has ls 4 [(0, .ref (g 20)), (2, .int (x)), (3, .int (nI b))] ∧ (b ≤ L) ∧ (cgG L (qTh r (nI 0)) (L - b) b x = cgR L (qTh r (nI 0)) x0)) (fun (zz : (Nat × Int32)) => match zz with | (b, x) => L - b) (fun zz H locs ls hI ih10 => ?_) (25, x0) ⟨hP, hD, hS, lv_sub hl [2, 1, 0] rfl, (by omega), rfl⟩
  obtain ⟨b, x⟩ := zz
  obtain ⟨hP, hD, hS, hl, hb1, hb2⟩ := hI
  refine lv_iload_n hx hb d_Mod_changed_10 rfl (lv_at hl 2 rfl) ?_
  refine lv_aload_n hx hb d_Mod_changed_11 rfl (lv_at hl 0 rfl) ?_
  refine va_get (D := D) (ci := 4) (v := .int (nI L)) (C := R_Mod) (T := T_Mod) (N := 14) hx hb hTB in_Mod hown hK hP 0 rfl rfl 1 (by decide) (hTB _ k_645) (fun _ h9 => h9) rfl d_Mod_changed_12 ?_
  refine gz_icmp_ge (tgt := 48) hx hb d_Mod_changed_15 (by decide) (by omega) (by omega) (fun h15 => ?_) (fun h15 => ?_)
  · refine lv_aload_n hx hb d_Mod_changed_48 rfl (lv_at hl 0 rfl) ?_
    refine lv_iconst (v := nI 1) hx hb d_Mod_changed_49 (by decide +kernel) ?_
    refine va_put (D := D) (ci := 4) (v := .int (nI 1)) (ty := .int) (C := R_Mod) (T := T_Mod) (N := 14) hx hb hTB in_Mod t_Mod t_Mod_ok n_Mod hown hK hP hD hS 0 rfl rfl 0 (by decide) (hTB _ k_644) (fun _ h9 => h9) rfl (by decide +kernel) rfl rfl (Nat.le_of_ble_eq_true rfl) d_Mod_changed_50 (fun H locs hP hD hS => ?_)
    have hP : va_P D cl5 (wM g k L (qTh (qTh r (nI 0)) (nI 1))) H := hP
    have hD : va_D A (wM g k L (qTh (qTh r (nI 0)) (nI 1))) := hD
    refine lv_iconst (v := nI 0) hx hb d_Mod_changed_53 (by decide +kernel) ?_
    have hP9 : va_P D cl5 (wM g k L (qTh r (nI 1))) H := hP
    have hD9 : va_D A (wM g k L (qTh r (nI 1))) := hD
    exact W.iret (v := nI 0) hx hb hr (fun tt9 ht9 hW9 => ⟨⟨_, (), rfl, rfl, ⟨by rw [ht9]; exact hP9, hD9⟩⟩, hS.F ht9⟩) hS.2.2 d_Mod_changed_54
  · refine lv_iload_n hx hb d_Mod_changed_18 rfl (lv_at hl 1 rfl) ?_
    refine lv_if_lt (tgt := 48) hx hb d_Mod_changed_19 (by decide) (fun h19 => ?_) (fun h19 => ?_)
    · refine lv_aload_n hx hb d_Mod_changed_48 rfl (lv_at hl 0 rfl) ?_
      refine lv_iconst (v := nI 1) hx hb d_Mod_changed_49 (by decide +kernel) ?_
      refine va_put (D := D) (ci := 4) (v := .int (nI 1)) (ty := .int) (C := R_Mod) (T := T_Mod) (N := 14) hx hb hTB in_Mod t_Mod t_Mod_ok n_Mod hown hK hP hD hS 0 rfl rfl 0 (by decide) (hTB _ k_644) (fun _ h9 => h9) rfl (by decide +kernel) rfl rfl (Nat.le_of_ble_eq_true rfl) d_Mod_changed_50 (fun H locs hP hD hS => ?_)
      have hP : va_P D cl5 (wM g k L (qTh (qTh r (nI 0)) (nI 1))) H := hP
      have hD : va_D A (wM g k L (qTh (qTh r (nI 0)) (nI 1))) := hD
      refine lv_iconst (v := nI 0) hx hb d_Mod_changed_53 (by decide +kernel) ?_
      have hP9 : va_P D cl5 (wM g k L (qTh r (nI 1))) H := hP
      have hD9 : va_D A (wM g k L (qTh r (nI 1))) := hD
      exact W.iret (v := nI 0) hx hb hr (fun tt9 ht9 hW9 => ⟨⟨_, (), rfl, rfl, ⟨by rw [ht9]; exact hP9, hD9⟩⟩, hS.F ht9⟩) hS.2.2 d_Mod_changed_54
    · refine lv_aload_n hx hb d_Mod_changed_22 rfl (lv_at hl 0 rfl) ?_
      refine lv_iload_n hx hb d_Mod_changed_23 rfl (lv_at hl 2 rfl) ?_
      refine gz_roV (As := [.int (nI b)]) (rest := []) (wc := (wM g k L (qTh r (nI 0)))) ⟨hx, hb, hml, hown, hTB⟩ (c_Mod_isChanged l D g k L hL0 hL (qTh r (nI 0)) hrB b (by omega) hX) (cwV 1 hTB (gd_V k_625 k_627 k_17 k_56 k_628) rfl rfl rfl (by decide +kernel) ⟨Nat.le_of_ble_eq_true rfl, Nat.le_of_ble_eq_true rfl⟩) hK hP [0, 1, 2, 3, 4, 5, 6, 7, 8, 9, 10] rfl 0 rfl rfl rfl hl.1 rfl (Nat.le_of_ble_eq_true rfl) d_Mod_changed_24 ⟨Nat.zero_le _, Nat.zero_le _⟩ hS (fun H locs hP hS => ?_)
      refine gz_ifz_ne (tgt := 33) hx hb d_Mod_changed_27 (by decide) (fun h27 => ?_) (fun h27 => ?_)
      · refine lv_iload_n hx hb d_Mod_changed_33 rfl (lv_at hl 1 rfl) ?_
        refine lv_if_ne (tgt := 39) hx hb d_Mod_changed_34 (by decide) (fun h34 => ?_) (fun h34 => ?_)
        · refine lv_iinc (v := x + Int32.ofInt (-1)) (lv' := [(2, .int (x + Int32.ofInt (-1))), (0, .ref (g 20)), (3, .int (nI b))]) hx hb d_Mod_changed_39 hl (k := 1) rfl rfl (by decide) rfl (fun ls hl => ?_)
          refine lv_iinc (v := nI (b + 1)) (lv' := [(3, .int (nI (b + 1))), (2, .int (x + Int32.ofInt (-1))), (0, .ref (g 20))]) hx hb d_Mod_changed_42 hl (k := 2) rfl (nI_add b 1) (by decide) rfl (fun ls hl => ?_)
          refine lv_goto (tgt := 10) hx hb d_Mod_changed_45 (by decide) ?_
          exact ih10 (b + 1, x + Int32.ofInt (-1)) _ _ _ (by first | omega | (dsimp only; omega)) ⟨hP, hD, hS, lv_sub hl [2, 1, 0] rfl, (by omega), (by rw [← hb2, show L - b = (L - (b + 1)) + 1 by omega, cgG, if_neg h19, if_pos h27, if_neg h34])⟩
        · exact absurd (show nI b = -1 by rw [← hno, ← hb2, show L - b = (L - (b + 1)) + 1 by omega, cgG, if_neg h19, if_pos h27, if_pos h34]) (fun z => nI_pos (n := b) (by omega) (by rw [z]; decide))
      · refine lv_goto (tgt := 42) hx hb d_Mod_changed_30 (by decide) ?_
        refine lv_iinc (v := nI (b + 1)) (lv' := [(3, .int (nI (b + 1))), (0, .ref (g 20)), (2, .int (x))]) hx hb d_Mod_changed_42 hl (k := 2) rfl (nI_add b 1) (by decide) rfl (fun ls hl => ?_)
        refine lv_goto (tgt := 10) hx hb d_Mod_changed_45 (by decide) ?_
        exact ih10 (b + 1, x) _ _ _ (by first | omega | (dsimp only; omega)) ⟨hP, hD, hS, lv_sub hl [1, 2, 0] rfl, (by omega), (by rw [← hb2, show L - b = (L - (b + 1)) + 1 by omega, cgG, if_neg h19, if_neg (by rw [h27]; decide)])⟩
theorem d_Mod_look_0 : decode b_Mod_look 0 = .ok (.aload_n 0, 1) := by decide +kernel
theorem d_Mod_look_1 : decode b_Mod_look 1 = .ok (.iload_n 1, 1) := by decide +kernel
theorem d_Mod_look_2 : decode b_Mod_look 2 = .ok (.iconst 0, 1) := by decide +kernel
theorem d_Mod_look_3 : decode b_Mod_look 3 = .ok (.bipush 6, 2) := by decide +kernel
theorem d_Mod_look_5 : decode b_Mod_look 5 = .ok (.invokestatic 127, 3) := by decide +kernel
theorem d_Mod_look_8 : decode b_Mod_look 8 = .ok (.ifCond .ne 7, 3) := by decide +kernel
theorem d_Mod_look_11 : decode b_Mod_look 11 = .ok (.iconst 1, 1) := by decide +kernel
theorem d_Mod_look_12 : decode b_Mod_look 12 = .ok (.goto 4, 3) := by decide +kernel
theorem d_Mod_look_15 : decode b_Mod_look 15 = .ok (.iconst 0, 1) := by decide +kernel
theorem d_Mod_look_16 : decode b_Mod_look 16 = .ok (.iconst 1, 1) := by decide +kernel
theorem d_Mod_look_17 : decode b_Mod_look 17 = .ok (.invokevirtual 170, 3) := by decide +kernel
theorem d_Mod_look_20 : decode b_Mod_look 20 = .ok (.ifCond .eq 5, 3) := by decide +kernel
theorem d_Mod_look_23 : decode b_Mod_look 23 = .ok (.iconst 0, 1) := by decide +kernel
theorem d_Mod_look_24 : decode b_Mod_look 24 = .ok (.ireturn, 1) := by decide +kernel
theorem d_Mod_look_25 : decode b_Mod_look 25 = .ok (.iconst 0, 1) := by decide +kernel
theorem d_Mod_look_26 : decode b_Mod_look 26 = .ok (.istore_n 2, 1) := by decide +kernel
theorem d_Mod_look_27 : decode b_Mod_look 27 = .ok (.iconst 0, 1) := by decide +kernel
theorem d_Mod_look_28 : decode b_Mod_look 28 = .ok (.istore_n 3, 1) := by decide +kernel
theorem d_Mod_look_29 : decode b_Mod_look 29 = .ok (.iload_n 3, 1) := by decide +kernel
theorem d_Mod_look_30 : decode b_Mod_look 30 = .ok (.aload_n 0, 1) := by decide +kernel
theorem d_Mod_look_31 : decode b_Mod_look 31 = .ok (.getfield 41, 3) := by decide +kernel
theorem d_Mod_look_34 : decode b_Mod_look 34 = .ok (.if_icmp .ge 26, 3) := by decide +kernel
theorem d_Mod_look_37 : decode b_Mod_look 37 = .ok (.iload_n 2, 1) := by decide +kernel
theorem d_Mod_look_38 : decode b_Mod_look 38 = .ok (.aload_n 0, 1) := by decide +kernel
theorem d_Mod_look_39 : decode b_Mod_look 39 = .ok (.getfield 16, 3) := by decide +kernel
theorem d_Mod_look_42 : decode b_Mod_look 42 = .ok (.iload_n 3, 1) := by decide +kernel
theorem d_Mod_look_43 : decode b_Mod_look 43 = .ok (.iaload, 1) := by decide +kernel
theorem d_Mod_look_44 : decode b_Mod_look 44 = .ok (.ifCond .ne 7, 3) := by decide +kernel
theorem d_Mod_look_47 : decode b_Mod_look 47 = .ok (.iconst 1, 1) := by decide +kernel
theorem d_Mod_look_48 : decode b_Mod_look 48 = .ok (.goto 4, 3) := by decide +kernel
theorem d_Mod_look_51 : decode b_Mod_look 51 = .ok (.iconst 0, 1) := by decide +kernel
theorem d_Mod_look_52 : decode b_Mod_look 52 = .ok (.iadd, 1) := by decide +kernel
theorem d_Mod_look_53 : decode b_Mod_look 53 = .ok (.istore_n 2, 1) := by decide +kernel
theorem d_Mod_look_54 : decode b_Mod_look 54 = .ok (.iinc 3 1, 3) := by decide +kernel
theorem d_Mod_look_57 : decode b_Mod_look 57 = .ok (.goto (-28), 3) := by decide +kernel
theorem d_Mod_look_60 : decode b_Mod_look 60 = .ok (.iconst 0, 1) := by decide +kernel
theorem d_Mod_look_61 : decode b_Mod_look 61 = .ok (.istore_n 3, 1) := by decide +kernel
theorem d_Mod_look_62 : decode b_Mod_look 62 = .ok (.iconst 0, 1) := by decide +kernel
theorem d_Mod_look_63 : decode b_Mod_look 63 = .ok (.istore 4, 2) := by decide +kernel
theorem d_Mod_look_65 : decode b_Mod_look 65 = .ok (.iconst 0, 1) := by decide +kernel
theorem d_Mod_look_66 : decode b_Mod_look 66 = .ok (.istore 5, 2) := by decide +kernel
theorem d_Mod_look_68 : decode b_Mod_look 68 = .ok (.iload 5, 2) := by decide +kernel
theorem d_Mod_look_70 : decode b_Mod_look 70 = .ok (.bipush 64, 2) := by decide +kernel
theorem d_Mod_look_72 : decode b_Mod_look 72 = .ok (.if_icmp .ge 46, 3) := by decide +kernel
theorem d_Mod_look_75 : decode b_Mod_look 75 = .ok (.iload_n 3, 1) := by decide +kernel
theorem d_Mod_look_76 : decode b_Mod_look 76 = .ok (.aload_n 0, 1) := by decide +kernel
theorem d_Mod_look_77 : decode b_Mod_look 77 = .ok (.iload 5, 2) := by decide +kernel
theorem d_Mod_look_79 : decode b_Mod_look 79 = .ok (.invokevirtual 111, 3) := by decide +kernel
theorem d_Mod_look_82 : decode b_Mod_look 82 = .ok (.ifCond .ne 7, 3) := by decide +kernel
theorem d_Mod_look_85 : decode b_Mod_look 85 = .ok (.iconst 1, 1) := by decide +kernel
theorem d_Mod_look_86 : decode b_Mod_look 86 = .ok (.goto 4, 3) := by decide +kernel
theorem d_Mod_look_89 : decode b_Mod_look 89 = .ok (.iconst 0, 1) := by decide +kernel
theorem d_Mod_look_90 : decode b_Mod_look 90 = .ok (.iadd, 1) := by decide +kernel
theorem d_Mod_look_91 : decode b_Mod_look 91 = .ok (.istore_n 3, 1) := by decide +kernel
theorem d_Mod_look_92 : decode b_Mod_look 92 = .ok (.iload 4, 2) := by decide +kernel
theorem d_Mod_look_94 : decode b_Mod_look 94 = .ok (.aload_n 0, 1) := by decide +kernel
theorem d_Mod_look_95 : decode b_Mod_look 95 = .ok (.iload 5, 2) := by decide +kernel
theorem d_Mod_look_97 : decode b_Mod_look 97 = .ok (.invokevirtual 111, 3) := by decide +kernel
theorem d_Mod_look_100 : decode b_Mod_look 100 = .ok (.iconst 2, 1) := by decide +kernel
theorem d_Mod_look_101 : decode b_Mod_look 101 = .ok (.if_icmp .ne 7, 3) := by decide +kernel
theorem d_Mod_look_104 : decode b_Mod_look 104 = .ok (.iconst 1, 1) := by decide +kernel
theorem d_Mod_look_105 : decode b_Mod_look 105 = .ok (.goto 4, 3) := by decide +kernel
theorem d_Mod_look_108 : decode b_Mod_look 108 = .ok (.iconst 0, 1) := by decide +kernel
theorem d_Mod_look_109 : decode b_Mod_look 109 = .ok (.iadd, 1) := by decide +kernel
theorem d_Mod_look_110 : decode b_Mod_look 110 = .ok (.istore 4, 2) := by decide +kernel
theorem d_Mod_look_112 : decode b_Mod_look 112 = .ok (.iinc 5 1, 3) := by decide +kernel
theorem d_Mod_look_115 : decode b_Mod_look 115 = .ok (.goto (-47), 3) := by decide +kernel
theorem d_Mod_look_118 : decode b_Mod_look 118 = .ok (.iload_n 1, 1) := by decide +kernel
theorem d_Mod_look_119 : decode b_Mod_look 119 = .ok (.tableswitch 61 0 5 #[37, 42, 44, 46, 51, 56], 37) := by decide +kernel
theorem d_Mod_look_156 : decode b_Mod_look 156 = .ok (.aload_n 0, 1) := by decide +kernel
theorem d_Mod_look_157 : decode b_Mod_look 157 = .ok (.getfield 41, 3) := by decide +kernel
theorem d_Mod_look_160 : decode b_Mod_look 160 = .ok (.ireturn, 1) := by decide +kernel
theorem d_Mod_look_161 : decode b_Mod_look 161 = .ok (.iload_n 2, 1) := by decide +kernel
theorem d_Mod_look_162 : decode b_Mod_look 162 = .ok (.ireturn, 1) := by decide +kernel
theorem d_Mod_look_163 : decode b_Mod_look 163 = .ok (.iload_n 3, 1) := by decide +kernel
theorem d_Mod_look_164 : decode b_Mod_look 164 = .ok (.ireturn, 1) := by decide +kernel
theorem d_Mod_look_165 : decode b_Mod_look 165 = .ok (.aload_n 0, 1) := by decide +kernel
theorem d_Mod_look_166 : decode b_Mod_look 166 = .ok (.invokevirtual 67, 3) := by decide +kernel
theorem d_Mod_look_169 : decode b_Mod_look 169 = .ok (.ireturn, 1) := by decide +kernel
theorem d_Mod_look_170 : decode b_Mod_look 170 = .ok (.aload_n 0, 1) := by decide +kernel
theorem d_Mod_look_171 : decode b_Mod_look 171 = .ok (.getfield 167, 3) := by decide +kernel
theorem d_Mod_look_174 : decode b_Mod_look 174 = .ok (.ireturn, 1) := by decide +kernel
theorem d_Mod_look_175 : decode b_Mod_look 175 = .ok (.aload_n 0, 1) := by decide +kernel
theorem d_Mod_look_176 : decode b_Mod_look 176 = .ok (.getfield 174, 3) := by decide +kernel
theorem d_Mod_look_179 : decode b_Mod_look 179 = .ok (.ireturn, 1) := by decide +kernel
theorem d_Mod_look_180 : decode b_Mod_look 180 = .ok (.iload 4, 2) := by decide +kernel
theorem d_Mod_look_182 : decode b_Mod_look 182 = .ok (.ireturn, 1) := by decide +kernel
set_option maxHeartbeats 4000000 in
set_option maxRecDepth 100000 in
theorem c_Mod_look (l : Launch) (D : va_G) (g : Nat → Nat) (k : Nat → ClassId) (L : Nat) (hL0 : 96 ≤ L) (hL : L ≤ 768) (r : RSt) (hrB : rB r) (w : Nat) (hw0 : w ≤ 6) (hX : ∀ i, i < 64 → rNd r (20 * i + 2) ≤ 8) : MuI l y_Mod_look w_Mod_look ({ frames := 4, cells := 0, slots := 0, locals := 92 }) [.ref (g 20), .int (nI w)] D cl5 (tyC k) (wM g k L r) (wM g k L (qTh r (nI 0))) (loR L (qTh r (nI 0)) w) := by
  intro sz
  refine Met.ofW (cc := b_Mod_look) (maxL := 6) (ret := (some .int)) (by decide) rfl ?_
  intro p9 e9 s m args9 below9 meth9 c9 s₁ B hml hv
  obtain ⟨rfl, hsz, hP, hK, hD0⟩ := hv
  have hx := B.exec
  have hb := B.bytes
  have hr := B.returns
  have hts := atoms_spec (ws := w_Mod_look) B.pre
  have hTB : ∀ w ∈ lw_tb, w.before _ s = true := fun w h => hts w (List.mem_cons_of_mem _ h)
  have hown : s.vm.findClass R_Mod = some m.cls := findClass_of_methodNamed B.named
  have hlocks := B.notSynchronized
  subst hsz
  have hD := hD0.self (sz := s.heap.size)
  generalize hAe : va_A (wM g k L r) s.heap.size = A at hD ⊢
  have hA : ∀ q : Nat, s.heap.size ≤ q → A q := fun q h => by rw [← hAe]; exact Or.inr h
  have hS : va_S A s.heap s.heap [] := va_S.rf
  have hl := lv_entry ([.ref (g 20), .int (nI w)]) (n := 6) (Nat.le_of_ble_eq_true rfl)
  rw [lg_entry_eq]
  generalize (lg_sl ([.ref (g 20), .int (nI w)]) ++ List.replicate (6 - (lg_sl ([.ref (g 20), .int (nI w)])).length) Slot.unset).toArray = ls at hl ⊢
  have hl : lv_has ls 6 [(0, .ref (g 20)), (1, .int (nI w))] := hl
  refine lv_aload_n hx hb d_Mod_look_0 rfl (lv_at hl 0 rfl) ?_
  refine lv_iload_n hx hb d_Mod_look_1 rfl (lv_at hl 1 rfl) ?_
  refine lv_iconst (v := nI 0) hx hb d_Mod_look_2 (by decide +kernel) ?_
  refine lv_bipush (v := nI 6) hx hb d_Mod_look_3 (by decide +kernel) ?_
  refine gz_roS (As := [.int (nI w), .int (nI 0), .int (nI 6)]) (rest := [.ref (g 20)]) ⟨hx, hb, hml, hown, hTB⟩ (c_Mod_in l (nI w) (nI 0) (nI 6)) (cwS 3 hTB (gd_S k_695 k_696 k_56 k_697) rfl rfl rfl (by decide +kernel) ⟨Nat.le_of_ble_eq_true rfl, Nat.le_of_ble_eq_true rfl⟩) hP rfl hl.1 rfl (Nat.le_of_ble_eq_true rfl) d_Mod_look_5 ⟨Nat.zero_le _, Nat.zero_le _⟩ hS (fun H locs hP hS => ?_)
  refine gz_ifz_ne (tgt := 15) hx hb d_Mod_look_8 (by decide) (fun h8 => ?_) (fun h8 => ?_)
  · refine lv_iconst (v := nI 0) hx hb d_Mod_look_15 (by decide +kernel) ?_
    refine lv_iconst (v := nI 1) hx hb d_Mod_look_16 (by decide +kernel) ?_
    refine gz_muI (As := [.int (nI 0), .int (nI 1)]) (rest := []) (wc := (wM g k L r)) (w1 := (wM g k L (qTh r (nI 0)))) (wr := []) ⟨hx, hb, hml, hown, hTB⟩ (c_Mod_fails l D g k L hL0 hL r hrB false (nI 1)) (cwV 2 hTB (gd_V k_698 k_700 k_21 k_56 k_701) rfl rfl rfl (by decide +kernel) ⟨Nat.le_of_ble_eq_true rfl, Nat.le_of_ble_eq_true rfl⟩) hK hP hD hA [0, 1, 2, 3, 4, 5, 6, 7, 8, 9, 10] [] rfl rfl (by decide) rfl (by decide) (by decide) 0 rfl rfl rfl hl.1 rfl (Nat.le_of_ble_eq_true rfl) d_Mod_look_17 ⟨Nat.zero_le _, Nat.zero_le _⟩ hS (fun H locs hP hD hS => ?_)
    have hP : va_P D cl5 (wM g k L (qTh r (nI 0))) H := hP
    have hD : va_D A (wM g k L (qTh r (nI 0))) := hD
    have hrB : rB (qTh r (nI 0)) := fun q => hrB q
    refine gz_ifz_eq (tgt := 25) hx hb d_Mod_look_20 (by decide) (fun h20 => ?_) (fun h20 => ?_)
    · refine lv_iconst (v := nI 0) hx hb d_Mod_look_25 (by decide +kernel) ?_
      refine lv_istore_n (lv' := [(2, .int (nI 0)), (0, .ref (g 20)), (1, .int (nI w))]) hx hb d_Mod_look_26 rfl hl (by decide) rfl (fun ls hl => ?_)
      refine lv_iconst (v := nI 0) hx hb d_Mod_look_27 (by decide +kernel) ?_
      refine lv_istore_n (lv' := [(3, .int (nI 0)), (2, .int (nI 0)), (0, .ref (g 20)), (1, .int (nI w))]) hx hb d_Mod_look_28 rfl hl (by decide) rfl (fun ls hl => ?_)
      refine gz_loop 29 (fun (zz : Nat) H locs ls => match zz with | b => va_P D cl5 (wM g k L (qTh r (nI 0))) H ∧ va_D A (wM g k L (qTh r (nI 0))) ∧ va_S A s.heap H locs ∧ lv_has ls 6 [(0, .ref (g 20)), (1, .int (nI w)), (2, .int (nI (owG (rOw r) b))), (3, .int (nI b))] ∧ (b ≤ L)) (fun (zz : Nat) => match zz with | b => L - b) (fun zz H locs ls hI ih29 => ?_) (0) ⟨hP, hD, hS, lv_sub hl [2, 3, 1, 0] rfl, (Nat.zero_le _)⟩
      obtain ⟨b, rfl⟩ : ∃ z, z = zz := ⟨_, rfl⟩
      obtain ⟨hP, hD, hS, hl, hb1⟩ := hI
      have how := owG_le (rOw r) b
      refine lv_iload_n hx hb d_Mod_look_29 rfl (lv_at hl 3 rfl) ?_
      refine lv_aload_n hx hb d_Mod_look_30 rfl (lv_at hl 0 rfl) ?_
      refine va_get (D := D) (ci := 4) (v := .int (nI L)) (C := R_Mod) (T := T_Mod) (N := 14) hx hb hTB in_Mod hown hK hP 0 rfl rfl 1 (by decide) (hTB _ k_645) (fun _ h9 => h9) rfl d_Mod_look_31 ?_
      refine gz_icmp_ge (tgt := 60) hx hb d_Mod_look_34 (by decide) (by omega) (by omega) (fun h34 => ?_) (fun h34 => ?_)
      · have hbL : b = L := by omega
        have hl : lv_has ls 6 [(0, .ref (g 20)), (1, .int (nI w)), (2, .int (nI (owG (rOw r) L))), (3, .int (nI b))] := by rw [← hbL]; rw [hbL] at hl ⊢; exact hl
        refine lv_iconst (v := nI 0) hx hb d_Mod_look_60 (by decide +kernel) ?_
        refine lv_istore_n (lv' := [(3, .int (nI 0)), (0, .ref (g 20)), (1, .int (nI w)), (2, .int (nI (owG (rOw r) L)))]) hx hb d_Mod_look_61 rfl hl (by decide) rfl (fun ls hl => ?_)
        refine lv_iconst (v := nI 0) hx hb d_Mod_look_62 (by decide +kernel) ?_
        refine lv_istore (lv' := [(4, .int (nI 0)), (3, .int (nI 0)), (0, .ref (g 20)), (1, .int (nI w)), (2, .int (nI (owG (rOw r) L)))]) hx hb d_Mod_look_63 hl (by decide) rfl (fun ls hl => ?_)
        refine lv_iconst (v := nI 0) hx hb d_Mod_look_65 (by decide +kernel) ?_
        refine lv_istore (lv' := [(5, .int (nI 0)), (4, .int (nI 0)), (3, .int (nI 0)), (0, .ref (g 20)), (1, .int (nI w)), (2, .int (nI (owG (rOw r) L)))]) hx hb d_Mod_look_66 hl (by decide) rfl (fun ls hl => ?_)
        refine gz_loop 68 (fun (zz : Nat) H locs ls => match zz with | i => va_P D cl5 (wM g k L (qTh r (nI 0))) H ∧ va_D A (wM g k L (qTh r (nI 0))) ∧ va_S A s.heap H locs ∧ lv_has ls 6 [(0, .ref (g 20)), (1, .int (nI w)), (2, .int (nI (owG (rOw r) L))), (3, .int (nI (kdG (rNd r) 0 i))), (4, .int (nI (kdG (rNd r) 2 i))), (5, .int (nI i))] ∧ (i ≤ 64)) (fun (zz : Nat) => match zz with | i => 64 - i) (fun zz H locs ls hI ih68 => ?_) (0) ⟨hP, hD, hS, lv_sub hl [3, 4, 5, 2, 1, 0] rfl, (Nat.zero_le _)⟩
        obtain ⟨i, rfl⟩ : ∃ z, z = zz := ⟨_, rfl⟩
        obtain ⟨hP, hD, hS, hl, hi1⟩ := hI
        have hk0 := kdG_le (rNd r) 0 i
        have hk2 := kdG_le (rNd r) 2 i
        refine lv_iload hx hb d_Mod_look_68 (lv_at hl 5 rfl) ?_
        refine lv_bipush (v := nI 64) hx hb d_Mod_look_70 (by decide +kernel) ?_
        refine gz_icmp_ge (tgt := 118) hx hb d_Mod_look_72 (by decide) (by omega) (by omega) (fun h72 => ?_) (fun h72 => ?_)
        · have hi64 : i = 64 := by omega
          rw [hi64] at hl
          refine lv_iload_n hx hb d_Mod_look_118 rfl (lv_at hl 1 rfl) ?_
          rcases (show w = 0 ∨ w = 1 ∨ w = 2 ∨ w = 3 ∨ w = 4 ∨ w = 5 ∨ 5 < w by omega) with h119 | h119 | h119 | h119 | h119 | h119 | h119
          · refine lv_tableIn (off := 37) (tgt := 156) hx hb d_Mod_look_119 (by rw [h119]; decide) (by rw [h119]; decide) (by rw [h119]; decide +kernel) (by decide) ?_
            refine lv_aload_n hx hb d_Mod_look_156 rfl (lv_at hl 0 rfl) ?_
            refine va_get (D := D) (ci := 4) (v := .int (nI L)) (C := R_Mod) (T := T_Mod) (N := 14) hx hb hTB in_Mod hown hK hP 0 rfl rfl 1 (by decide) (hTB _ k_645) (fun _ h9 => h9) rfl d_Mod_look_157 ?_
            have hP9 : va_P D cl5 (wM g k L (qTh r (nI 0))) H := hP
            have hD9 : va_D A (wM g k L (qTh r (nI 0))) := hD
            exact W.iret (v := nI L) hx hb hr (fun tt9 ht9 hW9 => ⟨⟨_, (), rfl, (by subst h119; rfl), ⟨by rw [ht9]; exact hP9, hD9⟩⟩, hS.F ht9⟩) hS.2.2 d_Mod_look_160
          · refine lv_tableIn (off := 42) (tgt := 161) hx hb d_Mod_look_119 (by rw [h119]; decide) (by rw [h119]; decide) (by rw [h119]; decide +kernel) (by decide) ?_
            refine lv_iload_n hx hb d_Mod_look_161 rfl (lv_at hl 2 rfl) ?_
            have hP9 : va_P D cl5 (wM g k L (qTh r (nI 0))) H := hP
            have hD9 : va_D A (wM g k L (qTh r (nI 0))) := hD
            exact W.iret (v := nI (owG (rOw r) L)) hx hb hr (fun tt9 ht9 hW9 => ⟨⟨_, (), rfl, (by subst h119; rfl), ⟨by rw [ht9]; exact hP9, hD9⟩⟩, hS.F ht9⟩) hS.2.2 d_Mod_look_162
          · refine lv_tableIn (off := 44) (tgt := 163) hx hb d_Mod_look_119 (by rw [h119]; decide) (by rw [h119]; decide) (by rw [h119]; decide +kernel) (by decide) ?_
            refine lv_iload_n hx hb d_Mod_look_163 rfl (lv_at hl 3 rfl) ?_
            have hP9 : va_P D cl5 (wM g k L (qTh r (nI 0))) H := hP
            have hD9 : va_D A (wM g k L (qTh r (nI 0))) := hD
            exact W.iret (v := nI (kdG (rNd r) 0 64)) hx hb hr (fun tt9 ht9 hW9 => ⟨⟨_, (), rfl, (by subst h119; rfl), ⟨by rw [ht9]; exact hP9, hD9⟩⟩, hS.F ht9⟩) hS.2.2 d_Mod_look_164
          · refine lv_tableIn (off := 46) (tgt := 165) hx hb d_Mod_look_119 (by rw [h119]; decide) (by rw [h119]; decide) (by rw [h119]; decide +kernel) (by decide) ?_
            refine lv_aload_n hx hb d_Mod_look_165 rfl (lv_at hl 0 rfl) ?_
            refine gz_roV (As := []) (rest := []) (wc := (wM g k L (qTh r (nI 0)))) ⟨hx, hb, hml, hown, hTB⟩ (c_Mod_changes l D g k L hL0 hL (qTh r (nI 0)) hrB hX) (cwV 0 hTB (gd_V k_621 k_623 k_16 k_56 k_624) rfl rfl rfl (by decide +kernel) ⟨Nat.le_of_ble_eq_true rfl, Nat.le_of_ble_eq_true rfl⟩) hK hP [0, 1, 2, 3, 4, 5, 6, 7, 8, 9, 10] rfl 0 rfl rfl rfl hl.1 rfl (Nat.le_of_ble_eq_true rfl) d_Mod_look_166 ⟨Nat.zero_le _, Nat.zero_le _⟩ hS (fun H locs hP hS => ?_)
            have := chG_le L (qTh r (nI 0)) (L - 25) 25
            have : chR L (qTh r (nI 0)) ≤ L - 25 := this
            have hP9 : va_P D cl5 (wM g k L (qTh r (nI 0))) H := hP
            have hD9 : va_D A (wM g k L (qTh r (nI 0))) := hD
            exact W.iret (v := nI (chR L (qTh r (nI 0)))) hx hb hr (fun tt9 ht9 hW9 => ⟨⟨_, (), rfl, (by subst h119; rfl), ⟨by rw [ht9]; exact hP9, hD9⟩⟩, hS.F ht9⟩) hS.2.2 d_Mod_look_169
          · refine lv_tableIn (off := 51) (tgt := 170) hx hb d_Mod_look_119 (by rw [h119]; decide) (by rw [h119]; decide) (by rw [h119]; decide +kernel) (by decide) ?_
            refine lv_aload_n hx hb d_Mod_look_170 rfl (lv_at hl 0 rfl) ?_
            refine va_get (D := D) (ci := 4) (v := .int (rCm (qTh r (nI 0)))) (C := R_Mod) (T := T_Mod) (N := 14) hx hb hTB in_Mod hown hK hP 0 rfl rfl 13 (by decide) (hTB _ k_657) (fun _ h9 => h9) rfl d_Mod_look_171 ?_
            have hP9 : va_P D cl5 (wM g k L (qTh r (nI 0))) H := hP
            have hD9 : va_D A (wM g k L (qTh r (nI 0))) := hD
            exact W.iret (v := rCm (qTh r (nI 0))) hx hb hr (fun tt9 ht9 hW9 => ⟨⟨_, (), rfl, (by subst h119; rfl), ⟨by rw [ht9]; exact hP9, hD9⟩⟩, hS.F ht9⟩) hS.2.2 d_Mod_look_174
          · refine lv_tableIn (off := 56) (tgt := 175) hx hb d_Mod_look_119 (by rw [h119]; decide) (by rw [h119]; decide) (by rw [h119]; decide +kernel) (by decide) ?_
            refine lv_aload_n hx hb d_Mod_look_175 rfl (lv_at hl 0 rfl) ?_
            refine va_get (D := D) (ci := 4) (v := .int (nI (rTl (qTh r (nI 0))))) (C := R_Mod) (T := T_Mod) (N := 14) hx hb hTB in_Mod hown hK hP 0 rfl rfl 3 (by decide) (hTB _ k_647) (fun _ h9 => h9) rfl d_Mod_look_176 ?_
            have hP9 : va_P D cl5 (wM g k L (qTh r (nI 0))) H := hP
            have hD9 : va_D A (wM g k L (qTh r (nI 0))) := hD
            exact W.iret (v := nI (rTl (qTh r (nI 0)))) hx hb hr (fun tt9 ht9 hW9 => ⟨⟨_, (), rfl, (by subst h119; rfl), ⟨by rw [ht9]; exact hP9, hD9⟩⟩, hS.F ht9⟩) hS.2.2 d_Mod_look_179
          · have h119 : w = 6 := by omega
            refine lv_tableOut (tgt := 180) hx hb d_Mod_look_119 (Or.inr (by rw [nI_toInt (by omega)]; omega)) (by decide) ?_
            refine lv_iload hx hb d_Mod_look_180 (lv_at hl 4 rfl) ?_
            have hP9 : va_P D cl5 (wM g k L (qTh r (nI 0))) H := hP
            have hD9 : va_D A (wM g k L (qTh r (nI 0))) := hD
            exact W.iret (v := nI (kdG (rNd r) 2 64)) hx hb hr (fun tt9 ht9 hW9 => ⟨⟨_, (), rfl, (by subst h119; rfl), ⟨by rw [ht9]; exact hP9, hD9⟩⟩, hS.F ht9⟩) hS.2.2 d_Mod_look_182
        · refine lv_iload_n hx hb d_Mod_look_75 rfl (lv_at hl 3 rfl) ?_
          refine lv_aload_n hx hb d_Mod_look_76 rfl (lv_at hl 0 rfl) ?_
          refine lv_iload hx hb d_Mod_look_77 (lv_at hl 5 rfl) ?_
          refine gz_roV (As := [.int (nI i)]) (rest := [.int (nI (kdG (rNd r) 0 i))]) (wc := (wM g k L (qTh r (nI 0)))) ⟨hx, hb, hml, hown, hTB⟩ (c_Mod_kind l D g k L hL0 hL (qTh r (nI 0)) hrB i (by omega)) (cwV 1 hTB (gd_V k_734 k_736 k_27 k_56 k_737) rfl rfl rfl (by decide +kernel) ⟨Nat.le_of_ble_eq_true rfl, Nat.le_of_ble_eq_true rfl⟩) hK hP [0, 1, 2, 3, 4, 5, 6, 7, 8, 9, 10] rfl 0 rfl rfl rfl hl.1 rfl (Nat.le_of_ble_eq_true rfl) d_Mod_look_79 ⟨Nat.zero_le _, Nat.zero_le _⟩ hS (fun H locs hP hS => ?_)
          have := (hrB (20 * i)).2.1
          refine gz_if_ne (tgt := 89) hx hb d_Mod_look_82 (by decide) (by omega) (fun h82 => ?_) (fun h82 => ?_)
          · refine lv_iconst (v := nI 0) hx hb d_Mod_look_89 (by decide +kernel) ?_
            refine gz_iadd hx hb d_Mod_look_90 ?_
            refine lv_istore_n (lv' := [(3, .int (nI ((kdG (rNd r) 0 i) + 0))), (0, .ref (g 20)), (1, .int (nI w)), (2, .int (nI (owG (rOw r) L))), (4, .int (nI (kdG (rNd r) 2 i))), (5, .int (nI i))]) hx hb d_Mod_look_91 rfl hl (by decide) rfl (fun ls hl => ?_)
            refine lv_iload hx hb d_Mod_look_92 (lv_at hl 4 rfl) ?_
            refine lv_aload_n hx hb d_Mod_look_94 rfl (lv_at hl 1 rfl) ?_
            refine lv_iload hx hb d_Mod_look_95 (lv_at hl 5 rfl) ?_
            refine gz_roV (As := [.int (nI i)]) (rest := [.int (nI (kdG (rNd r) 2 i))]) (wc := (wM g k L (qTh r (nI 0)))) ⟨hx, hb, hml, hown, hTB⟩ (c_Mod_kind l D g k L hL0 hL (qTh r (nI 0)) hrB i (by omega)) (cwV 1 hTB (gd_V k_734 k_736 k_27 k_56 k_737) rfl rfl rfl (by decide +kernel) ⟨Nat.le_of_ble_eq_true rfl, Nat.le_of_ble_eq_true rfl⟩) hK hP [0, 1, 2, 3, 4, 5, 6, 7, 8, 9, 10] rfl 0 rfl rfl rfl hl.1 rfl (Nat.le_of_ble_eq_true rfl) d_Mod_look_97 ⟨Nat.zero_le _, Nat.zero_le _⟩ hS (fun H locs hP hS => ?_)
            have := (hrB (20 * i)).2.1
            refine lv_iconst (v := nI 2) hx hb d_Mod_look_100 (by decide +kernel) ?_
            refine gz_icmp_ne (tgt := 108) hx hb d_Mod_look_101 (by decide) (by omega) (by omega) (fun h101 => ?_) (fun h101 => ?_)
            · refine lv_iconst (v := nI 0) hx hb d_Mod_look_108 (by decide +kernel) ?_
              refine gz_iadd hx hb d_Mod_look_109 ?_
              refine lv_istore (lv' := [(4, .int (nI ((kdG (rNd r) 2 i) + 0))), (3, .int (nI ((kdG (rNd r) 0 i) + 0))), (0, .ref (g 20)), (1, .int (nI w)), (2, .int (nI (owG (rOw r) L))), (5, .int (nI i))]) hx hb d_Mod_look_110 hl (by decide) rfl (fun ls hl => ?_)
              refine lv_iinc (v := nI (i + 1)) (lv' := [(5, .int (nI (i + 1))), (4, .int (nI ((kdG (rNd r) 2 i) + 0))), (3, .int (nI ((kdG (rNd r) 0 i) + 0))), (0, .ref (g 20)), (1, .int (nI w)), (2, .int (nI (owG (rOw r) L)))]) hx hb d_Mod_look_112 hl (k := 5) rfl (nI_add i 1) (by decide) rfl (fun ls hl => ?_)
              refine lv_goto (tgt := 68) hx hb d_Mod_look_115 (by decide) ?_
              have hl : lv_has ls 6 [(5, .int (nI (i + 1))), (4, .int (nI (kdG (rNd r) 2 (i + 1)))), (3, .int (nI (kdG (rNd r) 0 (i + 1)))), (0, .ref (g 20)), (1, .int (nI w)), (2, .int (nI (owG (rOw r) L)))] := by rw [kdG, kdG, if_neg h82, if_neg h101]; exact hl
              exact ih68 (i + 1) _ _ _ (by first | omega | (dsimp only; omega)) ⟨hP, hD, hS, lv_sub hl [3, 4, 5, 2, 1, 0] rfl, (by omega)⟩
            · refine lv_iconst (v := nI 1) hx hb d_Mod_look_104 (by decide +kernel) ?_
              refine lv_goto (tgt := 109) hx hb d_Mod_look_105 (by decide) ?_
              refine gz_iadd hx hb d_Mod_look_109 ?_
              refine lv_istore (lv' := [(4, .int (nI ((kdG (rNd r) 2 i) + 1))), (3, .int (nI ((kdG (rNd r) 0 i) + 0))), (0, .ref (g 20)), (1, .int (nI w)), (2, .int (nI (owG (rOw r) L))), (5, .int (nI i))]) hx hb d_Mod_look_110 hl (by decide) rfl (fun ls hl => ?_)
              refine lv_iinc (v := nI (i + 1)) (lv' := [(5, .int (nI (i + 1))), (4, .int (nI ((kdG (rNd r) 2 i) + 1))), (3, .int (nI ((kdG (rNd r) 0 i) + 0))), (0, .ref (g 20)), (1, .int (nI w)), (2, .int (nI (owG (rOw r) L)))]) hx hb d_Mod_look_112 hl (k := 5) rfl (nI_add i 1) (by decide) rfl (fun ls hl => ?_)
              refine lv_goto (tgt := 68) hx hb d_Mod_look_115 (by decide) ?_
              have hl : lv_has ls 6 [(5, .int (nI (i + 1))), (4, .int (nI (kdG (rNd r) 2 (i + 1)))), (3, .int (nI (kdG (rNd r) 0 (i + 1)))), (0, .ref (g 20)), (1, .int (nI w)), (2, .int (nI (owG (rOw r) L)))] := by rw [kdG, kdG, if_neg h82, if_pos h101]; exact hl
              exact ih68 (i + 1) _ _ _ (by first | omega | (dsimp only; omega)) ⟨hP, hD, hS, lv_sub hl [3, 4, 5, 2, 1, 0] rfl, (by omega)⟩
          · refine lv_iconst (v := nI 1) hx hb d_Mod_look_85 (by decide +kernel) ?_
            refine lv_goto (tgt := 90) hx hb d_Mod_look_86 (by decide) ?_
            refine gz_iadd hx hb d_Mod_look_90 ?_
            refine lv_istore_n (lv' := [(3, .int (nI ((kdG (rNd r) 0 i) + 1))), (0, .ref (g 20)), (1, .int (nI w)), (2, .int (nI (owG (rOw r) L))), (4, .int (nI (kdG (rNd r) 2 i))), (5, .int (nI i))]) hx hb d_Mod_look_91 rfl hl (by decide) rfl (fun ls hl => ?_)
            refine lv_iload hx hb d_Mod_look_92 (lv_at hl 4 rfl) ?_
            refine lv_aload_n hx hb d_Mod_look_94 rfl (lv_at hl 1 rfl) ?_
            refine lv_iload hx hb d_Mod_look_95 (lv_at hl 5 rfl) ?_
            refine gz_roV (As := [.int (nI i)]) (rest := [.int (nI (kdG (rNd r) 2 i))]) (wc := (wM g k L (qTh r (nI 0)))) ⟨hx, hb, hml, hown, hTB⟩ (c_Mod_kind l D g k L hL0 hL (qTh r (nI 0)) hrB i (by omega)) (cwV 1 hTB (gd_V k_734 k_736 k_27 k_56 k_737) rfl rfl rfl (by decide +kernel) ⟨Nat.le_of_ble_eq_true rfl, Nat.le_of_ble_eq_true rfl⟩) hK hP [0, 1, 2, 3, 4, 5, 6, 7, 8, 9, 10] rfl 0 rfl rfl rfl hl.1 rfl (Nat.le_of_ble_eq_true rfl) d_Mod_look_97 ⟨Nat.zero_le _, Nat.zero_le _⟩ hS (fun H locs hP hS => ?_)
            have := (hrB (20 * i)).2.1
            refine lv_iconst (v := nI 2) hx hb d_Mod_look_100 (by decide +kernel) ?_
            refine gz_icmp_ne (tgt := 108) hx hb d_Mod_look_101 (by decide) (by omega) (by omega) (fun h101 => ?_) (fun h101 => ?_)
            · refine lv_iconst (v := nI 0) hx hb d_Mod_look_108 (by decide +kernel) ?_
              refine gz_iadd hx hb d_Mod_look_109 ?_
              refine lv_istore (lv' := [(4, .int (nI ((kdG (rNd r) 2 i) + 0))), (3, .int (nI ((kdG (rNd r) 0 i) + 1))), (0, .ref (g 20)), (1, .int (nI w)), (2, .int (nI (owG (rOw r) L))), (5, .int (nI i))]) hx hb d_Mod_look_110 hl (by decide) rfl (fun ls hl => ?_)
              refine lv_iinc (v := nI (i + 1)) (lv' := [(5, .int (nI (i + 1))), (4, .int (nI ((kdG (rNd r) 2 i) + 0))), (3, .int (nI ((kdG (rNd r) 0 i) + 1))), (0, .ref (g 20)), (1, .int (nI w)), (2, .int (nI (owG (rOw r) L)))]) hx hb d_Mod_look_112 hl (k := 5) rfl (nI_add i 1) (by decide) rfl (fun ls hl => ?_)
              refine lv_goto (tgt := 68) hx hb d_Mod_look_115 (by decide) ?_
              have hl : lv_has ls 6 [(5, .int (nI (i + 1))), (4, .int (nI (kdG (rNd r) 2 (i + 1)))), (3, .int (nI (kdG (rNd r) 0 (i + 1)))), (0, .ref (g 20)), (1, .int (nI w)), (2, .int (nI (owG (rOw r) L)))] := by rw [kdG, kdG, if_pos h82, if_neg h101]; exact hl
              exact ih68 (i + 1) _ _ _ (by first | omega | (dsimp only; omega)) ⟨hP, hD, hS, lv_sub hl [3, 4, 5, 2, 1, 0] rfl, (by omega)⟩
            · refine lv_iconst (v := nI 1) hx hb d_Mod_look_104 (by decide +kernel) ?_
              refine lv_goto (tgt := 109) hx hb d_Mod_look_105 (by decide) ?_
              refine gz_iadd hx hb d_Mod_look_109 ?_
              refine lv_istore (lv' := [(4, .int (nI ((kdG (rNd r) 2 i) + 1))), (3, .int (nI ((kdG (rNd r) 0 i) + 1))), (0, .ref (g 20)), (1, .int (nI w)), (2, .int (nI (owG (rOw r) L))), (5, .int (nI i))]) hx hb d_Mod_look_110 hl (by decide) rfl (fun ls hl => ?_)
              refine lv_iinc (v := nI (i + 1)) (lv' := [(5, .int (nI (i + 1))), (4, .int (nI ((kdG (rNd r) 2 i) + 1))), (3, .int (nI ((kdG (rNd r) 0 i) + 1))), (0, .ref (g 20)), (1, .int (nI w)), (2, .int (nI (owG (rOw r) L)))]) hx hb d_Mod_look_112 hl (k := 5) rfl (nI_add i 1) (by decide) rfl (fun ls hl => ?_)
              refine lv_goto (tgt := 68) hx hb d_Mod_look_115 (by decide) ?_
              have hl : lv_has ls 6 [(5, .int (nI (i + 1))), (4, .int (nI (kdG (rNd r) 2 (i + 1)))), (3, .int (nI (kdG (rNd r) 0 (i + 1)))), (0, .ref (g 20)), (1, .int (nI w)), (2, .int (nI (owG (rOw r) L)))] := by rw [kdG, kdG, if_pos h82, if_pos h101]; exact hl
              exact ih68 (i + 1) _ _ _ (by first | omega | (dsimp only; omega)) ⟨hP, hD, hS, lv_sub hl [3, 4, 5, 2, 1, 0] rfl, (by omega)⟩
      · refine lv_iload_n hx hb d_Mod_look_37 rfl (lv_at hl 2 rfl) ?_
        refine lv_aload_n hx hb d_Mod_look_38 rfl (lv_at hl 0 rfl) ?_
        refine va_get (D := D) (ci := 4) (v := .ref (g 23)) (C := R_Mod) (T := T_Mod) (N := 14) hx hb hTB in_Mod hown hK hP 0 rfl rfl 5 (by decide) (hTB _ k_649) (fun _ h9 => h9) rfl d_Mod_look_39 ?_
        refine lv_iload_n hx hb d_Mod_look_42 rfl (lv_at hl 3 rfl) ?_
        refine gm_ald hx hb hK hP 3 2 rfl rfl (i := b) (by omega) (by omega) d_Mod_look_43 ?_
        have := (hrB b).2.2.1
        refine gz_if_ne (tgt := 51) hx hb d_Mod_look_44 (by decide) (by omega) (fun h44 => ?_) (fun h44 => ?_)
        · refine lv_iconst (v := nI 0) hx hb d_Mod_look_51 (by decide +kernel) ?_
          refine gz_iadd hx hb d_Mod_look_52 ?_
          refine lv_istore_n (lv' := [(2, .int (nI ((owG (rOw r) b) + 0))), (0, .ref (g 20)), (1, .int (nI w)), (3, .int (nI b))]) hx hb d_Mod_look_53 rfl hl (by decide) rfl (fun ls hl => ?_)
          refine lv_iinc (v := nI (b + 1)) (lv' := [(3, .int (nI (b + 1))), (2, .int (nI ((owG (rOw r) b) + 0))), (0, .ref (g 20)), (1, .int (nI w))]) hx hb d_Mod_look_54 hl (k := 3) rfl (nI_add b 1) (by decide) rfl (fun ls hl => ?_)
          refine lv_goto (tgt := 29) hx hb d_Mod_look_57 (by decide) ?_
          have hl : lv_has ls 6 [(3, .int (nI (b + 1))), (2, .int (nI (owG (rOw r) (b + 1)))), (0, .ref (g 20)), (1, .int (nI w))] := by rw [owG, if_neg h44]; exact hl
          exact ih29 (b + 1) _ _ _ (by first | omega | (dsimp only; omega)) ⟨hP, hD, hS, lv_sub hl [2, 3, 1, 0] rfl, (by omega)⟩
        · refine lv_iconst (v := nI 1) hx hb d_Mod_look_47 (by decide +kernel) ?_
          refine lv_goto (tgt := 52) hx hb d_Mod_look_48 (by decide) ?_
          refine gz_iadd hx hb d_Mod_look_52 ?_
          refine lv_istore_n (lv' := [(2, .int (nI ((owG (rOw r) b) + 1))), (0, .ref (g 20)), (1, .int (nI w)), (3, .int (nI b))]) hx hb d_Mod_look_53 rfl hl (by decide) rfl (fun ls hl => ?_)
          refine lv_iinc (v := nI (b + 1)) (lv' := [(3, .int (nI (b + 1))), (2, .int (nI ((owG (rOw r) b) + 1))), (0, .ref (g 20)), (1, .int (nI w))]) hx hb d_Mod_look_54 hl (k := 3) rfl (nI_add b 1) (by decide) rfl (fun ls hl => ?_)
          refine lv_goto (tgt := 29) hx hb d_Mod_look_57 (by decide) ?_
          have hl : lv_has ls 6 [(3, .int (nI (b + 1))), (2, .int (nI (owG (rOw r) (b + 1)))), (0, .ref (g 20)), (1, .int (nI w))] := by rw [owG, if_pos h44]; exact hl
          exact ih29 (b + 1) _ _ _ (by first | omega | (dsimp only; omega)) ⟨hP, hD, hS, lv_sub hl [2, 3, 1, 0] rfl, (by omega)⟩
    · exact absurd h20 (by decide)
  · exact absurd h8 (by rw [inR_t (Nat.zero_le _) (show w ≤ 6 from hw0) (by decide)]; decide)
set_option maxHeartbeats 4000000 in
set_option maxRecDepth 100000 in
theorem c_Mod_look_b (l : Launch) (D : va_G) (g : Nat → Nat) (k : Nat → ClassId) (L : Nat) (hL0 : 96 ≤ L) (hL : L ≤ 768) (r : RSt) (hrB : rB r) (x : Int32) (hbad : inR x (nI 0) (nI 6) = false) : MuI l y_Mod_look w_Mod_look ({ frames := 4, cells := 0, slots := 0, locals := 92 }) [.ref (g 20), .int (x)] D cl5 (tyC k) (wM g k L r) (wM g k L (qTh r (nI 1))) (nI 0) := by
  intro sz
  refine Met.ofW (cc := b_Mod_look) (maxL := 6) (ret := (some .int)) (by decide) rfl ?_
  intro p9 e9 s m args9 below9 meth9 c9 s₁ B hml hv
  obtain ⟨rfl, hsz, hP, hK, hD0⟩ := hv
  have hx := B.exec
  have hb := B.bytes
  have hr := B.returns
  have hts := atoms_spec (ws := w_Mod_look) B.pre
  have hTB : ∀ w ∈ lw_tb, w.before _ s = true := fun w h => hts w (List.mem_cons_of_mem _ h)
  have hown : s.vm.findClass R_Mod = some m.cls := findClass_of_methodNamed B.named
  have hlocks := B.notSynchronized
  subst hsz
  have hD := hD0.self (sz := s.heap.size)
  generalize hAe : va_A (wM g k L r) s.heap.size = A at hD ⊢
  have hA : ∀ q : Nat, s.heap.size ≤ q → A q := fun q h => by rw [← hAe]; exact Or.inr h
  have hS : va_S A s.heap s.heap [] := va_S.rf
  have hl := lv_entry ([.ref (g 20), .int (x)]) (n := 6) (Nat.le_of_ble_eq_true rfl)
  rw [lg_entry_eq]
  generalize (lg_sl ([.ref (g 20), .int (x)]) ++ List.replicate (6 - (lg_sl ([.ref (g 20), .int (x)])).length) Slot.unset).toArray = ls at hl ⊢
  have hl : lv_has ls 6 [(0, .ref (g 20)), (1, .int (x))] := hl
  refine lv_aload_n hx hb d_Mod_look_0 rfl (lv_at hl 0 rfl) ?_
  refine lv_iload_n hx hb d_Mod_look_1 rfl (lv_at hl 1 rfl) ?_
  refine lv_iconst (v := nI 0) hx hb d_Mod_look_2 (by decide +kernel) ?_
  refine lv_bipush (v := nI 6) hx hb d_Mod_look_3 (by decide +kernel) ?_
  refine gz_roS (As := [.int (x), .int (nI 0), .int (nI 6)]) (rest := [.ref (g 20)]) ⟨hx, hb, hml, hown, hTB⟩ (c_Mod_in l x (nI 0) (nI 6)) (cwS 3 hTB (gd_S k_695 k_696 k_56 k_697) rfl rfl rfl (by decide +kernel) ⟨Nat.le_of_ble_eq_true rfl, Nat.le_of_ble_eq_true rfl⟩) hP rfl hl.1 rfl (Nat.le_of_ble_eq_true rfl) d_Mod_look_5 ⟨Nat.zero_le _, Nat.zero_le _⟩ hS (fun H locs hP hS => ?_)
  refine gz_ifz_ne (tgt := 15) hx hb d_Mod_look_8 (by decide) (fun h8 => ?_) (fun h8 => ?_)
  · exact absurd (h8.symm.trans hbad) (by decide)
  · refine lv_iconst (v := nI 1) hx hb d_Mod_look_11 (by decide +kernel) ?_
    refine lv_goto (tgt := 16) hx hb d_Mod_look_12 (by decide) ?_
    refine lv_iconst (v := nI 1) hx hb d_Mod_look_16 (by decide +kernel) ?_
    refine gz_muI (As := [.int (nI 1), .int (nI 1)]) (rest := []) (wc := (wM g k L r)) (w1 := (wM g k L (qTh r (nI 1)))) (wr := []) ⟨hx, hb, hml, hown, hTB⟩ (c_Mod_fails l D g k L hL0 hL r hrB true (nI 1)) (cwV 2 hTB (gd_V k_698 k_700 k_21 k_56 k_701) rfl rfl rfl (by decide +kernel) ⟨Nat.le_of_ble_eq_true rfl, Nat.le_of_ble_eq_true rfl⟩) hK hP hD hA [0, 1, 2, 3, 4, 5, 6, 7, 8, 9, 10] [] rfl rfl (by decide) rfl (by decide) (by decide) 0 rfl rfl rfl hl.1 rfl (Nat.le_of_ble_eq_true rfl) d_Mod_look_17 ⟨Nat.zero_le _, Nat.zero_le _⟩ hS (fun H locs hP hD hS => ?_)
    have hP : va_P D cl5 (wM g k L (qTh r (nI 1))) H := hP
    have hD : va_D A (wM g k L (qTh r (nI 1))) := hD
    have hrB : rB (qTh r (nI 1)) := fun q => hrB q
    refine gz_ifz_eq (tgt := 25) hx hb d_Mod_look_20 (by decide) (fun h20 => ?_) (fun h20 => ?_)
    · exact absurd h20 (by decide)
    · refine lv_iconst (v := nI 0) hx hb d_Mod_look_23 (by decide +kernel) ?_
      have hP9 : va_P D cl5 (wM g k L (qTh r (nI 1))) H := hP
      have hD9 : va_D A (wM g k L (qTh r (nI 1))) := hD
      exact W.iret (v := nI 0) hx hb hr (fun tt9 ht9 hW9 => ⟨⟨_, (), rfl, rfl, ⟨by rw [ht9]; exact hP9, hD9⟩⟩, hS.F ht9⟩) hS.2.2 d_Mod_look_24
