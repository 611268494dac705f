theorem d_Mod_make_0 : decode b_Mod_make 0 = .ok (.aload_n 0, 1) := by decide +kernel
theorem d_Mod_make_1 : decode b_Mod_make 1 = .ok (.iload_n 1, 1) := by decide +kernel
theorem d_Mod_make_2 : decode b_Mod_make 2 = .ok (.invokestatic 180, 3) := by decide +kernel
theorem d_Mod_make_5 : decode b_Mod_make 5 = .ok (.ifCond .ne 10, 3) := by decide +kernel
theorem d_Mod_make_8 : decode b_Mod_make 8 = .ok (.iload_n 2, 1) := by decide +kernel
theorem d_Mod_make_9 : decode b_Mod_make 9 = .ok (.invokestatic 183, 3) := by decide +kernel
theorem d_Mod_make_12 : decode b_Mod_make 12 = .ok (.ifCond .eq 7, 3) := by decide +kernel
theorem d_Mod_make_15 : decode b_Mod_make 15 = .ok (.iconst 1, 1) := by decide +kernel
theorem d_Mod_make_16 : decode b_Mod_make 16 = .ok (.goto 4, 3) := by decide +kernel
theorem d_Mod_make_19 : decode b_Mod_make 19 = .ok (.iconst 0, 1) := by decide +kernel
theorem d_Mod_make_20 : decode b_Mod_make 20 = .ok (.iconst 1, 1) := by decide +kernel
theorem d_Mod_make_21 : decode b_Mod_make 21 = .ok (.invokevirtual 170, 3) := by decide +kernel
theorem d_Mod_make_24 : decode b_Mod_make 24 = .ok (.ifCond .eq 7, 3) := by decide +kernel
theorem d_Mod_make_27 : decode b_Mod_make 27 = .ok (.iconst 0, 1) := by decide +kernel
theorem d_Mod_make_28 : decode b_Mod_make 28 = .ok (.goto 20, 3) := by decide +kernel
theorem d_Mod_make_31 : decode b_Mod_make 31 = .ok (.aload_n 0, 1) := by decide +kernel
theorem d_Mod_make_32 : decode b_Mod_make 32 = .ok (.iconst 0, 1) := by decide +kernel
theorem d_Mod_make_33 : decode b_Mod_make 33 = .ok (.iload_n 1, 1) := by decide +kernel
theorem d_Mod_make_34 : decode b_Mod_make 34 = .ok (.iload_n 2, 1) := by decide +kernel
theorem d_Mod_make_35 : decode b_Mod_make 35 = .ok (.iload_n 3, 1) := by decide +kernel
theorem d_Mod_make_36 : decode b_Mod_make 36 = .ok (.ifCond .eq 7, 3) := by decide +kernel
theorem d_Mod_make_39 : decode b_Mod_make 39 = .ok (.iconst 1, 1) := by decide +kernel
theorem d_Mod_make_40 : decode b_Mod_make 40 = .ok (.goto 4, 3) := by decide +kernel
theorem d_Mod_make_43 : decode b_Mod_make 43 = .ok (.iconst 0, 1) := by decide +kernel
theorem d_Mod_make_44 : decode b_Mod_make 44 = .ok (.iconst 0, 1) := by decide +kernel
theorem d_Mod_make_45 : decode b_Mod_make 45 = .ok (.invokevirtual 186, 3) := by decide +kernel
theorem d_Mod_make_48 : decode b_Mod_make 48 = .ok (.ireturn, 1) := by decide +kernel
set_option maxHeartbeats 4000000 in
set_option maxRecDepth 100000 in
theorem c_Mod_make (l : Launch) (D : va_G) (g : Nat → Nat) (k : Nat → ClassId) (L : Nat) (hL0 : 96 ≤ L) (hL : L ≤ 768) (r : RSt) (hrB : rB r) (d w : Nat) (b : Bool) (hd0 : d < 64) (hw1 : 1 ≤ w) (hw2 : w ≤ 65535) (hq : dsP L (opMk L d w (if b then 1 else 0)) (pMk L d) (qTh r (nI 0))) : MuI l y_Mod_make w_Mod_make ({ frames := 8, cells := 0, slots := 0, locals := 196 }) [.ref (g 20), .int (nI d), .int (nI w), .int (zI (b))] D cl5 (tyC k) (wM g k L r) (wM g k L ((dsR L (opMk L d w (if b then 1 else 0)) (qTh r (nI 0))).2)) ((dsR L (opMk L d w (if b then 1 else 0)) (qTh r (nI 0))).1) := by
  intro sz
  refine Met.ofW (cc := b_Mod_make) (maxL := 4) (ret := (some .int)) (by decide) rfl ?_
  intro p9 e9 s m args9 below9 meth9 c9 s₁ B hml hv
  obtain ⟨rfl, hsz, hP, hK, hD0⟩ := hv
  have hx := B.exec
  have hb := B.bytes
  have hr := B.returns
  have hts := atoms_spec (ws := w_Mod_make) B.pre
  have hTB : ∀ w ∈ lw_tb, w.before _ s = true := fun w h => hts w (List.mem_cons_of_mem _ h)
  have hown : s.vm.findClass R_Mod = some m.cls := findClass_of_methodNamed B.named
  have hlocks := B.notSynchronized
  subst hsz
  have hD := hD0.self (sz := s.heap.size)
  generalize hAe : va_A (wM g k L r) s.heap.size = A at hD ⊢
  have hA : ∀ q : Nat, s.heap.size ≤ q → A q := fun q h => by rw [← hAe]; exact Or.inr h
  have hS : va_S A s.heap s.heap [] := va_S.rf
  have hl := lv_entry ([.ref (g 20), .int (nI d), .int (nI w), .int (zI (b))]) (n := 4) (Nat.le_of_ble_eq_true rfl)
  rw [lg_entry_eq]
  generalize (lg_sl ([.ref (g 20), .int (nI d), .int (nI w), .int (zI (b))]) ++ List.replicate (4 - (lg_sl ([.ref (g 20), .int (nI d), .int (nI w), .int (zI (b))])).length) Slot.unset).toArray = ls at hl ⊢
  have hl : lv_has ls 4 [(0, .ref (g 20)), (1, .int (nI d)), (2, .int (nI w)), (3, .int (zI (b)))] := hl
  refine lv_aload_n hx hb d_Mod_make_0 rfl (lv_at hl 0 rfl) ?_
  refine lv_iload_n hx hb d_Mod_make_1 rfl (lv_at hl 1 rfl) ?_
  refine gz_roS (As := [.int (nI d)]) (rest := [.ref (g 20)]) ⟨hx, hb, hml, hown, hTB⟩ (c_Mod_isBad l (nI d)) (cwS 1 hTB (gd_S k_707 k_708 k_56 k_709) rfl rfl rfl (by decide +kernel) ⟨Nat.le_of_ble_eq_true rfl, Nat.le_of_ble_eq_true rfl⟩) hP rfl hl.1 rfl (Nat.le_of_ble_eq_true rfl) d_Mod_make_2 ⟨Nat.zero_le _, Nat.zero_le _⟩ hS (fun H locs hP hS => ?_)
  refine gz_ifz_ne (tgt := 15) hx hb d_Mod_make_5 (by decide) (fun h5 => ?_) (fun h5 => ?_)
  · exact absurd h5 (by rw [inB_f (Nat.zero_le _) (by omega) (by decide)]; decide)
  · refine lv_iload_n hx hb d_Mod_make_8 rfl (lv_at hl 2 rfl) ?_
    refine gz_roS (As := [.int (nI w)]) (rest := [.ref (g 20)]) ⟨hx, hb, hml, hown, hTB⟩ (c_Mod_isBadName l (nI w)) (cwS 1 hTB (gd_S k_710 k_711 k_56 k_712) rfl rfl rfl (by decide +kernel) ⟨Nat.le_of_ble_eq_true rfl, Nat.le_of_ble_eq_true rfl⟩) hP rfl hl.1 rfl (Nat.le_of_ble_eq_true rfl) d_Mod_make_9 ⟨Nat.zero_le _, Nat.zero_le _⟩ hS (fun H locs hP hS => ?_)
    refine gz_ifz_eq (tgt := 19) hx hb d_Mod_make_12 (by decide) (fun h12 => ?_) (fun h12 => ?_)
    · refine lv_iconst (v := nI 0) hx hb d_Mod_make_19 (by decide +kernel) ?_
      refine lv_iconst (v := nI 1) hx hb d_Mod_make_20 (by decide +kernel) ?_
      refine gz_muI (As := [.int (nI 0), .int (nI 1)]) (rest := []) (wc := (wM g k L r)) (w1 := (wM g k L (qTh r (nI 0)))) (wr := []) ⟨hx, hb, hml, hown, hTB⟩ (c_Mod_fails l D g k L hL0 hL r hrB false (nI 1)) (cwV 2 hTB (gd_V k_698 k_700 k_21 k_56 k_701) rfl rfl rfl (by decide +kernel) ⟨Nat.le_of_ble_eq_true rfl, Nat.le_of_ble_eq_true rfl⟩) hK hP hD hA [0, 1, 2, 3, 4, 5, 6, 7, 8, 9, 10] [] rfl rfl (by decide) rfl (by decide) (by decide) 0 rfl rfl rfl hl.1 rfl (Nat.le_of_ble_eq_true rfl) d_Mod_make_21 ⟨Nat.zero_le _, Nat.zero_le _⟩ hS (fun H locs hP hD hS => ?_)
      have hP : va_P D cl5 (wM g k L (qTh r (nI 0))) H := hP
      have hD : va_D A (wM g k L (qTh r (nI 0))) := hD
      have hrB : rB (qTh r (nI 0)) := fun q => hrB q
      refine gz_ifz_eq (tgt := 31) hx hb d_Mod_make_24 (by decide) (fun h24 => ?_) (fun h24 => ?_)
      · refine lv_aload_n hx hb d_Mod_make_31 rfl (lv_at hl 0 rfl) ?_
        refine lv_iconst (v := nI 0) hx hb d_Mod_make_32 (by decide +kernel) ?_
        refine lv_iload_n hx hb d_Mod_make_33 rfl (lv_at hl 1 rfl) ?_
        refine lv_iload_n hx hb d_Mod_make_34 rfl (lv_at hl 2 rfl) ?_
        refine lv_iload_n hx hb d_Mod_make_35 rfl (lv_at hl 3 rfl) ?_
        refine gz_ifz_eq (tgt := 43) hx hb d_Mod_make_36 (by decide) (fun h36 => ?_) (fun h36 => ?_)
        · refine lv_iconst (v := nI 0) hx hb d_Mod_make_43 (by decide +kernel) ?_
          refine lv_iconst (v := nI 0) hx hb d_Mod_make_44 (by decide +kernel) ?_
          rw [h36] at hq
          refine gz_muI (As := [.int (nI 0), .int (nI d), .int (nI w), .int (nI 0), .int (nI 0)]) (rest := []) (wc := (wM g k L (qTh r (nI 0)))) (w1 := (wM g k L ((dsR L (opMk L d w 0) (qTh r (nI 0))).2))) (wr := []) ⟨hx, hb, hml, hown, hTB⟩ (c_Mod_does_make l D g k L hL0 hL (qTh r (nI 0)) hrB d w 0 (nI 0) (by omega) (by omega) (by omega) hq) (cwV 5 hTB (gd_V k_714 k_716 k_22 k_56 k_717) rfl rfl rfl (by decide +kernel) ⟨Nat.le_of_ble_eq_true rfl, Nat.le_of_ble_eq_true rfl⟩) hK hP hD hA [0, 1, 2, 3, 4, 5, 6, 7, 8, 9, 10] [] rfl rfl (by decide) rfl (by decide) (by decide) 0 rfl rfl rfl hl.1 rfl (Nat.le_of_ble_eq_true rfl) d_Mod_make_45 ⟨Nat.zero_le _, Nat.zero_le _⟩ hS (fun H locs hP hD hS => ?_)
          have hP : va_P D cl5 (wM g k L ((dsR L (opMk L d w 0) (qTh r (nI 0))).2)) H := hP
          have hD : va_D A (wM g k L ((dsR L (opMk L d w 0) (qTh r (nI 0))).2)) := hD
          have hP9 : va_P D cl5 (wM g k L ((dsR L (opMk L d w (if b then 1 else 0)) (qTh r (nI 0))).2)) H := (by rw [h36]; exact hP)
          have hD9 : va_D A (wM g k L ((dsR L (opMk L d w (if b then 1 else 0)) (qTh r (nI 0))).2)) := (by rw [h36]; exact hD)
          exact W.iret (v := (dsR L (opMk L d w 0) (qTh r (nI 0))).1) hx hb hr (fun tt9 ht9 hW9 => ⟨⟨_, (), rfl, (by rw [h36]; rfl), ⟨by rw [ht9]; exact hP9, hD9⟩⟩, hS.F ht9⟩) hS.2.2 d_Mod_make_48
        · refine lv_iconst (v := nI 1) hx hb d_Mod_make_39 (by decide +kernel) ?_
          refine lv_goto (tgt := 44) hx hb d_Mod_make_40 (by decide) ?_
          refine lv_iconst (v := nI 0) hx hb d_Mod_make_44 (by decide +kernel) ?_
          rw [h36] at hq
          refine gz_muI (As := [.int (nI 0), .int (nI d), .int (nI w), .int (nI 1), .int (nI 0)]) (rest := []) (wc := (wM g k L (qTh r (nI 0)))) (w1 := (wM g k L ((dsR L (opMk L d w 1) (qTh r (nI 0))).2))) (wr := []) ⟨hx, hb, hml, hown, hTB⟩ (c_Mod_does_make l D g k L hL0 hL (qTh r (nI 0)) hrB d w 1 (nI 0) (by omega) (by omega) (by omega) hq) (cwV 5 hTB (gd_V k_714 k_716 k_22 k_56 k_717) rfl rfl rfl (by decide +kernel) ⟨Nat.le_of_ble_eq_true rfl, Nat.le_of_ble_eq_true rfl⟩) hK hP hD hA [0, 1, 2, 3, 4, 5, 6, 7, 8, 9, 10] [] rfl rfl (by decide) rfl (by decide) (by decide) 0 rfl rfl rfl hl.1 rfl (Nat.le_of_ble_eq_true rfl) d_Mod_make_45 ⟨Nat.zero_le _, Nat.zero_le _⟩ hS (fun H locs hP hD hS => ?_)
          have hP : va_P D cl5 (wM g k L ((dsR L (opMk L d w 1) (qTh r (nI 0))).2)) H := hP
          have hD : va_D A (wM g k L ((dsR L (opMk L d w 1) (qTh r (nI 0))).2)) := hD
          have hP9 : va_P D cl5 (wM g k L ((dsR L (opMk L d w (if b then 1 else 0)) (qTh r (nI 0))).2)) H := (by rw [h36]; exact hP)
          have hD9 : va_D A (wM g k L ((dsR L (opMk L d w (if b then 1 else 0)) (qTh r (nI 0))).2)) := (by rw [h36]; exact hD)
          exact W.iret (v := (dsR L (opMk L d w 1) (qTh r (nI 0))).1) hx hb hr (fun tt9 ht9 hW9 => ⟨⟨_, (), rfl, (by rw [h36]; rfl), ⟨by rw [ht9]; exact hP9, hD9⟩⟩, hS.F ht9⟩) hS.2.2 d_Mod_make_48
      · exact absurd h24 (by decide)
    · exact absurd h12 (by rw [inB_f (by omega) (by omega) (by decide)]; decide)
set_option maxHeartbeats 4000000 in
set_option maxRecDepth 100000 in
theorem c_Mod_make_b (l : Launch) (D : va_G) (g : Nat → Nat) (k : Nat → ClassId) (L : Nat) (hL0 : 96 ≤ L) (hL : L ≤ 768) (r : RSt) (hrB : rB r) (x y : Int32) (b : Bool) (hbad : (!inR x (nI 0) (nI 63) || !inR y (nI 1) (nI 65535)) = true) : MuI l y_Mod_make w_Mod_make ({ frames := 8, cells := 0, slots := 0, locals := 196 }) [.ref (g 20), .int (x), .int (y), .int (zI (b))] D cl5 (tyC k) (wM g k L r) (wM g k L (qTh r (nI 1))) (nI 0) := by
  intro sz
  refine Met.ofW (cc := b_Mod_make) (maxL := 4) (ret := (some .int)) (by decide) rfl ?_
  intro p9 e9 s m args9 below9 meth9 c9 s₁ B hml hv
  obtain ⟨rfl, hsz, hP, hK, hD0⟩ := hv
  have hx := B.exec
  have hb := B.bytes
  have hr := B.returns
  have hts := atoms_spec (ws := w_Mod_make) B.pre
  have hTB : ∀ w ∈ lw_tb, w.before _ s = true := fun w h => hts w (List.mem_cons_of_mem _ h)
  have hown : s.vm.findClass R_Mod = some m.cls := findClass_of_methodNamed B.named
  have hlocks := B.notSynchronized
  subst hsz
  have hD := hD0.self (sz := s.heap.size)
  generalize hAe : va_A (wM g k L r) s.heap.size = A at hD ⊢
  have hA : ∀ q : Nat, s.heap.size ≤ q → A q := fun q h => by rw [← hAe]; exact Or.inr h
  have hS : va_S A s.heap s.heap [] := va_S.rf
  have hl := lv_entry ([.ref (g 20), .int (x), .int (y), .int (zI (b))]) (n := 4) (Nat.le_of_ble_eq_true rfl)
  rw [lg_entry_eq]
  generalize (lg_sl ([.ref (g 20), .int (x), .int (y), .int (zI (b))]) ++ List.replicate (4 - (lg_sl ([.ref (g 20), .int (x), .int (y), .int (zI (b))])).length) Slot.unset).toArray = ls at hl ⊢
  have hl : lv_has ls 4 [(0, .ref (g 20)), (1, .int (x)), (2, .int (y)), (3, .int (zI (b)))] := hl
  refine lv_aload_n hx hb d_Mod_make_0 rfl (lv_at hl 0 rfl) ?_
  refine lv_iload_n hx hb d_Mod_make_1 rfl (lv_at hl 1 rfl) ?_
  refine gz_roS (As := [.int (x)]) (rest := [.ref (g 20)]) ⟨hx, hb, hml, hown, hTB⟩ (c_Mod_isBad l x) (cwS 1 hTB (gd_S k_707 k_708 k_56 k_709) rfl rfl rfl (by decide +kernel) ⟨Nat.le_of_ble_eq_true rfl, Nat.le_of_ble_eq_true rfl⟩) hP rfl hl.1 rfl (Nat.le_of_ble_eq_true rfl) d_Mod_make_2 ⟨Nat.zero_le _, Nat.zero_le _⟩ hS (fun H locs hP hS => ?_)
  refine gz_ifz_ne (tgt := 15) hx hb d_Mod_make_5 (by decide) (fun h5 => ?_) (fun h5 => ?_)
  · refine lv_iconst (v := nI 1) hx hb d_Mod_make_15 (by decide +kernel) ?_
    refine lv_goto (tgt := 20) hx hb d_Mod_make_16 (by decide) ?_
    refine lv_iconst (v := nI 1) hx hb d_Mod_make_20 (by decide +kernel) ?_
    refine gz_muI (As := [.int (nI 1), .int (nI 1)]) (rest := []) (wc := (wM g k L r)) (w1 := (wM g k L (qTh r (nI 1)))) (wr := []) ⟨hx, hb, hml, hown, hTB⟩ (c_Mod_fails l D g k L hL0 hL r hrB true (nI 1)) (cwV 2 hTB (gd_V k_698 k_700 k_21 k_56 k_701) rfl rfl rfl (by decide +kernel) ⟨Nat.le_of_ble_eq_true rfl, Nat.le_of_ble_eq_true rfl⟩) hK hP hD hA [0, 1, 2, 3, 4, 5, 6, 7, 8, 9, 10] [] rfl rfl (by decide) rfl (by decide) (by decide) 0 rfl rfl rfl hl.1 rfl (Nat.le_of_ble_eq_true rfl) d_Mod_make_21 ⟨Nat.zero_le _, Nat.zero_le _⟩ hS (fun H locs hP hD hS => ?_)
    have hP : va_P D cl5 (wM g k L (qTh r (nI 1))) H := hP
    have hD : va_D A (wM g k L (qTh r (nI 1))) := hD
    have hrB : rB (qTh r (nI 1)) := fun q => hrB q
    refine gz_ifz_eq (tgt := 31) hx hb d_Mod_make_24 (by decide) (fun h24 => ?_) (fun h24 => ?_)
    · exact absurd h24 (by decide)
    · refine lv_iconst (v := nI 0) hx hb d_Mod_make_27 (by decide +kernel) ?_
      refine lv_goto (tgt := 48) hx hb d_Mod_make_28 (by decide) ?_
      have hP9 : va_P D cl5 (wM g k L (qTh r (nI 1))) H := hP
      have hD9 : va_D A (wM g k L (qTh r (nI 1))) := hD
      exact W.iret (v := nI 0) hx hb hr (fun tt9 ht9 hW9 => ⟨⟨_, (), rfl, rfl, ⟨by rw [ht9]; exact hP9, hD9⟩⟩, hS.F ht9⟩) hS.2.2 d_Mod_make_48
  · refine lv_iload_n hx hb d_Mod_make_8 rfl (lv_at hl 2 rfl) ?_
    refine gz_roS (As := [.int (y)]) (rest := [.ref (g 20)]) ⟨hx, hb, hml, hown, hTB⟩ (c_Mod_isBadName l y) (cwS 1 hTB (gd_S k_710 k_711 k_56 k_712) rfl rfl rfl (by decide +kernel) ⟨Nat.le_of_ble_eq_true rfl, Nat.le_of_ble_eq_true rfl⟩) hP rfl hl.1 rfl (Nat.le_of_ble_eq_true rfl) d_Mod_make_9 ⟨Nat.zero_le _, Nat.zero_le _⟩ hS (fun H locs hP hS => ?_)
    refine gz_ifz_eq (tgt := 19) hx hb d_Mod_make_12 (by decide) (fun h12 => ?_) (fun h12 => ?_)
    · exact absurd hbad (by rw [h5, h12]; decide)
    · refine lv_iconst (v := nI 1) hx hb d_Mod_make_15 (by decide +kernel) ?_
      refine lv_goto (tgt := 20) hx hb d_Mod_make_16 (by decide) ?_
      refine lv_iconst (v := nI 1) hx hb d_Mod_make_20 (by decide +kernel) ?_
      refine gz_muI (As := [.int (nI 1), .int (nI 1)]) (rest := []) (wc := (wM g k L r)) (w1 := (wM g k L (qTh r (nI 1)))) (wr := []) ⟨hx, hb, hml, hown, hTB⟩ (c_Mod_fails l D g k L hL0 hL r hrB true (nI 1)) (cwV 2 hTB (gd_V k_698 k_700 k_21 k_56 k_701) rfl rfl rfl (by decide +kernel) ⟨Nat.le_of_ble_eq_true rfl, Nat.le_of_ble_eq_true rfl⟩) hK hP hD hA [0, 1, 2, 3, 4, 5, 6, 7, 8, 9, 10] [] rfl rfl (by decide) rfl (by decide) (by decide) 0 rfl rfl rfl hl.1 rfl (Nat.le_of_ble_eq_true rfl) d_Mod_make_21 ⟨Nat.zero_le _, Nat.zero_le _⟩ hS (fun H locs hP hD hS => ?_)
      have hP : va_P D cl5 (wM g k L (qTh r (nI 1))) H := hP
      have hD : va_D A (wM g k L (qTh r (nI 1))) := hD
      have hrB : rB (qTh r (nI 1)) := fun q => hrB q
      refine gz_ifz_eq (tgt := 31) hx hb d_Mod_make_24 (by decide) (fun h24 => ?_) (fun h24 => ?_)
      · exact absurd h24 (by decide)
      · refine lv_iconst (v := nI 0) hx hb d_Mod_make_27 (by decide +kernel) ?_
        refine lv_goto (tgt := 48) hx hb d_Mod_make_28 (by decide) ?_
        have hP9 : va_P D cl5 (wM g k L (qTh r (nI 1))) H := hP
        have hD9 : va_D A (wM g k L (qTh r (nI 1))) := hD
        exact W.iret (v := nI 0) hx hb hr (fun tt9 ht9 hW9 => ⟨⟨_, (), rfl, rfl, ⟨by rw [ht9]; exact hP9, hD9⟩⟩, hS.F ht9⟩) hS.2.2 d_Mod_make_48
theorem d_Mod_remove_0 : decode b_Mod_remove 0 = .ok (.aload_n 0, 1) := by decide +kernel
theorem d_Mod_remove_1 : decode b_Mod_remove 1 = .ok (.iload_n 1, 1) := by decide +kernel
theorem d_Mod_remove_2 : decode b_Mod_remove 2 = .ok (.invokestatic 180, 3) := by decide +kernel
theorem d_Mod_remove_5 : decode b_Mod_remove 5 = .ok (.ifCond .ne 10, 3) := by decide +kernel
theorem d_Mod_remove_8 : decode b_Mod_remove 8 = .ok (.iload_n 2, 1) := by decide +kernel
theorem d_Mod_remove_9 : decode b_Mod_remove 9 = .ok (.invokestatic 183, 3) := by decide +kernel
theorem d_Mod_remove_12 : decode b_Mod_remove 12 = .ok (.ifCond .eq 7, 3) := by decide +kernel
theorem d_Mod_remove_15 : decode b_Mod_remove 15 = .ok (.iconst 1, 1) := by decide +kernel
theorem d_Mod_remove_16 : decode b_Mod_remove 16 = .ok (.goto 4, 3) := by decide +kernel
theorem d_Mod_remove_19 : decode b_Mod_remove 19 = .ok (.iconst 0, 1) := by decide +kernel
theorem d_Mod_remove_20 : decode b_Mod_remove 20 = .ok (.iconst 1, 1) := by decide +kernel
theorem d_Mod_remove_21 : decode b_Mod_remove 21 = .ok (.invokevirtual 170, 3) := by decide +kernel
theorem d_Mod_remove_24 : decode b_Mod_remove 24 = .ok (.ifCond .eq 7, 3) := by decide +kernel
theorem d_Mod_remove_27 : decode b_Mod_remove 27 = .ok (.iconst 0, 1) := by decide +kernel
theorem d_Mod_remove_28 : decode b_Mod_remove 28 = .ok (.goto 12, 3) := by decide +kernel
theorem d_Mod_remove_31 : decode b_Mod_remove 31 = .ok (.aload_n 0, 1) := by decide +kernel
theorem d_Mod_remove_32 : decode b_Mod_remove 32 = .ok (.iconst 4, 1) := by decide +kernel
theorem d_Mod_remove_33 : decode b_Mod_remove 33 = .ok (.iload_n 1, 1) := by decide +kernel
theorem d_Mod_remove_34 : decode b_Mod_remove 34 = .ok (.iload_n 2, 1) := by decide +kernel
theorem d_Mod_remove_35 : decode b_Mod_remove 35 = .ok (.iconst 0, 1) := by decide +kernel
theorem d_Mod_remove_36 : decode b_Mod_remove 36 = .ok (.iconst 0, 1) := by decide +kernel
theorem d_Mod_remove_37 : decode b_Mod_remove 37 = .ok (.invokevirtual 186, 3) := by decide +kernel
theorem d_Mod_remove_40 : decode b_Mod_remove 40 = .ok (.ireturn, 1) := by decide +kernel
set_option maxHeartbeats 4000000 in
set_option maxRecDepth 100000 in
theorem c_Mod_remove (l : Launch) (D : va_G) (g : Nat → Nat) (k : Nat → ClassId) (L : Nat) (hL0 : 96 ≤ L) (hL : L ≤ 768) (r : RSt) (hrB : rB r) (d w : Nat) (hd0 : d < 64) (hw1 : 1 ≤ w) (hw2 : w ≤ 65535) (hq : dsP L (opRm d w) (pRm L d w) (qTh r (nI 0))) : MuI l y_Mod_remove w_Mod_remove ({ frames := 8, cells := 0, slots := 0, locals := 196 }) [.ref (g 20), .int (nI d), .int (nI w)] D cl5 (tyC k) (wM g k L r) (wM g k L ((dsR L (opRm d w) (qTh r (nI 0))).2)) ((dsR L (opRm d w) (qTh r (nI 0))).1) := by
  intro sz
  refine Met.ofW (cc := b_Mod_remove) (maxL := 3) (ret := (some .int)) (by decide) rfl ?_
  intro p9 e9 s m args9 below9 meth9 c9 s₁ B hml hv
  obtain ⟨rfl, hsz, hP, hK, hD0⟩ := hv
  have hx := B.exec
  have hb := B.bytes
  have hr := B.returns
  have hts := atoms_spec (ws := w_Mod_remove) B.pre
  have hTB : ∀ w ∈ lw_tb, w.before _ s = true := fun w h => hts w (List.mem_cons_of_mem _ h)
  have hown : s.vm.findClass R_Mod = some m.cls := findClass_of_methodNamed B.named
  have hlocks := B.notSynchronized
  subst hsz
  have hD := hD0.self (sz := s.heap.size)
  generalize hAe : va_A (wM g k L r) s.heap.size = A at hD ⊢
  have hA : ∀ q : Nat, s.heap.size ≤ q → A q := fun q h => by rw [← hAe]; exact Or.inr h
  have hS : va_S A s.heap s.heap [] := va_S.rf
  have hl := lv_entry ([.ref (g 20), .int (nI d), .int (nI w)]) (n := 3) (Nat.le_of_ble_eq_true rfl)
  rw [lg_entry_eq]
  generalize (lg_sl ([.ref (g 20), .int (nI d), .int (nI w)]) ++ List.replicate (3 - (lg_sl ([.ref (g 20), .int (nI d), .int (nI w)])).length) Slot.unset).toArray = ls at hl ⊢
  have hl : lv_has ls 3 [(0, .ref (g 20)), (1, .int (nI d)), (2, .int (nI w))] := hl
  refine lv_aload_n hx hb d_Mod_remove_0 rfl (lv_at hl 0 rfl) ?_
  refine lv_iload_n hx hb d_Mod_remove_1 rfl (lv_at hl 1 rfl) ?_
  refine gz_roS (As := [.int (nI d)]) (rest := [.ref (g 20)]) ⟨hx, hb, hml, hown, hTB⟩ (c_Mod_isBad l (nI d)) (cwS 1 hTB (gd_S k_707 k_708 k_56 k_709) rfl rfl rfl (by decide +kernel) ⟨Nat.le_of_ble_eq_true rfl, Nat.le_of_ble_eq_true rfl⟩) hP rfl hl.1 rfl (Nat.le_of_ble_eq_true rfl) d_Mod_remove_2 ⟨Nat.zero_le _, Nat.zero_le _⟩ hS (fun H locs hP hS => ?_)
  refine gz_ifz_ne (tgt := 15) hx hb d_Mod_remove_5 (by decide) (fun h5 => ?_) (fun h5 => ?_)
  · exact absurd h5 (by rw [inB_f (Nat.zero_le _) (by omega) (by decide)]; decide)
  · refine lv_iload_n hx hb d_Mod_remove_8 rfl (lv_at hl 2 rfl) ?_
    refine gz_roS (As := [.int (nI w)]) (rest := [.ref (g 20)]) ⟨hx, hb, hml, hown, hTB⟩ (c_Mod_isBadName l (nI w)) (cwS 1 hTB (gd_S k_710 k_711 k_56 k_712) rfl rfl rfl (by decide +kernel) ⟨Nat.le_of_ble_eq_true rfl, Nat.le_of_ble_eq_true rfl⟩) hP rfl hl.1 rfl (Nat.le_of_ble_eq_true rfl) d_Mod_remove_9 ⟨Nat.zero_le _, Nat.zero_le _⟩ hS (fun H locs hP hS => ?_)
    refine gz_ifz_eq (tgt := 19) hx hb d_Mod_remove_12 (by decide) (fun h12 => ?_) (fun h12 => ?_)
    · refine lv_iconst (v := nI 0) hx hb d_Mod_remove_19 (by decide +kernel) ?_
      refine lv_iconst (v := nI 1) hx hb d_Mod_remove_20 (by decide +kernel) ?_
      refine gz_muI (As := [.int (nI 0), .int (nI 1)]) (rest := []) (wc := (wM g k L r)) (w1 := (wM g k L (qTh r (nI 0)))) (wr := []) ⟨hx, hb, hml, hown, hTB⟩ (c_Mod_fails l D g k L hL0 hL r hrB false (nI 1)) (cwV 2 hTB (gd_V k_698 k_700 k_21 k_56 k_701) rfl rfl rfl (by decide +kernel) ⟨Nat.le_of_ble_eq_true rfl, Nat.le_of_ble_eq_true rfl⟩) hK hP hD hA [0, 1, 2, 3, 4, 5, 6, 7, 8, 9, 10] [] rfl rfl (by decide) rfl (by decide) (by decide) 0 rfl rfl rfl hl.1 rfl (Nat.le_of_ble_eq_true rfl) d_Mod_remove_21 ⟨Nat.zero_le _, Nat.zero_le _⟩ hS (fun H locs hP hD hS => ?_)
      have hP : va_P D cl5 (wM g k L (qTh r (nI 0))) H := hP
      have hD : va_D A (wM g k L (qTh r (nI 0))) := hD
      have hrB : rB (qTh r (nI 0)) := fun q => hrB q
      refine gz_ifz_eq (tgt := 31) hx hb d_Mod_remove_24 (by decide) (fun h24 => ?_) (fun h24 => ?_)
      · refine lv_aload_n hx hb d_Mod_remove_31 rfl (lv_at hl 0 rfl) ?_
        refine lv_iconst (v := nI 4) hx hb d_Mod_remove_32 (by decide +kernel) ?_
        refine lv_iload_n hx hb d_Mod_remove_33 rfl (lv_at hl 1 rfl) ?_
        refine lv_iload_n hx hb d_Mod_remove_34 rfl (lv_at hl 2 rfl) ?_
        refine lv_iconst (v := nI 0) hx hb d_Mod_remove_35 (by decide +kernel) ?_
        refine lv_iconst (v := nI 0) hx hb d_Mod_remove_36 (by decide +kernel) ?_
        refine gz_muI (As := [.int (nI 4), .int (nI d), .int (nI w), .int (nI 0), .int (nI 0)]) (rest := []) (wc := (wM g k L (qTh r (nI 0)))) (w1 := (wM g k L ((dsR L (opRm d w) (qTh r (nI 0))).2))) (wr := []) ⟨hx, hb, hml, hown, hTB⟩ (c_Mod_does_remove l D g k L hL0 hL (qTh r (nI 0)) hrB d w (nI 0) (nI 0) (by omega) (by omega) hq) (cwV 5 hTB (gd_V k_714 k_716 k_22 k_56 k_717) rfl rfl rfl (by decide +kernel) ⟨Nat.le_of_ble_eq_true rfl, Nat.le_of_ble_eq_true rfl⟩) hK hP hD hA [0, 1, 2, 3, 4, 5, 6, 7, 8, 9, 10] [] rfl rfl (by decide) rfl (by decide) (by decide) 0 rfl rfl rfl hl.1 rfl (Nat.le_of_ble_eq_true rfl) d_Mod_remove_37 ⟨Nat.zero_le _, Nat.zero_le _⟩ hS (fun H locs hP hD hS => ?_)
        have hP : va_P D cl5 (wM g k L ((dsR L (opRm d w) (qTh r (nI 0))).2)) H := hP
        have hD : va_D A (wM g k L ((dsR L (opRm d w) (qTh r (nI 0))).2)) := hD
        have hP9 : va_P D cl5 (wM g k L ((dsR L (opRm d w) (qTh r (nI 0))).2)) H := hP
        have hD9 : va_D A (wM g k L ((dsR L (opRm d w) (qTh r (nI 0))).2)) := hD
        exact W.iret (v := (dsR L (opRm d w) (qTh r (nI 0))).1) hx hb hr (fun tt9 ht9 hW9 => ⟨⟨_, (), rfl, rfl, ⟨by rw [ht9]; exact hP9, hD9⟩⟩, hS.F ht9⟩) hS.2.2 d_Mod_remove_40
      · exact absurd h24 (by decide)
    · exact absurd h12 (by rw [inB_f (by omega) (by omega) (by decide)]; decide)
set_option maxHeartbeats 4000000 in
set_option maxRecDepth 100000 in
theorem c_Mod_remove_b (l : Launch) (D : va_G) (g : Nat → Nat) (k : Nat → ClassId) (L : Nat) (hL0 : 96 ≤ L) (hL : L ≤ 768) (r : RSt) (hrB : rB r) (x y : Int32) (hbad : (!inR x (nI 0) (nI 63) || !inR y (nI 1) (nI 65535)) = true) : MuI l y_Mod_remove w_Mod_remove ({ frames := 8, cells := 0, slots := 0, locals := 196 }) [.ref (g 20), .int (x), .int (y)] D cl5 (tyC k) (wM g k L r) (wM g k L (qTh r (nI 1))) (nI 0) := by
  intro sz
  refine Met.ofW (cc := b_Mod_remove) (maxL := 3) (ret := (some .int)) (by decide) rfl ?_
  intro p9 e9 s m args9 below9 meth9 c9 s₁ B hml hv
  obtain ⟨rfl, hsz, hP, hK, hD0⟩ := hv
  have hx := B.exec
  have hb := B.bytes
  have hr := B.returns
  have hts := atoms_spec (ws := w_Mod_remove) B.pre
  have hTB : ∀ w ∈ lw_tb, w.before _ s = true := fun w h => hts w (List.mem_cons_of_mem _ h)
  have hown : s.vm.findClass R_Mod = some m.cls := findClass_of_methodNamed B.named
  have hlocks := B.notSynchronized
  subst hsz
  have hD := hD0.self (sz := s.heap.size)
  generalize hAe : va_A (wM g k L r) s.heap.size = A at hD ⊢
  have hA : ∀ q : Nat, s.heap.size ≤ q → A q := fun q h => by rw [← hAe]; exact Or.inr h
  have hS : va_S A s.heap s.heap [] := va_S.rf
  have hl := lv_entry ([.ref (g 20), .int (x), .int (y)]) (n := 3) (Nat.le_of_ble_eq_true rfl)
  rw [lg_entry_eq]
  generalize (lg_sl ([.ref (g 20), .int (x), .int (y)]) ++ List.replicate (3 - (lg_sl ([.ref (g 20), .int (x), .int (y)])).length) Slot.unset).toArray = ls at hl ⊢
  have hl : lv_has ls 3 [(0, .ref (g 20)), (1, .int (x)), (2, .int (y))] := hl
  refine lv_aload_n hx hb d_Mod_remove_0 rfl (lv_at hl 0 rfl) ?_
  refine lv_iload_n hx hb d_Mod_remove_1 rfl (lv_at hl 1 rfl) ?_
  refine gz_roS (As := [.int (x)]) (rest := [.ref (g 20)]) ⟨hx, hb, hml, hown, hTB⟩ (c_Mod_isBad l x) (cwS 1 hTB (gd_S k_707 k_708 k_56 k_709) rfl rfl rfl (by decide +kernel) ⟨Nat.le_of_ble_eq_true rfl, Nat.le_of_ble_eq_true rfl⟩) hP rfl hl.1 rfl (Nat.le_of_ble_eq_true rfl) d_Mod_remove_2 ⟨Nat.zero_le _, Nat.zero_le _⟩ hS (fun H locs hP hS => ?_)
  refine gz_ifz_ne (tgt := 15) hx hb d_Mod_remove_5 (by decide) (fun h5 => ?_) (fun h5 => ?_)
  · refine lv_iconst (v := nI 1) hx hb d_Mod_remove_15 (by decide +kernel) ?_
    refine lv_goto (tgt := 20) hx hb d_Mod_remove_16 (by decide) ?_
    refine lv_iconst (v := nI 1) hx hb d_Mod_remove_20 (by decide +kernel) ?_
    refine gz_muI (As := [.int (nI 1), .int (nI 1)]) (rest := []) (wc := (wM g k L r)) (w1 := (wM g k L (qTh r (nI 1)))) (wr := []) ⟨hx, hb, hml, hown, hTB⟩ (c_Mod_fails l D g k L hL0 hL r hrB true (nI 1)) (cwV 2 hTB (gd_V k_698 k_700 k_21 k_56 k_701) rfl rfl rfl (by decide +kernel) ⟨Nat.le_of_ble_eq_true rfl, Nat.le_of_ble_eq_true rfl⟩) hK hP hD hA [0, 1, 2, 3, 4, 5, 6, 7, 8, 9, 10] [] rfl rfl (by decide) rfl (by decide) (by decide) 0 rfl rfl rfl hl.1 rfl (Nat.le_of_ble_eq_true rfl) d_Mod_remove_21 ⟨Nat.zero_le _, Nat.zero_le _⟩ hS (fun H locs hP hD hS => ?_)
    have hP : va_P D cl5 (wM g k L (qTh r (nI 1))) H := hP
    have hD : va_D A (wM g k L (qTh r (nI 1))) := hD
    have hrB : rB (qTh r (nI 1)) := fun q => hrB q
    refine gz_ifz_eq (tgt := 31) hx hb d_Mod_remove_24 (by decide) (fun h24 => ?_) (fun h24 => ?_)
    · exact absurd h24 (by decide)
    · refine lv_iconst (v := nI 0) hx hb d_Mod_remove_27 (by decide +kernel) ?_
      refine lv_goto (tgt := 40) hx hb d_Mod_remove_28 (by decide) ?_
      have hP9 : va_P D cl5 (wM g k L (qTh r (nI 1))) H := hP
      have hD9 : va_D A (wM g k L (qTh r (nI 1))) := hD
      exact W.iret (v := nI 0) hx hb hr (fun tt9 ht9 hW9 => ⟨⟨_, (), rfl, rfl, ⟨by rw [ht9]; exact hP9, hD9⟩⟩, hS.F ht9⟩) hS.2.2 d_Mod_remove_40
  · refine lv_iload_n hx hb d_Mod_remove_8 rfl (lv_at hl 2 rfl) ?_
    refine gz_roS (As := [.int (y)]) (rest := [.ref (g 20)]) ⟨hx, hb, hml, hown, hTB⟩ (c_Mod_isBadName l y) (cwS 1 hTB (gd_S k_710 k_711 k_56 k_712) rfl rfl rfl (by decide +kernel) ⟨Nat.le_of_ble_eq_true rfl, Nat.le_of_ble_eq_true rfl⟩) hP rfl hl.1 rfl (Nat.le_of_ble_eq_true rfl) d_Mod_remove_9 ⟨Nat.zero_le _, Nat.zero_le _⟩ hS (fun H locs hP hS => ?_)
    refine gz_ifz_eq (tgt := 19) hx hb d_Mod_remove_12 (by decide) (fun h12 => ?_) (fun h12 => ?_)
    · exact absurd hbad (by rw [h5, h12]; decide)
    · refine lv_iconst (v := nI 1) hx hb d_Mod_remove_15 (by decide +kernel) ?_
      refine lv_goto (tgt := 20) hx hb d_Mod_remove_16 (by decide) ?_
      refine lv_iconst (v := nI 1) hx hb d_Mod_remove_20 (by decide +kernel) ?_
      refine gz_muI (As := [.int (nI 1), .int (nI 1)]) (rest := []) (wc := (wM g k L r)) (w1 := (wM g k L (qTh r (nI 1)))) (wr := []) ⟨hx, hb, hml, hown, hTB⟩ (c_Mod_fails l D g k L hL0 hL r hrB true (nI 1)) (cwV 2 hTB (gd_V k_698 k_700 k_21 k_56 k_701) rfl rfl rfl (by decide +kernel) ⟨Nat.le_of_ble_eq_true rfl, Nat.le_of_ble_eq_true rfl⟩) hK hP hD hA [0, 1, 2, 3, 4, 5, 6, 7, 8, 9, 10] [] rfl rfl (by decide) rfl (by decide) (by decide) 0 rfl rfl rfl hl.1 rfl (Nat.le_of_ble_eq_true rfl) d_Mod_remove_21 ⟨Nat.zero_le _, Nat.zero_le _⟩ hS (fun H locs hP hD hS => ?_)
      have hP : va_P D cl5 (wM g k L (qTh r (nI 1))) H := hP
      have hD : va_D A (wM g k L (qTh r (nI 1))) := hD
      have hrB : rB (qTh r (nI 1)) := fun q => hrB q
      refine gz_ifz_eq (tgt := 31) hx hb d_Mod_remove_24 (by decide) (fun h24 => ?_) (fun h24 => ?_)
      · exact absurd h24 (by decide)
      · refine lv_iconst (v := nI 0) hx hb d_Mod_remove_27 (by decide +kernel) ?_
        refine lv_goto (tgt := 40) hx hb d_Mod_remove_28 (by decide) ?_
        have hP9 : va_P D cl5 (wM g k L (qTh r (nI 1))) H := hP
        have hD9 : va_D A (wM g k L (qTh r (nI 1))) := hD
        exact W.iret (v := nI 0) hx hb hr (fun tt9 ht9 hW9 => ⟨⟨_, (), rfl, rfl, ⟨by rw [ht9]; exact hP9, hD9⟩⟩, hS.F ht9⟩) hS.2.2 d_Mod_remove_40
theorem d_Mod_find_0 : decode b_Mod_find 0 = .ok (.aload_n 0, 1) := by decide +kernel
theorem d_Mod_find_1 : decode b_Mod_find 1 = .ok (.iload_n 1, 1) := by decide +kernel
theorem d_Mod_find_2 : decode b_Mod_find 2 = .ok (.invokestatic 180, 3) := by decide +kernel
theorem d_Mod_find_5 : decode b_Mod_find 5 = .ok (.ifCond .ne 10, 3) := by decide +kernel
theorem d_Mod_find_8 : decode b_Mod_find 8 = .ok (.iload_n 2, 1) := by decide +kernel
theorem d_Mod_find_9 : decode b_Mod_find 9 = .ok (.invokestatic 183, 3) := by decide +kernel
theorem d_Mod_find_12 : decode b_Mod_find 12 = .ok (.ifCond .eq 7, 3) := by decide +kernel
theorem d_Mod_find_15 : decode b_Mod_find 15 = .ok (.iconst 1, 1) := by decide +kernel
theorem d_Mod_find_16 : decode b_Mod_find 16 = .ok (.goto 4, 3) := by decide +kernel
theorem d_Mod_find_19 : decode b_Mod_find 19 = .ok (.iconst 0, 1) := by decide +kernel
theorem d_Mod_find_20 : decode b_Mod_find 20 = .ok (.iconst 1, 1) := by decide +kernel
theorem d_Mod_find_21 : decode b_Mod_find 21 = .ok (.invokevirtual 170, 3) := by decide +kernel
theorem d_Mod_find_24 : decode b_Mod_find 24 = .ok (.ifCond .eq 5, 3) := by decide +kernel
theorem d_Mod_find_27 : decode b_Mod_find 27 = .ok (.iconst 0, 1) := by decide +kernel
theorem d_Mod_find_28 : decode b_Mod_find 28 = .ok (.ireturn, 1) := by decide +kernel
theorem d_Mod_find_29 : decode b_Mod_find 29 = .ok (.aload_n 0, 1) := by decide +kernel
theorem d_Mod_find_30 : decode b_Mod_find 30 = .ok (.iload_n 1, 1) := by decide +kernel
theorem d_Mod_find_31 : decode b_Mod_find 31 = .ok (.invokevirtual 117, 3) := by decide +kernel
theorem d_Mod_find_34 : decode b_Mod_find 34 = .ok (.ifCond .ge 9, 3) := by decide +kernel
theorem d_Mod_find_37 : decode b_Mod_find 37 = .ok (.aload_n 0, 1) := by decide +kernel
theorem d_Mod_find_38 : decode b_Mod_find 38 = .ok (.iload_n 1, 1) := by decide +kernel
theorem d_Mod_find_39 : decode b_Mod_find 39 = .ok (.invokevirtual 117, 3) := by decide +kernel
theorem d_Mod_find_42 : decode b_Mod_find 42 = .ok (.ireturn, 1) := by decide +kernel
theorem d_Mod_find_43 : decode b_Mod_find 43 = .ok (.aload_n 0, 1) := by decide +kernel
theorem d_Mod_find_44 : decode b_Mod_find 44 = .ok (.iload_n 1, 1) := by decide +kernel
theorem d_Mod_find_45 : decode b_Mod_find 45 = .ok (.iload_n 2, 1) := by decide +kernel
theorem d_Mod_find_46 : decode b_Mod_find 46 = .ok (.invokevirtual 100, 3) := by decide +kernel
theorem d_Mod_find_49 : decode b_Mod_find 49 = .ok (.istore_n 3, 1) := by decide +kernel
theorem d_Mod_find_50 : decode b_Mod_find 50 = .ok (.iload_n 3, 1) := by decide +kernel
theorem d_Mod_find_51 : decode b_Mod_find 51 = .ok (.ifCond .ge 7, 3) := by decide +kernel
theorem d_Mod_find_54 : decode b_Mod_find 54 = .ok (.iconst (-1), 1) := by decide +kernel
theorem d_Mod_find_55 : decode b_Mod_find 55 = .ok (.goto 9, 3) := by decide +kernel
theorem d_Mod_find_58 : decode b_Mod_find 58 = .ok (.aload_n 0, 1) := by decide +kernel
theorem d_Mod_find_59 : decode b_Mod_find 59 = .ok (.iload_n 1, 1) := by decide +kernel
theorem d_Mod_find_60 : decode b_Mod_find 60 = .ok (.iload_n 3, 1) := by decide +kernel
theorem d_Mod_find_61 : decode b_Mod_find 61 = .ok (.invokevirtual 114, 3) := by decide +kernel
theorem d_Mod_find_64 : decode b_Mod_find 64 = .ok (.ireturn, 1) := by decide +kernel
set_option maxHeartbeats 4000000 in
set_option maxRecDepth 100000 in
theorem c_Mod_find (l : Launch) (D : va_G) (g : Nat → Nat) (k : Nat → ClassId) (L : Nat) (hL0 : 96 ≤ L) (hL : L ≤ 768) (r : RSt) (hrB : rB r) (d w : Nat) (hd0 : d < 64) (hw1 : 1 ≤ w) (hw2 : w ≤ 65535) (hok : okR L (qTh r (nI 0))) : MuI l y_Mod_find w_Mod_find ({ frames := 4, cells := 0, slots := 0, locals := 92 }) [.ref (g 20), .int (nI d), .int (nI w)] D cl5 (tyC k) (wM g k L r) (wM g k L (qTh r (nI 0))) (fnR (qTh r (nI 0)) d w) := by
  intro sz
  refine Met.ofW (cc := b_Mod_find) (maxL := 4) (ret := (some .int)) (by decide) rfl ?_
  intro p9 e9 s m args9 below9 meth9 c9 s₁ B hml hv
  obtain ⟨rfl, hsz, hP, hK, hD0⟩ := hv
  have hx := B.exec
  have hb := B.bytes
  have hr := B.returns
  have hts := atoms_spec (ws := w_Mod_find) B.pre
  have hTB : ∀ w ∈ lw_tb, w.before _ s = true := fun w h => hts w (List.mem_cons_of_mem _ h)
  have hown : s.vm.findClass R_Mod = some m.cls := findClass_of_methodNamed B.named
  have hlocks := B.notSynchronized
  subst hsz
  have hD := hD0.self (sz := s.heap.size)
  generalize hAe : va_A (wM g k L r) s.heap.size = A at hD ⊢
  have hA : ∀ q : Nat, s.heap.size ≤ q → A q := fun q h => by rw [← hAe]; exact Or.inr h
  have hS : va_S A s.heap s.heap [] := va_S.rf
  have hl := lv_entry ([.ref (g 20), .int (nI d), .int (nI w)]) (n := 4) (Nat.le_of_ble_eq_true rfl)
  rw [lg_entry_eq]
  generalize (lg_sl ([.ref (g 20), .int (nI d), .int (nI w)]) ++ List.replicate (4 - (lg_sl ([.ref (g 20), .int (nI d), .int (nI w)])).length) Slot.unset).toArray = ls at hl ⊢
  have hl : lv_has ls 4 [(0, .ref (g 20)), (1, .int (nI d)), (2, .int (nI w))] := hl
  obtain ⟨hwf, hS0, hW⟩ := id hok
  have hX := wf_X hwf
  have hG := wf_G hwf hL
  refine lv_aload_n hx hb d_Mod_find_0 rfl (lv_at hl 0 rfl) ?_
  refine lv_iload_n hx hb d_Mod_find_1 rfl (lv_at hl 1 rfl) ?_
  refine gz_roS (As := [.int (nI d)]) (rest := [.ref (g 20)]) ⟨hx, hb, hml, hown, hTB⟩ (c_Mod_isBad l (nI d)) (cwS 1 hTB (gd_S k_707 k_708 k_56 k_709) rfl rfl rfl (by decide +kernel) ⟨Nat.le_of_ble_eq_true rfl, Nat.le_of_ble_eq_true rfl⟩) hP rfl hl.1 rfl (Nat.le_of_ble_eq_true rfl) d_Mod_find_2 ⟨Nat.zero_le _, Nat.zero_le _⟩ hS (fun H locs hP hS => ?_)
  refine gz_ifz_ne (tgt := 15) hx hb d_Mod_find_5 (by decide) (fun h5 => ?_) (fun h5 => ?_)
  · exact absurd h5 (by rw [inB_f (Nat.zero_le _) (by omega) (by decide)]; decide)
  · refine lv_iload_n hx hb d_Mod_find_8 rfl (lv_at hl 2 rfl) ?_
    refine gz_roS (As := [.int (nI w)]) (rest := [.ref (g 20)]) ⟨hx, hb, hml, hown, hTB⟩ (c_Mod_isBadName l (nI w)) (cwS 1 hTB (gd_S k_710 k_711 k_56 k_712) rfl rfl rfl (by decide +kernel) ⟨Nat.le_of_ble_eq_true rfl, Nat.le_of_ble_eq_true rfl⟩) hP rfl hl.1 rfl (Nat.le_of_ble_eq_true rfl) d_Mod_find_9 ⟨Nat.zero_le _, Nat.zero_le _⟩ hS (fun H locs hP hS => ?_)
    refine gz_ifz_eq (tgt := 19) hx hb d_Mod_find_12 (by decide) (fun h12 => ?_) (fun h12 => ?_)
    · refine lv_iconst (v := nI 0) hx hb d_Mod_find_19 (by decide +kernel) ?_
      refine lv_iconst (v := nI 1) hx hb d_Mod_find_20 (by decide +kernel) ?_
      refine gz_muI (As := [.int (nI 0), .int (nI 1)]) (rest := []) (wc := (wM g k L r)) (w1 := (wM g k L (qTh r (nI 0)))) (wr := []) ⟨hx, hb, hml, hown, hTB⟩ (c_Mod_fails l D g k L hL0 hL r hrB false (nI 1)) (cwV 2 hTB (gd_V k_698 k_700 k_21 k_56 k_701) rfl rfl rfl (by decide +kernel) ⟨Nat.le_of_ble_eq_true rfl, Nat.le_of_ble_eq_true rfl⟩) hK hP hD hA [0, 1, 2, 3, 4, 5, 6, 7, 8, 9, 10] [] rfl rfl (by decide) rfl (by decide) (by decide) 0 rfl rfl rfl hl.1 rfl (Nat.le_of_ble_eq_true rfl) d_Mod_find_21 ⟨Nat.zero_le _, Nat.zero_le _⟩ hS (fun H locs hP hD hS => ?_)
      have hP : va_P D cl5 (wM g k L (qTh r (nI 0))) H := hP
      have hD : va_D A (wM g k L (qTh r (nI 0))) := hD
      have hrB : rB (qTh r (nI 0)) := fun q => hrB q
      refine gz_ifz_eq (tgt := 29) hx hb d_Mod_find_24 (by decide) (fun h24 => ?_) (fun h24 => ?_)
      · refine lv_aload_n hx hb d_Mod_find_29 rfl (lv_at hl 0 rfl) ?_
        refine lv_iload_n hx hb d_Mod_find_30 rfl (lv_at hl 1 rfl) ?_
        refine gz_roV (As := [.int (nI d)]) (rest := []) (wc := (wM g k L (qTh r (nI 0)))) ⟨hx, hb, hml, hown, hTB⟩ (c_Mod_badDirectory l D g k L hL0 hL (qTh r (nI 0)) hrB d (by omega)) (cwV 1 hTB (gd_V k_730 k_732 k_26 k_56 k_733) rfl rfl rfl (by decide +kernel) ⟨Nat.le_of_ble_eq_true rfl, Nat.le_of_ble_eq_true rfl⟩) hK hP [0, 1, 2, 3, 4, 5, 6, 7, 8, 9, 10] rfl 0 rfl rfl rfl hl.1 rfl (Nat.le_of_ble_eq_true rfl) d_Mod_find_31 ⟨Nat.zero_le _, Nat.zero_le _⟩ hS (fun H locs hP hS => ?_)
        refine lv_if_ge (tgt := 43) hx hb d_Mod_find_34 (by decide) (fun h34 => ?_) (fun h34 => ?_)
        · refine lv_aload_n hx hb d_Mod_find_43 rfl (lv_at hl 0 rfl) ?_
          refine lv_iload_n hx hb d_Mod_find_44 rfl (lv_at hl 1 rfl) ?_
          refine lv_iload_n hx hb d_Mod_find_45 rfl (lv_at hl 2 rfl) ?_
          refine gz_roV (As := [.int (nI d), .int (nI w)]) (rest := []) (wc := (wM g k L (qTh r (nI 0)))) ⟨hx, hb, hml, hown, hTB⟩ (c_Mod_entryOf l D g k L hL0 hL (qTh r (nI 0)) hrB d w (by omega) (by omega) hX hG hS0 hW) (cwV 2 hTB (gd_V k_738 k_740 k_28 k_56 k_741) rfl rfl rfl (by decide +kernel) ⟨Nat.le_of_ble_eq_true rfl, Nat.le_of_ble_eq_true rfl⟩) hK hP [0, 1, 2, 3, 4, 5, 6, 7, 8, 9, 10] rfl 0 rfl rfl rfl hl.1 rfl (Nat.le_of_ble_eq_true rfl) d_Mod_find_46 ⟨Nat.zero_le _, Nat.zero_le _⟩ hS (fun H locs hP hS => ?_)
          refine lv_istore_n (lv' := [(3, .int (eoR (qTh r (nI 0)) d w)), (0, .ref (g 20)), (1, .int (nI d)), (2, .int (nI w))]) hx hb d_Mod_find_49 rfl hl (by decide) rfl (fun ls hl => ?_)
          refine lv_iload_n hx hb d_Mod_find_50 rfl (lv_at hl 0 rfl) ?_
          refine lv_if_ge (tgt := 58) hx hb d_Mod_find_51 (by decide) (fun h51 => ?_) (fun h51 => ?_)
          · obtain ⟨j, hj, ej, -⟩ := eoR_of h51
            have hl : lv_has ls 4 [(3, .int (nI j)), (0, .ref (g 20)), (1, .int (nI d)), (2, .int (nI w))] := by rw [← ej]; exact hl
            have hsd : rNd (qTh r (nI 0)) (20 * d + 1) ≤ 64 * bsR (rNd (qTh r (nI 0))) d := hS0 d hd0
            have hsb := (hrB (20 * d + 1)).2.1
            refine lv_aload_n hx hb d_Mod_find_58 rfl (lv_at hl 1 rfl) ?_
            refine lv_iload_n hx hb d_Mod_find_59 rfl (lv_at hl 2 rfl) ?_
            refine lv_iload_n hx hb d_Mod_find_60 rfl (lv_at hl 0 rfl) ?_
            refine gz_roV (As := [.int (nI d), .int (nI j)]) (rest := []) (wc := (wM g k L (qTh r (nI 0)))) ⟨hx, hb, hml, hown, hTB⟩ (c_Mod_inodeAt l D g k L hL0 hL (qTh r (nI 0)) hrB d j (by omega) (by omega) hX hG (by omega)) (cwV 2 hTB (gd_V k_802 k_804 k_44 k_56 k_805) rfl rfl rfl (by decide +kernel) ⟨Nat.le_of_ble_eq_true rfl, Nat.le_of_ble_eq_true rfl⟩) hK hP [0, 1, 2, 3, 4, 5, 6, 7, 8, 9, 10] rfl 0 rfl rfl rfl hl.1 rfl (Nat.le_of_ble_eq_true rfl) d_Mod_find_61 ⟨Nat.zero_le _, Nat.zero_le _⟩ hS (fun H locs hP hS => ?_)
            have : iaR (qTh r (nI 0)) d j < 65536 := (hrB _).2.2.2.1
            have hP9 : va_P D cl5 (wM g k L (qTh r (nI 0))) H := hP
            have hD9 : va_D A (wM g k L (qTh r (nI 0))) := hD
            exact W.iret (v := nI (iaR (qTh r (nI 0)) d j)) hx hb hr (fun tt9 ht9 hW9 => ⟨⟨_, (), rfl, (by unfold fnR; rw [if_pos h34, if_pos h51, ej, nI_clamp (by omega)]), ⟨by rw [ht9]; exact hP9, hD9⟩⟩, hS.F ht9⟩) hS.2.2 d_Mod_find_64
          · refine lv_iconst (v := (-1)) hx hb d_Mod_find_54 (by decide +kernel) ?_
            refine lv_goto (tgt := 64) hx hb d_Mod_find_55 (by decide) ?_
            have hP9 : va_P D cl5 (wM g k L (qTh r (nI 0))) H := hP
            have hD9 : va_D A (wM g k L (qTh r (nI 0))) := hD
            exact W.iret (v := (-1)) hx hb hr (fun tt9 ht9 hW9 => ⟨⟨_, (), rfl, (by unfold fnR; rw [if_pos h34, if_neg h51]), ⟨by rw [ht9]; exact hP9, hD9⟩⟩, hS.F ht9⟩) hS.2.2 d_Mod_find_64
        · refine lv_aload_n hx hb d_Mod_find_37 rfl (lv_at hl 0 rfl) ?_
          refine lv_iload_n hx hb d_Mod_find_38 rfl (lv_at hl 1 rfl) ?_
          refine gz_roV (As := [.int (nI d)]) (rest := []) (wc := (wM g k L (qTh r (nI 0)))) ⟨hx, hb, hml, hown, hTB⟩ (c_Mod_badDirectory l D g k L hL0 hL (qTh r (nI 0)) hrB d (by omega)) (cwV 1 hTB (gd_V k_730 k_732 k_26 k_56 k_733) rfl rfl rfl (by decide +kernel) ⟨Nat.le_of_ble_eq_true rfl, Nat.le_of_ble_eq_true rfl⟩) hK hP [0, 1, 2, 3, 4, 5, 6, 7, 8, 9, 10] rfl 0 rfl rfl rfl hl.1 rfl (Nat.le_of_ble_eq_true rfl) d_Mod_find_39 ⟨Nat.zero_le _, Nat.zero_le _⟩ hS (fun H locs hP hS => ?_)
          have hP9 : va_P D cl5 (wM g k L (qTh r (nI 0))) H := hP
          have hD9 : va_D A (wM g k L (qTh r (nI 0))) := hD
          exact W.iret (v := bdR (qTh r (nI 0)) d) hx hb hr (fun tt9 ht9 hW9 => ⟨⟨_, (), rfl, (by unfold fnR; rw [if_neg h34]), ⟨by rw [ht9]; exact hP9, hD9⟩⟩, hS.F ht9⟩) hS.2.2 d_Mod_find_42
      · exact absurd h24 (by decide)
    · exact absurd h12 (by rw [inB_f (by omega) (by omega) (by decide)]; decide)
set_option maxHeartbeats 4000000 in
set_option maxRecDepth 100000 in
theorem c_Mod_find_b (l : Launch) (D : va_G) (g : Nat → Nat) (k : Nat → ClassId) (L : Nat) (hL0 : 96 ≤ L) (hL : L ≤ 768) (r : RSt) (hrB : rB r) (x y : Int32) (hbad : (!inR x (nI 0) (nI 63) || !inR y (nI 1) (nI 65535)) = true) : MuI l y_Mod_find w_Mod_find ({ frames := 4, cells := 0, slots := 0, locals := 92 }) [.ref (g 20), .int (x), .int (y)] D cl5 (tyC k) (wM g k L r) (wM g k L (qTh r (nI 1))) (nI 0) := by
  intro sz
  refine Met.ofW (cc := b_Mod_find) (maxL := 4) (ret := (some .int)) (by decide) rfl ?_
  intro p9 e9 s m args9 below9 meth9 c9 s₁ B hml hv
  obtain ⟨rfl, hsz, hP, hK, hD0⟩ := hv
  have hx := B.exec
  have hb := B.bytes
  have hr := B.returns
  have hts := atoms_spec (ws := w_Mod_find) B.pre
  have hTB : ∀ w ∈ lw_tb, w.before _ s = true := fun w h => hts w (List.mem_cons_of_mem _ h)
  have hown : s.vm.findClass R_Mod = some m.cls := findClass_of_methodNamed B.named
  have hlocks := B.notSynchronized
  subst hsz
  have hD := hD0.self (sz := s.heap.size)
  generalize hAe : va_A (wM g k L r) s.heap.size = A at hD ⊢
  have hA : ∀ q : Nat, s.heap.size ≤ q → A q := fun q h => by rw [← hAe]; exact Or.inr h
  have hS : va_S A s.heap s.heap [] := va_S.rf
  have hl := lv_entry ([.ref (g 20), .int (x), .int (y)]) (n := 4) (Nat.le_of_ble_eq_true rfl)
  rw [lg_entry_eq]
  generalize (lg_sl ([.ref (g 20), .int (x), .int (y)]) ++ List.replicate (4 - (lg_sl ([.ref (g 20), .int (x), .int (y)])).length) Slot.unset).toArray = ls at hl ⊢
  have hl : lv_has ls 4 [(0, .ref (g 20)), (1, .int (x)), (2, .int (y))] := hl
  refine lv_aload_n hx hb d_Mod_find_0 rfl (lv_at hl 0 rfl) ?_
  refine lv_iload_n hx hb d_Mod_find_1 rfl (lv_at hl 1 rfl) ?_
  refine gz_roS (As := [.int (x)]) (rest := [.ref (g 20)]) ⟨hx, hb, hml, hown, hTB⟩ (c_Mod_isBad l x) (cwS 1 hTB (gd_S k_707 k_708 k_56 k_709) rfl rfl rfl (by decide +kernel) ⟨Nat.le_of_ble_eq_true rfl, Nat.le_of_ble_eq_true rfl⟩) hP rfl hl.1 rfl (Nat.le_of_ble_eq_true rfl) d_Mod_find_2 ⟨Nat.zero_le _, Nat.zero_le _⟩ hS (fun H locs hP hS => ?_)
  refine gz_ifz_ne (tgt := 15) hx hb d_Mod_find_5 (by decide) (fun h5 => ?_) (fun h5 => ?_)
  · refine lv_iconst (v := nI 1) hx hb d_Mod_find_15 (by decide +kernel) ?_
    refine lv_goto (tgt := 20) hx hb d_Mod_find_16 (by decide) ?_
    refine lv_iconst (v := nI 1) hx hb d_Mod_find_20 (by decide +kernel) ?_
    refine gz_muI (As := [.int (nI 1), .int (nI 1)]) (rest := []) (wc := (wM g k L r)) (w1 := (wM g k L (qTh r (nI 1)))) (wr := []) ⟨hx, hb, hml, hown, hTB⟩ (c_Mod_fails l D g k L hL0 hL r hrB true (nI 1)) (cwV 2 hTB (gd_V k_698 k_700 k_21 k_56 k_701) rfl rfl rfl (by decide +kernel) ⟨Nat.le_of_ble_eq_true rfl, Nat.le_of_ble_eq_true rfl⟩) hK hP hD hA [0, 1, 2, 3, 4, 5, 6, 7, 8, 9, 10] [] rfl rfl (by decide) rfl (by decide) (by decide) 0 rfl rfl rfl hl.1 rfl (Nat.le_of_ble_eq_true rfl) d_Mod_find_21 ⟨Nat.zero_le _, Nat.zero_le _⟩ hS (fun H locs hP hD hS => ?_)
    have hP : va_P D cl5 (wM g k L (qTh r (nI 1))) H := hP
    have hD : va_D A (wM g k L (qTh r (nI 1))) := hD
    have hrB : rB (qTh r (nI 1)) := fun q => hrB q
    refine gz_ifz_eq (tgt := 29) hx hb d_Mod_find_24 (by decide) (fun h24 => ?_) (fun h24 => ?_)
    · exact absurd h24 (by decide)
    · refine lv_iconst (v := nI 0) hx hb d_Mod_find_27 (by decide +kernel) ?_
      have hP9 : va_P D cl5 (wM g k L (qTh r (nI 1))) H := hP
      have hD9 : va_D A (wM g k L (qTh r (nI 1))) := hD
      exact W.iret (v := nI 0) hx hb hr (fun tt9 ht9 hW9 => ⟨⟨_, (), rfl, rfl, ⟨by rw [ht9]; exact hP9, hD9⟩⟩, hS.F ht9⟩) hS.2.2 d_Mod_find_28
  · refine lv_iload_n hx hb d_Mod_find_8 rfl (lv_at hl 2 rfl) ?_
    refine gz_roS (As := [.int (y)]) (rest := [.ref (g 20)]) ⟨hx, hb, hml, hown, hTB⟩ (c_Mod_isBadName l y) (cwS 1 hTB (gd_S k_710 k_711 k_56 k_712) rfl rfl rfl (by decide +kernel) ⟨Nat.le_of_ble_eq_true rfl, Nat.le_of_ble_eq_true rfl⟩) hP rfl hl.1 rfl (Nat.le_of_ble_eq_true rfl) d_Mod_find_9 ⟨Nat.zero_le _, Nat.zero_le _⟩ hS (fun H locs hP hS => ?_)
    refine gz_ifz_eq (tgt := 19) hx hb d_Mod_find_12 (by decide) (fun h12 => ?_) (fun h12 => ?_)
    · exact absurd hbad (by rw [h5, h12]; decide)
    · refine lv_iconst (v := nI 1) hx hb d_Mod_find_15 (by decide +kernel) ?_
      refine lv_goto (tgt := 20) hx hb d_Mod_find_16 (by decide) ?_
      refine lv_iconst (v := nI 1) hx hb d_Mod_find_20 (by decide +kernel) ?_
      refine gz_muI (As := [.int (nI 1), .int (nI 1)]) (rest := []) (wc := (wM g k L r)) (w1 := (wM g k L (qTh r (nI 1)))) (wr := []) ⟨hx, hb, hml, hown, hTB⟩ (c_Mod_fails l D g k L hL0 hL r hrB true (nI 1)) (cwV 2 hTB (gd_V k_698 k_700 k_21 k_56 k_701) rfl rfl rfl (by decide +kernel) ⟨Nat.le_of_ble_eq_true rfl, Nat.le_of_ble_eq_true rfl⟩) hK hP hD hA [0, 1, 2, 3, 4, 5, 6, 7, 8, 9, 10] [] rfl rfl (by decide) rfl (by decide) (by decide) 0 rfl rfl rfl hl.1 rfl (Nat.le_of_ble_eq_true rfl) d_Mod_find_21 ⟨Nat.zero_le _, Nat.zero_le _⟩ hS (fun H locs hP hD hS => ?_)
      have hP : va_P D cl5 (wM g k L (qTh r (nI 1))) H := hP
      have hD : va_D A (wM g k L (qTh r (nI 1))) := hD
      have hrB : rB (qTh r (nI 1)) := fun q => hrB q
      refine gz_ifz_eq (tgt := 29) hx hb d_Mod_find_24 (by decide) (fun h24 => ?_) (fun h24 => ?_)
      · exact absurd h24 (by decide)
      · refine lv_iconst (v := nI 0) hx hb d_Mod_find_27 (by decide +kernel) ?_
        have hP9 : va_P D cl5 (wM g k L (qTh r (nI 1))) H := hP
        have hD9 : va_D A (wM g k L (qTh r (nI 1))) := hD
        exact W.iret (v := nI 0) hx hb hr (fun tt9 ht9 hW9 => ⟨⟨_, (), rfl, rfl, ⟨by rw [ht9]; exact hP9, hD9⟩⟩, hS.F ht9⟩) hS.2.2 d_Mod_find_28
theorem d_Mod_write_0 : decode b_Mod_write 0 = .ok (.aload_n 0, 1) := by decide +kernel
theorem d_Mod_write_1 : decode b_Mod_write 1 = .ok (.iload_n 1, 1) := by decide +kernel
theorem d_Mod_write_2 : decode b_Mod_write 2 = .ok (.invokestatic 180, 3) := by decide +kernel
theorem d_Mod_write_5 : decode b_Mod_write 5 = .ok (.iconst 1, 1) := by decide +kernel
theorem d_Mod_write_6 : decode b_Mod_write 6 = .ok (.invokevirtual 170, 3) := by decide +kernel
theorem d_Mod_write_9 : decode b_Mod_write 9 = .ok (.ifCond .eq 5, 3) := by decide +kernel
theorem d_Mod_write_12 : decode b_Mod_write 12 = .ok (.iconst 0, 1) := by decide +kernel
theorem d_Mod_write_13 : decode b_Mod_write 13 = .ok (.ireturn, 1) := by decide +kernel
theorem d_Mod_write_14 : decode b_Mod_write 14 = .ok (.aload_n 0, 1) := by decide +kernel
theorem d_Mod_write_15 : decode b_Mod_write 15 = .ok (.getfield 174, 3) := by decide +kernel
theorem d_Mod_write_18 : decode b_Mod_write 18 = .ok (.istore_n 3, 1) := by decide +kernel
theorem d_Mod_write_19 : decode b_Mod_write 19 = .ok (.aload_n 0, 1) := by decide +kernel
theorem d_Mod_write_20 : decode b_Mod_write 20 = .ok (.iconst 0, 1) := by decide +kernel
theorem d_Mod_write_21 : decode b_Mod_write 21 = .ok (.putfield 174, 3) := by decide +kernel
theorem d_Mod_write_24 : decode b_Mod_write 24 = .ok (.aload_n 0, 1) := by decide +kernel
theorem d_Mod_write_25 : decode b_Mod_write 25 = .ok (.iconst 1, 1) := by decide +kernel
theorem d_Mod_write_26 : decode b_Mod_write 26 = .ok (.iload_n 1, 1) := by decide +kernel
theorem d_Mod_write_27 : decode b_Mod_write 27 = .ok (.iload_n 2, 1) := by decide +kernel
theorem d_Mod_write_28 : decode b_Mod_write 28 = .ok (.iload_n 3, 1) := by decide +kernel
theorem d_Mod_write_29 : decode b_Mod_write 29 = .ok (.iconst 0, 1) := by decide +kernel
theorem d_Mod_write_30 : decode b_Mod_write 30 = .ok (.invokevirtual 186, 3) := by decide +kernel
theorem d_Mod_write_33 : decode b_Mod_write 33 = .ok (.ireturn, 1) := by decide +kernel
set_option maxHeartbeats 4000000 in
set_option maxRecDepth 100000 in
theorem c_Mod_write (l : Launch) (D : va_G) (g : Nat → Nat) (k : Nat → ClassId) (L : Nat) (hL0 : 96 ≤ L) (hL : L ≤ 768) (r : RSt) (hrB : rB r) (i : Nat) (x : Int32) (hi0 : i < 64) (htl : rTl r ≤ 512) (hq : dsP L (opWr L i x (rTl r)) (pWr L i) (qTl (qTh r (nI 0)) 0)) : MuI l y_Mod_write w_Mod_write ({ frames := 8, cells := 0, slots := 0, locals := 196 }) [.ref (g 20), .int (nI i), .int (x)] D cl5 (tyC k) (wM g k L r) (wM g k L ((dsR L (opWr L i x (rTl r)) (qTl (qTh r (nI 0)) 0)).2)) ((dsR L (opWr L i x (rTl r)) (qTl (qTh r (nI 0)) 0)).1) := by
  intro sz
  refine Met.ofW (cc := b_Mod_write) (maxL := 4) (ret := (some .int)) (by decide) rfl ?_
  intro p9 e9 s m args9 below9 meth9 c9 s₁ B hml hv
  obtain ⟨rfl, hsz, hP, hK, hD0⟩ := hv
  have hx := B.exec
  have hb := B.bytes
  have hr := B.returns
  have hts := atoms_spec (ws := w_Mod_write) B.pre
  have hTB : ∀ w ∈ lw_tb, w.before _ s = true := fun w h => hts w (List.mem_cons_of_mem _ h)
  have hown : s.vm.findClass R_Mod = some m.cls := findClass_of_methodNamed B.named
  have hlocks := B.notSynchronized
  subst hsz
  have hD := hD0.self (sz := s.heap.size)
  generalize hAe : va_A (wM g k L r) s.heap.size = A at hD ⊢
  have hA : ∀ q : Nat, s.heap.size ≤ q → A q := fun q h => by rw [← hAe]; exact Or.inr h
  have hS : va_S A s.heap s.heap [] := va_S.rf
  have hl := lv_entry ([.ref (g 20), .int (nI i), .int (x)]) (n := 4) (Nat.le_of_ble_eq_true rfl)
  rw [lg_entry_eq]
  generalize (lg_sl ([.ref (g 20), .int (nI i), .int (x)]) ++ List.replicate (4 - (lg_sl ([.ref (g 20), .int (nI i), .int (x)])).length) Slot.unset).toArray = ls at hl ⊢
  have hl : lv_has ls 4 [(0, .ref (g 20)), (1, .int (nI i)), (2, .int (x))] := hl
  refine lv_aload_n hx hb d_Mod_write_0 rfl (lv_at hl 0 rfl) ?_
  refine lv_iload_n hx hb d_Mod_write_1 rfl (lv_at hl 1 rfl) ?_
  refine gz_roS (As := [.int (nI i)]) (rest := [.ref (g 20)]) ⟨hx, hb, hml, hown, hTB⟩ (c_Mod_isBad l (nI i)) (cwS 1 hTB (gd_S k_707 k_708 k_56 k_709) rfl rfl rfl (by decide +kernel) ⟨Nat.le_of_ble_eq_true rfl, Nat.le_of_ble_eq_true rfl⟩) hP rfl hl.1 rfl (Nat.le_of_ble_eq_true rfl) d_Mod_write_2 ⟨Nat.zero_le _, Nat.zero_le _⟩ hS (fun H locs hP hS => ?_)
  refine lv_iconst (v := nI 1) hx hb d_Mod_write_5 (by decide +kernel) ?_
  refine gz_muI (As := [.int (zI (!inR (nI i) (nI 0) (nI 63))), .int (nI 1)]) (rest := []) (wc := (wM g k L r)) (w1 := (wM g k L (qTh r (if !inR (nI i) (nI 0) (nI 63) then (nI 1) else nI 0)))) (wr := []) ⟨hx, hb, hml, hown, hTB⟩ (c_Mod_fails l D g k L hL0 hL r hrB (!inR (nI i) (nI 0) (nI 63)) (nI 1)) (cwV 2 hTB (gd_V k_698 k_700 k_21 k_56 k_701) rfl rfl rfl (by decide +kernel) ⟨Nat.le_of_ble_eq_true rfl, Nat.le_of_ble_eq_true rfl⟩) hK hP hD hA [0, 1, 2, 3, 4, 5, 6, 7, 8, 9, 10] [] rfl rfl (by decide) rfl (by decide) (by decide) 0 rfl rfl rfl hl.1 rfl (Nat.le_of_ble_eq_true rfl) d_Mod_write_6 ⟨Nat.zero_le _, Nat.zero_le _⟩ hS (fun H locs hP hD hS => ?_)
  have hP : va_P D cl5 (wM g k L (qTh r (if !inR (nI i) (nI 0) (nI 63) then (nI 1) else nI 0))) H := hP
  have hD : va_D A (wM g k L (qTh r (if !inR (nI i) (nI 0) (nI 63) then (nI 1) else nI 0))) := hD
  have hrB : rB (qTh r (if !inR (nI i) (nI 0) (nI 63) then (nI 1) else nI 0)) := fun q => hrB q
  refine gz_ifz_eq (tgt := 14) hx hb d_Mod_write_9 (by decide) (fun h9 => ?_) (fun h9 => ?_)
  · have hP : va_P D cl5 (wM g k L (qTh r (nI 0))) H := by rw [h9] at hP; exact hP
    have hD : va_D A (wM g k L (qTh r (nI 0))) := by rw [h9] at hD; exact hD
    have hrB : rB (qTh r (nI 0)) := fun q => hrB q
    refine lv_aload_n hx hb d_Mod_write_14 rfl (lv_at hl 0 rfl) ?_
    refine va_get (D := D) (ci := 4) (v := .int (nI (rTl (qTh r (nI 0))))) (C := R_Mod) (T := T_Mod) (N := 14) hx hb hTB in_Mod hown hK hP 0 rfl rfl 3 (by decide) (hTB _ k_647) (fun _ h9 => h9) rfl d_Mod_write_15 ?_
    refine lv_istore_n (lv' := [(3, .int (nI (rTl (qTh r (nI 0))))), (0, .ref (g 20)), (1, .int (nI i)), (2, .int (x))]) hx hb d_Mod_write_18 rfl hl (by decide) rfl (fun ls hl => ?_)
    refine lv_aload_n hx hb d_Mod_write_19 rfl (lv_at hl 1 rfl) ?_
    refine lv_iconst (v := nI 0) hx hb d_Mod_write_20 (by decide +kernel) ?_
    refine va_put (D := D) (ci := 4) (v := .int (nI 0)) (ty := .int) (C := R_Mod) (T := T_Mod) (N := 14) hx hb hTB in_Mod t_Mod t_Mod_ok n_Mod hown hK hP hD hS 0 rfl rfl 3 (by decide) (hTB _ k_647) (fun _ h9 => h9) rfl (by decide +kernel) rfl rfl (Nat.le_of_ble_eq_true rfl) d_Mod_write_21 (fun H locs hP hD hS => ?_)
    have hP : va_P D cl5 (wM g k L (qTl (qTh r (nI 0)) 0)) H := hP
    have hD : va_D A (wM g k L (qTl (qTh r (nI 0)) 0)) := hD
    have hrB : rB (qTl (qTh r (nI 0)) 0) := fun q => hrB q
    refine lv_aload_n hx hb d_Mod_write_24 rfl (lv_at hl 1 rfl) ?_
    refine lv_iconst (v := nI 1) hx hb d_Mod_write_25 (by decide +kernel) ?_
    refine lv_iload_n hx hb d_Mod_write_26 rfl (lv_at hl 2 rfl) ?_
    refine lv_iload_n hx hb d_Mod_write_27 rfl (lv_at hl 3 rfl) ?_
    refine lv_iload_n hx hb d_Mod_write_28 rfl (lv_at hl 0 rfl) ?_
    refine lv_iconst (v := nI 0) hx hb d_Mod_write_29 (by decide +kernel) ?_
    refine gz_muI (As := [.int (nI 1), .int (nI i), .int (x), .int (nI (rTl (qTh r (nI 0)))), .int (nI 0)]) (rest := []) (wc := (wM g k L (qTl (qTh r (nI 0)) 0))) (w1 := (wM g k L ((dsR L (opWr L i x (rTl (qTh r (nI 0)))) (qTl (qTh r (nI 0)) 0)).2))) (wr := []) ⟨hx, hb, hml, hown, hTB⟩ (c_Mod_does_write l D g k L hL0 hL (qTl (qTh r (nI 0)) 0) hrB i x (rTl (qTh r (nI 0))) (nI 0) (by omega) (by omega) hq) (cwV 5 hTB (gd_V k_714 k_716 k_22 k_56 k_717) rfl rfl rfl (by decide +kernel) ⟨Nat.le_of_ble_eq_true rfl, Nat.le_of_ble_eq_true rfl⟩) hK hP hD hA [0, 1, 2, 3, 4, 5, 6, 7, 8, 9, 10] [] rfl rfl (by decide) rfl (by decide) (by decide) 0 rfl rfl rfl hl.1 rfl (Nat.le_of_ble_eq_true rfl) d_Mod_write_30 ⟨Nat.zero_le _, Nat.zero_le _⟩ hS (fun H locs hP hD hS => ?_)
    have hP : va_P D cl5 (wM g k L ((dsR L (opWr L i x (rTl (qTh r (nI 0)))) (qTl (qTh r (nI 0)) 0)).2)) H := hP
    have hD : va_D A (wM g k L ((dsR L (opWr L i x (rTl (qTh r (nI 0)))) (qTl (qTh r (nI 0)) 0)).2)) := hD
    have hP9 : va_P D cl5 (wM g k L ((dsR L (opWr L i x (rTl r)) (qTl (qTh r (nI 0)) 0)).2)) H := hP
    have hD9 : va_D A (wM g k L ((dsR L (opWr L i x (rTl r)) (qTl (qTh r (nI 0)) 0)).2)) := hD
    exact W.iret (v := (dsR L (opWr L i x (rTl (qTh r (nI 0)))) (qTl (qTh r (nI 0)) 0)).1) hx hb hr (fun tt9 ht9 hW9 => ⟨⟨_, (), rfl, rfl, ⟨by rw [ht9]; exact hP9, hD9⟩⟩, hS.F ht9⟩) hS.2.2 d_Mod_write_33
  · exact absurd h9 (by rw [inB_f (Nat.zero_le _) (by omega) (by decide)]; decide)
set_option maxHeartbeats 4000000 in
set_option maxRecDepth 100000 in
theorem c_Mod_write_b (l : Launch) (D : va_G) (g : Nat → Nat) (k : Nat → ClassId) (L : Nat) (hL0 : 96 ≤ L) (hL : L ≤ 768) (r : RSt) (hrB : rB r) (x y : Int32) (hbad : (!inR x (nI 0) (nI 63)) = true) : MuI l y_Mod_write w_Mod_write ({ frames := 8, cells := 0, slots := 0, locals := 196 }) [.ref (g 20), .int (x), .int (y)] D cl5 (tyC k) (wM g k L r) (wM g k L (qTh r (nI 1))) (nI 0) := by
  intro sz
  refine Met.ofW (cc := b_Mod_write) (maxL := 4) (ret := (some .int)) (by decide) rfl ?_
  intro p9 e9 s m args9 below9 meth9 c9 s₁ B hml hv
  obtain ⟨rfl, hsz, hP, hK, hD0⟩ := hv
  have hx := B.exec
  have hb := B.bytes
  have hr := B.returns
  have hts := atoms_spec (ws := w_Mod_write) B.pre
  have hTB : ∀ w ∈ lw_tb, w.before _ s = true := fun w h => hts w (List.mem_cons_of_mem _ h)
  have hown : s.vm.findClass R_Mod = some m.cls := findClass_of_methodNamed B.named
  have hlocks := B.notSynchronized
  subst hsz
  have hD := hD0.self (sz := s.heap.size)
  generalize hAe : va_A (wM g k L r) s.heap.size = A at hD ⊢
  have hA : ∀ q : Nat, s.heap.size ≤ q → A q := fun q h => by rw [← hAe]; exact Or.inr h
  have hS : va_S A s.heap s.heap [] := va_S.rf
  have hl := lv_entry ([.ref (g 20), .int (x), .int (y)]) (n := 4) (Nat.le_of_ble_eq_true rfl)
  rw [lg_entry_eq]
  generalize (lg_sl ([.ref (g 20), .int (x), .int (y)]) ++ List.replicate (4 - (lg_sl ([.ref (g 20), .int (x), .int (y)])).length) Slot.unset).toArray = ls at hl ⊢
  have hl : lv_has ls 4 [(0, .ref (g 20)), (1, .int (x)), (2, .int (y))] := hl
  refine lv_aload_n hx hb d_Mod_write_0 rfl (lv_at hl 0 rfl) ?_
  refine lv_iload_n hx hb d_Mod_write_1 rfl (lv_at hl 1 rfl) ?_
  refine gz_roS (As := [.int (x)]) (rest := [.ref (g 20)]) ⟨hx, hb, hml, hown, hTB⟩ (c_Mod_isBad l x) (cwS 1 hTB (gd_S k_707 k_708 k_56 k_709) rfl rfl rfl (by decide +kernel) ⟨Nat.le_of_ble_eq_true rfl, Nat.le_of_ble_eq_true rfl⟩) hP rfl hl.1 rfl (Nat.le_of_ble_eq_true rfl) d_Mod_write_2 ⟨Nat.zero_le _, Nat.zero_le _⟩ hS (fun H locs hP hS => ?_)
  refine lv_iconst (v := nI 1) hx hb d_Mod_write_5 (by decide +kernel) ?_
  refine gz_muI (As := [.int (zI (!inR x (nI 0) (nI 63))), .int (nI 1)]) (rest := []) (wc := (wM g k L r)) (w1 := (wM g k L (qTh r (if !inR x (nI 0) (nI 63) then (nI 1) else nI 0)))) (wr := []) ⟨hx, hb, hml, hown, hTB⟩ (c_Mod_fails l D g k L hL0 hL r hrB (!inR x (nI 0) (nI 63)) (nI 1)) (cwV 2 hTB (gd_V k_698 k_700 k_21 k_56 k_701) rfl rfl rfl (by decide +kernel) ⟨Nat.le_of_ble_eq_true rfl, Nat.le_of_ble_eq_true rfl⟩) hK hP hD hA [0, 1, 2, 3, 4, 5, 6, 7, 8, 9, 10] [] rfl rfl (by decide) rfl (by decide) (by decide) 0 rfl rfl rfl hl.1 rfl (Nat.le_of_ble_eq_true rfl) d_Mod_write_6 ⟨Nat.zero_le _, Nat.zero_le _⟩ hS (fun H locs hP hD hS => ?_)
  have hP : va_P D cl5 (wM g k L (qTh r (if !inR x (nI 0) (nI 63) then (nI 1) else nI 0))) H := hP
  have hD : va_D A (wM g k L (qTh r (if !inR x (nI 0) (nI 63) then (nI 1) else nI 0))) := hD
  have hrB : rB (qTh r (if !inR x (nI 0) (nI 63) then (nI 1) else nI 0)) := fun q => hrB q
  refine gz_ifz_eq (tgt := 14) hx hb d_Mod_write_9 (by decide) (fun h9 => ?_) (fun h9 => ?_)
  · exact absurd (h9.symm.trans hbad) (by decide)
  · have hP : va_P D cl5 (wM g k L (qTh r (nI 1))) H := by rw [h9] at hP; exact hP
    have hD : va_D A (wM g k L (qTh r (nI 1))) := by rw [h9] at hD; exact hD
    refine lv_iconst (v := nI 0) hx hb d_Mod_write_12 (by decide +kernel) ?_
    have hP9 : va_P D cl5 (wM g k L (qTh r (nI 1))) H := hP
    have hD9 : va_D A (wM g k L (qTh r (nI 1))) := hD
    exact W.iret (v := nI 0) hx hb hr (fun tt9 ht9 hW9 => ⟨⟨_, (), rfl, rfl, ⟨by rw [ht9]; exact hP9, hD9⟩⟩, hS.F ht9⟩) hS.2.2 d_Mod_write_13
theorem d_Mod_cut_0 : decode b_Mod_cut 0 = .ok (.aload_n 0, 1) := by decide +kernel
theorem d_Mod_cut_1 : decode b_Mod_cut 1 = .ok (.iload_n 1, 1) := by decide +kernel
theorem d_Mod_cut_2 : decode b_Mod_cut 2 = .ok (.invokestatic 180, 3) := by decide +kernel
theorem d_Mod_cut_5 : decode b_Mod_cut 5 = .ok (.iconst 1, 1) := by decide +kernel
theorem d_Mod_cut_6 : decode b_Mod_cut 6 = .ok (.invokevirtual 170, 3) := by decide +kernel
theorem d_Mod_cut_9 : decode b_Mod_cut 9 = .ok (.ifCond .eq 7, 3) := by decide +kernel
theorem d_Mod_cut_12 : decode b_Mod_cut 12 = .ok (.iconst 0, 1) := by decide +kernel
theorem d_Mod_cut_13 : decode b_Mod_cut 13 = .ok (.goto 12, 3) := by decide +kernel
theorem d_Mod_cut_16 : decode b_Mod_cut 16 = .ok (.aload_n 0, 1) := by decide +kernel
theorem d_Mod_cut_17 : decode b_Mod_cut 17 = .ok (.iconst 2, 1) := by decide +kernel
theorem d_Mod_cut_18 : decode b_Mod_cut 18 = .ok (.iload_n 1, 1) := by decide +kernel
theorem d_Mod_cut_19 : decode b_Mod_cut 19 = .ok (.iload_n 2, 1) := by decide +kernel
theorem d_Mod_cut_20 : decode b_Mod_cut 20 = .ok (.iconst 0, 1) := by decide +kernel
theorem d_Mod_cut_21 : decode b_Mod_cut 21 = .ok (.iconst 0, 1) := by decide +kernel
theorem d_Mod_cut_22 : decode b_Mod_cut 22 = .ok (.invokevirtual 186, 3) := by decide +kernel
theorem d_Mod_cut_25 : decode b_Mod_cut 25 = .ok (.ireturn, 1) := by decide +kernel
set_option maxHeartbeats 4000000 in
set_option maxRecDepth 100000 in
theorem c_Mod_cut (l : Launch) (D : va_G) (g : Nat → Nat) (k : Nat → ClassId) (L : Nat) (hL0 : 96 ≤ L) (hL : L ≤ 768) (r : RSt) (hrB : rB r) (i : Nat) (x : Int32) (hi0 : i < 64) (hq : dsP L (opCt L i x) (pWr L i) (qTh r (nI 0))) : MuI l y_Mod_cut w_Mod_cut ({ frames := 8, cells := 0, slots := 0, locals := 196 }) [.ref (g 20), .int (nI i), .int (x)] D cl5 (tyC k) (wM g k L r) (wM g k L ((dsR L (opCt L i x) (qTh r (nI 0))).2)) ((dsR L (opCt L i x) (qTh r (nI 0))).1) := by
  intro sz
  refine Met.ofW (cc := b_Mod_cut) (maxL := 3) (ret := (some .int)) (by decide) rfl ?_
  intro p9 e9 s m args9 below9 meth9 c9 s₁ B hml hv
  obtain ⟨rfl, hsz, hP, hK, hD0⟩ := hv
  have hx := B.exec
  have hb := B.bytes
  have hr := B.returns
  have hts := atoms_spec (ws := w_Mod_cut) B.pre
  have hTB : ∀ w ∈ lw_tb, w.before _ s = true := fun w h => hts w (List.mem_cons_of_mem _ h)
  have hown : s.vm.findClass R_Mod = some m.cls := findClass_of_methodNamed B.named
  have hlocks := B.notSynchronized
  subst hsz
  have hD := hD0.self (sz := s.heap.size)
  generalize hAe : va_A (wM g k L r) s.heap.size = A at hD ⊢
  have hA : ∀ q : Nat, s.heap.size ≤ q → A q := fun q h => by rw [← hAe]; exact Or.inr h
  have hS : va_S A s.heap s.heap [] := va_S.rf
  have hl := lv_entry ([.ref (g 20), .int (nI i), .int (x)]) (n := 3) (Nat.le_of_ble_eq_true rfl)
  rw [lg_entry_eq]
  generalize (lg_sl ([.ref (g 20), .int (nI i), .int (x)]) ++ List.replicate (3 - (lg_sl ([.ref (g 20), .int (nI i), .int (x)])).length) Slot.unset).toArray = ls at hl ⊢
  have hl : lv_has ls 3 [(0, .ref (g 20)), (1, .int (nI i)), (2, .int (x))] := hl
  refine lv_aload_n hx hb d_Mod_cut_0 rfl (lv_at hl 0 rfl) ?_
  refine lv_iload_n hx hb d_Mod_cut_1 rfl (lv_at hl 1 rfl) ?_
  refine gz_roS (As := [.int (nI i)]) (rest := [.ref (g 20)]) ⟨hx, hb, hml, hown, hTB⟩ (c_Mod_isBad l (nI i)) (cwS 1 hTB (gd_S k_707 k_708 k_56 k_709) rfl rfl rfl (by decide +kernel) ⟨Nat.le_of_ble_eq_true rfl, Nat.le_of_ble_eq_true rfl⟩) hP rfl hl.1 rfl (Nat.le_of_ble_eq_true rfl) d_Mod_cut_2 ⟨Nat.zero_le _, Nat.zero_le _⟩ hS (fun H locs hP hS => ?_)
  refine lv_iconst (v := nI 1) hx hb d_Mod_cut_5 (by decide +kernel) ?_
  refine gz_muI (As := [.int (zI (!inR (nI i) (nI 0) (nI 63))), .int (nI 1)]) (rest := []) (wc := (wM g k L r)) (w1 := (wM g k L (qTh r (if !inR (nI i) (nI 0) (nI 63) then (nI 1) else nI 0)))) (wr := []) ⟨hx, hb, hml, hown, hTB⟩ (c_Mod_fails l D g k L hL0 hL r hrB (!inR (nI i) (nI 0) (nI 63)) (nI 1)) (cwV 2 hTB (gd_V k_698 k_700 k_21 k_56 k_701) rfl rfl rfl (by decide +kernel) ⟨Nat.le_of_ble_eq_true rfl, Nat.le_of_ble_eq_true rfl⟩) hK hP hD hA [0, 1, 2, 3, 4, 5, 6, 7, 8, 9, 10] [] rfl rfl (by decide) rfl (by decide) (by decide) 0 rfl rfl rfl hl.1 rfl (Nat.le_of_ble_eq_true rfl) d_Mod_cut_6 ⟨Nat.zero_le _, Nat.zero_le _⟩ hS (fun H locs hP hD hS => ?_)
  have hP : va_P D cl5 (wM g k L (qTh r (if !inR (nI i) (nI 0) (nI 63) then (nI 1) else nI 0))) H := hP
  have hD : va_D A (wM g k L (qTh r (if !inR (nI i) (nI 0) (nI 63) then (nI 1) else nI 0))) := hD
  have hrB : rB (qTh r (if !inR (nI i) (nI 0) (nI 63) then (nI 1) else nI 0)) := fun q => hrB q
  refine gz_ifz_eq (tgt := 16) hx hb d_Mod_cut_9 (by decide) (fun h9 => ?_) (fun h9 => ?_)
  · have hP : va_P D cl5 (wM g k L (qTh r (nI 0))) H := by rw [h9] at hP; exact hP
    have hD : va_D A (wM g k L (qTh r (nI 0))) := by rw [h9] at hD; exact hD
    have hrB : rB (qTh r (nI 0)) := fun q => hrB q
    refine lv_aload_n hx hb d_Mod_cut_16 rfl (lv_at hl 0 rfl) ?_
    refine lv_iconst (v := nI 2) hx hb d_Mod_cut_17 (by decide +kernel) ?_
    refine lv_iload_n hx hb d_Mod_cut_18 rfl (lv_at hl 1 rfl) ?_
    refine lv_iload_n hx hb d_Mod_cut_19 rfl (lv_at hl 2 rfl) ?_
    refine lv_iconst (v := nI 0) hx hb d_Mod_cut_20 (by decide +kernel) ?_
    refine lv_iconst (v := nI 0) hx hb d_Mod_cut_21 (by decide +kernel) ?_
    refine gz_muI (As := [.int (nI 2), .int (nI i), .int (x), .int (nI 0), .int (nI 0)]) (rest := []) (wc := (wM g k L (qTh r (nI 0)))) (w1 := (wM g k L ((dsR L (opCt L i x) (qTh r (nI 0))).2))) (wr := []) ⟨hx, hb, hml, hown, hTB⟩ (c_Mod_does_cut l D g k L hL0 hL (qTh r (nI 0)) hrB i x (nI 0) (nI 0) (by omega) hq) (cwV 5 hTB (gd_V k_714 k_716 k_22 k_56 k_717) rfl rfl rfl (by decide +kernel) ⟨Nat.le_of_ble_eq_true rfl, Nat.le_of_ble_eq_true rfl⟩) hK hP hD hA [0, 1, 2, 3, 4, 5, 6, 7, 8, 9, 10] [] rfl rfl (by decide) rfl (by decide) (by decide) 0 rfl rfl rfl hl.1 rfl (Nat.le_of_ble_eq_true rfl) d_Mod_cut_22 ⟨Nat.zero_le _, Nat.zero_le _⟩ hS (fun H locs hP hD hS => ?_)
    have hP : va_P D cl5 (wM g k L ((dsR L (opCt L i x) (qTh r (nI 0))).2)) H := hP
    have hD : va_D A (wM g k L ((dsR L (opCt L i x) (qTh r (nI 0))).2)) := hD
    have hP9 : va_P D cl5 (wM g k L ((dsR L (opCt L i x) (qTh r (nI 0))).2)) H := hP
    have hD9 : va_D A (wM g k L ((dsR L (opCt L i x) (qTh r (nI 0))).2)) := hD
    exact W.iret (v := (dsR L (opCt L i x) (qTh r (nI 0))).1) hx hb hr (fun tt9 ht9 hW9 => ⟨⟨_, (), rfl, rfl, ⟨by rw [ht9]; exact hP9, hD9⟩⟩, hS.F ht9⟩) hS.2.2 d_Mod_cut_25
  · exact absurd h9 (by rw [inB_f (Nat.zero_le _) (by omega) (by decide)]; decide)
set_option maxHeartbeats 4000000 in
set_option maxRecDepth 100000 in
theorem c_Mod_cut_b (l : Launch) (D : va_G) (g : Nat → Nat) (k : Nat → ClassId) (L : Nat) (hL0 : 96 ≤ L) (hL : L ≤ 768) (r : RSt) (hrB : rB r) (x y : Int32) (hbad : (!inR x (nI 0) (nI 63)) = true) : MuI l y_Mod_cut w_Mod_cut ({ frames := 8, cells := 0, slots := 0, locals := 196 }) [.ref (g 20), .int (x), .int (y)] D cl5 (tyC k) (wM g k L r) (wM g k L (qTh r (nI 1))) (nI 0) := by
  intro sz
  refine Met.ofW (cc := b_Mod_cut) (maxL := 3) (ret := (some .int)) (by decide) rfl ?_
  intro p9 e9 s m args9 below9 meth9 c9 s₁ B hml hv
  obtain ⟨rfl, hsz, hP, hK, hD0⟩ := hv
  have hx := B.exec
  have hb := B.bytes
  have hr := B.returns
  have hts := atoms_spec (ws := w_Mod_cut) B.pre
  have hTB : ∀ w ∈ lw_tb, w.before _ s = true := fun w h => hts w (List.mem_cons_of_mem _ h)
  have hown : s.vm.findClass R_Mod = some m.cls := findClass_of_methodNamed B.named
  have hlocks := B.notSynchronized
  subst hsz
  have hD := hD0.self (sz := s.heap.size)
  generalize hAe : va_A (wM g k L r) s.heap.size = A at hD ⊢
  have hA : ∀ q : Nat, s.heap.size ≤ q → A q := fun q h => by rw [← hAe]; exact Or.inr h
  have hS : va_S A s.heap s.heap [] := va_S.rf
  have hl := lv_entry ([.ref (g 20), .int (x), .int (y)]) (n := 3) (Nat.le_of_ble_eq_true rfl)
  rw [lg_entry_eq]
  generalize (lg_sl ([.ref (g 20), .int (x), .int (y)]) ++ List.replicate (3 - (lg_sl ([.ref (g 20), .int (x), .int (y)])).length) Slot.unset).toArray = ls at hl ⊢
  have hl : lv_has ls 3 [(0, .ref (g 20)), (1, .int (x)), (2, .int (y))] := hl
  refine lv_aload_n hx hb d_Mod_cut_0 rfl (lv_at hl 0 rfl) ?_
  refine lv_iload_n hx hb d_Mod_cut_1 rfl (lv_at hl 1 rfl) ?_
  refine gz_roS (As := [.int (x)]) (rest := [.ref (g 20)]) ⟨hx, hb, hml, hown, hTB⟩ (c_Mod_isBad l x) (cwS 1 hTB (gd_S k_707 k_708 k_56 k_709) rfl rfl rfl (by decide +kernel) ⟨Nat.le_of_ble_eq_true rfl, Nat.le_of_ble_eq_true rfl⟩) hP rfl hl.1 rfl (Nat.le_of_ble_eq_true rfl) d_Mod_cut_2 ⟨Nat.zero_le _, Nat.zero_le _⟩ hS (fun H locs hP hS => ?_)
  refine lv_iconst (v := nI 1) hx hb d_Mod_cut_5 (by decide +kernel) ?_
  refine gz_muI (As := [.int (zI (!inR x (nI 0) (nI 63))), .int (nI 1)]) (rest := []) (wc := (wM g k L r)) (w1 := (wM g k L (qTh r (if !inR x (nI 0) (nI 63) then (nI 1) else nI 0)))) (wr := []) ⟨hx, hb, hml, hown, hTB⟩ (c_Mod_fails l D g k L hL0 hL r hrB (!inR x (nI 0) (nI 63)) (nI 1)) (cwV 2 hTB (gd_V k_698 k_700 k_21 k_56 k_701) rfl rfl rfl (by decide +kernel) ⟨Nat.le_of_ble_eq_true rfl, Nat.le_of_ble_eq_true rfl⟩) hK hP hD hA [0, 1, 2, 3, 4, 5, 6, 7, 8, 9, 10] [] rfl rfl (by decide) rfl (by decide) (by decide) 0 rfl rfl rfl hl.1 rfl (Nat.le_of_ble_eq_true rfl) d_Mod_cut_6 ⟨Nat.zero_le _, Nat.zero_le _⟩ hS (fun H locs hP hD hS => ?_)
  have hP : va_P D cl5 (wM g k L (qTh r (if !inR x (nI 0) (nI 63) then (nI 1) else nI 0))) H := hP
  have hD : va_D A (wM g k L (qTh r (if !inR x (nI 0) (nI 63) then (nI 1) else nI 0))) := hD
  have hrB : rB (qTh r (if !inR x (nI 0) (nI 63) then (nI 1) else nI 0)) := fun q => hrB q
  refine gz_ifz_eq (tgt := 16) hx hb d_Mod_cut_9 (by decide) (fun h9 => ?_) (fun h9 => ?_)
  · exact absurd (h9.symm.trans hbad) (by decide)
  · have hP : va_P D cl5 (wM g k L (qTh r (nI 1))) H := by rw [h9] at hP; exact hP
    have hD : va_D A (wM g k L (qTh r (nI 1))) := by rw [h9] at hD; exact hD
    refine lv_iconst (v := nI 0) hx hb d_Mod_cut_12 (by decide +kernel) ?_
    refine lv_goto (tgt := 25) hx hb d_Mod_cut_13 (by decide) ?_
    have hP9 : va_P D cl5 (wM g k L (qTh r (nI 1))) H := hP
    have hD9 : va_D A (wM g k L (qTh r (nI 1))) := hD
    exact W.iret (v := nI 0) hx hb hr (fun tt9 ht9 hW9 => ⟨⟨_, (), rfl, rfl, ⟨by rw [ht9]; exact hP9, hD9⟩⟩, hS.F ht9⟩) hS.2.2 d_Mod_cut_25
