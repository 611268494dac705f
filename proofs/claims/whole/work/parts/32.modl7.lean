theorem d_Mod_tries_0 : decode b_Mod_tries 0 = .ok (.iload_n 1, 1) := by decide +kernel
theorem d_Mod_tries_1 : decode b_Mod_tries 1 = .ok (.tableswitch 76 0 3 #[31, 49, 58, 65], 31) := by decide +kernel
theorem d_Mod_tries_32 : decode b_Mod_tries 32 = .ok (.aload_n 0, 1) := by decide +kernel
theorem d_Mod_tries_33 : decode b_Mod_tries 33 = .ok (.iload_n 2, 1) := by decide +kernel
theorem d_Mod_tries_34 : decode b_Mod_tries 34 = .ok (.iload_n 3, 1) := by decide +kernel
theorem d_Mod_tries_35 : decode b_Mod_tries 35 = .ok (.iload 4, 2) := by decide +kernel
theorem d_Mod_tries_37 : decode b_Mod_tries 37 = .ok (.iconst 1, 1) := by decide +kernel
theorem d_Mod_tries_38 : decode b_Mod_tries 38 = .ok (.if_icmp .ne 7, 3) := by decide +kernel
theorem d_Mod_tries_41 : decode b_Mod_tries 41 = .ok (.iconst 1, 1) := by decide +kernel
theorem d_Mod_tries_42 : decode b_Mod_tries 42 = .ok (.goto 4, 3) := by decide +kernel
theorem d_Mod_tries_45 : decode b_Mod_tries 45 = .ok (.iconst 0, 1) := by decide +kernel
theorem d_Mod_tries_46 : decode b_Mod_tries 46 = .ok (.invokevirtual 139, 3) := by decide +kernel
theorem d_Mod_tries_49 : decode b_Mod_tries 49 = .ok (.ireturn, 1) := by decide +kernel
theorem d_Mod_tries_50 : decode b_Mod_tries 50 = .ok (.aload_n 0, 1) := by decide +kernel
theorem d_Mod_tries_51 : decode b_Mod_tries 51 = .ok (.iload_n 2, 1) := by decide +kernel
theorem d_Mod_tries_52 : decode b_Mod_tries 52 = .ok (.iload_n 3, 1) := by decide +kernel
theorem d_Mod_tries_53 : decode b_Mod_tries 53 = .ok (.iload 4, 2) := by decide +kernel
theorem d_Mod_tries_55 : decode b_Mod_tries 55 = .ok (.invokevirtual 143, 3) := by decide +kernel
theorem d_Mod_tries_58 : decode b_Mod_tries 58 = .ok (.ireturn, 1) := by decide +kernel
theorem d_Mod_tries_59 : decode b_Mod_tries 59 = .ok (.aload_n 0, 1) := by decide +kernel
theorem d_Mod_tries_60 : decode b_Mod_tries 60 = .ok (.iload_n 2, 1) := by decide +kernel
theorem d_Mod_tries_61 : decode b_Mod_tries 61 = .ok (.iload_n 3, 1) := by decide +kernel
theorem d_Mod_tries_62 : decode b_Mod_tries 62 = .ok (.invokevirtual 147, 3) := by decide +kernel
theorem d_Mod_tries_65 : decode b_Mod_tries 65 = .ok (.ireturn, 1) := by decide +kernel
theorem d_Mod_tries_66 : decode b_Mod_tries 66 = .ok (.aload_n 0, 1) := by decide +kernel
theorem d_Mod_tries_67 : decode b_Mod_tries 67 = .ok (.iload_n 2, 1) := by decide +kernel
theorem d_Mod_tries_68 : decode b_Mod_tries 68 = .ok (.iload_n 3, 1) := by decide +kernel
theorem d_Mod_tries_69 : decode b_Mod_tries 69 = .ok (.iload 4, 2) := by decide +kernel
theorem d_Mod_tries_71 : decode b_Mod_tries 71 = .ok (.iload 5, 2) := by decide +kernel
theorem d_Mod_tries_73 : decode b_Mod_tries 73 = .ok (.invokevirtual 150, 3) := by decide +kernel
theorem d_Mod_tries_76 : decode b_Mod_tries 76 = .ok (.ireturn, 1) := by decide +kernel
theorem d_Mod_tries_77 : decode b_Mod_tries 77 = .ok (.aload_n 0, 1) := by decide +kernel
theorem d_Mod_tries_78 : decode b_Mod_tries 78 = .ok (.iload_n 2, 1) := by decide +kernel
theorem d_Mod_tries_79 : decode b_Mod_tries 79 = .ok (.iload_n 3, 1) := by decide +kernel
theorem d_Mod_tries_80 : decode b_Mod_tries 80 = .ok (.invokevirtual 154, 3) := by decide +kernel
theorem d_Mod_tries_83 : decode b_Mod_tries 83 = .ok (.ireturn, 1) := by decide +kernel
set_option maxHeartbeats 4000000 in
set_option maxRecDepth 100000 in
theorem c_Mod_tries_make (l : Launch) (D : va_G) (g : Nat → Nat) (k : Nat → ClassId) (L : Nat) (hL0 : 96 ≤ L) (hL : L ≤ 768) (r : RSt) (hrB : rB r) (d w c1 : Nat) (x5 : Int32) (hd0 : d < 64) (hw0 : w < 65536) (hc1 : c1 < 65536) (hp : pMk L d r) : MuI l y_Mod_tries w_Mod_tries ({ frames := 6, cells := 0, slots := 0, locals := 145 }) [.ref (g 20), .int (nI 0), .int (nI d), .int (nI w), .int (nI c1), .int (x5)] D cl5 (tyC k) (wM g k L r) (wM g k L ((mkR L r d w (if c1 = 1 then 2 else 1)).2)) ((mkR L r d w (if c1 = 1 then 2 else 1)).1) := by
  intro sz
  refine Met.ofW (cc := b_Mod_tries) (maxL := 6) (ret := (some .int)) (by decide) rfl ?_
  intro p9 e9 s m args9 below9 meth9 c9 s₁ B hml hv
  obtain ⟨rfl, hsz, hP, hK, hD0⟩ := hv
  have hx := B.exec
  have hb := B.bytes
  have hr := B.returns
  have hts := atoms_spec (ws := w_Mod_tries) B.pre
  have hTB : ∀ w ∈ lw_tb, w.before _ s = true := fun w h => hts w (List.mem_cons_of_mem _ h)
  have hown : s.vm.findClass R_Mod = some m.cls := findClass_of_methodNamed B.named
  have hlocks := B.notSynchronized
  subst hsz
  have hD := hD0.self (sz := s.heap.size)
  generalize hAe : va_A (wM g k L r) s.heap.size = A at hD ⊢
  have hA : ∀ q : Nat, s.heap.size ≤ q → A q := fun q h => by rw [← hAe]; exact Or.inr h
  have hS : va_S A s.heap s.heap [] := va_S.rf
  have hl := lv_entry ([.ref (g 20), .int (nI 0), .int (nI d), .int (nI w), .int (nI c1), .int (x5)]) (n := 6) (Nat.le_of_ble_eq_true rfl)
  rw [lg_entry_eq]
  generalize (lg_sl ([.ref (g 20), .int (nI 0), .int (nI d), .int (nI w), .int (nI c1), .int (x5)]) ++ List.replicate (6 - (lg_sl ([.ref (g 20), .int (nI 0), .int (nI d), .int (nI w), .int (nI c1), .int (x5)])).length) Slot.unset).toArray = ls at hl ⊢
  have hl : lv_has ls 6 [(0, .ref (g 20)), (1, .int (nI 0)), (2, .int (nI d)), (3, .int (nI w)), (4, .int (nI c1)), (5, .int (x5))] := hl
  obtain ⟨hok, hs0⟩ := hp
  refine lv_iload_n hx hb d_Mod_tries_0 rfl (lv_at hl 1 rfl) ?_
  refine lv_tableIn (off := 31) (tgt := 32) hx hb d_Mod_tries_1 (by decide) (by decide) (by decide +kernel) (by decide) ?_
  refine lv_aload_n hx hb d_Mod_tries_32 rfl (lv_at hl 0 rfl) ?_
  refine lv_iload_n hx hb d_Mod_tries_33 rfl (lv_at hl 2 rfl) ?_
  refine lv_iload_n hx hb d_Mod_tries_34 rfl (lv_at hl 3 rfl) ?_
  refine lv_iload hx hb d_Mod_tries_35 (lv_at hl 4 rfl) ?_
  refine lv_iconst (v := nI 1) hx hb d_Mod_tries_37 (by decide +kernel) ?_
  refine gz_icmp_ne (tgt := 45) hx hb d_Mod_tries_38 (by decide) (by omega) (by omega) (fun h38 => ?_) (fun h38 => ?_)
  · refine lv_iconst (v := nI 0) hx hb d_Mod_tries_45 (by decide +kernel) ?_
    refine gz_muI (As := [.int (nI d), .int (nI w), .int (nI 0)]) (rest := []) (wc := (wM g k L r)) (w1 := (wM g k L ((mkR L r d w (if false then 2 else 1)).2))) (wr := []) ⟨hx, hb, hml, hown, hTB⟩ (c_Mod_makes l D g k L hL0 hL r hrB d w false (by omega) (by omega) hs0 hok) (cwV 3 hTB (gd_V k_726 k_728 k_25 k_56 k_729) rfl rfl rfl (by decide +kernel) ⟨Nat.le_of_ble_eq_true rfl, Nat.le_of_ble_eq_true rfl⟩) hK hP hD hA [0, 1, 2, 3, 4, 5, 6, 7, 8, 9, 10] [] rfl rfl (by decide) rfl (by decide) (by decide) 0 rfl rfl rfl hl.1 rfl (Nat.le_of_ble_eq_true rfl) d_Mod_tries_46 ⟨Nat.zero_le _, Nat.zero_le _⟩ hS (fun H locs hP hD hS => ?_)
    have hP : va_P D cl5 (wM g k L ((mkR L r d w (if false then 2 else 1)).2)) H := hP
    have hD : va_D A (wM g k L ((mkR L r d w (if false then 2 else 1)).2)) := hD
    have hP9 : va_P D cl5 (wM g k L ((mkR L r d w (if c1 = 1 then 2 else 1)).2)) H := (by first | (rw [if_neg h38]; exact hP) | (rw [if_pos h38]; exact hP))
    have hD9 : va_D A (wM g k L ((mkR L r d w (if c1 = 1 then 2 else 1)).2)) := (by first | (rw [if_neg h38]; exact hD) | (rw [if_pos h38]; exact hD))
    exact W.iret (v := (mkR L r d w (if false then 2 else 1)).1) hx hb hr (fun tt9 ht9 hW9 => ⟨⟨_, (), rfl, (by first | (rw [if_neg h38]; rfl) | (rw [if_pos h38]; rfl)), ⟨by rw [ht9]; exact hP9, hD9⟩⟩, hS.F ht9⟩) hS.2.2 d_Mod_tries_49
  · refine lv_iconst (v := nI 1) hx hb d_Mod_tries_41 (by decide +kernel) ?_
    refine lv_goto (tgt := 46) hx hb d_Mod_tries_42 (by decide) ?_
    refine gz_muI (As := [.int (nI d), .int (nI w), .int (nI 1)]) (rest := []) (wc := (wM g k L r)) (w1 := (wM g k L ((mkR L r d w (if true then 2 else 1)).2))) (wr := []) ⟨hx, hb, hml, hown, hTB⟩ (c_Mod_makes l D g k L hL0 hL r hrB d w true (by omega) (by omega) hs0 hok) (cwV 3 hTB (gd_V k_726 k_728 k_25 k_56 k_729) rfl rfl rfl (by decide +kernel) ⟨Nat.le_of_ble_eq_true rfl, Nat.le_of_ble_eq_true rfl⟩) hK hP hD hA [0, 1, 2, 3, 4, 5, 6, 7, 8, 9, 10] [] rfl rfl (by decide) rfl (by decide) (by decide) 0 rfl rfl rfl hl.1 rfl (Nat.le_of_ble_eq_true rfl) d_Mod_tries_46 ⟨Nat.zero_le _, Nat.zero_le _⟩ hS (fun H locs hP hD hS => ?_)
    have hP : va_P D cl5 (wM g k L ((mkR L r d w (if true then 2 else 1)).2)) H := hP
    have hD : va_D A (wM g k L ((mkR L r d w (if true then 2 else 1)).2)) := hD
    have hP9 : va_P D cl5 (wM g k L ((mkR L r d w (if c1 = 1 then 2 else 1)).2)) H := (by first | (rw [if_neg h38]; exact hP) | (rw [if_pos h38]; exact hP))
    have hD9 : va_D A (wM g k L ((mkR L r d w (if c1 = 1 then 2 else 1)).2)) := (by first | (rw [if_neg h38]; exact hD) | (rw [if_pos h38]; exact hD))
    exact W.iret (v := (mkR L r d w (if true then 2 else 1)).1) hx hb hr (fun tt9 ht9 hW9 => ⟨⟨_, (), rfl, (by first | (rw [if_neg h38]; rfl) | (rw [if_pos h38]; rfl)), ⟨by rw [ht9]; exact hP9, hD9⟩⟩, hS.F ht9⟩) hS.2.2 d_Mod_tries_49
set_option maxHeartbeats 4000000 in
set_option maxRecDepth 100000 in
theorem c_Mod_tries_write (l : Launch) (D : va_G) (g : Nat → Nat) (k : Nat → ClassId) (L : Nat) (hL0 : 96 ≤ L) (hL : L ≤ 768) (r : RSt) (hrB : rB r) (i : Nat) (x : Int32) (n : Nat) (x5 : Int32) (hi0 : i < 64) (hn0 : n ≤ 512) (hp : pWr L i r) : MuI l y_Mod_tries w_Mod_tries ({ frames := 6, cells := 0, slots := 0, locals := 145 }) [.ref (g 20), .int (nI 1), .int (nI i), .int (x), .int (nI n), .int (x5)] D cl5 (tyC k) (wM g k L r) (wM g k L ((wwR L r i x n).2)) ((wwR L r i x n).1) := by
  intro sz
  refine Met.ofW (cc := b_Mod_tries) (maxL := 6) (ret := (some .int)) (by decide) rfl ?_
  intro p9 e9 s m args9 below9 meth9 c9 s₁ B hml hv
  obtain ⟨rfl, hsz, hP, hK, hD0⟩ := hv
  have hx := B.exec
  have hb := B.bytes
  have hr := B.returns
  have hts := atoms_spec (ws := w_Mod_tries) B.pre
  have hTB : ∀ w ∈ lw_tb, w.before _ s = true := fun w h => hts w (List.mem_cons_of_mem _ h)
  have hown : s.vm.findClass R_Mod = some m.cls := findClass_of_methodNamed B.named
  have hlocks := B.notSynchronized
  subst hsz
  have hD := hD0.self (sz := s.heap.size)
  generalize hAe : va_A (wM g k L r) s.heap.size = A at hD ⊢
  have hA : ∀ q : Nat, s.heap.size ≤ q → A q := fun q h => by rw [← hAe]; exact Or.inr h
  have hS : va_S A s.heap s.heap [] := va_S.rf
  have hl := lv_entry ([.ref (g 20), .int (nI 1), .int (nI i), .int (x), .int (nI n), .int (x5)]) (n := 6) (Nat.le_of_ble_eq_true rfl)
  rw [lg_entry_eq]
  generalize (lg_sl ([.ref (g 20), .int (nI 1), .int (nI i), .int (x), .int (nI n), .int (x5)]) ++ List.replicate (6 - (lg_sl ([.ref (g 20), .int (nI 1), .int (nI i), .int (x), .int (nI n), .int (x5)])).length) Slot.unset).toArray = ls at hl ⊢
  have hl : lv_has ls 6 [(0, .ref (g 20)), (1, .int (nI 1)), (2, .int (nI i)), (3, .int (x)), (4, .int (nI n)), (5, .int (x5))] := hl
  obtain ⟨hok, hs0⟩ := hp
  refine lv_iload_n hx hb d_Mod_tries_0 rfl (lv_at hl 1 rfl) ?_
  refine lv_tableIn (off := 49) (tgt := 50) hx hb d_Mod_tries_1 (by decide) (by decide) (by decide +kernel) (by decide) ?_
  refine lv_aload_n hx hb d_Mod_tries_50 rfl (lv_at hl 0 rfl) ?_
  refine lv_iload_n hx hb d_Mod_tries_51 rfl (lv_at hl 2 rfl) ?_
  refine lv_iload_n hx hb d_Mod_tries_52 rfl (lv_at hl 3 rfl) ?_
  refine lv_iload hx hb d_Mod_tries_53 (lv_at hl 4 rfl) ?_
  refine gz_muI (As := [.int (nI i), .int (x), .int (nI n)]) (rest := []) (wc := (wM g k L r)) (w1 := (wM g k L ((wwR L r i x n).2))) (wr := []) ⟨hx, hb, hml, hown, hTB⟩ (c_Mod_writes l D g k L hL0 hL r hrB i x n (by omega) (by omega) hs0 hok) (cwV 3 hTB (gd_V k_786 k_788 k_40 k_56 k_789) rfl rfl rfl (by decide +kernel) ⟨Nat.le_of_ble_eq_true rfl, Nat.le_of_ble_eq_true rfl⟩) hK hP hD hA [0, 1, 2, 3, 4, 5, 6, 7, 8, 9, 10] [] rfl rfl (by decide) rfl (by decide) (by decide) 0 rfl rfl rfl hl.1 rfl (Nat.le_of_ble_eq_true rfl) d_Mod_tries_55 ⟨Nat.zero_le _, Nat.zero_le _⟩ hS (fun H locs hP hD hS => ?_)
  have hP : va_P D cl5 (wM g k L ((wwR L r i x n).2)) H := hP
  have hD : va_D A (wM g k L ((wwR L r i x n).2)) := hD
  have hP9 : va_P D cl5 (wM g k L ((wwR L r i x n).2)) H := hP
  have hD9 : va_D A (wM g k L ((wwR L r i x n).2)) := hD
  exact W.iret (v := (wwR L r i x n).1) hx hb hr (fun tt9 ht9 hW9 => ⟨⟨_, (), rfl, rfl, ⟨by rw [ht9]; exact hP9, hD9⟩⟩, hS.F ht9⟩) hS.2.2 d_Mod_tries_58
set_option maxHeartbeats 4000000 in
set_option maxRecDepth 100000 in
theorem c_Mod_tries_cut (l : Launch) (D : va_G) (g : Nat → Nat) (k : Nat → ClassId) (L : Nat) (hL0 : 96 ≤ L) (hL : L ≤ 768) (r : RSt) (hrB : rB r) (i : Nat) (x x4 x5 : Int32) (hi0 : i < 64) (hp : pWr L i r) : MuI l y_Mod_tries w_Mod_tries ({ frames := 6, cells := 0, slots := 0, locals := 145 }) [.ref (g 20), .int (nI 2), .int (nI i), .int (x), .int (x4), .int (x5)] D cl5 (tyC k) (wM g k L r) (wM g k L ((ccR L r i x).2)) ((ccR L r i x).1) := by
  intro sz
  refine Met.ofW (cc := b_Mod_tries) (maxL := 6) (ret := (some .int)) (by decide) rfl ?_
  intro p9 e9 s m args9 below9 meth9 c9 s₁ B hml hv
  obtain ⟨rfl, hsz, hP, hK, hD0⟩ := hv
  have hx := B.exec
  have hb := B.bytes
  have hr := B.returns
  have hts := atoms_spec (ws := w_Mod_tries) B.pre
  have hTB : ∀ w ∈ lw_tb, w.before _ s = true := fun w h => hts w (List.mem_cons_of_mem _ h)
  have hown : s.vm.findClass R_Mod = some m.cls := findClass_of_methodNamed B.named
  have hlocks := B.notSynchronized
  subst hsz
  have hD := hD0.self (sz := s.heap.size)
  generalize hAe : va_A (wM g k L r) s.heap.size = A at hD ⊢
  have hA : ∀ q : Nat, s.heap.size ≤ q → A q := fun q h => by rw [← hAe]; exact Or.inr h
  have hS : va_S A s.heap s.heap [] := va_S.rf
  have hl := lv_entry ([.ref (g 20), .int (nI 2), .int (nI i), .int (x), .int (x4), .int (x5)]) (n := 6) (Nat.le_of_ble_eq_true rfl)
  rw [lg_entry_eq]
  generalize (lg_sl ([.ref (g 20), .int (nI 2), .int (nI i), .int (x), .int (x4), .int (x5)]) ++ List.replicate (6 - (lg_sl ([.ref (g 20), .int (nI 2), .int (nI i), .int (x), .int (x4), .int (x5)])).length) Slot.unset).toArray = ls at hl ⊢
  have hl : lv_has ls 6 [(0, .ref (g 20)), (1, .int (nI 2)), (2, .int (nI i)), (3, .int (x)), (4, .int (x4)), (5, .int (x5))] := hl
  obtain ⟨hok, hs0⟩ := hp
  refine lv_iload_n hx hb d_Mod_tries_0 rfl (lv_at hl 1 rfl) ?_
  refine lv_tableIn (off := 58) (tgt := 59) hx hb d_Mod_tries_1 (by decide) (by decide) (by decide +kernel) (by decide) ?_
  refine lv_aload_n hx hb d_Mod_tries_59 rfl (lv_at hl 0 rfl) ?_
  refine lv_iload_n hx hb d_Mod_tries_60 rfl (lv_at hl 2 rfl) ?_
  refine lv_iload_n hx hb d_Mod_tries_61 rfl (lv_at hl 3 rfl) ?_
  refine gz_muI (As := [.int (nI i), .int (x)]) (rest := []) (wc := (wM g k L r)) (w1 := (wM g k L ((ccR L r i x).2))) (wr := []) ⟨hx, hb, hml, hown, hTB⟩ (c_Mod_cuts l D g k L hL0 hL r hrB i x (by omega) hs0 hok) (cwV 2 hTB (gd_V k_794 k_796 k_42 k_56 k_797) rfl rfl rfl (by decide +kernel) ⟨Nat.le_of_ble_eq_true rfl, Nat.le_of_ble_eq_true rfl⟩) hK hP hD hA [0, 1, 2, 3, 4, 5, 6, 7, 8, 9, 10] [] rfl rfl (by decide) rfl (by decide) (by decide) 0 rfl rfl rfl hl.1 rfl (Nat.le_of_ble_eq_true rfl) d_Mod_tries_62 ⟨Nat.zero_le _, Nat.zero_le _⟩ hS (fun H locs hP hD hS => ?_)
  have hP : va_P D cl5 (wM g k L ((ccR L r i x).2)) H := hP
  have hD : va_D A (wM g k L ((ccR L r i x).2)) := hD
  have hP9 : va_P D cl5 (wM g k L ((ccR L r i x).2)) H := hP
  have hD9 : va_D A (wM g k L ((ccR L r i x).2)) := hD
  exact W.iret (v := (ccR L r i x).1) hx hb hr (fun tt9 ht9 hW9 => ⟨⟨_, (), rfl, rfl, ⟨by rw [ht9]; exact hP9, hD9⟩⟩, hS.F ht9⟩) hS.2.2 d_Mod_tries_65
set_option maxHeartbeats 4000000 in
set_option maxRecDepth 100000 in
theorem c_Mod_tries_move (l : Launch) (D : va_G) (g : Nat → Nat) (k : Nat → ClassId) (L : Nat) (hL0 : 96 ≤ L) (hL : L ≤ 768) (r : RSt) (hrB : rB r) (d w d2 w2 : Nat) (hd0 : d < 64) (hw0 : w < 65536) (hd2 : d2 < 64) (hw2 : w2 < 65536) (hp : pMv L d d2 w2 r) : MuI l y_Mod_tries w_Mod_tries ({ frames := 6, cells := 0, slots := 0, locals := 145 }) [.ref (g 20), .int (nI 3), .int (nI d), .int (nI w), .int (nI d2), .int (nI w2)] D cl5 (tyC k) (wM g k L r) (wM g k L ((mvR L r d w d2 w2).2)) ((mvR L r d w d2 w2).1) := by
  intro sz
  refine Met.ofW (cc := b_Mod_tries) (maxL := 6) (ret := (some .int)) (by decide) rfl ?_
  intro p9 e9 s m args9 below9 meth9 c9 s₁ B hml hv
  obtain ⟨rfl, hsz, hP, hK, hD0⟩ := hv
  have hx := B.exec
  have hb := B.bytes
  have hr := B.returns
  have hts := atoms_spec (ws := w_Mod_tries) B.pre
  have hTB : ∀ w ∈ lw_tb, w.before _ s = true := fun w h => hts w (List.mem_cons_of_mem _ h)
  have hown : s.vm.findClass R_Mod = some m.cls := findClass_of_methodNamed B.named
  have hlocks := B.notSynchronized
  subst hsz
  have hD := hD0.self (sz := s.heap.size)
  generalize hAe : va_A (wM g k L r) s.heap.size = A at hD ⊢
  have hA : ∀ q : Nat, s.heap.size ≤ q → A q := fun q h => by rw [← hAe]; exact Or.inr h
  have hS : va_S A s.heap s.heap [] := va_S.rf
  have hl := lv_entry ([.ref (g 20), .int (nI 3), .int (nI d), .int (nI w), .int (nI d2), .int (nI w2)]) (n := 6) (Nat.le_of_ble_eq_true rfl)
  rw [lg_entry_eq]
  generalize (lg_sl ([.ref (g 20), .int (nI 3), .int (nI d), .int (nI w), .int (nI d2), .int (nI w2)]) ++ List.replicate (6 - (lg_sl ([.ref (g 20), .int (nI 3), .int (nI d), .int (nI w), .int (nI d2), .int (nI w2)])).length) Slot.unset).toArray = ls at hl ⊢
  have hl : lv_has ls 6 [(0, .ref (g 20)), (1, .int (nI 3)), (2, .int (nI d)), (3, .int (nI w)), (4, .int (nI d2)), (5, .int (nI w2))] := hl
  obtain ⟨hok, hs0, hE, hE2, hN2, hU⟩ := hp
  refine lv_iload_n hx hb d_Mod_tries_0 rfl (lv_at hl 1 rfl) ?_
  refine lv_tableIn (off := 65) (tgt := 66) hx hb d_Mod_tries_1 (by decide) (by decide) (by decide +kernel) (by decide) ?_
  refine lv_aload_n hx hb d_Mod_tries_66 rfl (lv_at hl 0 rfl) ?_
  refine lv_iload_n hx hb d_Mod_tries_67 rfl (lv_at hl 2 rfl) ?_
  refine lv_iload_n hx hb d_Mod_tries_68 rfl (lv_at hl 3 rfl) ?_
  refine lv_iload hx hb d_Mod_tries_69 (lv_at hl 4 rfl) ?_
  refine lv_iload hx hb d_Mod_tries_71 (lv_at hl 5 rfl) ?_
  refine gz_muI (As := [.int (nI d), .int (nI w), .int (nI d2), .int (nI w2)]) (rest := []) (wc := (wM g k L r)) (w1 := (wM g k L ((mvR L r d w d2 w2).2))) (wr := []) ⟨hx, hb, hml, hown, hTB⟩ (c_Mod_moves l D g k L hL0 hL r hrB d w d2 w2 (by omega) (by omega) (by omega) (by omega) hs0 hok hE hE2 hN2 hU) (cwV 4 hTB (gd_V k_798 k_800 k_43 k_56 k_801) rfl rfl rfl (by decide +kernel) ⟨Nat.le_of_ble_eq_true rfl, Nat.le_of_ble_eq_true rfl⟩) hK hP hD hA [0, 1, 2, 3, 4, 5, 6, 7, 8, 9, 10] [] rfl rfl (by decide) rfl (by decide) (by decide) 0 rfl rfl rfl hl.1 rfl (Nat.le_of_ble_eq_true rfl) d_Mod_tries_73 ⟨Nat.zero_le _, Nat.zero_le _⟩ hS (fun H locs hP hD hS => ?_)
  have hP : va_P D cl5 (wM g k L ((mvR L r d w d2 w2).2)) H := hP
  have hD : va_D A (wM g k L ((mvR L r d w d2 w2).2)) := hD
  have hP9 : va_P D cl5 (wM g k L ((mvR L r d w d2 w2).2)) H := hP
  have hD9 : va_D A (wM g k L ((mvR L r d w d2 w2).2)) := hD
  exact W.iret (v := (mvR L r d w d2 w2).1) hx hb hr (fun tt9 ht9 hW9 => ⟨⟨_, (), rfl, rfl, ⟨by rw [ht9]; exact hP9, hD9⟩⟩, hS.F ht9⟩) hS.2.2 d_Mod_tries_76
set_option maxHeartbeats 4000000 in
set_option maxRecDepth 100000 in
theorem c_Mod_tries_remove (l : Launch) (D : va_G) (g : Nat → Nat) (k : Nat → ClassId) (L : Nat) (hL0 : 96 ≤ L) (hL : L ≤ 768) (r : RSt) (hrB : rB r) (d w : Nat) (x4 x5 : Int32) (hd0 : d < 64) (hw0 : w < 65536) (hp : pRm L d w r) : MuI l y_Mod_tries w_Mod_tries ({ frames := 6, cells := 0, slots := 0, locals := 145 }) [.ref (g 20), .int (nI 4), .int (nI d), .int (nI w), .int (x4), .int (x5)] D cl5 (tyC k) (wM g k L r) (wM g k L ((rrR r d w).2)) ((rrR r d w).1) := by
  intro sz
  refine Met.ofW (cc := b_Mod_tries) (maxL := 6) (ret := (some .int)) (by decide) rfl ?_
  intro p9 e9 s m args9 below9 meth9 c9 s₁ B hml hv
  obtain ⟨rfl, hsz, hP, hK, hD0⟩ := hv
  have hx := B.exec
  have hb := B.bytes
  have hr := B.returns
  have hts := atoms_spec (ws := w_Mod_tries) B.pre
  have hTB : ∀ w ∈ lw_tb, w.before _ s = true := fun w h => hts w (List.mem_cons_of_mem _ h)
  have hown : s.vm.findClass R_Mod = some m.cls := findClass_of_methodNamed B.named
  have hlocks := B.notSynchronized
  subst hsz
  have hD := hD0.self (sz := s.heap.size)
  generalize hAe : va_A (wM g k L r) s.heap.size = A at hD ⊢
  have hA : ∀ q : Nat, s.heap.size ≤ q → A q := fun q h => by rw [← hAe]; exact Or.inr h
  have hS : va_S A s.heap s.heap [] := va_S.rf
  have hl := lv_entry ([.ref (g 20), .int (nI 4), .int (nI d), .int (nI w), .int (x4), .int (x5)]) (n := 6) (Nat.le_of_ble_eq_true rfl)
  rw [lg_entry_eq]
  generalize (lg_sl ([.ref (g 20), .int (nI 4), .int (nI d), .int (nI w), .int (x4), .int (x5)]) ++ List.replicate (6 - (lg_sl ([.ref (g 20), .int (nI 4), .int (nI d), .int (nI w), .int (x4), .int (x5)])).length) Slot.unset).toArray = ls at hl ⊢
  have hl : lv_has ls 6 [(0, .ref (g 20)), (1, .int (nI 4)), (2, .int (nI d)), (3, .int (nI w)), (4, .int (x4)), (5, .int (x5))] := hl
  obtain ⟨hok, hE, hN⟩ := hp
  refine lv_iload_n hx hb d_Mod_tries_0 rfl (lv_at hl 1 rfl) ?_
  refine lv_tableOut (tgt := 77) hx hb d_Mod_tries_1 (Or.inr (by decide)) (by decide) ?_
  refine lv_aload_n hx hb d_Mod_tries_77 rfl (lv_at hl 0 rfl) ?_
  refine lv_iload_n hx hb d_Mod_tries_78 rfl (lv_at hl 2 rfl) ?_
  refine lv_iload_n hx hb d_Mod_tries_79 rfl (lv_at hl 3 rfl) ?_
  refine gz_muI (As := [.int (nI d), .int (nI w)]) (rest := []) (wc := (wM g k L r)) (w1 := (wM g k L ((rrR r d w).2))) (wr := []) ⟨hx, hb, hml, hown, hTB⟩ (c_Mod_removes l D g k L hL0 hL r hrB d w (by omega) (by omega) hok hE hN) (cwV 2 hTB (gd_V k_818 k_820 k_48 k_56 k_821) rfl rfl rfl (by decide +kernel) ⟨Nat.le_of_ble_eq_true rfl, Nat.le_of_ble_eq_true rfl⟩) hK hP hD hA [0, 1, 2, 3, 4, 5, 6, 7, 8, 9, 10] [] rfl rfl (by decide) rfl (by decide) (by decide) 0 rfl rfl rfl hl.1 rfl (Nat.le_of_ble_eq_true rfl) d_Mod_tries_80 ⟨Nat.zero_le _, Nat.zero_le _⟩ hS (fun H locs hP hD hS => ?_)
  have hP : va_P D cl5 (wM g k L ((rrR r d w).2)) H := hP
  have hD : va_D A (wM g k L ((rrR r d w).2)) := hD
  have hP9 : va_P D cl5 (wM g k L ((rrR r d w).2)) H := hP
  have hD9 : va_D A (wM g k L ((rrR r d w).2)) := hD
  exact W.iret (v := (rrR r d w).1) hx hb hr (fun tt9 ht9 hW9 => ⟨⟨_, (), rfl, rfl, ⟨by rw [ht9]; exact hP9, hD9⟩⟩, hS.F ht9⟩) hS.2.2 d_Mod_tries_83
theorem d_Mod_does_0 : decode b_Mod_does 0 = .ok (.aload_n 0, 1) := by decide +kernel
theorem d_Mod_does_1 : decode b_Mod_does 1 = .ok (.invokevirtual 157, 3) := by decide +kernel
theorem d_Mod_does_4 : decode b_Mod_does 4 = .ok (.aload_n 0, 1) := by decide +kernel
theorem d_Mod_does_5 : decode b_Mod_does 5 = .ok (.iload_n 1, 1) := by decide +kernel
theorem d_Mod_does_6 : decode b_Mod_does 6 = .ok (.iload_n 2, 1) := by decide +kernel
theorem d_Mod_does_7 : decode b_Mod_does 7 = .ok (.iload_n 3, 1) := by decide +kernel
theorem d_Mod_does_8 : decode b_Mod_does 8 = .ok (.iload 4, 2) := by decide +kernel
theorem d_Mod_does_10 : decode b_Mod_does 10 = .ok (.iload 5, 2) := by decide +kernel
theorem d_Mod_does_12 : decode b_Mod_does 12 = .ok (.invokevirtual 160, 3) := by decide +kernel
theorem d_Mod_does_15 : decode b_Mod_does 15 = .ok (.istore 6, 2) := by decide +kernel
theorem d_Mod_does_17 : decode b_Mod_does 17 = .ok (.iload 6, 2) := by decide +kernel
theorem d_Mod_does_19 : decode b_Mod_does 19 = .ok (.ifCond .ge 10, 3) := by decide +kernel
theorem d_Mod_does_22 : decode b_Mod_does 22 = .ok (.aload_n 0, 1) := by decide +kernel
theorem d_Mod_does_23 : decode b_Mod_does 23 = .ok (.invokevirtual 164, 3) := by decide +kernel
theorem d_Mod_does_26 : decode b_Mod_does 26 = .ok (.iload 6, 2) := by decide +kernel
theorem d_Mod_does_28 : decode b_Mod_does 28 = .ok (.ireturn, 1) := by decide +kernel
theorem d_Mod_does_29 : decode b_Mod_does 29 = .ok (.aload_n 0, 1) := by decide +kernel
theorem d_Mod_does_30 : decode b_Mod_does 30 = .ok (.invokevirtual 67, 3) := by decide +kernel
theorem d_Mod_does_33 : decode b_Mod_does 33 = .ok (.bipush 24, 2) := by decide +kernel
theorem d_Mod_does_35 : decode b_Mod_does 35 = .ok (.if_icmp .gt 6, 3) := by decide +kernel
theorem d_Mod_does_38 : decode b_Mod_does 38 = .ok (.iload 6, 2) := by decide +kernel
theorem d_Mod_does_40 : decode b_Mod_does 40 = .ok (.ireturn, 1) := by decide +kernel
theorem d_Mod_does_41 : decode b_Mod_does 41 = .ok (.aload_n 0, 1) := by decide +kernel
theorem d_Mod_does_42 : decode b_Mod_does 42 = .ok (.invokevirtual 164, 3) := by decide +kernel
theorem d_Mod_does_45 : decode b_Mod_does 45 = .ok (.aload_n 0, 1) := by decide +kernel
theorem d_Mod_does_46 : decode b_Mod_does 46 = .ok (.invokevirtual 45, 3) := by decide +kernel
theorem d_Mod_does_49 : decode b_Mod_does 49 = .ok (.pop, 1) := by decide +kernel
theorem d_Mod_does_50 : decode b_Mod_does 50 = .ok (.aload_n 0, 1) := by decide +kernel
theorem d_Mod_does_51 : decode b_Mod_does 51 = .ok (.dup, 1) := by decide +kernel
theorem d_Mod_does_52 : decode b_Mod_does 52 = .ok (.getfield 167, 3) := by decide +kernel
theorem d_Mod_does_55 : decode b_Mod_does 55 = .ok (.iconst 1, 1) := by decide +kernel
theorem d_Mod_does_56 : decode b_Mod_does 56 = .ok (.iadd, 1) := by decide +kernel
theorem d_Mod_does_57 : decode b_Mod_does 57 = .ok (.putfield 167, 3) := by decide +kernel
theorem d_Mod_does_60 : decode b_Mod_does 60 = .ok (.aload_n 0, 1) := by decide +kernel
theorem d_Mod_does_61 : decode b_Mod_does 61 = .ok (.iload_n 1, 1) := by decide +kernel
theorem d_Mod_does_62 : decode b_Mod_does 62 = .ok (.iload_n 2, 1) := by decide +kernel
theorem d_Mod_does_63 : decode b_Mod_does 63 = .ok (.iload_n 3, 1) := by decide +kernel
theorem d_Mod_does_64 : decode b_Mod_does 64 = .ok (.iload 4, 2) := by decide +kernel
theorem d_Mod_does_66 : decode b_Mod_does 66 = .ok (.iload 5, 2) := by decide +kernel
theorem d_Mod_does_68 : decode b_Mod_does 68 = .ok (.invokevirtual 160, 3) := by decide +kernel
theorem d_Mod_does_71 : decode b_Mod_does 71 = .ok (.ireturn, 1) := by decide +kernel
set_option maxHeartbeats 4000000 in
set_option maxRecDepth 100000 in
theorem c_Mod_does_make (l : Launch) (D : va_G) (g : Nat → Nat) (k : Nat → ClassId) (L : Nat) (hL0 : 96 ≤ L) (hL : L ≤ 768) (r : RSt) (hrB : rB r) (d w c1 : Nat) (x5 : Int32) (hd0 : d < 64) (hw0 : w < 65536) (hc1 : c1 < 65536) (hq : dsP L (opMk L d w c1) (pMk L d) r) : MuI l y_Mod_does w_Mod_does ({ frames := 7, cells := 0, slots := 0, locals := 170 }) [.ref (g 20), .int (nI 0), .int (nI d), .int (nI w), .int (nI c1), .int (x5)] D cl5 (tyC k) (wM g k L r) (wM g k L ((dsR L (opMk L d w c1) r).2)) ((dsR L (opMk L d w c1) r).1) := by
  intro sz
  refine Met.ofW (cc := b_Mod_does) (maxL := 7) (ret := (some .int)) (by decide) rfl ?_
  intro p9 e9 s m args9 below9 meth9 c9 s₁ B hml hv
  obtain ⟨rfl, hsz, hP, hK, hD0⟩ := hv
  have hx := B.exec
  have hb := B.bytes
  have hr := B.returns
  have hts := atoms_spec (ws := w_Mod_does) B.pre
  have hTB : ∀ w ∈ lw_tb, w.before _ s = true := fun w h => hts w (List.mem_cons_of_mem _ h)
  have hown : s.vm.findClass R_Mod = some m.cls := findClass_of_methodNamed B.named
  have hlocks := B.notSynchronized
  subst hsz
  have hD := hD0.self (sz := s.heap.size)
  generalize hAe : va_A (wM g k L r) s.heap.size = A at hD ⊢
  have hA : ∀ q : Nat, s.heap.size ≤ q → A q := fun q h => by rw [← hAe]; exact Or.inr h
  have hS : va_S A s.heap s.heap [] := va_S.rf
  have hl := lv_entry ([.ref (g 20), .int (nI 0), .int (nI d), .int (nI w), .int (nI c1), .int (x5)]) (n := 7) (Nat.le_of_ble_eq_true rfl)
  rw [lg_entry_eq]
  generalize (lg_sl ([.ref (g 20), .int (nI 0), .int (nI d), .int (nI w), .int (nI c1), .int (x5)]) ++ List.replicate (7 - (lg_sl ([.ref (g 20), .int (nI 0), .int (nI d), .int (nI w), .int (nI c1), .int (x5)])).length) Slot.unset).toArray = ls at hl ⊢
  have hl : lv_has ls 7 [(0, .ref (g 20)), (1, .int (nI 0)), (2, .int (nI d)), (3, .int (nI w)), (4, .int (nI c1)), (5, .int (x5))] := hl
  refine lv_aload_n hx hb d_Mod_does_0 rfl (lv_at hl 0 rfl) ?_
  refine gz_muV (As := []) (rest := []) (wc := (wM g k L r)) (w1 := (wM g k L (ksR r))) (wr := []) ⟨hx, hb, hml, hown, hTB⟩ (c_Mod_keepsAside l D g k L hL0 hL r hrB ) (cwV 0 hTB (gd_V k_718 k_720 k_23 k_56 k_721) rfl rfl rfl (by decide +kernel) ⟨Nat.le_of_ble_eq_true rfl, Nat.le_of_ble_eq_true rfl⟩) hK hP hD hA [0, 1, 2, 3, 4, 5, 6, 7, 8, 9, 10] [] rfl rfl (by decide) rfl (by decide) (by decide) 0 rfl rfl rfl hl.1 rfl (Nat.le_of_ble_eq_true rfl) d_Mod_does_1 ⟨Nat.zero_le _, Nat.zero_le _⟩ hS (fun H locs hP hD hS => ?_)
  have hP : va_P D cl5 (wM g k L (ksR r)) H := hP
  have hD : va_D A (wM g k L (ksR r)) := hD
  have hrB := ks_B hrB
  have hp := hq.1
  refine lv_aload_n hx hb d_Mod_does_4 rfl (lv_at hl 0 rfl) ?_
  refine lv_iload_n hx hb d_Mod_does_5 rfl (lv_at hl 1 rfl) ?_
  refine lv_iload_n hx hb d_Mod_does_6 rfl (lv_at hl 2 rfl) ?_
  refine lv_iload_n hx hb d_Mod_does_7 rfl (lv_at hl 3 rfl) ?_
  refine lv_iload hx hb d_Mod_does_8 (lv_at hl 4 rfl) ?_
  refine lv_iload hx hb d_Mod_does_10 (lv_at hl 5 rfl) ?_
  refine gz_muI (As := [.int (nI 0), .int (nI d), .int (nI w), .int (nI c1), .int (x5)]) (rest := []) (wc := (wM g k L (ksR r))) (w1 := (wM g k L ((opMk L d w c1 (ksR r)).2))) (wr := []) ⟨hx, hb, hml, hown, hTB⟩ (c_Mod_tries_make l D g k L hL0 hL (ksR r) hrB d w c1 x5 (by omega) (by omega) (by omega) hp) (cwV 5 hTB (gd_V k_722 k_724 k_24 k_56 k_725) rfl rfl rfl (by decide +kernel) ⟨Nat.le_of_ble_eq_true rfl, Nat.le_of_ble_eq_true rfl⟩) hK hP hD hA [0, 1, 2, 3, 4, 5, 6, 7, 8, 9, 10] [] rfl rfl (by decide) rfl (by decide) (by decide) 0 rfl rfl rfl hl.1 rfl (Nat.le_of_ble_eq_true rfl) d_Mod_does_12 ⟨Nat.zero_le _, Nat.zero_le _⟩ hS (fun H locs hP hD hS => ?_)
  have hP : va_P D cl5 (wM g k L ((opMk L d w c1 (ksR r)).2)) H := hP
  have hD : va_D A (wM g k L ((opMk L d w c1 (ksR r)).2)) := hD
  have hrB := hq.2.1
  refine lv_istore (lv' := [(6, .int ((opMk L d w c1 (ksR r)).1)), (0, .ref (g 20)), (1, .int (nI 0)), (2, .int (nI d)), (3, .int (nI w)), (4, .int (nI c1)), (5, .int (x5))]) hx hb d_Mod_does_15 hl (by decide) rfl (fun ls hl => ?_)
  refine lv_iload hx hb d_Mod_does_17 (lv_at hl 0 rfl) ?_
  refine lv_if_ge (tgt := 29) hx hb d_Mod_does_19 (by decide) (fun h19 => ?_) (fun h19 => ?_)
  · have hq3 := hq.2.2 h19
    have hX := hq3.1
    refine lv_aload_n hx hb d_Mod_does_29 rfl (lv_at hl 1 rfl) ?_
    refine gz_roV (As := []) (rest := []) (wc := (wM g k L ((opMk L d w c1 (ksR r)).2))) ⟨hx, hb, hml, hown, hTB⟩ (c_Mod_changes l D g k L hL0 hL ((opMk L d w c1 (ksR r)).2) hrB hX) (cwV 0 hTB (gd_V k_621 k_623 k_16 k_56 k_624) rfl rfl rfl (by decide +kernel) ⟨Nat.le_of_ble_eq_true rfl, Nat.le_of_ble_eq_true rfl⟩) hK hP [0, 1, 2, 3, 4, 5, 6, 7, 8, 9, 10] rfl 0 rfl rfl rfl hl.1 rfl (Nat.le_of_ble_eq_true rfl) d_Mod_does_30 ⟨Nat.zero_le _, Nat.zero_le _⟩ hS (fun H locs hP hS => ?_)
    have := chG_le L ((opMk L d w c1 (ksR r)).2) (L - 25) 25
    have : chR L ((opMk L d w c1 (ksR r)).2) ≤ L - 25 := this
    refine lv_bipush (v := nI 24) hx hb d_Mod_does_33 (by decide +kernel) ?_
    refine gz_icmp_gt (tgt := 41) hx hb d_Mod_does_35 (by decide) (by omega) (by omega) (fun h35 => ?_) (fun h35 => ?_)
    · have hq4 := hq3.2.2 h35
      refine lv_aload_n hx hb d_Mod_does_41 rfl (lv_at hl 1 rfl) ?_
      refine gz_muV (As := []) (rest := []) (wc := (wM g k L ((opMk L d w c1 (ksR r)).2))) (w1 := (wM g k L (bbR ((opMk L d w c1 (ksR r)).2)))) (wr := []) ⟨hx, hb, hml, hown, hTB⟩ (c_Mod_bringsBack l D g k L hL0 hL ((opMk L d w c1 (ksR r)).2) hrB ) (cwV 0 hTB (gd_V k_822 k_824 k_49 k_56 k_825) rfl rfl rfl (by decide +kernel) ⟨Nat.le_of_ble_eq_true rfl, Nat.le_of_ble_eq_true rfl⟩) hK hP hD hA [0, 1, 2, 3, 4, 5, 6, 7, 8, 9, 10] [] rfl rfl (by decide) rfl (by decide) (by decide) 0 rfl rfl rfl hl.1 rfl (Nat.le_of_ble_eq_true rfl) d_Mod_does_42 ⟨Nat.zero_le _, Nat.zero_le _⟩ hS (fun H locs hP hD hS => ?_)
      have hP : va_P D cl5 (wM g k L (bbR ((opMk L d w c1 (ksR r)).2))) H := hP
      have hD : va_D A (wM g k L (bbR ((opMk L d w c1 (ksR r)).2))) := hD
      have hrB := bb_B hrB
      have hX := hq3.2.1
      refine lv_aload_n hx hb d_Mod_does_45 rfl (lv_at hl 1 rfl) ?_
      refine gz_muI (As := []) (rest := []) (wc := (wM g k L (bbR ((opMk L d w c1 (ksR r)).2)))) (w1 := (wM g k L (cmR L (bbR ((opMk L d w c1 (ksR r)).2))))) (wr := []) ⟨hx, hb, hml, hown, hTB⟩ (c_Mod_commitsAll l D g k L hL0 hL (bbR ((opMk L d w c1 (ksR r)).2)) hrB hX) (cwV 0 hTB (gd_V k_617 k_619 k_15 k_56 k_620) rfl rfl rfl (by decide +kernel) ⟨Nat.le_of_ble_eq_true rfl, Nat.le_of_ble_eq_true rfl⟩) hK hP hD hA [0, 1, 2, 3, 4, 5, 6, 7, 8, 9, 10] [] rfl rfl (by decide) rfl (by decide) (by decide) 0 rfl rfl rfl hl.1 rfl (Nat.le_of_ble_eq_true rfl) d_Mod_does_46 ⟨Nat.zero_le _, Nat.zero_le _⟩ hS (fun H locs hP hD hS => ?_)
      have hP : va_P D cl5 (wM g k L (cmR L (bbR ((opMk L d w c1 (ksR r)).2)))) H := hP
      have hD : va_D A (wM g k L (cmR L (bbR ((opMk L d w c1 (ksR r)).2)))) := hD
      have hrB : rB (rdR L (opMk L d w c1 (ksR r)).2) := hq4.1
      refine lv_pop hx hb d_Mod_does_49 rfl ?_
      refine lv_aload_n hx hb d_Mod_does_50 rfl (lv_at hl 1 rfl) ?_
      refine lv_dup hx hb d_Mod_does_51 rfl ?_
      refine va_get (D := D) (ci := 4) (v := .int (rCm (cmR L (bbR ((opMk L d w c1 (ksR r)).2))))) (C := R_Mod) (T := T_Mod) (N := 14) hx hb hTB in_Mod hown hK hP 0 rfl rfl 13 (by decide) (hTB _ k_657) (fun _ h9 => h9) rfl d_Mod_does_52 ?_
      refine lv_iconst (v := nI 1) hx hb d_Mod_does_55 (by decide +kernel) ?_
      refine lv_iadd hx hb d_Mod_does_56 ?_
      refine va_put (D := D) (ci := 4) (v := .int ((rCm (cmR L (bbR ((opMk L d w c1 (ksR r)).2)))) + (nI 1))) (ty := .int) (C := R_Mod) (T := T_Mod) (N := 14) hx hb hTB in_Mod t_Mod t_Mod_ok n_Mod hown hK hP hD hS 0 rfl rfl 13 (by decide) (hTB _ k_657) (fun _ h9 => h9) rfl (by decide +kernel) rfl rfl (Nat.le_of_ble_eq_true rfl) d_Mod_does_57 (fun H locs hP hD hS => ?_)
      have hP : va_P D cl5 (wM g k L (qCm (cmR L (bbR ((opMk L d w c1 (ksR r)).2))) ((rCm (cmR L (bbR ((opMk L d w c1 (ksR r)).2)))) + (nI 1)))) H := hP
      have hD : va_D A (wM g k L (qCm (cmR L (bbR ((opMk L d w c1 (ksR r)).2))) ((rCm (cmR L (bbR ((opMk L d w c1 (ksR r)).2)))) + (nI 1)))) := hD
      have hp := hq4.2
      refine lv_aload_n hx hb d_Mod_does_60 rfl (lv_at hl 1 rfl) ?_
      refine lv_iload_n hx hb d_Mod_does_61 rfl (lv_at hl 2 rfl) ?_
      refine lv_iload_n hx hb d_Mod_does_62 rfl (lv_at hl 3 rfl) ?_
      refine lv_iload_n hx hb d_Mod_does_63 rfl (lv_at hl 4 rfl) ?_
      refine lv_iload hx hb d_Mod_does_64 (lv_at hl 5 rfl) ?_
      refine lv_iload hx hb d_Mod_does_66 (lv_at hl 6 rfl) ?_
      refine gz_muI (As := [.int (nI 0), .int (nI d), .int (nI w), .int (nI c1), .int (x5)]) (rest := []) (wc := (wM g k L (qCm (cmR L (bbR ((opMk L d w c1 (ksR r)).2))) ((rCm (cmR L (bbR ((opMk L d w c1 (ksR r)).2)))) + (nI 1))))) (w1 := (wM g k L ((opMk L d w c1 (qCm (cmR L (bbR ((opMk L d w c1 (ksR r)).2))) ((rCm (cmR L (bbR ((opMk L d w c1 (ksR r)).2)))) + (nI 1)))).2))) (wr := []) ⟨hx, hb, hml, hown, hTB⟩ (c_Mod_tries_make l D g k L hL0 hL (qCm (cmR L (bbR ((opMk L d w c1 (ksR r)).2))) ((rCm (cmR L (bbR ((opMk L d w c1 (ksR r)).2)))) + (nI 1))) hrB d w c1 x5 (by omega) (by omega) (by omega) hp) (cwV 5 hTB (gd_V k_722 k_724 k_24 k_56 k_725) rfl rfl rfl (by decide +kernel) ⟨Nat.le_of_ble_eq_true rfl, Nat.le_of_ble_eq_true rfl⟩) hK hP hD hA [0, 1, 2, 3, 4, 5, 6, 7, 8, 9, 10] [] rfl rfl (by decide) rfl (by decide) (by decide) 0 rfl rfl rfl hl.1 rfl (Nat.le_of_ble_eq_true rfl) d_Mod_does_68 ⟨Nat.zero_le _, Nat.zero_le _⟩ hS (fun H locs hP hD hS => ?_)
      have hP : va_P D cl5 (wM g k L ((opMk L d w c1 (qCm (cmR L (bbR ((opMk L d w c1 (ksR r)).2))) ((rCm (cmR L (bbR ((opMk L d w c1 (ksR r)).2)))) + (nI 1)))).2)) H := hP
      have hD : va_D A (wM g k L ((opMk L d w c1 (qCm (cmR L (bbR ((opMk L d w c1 (ksR r)).2))) ((rCm (cmR L (bbR ((opMk L d w c1 (ksR r)).2)))) + (nI 1)))).2)) := hD
      have hP9 : va_P D cl5 (wM g k L ((dsR L (opMk L d w c1) r).2)) H := (by unfold dsR; rw [if_pos (show 0 ≤ (opMk L d w c1 (ksR r)).1 from h19), if_pos (show 24 < chR L (opMk L d w c1 (ksR r)).2 from h35)]; exact hP)
      have hD9 : va_D A (wM g k L ((dsR L (opMk L d w c1) r).2)) := (by unfold dsR; rw [if_pos (show 0 ≤ (opMk L d w c1 (ksR r)).1 from h19), if_pos (show 24 < chR L (opMk L d w c1 (ksR r)).2 from h35)]; exact hD)
      exact W.iret (v := (opMk L d w c1 (qCm (cmR L (bbR ((opMk L d w c1 (ksR r)).2))) ((rCm (cmR L (bbR ((opMk L d w c1 (ksR r)).2)))) + (nI 1)))).1) hx hb hr (fun tt9 ht9 hW9 => ⟨⟨_, (), rfl, (by unfold dsR; rw [if_pos (show 0 ≤ (opMk L d w c1 (ksR r)).1 from h19), if_pos (show 24 < chR L (opMk L d w c1 (ksR r)).2 from h35)]; rfl), ⟨by rw [ht9]; exact hP9, hD9⟩⟩, hS.F ht9⟩) hS.2.2 d_Mod_does_71
    · refine lv_iload hx hb d_Mod_does_38 (lv_at hl 0 rfl) ?_
      have hP9 : va_P D cl5 (wM g k L ((dsR L (opMk L d w c1) r).2)) H := (by unfold dsR; rw [if_pos (show 0 ≤ (opMk L d w c1 (ksR r)).1 from h19), if_neg (show ¬ 24 < chR L (opMk L d w c1 (ksR r)).2 from Nat.not_lt.mpr h35)]; exact hP)
      have hD9 : va_D A (wM g k L ((dsR L (opMk L d w c1) r).2)) := (by unfold dsR; rw [if_pos (show 0 ≤ (opMk L d w c1 (ksR r)).1 from h19), if_neg (show ¬ 24 < chR L (opMk L d w c1 (ksR r)).2 from Nat.not_lt.mpr h35)]; exact hD)
      exact W.iret (v := (opMk L d w c1 (ksR r)).1) hx hb hr (fun tt9 ht9 hW9 => ⟨⟨_, (), rfl, (by unfold dsR; rw [if_pos (show 0 ≤ (opMk L d w c1 (ksR r)).1 from h19), if_neg (show ¬ 24 < chR L (opMk L d w c1 (ksR r)).2 from Nat.not_lt.mpr h35)]), ⟨by rw [ht9]; exact hP9, hD9⟩⟩, hS.F ht9⟩) hS.2.2 d_Mod_does_40
  · refine lv_aload_n hx hb d_Mod_does_22 rfl (lv_at hl 1 rfl) ?_
    refine gz_muV (As := []) (rest := []) (wc := (wM g k L ((opMk L d w c1 (ksR r)).2))) (w1 := (wM g k L (bbR ((opMk L d w c1 (ksR r)).2)))) (wr := []) ⟨hx, hb, hml, hown, hTB⟩ (c_Mod_bringsBack l D g k L hL0 hL ((opMk L d w c1 (ksR r)).2) hrB ) (cwV 0 hTB (gd_V k_822 k_824 k_49 k_56 k_825) rfl rfl rfl (by decide +kernel) ⟨Nat.le_of_ble_eq_true rfl, Nat.le_of_ble_eq_true rfl⟩) hK hP hD hA [0, 1, 2, 3, 4, 5, 6, 7, 8, 9, 10] [] rfl rfl (by decide) rfl (by decide) (by decide) 0 rfl rfl rfl hl.1 rfl (Nat.le_of_ble_eq_true rfl) d_Mod_does_23 ⟨Nat.zero_le _, Nat.zero_le _⟩ hS (fun H locs hP hD hS => ?_)
    have hP : va_P D cl5 (wM g k L (bbR ((opMk L d w c1 (ksR r)).2))) H := hP
    have hD : va_D A (wM g k L (bbR ((opMk L d w c1 (ksR r)).2))) := hD
    refine lv_iload hx hb d_Mod_does_26 (lv_at hl 0 rfl) ?_
    have hP9 : va_P D cl5 (wM g k L ((dsR L (opMk L d w c1) r).2)) H := (by unfold dsR; rw [if_neg (show ¬ 0 ≤ (opMk L d w c1 (ksR r)).1 from h19)]; exact hP)
    have hD9 : va_D A (wM g k L ((dsR L (opMk L d w c1) r).2)) := (by unfold dsR; rw [if_neg (show ¬ 0 ≤ (opMk L d w c1 (ksR r)).1 from h19)]; exact hD)
    exact W.iret (v := (opMk L d w c1 (ksR r)).1) hx hb hr (fun tt9 ht9 hW9 => ⟨⟨_, (), rfl, (by unfold dsR; rw [if_neg (show ¬ 0 ≤ (opMk L d w c1 (ksR r)).1 from h19)]), ⟨by rw [ht9]; exact hP9, hD9⟩⟩, hS.F ht9⟩) hS.2.2 d_Mod_does_28
set_option maxHeartbeats 4000000 in
set_option maxRecDepth 100000 in
theorem c_Mod_does_write (l : Launch) (D : va_G) (g : Nat → Nat) (k : Nat → ClassId) (L : Nat) (hL0 : 96 ≤ L) (hL : L ≤ 768) (r : RSt) (hrB : rB r) (i : Nat) (x : Int32) (n : Nat) (x5 : Int32) (hi0 : i < 64) (hn0 : n ≤ 512) (hq : dsP L (opWr L i x n) (pWr L i) r) : MuI l y_Mod_does w_Mod_does ({ frames := 7, cells := 0, slots := 0, locals := 170 }) [.ref (g 20), .int (nI 1), .int (nI i), .int (x), .int (nI n), .int (x5)] D cl5 (tyC k) (wM g k L r) (wM g k L ((dsR L (opWr L i x n) r).2)) ((dsR L (opWr L i x n) r).1) := by
  intro sz
  refine Met.ofW (cc := b_Mod_does) (maxL := 7) (ret := (some .int)) (by decide) rfl ?_
  intro p9 e9 s m args9 below9 meth9 c9 s₁ B hml hv
  obtain ⟨rfl, hsz, hP, hK, hD0⟩ := hv
  have hx := B.exec
  have hb := B.bytes
  have hr := B.returns
  have hts := atoms_spec (ws := w_Mod_does) B.pre
  have hTB : ∀ w ∈ lw_tb, w.before _ s = true := fun w h => hts w (List.mem_cons_of_mem _ h)
  have hown : s.vm.findClass R_Mod = some m.cls := findClass_of_methodNamed B.named
  have hlocks := B.notSynchronized
  subst hsz
  have hD := hD0.self (sz := s.heap.size)
  generalize hAe : va_A (wM g k L r) s.heap.size = A at hD ⊢
  have hA : ∀ q : Nat, s.heap.size ≤ q → A q := fun q h => by rw [← hAe]; exact Or.inr h
  have hS : va_S A s.heap s.heap [] := va_S.rf
  have hl := lv_entry ([.ref (g 20), .int (nI 1), .int (nI i), .int (x), .int (nI n), .int (x5)]) (n := 7) (Nat.le_of_ble_eq_true rfl)
  rw [lg_entry_eq]
  generalize (lg_sl ([.ref (g 20), .int (nI 1), .int (nI i), .int (x), .int (nI n), .int (x5)]) ++ List.replicate (7 - (lg_sl ([.ref (g 20), .int (nI 1), .int (nI i), .int (x), .int (nI n), .int (x5)])).length) Slot.unset).toArray = ls at hl ⊢
  have hl : lv_has ls 7 [(0, .ref (g 20)), (1, .int (nI 1)), (2, .int (nI i)), (3, .int (x)), (4, .int (nI n)), (5, .int (x5))] := hl
  refine lv_aload_n hx hb d_Mod_does_0 rfl (lv_at hl 0 rfl) ?_
  refine gz_muV (As := []) (rest := []) (wc := (wM g k L r)) (w1 := (wM g k L (ksR r))) (wr := []) ⟨hx, hb, hml, hown, hTB⟩ (c_Mod_keepsAside l D g k L hL0 hL r hrB ) (cwV 0 hTB (gd_V k_718 k_720 k_23 k_56 k_721) rfl rfl rfl (by decide +kernel) ⟨Nat.le_of_ble_eq_true rfl, Nat.le_of_ble_eq_true rfl⟩) hK hP hD hA [0, 1, 2, 3, 4, 5, 6, 7, 8, 9, 10] [] rfl rfl (by decide) rfl (by decide) (by decide) 0 rfl rfl rfl hl.1 rfl (Nat.le_of_ble_eq_true rfl) d_Mod_does_1 ⟨Nat.zero_le _, Nat.zero_le _⟩ hS (fun H locs hP hD hS => ?_)
  have hP : va_P D cl5 (wM g k L (ksR r)) H := hP
  have hD : va_D A (wM g k L (ksR r)) := hD
  have hrB := ks_B hrB
  have hp := hq.1
  refine lv_aload_n hx hb d_Mod_does_4 rfl (lv_at hl 0 rfl) ?_
  refine lv_iload_n hx hb d_Mod_does_5 rfl (lv_at hl 1 rfl) ?_
  refine lv_iload_n hx hb d_Mod_does_6 rfl (lv_at hl 2 rfl) ?_
  refine lv_iload_n hx hb d_Mod_does_7 rfl (lv_at hl 3 rfl) ?_
  refine lv_iload hx hb d_Mod_does_8 (lv_at hl 4 rfl) ?_
  refine lv_iload hx hb d_Mod_does_10 (lv_at hl 5 rfl) ?_
  refine gz_muI (As := [.int (nI 1), .int (nI i), .int (x), .int (nI n), .int (x5)]) (rest := []) (wc := (wM g k L (ksR r))) (w1 := (wM g k L ((opWr L i x n (ksR r)).2))) (wr := []) ⟨hx, hb, hml, hown, hTB⟩ (c_Mod_tries_write l D g k L hL0 hL (ksR r) hrB i x n x5 (by omega) (by omega) hp) (cwV 5 hTB (gd_V k_722 k_724 k_24 k_56 k_725) rfl rfl rfl (by decide +kernel) ⟨Nat.le_of_ble_eq_true rfl, Nat.le_of_ble_eq_true rfl⟩) hK hP hD hA [0, 1, 2, 3, 4, 5, 6, 7, 8, 9, 10] [] rfl rfl (by decide) rfl (by decide) (by decide) 0 rfl rfl rfl hl.1 rfl (Nat.le_of_ble_eq_true rfl) d_Mod_does_12 ⟨Nat.zero_le _, Nat.zero_le _⟩ hS (fun H locs hP hD hS => ?_)
  have hP : va_P D cl5 (wM g k L ((opWr L i x n (ksR r)).2)) H := hP
  have hD : va_D A (wM g k L ((opWr L i x n (ksR r)).2)) := hD
  have hrB := hq.2.1
  refine lv_istore (lv' := [(6, .int ((opWr L i x n (ksR r)).1)), (0, .ref (g 20)), (1, .int (nI 1)), (2, .int (nI i)), (3, .int (x)), (4, .int (nI n)), (5, .int (x5))]) hx hb d_Mod_does_15 hl (by decide) rfl (fun ls hl => ?_)
  refine lv_iload hx hb d_Mod_does_17 (lv_at hl 0 rfl) ?_
  refine lv_if_ge (tgt := 29) hx hb d_Mod_does_19 (by decide) (fun h19 => ?_) (fun h19 => ?_)
  · have hq3 := hq.2.2 h19
    have hX := hq3.1
    refine lv_aload_n hx hb d_Mod_does_29 rfl (lv_at hl 1 rfl) ?_
    refine gz_roV (As := []) (rest := []) (wc := (wM g k L ((opWr L i x n (ksR r)).2))) ⟨hx, hb, hml, hown, hTB⟩ (c_Mod_changes l D g k L hL0 hL ((opWr L i x n (ksR r)).2) hrB hX) (cwV 0 hTB (gd_V k_621 k_623 k_16 k_56 k_624) rfl rfl rfl (by decide +kernel) ⟨Nat.le_of_ble_eq_true rfl, Nat.le_of_ble_eq_true rfl⟩) hK hP [0, 1, 2, 3, 4, 5, 6, 7, 8, 9, 10] rfl 0 rfl rfl rfl hl.1 rfl (Nat.le_of_ble_eq_true rfl) d_Mod_does_30 ⟨Nat.zero_le _, Nat.zero_le _⟩ hS (fun H locs hP hS => ?_)
    have := chG_le L ((opWr L i x n (ksR r)).2) (L - 25) 25
    have : chR L ((opWr L i x n (ksR r)).2) ≤ L - 25 := this
    refine lv_bipush (v := nI 24) hx hb d_Mod_does_33 (by decide +kernel) ?_
    refine gz_icmp_gt (tgt := 41) hx hb d_Mod_does_35 (by decide) (by omega) (by omega) (fun h35 => ?_) (fun h35 => ?_)
    · have hq4 := hq3.2.2 h35
      refine lv_aload_n hx hb d_Mod_does_41 rfl (lv_at hl 1 rfl) ?_
      refine gz_muV (As := []) (rest := []) (wc := (wM g k L ((opWr L i x n (ksR r)).2))) (w1 := (wM g k L (bbR ((opWr L i x n (ksR r)).2)))) (wr := []) ⟨hx, hb, hml, hown, hTB⟩ (c_Mod_bringsBack l D g k L hL0 hL ((opWr L i x n (ksR r)).2) hrB ) (cwV 0 hTB (gd_V k_822 k_824 k_49 k_56 k_825) rfl rfl rfl (by decide +kernel) ⟨Nat.le_of_ble_eq_true rfl, Nat.le_of_ble_eq_true rfl⟩) hK hP hD hA [0, 1, 2, 3, 4, 5, 6, 7, 8, 9, 10] [] rfl rfl (by decide) rfl (by decide) (by decide) 0 rfl rfl rfl hl.1 rfl (Nat.le_of_ble_eq_true rfl) d_Mod_does_42 ⟨Nat.zero_le _, Nat.zero_le _⟩ hS (fun H locs hP hD hS => ?_)
      have hP : va_P D cl5 (wM g k L (bbR ((opWr L i x n (ksR r)).2))) H := hP
      have hD : va_D A (wM g k L (bbR ((opWr L i x n (ksR r)).2))) := hD
      have hrB := bb_B hrB
      have hX := hq3.2.1
      refine lv_aload_n hx hb d_Mod_does_45 rfl (lv_at hl 1 rfl) ?_
      refine gz_muI (As := []) (rest := []) (wc := (wM g k L (bbR ((opWr L i x n (ksR r)).2)))) (w1 := (wM g k L (cmR L (bbR ((opWr L i x n (ksR r)).2))))) (wr := []) ⟨hx, hb, hml, hown, hTB⟩ (c_Mod_commitsAll l D g k L hL0 hL (bbR ((opWr L i x n (ksR r)).2)) hrB hX) (cwV 0 hTB (gd_V k_617 k_619 k_15 k_56 k_620) rfl rfl rfl (by decide +kernel) ⟨Nat.le_of_ble_eq_true rfl, Nat.le_of_ble_eq_true rfl⟩) hK hP hD hA [0, 1, 2, 3, 4, 5, 6, 7, 8, 9, 10] [] rfl rfl (by decide) rfl (by decide) (by decide) 0 rfl rfl rfl hl.1 rfl (Nat.le_of_ble_eq_true rfl) d_Mod_does_46 ⟨Nat.zero_le _, Nat.zero_le _⟩ hS (fun H locs hP hD hS => ?_)
      have hP : va_P D cl5 (wM g k L (cmR L (bbR ((opWr L i x n (ksR r)).2)))) H := hP
      have hD : va_D A (wM g k L (cmR L (bbR ((opWr L i x n (ksR r)).2)))) := hD
      have hrB : rB (rdR L (opWr L i x n (ksR r)).2) := hq4.1
      refine lv_pop hx hb d_Mod_does_49 rfl ?_
      refine lv_aload_n hx hb d_Mod_does_50 rfl (lv_at hl 1 rfl) ?_
      refine lv_dup hx hb d_Mod_does_51 rfl ?_
      refine va_get (D := D) (ci := 4) (v := .int (rCm (cmR L (bbR ((opWr L i x n (ksR r)).2))))) (C := R_Mod) (T := T_Mod) (N := 14) hx hb hTB in_Mod hown hK hP 0 rfl rfl 13 (by decide) (hTB _ k_657) (fun _ h9 => h9) rfl d_Mod_does_52 ?_
      refine lv_iconst (v := nI 1) hx hb d_Mod_does_55 (by decide +kernel) ?_
      refine lv_iadd hx hb d_Mod_does_56 ?_
      refine va_put (D := D) (ci := 4) (v := .int ((rCm (cmR L (bbR ((opWr L i x n (ksR r)).2)))) + (nI 1))) (ty := .int) (C := R_Mod) (T := T_Mod) (N := 14) hx hb hTB in_Mod t_Mod t_Mod_ok n_Mod hown hK hP hD hS 0 rfl rfl 13 (by decide) (hTB _ k_657) (fun _ h9 => h9) rfl (by decide +kernel) rfl rfl (Nat.le_of_ble_eq_true rfl) d_Mod_does_57 (fun H locs hP hD hS => ?_)
      have hP : va_P D cl5 (wM g k L (qCm (cmR L (bbR ((opWr L i x n (ksR r)).2))) ((rCm (cmR L (bbR ((opWr L i x n (ksR r)).2)))) + (nI 1)))) H := hP
      have hD : va_D A (wM g k L (qCm (cmR L (bbR ((opWr L i x n (ksR r)).2))) ((rCm (cmR L (bbR ((opWr L i x n (ksR r)).2)))) + (nI 1)))) := hD
      have hp := hq4.2
      refine lv_aload_n hx hb d_Mod_does_60 rfl (lv_at hl 1 rfl) ?_
      refine lv_iload_n hx hb d_Mod_does_61 rfl (lv_at hl 2 rfl) ?_
      refine lv_iload_n hx hb d_Mod_does_62 rfl (lv_at hl 3 rfl) ?_
      refine lv_iload_n hx hb d_Mod_does_63 rfl (lv_at hl 4 rfl) ?_
      refine lv_iload hx hb d_Mod_does_64 (lv_at hl 5 rfl) ?_
      refine lv_iload hx hb d_Mod_does_66 (lv_at hl 6 rfl) ?_
      refine gz_muI (As := [.int (nI 1), .int (nI i), .int (x), .int (nI n), .int (x5)]) (rest := []) (wc := (wM g k L (qCm (cmR L (bbR ((opWr L i x n (ksR r)).2))) ((rCm (cmR L (bbR ((opWr L i x n (ksR r)).2)))) + (nI 1))))) (w1 := (wM g k L ((opWr L i x n (qCm (cmR L (bbR ((opWr L i x n (ksR r)).2))) ((rCm (cmR L (bbR ((opWr L i x n (ksR r)).2)))) + (nI 1)))).2))) (wr := []) ⟨hx, hb, hml, hown, hTB⟩ (c_Mod_tries_write l D g k L hL0 hL (qCm (cmR L (bbR ((opWr L i x n (ksR r)).2))) ((rCm (cmR L (bbR ((opWr L i x n (ksR r)).2)))) + (nI 1))) hrB i x n x5 (by omega) (by omega) hp) (cwV 5 hTB (gd_V k_722 k_724 k_24 k_56 k_725) rfl rfl rfl (by decide +kernel) ⟨Nat.le_of_ble_eq_true rfl, Nat.le_of_ble_eq_true rfl⟩) hK hP hD hA [0, 1, 2, 3, 4, 5, 6, 7, 8, 9, 10] [] rfl rfl (by decide) rfl (by decide) (by decide) 0 rfl rfl rfl hl.1 rfl (Nat.le_of_ble_eq_true rfl) d_Mod_does_68 ⟨Nat.zero_le _, Nat.zero_le _⟩ hS (fun H locs hP hD hS => ?_)
      have hP : va_P D cl5 (wM g k L ((opWr L i x n (qCm (cmR L (bbR ((opWr L i x n (ksR r)).2))) ((rCm (cmR L (bbR ((opWr L i x n (ksR r)).2)))) + (nI 1)))).2)) H := hP
      have hD : va_D A (wM g k L ((opWr L i x n (qCm (cmR L (bbR ((opWr L i x n (ksR r)).2))) ((rCm (cmR L (bbR ((opWr L i x n (ksR r)).2)))) + (nI 1)))).2)) := hD
      have hP9 : va_P D cl5 (wM g k L ((dsR L (opWr L i x n) r).2)) H := (by unfold dsR; rw [if_pos (show 0 ≤ (opWr L i x n (ksR r)).1 from h19), if_pos (show 24 < chR L (opWr L i x n (ksR r)).2 from h35)]; exact hP)
      have hD9 : va_D A (wM g k L ((dsR L (opWr L i x n) r).2)) := (by unfold dsR; rw [if_pos (show 0 ≤ (opWr L i x n (ksR r)).1 from h19), if_pos (show 24 < chR L (opWr L i x n (ksR r)).2 from h35)]; exact hD)
      exact W.iret (v := (opWr L i x n (qCm (cmR L (bbR ((opWr L i x n (ksR r)).2))) ((rCm (cmR L (bbR ((opWr L i x n (ksR r)).2)))) + (nI 1)))).1) hx hb hr (fun tt9 ht9 hW9 => ⟨⟨_, (), rfl, (by unfold dsR; rw [if_pos (show 0 ≤ (opWr L i x n (ksR r)).1 from h19), if_pos (show 24 < chR L (opWr L i x n (ksR r)).2 from h35)]; rfl), ⟨by rw [ht9]; exact hP9, hD9⟩⟩, hS.F ht9⟩) hS.2.2 d_Mod_does_71
    · refine lv_iload hx hb d_Mod_does_38 (lv_at hl 0 rfl) ?_
      have hP9 : va_P D cl5 (wM g k L ((dsR L (opWr L i x n) r).2)) H := (by unfold dsR; rw [if_pos (show 0 ≤ (opWr L i x n (ksR r)).1 from h19), if_neg (show ¬ 24 < chR L (opWr L i x n (ksR r)).2 from Nat.not_lt.mpr h35)]; exact hP)
      have hD9 : va_D A (wM g k L ((dsR L (opWr L i x n) r).2)) := (by unfold dsR; rw [if_pos (show 0 ≤ (opWr L i x n (ksR r)).1 from h19), if_neg (show ¬ 24 < chR L (opWr L i x n (ksR r)).2 from Nat.not_lt.mpr h35)]; exact hD)
      exact W.iret (v := (opWr L i x n (ksR r)).1) hx hb hr (fun tt9 ht9 hW9 => ⟨⟨_, (), rfl, (by unfold dsR; rw [if_pos (show 0 ≤ (opWr L i x n (ksR r)).1 from h19), if_neg (show ¬ 24 < chR L (opWr L i x n (ksR r)).2 from Nat.not_lt.mpr h35)]), ⟨by rw [ht9]; exact hP9, hD9⟩⟩, hS.F ht9⟩) hS.2.2 d_Mod_does_40
  · refine lv_aload_n hx hb d_Mod_does_22 rfl (lv_at hl 1 rfl) ?_
    refine gz_muV (As := []) (rest := []) (wc := (wM g k L ((opWr L i x n (ksR r)).2))) (w1 := (wM g k L (bbR ((opWr L i x n (ksR r)).2)))) (wr := []) ⟨hx, hb, hml, hown, hTB⟩ (c_Mod_bringsBack l D g k L hL0 hL ((opWr L i x n (ksR r)).2) hrB ) (cwV 0 hTB (gd_V k_822 k_824 k_49 k_56 k_825) rfl rfl rfl (by decide +kernel) ⟨Nat.le_of_ble_eq_true rfl, Nat.le_of_ble_eq_true rfl⟩) hK hP hD hA [0, 1, 2, 3, 4, 5, 6, 7, 8, 9, 10] [] rfl rfl (by decide) rfl (by decide) (by decide) 0 rfl rfl rfl hl.1 rfl (Nat.le_of_ble_eq_true rfl) d_Mod_does_23 ⟨Nat.zero_le _, Nat.zero_le _⟩ hS (fun H locs hP hD hS => ?_)
    have hP : va_P D cl5 (wM g k L (bbR ((opWr L i x n (ksR r)).2))) H := hP
    have hD : va_D A (wM g k L (bbR ((opWr L i x n (ksR r)).2))) := hD
    refine lv_iload hx hb d_Mod_does_26 (lv_at hl 0 rfl) ?_
    have hP9 : va_P D cl5 (wM g k L ((dsR L (opWr L i x n) r).2)) H := (by unfold dsR; rw [if_neg (show ¬ 0 ≤ (opWr L i x n (ksR r)).1 from h19)]; exact hP)
    have hD9 : va_D A (wM g k L ((dsR L (opWr L i x n) r).2)) := (by unfold dsR; rw [if_neg (show ¬ 0 ≤ (opWr L i x n (ksR r)).1 from h19)]; exact hD)
    exact W.iret (v := (opWr L i x n (ksR r)).1) hx hb hr (fun tt9 ht9 hW9 => ⟨⟨_, (), rfl, (by unfold dsR; rw [if_neg (show ¬ 0 ≤ (opWr L i x n (ksR r)).1 from h19)]), ⟨by rw [ht9]; exact hP9, hD9⟩⟩, hS.F ht9⟩) hS.2.2 d_Mod_does_28
set_option maxHeartbeats 4000000 in
set_option maxRecDepth 100000 in
theorem c_Mod_does_cut (l : Launch) (D : va_G) (g : Nat → Nat) (k : Nat → ClassId) (L : Nat) (hL0 : 96 ≤ L) (hL : L ≤ 768) (r : RSt) (hrB : rB r) (i : Nat) (x x4 x5 : Int32) (hi0 : i < 64) (hq : dsP L (opCt L i x) (pWr L i) r) : MuI l y_Mod_does w_Mod_does ({ frames := 7, cells := 0, slots := 0, locals := 170 }) [.ref (g 20), .int (nI 2), .int (nI i), .int (x), .int (x4), .int (x5)] D cl5 (tyC k) (wM g k L r) (wM g k L ((dsR L (opCt L i x) r).2)) ((dsR L (opCt L i x) r).1) := by
  intro sz
  refine Met.ofW (cc := b_Mod_does) (maxL := 7) (ret := (some .int)) (by decide) rfl ?_
  intro p9 e9 s m args9 below9 meth9 c9 s₁ B hml hv
  obtain ⟨rfl, hsz, hP, hK, hD0⟩ := hv
  have hx := B.exec
  have hb := B.bytes
  have hr := B.returns
  have hts := atoms_spec (ws := w_Mod_does) B.pre
  have hTB : ∀ w ∈ lw_tb, w.before _ s = true := fun w h => hts w (List.mem_cons_of_mem _ h)
  have hown : s.vm.findClass R_Mod = some m.cls := findClass_of_methodNamed B.named
  have hlocks := B.notSynchronized
  subst hsz
  have hD := hD0.self (sz := s.heap.size)
  generalize hAe : va_A (wM g k L r) s.heap.size = A at hD ⊢
  have hA : ∀ q : Nat, s.heap.size ≤ q → A q := fun q h => by rw [← hAe]; exact Or.inr h
  have hS : va_S A s.heap s.heap [] := va_S.rf
  have hl := lv_entry ([.ref (g 20), .int (nI 2), .int (nI i), .int (x), .int (x4), .int (x5)]) (n := 7) (Nat.le_of_ble_eq_true rfl)
  rw [lg_entry_eq]
  generalize (lg_sl ([.ref (g 20), .int (nI 2), .int (nI i), .int (x), .int (x4), .int (x5)]) ++ List.replicate (7 - (lg_sl ([.ref (g 20), .int (nI 2), .int (nI i), .int (x), .int (x4), .int (x5)])).length) Slot.unset).toArray = ls at hl ⊢
  have hl : lv_has ls 7 [(0, .ref (g 20)), (1, .int (nI 2)), (2, .int (nI i)), (3, .int (x)), (4, .int (x4)), (5, .int (x5))] := hl
  refine lv_aload_n hx hb d_Mod_does_0 rfl (lv_at hl 0 rfl) ?_
  refine gz_muV (As := []) (rest := []) (wc := (wM g k L r)) (w1 := (wM g k L (ksR r))) (wr := []) ⟨hx, hb, hml, hown, hTB⟩ (c_Mod_keepsAside l D g k L hL0 hL r hrB ) (cwV 0 hTB (gd_V k_718 k_720 k_23 k_56 k_721) rfl rfl rfl (by decide +kernel) ⟨Nat.le_of_ble_eq_true rfl, Nat.le_of_ble_eq_true rfl⟩) hK hP hD hA [0, 1, 2, 3, 4, 5, 6, 7, 8, 9, 10] [] rfl rfl (by decide) rfl (by decide) (by decide) 0 rfl rfl rfl hl.1 rfl (Nat.le_of_ble_eq_true rfl) d_Mod_does_1 ⟨Nat.zero_le _, Nat.zero_le _⟩ hS (fun H locs hP hD hS => ?_)
  have hP : va_P D cl5 (wM g k L (ksR r)) H := hP
  have hD : va_D A (wM g k L (ksR r)) := hD
  have hrB := ks_B hrB
  have hp := hq.1
  refine lv_aload_n hx hb d_Mod_does_4 rfl (lv_at hl 0 rfl) ?_
  refine lv_iload_n hx hb d_Mod_does_5 rfl (lv_at hl 1 rfl) ?_
  refine lv_iload_n hx hb d_Mod_does_6 rfl (lv_at hl 2 rfl) ?_
  refine lv_iload_n hx hb d_Mod_does_7 rfl (lv_at hl 3 rfl) ?_
  refine lv_iload hx hb d_Mod_does_8 (lv_at hl 4 rfl) ?_
  refine lv_iload hx hb d_Mod_does_10 (lv_at hl 5 rfl) ?_
  refine gz_muI (As := [.int (nI 2), .int (nI i), .int (x), .int (x4), .int (x5)]) (rest := []) (wc := (wM g k L (ksR r))) (w1 := (wM g k L ((opCt L i x (ksR r)).2))) (wr := []) ⟨hx, hb, hml, hown, hTB⟩ (c_Mod_tries_cut l D g k L hL0 hL (ksR r) hrB i x x4 x5 (by omega) hp) (cwV 5 hTB (gd_V k_722 k_724 k_24 k_56 k_725) rfl rfl rfl (by decide +kernel) ⟨Nat.le_of_ble_eq_true rfl, Nat.le_of_ble_eq_true rfl⟩) hK hP hD hA [0, 1, 2, 3, 4, 5, 6, 7, 8, 9, 10] [] rfl rfl (by decide) rfl (by decide) (by decide) 0 rfl rfl rfl hl.1 rfl (Nat.le_of_ble_eq_true rfl) d_Mod_does_12 ⟨Nat.zero_le _, Nat.zero_le _⟩ hS (fun H locs hP hD hS => ?_)
  have hP : va_P D cl5 (wM g k L ((opCt L i x (ksR r)).2)) H := hP
  have hD : va_D A (wM g k L ((opCt L i x (ksR r)).2)) := hD
  have hrB := hq.2.1
  refine lv_istore (lv' := [(6, .int ((opCt L i x (ksR r)).1)), (0, .ref (g 20)), (1, .int (nI 2)), (2, .int (nI i)), (3, .int (x)), (4, .int (x4)), (5, .int (x5))]) hx hb d_Mod_does_15 hl (by decide) rfl (fun ls hl => ?_)
  refine lv_iload hx hb d_Mod_does_17 (lv_at hl 0 rfl) ?_
  refine lv_if_ge (tgt := 29) hx hb d_Mod_does_19 (by decide) (fun h19 => ?_) (fun h19 => ?_)
  · have hq3 := hq.2.2 h19
    have hX := hq3.1
    refine lv_aload_n hx hb d_Mod_does_29 rfl (lv_at hl 1 rfl) ?_
    refine gz_roV (As := []) (rest := []) (wc := (wM g k L ((opCt L i x (ksR r)).2))) ⟨hx, hb, hml, hown, hTB⟩ (c_Mod_changes l D g k L hL0 hL ((opCt L i x (ksR r)).2) hrB hX) (cwV 0 hTB (gd_V k_621 k_623 k_16 k_56 k_624) rfl rfl rfl (by decide +kernel) ⟨Nat.le_of_ble_eq_true rfl, Nat.le_of_ble_eq_true rfl⟩) hK hP [0, 1, 2, 3, 4, 5, 6, 7, 8, 9, 10] rfl 0 rfl rfl rfl hl.1 rfl (Nat.le_of_ble_eq_true rfl) d_Mod_does_30 ⟨Nat.zero_le _, Nat.zero_le _⟩ hS (fun H locs hP hS => ?_)
    have := chG_le L ((opCt L i x (ksR r)).2) (L - 25) 25
    have : chR L ((opCt L i x (ksR r)).2) ≤ L - 25 := this
    refine lv_bipush (v := nI 24) hx hb d_Mod_does_33 (by decide +kernel) ?_
    refine gz_icmp_gt (tgt := 41) hx hb d_Mod_does_35 (by decide) (by omega) (by omega) (fun h35 => ?_) (fun h35 => ?_)
    · have hq4 := hq3.2.2 h35
      refine lv_aload_n hx hb d_Mod_does_41 rfl (lv_at hl 1 rfl) ?_
      refine gz_muV (As := []) (rest := []) (wc := (wM g k L ((opCt L i x (ksR r)).2))) (w1 := (wM g k L (bbR ((opCt L i x (ksR r)).2)))) (wr := []) ⟨hx, hb, hml, hown, hTB⟩ (c_Mod_bringsBack l D g k L hL0 hL ((opCt L i x (ksR r)).2) hrB ) (cwV 0 hTB (gd_V k_822 k_824 k_49 k_56 k_825) rfl rfl rfl (by decide +kernel) ⟨Nat.le_of_ble_eq_true rfl, Nat.le_of_ble_eq_true rfl⟩) hK hP hD hA [0, 1, 2, 3, 4, 5, 6, 7, 8, 9, 10] [] rfl rfl (by decide) rfl (by decide) (by decide) 0 rfl rfl rfl hl.1 rfl (Nat.le_of_ble_eq_true rfl) d_Mod_does_42 ⟨Nat.zero_le _, Nat.zero_le _⟩ hS (fun H locs hP hD hS => ?_)
      have hP : va_P D cl5 (wM g k L (bbR ((opCt L i x (ksR r)).2))) H := hP
      have hD : va_D A (wM g k L (bbR ((opCt L i x (ksR r)).2))) := hD
      have hrB := bb_B hrB
      have hX := hq3.2.1
      refine lv_aload_n hx hb d_Mod_does_45 rfl (lv_at hl 1 rfl) ?_
      refine gz_muI (As := []) (rest := []) (wc := (wM g k L (bbR ((opCt L i x (ksR r)).2)))) (w1 := (wM g k L (cmR L (bbR ((opCt L i x (ksR r)).2))))) (wr := []) ⟨hx, hb, hml, hown, hTB⟩ (c_Mod_commitsAll l D g k L hL0 hL (bbR ((opCt L i x (ksR r)).2)) hrB hX) (cwV 0 hTB (gd_V k_617 k_619 k_15 k_56 k_620) rfl rfl rfl (by decide +kernel) ⟨Nat.le_of_ble_eq_true rfl, Nat.le_of_ble_eq_true rfl⟩) hK hP hD hA [0, 1, 2, 3, 4, 5, 6, 7, 8, 9, 10] [] rfl rfl (by decide) rfl (by decide) (by decide) 0 rfl rfl rfl hl.1 rfl (Nat.le_of_ble_eq_true rfl) d_Mod_does_46 ⟨Nat.zero_le _, Nat.zero_le _⟩ hS (fun H locs hP hD hS => ?_)
      have hP : va_P D cl5 (wM g k L (cmR L (bbR ((opCt L i x (ksR r)).2)))) H := hP
      have hD : va_D A (wM g k L (cmR L (bbR ((opCt L i x (ksR r)).2)))) := hD
      have hrB : rB (rdR L (opCt L i x (ksR r)).2) := hq4.1
      refine lv_pop hx hb d_Mod_does_49 rfl ?_
      refine lv_aload_n hx hb d_Mod_does_50 rfl (lv_at hl 1 rfl) ?_
      refine lv_dup hx hb d_Mod_does_51 rfl ?_
      refine va_get (D := D) (ci := 4) (v := .int (rCm (cmR L (bbR ((opCt L i x (ksR r)).2))))) (C := R_Mod) (T := T_Mod) (N := 14) hx hb hTB in_Mod hown hK hP 0 rfl rfl 13 (by decide) (hTB _ k_657) (fun _ h9 => h9) rfl d_Mod_does_52 ?_
      refine lv_iconst (v := nI 1) hx hb d_Mod_does_55 (by decide +kernel) ?_
      refine lv_iadd hx hb d_Mod_does_56 ?_
      refine va_put (D := D) (ci := 4) (v := .int ((rCm (cmR L (bbR ((opCt L i x (ksR r)).2)))) + (nI 1))) (ty := .int) (C := R_Mod) (T := T_Mod) (N := 14) hx hb hTB in_Mod t_Mod t_Mod_ok n_Mod hown hK hP hD hS 0 rfl rfl 13 (by decide) (hTB _ k_657) (fun _ h9 => h9) rfl (by decide +kernel) rfl rfl (Nat.le_of_ble_eq_true rfl) d_Mod_does_57 (fun H locs hP hD hS => ?_)
      have hP : va_P D cl5 (wM g k L (qCm (cmR L (bbR ((opCt L i x (ksR r)).2))) ((rCm (cmR L (bbR ((opCt L i x (ksR r)).2)))) + (nI 1)))) H := hP
      have hD : va_D A (wM g k L (qCm (cmR L (bbR ((opCt L i x (ksR r)).2))) ((rCm (cmR L (bbR ((opCt L i x (ksR r)).2)))) + (nI 1)))) := hD
      have hp := hq4.2
      refine lv_aload_n hx hb d_Mod_does_60 rfl (lv_at hl 1 rfl) ?_
      refine lv_iload_n hx hb d_Mod_does_61 rfl (lv_at hl 2 rfl) ?_
      refine lv_iload_n hx hb d_Mod_does_62 rfl (lv_at hl 3 rfl) ?_
      refine lv_iload_n hx hb d_Mod_does_63 rfl (lv_at hl 4 rfl) ?_
      refine lv_iload hx hb d_Mod_does_64 (lv_at hl 5 rfl) ?_
      refine lv_iload hx hb d_Mod_does_66 (lv_at hl 6 rfl) ?_
      refine gz_muI (As := [.int (nI 2), .int (nI i), .int (x), .int (x4), .int (x5)]) (rest := []) (wc := (wM g k L (qCm (cmR L (bbR ((opCt L i x (ksR r)).2))) ((rCm (cmR L (bbR ((opCt L i x (ksR r)).2)))) + (nI 1))))) (w1 := (wM g k L ((opCt L i x (qCm (cmR L (bbR ((opCt L i x (ksR r)).2))) ((rCm (cmR L (bbR ((opCt L i x (ksR r)).2)))) + (nI 1)))).2))) (wr := []) ⟨hx, hb, hml, hown, hTB⟩ (c_Mod_tries_cut l D g k L hL0 hL (qCm (cmR L (bbR ((opCt L i x (ksR r)).2))) ((rCm (cmR L (bbR ((opCt L i x (ksR r)).2)))) + (nI 1))) hrB i x x4 x5 (by omega) hp) (cwV 5 hTB (gd_V k_722 k_724 k_24 k_56 k_725) rfl rfl rfl (by decide +kernel) ⟨Nat.le_of_ble_eq_true rfl, Nat.le_of_ble_eq_true rfl⟩) hK hP hD hA [0, 1, 2, 3, 4, 5, 6, 7, 8, 9, 10] [] rfl rfl (by decide) rfl (by decide) (by decide) 0 rfl rfl rfl hl.1 rfl (Nat.le_of_ble_eq_true rfl) d_Mod_does_68 ⟨Nat.zero_le _, Nat.zero_le _⟩ hS (fun H locs hP hD hS => ?_)
      have hP : va_P D cl5 (wM g k L ((opCt L i x (qCm (cmR L (bbR ((opCt L i x (ksR r)).2))) ((rCm (cmR L (bbR ((opCt L i x (ksR r)).2)))) + (nI 1)))).2)) H := hP
      have hD : va_D A (wM g k L ((opCt L i x (qCm (cmR L (bbR ((opCt L i x (ksR r)).2))) ((rCm (cmR L (bbR ((opCt L i x (ksR r)).2)))) + (nI 1)))).2)) := hD
      have hP9 : va_P D cl5 (wM g k L ((dsR L (opCt L i x) r).2)) H := (by unfold dsR; rw [if_pos (show 0 ≤ (opCt L i x (ksR r)).1 from h19), if_pos (show 24 < chR L (opCt L i x (ksR r)).2 from h35)]; exact hP)
      have hD9 : va_D A (wM g k L ((dsR L (opCt L i x) r).2)) := (by unfold dsR; rw [if_pos (show 0 ≤ (opCt L i x (ksR r)).1 from h19), if_pos (show 24 < chR L (opCt L i x (ksR r)).2 from h35)]; exact hD)
      exact W.iret (v := (opCt L i x (qCm (cmR L (bbR ((opCt L i x (ksR r)).2))) ((rCm (cmR L (bbR ((opCt L i x (ksR r)).2)))) + (nI 1)))).1) hx hb hr (fun tt9 ht9 hW9 => ⟨⟨_, (), rfl, (by unfold dsR; rw [if_pos (show 0 ≤ (opCt L i x (ksR r)).1 from h19), if_pos (show 24 < chR L (opCt L i x (ksR r)).2 from h35)]; rfl), ⟨by rw [ht9]; exact hP9, hD9⟩⟩, hS.F ht9⟩) hS.2.2 d_Mod_does_71
    · refine lv_iload hx hb d_Mod_does_38 (lv_at hl 0 rfl) ?_
      have hP9 : va_P D cl5 (wM g k L ((dsR L (opCt L i x) r).2)) H := (by unfold dsR; rw [if_pos (show 0 ≤ (opCt L i x (ksR r)).1 from h19), if_neg (show ¬ 24 < chR L (opCt L i x (ksR r)).2 from Nat.not_lt.mpr h35)]; exact hP)
      have hD9 : va_D A (wM g k L ((dsR L (opCt L i x) r).2)) := (by unfold dsR; rw [if_pos (show 0 ≤ (opCt L i x (ksR r)).1 from h19), if_neg (show ¬ 24 < chR L (opCt L i x (ksR r)).2 from Nat.not_lt.mpr h35)]; exact hD)
      exact W.iret (v := (opCt L i x (ksR r)).1) hx hb hr (fun tt9 ht9 hW9 => ⟨⟨_, (), rfl, (by unfold dsR; rw [if_pos (show 0 ≤ (opCt L i x (ksR r)).1 from h19), if_neg (show ¬ 24 < chR L (opCt L i x (ksR r)).2 from Nat.not_lt.mpr h35)]), ⟨by rw [ht9]; exact hP9, hD9⟩⟩, hS.F ht9⟩) hS.2.2 d_Mod_does_40
  · refine lv_aload_n hx hb d_Mod_does_22 rfl (lv_at hl 1 rfl) ?_
    refine gz_muV (As := []) (rest := []) (wc := (wM g k L ((opCt L i x (ksR r)).2))) (w1 := (wM g k L (bbR ((opCt L i x (ksR r)).2)))) (wr := []) ⟨hx, hb, hml, hown, hTB⟩ (c_Mod_bringsBack l D g k L hL0 hL ((opCt L i x (ksR r)).2) hrB ) (cwV 0 hTB (gd_V k_822 k_824 k_49 k_56 k_825) rfl rfl rfl (by decide +kernel) ⟨Nat.le_of_ble_eq_true rfl, Nat.le_of_ble_eq_true rfl⟩) hK hP hD hA [0, 1, 2, 3, 4, 5, 6, 7, 8, 9, 10] [] rfl rfl (by decide) rfl (by decide) (by decide) 0 rfl rfl rfl hl.1 rfl (Nat.le_of_ble_eq_true rfl) d_Mod_does_23 ⟨Nat.zero_le _, Nat.zero_le _⟩ hS (fun H locs hP hD hS => ?_)
    have hP : va_P D cl5 (wM g k L (bbR ((opCt L i x (ksR r)).2))) H := hP
    have hD : va_D A (wM g k L (bbR ((opCt L i x (ksR r)).2))) := hD
    refine lv_iload hx hb d_Mod_does_26 (lv_at hl 0 rfl) ?_
    have hP9 : va_P D cl5 (wM g k L ((dsR L (opCt L i x) r).2)) H := (by unfold dsR; rw [if_neg (show ¬ 0 ≤ (opCt L i x (ksR r)).1 from h19)]; exact hP)
    have hD9 : va_D A (wM g k L ((dsR L (opCt L i x) r).2)) := (by unfold dsR; rw [if_neg (show ¬ 0 ≤ (opCt L i x (ksR r)).1 from h19)]; exact hD)
    exact W.iret (v := (opCt L i x (ksR r)).1) hx hb hr (fun tt9 ht9 hW9 => ⟨⟨_, (), rfl, (by unfold dsR; rw [if_neg (show ¬ 0 ≤ (opCt L i x (ksR r)).1 from h19)]), ⟨by rw [ht9]; exact hP9, hD9⟩⟩, hS.F ht9⟩) hS.2.2 d_Mod_does_28
set_option maxHeartbeats 4000000 in
set_option maxRecDepth 100000 in
theorem c_Mod_does_move (l : Launch) (D : va_G) (g : Nat → Nat) (k : Nat → ClassId) (L : Nat) (hL0 : 96 ≤ L) (hL : L ≤ 768) (r : RSt) (hrB : rB r) (d w d2 w2 : Nat) (hd0 : d < 64) (hw0 : w < 65536) (hd2 : d2 < 64) (hw2 : w2 < 65536) (hq : dsP L (opMv L d w d2 w2) (pMv L d d2 w2) r) : MuI l y_Mod_does w_Mod_does ({ frames := 7, cells := 0, slots := 0, locals := 170 }) [.ref (g 20), .int (nI 3), .int (nI d), .int (nI w), .int (nI d2), .int (nI w2)] D cl5 (tyC k) (wM g k L r) (wM g k L ((dsR L (opMv L d w d2 w2) r).2)) ((dsR L (opMv L d w d2 w2) r).1) := by
  intro sz
  refine Met.ofW (cc := b_Mod_does) (maxL := 7) (ret := (some .int)) (by decide) rfl ?_
  intro p9 e9 s m args9 below9 meth9 c9 s₁ B hml hv
  obtain ⟨rfl, hsz, hP, hK, hD0⟩ := hv
  have hx := B.exec
  have hb := B.bytes
  have hr := B.returns
  have hts := atoms_spec (ws := w_Mod_does) B.pre
  have hTB : ∀ w ∈ lw_tb, w.before _ s = true := fun w h => hts w (List.mem_cons_of_mem _ h)
  have hown : s.vm.findClass R_Mod = some m.cls := findClass_of_methodNamed B.named
  have hlocks := B.notSynchronized
  subst hsz
  have hD := hD0.self (sz := s.heap.size)
  generalize hAe : va_A (wM g k L r) s.heap.size = A at hD ⊢
  have hA : ∀ q : Nat, s.heap.size ≤ q → A q := fun q h => by rw [← hAe]; exact Or.inr h
  have hS : va_S A s.heap s.heap [] := va_S.rf
  have hl := lv_entry ([.ref (g 20), .int (nI 3), .int (nI d), .int (nI w), .int (nI d2), .int (nI w2)]) (n := 7) (Nat.le_of_ble_eq_true rfl)
  rw [lg_entry_eq]
  generalize (lg_sl ([.ref (g 20), .int (nI 3), .int (nI d), .int (nI w), .int (nI d2), .int (nI w2)]) ++ List.replicate (7 - (lg_sl ([.ref (g 20), .int (nI 3), .int (nI d), .int (nI w), .int (nI d2), .int (nI w2)])).length) Slot.unset).toArray = ls at hl ⊢
  have hl : lv_has ls 7 [(0, .ref (g 20)), (1, .int (nI 3)), (2, .int (nI d)), (3, .int (nI w)), (4, .int (nI d2)), (5, .int (nI w2))] := hl
  refine lv_aload_n hx hb d_Mod_does_0 rfl (lv_at hl 0 rfl) ?_
  refine gz_muV (As := []) (rest := []) (wc := (wM g k L r)) (w1 := (wM g k L (ksR r))) (wr := []) ⟨hx, hb, hml, hown, hTB⟩ (c_Mod_keepsAside l D g k L hL0 hL r hrB ) (cwV 0 hTB (gd_V k_718 k_720 k_23 k_56 k_721) rfl rfl rfl (by decide +kernel) ⟨Nat.le_of_ble_eq_true rfl, Nat.le_of_ble_eq_true rfl⟩) hK hP hD hA [0, 1, 2, 3, 4, 5, 6, 7, 8, 9, 10] [] rfl rfl (by decide) rfl (by decide) (by decide) 0 rfl rfl rfl hl.1 rfl (Nat.le_of_ble_eq_true rfl) d_Mod_does_1 ⟨Nat.zero_le _, Nat.zero_le _⟩ hS (fun H locs hP hD hS => ?_)
  have hP : va_P D cl5 (wM g k L (ksR r)) H := hP
  have hD : va_D A (wM g k L (ksR r)) := hD
  have hrB := ks_B hrB
  have hp := hq.1
  refine lv_aload_n hx hb d_Mod_does_4 rfl (lv_at hl 0 rfl) ?_
  refine lv_iload_n hx hb d_Mod_does_5 rfl (lv_at hl 1 rfl) ?_
  refine lv_iload_n hx hb d_Mod_does_6 rfl (lv_at hl 2 rfl) ?_
  refine lv_iload_n hx hb d_Mod_does_7 rfl (lv_at hl 3 rfl) ?_
  refine lv_iload hx hb d_Mod_does_8 (lv_at hl 4 rfl) ?_
  refine lv_iload hx hb d_Mod_does_10 (lv_at hl 5 rfl) ?_
  refine gz_muI (As := [.int (nI 3), .int (nI d), .int (nI w), .int (nI d2), .int (nI w2)]) (rest := []) (wc := (wM g k L (ksR r))) (w1 := (wM g k L ((opMv L d w d2 w2 (ksR r)).2))) (wr := []) ⟨hx, hb, hml, hown, hTB⟩ (c_Mod_tries_move l D g k L hL0 hL (ksR r) hrB d w d2 w2 (by omega) (by omega) (by omega) (by omega) hp) (cwV 5 hTB (gd_V k_722 k_724 k_24 k_56 k_725) rfl rfl rfl (by decide +kernel) ⟨Nat.le_of_ble_eq_true rfl, Nat.le_of_ble_eq_true rfl⟩) hK hP hD hA [0, 1, 2, 3, 4, 5, 6, 7, 8, 9, 10] [] rfl rfl (by decide) rfl (by decide) (by decide) 0 rfl rfl rfl hl.1 rfl (Nat.le_of_ble_eq_true rfl) d_Mod_does_12 ⟨Nat.zero_le _, Nat.zero_le _⟩ hS (fun H locs hP hD hS => ?_)
  have hP : va_P D cl5 (wM g k L ((opMv L d w d2 w2 (ksR r)).2)) H := hP
  have hD : va_D A (wM g k L ((opMv L d w d2 w2 (ksR r)).2)) := hD
  have hrB := hq.2.1
  refine lv_istore (lv' := [(6, .int ((opMv L d w d2 w2 (ksR r)).1)), (0, .ref (g 20)), (1, .int (nI 3)), (2, .int (nI d)), (3, .int (nI w)), (4, .int (nI d2)), (5, .int (nI w2))]) hx hb d_Mod_does_15 hl (by decide) rfl (fun ls hl => ?_)
  refine lv_iload hx hb d_Mod_does_17 (lv_at hl 0 rfl) ?_
  refine lv_if_ge (tgt := 29) hx hb d_Mod_does_19 (by decide) (fun h19 => ?_) (fun h19 => ?_)
  · have hq3 := hq.2.2 h19
    have hX := hq3.1
    refine lv_aload_n hx hb d_Mod_does_29 rfl (lv_at hl 1 rfl) ?_
    refine gz_roV (As := []) (rest := []) (wc := (wM g k L ((opMv L d w d2 w2 (ksR r)).2))) ⟨hx, hb, hml, hown, hTB⟩ (c_Mod_changes l D g k L hL0 hL ((opMv L d w d2 w2 (ksR r)).2) hrB hX) (cwV 0 hTB (gd_V k_621 k_623 k_16 k_56 k_624) rfl rfl rfl (by decide +kernel) ⟨Nat.le_of_ble_eq_true rfl, Nat.le_of_ble_eq_true rfl⟩) hK hP [0, 1, 2, 3, 4, 5, 6, 7, 8, 9, 10] rfl 0 rfl rfl rfl hl.1 rfl (Nat.le_of_ble_eq_true rfl) d_Mod_does_30 ⟨Nat.zero_le _, Nat.zero_le _⟩ hS (fun H locs hP hS => ?_)
    have := chG_le L ((opMv L d w d2 w2 (ksR r)).2) (L - 25) 25
    have : chR L ((opMv L d w d2 w2 (ksR r)).2) ≤ L - 25 := this
    refine lv_bipush (v := nI 24) hx hb d_Mod_does_33 (by decide +kernel) ?_
    refine gz_icmp_gt (tgt := 41) hx hb d_Mod_does_35 (by decide) (by omega) (by omega) (fun h35 => ?_) (fun h35 => ?_)
    · have hq4 := hq3.2.2 h35
      refine lv_aload_n hx hb d_Mod_does_41 rfl (lv_at hl 1 rfl) ?_
      refine gz_muV (As := []) (rest := []) (wc := (wM g k L ((opMv L d w d2 w2 (ksR r)).2))) (w1 := (wM g k L (bbR ((opMv L d w d2 w2 (ksR r)).2)))) (wr := []) ⟨hx, hb, hml, hown, hTB⟩ (c_Mod_bringsBack l D g k L hL0 hL ((opMv L d w d2 w2 (ksR r)).2) hrB ) (cwV 0 hTB (gd_V k_822 k_824 k_49 k_56 k_825) rfl rfl rfl (by decide +kernel) ⟨Nat.le_of_ble_eq_true rfl, Nat.le_of_ble_eq_true rfl⟩) hK hP hD hA [0, 1, 2, 3, 4, 5, 6, 7, 8, 9, 10] [] rfl rfl (by decide) rfl (by decide) (by decide) 0 rfl rfl rfl hl.1 rfl (Nat.le_of_ble_eq_true rfl) d_Mod_does_42 ⟨Nat.zero_le _, Nat.zero_le _⟩ hS (fun H locs hP hD hS => ?_)
      have hP : va_P D cl5 (wM g k L (bbR ((opMv L d w d2 w2 (ksR r)).2))) H := hP
      have hD : va_D A (wM g k L (bbR ((opMv L d w d2 w2 (ksR r)).2))) := hD
      have hrB := bb_B hrB
      have hX := hq3.2.1
      refine lv_aload_n hx hb d_Mod_does_45 rfl (lv_at hl 1 rfl) ?_
      refine gz_muI (As := []) (rest := []) (wc := (wM g k L (bbR ((opMv L d w d2 w2 (ksR r)).2)))) (w1 := (wM g k L (cmR L (bbR ((opMv L d w d2 w2 (ksR r)).2))))) (wr := []) ⟨hx, hb, hml, hown, hTB⟩ (c_Mod_commitsAll l D g k L hL0 hL (bbR ((opMv L d w d2 w2 (ksR r)).2)) hrB hX) (cwV 0 hTB (gd_V k_617 k_619 k_15 k_56 k_620) rfl rfl rfl (by decide +kernel) ⟨Nat.le_of_ble_eq_true rfl, Nat.le_of_ble_eq_true rfl⟩) hK hP hD hA [0, 1, 2, 3, 4, 5, 6, 7, 8, 9, 10] [] rfl rfl (by decide) rfl (by decide) (by decide) 0 rfl rfl rfl hl.1 rfl (Nat.le_of_ble_eq_true rfl) d_Mod_does_46 ⟨Nat.zero_le _, Nat.zero_le _⟩ hS (fun H locs hP hD hS => ?_)
      have hP : va_P D cl5 (wM g k L (cmR L (bbR ((opMv L d w d2 w2 (ksR r)).2)))) H := hP
      have hD : va_D A (wM g k L (cmR L (bbR ((opMv L d w d2 w2 (ksR r)).2)))) := hD
      have hrB : rB (rdR L (opMv L d w d2 w2 (ksR r)).2) := hq4.1
      refine lv_pop hx hb d_Mod_does_49 rfl ?_
      refine lv_aload_n hx hb d_Mod_does_50 rfl (lv_at hl 1 rfl) ?_
      refine lv_dup hx hb d_Mod_does_51 rfl ?_
      refine va_get (D := D) (ci := 4) (v := .int (rCm (cmR L (bbR ((opMv L d w d2 w2 (ksR r)).2))))) (C := R_Mod) (T := T_Mod) (N := 14) hx hb hTB in_Mod hown hK hP 0 rfl rfl 13 (by decide) (hTB _ k_657) (fun _ h9 => h9) rfl d_Mod_does_52 ?_
      refine lv_iconst (v := nI 1) hx hb d_Mod_does_55 (by decide +kernel) ?_
      refine lv_iadd hx hb d_Mod_does_56 ?_
      refine va_put (D := D) (ci := 4) (v := .int ((rCm (cmR L (bbR ((opMv L d w d2 w2 (ksR r)).2)))) + (nI 1))) (ty := .int) (C := R_Mod) (T := T_Mod) (N := 14) hx hb hTB in_Mod t_Mod t_Mod_ok n_Mod hown hK hP hD hS 0 rfl rfl 13 (by decide) (hTB _ k_657) (fun _ h9 => h9) rfl (by decide +kernel) rfl rfl (Nat.le_of_ble_eq_true rfl) d_Mod_does_57 (fun H locs hP hD hS => ?_)
      have hP : va_P D cl5 (wM g k L (qCm (cmR L (bbR ((opMv L d w d2 w2 (ksR r)).2))) ((rCm (cmR L (bbR ((opMv L d w d2 w2 (ksR r)).2)))) + (nI 1)))) H := hP
      have hD : va_D A (wM g k L (qCm (cmR L (bbR ((opMv L d w d2 w2 (ksR r)).2))) ((rCm (cmR L (bbR ((opMv L d w d2 w2 (ksR r)).2)))) + (nI 1)))) := hD
      have hp := hq4.2
      refine lv_aload_n hx hb d_Mod_does_60 rfl (lv_at hl 1 rfl) ?_
      refine lv_iload_n hx hb d_Mod_does_61 rfl (lv_at hl 2 rfl) ?_
      refine lv_iload_n hx hb d_Mod_does_62 rfl (lv_at hl 3 rfl) ?_
      refine lv_iload_n hx hb d_Mod_does_63 rfl (lv_at hl 4 rfl) ?_
      refine lv_iload hx hb d_Mod_does_64 (lv_at hl 5 rfl) ?_
      refine lv_iload hx hb d_Mod_does_66 (lv_at hl 6 rfl) ?_
      refine gz_muI (As := [.int (nI 3), .int (nI d), .int (nI w), .int (nI d2), .int (nI w2)]) (rest := []) (wc := (wM g k L (qCm (cmR L (bbR ((opMv L d w d2 w2 (ksR r)).2))) ((rCm (cmR L (bbR ((opMv L d w d2 w2 (ksR r)).2)))) + (nI 1))))) (w1 := (wM g k L ((opMv L d w d2 w2 (qCm (cmR L (bbR ((opMv L d w d2 w2 (ksR r)).2))) ((rCm (cmR L (bbR ((opMv L d w d2 w2 (ksR r)).2)))) + (nI 1)))).2))) (wr := []) ⟨hx, hb, hml, hown, hTB⟩ (c_Mod_tries_move l D g k L hL0 hL (qCm (cmR L (bbR ((opMv L d w d2 w2 (ksR r)).2))) ((rCm (cmR L (bbR ((opMv L d w d2 w2 (ksR r)).2)))) + (nI 1))) hrB d w d2 w2 (by omega) (by omega) (by omega) (by omega) hp) (cwV 5 hTB (gd_V k_722 k_724 k_24 k_56 k_725) rfl rfl rfl (by decide +kernel) ⟨Nat.le_of_ble_eq_true rfl, Nat.le_of_ble_eq_true rfl⟩) hK hP hD hA [0, 1, 2, 3, 4, 5, 6, 7, 8, 9, 10] [] rfl rfl (by decide) rfl (by decide) (by decide) 0 rfl rfl rfl hl.1 rfl (Nat.le_of_ble_eq_true rfl) d_Mod_does_68 ⟨Nat.zero_le _, Nat.zero_le _⟩ hS (fun H locs hP hD hS => ?_)
      have hP : va_P D cl5 (wM g k L ((opMv L d w d2 w2 (qCm (cmR L (bbR ((opMv L d w d2 w2 (ksR r)).2))) ((rCm (cmR L (bbR ((opMv L d w d2 w2 (ksR r)).2)))) + (nI 1)))).2)) H := hP
      have hD : va_D A (wM g k L ((opMv L d w d2 w2 (qCm (cmR L (bbR ((opMv L d w d2 w2 (ksR r)).2))) ((rCm (cmR L (bbR ((opMv L d w d2 w2 (ksR r)).2)))) + (nI 1)))).2)) := hD
      have hP9 : va_P D cl5 (wM g k L ((dsR L (opMv L d w d2 w2) r).2)) H := (by unfold dsR; rw [if_pos (show 0 ≤ (opMv L d w d2 w2 (ksR r)).1 from h19), if_pos (show 24 < chR L (opMv L d w d2 w2 (ksR r)).2 from h35)]; exact hP)
      have hD9 : va_D A (wM g k L ((dsR L (opMv L d w d2 w2) r).2)) := (by unfold dsR; rw [if_pos (show 0 ≤ (opMv L d w d2 w2 (ksR r)).1 from h19), if_pos (show 24 < chR L (opMv L d w d2 w2 (ksR r)).2 from h35)]; exact hD)
      exact W.iret (v := (opMv L d w d2 w2 (qCm (cmR L (bbR ((opMv L d w d2 w2 (ksR r)).2))) ((rCm (cmR L (bbR ((opMv L d w d2 w2 (ksR r)).2)))) + (nI 1)))).1) hx hb hr (fun tt9 ht9 hW9 => ⟨⟨_, (), rfl, (by unfold dsR; rw [if_pos (show 0 ≤ (opMv L d w d2 w2 (ksR r)).1 from h19), if_pos (show 24 < chR L (opMv L d w d2 w2 (ksR r)).2 from h35)]; rfl), ⟨by rw [ht9]; exact hP9, hD9⟩⟩, hS.F ht9⟩) hS.2.2 d_Mod_does_71
    · refine lv_iload hx hb d_Mod_does_38 (lv_at hl 0 rfl) ?_
      have hP9 : va_P D cl5 (wM g k L ((dsR L (opMv L d w d2 w2) r).2)) H := (by unfold dsR; rw [if_pos (show 0 ≤ (opMv L d w d2 w2 (ksR r)).1 from h19), if_neg (show ¬ 24 < chR L (opMv L d w d2 w2 (ksR r)).2 from Nat.not_lt.mpr h35)]; exact hP)
      have hD9 : va_D A (wM g k L ((dsR L (opMv L d w d2 w2) r).2)) := (by unfold dsR; rw [if_pos (show 0 ≤ (opMv L d w d2 w2 (ksR r)).1 from h19), if_neg (show ¬ 24 < chR L (opMv L d w d2 w2 (ksR r)).2 from Nat.not_lt.mpr h35)]; exact hD)
      exact W.iret (v := (opMv L d w d2 w2 (ksR r)).1) hx hb hr (fun tt9 ht9 hW9 => ⟨⟨_, (), rfl, (by unfold dsR; rw [if_pos (show 0 ≤ (opMv L d w d2 w2 (ksR r)).1 from h19), if_neg (show ¬ 24 < chR L (opMv L d w d2 w2 (ksR r)).2 from Nat.not_lt.mpr h35)]), ⟨by rw [ht9]; exact hP9, hD9⟩⟩, hS.F ht9⟩) hS.2.2 d_Mod_does_40
  · refine lv_aload_n hx hb d_Mod_does_22 rfl (lv_at hl 1 rfl) ?_
    refine gz_muV (As := []) (rest := []) (wc := (wM g k L ((opMv L d w d2 w2 (ksR r)).2))) (w1 := (wM g k L (bbR ((opMv L d w d2 w2 (ksR r)).2)))) (wr := []) ⟨hx, hb, hml, hown, hTB⟩ (c_Mod_bringsBack l D g k L hL0 hL ((opMv L d w d2 w2 (ksR r)).2) hrB ) (cwV 0 hTB (gd_V k_822 k_824 k_49 k_56 k_825) rfl rfl rfl (by decide +kernel) ⟨Nat.le_of_ble_eq_true rfl, Nat.le_of_ble_eq_true rfl⟩) hK hP hD hA [0, 1, 2, 3, 4, 5, 6, 7, 8, 9, 10] [] rfl rfl (by decide) rfl (by decide) (by decide) 0 rfl rfl rfl hl.1 rfl (Nat.le_of_ble_eq_true rfl) d_Mod_does_23 ⟨Nat.zero_le _, Nat.zero_le _⟩ hS (fun H locs hP hD hS => ?_)
    have hP : va_P D cl5 (wM g k L (bbR ((opMv L d w d2 w2 (ksR r)).2))) H := hP
    have hD : va_D A (wM g k L (bbR ((opMv L d w d2 w2 (ksR r)).2))) := hD
    refine lv_iload hx hb d_Mod_does_26 (lv_at hl 0 rfl) ?_
    have hP9 : va_P D cl5 (wM g k L ((dsR L (opMv L d w d2 w2) r).2)) H := (by unfold dsR; rw [if_neg (show ¬ 0 ≤ (opMv L d w d2 w2 (ksR r)).1 from h19)]; exact hP)
    have hD9 : va_D A (wM g k L ((dsR L (opMv L d w d2 w2) r).2)) := (by unfold dsR; rw [if_neg (show ¬ 0 ≤ (opMv L d w d2 w2 (ksR r)).1 from h19)]; exact hD)
    exact W.iret (v := (opMv L d w d2 w2 (ksR r)).1) hx hb hr (fun tt9 ht9 hW9 => ⟨⟨_, (), rfl, (by unfold dsR; rw [if_neg (show ¬ 0 ≤ (opMv L d w d2 w2 (ksR r)).1 from h19)]), ⟨by rw [ht9]; exact hP9, hD9⟩⟩, hS.F ht9⟩) hS.2.2 d_Mod_does_28
set_option maxHeartbeats 4000000 in
set_option maxRecDepth 100000 in
theorem c_Mod_does_remove (l : Launch) (D : va_G) (g : Nat → Nat) (k : Nat → ClassId) (L : Nat) (hL0 : 96 ≤ L) (hL : L ≤ 768) (r : RSt) (hrB : rB r) (d w : Nat) (x4 x5 : Int32) (hd0 : d < 64) (hw0 : w < 65536) (hq : dsP L (opRm d w) (pRm L d w) r) : MuI l y_Mod_does w_Mod_does ({ frames := 7, cells := 0, slots := 0, locals := 170 }) [.ref (g 20), .int (nI 4), .int (nI d), .int (nI w), .int (x4), .int (x5)] D cl5 (tyC k) (wM g k L r) (wM g k L ((dsR L (opRm d w) r).2)) ((dsR L (opRm d w) r).1) := by
  intro sz
  refine Met.ofW (cc := b_Mod_does) (maxL := 7) (ret := (some .int)) (by decide) rfl ?_
  intro p9 e9 s m args9 below9 meth9 c9 s₁ B hml hv
  obtain ⟨rfl, hsz, hP, hK, hD0⟩ := hv
  have hx := B.exec
  have hb := B.bytes
  have hr := B.returns
  have hts := atoms_spec (ws := w_Mod_does) B.pre
  have hTB : ∀ w ∈ lw_tb, w.before _ s = true := fun w h => hts w (List.mem_cons_of_mem _ h)
  have hown : s.vm.findClass R_Mod = some m.cls := findClass_of_methodNamed B.named
  have hlocks := B.notSynchronized
  subst hsz
  have hD := hD0.self (sz := s.heap.size)
  generalize hAe : va_A (wM g k L r) s.heap.size = A at hD ⊢
  have hA : ∀ q : Nat, s.heap.size ≤ q → A q := fun q h => by rw [← hAe]; exact Or.inr h
  have hS : va_S A s.heap s.heap [] := va_S.rf
  have hl := lv_entry ([.ref (g 20), .int (nI 4), .int (nI d), .int (nI w), .int (x4), .int (x5)]) (n := 7) (Nat.le_of_ble_eq_true rfl)
  rw [lg_entry_eq]
  generalize (lg_sl ([.ref (g 20), .int (nI 4), .int (nI d), .int (nI w), .int (x4), .int (x5)]) ++ List.replicate (7 - (lg_sl ([.ref (g 20), .int (nI 4), .int (nI d), .int (nI w), .int (x4), .int (x5)])).length) Slot.unset).toArray = ls at hl ⊢
  have hl : lv_has ls 7 [(0, .ref (g 20)), (1, .int (nI 4)), (2, .int (nI d)), (3, .int (nI w)), (4, .int (x4)), (5, .int (x5))] := hl
  refine lv_aload_n hx hb d_Mod_does_0 rfl (lv_at hl 0 rfl) ?_
  refine gz_muV (As := []) (rest := []) (wc := (wM g k L r)) (w1 := (wM g k L (ksR r))) (wr := []) ⟨hx, hb, hml, hown, hTB⟩ (c_Mod_keepsAside l D g k L hL0 hL r hrB ) (cwV 0 hTB (gd_V k_718 k_720 k_23 k_56 k_721) rfl rfl rfl (by decide +kernel) ⟨Nat.le_of_ble_eq_true rfl, Nat.le_of_ble_eq_true rfl⟩) hK hP hD hA [0, 1, 2, 3, 4, 5, 6, 7, 8, 9, 10] [] rfl rfl (by decide) rfl (by decide) (by decide) 0 rfl rfl rfl hl.1 rfl (Nat.le_of_ble_eq_true rfl) d_Mod_does_1 ⟨Nat.zero_le _, Nat.zero_le _⟩ hS (fun H locs hP hD hS => ?_)
  have hP : va_P D cl5 (wM g k L (ksR r)) H := hP
  have hD : va_D A (wM g k L (ksR r)) := hD
  have hrB := ks_B hrB
  have hp := hq.1
  refine lv_aload_n hx hb d_Mod_does_4 rfl (lv_at hl 0 rfl) ?_
  refine lv_iload_n hx hb d_Mod_does_5 rfl (lv_at hl 1 rfl) ?_
  refine lv_iload_n hx hb d_Mod_does_6 rfl (lv_at hl 2 rfl) ?_
  refine lv_iload_n hx hb d_Mod_does_7 rfl (lv_at hl 3 rfl) ?_
  refine lv_iload hx hb d_Mod_does_8 (lv_at hl 4 rfl) ?_
  refine lv_iload hx hb d_Mod_does_10 (lv_at hl 5 rfl) ?_
  refine gz_muI (As := [.int (nI 4), .int (nI d), .int (nI w), .int (x4), .int (x5)]) (rest := []) (wc := (wM g k L (ksR r))) (w1 := (wM g k L ((opRm d w (ksR r)).2))) (wr := []) ⟨hx, hb, hml, hown, hTB⟩ (c_Mod_tries_remove l D g k L hL0 hL (ksR r) hrB d w x4 x5 (by omega) (by omega) hp) (cwV 5 hTB (gd_V k_722 k_724 k_24 k_56 k_725) rfl rfl rfl (by decide +kernel) ⟨Nat.le_of_ble_eq_true rfl, Nat.le_of_ble_eq_true rfl⟩) hK hP hD hA [0, 1, 2, 3, 4, 5, 6, 7, 8, 9, 10] [] rfl rfl (by decide) rfl (by decide) (by decide) 0 rfl rfl rfl hl.1 rfl (Nat.le_of_ble_eq_true rfl) d_Mod_does_12 ⟨Nat.zero_le _, Nat.zero_le _⟩ hS (fun H locs hP hD hS => ?_)
  have hP : va_P D cl5 (wM g k L ((opRm d w (ksR r)).2)) H := hP
  have hD : va_D A (wM g k L ((opRm d w (ksR r)).2)) := hD
  have hrB := hq.2.1
  refine lv_istore (lv' := [(6, .int ((opRm d w (ksR r)).1)), (0, .ref (g 20)), (1, .int (nI 4)), (2, .int (nI d)), (3, .int (nI w)), (4, .int (x4)), (5, .int (x5))]) hx hb d_Mod_does_15 hl (by decide) rfl (fun ls hl => ?_)
  refine lv_iload hx hb d_Mod_does_17 (lv_at hl 0 rfl) ?_
  refine lv_if_ge (tgt := 29) hx hb d_Mod_does_19 (by decide) (fun h19 => ?_) (fun h19 => ?_)
  · have hq3 := hq.2.2 h19
    have hX := hq3.1
    refine lv_aload_n hx hb d_Mod_does_29 rfl (lv_at hl 1 rfl) ?_
    refine gz_roV (As := []) (rest := []) (wc := (wM g k L ((opRm d w (ksR r)).2))) ⟨hx, hb, hml, hown, hTB⟩ (c_Mod_changes l D g k L hL0 hL ((opRm d w (ksR r)).2) hrB hX) (cwV 0 hTB (gd_V k_621 k_623 k_16 k_56 k_624) rfl rfl rfl (by decide +kernel) ⟨Nat.le_of_ble_eq_true rfl, Nat.le_of_ble_eq_true rfl⟩) hK hP [0, 1, 2, 3, 4, 5, 6, 7, 8, 9, 10] rfl 0 rfl rfl rfl hl.1 rfl (Nat.le_of_ble_eq_true rfl) d_Mod_does_30 ⟨Nat.zero_le _, Nat.zero_le _⟩ hS (fun H locs hP hS => ?_)
    have := chG_le L ((opRm d w (ksR r)).2) (L - 25) 25
    have : chR L ((opRm d w (ksR r)).2) ≤ L - 25 := this
    refine lv_bipush (v := nI 24) hx hb d_Mod_does_33 (by decide +kernel) ?_
    refine gz_icmp_gt (tgt := 41) hx hb d_Mod_does_35 (by decide) (by omega) (by omega) (fun h35 => ?_) (fun h35 => ?_)
    · have hq4 := hq3.2.2 h35
      refine lv_aload_n hx hb d_Mod_does_41 rfl (lv_at hl 1 rfl) ?_
      refine gz_muV (As := []) (rest := []) (wc := (wM g k L ((opRm d w (ksR r)).2))) (w1 := (wM g k L (bbR ((opRm d w (ksR r)).2)))) (wr := []) ⟨hx, hb, hml, hown, hTB⟩ (c_Mod_bringsBack l D g k L hL0 hL ((opRm d w (ksR r)).2) hrB ) (cwV 0 hTB (gd_V k_822 k_824 k_49 k_56 k_825) rfl rfl rfl (by decide +kernel) ⟨Nat.le_of_ble_eq_true rfl, Nat.le_of_ble_eq_true rfl⟩) hK hP hD hA [0, 1, 2, 3, 4, 5, 6, 7, 8, 9, 10] [] rfl rfl (by decide) rfl (by decide) (by decide) 0 rfl rfl rfl hl.1 rfl (Nat.le_of_ble_eq_true rfl) d_Mod_does_42 ⟨Nat.zero_le _, Nat.zero_le _⟩ hS (fun H locs hP hD hS => ?_)
      have hP : va_P D cl5 (wM g k L (bbR ((opRm d w (ksR r)).2))) H := hP
      have hD : va_D A (wM g k L (bbR ((opRm d w (ksR r)).2))) := hD
      have hrB := bb_B hrB
      have hX := hq3.2.1
      refine lv_aload_n hx hb d_Mod_does_45 rfl (lv_at hl 1 rfl) ?_
      refine gz_muI (As := []) (rest := []) (wc := (wM g k L (bbR ((opRm d w (ksR r)).2)))) (w1 := (wM g k L (cmR L (bbR ((opRm d w (ksR r)).2))))) (wr := []) ⟨hx, hb, hml, hown, hTB⟩ (c_Mod_commitsAll l D g k L hL0 hL (bbR ((opRm d w (ksR r)).2)) hrB hX) (cwV 0 hTB (gd_V k_617 k_619 k_15 k_56 k_620) rfl rfl rfl (by decide +kernel) ⟨Nat.le_of_ble_eq_true rfl, Nat.le_of_ble_eq_true rfl⟩) hK hP hD hA [0, 1, 2, 3, 4, 5, 6, 7, 8, 9, 10] [] rfl rfl (by decide) rfl (by decide) (by decide) 0 rfl rfl rfl hl.1 rfl (Nat.le_of_ble_eq_true rfl) d_Mod_does_46 ⟨Nat.zero_le _, Nat.zero_le _⟩ hS (fun H locs hP hD hS => ?_)
      have hP : va_P D cl5 (wM g k L (cmR L (bbR ((opRm d w (ksR r)).2)))) H := hP
      have hD : va_D A (wM g k L (cmR L (bbR ((opRm d w (ksR r)).2)))) := hD
      have hrB : rB (rdR L (opRm d w (ksR r)).2) := hq4.1
      refine lv_pop hx hb d_Mod_does_49 rfl ?_
      refine lv_aload_n hx hb d_Mod_does_50 rfl (lv_at hl 1 rfl) ?_
      refine lv_dup hx hb d_Mod_does_51 rfl ?_
      refine va_get (D := D) (ci := 4) (v := .int (rCm (cmR L (bbR ((opRm d w (ksR r)).2))))) (C := R_Mod) (T := T_Mod) (N := 14) hx hb hTB in_Mod hown hK hP 0 rfl rfl 13 (by decide) (hTB _ k_657) (fun _ h9 => h9) rfl d_Mod_does_52 ?_
      refine lv_iconst (v := nI 1) hx hb d_Mod_does_55 (by decide +kernel) ?_
      refine lv_iadd hx hb d_Mod_does_56 ?_
      refine va_put (D := D) (ci := 4) (v := .int ((rCm (cmR L (bbR ((opRm d w (ksR r)).2)))) + (nI 1))) (ty := .int) (C := R_Mod) (T := T_Mod) (N := 14) hx hb hTB in_Mod t_Mod t_Mod_ok n_Mod hown hK hP hD hS 0 rfl rfl 13 (by decide) (hTB _ k_657) (fun _ h9 => h9) rfl (by decide +kernel) rfl rfl (Nat.le_of_ble_eq_true rfl) d_Mod_does_57 (fun H locs hP hD hS => ?_)
      have hP : va_P D cl5 (wM g k L (qCm (cmR L (bbR ((opRm d w (ksR r)).2))) ((rCm (cmR L (bbR ((opRm d w (ksR r)).2)))) + (nI 1)))) H := hP
      have hD : va_D A (wM g k L (qCm (cmR L (bbR ((opRm d w (ksR r)).2))) ((rCm (cmR L (bbR ((opRm d w (ksR r)).2)))) + (nI 1)))) := hD
      have hp := hq4.2
      refine lv_aload_n hx hb d_Mod_does_60 rfl (lv_at hl 1 rfl) ?_
      refine lv_iload_n hx hb d_Mod_does_61 rfl (lv_at hl 2 rfl) ?_
      refine lv_iload_n hx hb d_Mod_does_62 rfl (lv_at hl 3 rfl) ?_
      refine lv_iload_n hx hb d_Mod_does_63 rfl (lv_at hl 4 rfl) ?_
      refine lv_iload hx hb d_Mod_does_64 (lv_at hl 5 rfl) ?_
      refine lv_iload hx hb d_Mod_does_66 (lv_at hl 6 rfl) ?_
      refine gz_muI (As := [.int (nI 4), .int (nI d), .int (nI w), .int (x4), .int (x5)]) (rest := []) (wc := (wM g k L (qCm (cmR L (bbR ((opRm d w (ksR r)).2))) ((rCm (cmR L (bbR ((opRm d w (ksR r)).2)))) + (nI 1))))) (w1 := (wM g k L ((opRm d w (qCm (cmR L (bbR ((opRm d w (ksR r)).2))) ((rCm (cmR L (bbR ((opRm d w (ksR r)).2)))) + (nI 1)))).2))) (wr := []) ⟨hx, hb, hml, hown, hTB⟩ (c_Mod_tries_remove l D g k L hL0 hL (qCm (cmR L (bbR ((opRm d w (ksR r)).2))) ((rCm (cmR L (bbR ((opRm d w (ksR r)).2)))) + (nI 1))) hrB d w x4 x5 (by omega) (by omega) hp) (cwV 5 hTB (gd_V k_722 k_724 k_24 k_56 k_725) rfl rfl rfl (by decide +kernel) ⟨Nat.le_of_ble_eq_true rfl, Nat.le_of_ble_eq_true rfl⟩) hK hP hD hA [0, 1, 2, 3, 4, 5, 6, 7, 8, 9, 10] [] rfl rfl (by decide) rfl (by decide) (by decide) 0 rfl rfl rfl hl.1 rfl (Nat.le_of_ble_eq_true rfl) d_Mod_does_68 ⟨Nat.zero_le _, Nat.zero_le _⟩ hS (fun H locs hP hD hS => ?_)
      have hP : va_P D cl5 (wM g k L ((opRm d w (qCm (cmR L (bbR ((opRm d w (ksR r)).2))) ((rCm (cmR L (bbR ((opRm d w (ksR r)).2)))) + (nI 1)))).2)) H := hP
      have hD : va_D A (wM g k L ((opRm d w (qCm (cmR L (bbR ((opRm d w (ksR r)).2))) ((rCm (cmR L (bbR ((opRm d w (ksR r)).2)))) + (nI 1)))).2)) := hD
      have hP9 : va_P D cl5 (wM g k L ((dsR L (opRm d w) r).2)) H := (by unfold dsR; rw [if_pos (show 0 ≤ (opRm d w (ksR r)).1 from h19), if_pos (show 24 < chR L (opRm d w (ksR r)).2 from h35)]; exact hP)
      have hD9 : va_D A (wM g k L ((dsR L (opRm d w) r).2)) := (by unfold dsR; rw [if_pos (show 0 ≤ (opRm d w (ksR r)).1 from h19), if_pos (show 24 < chR L (opRm d w (ksR r)).2 from h35)]; exact hD)
      exact W.iret (v := (opRm d w (qCm (cmR L (bbR ((opRm d w (ksR r)).2))) ((rCm (cmR L (bbR ((opRm d w (ksR r)).2)))) + (nI 1)))).1) hx hb hr (fun tt9 ht9 hW9 => ⟨⟨_, (), rfl, (by unfold dsR; rw [if_pos (show 0 ≤ (opRm d w (ksR r)).1 from h19), if_pos (show 24 < chR L (opRm d w (ksR r)).2 from h35)]; rfl), ⟨by rw [ht9]; exact hP9, hD9⟩⟩, hS.F ht9⟩) hS.2.2 d_Mod_does_71
    · refine lv_iload hx hb d_Mod_does_38 (lv_at hl 0 rfl) ?_
      have hP9 : va_P D cl5 (wM g k L ((dsR L (opRm d w) r).2)) H := (by unfold dsR; rw [if_pos (show 0 ≤ (opRm d w (ksR r)).1 from h19), if_neg (show ¬ 24 < chR L (opRm d w (ksR r)).2 from Nat.not_lt.mpr h35)]; exact hP)
      have hD9 : va_D A (wM g k L ((dsR L (opRm d w) r).2)) := (by unfold dsR; rw [if_pos (show 0 ≤ (opRm d w (ksR r)).1 from h19), if_neg (show ¬ 24 < chR L (opRm d w (ksR r)).2 from Nat.not_lt.mpr h35)]; exact hD)
      exact W.iret (v := (opRm d w (ksR r)).1) hx hb hr (fun tt9 ht9 hW9 => ⟨⟨_, (), rfl, (by unfold dsR; rw [if_pos (show 0 ≤ (opRm d w (ksR r)).1 from h19), if_neg (show ¬ 24 < chR L (opRm d w (ksR r)).2 from Nat.not_lt.mpr h35)]), ⟨by rw [ht9]; exact hP9, hD9⟩⟩, hS.F ht9⟩) hS.2.2 d_Mod_does_40
  · refine lv_aload_n hx hb d_Mod_does_22 rfl (lv_at hl 1 rfl) ?_
    refine gz_muV (As := []) (rest := []) (wc := (wM g k L ((opRm d w (ksR r)).2))) (w1 := (wM g k L (bbR ((opRm d w (ksR r)).2)))) (wr := []) ⟨hx, hb, hml, hown, hTB⟩ (c_Mod_bringsBack l D g k L hL0 hL ((opRm d w (ksR r)).2) hrB ) (cwV 0 hTB (gd_V k_822 k_824 k_49 k_56 k_825) rfl rfl rfl (by decide +kernel) ⟨Nat.le_of_ble_eq_true rfl, Nat.le_of_ble_eq_true rfl⟩) hK hP hD hA [0, 1, 2, 3, 4, 5, 6, 7, 8, 9, 10] [] rfl rfl (by decide) rfl (by decide) (by decide) 0 rfl rfl rfl hl.1 rfl (Nat.le_of_ble_eq_true rfl) d_Mod_does_23 ⟨Nat.zero_le _, Nat.zero_le _⟩ hS (fun H locs hP hD hS => ?_)
    have hP : va_P D cl5 (wM g k L (bbR ((opRm d w (ksR r)).2))) H := hP
    have hD : va_D A (wM g k L (bbR ((opRm d w (ksR r)).2))) := hD
    refine lv_iload hx hb d_Mod_does_26 (lv_at hl 0 rfl) ?_
    have hP9 : va_P D cl5 (wM g k L ((dsR L (opRm d w) r).2)) H := (by unfold dsR; rw [if_neg (show ¬ 0 ≤ (opRm d w (ksR r)).1 from h19)]; exact hP)
    have hD9 : va_D A (wM g k L ((dsR L (opRm d w) r).2)) := (by unfold dsR; rw [if_neg (show ¬ 0 ≤ (opRm d w (ksR r)).1 from h19)]; exact hD)
    exact W.iret (v := (opRm d w (ksR r)).1) hx hb hr (fun tt9 ht9 hW9 => ⟨⟨_, (), rfl, (by unfold dsR; rw [if_neg (show ¬ 0 ≤ (opRm d w (ksR r)).1 from h19)]), ⟨by rw [ht9]; exact hP9, hD9⟩⟩, hS.F ht9⟩) hS.2.2 d_Mod_does_28
