theorem d_Mod_thrown_0 : decode b_Mod_thrown 0 = .ok (.aload_n 0, 1) := by decide +kernel
theorem d_Mod_thrown_1 : decode b_Mod_thrown 1 = .ok (.getfield 49, 3) := by decide +kernel
theorem d_Mod_thrown_4 : decode b_Mod_thrown 4 = .ok (.ireturn, 1) := by decide +kernel
set_option maxHeartbeats 4000000 in
set_option maxRecDepth 100000 in
theorem c_Mod_thrown (l : Launch) (D : va_G) (g : Nat → Nat) (k : Nat → ClassId) (L : Nat) (hL0 : 96 ≤ L) (hL : L ≤ 768) (r : RSt) (hrB : rB r) : RoI l y_Mod_thrown w_Mod_thrown ({ frames := 0, cells := 0, slots := 0, locals := 0 }) [.ref (g 20)] (RoP D cl5 (tyC k) (wM g k L r)) (rTh r) := by
  refine Met.ofW (cc := b_Mod_thrown) (maxL := 1) (ret := (some .int)) (by decide) rfl ?_
  intro p e s m args below meth c s₁ B hml hv
  obtain ⟨rfl, hP, hK⟩ := hv
  have hx := B.exec
  have hb := B.bytes
  have hr := B.returns
  have hts := atoms_spec (ws := w_Mod_thrown) B.pre
  have hTB : ∀ w ∈ lw_tb, w.before _ s = true := fun w h => hts w (List.mem_cons_of_mem _ h)
  have hown : s.vm.findClass R_Mod = some m.cls := findClass_of_methodNamed B.named
  have hlocks := B.notSynchronized
  have hS : va_S (fun _ => False) s.heap s.heap [] := va_S.rf
  have hl := lv_entry ([.ref (g 20)]) (n := 1) (Nat.le_of_ble_eq_true rfl)
  rw [lg_entry_eq]
  generalize (lg_sl ([.ref (g 20)]) ++ List.replicate (1 - (lg_sl ([.ref (g 20)])).length) Slot.unset).toArray = ls at hl ⊢
  have hl : lv_has ls 1 [(0, .ref (g 20))] := hl
  refine lv_aload_n hx hb d_Mod_thrown_0 rfl (lv_at hl 0 rfl) ?_
  refine va_get (D := D) (ci := 4) (v := .int (rTh r)) (C := R_Mod) (T := T_Mod) (N := 14) hx hb hTB in_Mod hown hK hP 0 rfl rfl 0 (by decide) (hTB _ k_644) (fun _ h9 => h9) rfl d_Mod_thrown_1 ?_
  exact W.iret (v := rTh r) hx hb hr (fun tt9 ht9 hW9 => ⟨⟨_, (), rfl, rfl, trivial⟩, hS.F ht9⟩) hS.2.2 d_Mod_thrown_4
theorem d_Mod_fails_0 : decode b_Mod_fails 0 = .ok (.aload_n 0, 1) := by decide +kernel
theorem d_Mod_fails_1 : decode b_Mod_fails 1 = .ok (.iload_n 1, 1) := by decide +kernel
theorem d_Mod_fails_2 : decode b_Mod_fails 2 = .ok (.ifCond .eq 7, 3) := by decide +kernel
theorem d_Mod_fails_5 : decode b_Mod_fails 5 = .ok (.iload_n 2, 1) := by decide +kernel
theorem d_Mod_fails_6 : decode b_Mod_fails 6 = .ok (.goto 4, 3) := by decide +kernel
theorem d_Mod_fails_9 : decode b_Mod_fails 9 = .ok (.iconst 0, 1) := by decide +kernel
theorem d_Mod_fails_10 : decode b_Mod_fails 10 = .ok (.putfield 49, 3) := by decide +kernel
theorem d_Mod_fails_13 : decode b_Mod_fails 13 = .ok (.iload_n 1, 1) := by decide +kernel
theorem d_Mod_fails_14 : decode b_Mod_fails 14 = .ok (.ireturn, 1) := by decide +kernel
set_option maxHeartbeats 4000000 in
set_option maxRecDepth 100000 in
theorem c_Mod_fails (l : Launch) (D : va_G) (g : Nat → Nat) (k : Nat → ClassId) (L : Nat) (hL0 : 96 ≤ L) (hL : L ≤ 768) (r : RSt) (hrB : rB r) (b : Bool) (x : Int32) : MuI l y_Mod_fails w_Mod_fails ({ frames := 0, cells := 0, slots := 0, locals := 0 }) [.ref (g 20), .int (zI (b)), .int (x)] D cl5 (tyC k) (wM g k L r) (wM g k L (qTh r (if b then x else nI 0))) (zI b) := by
  intro sz
  refine Met.ofW (cc := b_Mod_fails) (maxL := 3) (ret := (some .boolean)) (by decide) rfl ?_
  intro p e s m args below meth c s₁ B hml hv
  obtain ⟨rfl, hsz, hP, hK, hD0⟩ := hv
  have hx := B.exec
  have hb := B.bytes
  have hr := B.returns
  have hts := atoms_spec (ws := w_Mod_fails) B.pre
  have hTB : ∀ w ∈ lw_tb, w.before _ s = true := fun w h => hts w (List.mem_cons_of_mem _ h)
  have hown : s.vm.findClass R_Mod = some m.cls := findClass_of_methodNamed B.named
  have hlocks := B.notSynchronized
  subst hsz
  have hD := hD0.self (sz := s.heap.size)
  generalize hAe : va_A (wM g k L r) s.heap.size = A at hD ⊢
  have hA : ∀ q : Nat, s.heap.size ≤ q → A q := fun q h => by rw [← hAe]; exact Or.inr h
  have hS : va_S A s.heap s.heap [] := va_S.rf
  have hl := lv_entry ([.ref (g 20), .int (zI (b)), .int (x)]) (n := 3) (Nat.le_of_ble_eq_true rfl)
  rw [lg_entry_eq]
  generalize (lg_sl ([.ref (g 20), .int (zI (b)), .int (x)]) ++ List.replicate (3 - (lg_sl ([.ref (g 20), .int (zI (b)), .int (x)])).length) Slot.unset).toArray = ls at hl ⊢
  have hl : lv_has ls 3 [(0, .ref (g 20)), (1, .int (zI (b))), (2, .int (x))] := hl
  refine lv_aload_n hx hb d_Mod_fails_0 rfl (lv_at hl 0 rfl) ?_
  refine lv_iload_n hx hb d_Mod_fails_1 rfl (lv_at hl 1 rfl) ?_
  refine gz_ifz_eq (tgt := 9) hx hb d_Mod_fails_2 (by decide) (fun h2 => ?_) (fun h2 => ?_)
  · refine lv_iconst (v := nI 0) hx hb d_Mod_fails_9 (by decide +kernel) ?_
    refine va_put (D := D) (ci := 4) (v := .int (nI 0)) (ty := .int) (C := R_Mod) (T := T_Mod) (N := 14) hx hb hTB in_Mod t_Mod t_Mod_ok n_Mod hown hK hP hD hS 0 rfl rfl 0 (by decide) (hTB _ k_644) (fun _ h9 => h9) rfl (by decide +kernel) rfl rfl (Nat.le_of_ble_eq_true rfl) d_Mod_fails_10 (fun H locs hP hD hS => ?_)
    have hP : va_P D cl5 (wM g k L (qTh r (nI 0))) H := hP
    have hD : va_D A (wM g k L (qTh r (nI 0))) := hD
    refine lv_iload_n hx hb d_Mod_fails_13 rfl (lv_at hl 1 rfl) ?_
    have hP9 : va_P D cl5 (wM g k L (qTh r (if b then x else nI 0))) H := (by rw [h2]; exact hP)
    have hD9 : va_D A (wM g k L (qTh r (if b then x else nI 0))) := (by rw [h2]; exact hD)
    exact W.zret (v := zI (b)) (ty := .boolean) hx hb hr (zI_nar _) (fun tt9 ht9 hW9 => ⟨⟨_, (), rfl, rfl, ⟨by rw [ht9]; exact hP9, hD9⟩⟩, hS.F ht9⟩) hS.2.2 d_Mod_fails_14
  · refine lv_iload_n hx hb d_Mod_fails_5 rfl (lv_at hl 2 rfl) ?_
    refine lv_goto (tgt := 10) hx hb d_Mod_fails_6 (by decide) ?_
    refine va_put (D := D) (ci := 4) (v := .int (x)) (ty := .int) (C := R_Mod) (T := T_Mod) (N := 14) hx hb hTB in_Mod t_Mod t_Mod_ok n_Mod hown hK hP hD hS 0 rfl rfl 0 (by decide) (hTB _ k_644) (fun _ h9 => h9) rfl (by decide +kernel) rfl rfl (Nat.le_of_ble_eq_true rfl) d_Mod_fails_10 (fun H locs hP hD hS => ?_)
    have hP : va_P D cl5 (wM g k L (qTh r x)) H := hP
    have hD : va_D A (wM g k L (qTh r x)) := hD
    refine lv_iload_n hx hb d_Mod_fails_13 rfl (lv_at hl 1 rfl) ?_
    have hP9 : va_P D cl5 (wM g k L (qTh r (if b then x else nI 0))) H := (by rw [h2]; exact hP)
    have hD9 : va_D A (wM g k L (qTh r (if b then x else nI 0))) := (by rw [h2]; exact hD)
    exact W.zret (v := zI (b)) (ty := .boolean) hx hb hr (zI_nar _) (fun tt9 ht9 hW9 => ⟨⟨_, (), rfl, rfl, ⟨by rw [ht9]; exact hP9, hD9⟩⟩, hS.F ht9⟩) hS.2.2 d_Mod_fails_14
theorem d_Mod_in_0 : decode b_Mod_in 0 = .ok (.iload_n 0, 1) := by decide +kernel
theorem d_Mod_in_1 : decode b_Mod_in 1 = .ok (.iload_n 1, 1) := by decide +kernel
theorem d_Mod_in_2 : decode b_Mod_in 2 = .ok (.if_icmp .lt 12, 3) := by decide +kernel
theorem d_Mod_in_5 : decode b_Mod_in 5 = .ok (.iload_n 0, 1) := by decide +kernel
theorem d_Mod_in_6 : decode b_Mod_in 6 = .ok (.iload_n 2, 1) := by decide +kernel
theorem d_Mod_in_7 : decode b_Mod_in 7 = .ok (.if_icmp .gt 7, 3) := by decide +kernel
theorem d_Mod_in_10 : decode b_Mod_in 10 = .ok (.iconst 1, 1) := by decide +kernel
theorem d_Mod_in_11 : decode b_Mod_in 11 = .ok (.goto 4, 3) := by decide +kernel
theorem d_Mod_in_14 : decode b_Mod_in 14 = .ok (.iconst 0, 1) := by decide +kernel
theorem d_Mod_in_15 : decode b_Mod_in 15 = .ok (.ireturn, 1) := by decide +kernel
set_option maxHeartbeats 4000000 in
set_option maxRecDepth 100000 in
theorem c_Mod_in (l : Launch) (v x y : Int32) : RoI l y_Mod_in w_Mod_in ({ frames := 0, cells := 0, slots := 0, locals := 0 }) [.int (v), .int (x), .int (y)] (fun _ => True) (zI (inR v x y)) := by
  refine Met.ofW (cc := b_Mod_in) (maxL := 3) (ret := (some .boolean)) (by decide) rfl ?_
  intro p e s m args below meth c s₁ B hml hv
  obtain ⟨rfl, -⟩ := hv
  have hx := B.exec
  have hb := B.bytes
  have hr := B.returns
  have hts := atoms_spec (ws := w_Mod_in) B.pre
  have hTB : ∀ w ∈ lw_tb, w.before _ s = true := fun w h => hts w (List.mem_cons_of_mem _ h)
  have hown : s.vm.findClass R_Mod = some m.cls := findClass_of_methodNamed B.named
  have hlocks := B.notSynchronized
  have hS : va_S (fun _ => False) s.heap s.heap [] := va_S.rf
  have hP : va_P (fun _ => 0, fun _ _ => 0) cl5 [] s.heap := fun k q h => by simp at h
  have hl := lv_entry ([.int (v), .int (x), .int (y)]) (n := 3) (Nat.le_of_ble_eq_true rfl)
  rw [lg_entry_eq]
  generalize (lg_sl ([.int (v), .int (x), .int (y)]) ++ List.replicate (3 - (lg_sl ([.int (v), .int (x), .int (y)])).length) Slot.unset).toArray = ls at hl ⊢
  have hl : lv_has ls 3 [(0, .int (v)), (1, .int (x)), (2, .int (y))] := hl
  refine lv_iload_n hx hb d_Mod_in_0 rfl (lv_at hl 0 rfl) ?_
  refine lv_iload_n hx hb d_Mod_in_1 rfl (lv_at hl 1 rfl) ?_
  refine lv_icmp_lt (tgt := 14) hx hb d_Mod_in_2 (by decide) (fun h2 => ?_) (fun h2 => ?_)
  · refine lv_iconst (v := nI 0) hx hb d_Mod_in_14 (by decide +kernel) ?_
    exact W.zret (v := nI 0) (ty := .boolean) hx hb hr (by decide +kernel) (fun tt9 ht9 hW9 => ⟨⟨_, (), rfl, (by unfold inR; rw [decide_eq_false (fun z => Int32.not_le.mpr h2 z.1)]; rfl), trivial⟩, hS.F ht9⟩) hS.2.2 d_Mod_in_15
  · refine lv_iload_n hx hb d_Mod_in_5 rfl (lv_at hl 0 rfl) ?_
    refine lv_iload_n hx hb d_Mod_in_6 rfl (lv_at hl 2 rfl) ?_
    refine lv_icmp_gt (tgt := 14) hx hb d_Mod_in_7 (by decide) (fun h7 => ?_) (fun h7 => ?_)
    · refine lv_iconst (v := nI 0) hx hb d_Mod_in_14 (by decide +kernel) ?_
      exact W.zret (v := nI 0) (ty := .boolean) hx hb hr (by decide +kernel) (fun tt9 ht9 hW9 => ⟨⟨_, (), rfl, (by unfold inR; first | (rw [decide_eq_false (fun z => Int32.not_le.mpr h7 z.2)]; rfl) | (rw [decide_eq_true ⟨Int32.not_lt.mp h2, Int32.not_lt.mp h7⟩]; rfl)), trivial⟩, hS.F ht9⟩) hS.2.2 d_Mod_in_15
    · refine lv_iconst (v := nI 1) hx hb d_Mod_in_10 (by decide +kernel) ?_
      refine lv_goto (tgt := 15) hx hb d_Mod_in_11 (by decide) ?_
      exact W.zret (v := nI 1) (ty := .boolean) hx hb hr (by decide +kernel) (fun tt9 ht9 hW9 => ⟨⟨_, (), rfl, (by unfold inR; first | (rw [decide_eq_false (fun z => Int32.not_le.mpr h7 z.2)]; rfl) | (rw [decide_eq_true ⟨Int32.not_lt.mp h2, Int32.not_lt.mp h7⟩]; rfl)), trivial⟩, hS.F ht9⟩) hS.2.2 d_Mod_in_15
theorem d_Mod_isBad_0 : decode b_Mod_isBad 0 = .ok (.iload_n 0, 1) := by decide +kernel
theorem d_Mod_isBad_1 : decode b_Mod_isBad 1 = .ok (.iconst 0, 1) := by decide +kernel
theorem d_Mod_isBad_2 : decode b_Mod_isBad 2 = .ok (.bipush 63, 2) := by decide +kernel
theorem d_Mod_isBad_4 : decode b_Mod_isBad 4 = .ok (.invokestatic 127, 3) := by decide +kernel
theorem d_Mod_isBad_7 : decode b_Mod_isBad 7 = .ok (.ifCond .ne 7, 3) := by decide +kernel
theorem d_Mod_isBad_10 : decode b_Mod_isBad 10 = .ok (.iconst 1, 1) := by decide +kernel
theorem d_Mod_isBad_11 : decode b_Mod_isBad 11 = .ok (.goto 4, 3) := by decide +kernel
theorem d_Mod_isBad_14 : decode b_Mod_isBad 14 = .ok (.iconst 0, 1) := by decide +kernel
theorem d_Mod_isBad_15 : decode b_Mod_isBad 15 = .ok (.ireturn, 1) := by decide +kernel
set_option maxHeartbeats 4000000 in
set_option maxRecDepth 100000 in
theorem c_Mod_isBad (l : Launch) (v : Int32) : RoI l y_Mod_isBad w_Mod_isBad ({ frames := 1, cells := 0, slots := 0, locals := 22 }) [.int (v)] (fun _ => True) (zI (!inR v (nI 0) (nI 63))) := by
  refine Met.ofW (cc := b_Mod_isBad) (maxL := 1) (ret := (some .boolean)) (by decide) rfl ?_
  intro p e s m args below meth c s₁ B hml hv
  obtain ⟨rfl, -⟩ := hv
  have hx := B.exec
  have hb := B.bytes
  have hr := B.returns
  have hts := atoms_spec (ws := w_Mod_isBad) B.pre
  have hTB : ∀ w ∈ lw_tb, w.before _ s = true := fun w h => hts w (List.mem_cons_of_mem _ h)
  have hown : s.vm.findClass R_Mod = some m.cls := findClass_of_methodNamed B.named
  have hlocks := B.notSynchronized
  have hS : va_S (fun _ => False) s.heap s.heap [] := va_S.rf
  have hP : va_P (fun _ => 0, fun _ _ => 0) cl5 [] s.heap := fun k q h => by simp at h
  have hl := lv_entry ([.int (v)]) (n := 1) (Nat.le_of_ble_eq_true rfl)
  rw [lg_entry_eq]
  generalize (lg_sl ([.int (v)]) ++ List.replicate (1 - (lg_sl ([.int (v)])).length) Slot.unset).toArray = ls at hl ⊢
  have hl : lv_has ls 1 [(0, .int (v))] := hl
  refine lv_iload_n hx hb d_Mod_isBad_0 rfl (lv_at hl 0 rfl) ?_
  refine lv_iconst (v := nI 0) hx hb d_Mod_isBad_1 (by decide +kernel) ?_
  refine lv_bipush (v := nI 63) hx hb d_Mod_isBad_2 (by decide +kernel) ?_
  refine gz_roS (As := [.int (v), .int (nI 0), .int (nI 63)]) (rest := []) ⟨hx, hb, hml, hown, hTB⟩ (c_Mod_in l v (nI 0) (nI 63)) (cwS 3 hTB (gd_S k_695 k_696 k_56 k_697) rfl rfl rfl (by decide +kernel) ⟨Nat.le_of_ble_eq_true rfl, Nat.le_of_ble_eq_true rfl⟩) hP rfl hl.1 rfl (Nat.le_of_ble_eq_true rfl) d_Mod_isBad_4 ⟨Nat.zero_le _, Nat.zero_le _⟩ hS (fun H locs hP hS => ?_)
  refine gz_ifz_ne (tgt := 14) hx hb d_Mod_isBad_7 (by decide) (fun h7 => ?_) (fun h7 => ?_)
  · refine lv_iconst (v := nI 0) hx hb d_Mod_isBad_14 (by decide +kernel) ?_
    exact W.zret (v := nI 0) (ty := .boolean) hx hb hr (by decide +kernel) (fun tt9 ht9 hW9 => ⟨⟨_, (), rfl, (by rw [h7]; rfl), trivial⟩, hS.F ht9⟩) hS.2.2 d_Mod_isBad_15
  · refine lv_iconst (v := nI 1) hx hb d_Mod_isBad_10 (by decide +kernel) ?_
    refine lv_goto (tgt := 15) hx hb d_Mod_isBad_11 (by decide) ?_
    exact W.zret (v := nI 1) (ty := .boolean) hx hb hr (by decide +kernel) (fun tt9 ht9 hW9 => ⟨⟨_, (), rfl, (by rw [h7]; rfl), trivial⟩, hS.F ht9⟩) hS.2.2 d_Mod_isBad_15
theorem d_Mod_isBadName_0 : decode b_Mod_isBadName 0 = .ok (.iload_n 0, 1) := by decide +kernel
theorem d_Mod_isBadName_1 : decode b_Mod_isBadName 1 = .ok (.iconst 1, 1) := by decide +kernel
theorem d_Mod_isBadName_2 : decode b_Mod_isBadName 2 = .ok (.ldc 179, 2) := by decide +kernel
theorem d_Mod_isBadName_4 : decode b_Mod_isBadName 4 = .ok (.invokestatic 127, 3) := by decide +kernel
theorem d_Mod_isBadName_7 : decode b_Mod_isBadName 7 = .ok (.ifCond .ne 7, 3) := by decide +kernel
theorem d_Mod_isBadName_10 : decode b_Mod_isBadName 10 = .ok (.iconst 1, 1) := by decide +kernel
theorem d_Mod_isBadName_11 : decode b_Mod_isBadName 11 = .ok (.goto 4, 3) := by decide +kernel
theorem d_Mod_isBadName_14 : decode b_Mod_isBadName 14 = .ok (.iconst 0, 1) := by decide +kernel
theorem d_Mod_isBadName_15 : decode b_Mod_isBadName 15 = .ok (.ireturn, 1) := by decide +kernel
set_option maxHeartbeats 4000000 in
set_option maxRecDepth 100000 in
theorem c_Mod_isBadName (l : Launch) (v : Int32) : RoI l y_Mod_isBadName w_Mod_isBadName ({ frames := 1, cells := 0, slots := 0, locals := 22 }) [.int (v)] (fun _ => True) (zI (!inR v (nI 1) (nI 65535))) := by
  refine Met.ofW (cc := b_Mod_isBadName) (maxL := 1) (ret := (some .boolean)) (by decide) rfl ?_
  intro p e s m args below meth c s₁ B hml hv
  obtain ⟨rfl, -⟩ := hv
  have hx := B.exec
  have hb := B.bytes
  have hr := B.returns
  have hts := atoms_spec (ws := w_Mod_isBadName) B.pre
  have hTB : ∀ w ∈ lw_tb, w.before _ s = true := fun w h => hts w (List.mem_cons_of_mem _ h)
  have hown : s.vm.findClass R_Mod = some m.cls := findClass_of_methodNamed B.named
  have hlocks := B.notSynchronized
  have hS : va_S (fun _ => False) s.heap s.heap [] := va_S.rf
  have hP : va_P (fun _ => 0, fun _ _ => 0) cl5 [] s.heap := fun k q h => by simp at h
  have hl := lv_entry ([.int (v)]) (n := 1) (Nat.le_of_ble_eq_true rfl)
  rw [lg_entry_eq]
  generalize (lg_sl ([.int (v)]) ++ List.replicate (1 - (lg_sl ([.int (v)])).length) Slot.unset).toArray = ls at hl ⊢
  have hl : lv_has ls 1 [(0, .int (v))] := hl
  refine lv_iload_n hx hb d_Mod_isBadName_0 rfl (lv_at hl 0 rfl) ?_
  refine lv_iconst (v := nI 1) hx hb d_Mod_isBadName_1 (by decide +kernel) ?_
  refine lv_ldc (v := nI 65535) hx hb hown (hTB _ k_713) d_Mod_isBadName_2 ?_
  refine gz_roS (As := [.int (v), .int (nI 1), .int (nI 65535)]) (rest := []) ⟨hx, hb, hml, hown, hTB⟩ (c_Mod_in l v (nI 1) (nI 65535)) (cwS 3 hTB (gd_S k_695 k_696 k_56 k_697) rfl rfl rfl (by decide +kernel) ⟨Nat.le_of_ble_eq_true rfl, Nat.le_of_ble_eq_true rfl⟩) hP rfl hl.1 rfl (Nat.le_of_ble_eq_true rfl) d_Mod_isBadName_4 ⟨Nat.zero_le _, Nat.zero_le _⟩ hS (fun H locs hP hS => ?_)
  refine gz_ifz_ne (tgt := 14) hx hb d_Mod_isBadName_7 (by decide) (fun h7 => ?_) (fun h7 => ?_)
  · refine lv_iconst (v := nI 0) hx hb d_Mod_isBadName_14 (by decide +kernel) ?_
    exact W.zret (v := nI 0) (ty := .boolean) hx hb hr (by decide +kernel) (fun tt9 ht9 hW9 => ⟨⟨_, (), rfl, (by rw [h7]; rfl), trivial⟩, hS.F ht9⟩) hS.2.2 d_Mod_isBadName_15
  · refine lv_iconst (v := nI 1) hx hb d_Mod_isBadName_10 (by decide +kernel) ?_
    refine lv_goto (tgt := 15) hx hb d_Mod_isBadName_11 (by decide) ?_
    exact W.zret (v := nI 1) (ty := .boolean) hx hb hr (by decide +kernel) (fun tt9 ht9 hW9 => ⟨⟨_, (), rfl, (by rw [h7]; rfl), trivial⟩, hS.F ht9⟩) hS.2.2 d_Mod_isBadName_15
theorem d_Mod_kind_0 : decode b_Mod_kind 0 = .ok (.aload_n 0, 1) := by decide +kernel
theorem d_Mod_kind_1 : decode b_Mod_kind 1 = .ok (.getfield 13, 3) := by decide +kernel
theorem d_Mod_kind_4 : decode b_Mod_kind 4 = .ok (.bipush 20, 2) := by decide +kernel
theorem d_Mod_kind_6 : decode b_Mod_kind 6 = .ok (.iload_n 1, 1) := by decide +kernel
theorem d_Mod_kind_7 : decode b_Mod_kind 7 = .ok (.imul, 1) := by decide +kernel
theorem d_Mod_kind_8 : decode b_Mod_kind 8 = .ok (.iaload, 1) := by decide +kernel
theorem d_Mod_kind_9 : decode b_Mod_kind 9 = .ok (.ireturn, 1) := by decide +kernel
set_option maxHeartbeats 4000000 in
set_option maxRecDepth 100000 in
theorem c_Mod_kind (l : Launch) (D : va_G) (g : Nat → Nat) (k : Nat → ClassId) (L : Nat) (hL0 : 96 ≤ L) (hL : L ≤ 768) (r : RSt) (hrB : rB r) (i : Nat) (hi0 : i < 64) : RoI l y_Mod_kind w_Mod_kind ({ frames := 0, cells := 0, slots := 0, locals := 0 }) [.ref (g 20), .int (nI i)] (RoP D cl5 (tyC k) (wM g k L r)) (nI (rNd r (20 * i))) := by
  refine Met.ofW (cc := b_Mod_kind) (maxL := 2) (ret := (some .int)) (by decide) rfl ?_
  intro p e s m args below meth c s₁ B hml hv
  obtain ⟨rfl, hP, hK⟩ := hv
  have hx := B.exec
  have hb := B.bytes
  have hr := B.returns
  have hts := atoms_spec (ws := w_Mod_kind) B.pre
  have hTB : ∀ w ∈ lw_tb, w.before _ s = true := fun w h => hts w (List.mem_cons_of_mem _ h)
  have hown : s.vm.findClass R_Mod = some m.cls := findClass_of_methodNamed B.named
  have hlocks := B.notSynchronized
  have hS : va_S (fun _ => False) s.heap s.heap [] := va_S.rf
  have hl := lv_entry ([.ref (g 20), .int (nI i)]) (n := 2) (Nat.le_of_ble_eq_true rfl)
  rw [lg_entry_eq]
  generalize (lg_sl ([.ref (g 20), .int (nI i)]) ++ List.replicate (2 - (lg_sl ([.ref (g 20), .int (nI i)])).length) Slot.unset).toArray = ls at hl ⊢
  have hl : lv_has ls 2 [(0, .ref (g 20)), (1, .int (nI i))] := hl
  refine lv_aload_n hx hb d_Mod_kind_0 rfl (lv_at hl 0 rfl) ?_
  refine va_get (D := D) (ci := 4) (v := .ref (g 22)) (C := R_Mod) (T := T_Mod) (N := 14) hx hb hTB in_Mod hown hK hP 0 rfl rfl 4 (by decide) (hTB _ k_648) (fun _ h9 => h9) rfl d_Mod_kind_1 ?_
  refine lv_bipush (v := nI 20) hx hb d_Mod_kind_4 (by decide +kernel) ?_
  refine lv_iload_n hx hb d_Mod_kind_6 rfl (lv_at hl 1 rfl) ?_
  refine gz_imul hx hb d_Mod_kind_7 ?_
  refine gm_ald hx hb hK hP 2 2 rfl rfl (i := 20 * i) (by omega) (by omega) d_Mod_kind_8 ?_
  have := (hrB (20 * i)).2.1
  exact W.iret (v := nI (rNd r (20 * i))) hx hb hr (fun tt9 ht9 hW9 => ⟨⟨_, (), rfl, rfl, trivial⟩, hS.F ht9⟩) hS.2.2 d_Mod_kind_9
theorem d_Mod_sizeOf_0 : decode b_Mod_sizeOf 0 = .ok (.aload_n 0, 1) := by decide +kernel
theorem d_Mod_sizeOf_1 : decode b_Mod_sizeOf 1 = .ok (.getfield 13, 3) := by decide +kernel
theorem d_Mod_sizeOf_4 : decode b_Mod_sizeOf 4 = .ok (.bipush 20, 2) := by decide +kernel
theorem d_Mod_sizeOf_6 : decode b_Mod_sizeOf 6 = .ok (.iload_n 1, 1) := by decide +kernel
theorem d_Mod_sizeOf_7 : decode b_Mod_sizeOf 7 = .ok (.imul, 1) := by decide +kernel
theorem d_Mod_sizeOf_8 : decode b_Mod_sizeOf 8 = .ok (.iconst 1, 1) := by decide +kernel
theorem d_Mod_sizeOf_9 : decode b_Mod_sizeOf 9 = .ok (.iadd, 1) := by decide +kernel
theorem d_Mod_sizeOf_10 : decode b_Mod_sizeOf 10 = .ok (.iaload, 1) := by decide +kernel
theorem d_Mod_sizeOf_11 : decode b_Mod_sizeOf 11 = .ok (.ireturn, 1) := by decide +kernel
set_option maxHeartbeats 4000000 in
set_option maxRecDepth 100000 in
theorem c_Mod_sizeOf (l : Launch) (D : va_G) (g : Nat → Nat) (k : Nat → ClassId) (L : Nat) (hL0 : 96 ≤ L) (hL : L ≤ 768) (r : RSt) (hrB : rB r) (i : Nat) (hi0 : i < 64) : RoI l y_Mod_sizeOf w_Mod_sizeOf ({ frames := 0, cells := 0, slots := 0, locals := 0 }) [.ref (g 20), .int (nI i)] (RoP D cl5 (tyC k) (wM g k L r)) (nI (rNd r (20 * i + 1))) := by
  refine Met.ofW (cc := b_Mod_sizeOf) (maxL := 2) (ret := (some .int)) (by decide) rfl ?_
  intro p e s m args below meth c s₁ B hml hv
  obtain ⟨rfl, hP, hK⟩ := hv
  have hx := B.exec
  have hb := B.bytes
  have hr := B.returns
  have hts := atoms_spec (ws := w_Mod_sizeOf) B.pre
  have hTB : ∀ w ∈ lw_tb, w.before _ s = true := fun w h => hts w (List.mem_cons_of_mem _ h)
  have hown : s.vm.findClass R_Mod = some m.cls := findClass_of_methodNamed B.named
  have hlocks := B.notSynchronized
  have hS : va_S (fun _ => False) s.heap s.heap [] := va_S.rf
  have hl := lv_entry ([.ref (g 20), .int (nI i)]) (n := 2) (Nat.le_of_ble_eq_true rfl)
  rw [lg_entry_eq]
  generalize (lg_sl ([.ref (g 20), .int (nI i)]) ++ List.replicate (2 - (lg_sl ([.ref (g 20), .int (nI i)])).length) Slot.unset).toArray = ls at hl ⊢
  have hl : lv_has ls 2 [(0, .ref (g 20)), (1, .int (nI i))] := hl
  refine lv_aload_n hx hb d_Mod_sizeOf_0 rfl (lv_at hl 0 rfl) ?_
  refine va_get (D := D) (ci := 4) (v := .ref (g 22)) (C := R_Mod) (T := T_Mod) (N := 14) hx hb hTB in_Mod hown hK hP 0 rfl rfl 4 (by decide) (hTB _ k_648) (fun _ h9 => h9) rfl d_Mod_sizeOf_1 ?_
  refine lv_bipush (v := nI 20) hx hb d_Mod_sizeOf_4 (by decide +kernel) ?_
  refine lv_iload_n hx hb d_Mod_sizeOf_6 rfl (lv_at hl 1 rfl) ?_
  refine gz_imul hx hb d_Mod_sizeOf_7 ?_
  refine lv_iconst (v := nI 1) hx hb d_Mod_sizeOf_8 (by decide +kernel) ?_
  refine gz_iadd hx hb d_Mod_sizeOf_9 ?_
  refine gm_ald hx hb hK hP 2 2 rfl rfl (i := (20 * i) + 1) (by omega) (by omega) d_Mod_sizeOf_10 ?_
  have := (hrB ((20 * i) + 1)).2.1
  exact W.iret (v := nI (rNd r ((20 * i) + 1))) hx hb hr (fun tt9 ht9 hW9 => ⟨⟨_, (), rfl, rfl, trivial⟩, hS.F ht9⟩) hS.2.2 d_Mod_sizeOf_11
theorem d_Mod_nodeByte_0 : decode b_Mod_nodeByte 0 = .ok (.bipush 20, 2) := by decide +kernel
theorem d_Mod_nodeByte_2 : decode b_Mod_nodeByte 2 = .ok (.iload_n 1, 1) := by decide +kernel
theorem d_Mod_nodeByte_3 : decode b_Mod_nodeByte 3 = .ok (.imul, 1) := by decide +kernel
theorem d_Mod_nodeByte_4 : decode b_Mod_nodeByte 4 = .ok (.istore_n 3, 1) := by decide +kernel
theorem d_Mod_nodeByte_5 : decode b_Mod_nodeByte 5 = .ok (.iload_n 2, 1) := by decide +kernel
theorem d_Mod_nodeByte_6 : decode b_Mod_nodeByte 6 = .ok (.ifCond .ne 10, 3) := by decide +kernel
theorem d_Mod_nodeByte_9 : decode b_Mod_nodeByte 9 = .ok (.aload_n 0, 1) := by decide +kernel
theorem d_Mod_nodeByte_10 : decode b_Mod_nodeByte 10 = .ok (.getfield 13, 3) := by decide +kernel
theorem d_Mod_nodeByte_13 : decode b_Mod_nodeByte 13 = .ok (.iload_n 3, 1) := by decide +kernel
theorem d_Mod_nodeByte_14 : decode b_Mod_nodeByte 14 = .ok (.iaload, 1) := by decide +kernel
theorem d_Mod_nodeByte_15 : decode b_Mod_nodeByte 15 = .ok (.ireturn, 1) := by decide +kernel
theorem d_Mod_nodeByte_16 : decode b_Mod_nodeByte 16 = .ok (.iload_n 2, 1) := by decide +kernel
theorem d_Mod_nodeByte_17 : decode b_Mod_nodeByte 17 = .ok (.iconst 1, 1) := by decide +kernel
theorem d_Mod_nodeByte_18 : decode b_Mod_nodeByte 18 = .ok (.if_icmp .ne 12, 3) := by decide +kernel
theorem d_Mod_nodeByte_21 : decode b_Mod_nodeByte 21 = .ok (.aload_n 0, 1) := by decide +kernel
theorem d_Mod_nodeByte_22 : decode b_Mod_nodeByte 22 = .ok (.getfield 13, 3) := by decide +kernel
theorem d_Mod_nodeByte_25 : decode b_Mod_nodeByte 25 = .ok (.iload_n 3, 1) := by decide +kernel
theorem d_Mod_nodeByte_26 : decode b_Mod_nodeByte 26 = .ok (.iconst 2, 1) := by decide +kernel
theorem d_Mod_nodeByte_27 : decode b_Mod_nodeByte 27 = .ok (.iadd, 1) := by decide +kernel
theorem d_Mod_nodeByte_28 : decode b_Mod_nodeByte 28 = .ok (.iaload, 1) := by decide +kernel
theorem d_Mod_nodeByte_29 : decode b_Mod_nodeByte 29 = .ok (.ireturn, 1) := by decide +kernel
theorem d_Mod_nodeByte_30 : decode b_Mod_nodeByte 30 = .ok (.iload_n 2, 1) := by decide +kernel
theorem d_Mod_nodeByte_31 : decode b_Mod_nodeByte 31 = .ok (.iconst 4, 1) := by decide +kernel
theorem d_Mod_nodeByte_32 : decode b_Mod_nodeByte 32 = .ok (.if_icmp .ge 23, 3) := by decide +kernel
theorem d_Mod_nodeByte_35 : decode b_Mod_nodeByte 35 = .ok (.aload_n 0, 1) := by decide +kernel
theorem d_Mod_nodeByte_36 : decode b_Mod_nodeByte 36 = .ok (.getfield 13, 3) := by decide +kernel
theorem d_Mod_nodeByte_39 : decode b_Mod_nodeByte 39 = .ok (.iload_n 3, 1) := by decide +kernel
theorem d_Mod_nodeByte_40 : decode b_Mod_nodeByte 40 = .ok (.iconst 1, 1) := by decide +kernel
theorem d_Mod_nodeByte_41 : decode b_Mod_nodeByte 41 = .ok (.iadd, 1) := by decide +kernel
theorem d_Mod_nodeByte_42 : decode b_Mod_nodeByte 42 = .ok (.iaload, 1) := by decide +kernel
theorem d_Mod_nodeByte_43 : decode b_Mod_nodeByte 43 = .ok (.bipush 8, 2) := by decide +kernel
theorem d_Mod_nodeByte_45 : decode b_Mod_nodeByte 45 = .ok (.iload_n 2, 1) := by decide +kernel
theorem d_Mod_nodeByte_46 : decode b_Mod_nodeByte 46 = .ok (.iconst 2, 1) := by decide +kernel
theorem d_Mod_nodeByte_47 : decode b_Mod_nodeByte 47 = .ok (.isub, 1) := by decide +kernel
theorem d_Mod_nodeByte_48 : decode b_Mod_nodeByte 48 = .ok (.imul, 1) := by decide +kernel
theorem d_Mod_nodeByte_49 : decode b_Mod_nodeByte 49 = .ok (.ishr, 1) := by decide +kernel
theorem d_Mod_nodeByte_50 : decode b_Mod_nodeByte 50 = .ok (.sipush 255, 3) := by decide +kernel
theorem d_Mod_nodeByte_53 : decode b_Mod_nodeByte 53 = .ok (.iand, 1) := by decide +kernel
theorem d_Mod_nodeByte_54 : decode b_Mod_nodeByte 54 = .ok (.ireturn, 1) := by decide +kernel
theorem d_Mod_nodeByte_55 : decode b_Mod_nodeByte 55 = .ok (.iload_n 2, 1) := by decide +kernel
theorem d_Mod_nodeByte_56 : decode b_Mod_nodeByte 56 = .ok (.iconst 4, 1) := by decide +kernel
theorem d_Mod_nodeByte_57 : decode b_Mod_nodeByte 57 = .ok (.isub, 1) := by decide +kernel
theorem d_Mod_nodeByte_58 : decode b_Mod_nodeByte 58 = .ok (.iconst 3, 1) := by decide +kernel
theorem d_Mod_nodeByte_59 : decode b_Mod_nodeByte 59 = .ok (.idiv, 1) := by decide +kernel
theorem d_Mod_nodeByte_60 : decode b_Mod_nodeByte 60 = .ok (.istore 4, 2) := by decide +kernel
theorem d_Mod_nodeByte_62 : decode b_Mod_nodeByte 62 = .ok (.iload 4, 2) := by decide +kernel
theorem d_Mod_nodeByte_64 : decode b_Mod_nodeByte 64 = .ok (.aload_n 0, 1) := by decide +kernel
theorem d_Mod_nodeByte_65 : decode b_Mod_nodeByte 65 = .ok (.getfield 13, 3) := by decide +kernel
theorem d_Mod_nodeByte_68 : decode b_Mod_nodeByte 68 = .ok (.iload_n 3, 1) := by decide +kernel
theorem d_Mod_nodeByte_69 : decode b_Mod_nodeByte 69 = .ok (.iconst 2, 1) := by decide +kernel
theorem d_Mod_nodeByte_70 : decode b_Mod_nodeByte 70 = .ok (.iadd, 1) := by decide +kernel
theorem d_Mod_nodeByte_71 : decode b_Mod_nodeByte 71 = .ok (.iaload, 1) := by decide +kernel
theorem d_Mod_nodeByte_72 : decode b_Mod_nodeByte 72 = .ok (.if_icmp .lt 5, 3) := by decide +kernel
theorem d_Mod_nodeByte_75 : decode b_Mod_nodeByte 75 = .ok (.iconst 0, 1) := by decide +kernel
theorem d_Mod_nodeByte_76 : decode b_Mod_nodeByte 76 = .ok (.ireturn, 1) := by decide +kernel
theorem d_Mod_nodeByte_77 : decode b_Mod_nodeByte 77 = .ok (.iload_n 2, 1) := by decide +kernel
theorem d_Mod_nodeByte_78 : decode b_Mod_nodeByte 78 = .ok (.iconst 4, 1) := by decide +kernel
theorem d_Mod_nodeByte_79 : decode b_Mod_nodeByte 79 = .ok (.isub, 1) := by decide +kernel
theorem d_Mod_nodeByte_80 : decode b_Mod_nodeByte 80 = .ok (.iconst 3, 1) := by decide +kernel
theorem d_Mod_nodeByte_81 : decode b_Mod_nodeByte 81 = .ok (.irem, 1) := by decide +kernel
theorem d_Mod_nodeByte_82 : decode b_Mod_nodeByte 82 = .ok (.istore 5, 2) := by decide +kernel
theorem d_Mod_nodeByte_84 : decode b_Mod_nodeByte 84 = .ok (.iload 5, 2) := by decide +kernel
theorem d_Mod_nodeByte_86 : decode b_Mod_nodeByte 86 = .ok (.iconst 2, 1) := by decide +kernel
theorem d_Mod_nodeByte_87 : decode b_Mod_nodeByte 87 = .ok (.if_icmp .ne 19, 3) := by decide +kernel
theorem d_Mod_nodeByte_90 : decode b_Mod_nodeByte 90 = .ok (.aload_n 0, 1) := by decide +kernel
theorem d_Mod_nodeByte_91 : decode b_Mod_nodeByte 91 = .ok (.getfield 13, 3) := by decide +kernel
theorem d_Mod_nodeByte_94 : decode b_Mod_nodeByte 94 = .ok (.iload_n 3, 1) := by decide +kernel
theorem d_Mod_nodeByte_95 : decode b_Mod_nodeByte 95 = .ok (.iconst 4, 1) := by decide +kernel
theorem d_Mod_nodeByte_96 : decode b_Mod_nodeByte 96 = .ok (.iadd, 1) := by decide +kernel
theorem d_Mod_nodeByte_97 : decode b_Mod_nodeByte 97 = .ok (.iconst 2, 1) := by decide +kernel
theorem d_Mod_nodeByte_98 : decode b_Mod_nodeByte 98 = .ok (.iload 4, 2) := by decide +kernel
theorem d_Mod_nodeByte_100 : decode b_Mod_nodeByte 100 = .ok (.imul, 1) := by decide +kernel
theorem d_Mod_nodeByte_101 : decode b_Mod_nodeByte 101 = .ok (.iadd, 1) := by decide +kernel
theorem d_Mod_nodeByte_102 : decode b_Mod_nodeByte 102 = .ok (.iaload, 1) := by decide +kernel
theorem d_Mod_nodeByte_103 : decode b_Mod_nodeByte 103 = .ok (.goto 26, 3) := by decide +kernel
theorem d_Mod_nodeByte_106 : decode b_Mod_nodeByte 106 = .ok (.aload_n 0, 1) := by decide +kernel
theorem d_Mod_nodeByte_107 : decode b_Mod_nodeByte 107 = .ok (.getfield 13, 3) := by decide +kernel
theorem d_Mod_nodeByte_110 : decode b_Mod_nodeByte 110 = .ok (.iload_n 3, 1) := by decide +kernel
theorem d_Mod_nodeByte_111 : decode b_Mod_nodeByte 111 = .ok (.iconst 3, 1) := by decide +kernel
theorem d_Mod_nodeByte_112 : decode b_Mod_nodeByte 112 = .ok (.iadd, 1) := by decide +kernel
theorem d_Mod_nodeByte_113 : decode b_Mod_nodeByte 113 = .ok (.iconst 2, 1) := by decide +kernel
theorem d_Mod_nodeByte_114 : decode b_Mod_nodeByte 114 = .ok (.iload 4, 2) := by decide +kernel
theorem d_Mod_nodeByte_116 : decode b_Mod_nodeByte 116 = .ok (.imul, 1) := by decide +kernel
theorem d_Mod_nodeByte_117 : decode b_Mod_nodeByte 117 = .ok (.iadd, 1) := by decide +kernel
theorem d_Mod_nodeByte_118 : decode b_Mod_nodeByte 118 = .ok (.iaload, 1) := by decide +kernel
theorem d_Mod_nodeByte_119 : decode b_Mod_nodeByte 119 = .ok (.bipush 8, 2) := by decide +kernel
theorem d_Mod_nodeByte_121 : decode b_Mod_nodeByte 121 = .ok (.iload 5, 2) := by decide +kernel
theorem d_Mod_nodeByte_123 : decode b_Mod_nodeByte 123 = .ok (.imul, 1) := by decide +kernel
theorem d_Mod_nodeByte_124 : decode b_Mod_nodeByte 124 = .ok (.ishr, 1) := by decide +kernel
theorem d_Mod_nodeByte_125 : decode b_Mod_nodeByte 125 = .ok (.sipush 255, 3) := by decide +kernel
theorem d_Mod_nodeByte_128 : decode b_Mod_nodeByte 128 = .ok (.iand, 1) := by decide +kernel
theorem d_Mod_nodeByte_129 : decode b_Mod_nodeByte 129 = .ok (.ireturn, 1) := by decide +kernel
set_option maxHeartbeats 4000000 in
set_option maxRecDepth 100000 in
theorem c_Mod_nodeByte (l : Launch) (D : va_G) (g : Nat → Nat) (k : Nat → ClassId) (L : Nat) (hL0 : 96 ≤ L) (hL : L ≤ 768) (r : RSt) (hrB : rB r) (i c0 : Nat) (hi0 : i < 64) (hc0 : c0 < 32) (hX : ∀ i, i < 64 → rNd r (20 * i + 2) ≤ 8) : RoI l y_Mod_nodeByte w_Mod_nodeByte ({ frames := 0, cells := 0, slots := 0, locals := 0 }) [.ref (g 20), .int (nI i), .int (nI c0)] (RoP D cl5 (tyC k) (wM g k L r)) (nI (nbR (rNd r) i c0)) := by
  refine Met.ofW (cc := b_Mod_nodeByte) (maxL := 6) (ret := (some .int)) (by decide) rfl ?_
  intro p e s m args below meth c s₁ B hml hv
  obtain ⟨rfl, hP, hK⟩ := hv
  have hx := B.exec
  have hb := B.bytes
  have hr := B.returns
  have hts := atoms_spec (ws := w_Mod_nodeByte) B.pre
  have hTB : ∀ w ∈ lw_tb, w.before _ s = true := fun w h => hts w (List.mem_cons_of_mem _ h)
  have hown : s.vm.findClass R_Mod = some m.cls := findClass_of_methodNamed B.named
  have hlocks := B.notSynchronized
  have hS : va_S (fun _ => False) s.heap s.heap [] := va_S.rf
  have hl := lv_entry ([.ref (g 20), .int (nI i), .int (nI c0)]) (n := 6) (Nat.le_of_ble_eq_true rfl)
  rw [lg_entry_eq]
  generalize (lg_sl ([.ref (g 20), .int (nI i), .int (nI c0)]) ++ List.replicate (6 - (lg_sl ([.ref (g 20), .int (nI i), .int (nI c0)])).length) Slot.unset).toArray = ls at hl ⊢
  have hl : lv_has ls 6 [(0, .ref (g 20)), (1, .int (nI i)), (2, .int (nI c0))] := hl
  have hxi := hX i hi0
  refine lv_bipush (v := nI 20) hx hb d_Mod_nodeByte_0 (by decide +kernel) ?_
  refine lv_iload_n hx hb d_Mod_nodeByte_2 rfl (lv_at hl 1 rfl) ?_
  refine gz_imul hx hb d_Mod_nodeByte_3 ?_
  refine lv_istore_n (lv' := [(3, .int (nI (20 * i))), (0, .ref (g 20)), (1, .int (nI i)), (2, .int (nI c0))]) hx hb d_Mod_nodeByte_4 rfl hl (by decide) rfl (fun ls hl => ?_)
  refine lv_iload_n hx hb d_Mod_nodeByte_5 rfl (lv_at hl 3 rfl) ?_
  refine gz_if_ne (tgt := 16) hx hb d_Mod_nodeByte_6 (by decide) (by omega) (fun h6 => ?_) (fun h6 => ?_)
  · refine lv_iload_n hx hb d_Mod_nodeByte_16 rfl (lv_at hl 3 rfl) ?_
    refine lv_iconst (v := nI 1) hx hb d_Mod_nodeByte_17 (by decide +kernel) ?_
    refine gz_icmp_ne (tgt := 30) hx hb d_Mod_nodeByte_18 (by decide) (by omega) (by omega) (fun h18 => ?_) (fun h18 => ?_)
    · refine lv_iload_n hx hb d_Mod_nodeByte_30 rfl (lv_at hl 3 rfl) ?_
      refine lv_iconst (v := nI 4) hx hb d_Mod_nodeByte_31 (by decide +kernel) ?_
      refine gz_icmp_ge (tgt := 55) hx hb d_Mod_nodeByte_32 (by decide) (by omega) (by omega) (fun h32 => ?_) (fun h32 => ?_)
      · refine lv_iload_n hx hb d_Mod_nodeByte_55 rfl (lv_at hl 3 rfl) ?_
        refine lv_iconst (v := nI 4) hx hb d_Mod_nodeByte_56 (by decide +kernel) ?_
        refine gz_isub hx hb d_Mod_nodeByte_57 (by omega) ?_
        refine lv_iconst (v := nI 3) hx hb d_Mod_nodeByte_58 (by decide +kernel) ?_
        refine gz_idiv hx hb d_Mod_nodeByte_59 (by omega) (by decide) (by decide) ?_
        refine lv_istore (lv' := [(4, .int (nI ((c0 - 4) / 3))), (3, .int (nI (20 * i))), (0, .ref (g 20)), (1, .int (nI i)), (2, .int (nI c0))]) hx hb d_Mod_nodeByte_60 hl (by decide) rfl (fun ls hl => ?_)
        refine lv_iload hx hb d_Mod_nodeByte_62 (lv_at hl 0 rfl) ?_
        refine lv_aload_n hx hb d_Mod_nodeByte_64 rfl (lv_at hl 2 rfl) ?_
        refine va_get (D := D) (ci := 4) (v := .ref (g 22)) (C := R_Mod) (T := T_Mod) (N := 14) hx hb hTB in_Mod hown hK hP 0 rfl rfl 4 (by decide) (hTB _ k_648) (fun _ h9 => h9) rfl d_Mod_nodeByte_65 ?_
        refine lv_iload_n hx hb d_Mod_nodeByte_68 rfl (lv_at hl 1 rfl) ?_
        refine lv_iconst (v := nI 2) hx hb d_Mod_nodeByte_69 (by decide +kernel) ?_
        refine gz_iadd hx hb d_Mod_nodeByte_70 ?_
        refine gm_ald hx hb hK hP 2 2 rfl rfl (i := (20 * i) + 2) (by omega) (by omega) d_Mod_nodeByte_71 ?_
        have := (hrB ((20 * i) + 2)).2.1
        refine gz_icmp_lt (tgt := 77) hx hb d_Mod_nodeByte_72 (by decide) (by omega) (by omega) (fun h72 => ?_) (fun h72 => ?_)
        · refine lv_iload_n hx hb d_Mod_nodeByte_77 rfl (lv_at hl 4 rfl) ?_
          refine lv_iconst (v := nI 4) hx hb d_Mod_nodeByte_78 (by decide +kernel) ?_
          refine gz_isub hx hb d_Mod_nodeByte_79 (by omega) ?_
          refine lv_iconst (v := nI 3) hx hb d_Mod_nodeByte_80 (by decide +kernel) ?_
          refine gz_irem hx hb d_Mod_nodeByte_81 (by omega) (by decide) (by decide) ?_
          refine lv_istore (lv' := [(5, .int (nI ((c0 - 4) % 3))), (4, .int (nI ((c0 - 4) / 3))), (3, .int (nI (20 * i))), (0, .ref (g 20)), (1, .int (nI i)), (2, .int (nI c0))]) hx hb d_Mod_nodeByte_82 hl (by decide) rfl (fun ls hl => ?_)
          refine lv_iload hx hb d_Mod_nodeByte_84 (lv_at hl 0 rfl) ?_
          refine lv_iconst (v := nI 2) hx hb d_Mod_nodeByte_86 (by decide +kernel) ?_
          refine gz_icmp_ne (tgt := 106) hx hb d_Mod_nodeByte_87 (by decide) (by omega) (by omega) (fun h87 => ?_) (fun h87 => ?_)
          · refine lv_aload_n hx hb d_Mod_nodeByte_106 rfl (lv_at hl 3 rfl) ?_
            refine va_get (D := D) (ci := 4) (v := .ref (g 22)) (C := R_Mod) (T := T_Mod) (N := 14) hx hb hTB in_Mod hown hK hP 0 rfl rfl 4 (by decide) (hTB _ k_648) (fun _ h9 => h9) rfl d_Mod_nodeByte_107 ?_
            refine lv_iload_n hx hb d_Mod_nodeByte_110 rfl (lv_at hl 2 rfl) ?_
            refine lv_iconst (v := nI 3) hx hb d_Mod_nodeByte_111 (by decide +kernel) ?_
            refine gz_iadd hx hb d_Mod_nodeByte_112 ?_
            refine lv_iconst (v := nI 2) hx hb d_Mod_nodeByte_113 (by decide +kernel) ?_
            refine lv_iload hx hb d_Mod_nodeByte_114 (lv_at hl 1 rfl) ?_
            refine gz_imul hx hb d_Mod_nodeByte_116 ?_
            refine gz_iadd hx hb d_Mod_nodeByte_117 ?_
            refine gm_ald hx hb hK hP 2 2 rfl rfl (i := ((20 * i) + 3) + (2 * ((c0 - 4) / 3))) (by omega) (by omega) d_Mod_nodeByte_118 ?_
            have := (hrB (((20 * i) + 3) + (2 * ((c0 - 4) / 3)))).2.1
            refine lv_bipush (v := nI 8) hx hb d_Mod_nodeByte_119 (by decide +kernel) ?_
            refine lv_iload hx hb d_Mod_nodeByte_121 (lv_at hl 0 rfl) ?_
            refine gz_imul hx hb d_Mod_nodeByte_123 ?_
            refine gm_ishr hx hb d_Mod_nodeByte_124 (by omega) (by omega) ?_
            refine lv_sipush (v := nI 255) hx hb d_Mod_nodeByte_125 (by decide +kernel) ?_
            refine gm_and hx hb d_Mod_nodeByte_128 (by first | omega | exact Nat.lt_of_le_of_lt (Nat.div_le_self _ _) (by omega)) ?_
            exact W.iret (v := nI (((rNd r (((20 * i) + 3) + (2 * ((c0 - 4) / 3)))) / 2 ^ (8 * ((c0 - 4) % 3))) % 256)) hx hb hr (fun tt9 ht9 hW9 => ⟨⟨_, (), rfl, (by unfold nbR; rw [if_neg h6, if_neg h18, if_neg (by omega), if_neg (by omega), if_neg h87]), trivial⟩, hS.F ht9⟩) hS.2.2 d_Mod_nodeByte_129
          · refine lv_aload_n hx hb d_Mod_nodeByte_90 rfl (lv_at hl 3 rfl) ?_
            refine va_get (D := D) (ci := 4) (v := .ref (g 22)) (C := R_Mod) (T := T_Mod) (N := 14) hx hb hTB in_Mod hown hK hP 0 rfl rfl 4 (by decide) (hTB _ k_648) (fun _ h9 => h9) rfl d_Mod_nodeByte_91 ?_
            refine lv_iload_n hx hb d_Mod_nodeByte_94 rfl (lv_at hl 2 rfl) ?_
            refine lv_iconst (v := nI 4) hx hb d_Mod_nodeByte_95 (by decide +kernel) ?_
            refine gz_iadd hx hb d_Mod_nodeByte_96 ?_
            refine lv_iconst (v := nI 2) hx hb d_Mod_nodeByte_97 (by decide +kernel) ?_
            refine lv_iload hx hb d_Mod_nodeByte_98 (lv_at hl 1 rfl) ?_
            refine gz_imul hx hb d_Mod_nodeByte_100 ?_
            refine gz_iadd hx hb d_Mod_nodeByte_101 ?_
            refine gm_ald hx hb hK hP 2 2 rfl rfl (i := ((20 * i) + 4) + (2 * ((c0 - 4) / 3))) (by omega) (by omega) d_Mod_nodeByte_102 ?_
            have := (hrB (((20 * i) + 4) + (2 * ((c0 - 4) / 3)))).2.1
            refine lv_goto (tgt := 129) hx hb d_Mod_nodeByte_103 (by decide) ?_
            exact W.iret (v := nI (rNd r (((20 * i) + 4) + (2 * ((c0 - 4) / 3))))) hx hb hr (fun tt9 ht9 hW9 => ⟨⟨_, (), rfl, (by unfold nbR; rw [if_neg h6, if_neg h18, if_neg (by omega), if_neg (by omega), if_pos h87]), trivial⟩, hS.F ht9⟩) hS.2.2 d_Mod_nodeByte_129
        · refine lv_iconst (v := nI 0) hx hb d_Mod_nodeByte_75 (by decide +kernel) ?_
          exact W.iret (v := nI 0) hx hb hr (fun tt9 ht9 hW9 => ⟨⟨_, (), rfl, (by unfold nbR; rw [if_neg h6, if_neg h18, if_neg (by omega), if_pos h72]), trivial⟩, hS.F ht9⟩) hS.2.2 d_Mod_nodeByte_76
      · refine lv_aload_n hx hb d_Mod_nodeByte_35 rfl (lv_at hl 1 rfl) ?_
        refine va_get (D := D) (ci := 4) (v := .ref (g 22)) (C := R_Mod) (T := T_Mod) (N := 14) hx hb hTB in_Mod hown hK hP 0 rfl rfl 4 (by decide) (hTB _ k_648) (fun _ h9 => h9) rfl d_Mod_nodeByte_36 ?_
        refine lv_iload_n hx hb d_Mod_nodeByte_39 rfl (lv_at hl 0 rfl) ?_
        refine lv_iconst (v := nI 1) hx hb d_Mod_nodeByte_40 (by decide +kernel) ?_
        refine gz_iadd hx hb d_Mod_nodeByte_41 ?_
        refine gm_ald hx hb hK hP 2 2 rfl rfl (i := (20 * i) + 1) (by omega) (by omega) d_Mod_nodeByte_42 ?_
        have := (hrB ((20 * i) + 1)).2.1
        refine lv_bipush (v := nI 8) hx hb d_Mod_nodeByte_43 (by decide +kernel) ?_
        refine lv_iload_n hx hb d_Mod_nodeByte_45 rfl (lv_at hl 3 rfl) ?_
        refine lv_iconst (v := nI 2) hx hb d_Mod_nodeByte_46 (by decide +kernel) ?_
        refine gz_isub hx hb d_Mod_nodeByte_47 (by omega) ?_
        refine gz_imul hx hb d_Mod_nodeByte_48 ?_
        refine gm_ishr hx hb d_Mod_nodeByte_49 (by omega) (by omega) ?_
        refine lv_sipush (v := nI 255) hx hb d_Mod_nodeByte_50 (by decide +kernel) ?_
        refine gm_and hx hb d_Mod_nodeByte_53 (by first | omega | exact Nat.lt_of_le_of_lt (Nat.div_le_self _ _) (by omega)) ?_
        exact W.iret (v := nI (((rNd r ((20 * i) + 1)) / 2 ^ (8 * (c0 - 2))) % 256)) hx hb hr (fun tt9 ht9 hW9 => ⟨⟨_, (), rfl, (by unfold nbR; rw [if_neg h6, if_neg h18, if_pos h32]), trivial⟩, hS.F ht9⟩) hS.2.2 d_Mod_nodeByte_54
    · refine lv_aload_n hx hb d_Mod_nodeByte_21 rfl (lv_at hl 1 rfl) ?_
      refine va_get (D := D) (ci := 4) (v := .ref (g 22)) (C := R_Mod) (T := T_Mod) (N := 14) hx hb hTB in_Mod hown hK hP 0 rfl rfl 4 (by decide) (hTB _ k_648) (fun _ h9 => h9) rfl d_Mod_nodeByte_22 ?_
      refine lv_iload_n hx hb d_Mod_nodeByte_25 rfl (lv_at hl 0 rfl) ?_
      refine lv_iconst (v := nI 2) hx hb d_Mod_nodeByte_26 (by decide +kernel) ?_
      refine gz_iadd hx hb d_Mod_nodeByte_27 ?_
      refine gm_ald hx hb hK hP 2 2 rfl rfl (i := (20 * i) + 2) (by omega) (by omega) d_Mod_nodeByte_28 ?_
      have := (hrB ((20 * i) + 2)).2.1
      exact W.iret (v := nI (rNd r ((20 * i) + 2))) hx hb hr (fun tt9 ht9 hW9 => ⟨⟨_, (), rfl, (by unfold nbR; rw [if_neg h6, if_pos h18]), trivial⟩, hS.F ht9⟩) hS.2.2 d_Mod_nodeByte_29
  · refine lv_aload_n hx hb d_Mod_nodeByte_9 rfl (lv_at hl 1 rfl) ?_
    refine va_get (D := D) (ci := 4) (v := .ref (g 22)) (C := R_Mod) (T := T_Mod) (N := 14) hx hb hTB in_Mod hown hK hP 0 rfl rfl 4 (by decide) (hTB _ k_648) (fun _ h9 => h9) rfl d_Mod_nodeByte_10 ?_
    refine lv_iload_n hx hb d_Mod_nodeByte_13 rfl (lv_at hl 0 rfl) ?_
    refine gm_ald hx hb hK hP 2 2 rfl rfl (i := 20 * i) (by omega) (by omega) d_Mod_nodeByte_14 ?_
    have := (hrB (20 * i)).2.1
    exact W.iret (v := nI (rNd r (20 * i))) hx hb hr (fun tt9 ht9 hW9 => ⟨⟨_, (), rfl, (by unfold nbR; rw [if_pos h6]), trivial⟩, hS.F ht9⟩) hS.2.2 d_Mod_nodeByte_15
theorem d_Mod_mapByte_0 : decode b_Mod_mapByte 0 = .ok (.iconst 0, 1) := by decide +kernel
theorem d_Mod_mapByte_1 : decode b_Mod_mapByte 1 = .ok (.istore_n 2, 1) := by decide +kernel
theorem d_Mod_mapByte_2 : decode b_Mod_mapByte 2 = .ok (.iconst 0, 1) := by decide +kernel
theorem d_Mod_mapByte_3 : decode b_Mod_mapByte 3 = .ok (.istore_n 3, 1) := by decide +kernel
theorem d_Mod_mapByte_4 : decode b_Mod_mapByte 4 = .ok (.iload_n 3, 1) := by decide +kernel
theorem d_Mod_mapByte_5 : decode b_Mod_mapByte 5 = .ok (.bipush 8, 2) := by decide +kernel
theorem d_Mod_mapByte_7 : decode b_Mod_mapByte 7 = .ok (.if_icmp .ge 40, 3) := by decide +kernel
theorem d_Mod_mapByte_10 : decode b_Mod_mapByte 10 = .ok (.iload_n 2, 1) := by decide +kernel
theorem d_Mod_mapByte_11 : decode b_Mod_mapByte 11 = .ok (.iload_n 1, 1) := by decide +kernel
theorem d_Mod_mapByte_12 : decode b_Mod_mapByte 12 = .ok (.iload_n 3, 1) := by decide +kernel
theorem d_Mod_mapByte_13 : decode b_Mod_mapByte 13 = .ok (.iadd, 1) := by decide +kernel
theorem d_Mod_mapByte_14 : decode b_Mod_mapByte 14 = .ok (.aload_n 0, 1) := by decide +kernel
theorem d_Mod_mapByte_15 : decode b_Mod_mapByte 15 = .ok (.getfield 41, 3) := by decide +kernel
theorem d_Mod_mapByte_18 : decode b_Mod_mapByte 18 = .ok (.if_icmp .ge 20, 3) := by decide +kernel
theorem d_Mod_mapByte_21 : decode b_Mod_mapByte 21 = .ok (.aload_n 0, 1) := by decide +kernel
theorem d_Mod_mapByte_22 : decode b_Mod_mapByte 22 = .ok (.getfield 16, 3) := by decide +kernel
theorem d_Mod_mapByte_25 : decode b_Mod_mapByte 25 = .ok (.iload_n 1, 1) := by decide +kernel
theorem d_Mod_mapByte_26 : decode b_Mod_mapByte 26 = .ok (.iload_n 3, 1) := by decide +kernel
theorem d_Mod_mapByte_27 : decode b_Mod_mapByte 27 = .ok (.iadd, 1) := by decide +kernel
theorem d_Mod_mapByte_28 : decode b_Mod_mapByte 28 = .ok (.iaload, 1) := by decide +kernel
theorem d_Mod_mapByte_29 : decode b_Mod_mapByte 29 = .ok (.ifCond .le 9, 3) := by decide +kernel
theorem d_Mod_mapByte_32 : decode b_Mod_mapByte 32 = .ok (.iconst 1, 1) := by decide +kernel
theorem d_Mod_mapByte_33 : decode b_Mod_mapByte 33 = .ok (.iload_n 3, 1) := by decide +kernel
theorem d_Mod_mapByte_34 : decode b_Mod_mapByte 34 = .ok (.ishl, 1) := by decide +kernel
theorem d_Mod_mapByte_35 : decode b_Mod_mapByte 35 = .ok (.goto 4, 3) := by decide +kernel
theorem d_Mod_mapByte_38 : decode b_Mod_mapByte 38 = .ok (.iconst 0, 1) := by decide +kernel
theorem d_Mod_mapByte_39 : decode b_Mod_mapByte 39 = .ok (.ior, 1) := by decide +kernel
theorem d_Mod_mapByte_40 : decode b_Mod_mapByte 40 = .ok (.istore_n 2, 1) := by decide +kernel
theorem d_Mod_mapByte_41 : decode b_Mod_mapByte 41 = .ok (.iinc 3 1, 3) := by decide +kernel
theorem d_Mod_mapByte_44 : decode b_Mod_mapByte 44 = .ok (.goto (-40), 3) := by decide +kernel
theorem d_Mod_mapByte_47 : decode b_Mod_mapByte 47 = .ok (.iload_n 2, 1) := by decide +kernel
theorem d_Mod_mapByte_48 : decode b_Mod_mapByte 48 = .ok (.ireturn, 1) := by decide +kernel
set_option maxHeartbeats 4000000 in
set_option maxRecDepth 100000 in
theorem c_Mod_mapByte (l : Launch) (D : va_G) (g : Nat → Nat) (k : Nat → ClassId) (L : Nat) (hL0 : 96 ≤ L) (hL : L ≤ 768) (r : RSt) (hrB : rB r) (n : Nat) (hn0 : n < 100000) : RoI l y_Mod_mapByte w_Mod_mapByte ({ frames := 0, cells := 0, slots := 0, locals := 0 }) [.ref (g 20), .int (nI n)] (RoP D cl5 (tyC k) (wM g k L r)) (nI (mbR L (rOw r) n 8)) := by
  refine Met.ofW (cc := b_Mod_mapByte) (maxL := 4) (ret := (some .int)) (by decide) rfl ?_
  intro p e s m args below meth c s₁ B hml hv
  obtain ⟨rfl, hP, hK⟩ := hv
  have hx := B.exec
  have hb := B.bytes
  have hr := B.returns
  have hts := atoms_spec (ws := w_Mod_mapByte) B.pre
  have hTB : ∀ w ∈ lw_tb, w.before _ s = true := fun w h => hts w (List.mem_cons_of_mem _ h)
  have hown : s.vm.findClass R_Mod = some m.cls := findClass_of_methodNamed B.named
  have hlocks := B.notSynchronized
  have hS : va_S (fun _ => False) s.heap s.heap [] := va_S.rf
  have hl := lv_entry ([.ref (g 20), .int (nI n)]) (n := 4) (Nat.le_of_ble_eq_true rfl)
  rw [lg_entry_eq]
  generalize (lg_sl ([.ref (g 20), .int (nI n)]) ++ List.replicate (4 - (lg_sl ([.ref (g 20), .int (nI n)])).length) Slot.unset).toArray = ls at hl ⊢
  have hl : lv_has ls 4 [(0, .ref (g 20)), (1, .int (nI n))] := hl
  refine lv_iconst (v := nI 0) hx hb d_Mod_mapByte_0 (by decide +kernel) ?_
  refine lv_istore_n (lv' := [(2, .int (nI 0)), (0, .ref (g 20)), (1, .int (nI n))]) hx hb d_Mod_mapByte_1 rfl hl (by decide) rfl (fun ls hl => ?_)
  refine lv_iconst (v := nI 0) hx hb d_Mod_mapByte_2 (by decide +kernel) ?_
  refine lv_istore_n (lv' := [(3, .int (nI 0)), (2, .int (nI 0)), (0, .ref (g 20)), (1, .int (nI n))]) hx hb d_Mod_mapByte_3 rfl hl (by decide) rfl (fun ls hl => ?_)
  refine gz_loop 4 (fun (zz : Nat) H locs ls => match zz with | j => va_P D cl5 (wM g k L r) H ∧ va_S (fun _ => False) s.heap H locs ∧ lv_has ls 4 [(0, .ref (g 20)), (1, .int (nI n)), (2, .int (nI (mbR L (rOw r) n j))), (3, .int (nI j))] ∧ (j ≤ 8)) (fun (zz : Nat) => match zz with | j => 8 - j) (fun zz H locs ls hI ih4 => ?_) (0) ⟨hP, hS, lv_sub hl [2, 3, 1, 0] rfl, (by omega)⟩
  obtain ⟨j, rfl⟩ : ∃ z, z = zz := ⟨_, rfl⟩
  obtain ⟨hP, hS, hl, hj1⟩ := hI
  refine lv_iload_n hx hb d_Mod_mapByte_4 rfl (lv_at hl 3 rfl) ?_
  refine lv_bipush (v := nI 8) hx hb d_Mod_mapByte_5 (by decide +kernel) ?_
  refine gz_icmp_ge (tgt := 47) hx hb d_Mod_mapByte_7 (by decide) (by omega) (by omega) (fun h7 => ?_) (fun h7 => ?_)
  · have hj8 : j = 8 := by omega
    refine lv_iload_n hx hb d_Mod_mapByte_47 rfl (lv_at hl 2 rfl) ?_
    exact W.iret (v := nI (mbR L (rOw r) n j)) hx hb hr (fun tt9 ht9 hW9 => ⟨⟨_, (), rfl, (by rw [hj8]), trivial⟩, hS.F ht9⟩) hS.2.2 d_Mod_mapByte_48
  · refine lv_iload_n hx hb d_Mod_mapByte_10 rfl (lv_at hl 2 rfl) ?_
    refine lv_iload_n hx hb d_Mod_mapByte_11 rfl (lv_at hl 1 rfl) ?_
    refine lv_iload_n hx hb d_Mod_mapByte_12 rfl (lv_at hl 3 rfl) ?_
    refine gz_iadd hx hb d_Mod_mapByte_13 ?_
    refine lv_aload_n hx hb d_Mod_mapByte_14 rfl (lv_at hl 0 rfl) ?_
    refine va_get (D := D) (ci := 4) (v := .int (nI L)) (C := R_Mod) (T := T_Mod) (N := 14) hx hb hTB in_Mod hown hK hP 0 rfl rfl 1 (by decide) (hTB _ k_645) (fun _ h9 => h9) rfl d_Mod_mapByte_15 ?_
    refine gz_icmp_ge (tgt := 38) hx hb d_Mod_mapByte_18 (by decide) (by omega) (by omega) (fun h18 => ?_) (fun h18 => ?_)
    · refine lv_iconst (v := nI 0) hx hb d_Mod_mapByte_38 (by decide +kernel) ?_
      refine lv_ior hx hb d_Mod_mapByte_39 ?_
      refine lv_istore_n (lv' := [(2, .int ((nI (mbR L (rOw r) n j)) ||| (nI 0))), (0, .ref (g 20)), (1, .int (nI n)), (3, .int (nI j))]) hx hb d_Mod_mapByte_40 rfl hl (by decide) rfl (fun ls hl => ?_)
      refine lv_iinc (v := nI (j + 1)) (lv' := [(3, .int (nI (j + 1))), (2, .int ((nI (mbR L (rOw r) n j)) ||| (nI 0))), (0, .ref (g 20)), (1, .int (nI n))]) hx hb d_Mod_mapByte_41 hl (k := 3) rfl (nI_add j 1) (by decide) rfl (fun ls hl => ?_)
      refine lv_goto (tgt := 4) hx hb d_Mod_mapByte_44 (by decide) ?_
      have hl : lv_has ls 4 [(3, .int (nI (j + 1))), (2, .int (nI (mbR L (rOw r) n (j + 1)))), (0, .ref (g 20)), (1, .int (nI n))] := by
        rw [mbR, if_neg (by omega), ← mbR_or0 (mbR L (rOw r) n j)]; exact hl
      exact ih4 (j + 1) _ _ _ (by first | omega | (dsimp only; omega)) ⟨hP, hS, lv_sub hl [2, 3, 1, 0] rfl, (by omega)⟩
    · refine lv_aload_n hx hb d_Mod_mapByte_21 rfl (lv_at hl 0 rfl) ?_
      refine va_get (D := D) (ci := 4) (v := .ref (g 23)) (C := R_Mod) (T := T_Mod) (N := 14) hx hb hTB in_Mod hown hK hP 0 rfl rfl 5 (by decide) (hTB _ k_649) (fun _ h9 => h9) rfl d_Mod_mapByte_22 ?_
      refine lv_iload_n hx hb d_Mod_mapByte_25 rfl (lv_at hl 1 rfl) ?_
      refine lv_iload_n hx hb d_Mod_mapByte_26 rfl (lv_at hl 3 rfl) ?_
      refine gz_iadd hx hb d_Mod_mapByte_27 ?_
      refine gm_ald hx hb hK hP 3 2 rfl rfl (i := n + j) (by omega) (by omega) d_Mod_mapByte_28 ?_
      have := (hrB (n + j)).2.2.1
      refine gz_if_le (tgt := 38) hx hb d_Mod_mapByte_29 (by decide) (by omega) (fun h29 => ?_) (fun h29 => ?_)
      · refine lv_iconst (v := nI 0) hx hb d_Mod_mapByte_38 (by decide +kernel) ?_
        refine lv_ior hx hb d_Mod_mapByte_39 ?_
        refine lv_istore_n (lv' := [(2, .int ((nI (mbR L (rOw r) n j)) ||| (nI 0))), (0, .ref (g 20)), (1, .int (nI n)), (3, .int (nI j))]) hx hb d_Mod_mapByte_40 rfl hl (by decide) rfl (fun ls hl => ?_)
        refine lv_iinc (v := nI (j + 1)) (lv' := [(3, .int (nI (j + 1))), (2, .int ((nI (mbR L (rOw r) n j)) ||| (nI 0))), (0, .ref (g 20)), (1, .int (nI n))]) hx hb d_Mod_mapByte_41 hl (k := 3) rfl (nI_add j 1) (by decide) rfl (fun ls hl => ?_)
        refine lv_goto (tgt := 4) hx hb d_Mod_mapByte_44 (by decide) ?_
        have hl : lv_has ls 4 [(3, .int (nI (j + 1))), (2, .int (nI (mbR L (rOw r) n (j + 1)))), (0, .ref (g 20)), (1, .int (nI n))] := by
          rw [mbR, if_neg (by omega), ← mbR_or0 (mbR L (rOw r) n j)]; exact hl
        exact ih4 (j + 1) _ _ _ (by first | omega | (dsimp only; omega)) ⟨hP, hS, lv_sub hl [2, 3, 1, 0] rfl, (by omega)⟩
      · refine lv_iconst (v := nI 1) hx hb d_Mod_mapByte_32 (by decide +kernel) ?_
        refine lv_iload_n hx hb d_Mod_mapByte_33 rfl (lv_at hl 3 rfl) ?_
        refine gm_ishl hx hb d_Mod_mapByte_34 (by omega) (by have := Nat.pow_le_pow_right (show 0 < 2 by decide) (show j ≤ 7 by omega); omega) ?_
        refine lv_goto (tgt := 39) hx hb d_Mod_mapByte_35 (by decide) ?_
        refine lv_ior hx hb d_Mod_mapByte_39 ?_
        refine lv_istore_n (lv' := [(2, .int ((nI (mbR L (rOw r) n j)) ||| (nI (1 * 2 ^ j)))), (0, .ref (g 20)), (1, .int (nI n)), (3, .int (nI j))]) hx hb d_Mod_mapByte_40 rfl hl (by decide) rfl (fun ls hl => ?_)
        refine lv_iinc (v := nI (j + 1)) (lv' := [(3, .int (nI (j + 1))), (2, .int ((nI (mbR L (rOw r) n j)) ||| (nI (1 * 2 ^ j)))), (0, .ref (g 20)), (1, .int (nI n))]) hx hb d_Mod_mapByte_41 hl (k := 3) rfl (nI_add j 1) (by decide) rfl (fun ls hl => ?_)
        refine lv_goto (tgt := 4) hx hb d_Mod_mapByte_44 (by decide) ?_
        have hl : lv_has ls 4 [(3, .int (nI (j + 1))), (2, .int (nI (mbR L (rOw r) n (j + 1)))), (0, .ref (g 20)), (1, .int (nI n))] := by
          rw [mbR, if_pos ⟨h18, h29⟩, ← mbR_or (mbR_lt L (rOw r) n j) h7]; exact hl
        exact ih4 (j + 1) _ _ _ (by first | omega | (dsimp only; omega)) ⟨hP, hS, lv_sub hl [2, 3, 1, 0] rfl, (by omega)⟩
theorem d_Mod_byteOf_0 : decode b_Mod_byteOf 0 = .ok (.iload_n 1, 1) := by decide +kernel
theorem d_Mod_byteOf_1 : decode b_Mod_byteOf 1 = .ok (.bipush 25, 2) := by decide +kernel
theorem d_Mod_byteOf_3 : decode b_Mod_byteOf 3 = .ok (.if_icmp .lt 12, 3) := by decide +kernel
theorem d_Mod_byteOf_6 : decode b_Mod_byteOf 6 = .ok (.aload_n 0, 1) := by decide +kernel
theorem d_Mod_byteOf_7 : decode b_Mod_byteOf 7 = .ok (.getfield 16, 3) := by decide +kernel
theorem d_Mod_byteOf_10 : decode b_Mod_byteOf 10 = .ok (.iload_n 1, 1) := by decide +kernel
theorem d_Mod_byteOf_11 : decode b_Mod_byteOf 11 = .ok (.iaload, 1) := by decide +kernel
theorem d_Mod_byteOf_12 : decode b_Mod_byteOf 12 = .ok (.ifCond .ne 15, 3) := by decide +kernel
theorem d_Mod_byteOf_15 : decode b_Mod_byteOf 15 = .ok (.aload_n 0, 1) := by decide +kernel
theorem d_Mod_byteOf_16 : decode b_Mod_byteOf 16 = .ok (.getfield 29, 3) := by decide +kernel
theorem d_Mod_byteOf_19 : decode b_Mod_byteOf 19 = .ok (.bipush 64, 2) := by decide +kernel
theorem d_Mod_byteOf_21 : decode b_Mod_byteOf 21 = .ok (.iload_n 1, 1) := by decide +kernel
theorem d_Mod_byteOf_22 : decode b_Mod_byteOf 22 = .ok (.imul, 1) := by decide +kernel
theorem d_Mod_byteOf_23 : decode b_Mod_byteOf 23 = .ok (.iload_n 2, 1) := by decide +kernel
theorem d_Mod_byteOf_24 : decode b_Mod_byteOf 24 = .ok (.iadd, 1) := by decide +kernel
theorem d_Mod_byteOf_25 : decode b_Mod_byteOf 25 = .ok (.iaload, 1) := by decide +kernel
theorem d_Mod_byteOf_26 : decode b_Mod_byteOf 26 = .ok (.ireturn, 1) := by decide +kernel
theorem d_Mod_byteOf_27 : decode b_Mod_byteOf 27 = .ok (.iload_n 1, 1) := by decide +kernel
theorem d_Mod_byteOf_28 : decode b_Mod_byteOf 28 = .ok (.bipush 57, 2) := by decide +kernel
theorem d_Mod_byteOf_30 : decode b_Mod_byteOf 30 = .ok (.if_icmp .ge 23, 3) := by decide +kernel
theorem d_Mod_byteOf_33 : decode b_Mod_byteOf 33 = .ok (.aload_n 0, 1) := by decide +kernel
theorem d_Mod_byteOf_34 : decode b_Mod_byteOf 34 = .ok (.iconst 2, 1) := by decide +kernel
theorem d_Mod_byteOf_35 : decode b_Mod_byteOf 35 = .ok (.iload_n 1, 1) := by decide +kernel
theorem d_Mod_byteOf_36 : decode b_Mod_byteOf 36 = .ok (.bipush 25, 2) := by decide +kernel
theorem d_Mod_byteOf_38 : decode b_Mod_byteOf 38 = .ok (.isub, 1) := by decide +kernel
theorem d_Mod_byteOf_39 : decode b_Mod_byteOf 39 = .ok (.imul, 1) := by decide +kernel
theorem d_Mod_byteOf_40 : decode b_Mod_byteOf 40 = .ok (.iload_n 2, 1) := by decide +kernel
theorem d_Mod_byteOf_41 : decode b_Mod_byteOf 41 = .ok (.bipush 32, 2) := by decide +kernel
theorem d_Mod_byteOf_43 : decode b_Mod_byteOf 43 = .ok (.idiv, 1) := by decide +kernel
theorem d_Mod_byteOf_44 : decode b_Mod_byteOf 44 = .ok (.iadd, 1) := by decide +kernel
theorem d_Mod_byteOf_45 : decode b_Mod_byteOf 45 = .ok (.iload_n 2, 1) := by decide +kernel
theorem d_Mod_byteOf_46 : decode b_Mod_byteOf 46 = .ok (.bipush 32, 2) := by decide +kernel
theorem d_Mod_byteOf_48 : decode b_Mod_byteOf 48 = .ok (.irem, 1) := by decide +kernel
theorem d_Mod_byteOf_49 : decode b_Mod_byteOf 49 = .ok (.invokevirtual 52, 3) := by decide +kernel
theorem d_Mod_byteOf_52 : decode b_Mod_byteOf 52 = .ok (.ireturn, 1) := by decide +kernel
theorem d_Mod_byteOf_53 : decode b_Mod_byteOf 53 = .ok (.iload_n 1, 1) := by decide +kernel
theorem d_Mod_byteOf_54 : decode b_Mod_byteOf 54 = .ok (.bipush 59, 2) := by decide +kernel
theorem d_Mod_byteOf_56 : decode b_Mod_byteOf 56 = .ok (.if_icmp .ge 21, 3) := by decide +kernel
theorem d_Mod_byteOf_59 : decode b_Mod_byteOf 59 = .ok (.aload_n 0, 1) := by decide +kernel
theorem d_Mod_byteOf_60 : decode b_Mod_byteOf 60 = .ok (.sipush 512, 3) := by decide +kernel
theorem d_Mod_byteOf_63 : decode b_Mod_byteOf 63 = .ok (.iload_n 1, 1) := by decide +kernel
theorem d_Mod_byteOf_64 : decode b_Mod_byteOf 64 = .ok (.bipush 57, 2) := by decide +kernel
theorem d_Mod_byteOf_66 : decode b_Mod_byteOf 66 = .ok (.isub, 1) := by decide +kernel
theorem d_Mod_byteOf_67 : decode b_Mod_byteOf 67 = .ok (.imul, 1) := by decide +kernel
theorem d_Mod_byteOf_68 : decode b_Mod_byteOf 68 = .ok (.bipush 8, 2) := by decide +kernel
theorem d_Mod_byteOf_70 : decode b_Mod_byteOf 70 = .ok (.iload_n 2, 1) := by decide +kernel
theorem d_Mod_byteOf_71 : decode b_Mod_byteOf 71 = .ok (.imul, 1) := by decide +kernel
theorem d_Mod_byteOf_72 : decode b_Mod_byteOf 72 = .ok (.iadd, 1) := by decide +kernel
theorem d_Mod_byteOf_73 : decode b_Mod_byteOf 73 = .ok (.invokevirtual 56, 3) := by decide +kernel
theorem d_Mod_byteOf_76 : decode b_Mod_byteOf 76 = .ok (.ireturn, 1) := by decide +kernel
theorem d_Mod_byteOf_77 : decode b_Mod_byteOf 77 = .ok (.aload_n 0, 1) := by decide +kernel
theorem d_Mod_byteOf_78 : decode b_Mod_byteOf 78 = .ok (.getfield 20, 3) := by decide +kernel
theorem d_Mod_byteOf_81 : decode b_Mod_byteOf 81 = .ok (.bipush 64, 2) := by decide +kernel
theorem d_Mod_byteOf_83 : decode b_Mod_byteOf 83 = .ok (.iload_n 1, 1) := by decide +kernel
theorem d_Mod_byteOf_84 : decode b_Mod_byteOf 84 = .ok (.imul, 1) := by decide +kernel
theorem d_Mod_byteOf_85 : decode b_Mod_byteOf 85 = .ok (.iload_n 2, 1) := by decide +kernel
theorem d_Mod_byteOf_86 : decode b_Mod_byteOf 86 = .ok (.iadd, 1) := by decide +kernel
theorem d_Mod_byteOf_87 : decode b_Mod_byteOf 87 = .ok (.iaload, 1) := by decide +kernel
theorem d_Mod_byteOf_88 : decode b_Mod_byteOf 88 = .ok (.ireturn, 1) := by decide +kernel
set_option maxHeartbeats 4000000 in
set_option maxRecDepth 100000 in
theorem c_Mod_byteOf (l : Launch) (D : va_G) (g : Nat → Nat) (k : Nat → ClassId) (L : Nat) (hL0 : 96 ≤ L) (hL : L ≤ 768) (r : RSt) (hrB : rB r) (b c0 : Nat) (hb0 : b < L) (hc0 : c0 < 64) (hX : ∀ i, i < 64 → rNd r (20 * i + 2) ≤ 8) : RoI l y_Mod_byteOf w_Mod_byteOf ({ frames := 1, cells := 0, slots := 0, locals := 25 }) [.ref (g 20), .int (nI b), .int (nI c0)] (RoP D cl5 (tyC k) (wM g k L r)) (nI (boR L r b c0)) := by
  refine Met.ofW (cc := b_Mod_byteOf) (maxL := 3) (ret := (some .int)) (by decide) rfl ?_
  intro p e s m args below meth c s₁ B hml hv
  obtain ⟨rfl, hP, hK⟩ := hv
  have hx := B.exec
  have hb := B.bytes
  have hr := B.returns
  have hts := atoms_spec (ws := w_Mod_byteOf) B.pre
  have hTB : ∀ w ∈ lw_tb, w.before _ s = true := fun w h => hts w (List.mem_cons_of_mem _ h)
  have hown : s.vm.findClass R_Mod = some m.cls := findClass_of_methodNamed B.named
  have hlocks := B.notSynchronized
  have hS : va_S (fun _ => False) s.heap s.heap [] := va_S.rf
  have hl := lv_entry ([.ref (g 20), .int (nI b), .int (nI c0)]) (n := 3) (Nat.le_of_ble_eq_true rfl)
  rw [lg_entry_eq]
  generalize (lg_sl ([.ref (g 20), .int (nI b), .int (nI c0)]) ++ List.replicate (3 - (lg_sl ([.ref (g 20), .int (nI b), .int (nI c0)])).length) Slot.unset).toArray = ls at hl ⊢
  have hl : lv_has ls 3 [(0, .ref (g 20)), (1, .int (nI b)), (2, .int (nI c0))] := hl
  refine lv_iload_n hx hb d_Mod_byteOf_0 rfl (lv_at hl 1 rfl) ?_
  refine lv_bipush (v := nI 25) hx hb d_Mod_byteOf_1 (by decide +kernel) ?_
  refine gz_icmp_lt (tgt := 15) hx hb d_Mod_byteOf_3 (by decide) (by omega) (by omega) (fun h3 => ?_) (fun h3 => ?_)
  · refine lv_aload_n hx hb d_Mod_byteOf_15 rfl (lv_at hl 0 rfl) ?_
    refine va_get (D := D) (ci := 4) (v := .ref (g 27)) (C := R_Mod) (T := T_Mod) (N := 14) hx hb hTB in_Mod hown hK hP 0 rfl rfl 9 (by decide) (hTB _ k_653) (fun _ h9 => h9) rfl d_Mod_byteOf_16 ?_
    refine lv_bipush (v := nI 64) hx hb d_Mod_byteOf_19 (by decide +kernel) ?_
    refine lv_iload_n hx hb d_Mod_byteOf_21 rfl (lv_at hl 1 rfl) ?_
    refine gz_imul hx hb d_Mod_byteOf_22 ?_
    refine lv_iload_n hx hb d_Mod_byteOf_23 rfl (lv_at hl 2 rfl) ?_
    refine gz_iadd hx hb d_Mod_byteOf_24 ?_
    refine gm_ald hx hb hK hP 7 2 rfl rfl (i := (64 * b) + c0) (by omega) (by omega) d_Mod_byteOf_25 ?_
    have := (hrB ((64 * b) + c0)).2.2.2.2.2.2.1
    exact W.iret (v := nI (rDn r ((64 * b) + c0))) hx hb hr (fun tt9 ht9 hW9 => ⟨⟨_, (), rfl, (by unfold boR; rw [if_pos (Or.inl h3)]), trivial⟩, hS.F ht9⟩) hS.2.2 d_Mod_byteOf_26
  · refine lv_aload_n hx hb d_Mod_byteOf_6 rfl (lv_at hl 0 rfl) ?_
    refine va_get (D := D) (ci := 4) (v := .ref (g 23)) (C := R_Mod) (T := T_Mod) (N := 14) hx hb hTB in_Mod hown hK hP 0 rfl rfl 5 (by decide) (hTB _ k_649) (fun _ h9 => h9) rfl d_Mod_byteOf_7 ?_
    refine lv_iload_n hx hb d_Mod_byteOf_10 rfl (lv_at hl 1 rfl) ?_
    refine gm_ald hx hb hK hP 3 2 rfl rfl (i := b) (by omega) (by omega) d_Mod_byteOf_11 ?_
    have := (hrB b).2.2.1
    refine gz_if_ne (tgt := 27) hx hb d_Mod_byteOf_12 (by decide) (by omega) (fun h12 => ?_) (fun h12 => ?_)
    · have hno : ¬ (b < 25 ∨ rOw r b = 0) := fun z => z.elim (fun q => absurd q (by omega)) h12
      refine lv_iload_n hx hb d_Mod_byteOf_27 rfl (lv_at hl 1 rfl) ?_
      refine lv_bipush (v := nI 57) hx hb d_Mod_byteOf_28 (by decide +kernel) ?_
      refine gz_icmp_ge (tgt := 53) hx hb d_Mod_byteOf_30 (by decide) (by omega) (by omega) (fun h30 => ?_) (fun h30 => ?_)
      · refine lv_iload_n hx hb d_Mod_byteOf_53 rfl (lv_at hl 1 rfl) ?_
        refine lv_bipush (v := nI 59) hx hb d_Mod_byteOf_54 (by decide +kernel) ?_
        refine gz_icmp_ge (tgt := 77) hx hb d_Mod_byteOf_56 (by decide) (by omega) (by omega) (fun h56 => ?_) (fun h56 => ?_)
        · refine lv_aload_n hx hb d_Mod_byteOf_77 rfl (lv_at hl 0 rfl) ?_
          refine va_get (D := D) (ci := 4) (v := .ref (g 24)) (C := R_Mod) (T := T_Mod) (N := 14) hx hb hTB in_Mod hown hK hP 0 rfl rfl 6 (by decide) (hTB _ k_650) (fun _ h9 => h9) rfl d_Mod_byteOf_78 ?_
          refine lv_bipush (v := nI 64) hx hb d_Mod_byteOf_81 (by decide +kernel) ?_
          refine lv_iload_n hx hb d_Mod_byteOf_83 rfl (lv_at hl 1 rfl) ?_
          refine gz_imul hx hb d_Mod_byteOf_84 ?_
          refine lv_iload_n hx hb d_Mod_byteOf_85 rfl (lv_at hl 2 rfl) ?_
          refine gz_iadd hx hb d_Mod_byteOf_86 ?_
          refine gm_ald hx hb hK hP 4 2 rfl rfl (i := (64 * b) + c0) (by omega) (by omega) d_Mod_byteOf_87 ?_
          have := (hrB ((64 * b) + c0)).2.2.2.1
          exact W.iret (v := nI (rNw r ((64 * b) + c0))) hx hb hr (fun tt9 ht9 hW9 => ⟨⟨_, (), rfl, (by unfold boR; rw [if_neg hno, if_neg (by omega), if_neg (by omega)]), trivial⟩, hS.F ht9⟩) hS.2.2 d_Mod_byteOf_88
        · refine lv_aload_n hx hb d_Mod_byteOf_59 rfl (lv_at hl 0 rfl) ?_
          refine lv_sipush (v := nI 512) hx hb d_Mod_byteOf_60 (by decide +kernel) ?_
          refine lv_iload_n hx hb d_Mod_byteOf_63 rfl (lv_at hl 1 rfl) ?_
          refine lv_bipush (v := nI 57) hx hb d_Mod_byteOf_64 (by decide +kernel) ?_
          refine gz_isub hx hb d_Mod_byteOf_66 (by omega) ?_
          refine gz_imul hx hb d_Mod_byteOf_67 ?_
          refine lv_bipush (v := nI 8) hx hb d_Mod_byteOf_68 (by decide +kernel) ?_
          refine lv_iload_n hx hb d_Mod_byteOf_70 rfl (lv_at hl 2 rfl) ?_
          refine gz_imul hx hb d_Mod_byteOf_71 ?_
          refine gz_iadd hx hb d_Mod_byteOf_72 ?_
          refine gz_roV (As := [.int (nI ((512 * (b - 57)) + (8 * c0)))]) (rest := []) (wc := (wM g k L r)) ⟨hx, hb, hml, hown, hTB⟩ (c_Mod_mapByte l D g k L hL0 hL r hrB ((512 * (b - 57)) + (8 * c0)) (by omega)) (cwV 1 hTB (gd_V k_637 k_639 k_20 k_56 k_640) rfl rfl rfl (by decide +kernel) ⟨Nat.le_of_ble_eq_true rfl, Nat.le_of_ble_eq_true rfl⟩) hK hP [0, 1, 2, 3, 4, 5, 6, 7, 8, 9, 10] rfl 0 rfl rfl rfl hl.1 rfl (Nat.le_of_ble_eq_true rfl) d_Mod_byteOf_73 ⟨Nat.zero_le _, Nat.zero_le _⟩ hS (fun H locs hP hS => ?_)
          have := mbR_lt L (rOw r) ((512 * (b - 57)) + (8 * c0)) 8
          exact W.iret (v := nI (mbR L (rOw r) ((512 * (b - 57)) + (8 * c0)) 8)) hx hb hr (fun tt9 ht9 hW9 => ⟨⟨_, (), rfl, (by unfold boR; rw [if_neg hno, if_neg (by omega), if_pos h56]), trivial⟩, hS.F ht9⟩) hS.2.2 d_Mod_byteOf_76
      · refine lv_aload_n hx hb d_Mod_byteOf_33 rfl (lv_at hl 0 rfl) ?_
        refine lv_iconst (v := nI 2) hx hb d_Mod_byteOf_34 (by decide +kernel) ?_
        refine lv_iload_n hx hb d_Mod_byteOf_35 rfl (lv_at hl 1 rfl) ?_
        refine lv_bipush (v := nI 25) hx hb d_Mod_byteOf_36 (by decide +kernel) ?_
        refine gz_isub hx hb d_Mod_byteOf_38 (by omega) ?_
        refine gz_imul hx hb d_Mod_byteOf_39 ?_
        refine lv_iload_n hx hb d_Mod_byteOf_40 rfl (lv_at hl 2 rfl) ?_
        refine lv_bipush (v := nI 32) hx hb d_Mod_byteOf_41 (by decide +kernel) ?_
        refine gz_idiv hx hb d_Mod_byteOf_43 (by omega) (by decide) (by decide) ?_
        refine gz_iadd hx hb d_Mod_byteOf_44 ?_
        refine lv_iload_n hx hb d_Mod_byteOf_45 rfl (lv_at hl 2 rfl) ?_
        refine lv_bipush (v := nI 32) hx hb d_Mod_byteOf_46 (by decide +kernel) ?_
        refine gz_irem hx hb d_Mod_byteOf_48 (by omega) (by decide) (by decide) ?_
        refine gz_roV (As := [.int (nI ((2 * (b - 25)) + (c0 / 32))), .int (nI (c0 % 32))]) (rest := []) (wc := (wM g k L r)) ⟨hx, hb, hml, hown, hTB⟩ (c_Mod_nodeByte l D g k L hL0 hL r hrB ((2 * (b - 25)) + (c0 / 32)) (c0 % 32) (by omega) (by omega) hX) (cwV 2 hTB (gd_V k_633 k_635 k_19 k_56 k_636) rfl rfl rfl (by decide +kernel) ⟨Nat.le_of_ble_eq_true rfl, Nat.le_of_ble_eq_true rfl⟩) hK hP [0, 1, 2, 3, 4, 5, 6, 7, 8, 9, 10] rfl 0 rfl rfl rfl hl.1 rfl (Nat.le_of_ble_eq_true rfl) d_Mod_byteOf_49 ⟨Nat.zero_le _, Nat.zero_le _⟩ hS (fun H locs hP hS => ?_)
        have := nbR_lt (fun q => (hrB q).2.1) ((2 * (b - 25)) + (c0 / 32)) (c0 % 32)
        exact W.iret (v := nI (nbR (rNd r) ((2 * (b - 25)) + (c0 / 32)) (c0 % 32))) hx hb hr (fun tt9 ht9 hW9 => ⟨⟨_, (), rfl, (by unfold boR; rw [if_neg hno, if_pos h30]), trivial⟩, hS.F ht9⟩) hS.2.2 d_Mod_byteOf_52
    · refine lv_aload_n hx hb d_Mod_byteOf_15 rfl (lv_at hl 0 rfl) ?_
      refine va_get (D := D) (ci := 4) (v := .ref (g 27)) (C := R_Mod) (T := T_Mod) (N := 14) hx hb hTB in_Mod hown hK hP 0 rfl rfl 9 (by decide) (hTB _ k_653) (fun _ h9 => h9) rfl d_Mod_byteOf_16 ?_
      refine lv_bipush (v := nI 64) hx hb d_Mod_byteOf_19 (by decide +kernel) ?_
      refine lv_iload_n hx hb d_Mod_byteOf_21 rfl (lv_at hl 1 rfl) ?_
      refine gz_imul hx hb d_Mod_byteOf_22 ?_
      refine lv_iload_n hx hb d_Mod_byteOf_23 rfl (lv_at hl 2 rfl) ?_
      refine gz_iadd hx hb d_Mod_byteOf_24 ?_
      refine gm_ald hx hb hK hP 7 2 rfl rfl (i := (64 * b) + c0) (by omega) (by omega) d_Mod_byteOf_25 ?_
      have := (hrB ((64 * b) + c0)).2.2.2.2.2.2.1
      exact W.iret (v := nI (rDn r ((64 * b) + c0))) hx hb hr (fun tt9 ht9 hW9 => ⟨⟨_, (), rfl, (by unfold boR; rw [if_pos (Or.inr h12)]), trivial⟩, hS.F ht9⟩) hS.2.2 d_Mod_byteOf_26
theorem d_Mod_isChanged_0 : decode b_Mod_isChanged 0 = .ok (.iconst 0, 1) := by decide +kernel
theorem d_Mod_isChanged_1 : decode b_Mod_isChanged 1 = .ok (.istore_n 2, 1) := by decide +kernel
theorem d_Mod_isChanged_2 : decode b_Mod_isChanged 2 = .ok (.iconst 0, 1) := by decide +kernel
theorem d_Mod_isChanged_3 : decode b_Mod_isChanged 3 = .ok (.istore_n 3, 1) := by decide +kernel
theorem d_Mod_isChanged_4 : decode b_Mod_isChanged 4 = .ok (.iload_n 3, 1) := by decide +kernel
theorem d_Mod_isChanged_5 : decode b_Mod_isChanged 5 = .ok (.bipush 64, 2) := by decide +kernel
theorem d_Mod_isChanged_7 : decode b_Mod_isChanged 7 = .ok (.if_icmp .ge 39, 3) := by decide +kernel
theorem d_Mod_isChanged_10 : decode b_Mod_isChanged 10 = .ok (.iload_n 2, 1) := by decide +kernel
theorem d_Mod_isChanged_11 : decode b_Mod_isChanged 11 = .ok (.ifCond .ne 35, 3) := by decide +kernel
theorem d_Mod_isChanged_14 : decode b_Mod_isChanged 14 = .ok (.aload_n 0, 1) := by decide +kernel
theorem d_Mod_isChanged_15 : decode b_Mod_isChanged 15 = .ok (.iload_n 1, 1) := by decide +kernel
theorem d_Mod_isChanged_16 : decode b_Mod_isChanged 16 = .ok (.iload_n 3, 1) := by decide +kernel
theorem d_Mod_isChanged_17 : decode b_Mod_isChanged 17 = .ok (.invokevirtual 60, 3) := by decide +kernel
theorem d_Mod_isChanged_20 : decode b_Mod_isChanged 20 = .ok (.aload_n 0, 1) := by decide +kernel
theorem d_Mod_isChanged_21 : decode b_Mod_isChanged 21 = .ok (.getfield 29, 3) := by decide +kernel
theorem d_Mod_isChanged_24 : decode b_Mod_isChanged 24 = .ok (.bipush 64, 2) := by decide +kernel
theorem d_Mod_isChanged_26 : decode b_Mod_isChanged 26 = .ok (.iload_n 1, 1) := by decide +kernel
theorem d_Mod_isChanged_27 : decode b_Mod_isChanged 27 = .ok (.imul, 1) := by decide +kernel
theorem d_Mod_isChanged_28 : decode b_Mod_isChanged 28 = .ok (.iload_n 3, 1) := by decide +kernel
theorem d_Mod_isChanged_29 : decode b_Mod_isChanged 29 = .ok (.iadd, 1) := by decide +kernel
theorem d_Mod_isChanged_30 : decode b_Mod_isChanged 30 = .ok (.iaload, 1) := by decide +kernel
theorem d_Mod_isChanged_31 : decode b_Mod_isChanged 31 = .ok (.if_icmp .eq 7, 3) := by decide +kernel
theorem d_Mod_isChanged_34 : decode b_Mod_isChanged 34 = .ok (.iconst 1, 1) := by decide +kernel
theorem d_Mod_isChanged_35 : decode b_Mod_isChanged 35 = .ok (.goto 4, 3) := by decide +kernel
theorem d_Mod_isChanged_38 : decode b_Mod_isChanged 38 = .ok (.iconst 0, 1) := by decide +kernel
theorem d_Mod_isChanged_39 : decode b_Mod_isChanged 39 = .ok (.istore_n 2, 1) := by decide +kernel
theorem d_Mod_isChanged_40 : decode b_Mod_isChanged 40 = .ok (.iinc 3 1, 3) := by decide +kernel
theorem d_Mod_isChanged_43 : decode b_Mod_isChanged 43 = .ok (.goto (-39), 3) := by decide +kernel
theorem d_Mod_isChanged_46 : decode b_Mod_isChanged 46 = .ok (.iload_n 2, 1) := by decide +kernel
theorem d_Mod_isChanged_47 : decode b_Mod_isChanged 47 = .ok (.ireturn, 1) := by decide +kernel
set_option maxHeartbeats 4000000 in
set_option maxRecDepth 100000 in
theorem c_Mod_isChanged (l : Launch) (D : va_G) (g : Nat → Nat) (k : Nat → ClassId) (L : Nat) (hL0 : 96 ≤ L) (hL : L ≤ 768) (r : RSt) (hrB : rB r) (b : Nat) (hb0 : b < L) (hX : ∀ i, i < 64 → rNd r (20 * i + 2) ≤ 8) : RoI l y_Mod_isChanged w_Mod_isChanged ({ frames := 2, cells := 0, slots := 0, locals := 47 }) [.ref (g 20), .int (nI b)] (RoP D cl5 (tyC k) (wM g k L r)) (zI (icR L r b)) := by
  refine Met.ofW (cc := b_Mod_isChanged) (maxL := 4) (ret := (some .boolean)) (by decide) rfl ?_
  intro p e s m args below meth c s₁ B hml hv
  obtain ⟨rfl, hP, hK⟩ := hv
  have hx := B.exec
  have hb := B.bytes
  have hr := B.returns
  have hts := atoms_spec (ws := w_Mod_isChanged) B.pre
  have hTB : ∀ w ∈ lw_tb, w.before _ s = true := fun w h => hts w (List.mem_cons_of_mem _ h)
  have hown : s.vm.findClass R_Mod = some m.cls := findClass_of_methodNamed B.named
  have hlocks := B.notSynchronized
  have hS : va_S (fun _ => False) s.heap s.heap [] := va_S.rf
  have hl := lv_entry ([.ref (g 20), .int (nI b)]) (n := 4) (Nat.le_of_ble_eq_true rfl)
  rw [lg_entry_eq]
  generalize (lg_sl ([.ref (g 20), .int (nI b)]) ++ List.replicate (4 - (lg_sl ([.ref (g 20), .int (nI b)])).length) Slot.unset).toArray = ls at hl ⊢
  have hl : lv_has ls 4 [(0, .ref (g 20)), (1, .int (nI b))] := hl
  refine lv_iconst (v := nI 0) hx hb d_Mod_isChanged_0 (by decide +kernel) ?_
  refine lv_istore_n (lv' := [(2, .int (nI 0)), (0, .ref (g 20)), (1, .int (nI b))]) hx hb d_Mod_isChanged_1 rfl hl (by decide) rfl (fun ls hl => ?_)
  refine lv_iconst (v := nI 0) hx hb d_Mod_isChanged_2 (by decide +kernel) ?_
  refine lv_istore_n (lv' := [(3, .int (nI 0)), (2, .int (nI 0)), (0, .ref (g 20)), (1, .int (nI b))]) hx hb d_Mod_isChanged_3 rfl hl (by decide) rfl (fun ls hl => ?_)
  refine gz_loop 4 (fun (zz : Nat) H locs ls => match zz with | j => va_P D cl5 (wM g k L r) H ∧ va_S (fun _ => False) s.heap H locs ∧ lv_has ls 4 [(0, .ref (g 20)), (1, .int (nI b)), (2, .int (zI (icG L r b j))), (3, .int (nI j))] ∧ (j ≤ 64)) (fun (zz : Nat) => match zz with | j => 64 - j) (fun zz H locs ls hI ih4 => ?_) (0) ⟨hP, hS, lv_sub hl [2, 3, 1, 0] rfl, (by omega)⟩
  obtain ⟨j, rfl⟩ : ∃ z, z = zz := ⟨_, rfl⟩
  obtain ⟨hP, hS, hl, hj1⟩ := hI
  refine lv_iload_n hx hb d_Mod_isChanged_4 rfl (lv_at hl 3 rfl) ?_
  refine lv_bipush (v := nI 64) hx hb d_Mod_isChanged_5 (by decide +kernel) ?_
  refine gz_icmp_ge (tgt := 46) hx hb d_Mod_isChanged_7 (by decide) (by omega) (by omega) (fun h7 => ?_) (fun h7 => ?_)
  · have hic : icG L r b j = icR L r b := by rw [show j = 64 by omega]; rfl
    refine lv_iload_n hx hb d_Mod_isChanged_46 rfl (lv_at hl 2 rfl) ?_
    exact W.zret (v := zI (icG L r b j)) (ty := .boolean) hx hb hr (zI_nar _) (fun tt9 ht9 hW9 => ⟨⟨_, (), rfl, (by rw [hic]), trivial⟩, hS.F ht9⟩) hS.2.2 d_Mod_isChanged_47
  · refine lv_iload_n hx hb d_Mod_isChanged_10 rfl (lv_at hl 2 rfl) ?_
    refine gz_ifz_ne (tgt := 46) hx hb d_Mod_isChanged_11 (by decide) (fun h11 => ?_) (fun h11 => ?_)
    · have hic : icG L r b j = icR L r b := by rw [h11, icR_t h11 (by omega)]
      refine lv_iload_n hx hb d_Mod_isChanged_46 rfl (lv_at hl 2 rfl) ?_
      exact W.zret (v := zI (icG L r b j)) (ty := .boolean) hx hb hr (zI_nar _) (fun tt9 ht9 hW9 => ⟨⟨_, (), rfl, (by rw [hic]), trivial⟩, hS.F ht9⟩) hS.2.2 d_Mod_isChanged_47
    · refine lv_aload_n hx hb d_Mod_isChanged_14 rfl (lv_at hl 0 rfl) ?_
      refine lv_iload_n hx hb d_Mod_isChanged_15 rfl (lv_at hl 1 rfl) ?_
      refine lv_iload_n hx hb d_Mod_isChanged_16 rfl (lv_at hl 3 rfl) ?_
      refine gz_roV (As := [.int (nI b), .int (nI j)]) (rest := []) (wc := (wM g k L r)) ⟨hx, hb, hml, hown, hTB⟩ (c_Mod_byteOf l D g k L hL0 hL r hrB b j (by omega) (by omega) hX) (cwV 2 hTB (gd_V k_629 k_631 k_18 k_56 k_632) rfl rfl rfl (by decide +kernel) ⟨Nat.le_of_ble_eq_true rfl, Nat.le_of_ble_eq_true rfl⟩) hK hP [0, 1, 2, 3, 4, 5, 6, 7, 8, 9, 10] rfl 0 rfl rfl rfl hl.1 rfl (Nat.le_of_ble_eq_true rfl) d_Mod_isChanged_17 ⟨Nat.zero_le _, Nat.zero_le _⟩ hS (fun H locs hP hS => ?_)
      have := boR_lt (L := L) hrB b j
      refine lv_aload_n hx hb d_Mod_isChanged_20 rfl (lv_at hl 0 rfl) ?_
      refine va_get (D := D) (ci := 4) (v := .ref (g 27)) (C := R_Mod) (T := T_Mod) (N := 14) hx hb hTB in_Mod hown hK hP 0 rfl rfl 9 (by decide) (hTB _ k_653) (fun _ h9 => h9) rfl d_Mod_isChanged_21 ?_
      refine lv_bipush (v := nI 64) hx hb d_Mod_isChanged_24 (by decide +kernel) ?_
      refine lv_iload_n hx hb d_Mod_isChanged_26 rfl (lv_at hl 1 rfl) ?_
      refine gz_imul hx hb d_Mod_isChanged_27 ?_
      refine lv_iload_n hx hb d_Mod_isChanged_28 rfl (lv_at hl 3 rfl) ?_
      refine gz_iadd hx hb d_Mod_isChanged_29 ?_
      refine gm_ald hx hb hK hP 7 2 rfl rfl (i := (64 * b) + j) (by omega) (by omega) d_Mod_isChanged_30 ?_
      have := (hrB ((64 * b) + j)).2.2.2.2.2.2.1
      refine gz_icmp_eq (tgt := 38) hx hb d_Mod_isChanged_31 (by decide) (by omega) (by omega) (fun h31 => ?_) (fun h31 => ?_)
      · refine lv_iconst (v := nI 0) hx hb d_Mod_isChanged_38 (by decide +kernel) ?_
        refine lv_istore_n (lv' := [(2, .int (nI 0)), (0, .ref (g 20)), (1, .int (nI b)), (3, .int (nI j))]) hx hb d_Mod_isChanged_39 rfl hl (by decide) rfl (fun ls hl => ?_)
        refine lv_iinc (v := nI (j + 1)) (lv' := [(3, .int (nI (j + 1))), (2, .int (nI 0)), (0, .ref (g 20)), (1, .int (nI b))]) hx hb d_Mod_isChanged_40 hl (k := 3) rfl (nI_add j 1) (by decide) rfl (fun ls hl => ?_)
        refine lv_goto (tgt := 4) hx hb d_Mod_isChanged_43 (by decide) ?_
        have hl : lv_has ls 4 [(3, .int (nI (j + 1))), (2, .int (zI (icG L r b (j + 1)))), (0, .ref (g 20)), (1, .int (nI b))] := by rw [icG, h11, decide_eq_false (fun z => z h31)]; exact hl
        exact ih4 (j + 1) _ _ _ (by first | omega | (dsimp only; omega)) ⟨hP, hS, lv_sub hl [2, 3, 1, 0] rfl, (by omega)⟩
      · refine lv_iconst (v := nI 1) hx hb d_Mod_isChanged_34 (by decide +kernel) ?_
        refine lv_goto (tgt := 39) hx hb d_Mod_isChanged_35 (by decide) ?_
        refine lv_istore_n (lv' := [(2, .int (nI 1)), (0, .ref (g 20)), (1, .int (nI b)), (3, .int (nI j))]) hx hb d_Mod_isChanged_39 rfl hl (by decide) rfl (fun ls hl => ?_)
        refine lv_iinc (v := nI (j + 1)) (lv' := [(3, .int (nI (j + 1))), (2, .int (nI 1)), (0, .ref (g 20)), (1, .int (nI b))]) hx hb d_Mod_isChanged_40 hl (k := 3) rfl (nI_add j 1) (by decide) rfl (fun ls hl => ?_)
        refine lv_goto (tgt := 4) hx hb d_Mod_isChanged_43 (by decide) ?_
        have hl : lv_has ls 4 [(3, .int (nI (j + 1))), (2, .int (zI (icG L r b (j + 1)))), (0, .ref (g 20)), (1, .int (nI b))] := by rw [icG, h11, decide_eq_true h31]; exact hl
        exact ih4 (j + 1) _ _ _ (by first | omega | (dsimp only; omega)) ⟨hP, hS, lv_sub hl [2, 3, 1, 0] rfl, (by omega)⟩
theorem d_Mod_changes_0 : decode b_Mod_changes 0 = .ok (.iconst 0, 1) := by decide +kernel
theorem d_Mod_changes_1 : decode b_Mod_changes 1 = .ok (.istore_n 1, 1) := by decide +kernel
theorem d_Mod_changes_2 : decode b_Mod_changes 2 = .ok (.bipush 25, 2) := by decide +kernel
theorem d_Mod_changes_4 : decode b_Mod_changes 4 = .ok (.istore_n 2, 1) := by decide +kernel
theorem d_Mod_changes_5 : decode b_Mod_changes 5 = .ok (.iload_n 2, 1) := by decide +kernel
theorem d_Mod_changes_6 : decode b_Mod_changes 6 = .ok (.aload_n 0, 1) := by decide +kernel
theorem d_Mod_changes_7 : decode b_Mod_changes 7 = .ok (.getfield 41, 3) := by decide +kernel
theorem d_Mod_changes_10 : decode b_Mod_changes 10 = .ok (.if_icmp .ge 25, 3) := by decide +kernel
theorem d_Mod_changes_13 : decode b_Mod_changes 13 = .ok (.iload_n 1, 1) := by decide +kernel
theorem d_Mod_changes_14 : decode b_Mod_changes 14 = .ok (.aload_n 0, 1) := by decide +kernel
theorem d_Mod_changes_15 : decode b_Mod_changes 15 = .ok (.iload_n 2, 1) := by decide +kernel
theorem d_Mod_changes_16 : decode b_Mod_changes 16 = .ok (.invokevirtual 63, 3) := by decide +kernel
theorem d_Mod_changes_19 : decode b_Mod_changes 19 = .ok (.ifCond .eq 7, 3) := by decide +kernel
theorem d_Mod_changes_22 : decode b_Mod_changes 22 = .ok (.iconst 1, 1) := by decide +kernel
theorem d_Mod_changes_23 : decode b_Mod_changes 23 = .ok (.goto 4, 3) := by decide +kernel
theorem d_Mod_changes_26 : decode b_Mod_changes 26 = .ok (.iconst 0, 1) := by decide +kernel
theorem d_Mod_changes_27 : decode b_Mod_changes 27 = .ok (.iadd, 1) := by decide +kernel
theorem d_Mod_changes_28 : decode b_Mod_changes 28 = .ok (.istore_n 1, 1) := by decide +kernel
theorem d_Mod_changes_29 : decode b_Mod_changes 29 = .ok (.iinc 2 1, 3) := by decide +kernel
theorem d_Mod_changes_32 : decode b_Mod_changes 32 = .ok (.goto (-27), 3) := by decide +kernel
theorem d_Mod_changes_35 : decode b_Mod_changes 35 = .ok (.iload_n 1, 1) := by decide +kernel
theorem d_Mod_changes_36 : decode b_Mod_changes 36 = .ok (.ireturn, 1) := by decide +kernel
set_option maxHeartbeats 4000000 in
set_option maxRecDepth 100000 in
theorem c_Mod_changes (l : Launch) (D : va_G) (g : Nat → Nat) (k : Nat → ClassId) (L : Nat) (hL0 : 96 ≤ L) (hL : L ≤ 768) (r : RSt) (hrB : rB r) (hX : ∀ i, i < 64 → rNd r (20 * i + 2) ≤ 8) : RoI l y_Mod_changes w_Mod_changes ({ frames := 3, cells := 0, slots := 0, locals := 70 }) [.ref (g 20)] (RoP D cl5 (tyC k) (wM g k L r)) (nI (chR L r)) := by
  refine Met.ofW (cc := b_Mod_changes) (maxL := 3) (ret := (some .int)) (by decide) rfl ?_
  intro p e s m args below meth c s₁ B hml hv
  obtain ⟨rfl, hP, hK⟩ := hv
  have hx := B.exec
  have hb := B.bytes
  have hr := B.returns
  have hts := atoms_spec (ws := w_Mod_changes) B.pre
  have hTB : ∀ w ∈ lw_tb, w.before _ s = true := fun w h => hts w (List.mem_cons_of_mem _ h)
  have hown : s.vm.findClass R_Mod = some m.cls := findClass_of_methodNamed B.named
  have hlocks := B.notSynchronized
  have hS : va_S (fun _ => False) s.heap s.heap [] := va_S.rf
  have hl := lv_entry ([.ref (g 20)]) (n := 3) (Nat.le_of_ble_eq_true rfl)
  rw [lg_entry_eq]
  generalize (lg_sl ([.ref (g 20)]) ++ List.replicate (3 - (lg_sl ([.ref (g 20)])).length) Slot.unset).toArray = ls at hl ⊢
  have hl : lv_has ls 3 [(0, .ref (g 20))] := hl
  refine lv_iconst (v := nI 0) hx hb d_Mod_changes_0 (by decide +kernel) ?_
  refine lv_istore_n (lv' := [(1, .int (nI 0)), (0, .ref (g 20))]) hx hb d_Mod_changes_1 rfl hl (by decide) rfl (fun ls hl => ?_)
  refine lv_bipush (v := nI 25) hx hb d_Mod_changes_2 (by decide +kernel) ?_
  refine lv_istore_n (lv' := [(2, .int (nI 25)), (1, .int (nI 0)), (0, .ref (g 20))]) hx hb d_Mod_changes_4 rfl hl (by decide) rfl (fun ls hl => ?_)
  refine gz_loop 5 (fun (zz : (Nat × Nat)) H locs ls => match zz with | (n, b) => va_P D cl5 (wM g k L r) H ∧ va_S (fun _ => False) s.heap H locs ∧ lv_has ls 3 [(0, .ref (g 20)), (1, .int (nI n)), (2, .int (nI b))] ∧ (b ≤ L) ∧ (n + chG L r (L - b) b = chR L r) ∧ (n ≤ b)) (fun (zz : (Nat × Nat)) => match zz with | (n, b) => L - b) (fun zz H locs ls hI ih5 => ?_) (0, 25) ⟨hP, hS, lv_sub hl [2, 1, 0] rfl, (by omega), (Nat.zero_add _), (by omega)⟩
  obtain ⟨n, b⟩ := zz
  obtain ⟨hP, hS, hl, hb1, hb2, hb3⟩ := hI
  refine lv_iload_n hx hb d_Mod_changes_5 rfl (lv_at hl 2 rfl) ?_
  refine lv_aload_n hx hb d_Mod_changes_6 rfl (lv_at hl 0 rfl) ?_
  refine va_get (D := D) (ci := 4) (v := .int (nI L)) (C := R_Mod) (T := T_Mod) (N := 14) hx hb hTB in_Mod hown hK hP 0 rfl rfl 1 (by decide) (hTB _ k_645) (fun _ h9 => h9) rfl d_Mod_changes_7 ?_
  refine gz_icmp_ge (tgt := 35) hx hb d_Mod_changes_10 (by decide) (by omega) (by omega) (fun h10 => ?_) (fun h10 => ?_)
  · refine lv_iload_n hx hb d_Mod_changes_35 rfl (lv_at hl 1 rfl) ?_
    exact W.iret (v := nI n) hx hb hr (fun tt9 ht9 hW9 => ⟨⟨_, (), rfl, (by rw [← hb2, show L - b = 0 by omega]; rfl), trivial⟩, hS.F ht9⟩) hS.2.2 d_Mod_changes_36
  · refine lv_iload_n hx hb d_Mod_changes_13 rfl (lv_at hl 1 rfl) ?_
    refine lv_aload_n hx hb d_Mod_changes_14 rfl (lv_at hl 0 rfl) ?_
    refine lv_iload_n hx hb d_Mod_changes_15 rfl (lv_at hl 2 rfl) ?_
    refine gz_roV (As := [.int (nI b)]) (rest := [.int (nI n)]) (wc := (wM g k L r)) ⟨hx, hb, hml, hown, hTB⟩ (c_Mod_isChanged l D g k L hL0 hL r hrB b (by omega) hX) (cwV 1 hTB (gd_V k_625 k_627 k_17 k_56 k_628) rfl rfl rfl (by decide +kernel) ⟨Nat.le_of_ble_eq_true rfl, Nat.le_of_ble_eq_true rfl⟩) hK hP [0, 1, 2, 3, 4, 5, 6, 7, 8, 9, 10] rfl 0 rfl rfl rfl hl.1 rfl (Nat.le_of_ble_eq_true rfl) d_Mod_changes_16 ⟨Nat.zero_le _, Nat.zero_le _⟩ hS (fun H locs hP hS => ?_)
    refine gz_ifz_eq (tgt := 26) hx hb d_Mod_changes_19 (by decide) (fun h19 => ?_) (fun h19 => ?_)
    · refine lv_iconst (v := nI 0) hx hb d_Mod_changes_26 (by decide +kernel) ?_
      refine gz_iadd hx hb d_Mod_changes_27 ?_
      refine lv_istore_n (lv' := [(1, .int (nI (n + 0))), (0, .ref (g 20)), (2, .int (nI b))]) hx hb d_Mod_changes_28 rfl hl (by decide) rfl (fun ls hl => ?_)
      refine lv_iinc (v := nI (b + 1)) (lv' := [(2, .int (nI (b + 1))), (1, .int (nI (n + 0))), (0, .ref (g 20))]) hx hb d_Mod_changes_29 hl (k := 2) rfl (nI_add b 1) (by decide) rfl (fun ls hl => ?_)
      refine lv_goto (tgt := 5) hx hb d_Mod_changes_32 (by decide) ?_
      exact ih5 (n + 0, b + 1) _ _ _ (by first | omega | (dsimp only; omega)) ⟨hP, hS, lv_sub hl [2, 1, 0] rfl, (by omega), (by rw [← hb2, show L - b = (L - (b + 1)) + 1 by omega, chG, h19]; simp; try omega), (by omega)⟩
    · refine lv_iconst (v := nI 1) hx hb d_Mod_changes_22 (by decide +kernel) ?_
      refine lv_goto (tgt := 27) hx hb d_Mod_changes_23 (by decide) ?_
      refine gz_iadd hx hb d_Mod_changes_27 ?_
      refine lv_istore_n (lv' := [(1, .int (nI (n + 1))), (0, .ref (g 20)), (2, .int (nI b))]) hx hb d_Mod_changes_28 rfl hl (by decide) rfl (fun ls hl => ?_)
      refine lv_iinc (v := nI (b + 1)) (lv' := [(2, .int (nI (b + 1))), (1, .int (nI (n + 1))), (0, .ref (g 20))]) hx hb d_Mod_changes_29 hl (k := 2) rfl (nI_add b 1) (by decide) rfl (fun ls hl => ?_)
      refine lv_goto (tgt := 5) hx hb d_Mod_changes_32 (by decide) ?_
      exact ih5 (n + 1, b + 1) _ _ _ (by first | omega | (dsimp only; omega)) ⟨hP, hS, lv_sub hl [2, 1, 0] rfl, (by omega), (by rw [← hb2, show L - b = (L - (b + 1)) + 1 by omega, chG, h19]; simp; try omega), (by omega)⟩
theorem d_Mod_copy_0 : decode b_Mod_copy 0 = .ok (.iconst 0, 1) := by decide +kernel
theorem d_Mod_copy_1 : decode b_Mod_copy 1 = .ok (.istore_n 2, 1) := by decide +kernel
theorem d_Mod_copy_2 : decode b_Mod_copy 2 = .ok (.iload_n 2, 1) := by decide +kernel
theorem d_Mod_copy_3 : decode b_Mod_copy 3 = .ok (.aload_n 1, 1) := by decide +kernel
theorem d_Mod_copy_4 : decode b_Mod_copy 4 = .ok (.arraylength, 1) := by decide +kernel
theorem d_Mod_copy_5 : decode b_Mod_copy 5 = .ok (.if_icmp .ge 15, 3) := by decide +kernel
theorem d_Mod_copy_8 : decode b_Mod_copy 8 = .ok (.aload_n 1, 1) := by decide +kernel
theorem d_Mod_copy_9 : decode b_Mod_copy 9 = .ok (.iload_n 2, 1) := by decide +kernel
theorem d_Mod_copy_10 : decode b_Mod_copy 10 = .ok (.aload_n 0, 1) := by decide +kernel
theorem d_Mod_copy_11 : decode b_Mod_copy 11 = .ok (.iload_n 2, 1) := by decide +kernel
theorem d_Mod_copy_12 : decode b_Mod_copy 12 = .ok (.iaload, 1) := by decide +kernel
theorem d_Mod_copy_13 : decode b_Mod_copy 13 = .ok (.iastore, 1) := by decide +kernel
theorem d_Mod_copy_14 : decode b_Mod_copy 14 = .ok (.iinc 2 1, 3) := by decide +kernel
theorem d_Mod_copy_17 : decode b_Mod_copy 17 = .ok (.goto (-15), 3) := by decide +kernel
theorem d_Mod_copy_20 : decode b_Mod_copy 20 = .ok (.return_, 1) := by decide +kernel
set_option maxHeartbeats 4000000 in
set_option maxRecDepth 100000 in
theorem c_Mod_copy (l : Launch) (D : va_G) (a0 a1 : Nat) (k : Nat → ClassId) (n : Nat) (hn0 : n < 2147483648) (f g : Nat → Nat) : MuV l y_Mod_copy w_Mod_copy ({ frames := 0, cells := 0, slots := 0, locals := 0 }) [.ref a0, .ref a1] D cl5 (tyC k) (wB a0 a1 k n f g) (wB a0 a1 k n f (cpM f g n)) := by
  intro sz
  refine Met.ofW (cc := b_Mod_copy) (maxL := 3) (ret := none) (by decide) rfl ?_
  intro p e s m args below meth c s₁ B hml hv
  obtain ⟨rfl, hsz, hP, hK, hD0⟩ := hv
  have hx := B.exec
  have hb := B.bytes
  have hr := B.returns
  have hts := atoms_spec (ws := w_Mod_copy) B.pre
  have hTB : ∀ w ∈ lw_tb, w.before _ s = true := fun w h => hts w (List.mem_cons_of_mem _ h)
  have hown : s.vm.findClass R_Mod = some m.cls := findClass_of_methodNamed B.named
  have hlocks := B.notSynchronized
  subst hsz
  have hD := hD0.self (sz := s.heap.size)
  generalize hAe : va_A (wB a0 a1 k n f g) s.heap.size = A at hD ⊢
  have hA : ∀ q : Nat, s.heap.size ≤ q → A q := fun q h => by rw [← hAe]; exact Or.inr h
  have hS : va_S A s.heap s.heap [] := va_S.rf
  have hl := lv_entry ([.ref a0, .ref a1]) (n := 3) (Nat.le_of_ble_eq_true rfl)
  rw [lg_entry_eq]
  generalize (lg_sl ([.ref a0, .ref a1]) ++ List.replicate (3 - (lg_sl ([.ref a0, .ref a1])).length) Slot.unset).toArray = ls at hl ⊢
  have hl : lv_has ls 3 [(0, .ref a0), (1, .ref a1)] := hl
  refine lv_iconst (v := nI 0) hx hb d_Mod_copy_0 (by decide +kernel) ?_
  refine lv_istore_n (lv' := [(2, .int (nI 0)), (0, .ref a0), (1, .ref a1)]) hx hb d_Mod_copy_1 rfl hl (by decide) rfl (fun ls hl => ?_)
  have hP : va_P D cl5 (wB a0 a1 k n f (cpM f g 0)) s.heap := by rw [cpM_0]; exact hP
  have hD : va_D A (wB a0 a1 k n f (cpM f g 0)) := by rw [cpM_0]; exact hD
  refine gz_loop 2 (fun (zz : Nat) H locs ls => match zz with | i => va_P D cl5 (wB a0 a1 k n f (cpM f g i)) H ∧ va_D A (wB a0 a1 k n f (cpM f g i)) ∧ va_S A s.heap H locs ∧ lv_has ls 3 [(0, .ref a0), (1, .ref a1), (2, .int (nI i))] ∧ (i ≤ n)) (fun (zz : Nat) => match zz with | i => n - i) (fun zz H locs ls hI ih2 => ?_) (0) ⟨hP, hD, hS, lv_sub hl [1, 2, 0] rfl, (by omega)⟩
  obtain ⟨i, rfl⟩ : ∃ z, z = zz := ⟨_, rfl⟩
  obtain ⟨hP, hD, hS, hl, hi1⟩ := hI
  refine lv_iload_n hx hb d_Mod_copy_2 rfl (lv_at hl 2 rfl) ?_
  refine lv_aload_n hx hb d_Mod_copy_3 rfl (lv_at hl 1 rfl) ?_
  refine gm_len hx hb hK hP 1 2 rfl rfl d_Mod_copy_4 ?_
  refine gz_icmp_ge (tgt := 20) hx hb d_Mod_copy_5 (by decide) (by omega) (by omega) (fun h5 => ?_) (fun h5 => ?_)
  · have hin : i = n := by omega
    have hP9 : va_P D cl5 (wB a0 a1 k n f (cpM f g n)) H := (by rw [← hin]; rw [← hin] at hP; exact hP)
    have hD9 : va_D A (wB a0 a1 k n f (cpM f g n)) := (by rw [← hin]; rw [← hin] at hD; exact hD)
    exact W.vret hx hb hr (fun tt9 ht9 hW9 => ⟨⟨(), rfl, trivial, ⟨by rw [ht9]; exact hP9, hD9⟩⟩, hS.F ht9⟩) hS.2.2 d_Mod_copy_20
  · refine lv_aload_n hx hb d_Mod_copy_8 rfl (lv_at hl 1 rfl) ?_
    refine lv_iload_n hx hb d_Mod_copy_9 rfl (lv_at hl 2 rfl) ?_
    refine lv_aload_n hx hb d_Mod_copy_10 rfl (lv_at hl 0 rfl) ?_
    refine lv_iload_n hx hb d_Mod_copy_11 rfl (lv_at hl 2 rfl) ?_
    refine gm_ald hx hb hK hP 0 2 rfl rfl (i := i) (by omega) (by omega) d_Mod_copy_12 ?_
    refine gm_ast hx hb hK hP hD hS 1 2 rfl rfl (i := i) (x := f i) (by omega) (by omega) d_Mod_copy_13 (fun H locs hP hD hS => ?_)
    have hP : va_P D cl5 (wB a0 a1 k n f (va_up (cpM f g i) i (f i))) H := hP
    have hD : va_D A (wB a0 a1 k n f (va_up (cpM f g i) i (f i))) := hD
    refine lv_iinc (v := nI (i + 1)) (lv' := [(2, .int (nI (i + 1))), (0, .ref a0), (1, .ref a1)]) hx hb d_Mod_copy_14 hl (k := 2) rfl (nI_add i 1) (by decide) rfl (fun ls hl => ?_)
    refine lv_goto (tgt := 2) hx hb d_Mod_copy_17 (by decide) ?_
    have hP : va_P D cl5 (wB a0 a1 k n f (cpM f g (i + 1))) H := by rw [← cpM_s]; exact hP
    have hD : va_D A (wB a0 a1 k n f (cpM f g (i + 1))) := by rw [← cpM_s]; exact hD
    exact ih2 (i + 1) _ _ _ (by first | omega | (dsimp only; omega)) ⟨hP, hD, hS, lv_sub hl [1, 2, 0] rfl, (by omega)⟩
