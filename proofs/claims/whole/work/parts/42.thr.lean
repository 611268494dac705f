set_option maxHeartbeats 4000000 in
set_option maxRecDepth 100000 in
theorem c_Tree_checkInode_x (l : Launch) (htr : l.stackTraces = false) (v : Int32) (hbad : v < 0 ∨ nI 64 ≤ v) : ThV l y_Tree_checkInode w_Tree_checkInode ({ frames := 7, cells := 1, slots := 6, locals := 110 }) [.int (v)] xU IAE := by
  refine vx_ofW (cc := b_Tree_checkInode) (maxL := 1) (ret := none) (by decide) rfl ?_
  intro p9 e9 s m args9 below9 meth9 c9 s₁ B hml ht hv
  obtain ⟨rfl, hX⟩ := hv
  have hx := B.exec
  have hb := B.bytes
  have hr := B.returns
  have hts := atoms_spec (ws := w_Tree_checkInode) B.pre
  have hTB : ∀ w ∈ lw_tb, w.before _ s = true := fun w h => hts w (List.mem_cons_of_mem _ h)
  have hown : s.vm.findClass R_Tree = some m.cls := findClass_of_methodNamed B.named
  have hlocks := B.notSynchronized
  have hS : va_S (fun _ => False) s.heap s.heap [] := va_S.rf
  have hP : va_P (fun _ => 0, fun _ _ => 0) cl5 [] s.heap := fun k q h => by simp at h
  have hl := lv_entry ([.int (v)]) (n := 1) (Nat.le_of_ble_eq_true rfl)
  rw [lg_entry_eq]
  generalize (lg_sl ([.int (v)]) ++ List.replicate (1 - (lg_sl ([.int (v)])).length) Slot.unset).toArray = ls at hl ⊢
  have hl : lv_has ls 1 [(0, .int (v))] := hl
  refine lv_iload_n hx hb d_Tree_checkInode_0 rfl (lv_at hl 0 rfl) ?_
  refine lv_if_lt (tgt := 10) hx hb d_Tree_checkInode_1 (by decide) (fun h1 => ?_) (fun h1 => ?_)
  · exact gz_throw hx hb htr hown hX hTB (by decide +kernel) xg1 xb1 xo1 xl1 (show (188, "an inode is not 0 .. 63") ∈ xst by decide +kernel) ht hlocks (hl.1.trans hml.symm) hS (Nat.le_of_ble_eq_true rfl) d_Tree_checkInode_10 d_Tree_checkInode_13 d_Tree_checkInode_14 d_Tree_checkInode_16 d_Tree_checkInode_19 (Nat.le_of_ble_eq_true rfl) (Nat.le_of_ble_eq_true rfl) (Nat.le_of_ble_eq_true rfl) (Nat.le_of_ble_eq_true rfl) (Nat.le_refl _) (Nat.le_refl _)
  · refine lv_iload_n hx hb d_Tree_checkInode_4 rfl (lv_at hl 0 rfl) ?_
    refine lv_bipush (v := nI 64) hx hb d_Tree_checkInode_5 (by decide +kernel) ?_
    refine lv_icmp_lt (tgt := 20) hx hb d_Tree_checkInode_7 (by decide) (fun h7 => ?_) (fun h7 => ?_)
    · exact absurd hbad (fun z => z.elim h1 (fun q => absurd h7 (Int32.not_lt.mpr q)))
    · exact gz_throw hx hb htr hown hX hTB (by decide +kernel) xg1 xb1 xo1 xl1 (show (188, "an inode is not 0 .. 63") ∈ xst by decide +kernel) ht hlocks (hl.1.trans hml.symm) hS (Nat.le_of_ble_eq_true rfl) d_Tree_checkInode_10 d_Tree_checkInode_13 d_Tree_checkInode_14 d_Tree_checkInode_16 d_Tree_checkInode_19 (Nat.le_of_ble_eq_true rfl) (Nat.le_of_ble_eq_true rfl) (Nat.le_of_ble_eq_true rfl) (Nat.le_of_ble_eq_true rfl) (Nat.le_refl _) (Nat.le_refl _)
set_option maxHeartbeats 4000000 in
set_option maxRecDepth 100000 in
theorem c_Tree_checkName_x (l : Launch) (htr : l.stackTraces = false) (v : Int32) (hbad : v < nI 1 ∨ nI 65535 < v) : ThV l y_Tree_checkName w_Tree_checkName ({ frames := 7, cells := 1, slots := 6, locals := 110 }) [.int (v)] xU IAE := by
  refine vx_ofW (cc := b_Tree_checkName) (maxL := 1) (ret := none) (by decide) rfl ?_
  intro p9 e9 s m args9 below9 meth9 c9 s₁ B hml ht hv
  obtain ⟨rfl, hX⟩ := hv
  have hx := B.exec
  have hb := B.bytes
  have hr := B.returns
  have hts := atoms_spec (ws := w_Tree_checkName) B.pre
  have hTB : ∀ w ∈ lw_tb, w.before _ s = true := fun w h => hts w (List.mem_cons_of_mem _ h)
  have hown : s.vm.findClass R_Tree = some m.cls := findClass_of_methodNamed B.named
  have hlocks := B.notSynchronized
  have hS : va_S (fun _ => False) s.heap s.heap [] := va_S.rf
  have hP : va_P (fun _ => 0, fun _ _ => 0) cl5 [] s.heap := fun k q h => by simp at h
  have hl := lv_entry ([.int (v)]) (n := 1) (Nat.le_of_ble_eq_true rfl)
  rw [lg_entry_eq]
  generalize (lg_sl ([.int (v)]) ++ List.replicate (1 - (lg_sl ([.int (v)])).length) Slot.unset).toArray = ls at hl ⊢
  have hl : lv_has ls 1 [(0, .int (v))] := hl
  refine lv_iload_n hx hb d_Tree_checkName_0 rfl (lv_at hl 0 rfl) ?_
  refine lv_iconst (v := nI 1) hx hb d_Tree_checkName_1 (by decide +kernel) ?_
  refine lv_icmp_lt (tgt := 11) hx hb d_Tree_checkName_2 (by decide) (fun h2 => ?_) (fun h2 => ?_)
  · exact gz_throw hx hb htr hown hX hTB (by decide +kernel) xg1 xb1 xo1 xl1 (show (191, "a name is not 1 .. 65535") ∈ xst by decide +kernel) ht hlocks (hl.1.trans hml.symm) hS (Nat.le_of_ble_eq_true rfl) d_Tree_checkName_11 d_Tree_checkName_14 d_Tree_checkName_15 d_Tree_checkName_17 d_Tree_checkName_20 (Nat.le_of_ble_eq_true rfl) (Nat.le_of_ble_eq_true rfl) (Nat.le_of_ble_eq_true rfl) (Nat.le_of_ble_eq_true rfl) (Nat.le_refl _) (Nat.le_refl _)
  · refine lv_iload_n hx hb d_Tree_checkName_5 rfl (lv_at hl 0 rfl) ?_
    refine lv_ldc (v := nI 65535) hx hb hown (hTB _ k_334) d_Tree_checkName_6 ?_
    refine lv_icmp_le (tgt := 21) hx hb d_Tree_checkName_8 (by decide) (fun h8 => ?_) (fun h8 => ?_)
    · exact absurd hbad (fun z => z.elim h2 (fun q => absurd h8 (Int32.not_le.mpr q)))
    · exact gz_throw hx hb htr hown hX hTB (by decide +kernel) xg1 xb1 xo1 xl1 (show (191, "a name is not 1 .. 65535") ∈ xst by decide +kernel) ht hlocks (hl.1.trans hml.symm) hS (Nat.le_of_ble_eq_true rfl) d_Tree_checkName_11 d_Tree_checkName_14 d_Tree_checkName_15 d_Tree_checkName_17 d_Tree_checkName_20 (Nat.le_of_ble_eq_true rfl) (Nat.le_of_ble_eq_true rfl) (Nat.le_of_ble_eq_true rfl) (Nat.le_of_ble_eq_true rfl) (Nat.le_refl _) (Nat.le_refl _)
set_option maxHeartbeats 4000000 in
set_option maxRecDepth 100000 in
theorem c_Tree_feed_x (l : Launch) (htr : l.stackTraces = false) (D : va_G) (g : Nat → Nat) (k : Nat → ClassId) (L : Nat) (hL0 : 96 ≤ L) (hL : L ≤ 768) (u : DSt) (f0 : Nat → Int32) (tl : Nat) (tp : Nat → Int32) (x : Int32) (v : Int64) (hbad : x < nI 1 ∨ nI 8 < x) : ThI l y_Tree_feed w_Tree_feed ({ frames := 7, cells := 1, slots := 6, locals := 110 }) [.ref (g 9), .int (x), .long (v)] (ThP D cl5 (tyC k) (wT g k L u f0 tl tp)) IAE := by
  refine vx_ofW (cc := b_Tree_feed) (maxL := 5) (ret := (some .int)) (by decide) rfl ?_
  intro p9 e9 s m args9 below9 meth9 c9 s₁ B hml ht hv
  obtain ⟨rfl, ⟨hP, hK⟩, hX⟩ := hv
  have hx := B.exec
  have hb := B.bytes
  have hr := B.returns
  have hts := atoms_spec (ws := w_Tree_feed) B.pre
  have hTB : ∀ w ∈ lw_tb, w.before _ s = true := fun w h => hts w (List.mem_cons_of_mem _ h)
  have hown : s.vm.findClass R_Tree = some m.cls := findClass_of_methodNamed B.named
  have hlocks := B.notSynchronized
  have hS : va_S (fun _ => False) s.heap s.heap [] := va_S.rf
  have hl := lv_entry ([.ref (g 9), .int (x), .long (v)]) (n := 5) (Nat.le_of_ble_eq_true rfl)
  rw [lg_entry_eq]
  generalize (lg_sl ([.ref (g 9), .int (x), .long (v)]) ++ List.replicate (5 - (lg_sl ([.ref (g 9), .int (x), .long (v)])).length) Slot.unset).toArray = ls at hl ⊢
  have hl : lv_has ls 5 [(0, .ref (g 9)), (1, .int (x)), (2, .long (v))] := hl
  refine lv_iload_n hx hb d_Tree_feed_0 rfl (lv_at hl 1 rfl) ?_
  refine lv_iconst (v := nI 1) hx hb d_Tree_feed_1 (by decide +kernel) ?_
  refine lv_icmp_lt (tgt := 11) hx hb d_Tree_feed_2 (by decide) (fun h2 => ?_) (fun h2 => ?_)
  · exact gz_throw hx hb htr hown hX hTB (by decide +kernel) xg1 xb1 xo1 xl1 (show (56, "n is not 1 .. 8") ∈ xst by decide +kernel) ht hlocks (hl.1.trans hml.symm) hS (Nat.le_of_ble_eq_true rfl) d_Tree_feed_11 d_Tree_feed_14 d_Tree_feed_15 d_Tree_feed_17 d_Tree_feed_20 (Nat.le_of_ble_eq_true rfl) (Nat.le_of_ble_eq_true rfl) (Nat.le_of_ble_eq_true rfl) (Nat.le_of_ble_eq_true rfl) (Nat.le_refl _) (Nat.le_refl _)
  · refine lv_iload_n hx hb d_Tree_feed_5 rfl (lv_at hl 1 rfl) ?_
    refine lv_bipush (v := nI 8) hx hb d_Tree_feed_6 (by decide +kernel) ?_
    refine lv_icmp_le (tgt := 21) hx hb d_Tree_feed_8 (by decide) (fun h8 => ?_) (fun h8 => ?_)
    · exact absurd hbad (fun z => z.elim h2 (fun q => absurd h8 (Int32.not_le.mpr q)))
    · exact gz_throw hx hb htr hown hX hTB (by decide +kernel) xg1 xb1 xo1 xl1 (show (56, "n is not 1 .. 8") ∈ xst by decide +kernel) ht hlocks (hl.1.trans hml.symm) hS (Nat.le_of_ble_eq_true rfl) d_Tree_feed_11 d_Tree_feed_14 d_Tree_feed_15 d_Tree_feed_17 d_Tree_feed_20 (Nat.le_of_ble_eq_true rfl) (Nat.le_of_ble_eq_true rfl) (Nat.le_of_ble_eq_true rfl) (Nat.le_of_ble_eq_true rfl) (Nat.le_refl _) (Nat.le_refl _)
set_option maxHeartbeats 4000000 in
set_option maxRecDepth 100000 in
theorem c_Tree_feed_y (l : Launch) (htr : l.stackTraces = false) (D : va_G) (g : Nat → Nat) (k : Nat → ClassId) (L : Nat) (hL0 : 96 ≤ L) (hL : L ≤ 768) (u : DSt) (f0 : Nat → Int32) (tl : Nat) (tp : Nat → Int32) (n : Nat) (v : Int64) (hn1 : 1 ≤ n) (hn2 : n ≤ 8) (ht1 : tl ≤ 512) (ht0 : 512 < tl + n) : ThI l y_Tree_feed w_Tree_feed ({ frames := 7, cells := 1, slots := 6, locals := 110 }) [.ref (g 9), .int (nI n), .long (v)] (ThP D cl5 (tyC k) (wT g k L u f0 tl tp)) ISE := by
  refine vx_ofW (cc := b_Tree_feed) (maxL := 5) (ret := (some .int)) (by decide) rfl ?_
  intro p9 e9 s m args9 below9 meth9 c9 s₁ B hml ht hv
  obtain ⟨rfl, ⟨hP, hK⟩, hX⟩ := hv
  have hx := B.exec
  have hb := B.bytes
  have hr := B.returns
  have hts := atoms_spec (ws := w_Tree_feed) B.pre
  have hTB : ∀ w ∈ lw_tb, w.before _ s = true := fun w h => hts w (List.mem_cons_of_mem _ h)
  have hown : s.vm.findClass R_Tree = some m.cls := findClass_of_methodNamed B.named
  have hlocks := B.notSynchronized
  have hS : va_S (fun _ => False) s.heap s.heap [] := va_S.rf
  have hl := lv_entry ([.ref (g 9), .int (nI n), .long (v)]) (n := 5) (Nat.le_of_ble_eq_true rfl)
  rw [lg_entry_eq]
  generalize (lg_sl ([.ref (g 9), .int (nI n), .long (v)]) ++ List.replicate (5 - (lg_sl ([.ref (g 9), .int (nI n), .long (v)])).length) Slot.unset).toArray = ls at hl ⊢
  have hl : lv_has ls 5 [(0, .ref (g 9)), (1, .int (nI n)), (2, .long (v))] := hl
  refine lv_iload_n hx hb d_Tree_feed_0 rfl (lv_at hl 1 rfl) ?_
  refine lv_iconst (v := nI 1) hx hb d_Tree_feed_1 (by decide +kernel) ?_
  refine gz_icmp_lt (tgt := 11) hx hb d_Tree_feed_2 (by decide) (by omega) (by omega) (fun h2 => ?_) (fun h2 => ?_)
  · exact absurd h2 (by omega)
  · refine lv_iload_n hx hb d_Tree_feed_5 rfl (lv_at hl 1 rfl) ?_
    refine lv_bipush (v := nI 8) hx hb d_Tree_feed_6 (by decide +kernel) ?_
    refine gz_icmp_le (tgt := 21) hx hb d_Tree_feed_8 (by decide) (by omega) (by omega) (fun h8 => ?_) (fun h8 => ?_)
    · refine lv_aload_n hx hb d_Tree_feed_21 rfl (lv_at hl 0 rfl) ?_
      refine va_get (D := D) (ci := 3) (v := .int (nI tl)) (C := R_Tree) (T := T_Tree) (N := 5) hx hb hTB in_Tree hown hK hP 0 rfl rfl 4 (by decide) (hTB _ k_199) (fun _ h9 => h9) rfl d_Tree_feed_22 ?_
      refine lv_iload_n hx hb d_Tree_feed_25 rfl (lv_at hl 1 rfl) ?_
      refine gz_iadd hx hb d_Tree_feed_26 ?_
      refine lv_sipush (v := nI 512) hx hb d_Tree_feed_27 (by decide +kernel) ?_
      refine gz_icmp_le (tgt := 43) hx hb d_Tree_feed_30 (by decide) (by omega) (by omega) (fun h30 => ?_) (fun h30 => ?_)
      · exact absurd h30 (by omega)
      · exact gz_throw hx hb htr hown hX hTB (by decide +kernel) xg2 xb2 xo2 xl2 (show (63, "the tape would have more than 512 bytes") ∈ xst by decide +kernel) ht hlocks (hl.1.trans hml.symm) hS (Nat.le_of_ble_eq_true rfl) d_Tree_feed_33 d_Tree_feed_36 d_Tree_feed_37 d_Tree_feed_39 d_Tree_feed_42 (Nat.le_of_ble_eq_true rfl) (Nat.le_of_ble_eq_true rfl) (Nat.le_of_ble_eq_true rfl) (Nat.le_of_ble_eq_true rfl) (Nat.le_refl _) (Nat.le_refl _)
    · exact absurd h8 (by omega)
set_option maxHeartbeats 4000000 in
set_option maxRecDepth 100000 in
theorem c_Tree_make_x (l : Launch) (htr : l.stackTraces = false) (D : va_G) (g : Nat → Nat) (k : Nat → ClassId) (L : Nat) (hL0 : 96 ≤ L) (hL : L ≤ 768) (u : DSt) (f0 : Nat → Int32) (tl : Nat) (tp : Nat → Int32) (x y : Int32) (b : Bool) (hbad : x < 0 ∨ nI 64 ≤ x) : ThI l y_Tree_make w_Tree_make ({ frames := 8, cells := 1, slots := 6, locals := 204 }) [.ref (g 9), .int (x), .int (y), .int (zI (b))] (ThP D cl5 (tyC k) (wT g k L u f0 tl tp)) IAE := by
  refine vx_ofW (cc := b_Tree_make) (maxL := 6) (ret := (some .int)) (by decide) rfl ?_
  intro p9 e9 s m args9 below9 meth9 c9 s₁ B hml ht hv
  obtain ⟨rfl, ⟨hP, hK⟩, hX⟩ := hv
  have hx := B.exec
  have hb := B.bytes
  have hr := B.returns
  have hts := atoms_spec (ws := w_Tree_make) B.pre
  have hTB : ∀ w ∈ lw_tb, w.before _ s = true := fun w h => hts w (List.mem_cons_of_mem _ h)
  have hown : s.vm.findClass R_Tree = some m.cls := findClass_of_methodNamed B.named
  have hlocks := B.notSynchronized
  have hS : va_S (fun _ => False) s.heap s.heap [] := va_S.rf
  have hl := lv_entry ([.ref (g 9), .int (x), .int (y), .int (zI (b))]) (n := 6) (Nat.le_of_ble_eq_true rfl)
  rw [lg_entry_eq]
  generalize (lg_sl ([.ref (g 9), .int (x), .int (y), .int (zI (b))]) ++ List.replicate (6 - (lg_sl ([.ref (g 9), .int (x), .int (y), .int (zI (b))])).length) Slot.unset).toArray = ls at hl ⊢
  have hl : lv_has ls 6 [(0, .ref (g 9)), (1, .int (x)), (2, .int (y)), (3, .int (zI (b)))] := hl
  refine lv_iload_n hx hb d_Tree_make_0 rfl (lv_at hl 1 rfl) ?_
  exact gz_thSv (As := [.int (x)]) (rest := []) ⟨hx, hb, hml, hown, hTB⟩ (c_Tree_checkInode_x l htr x hbad) (cwS 1 hTB (gd_S k_327 k_328 k_51 k_329) rfl rfl rfl (by decide +kernel) ⟨Nat.le_of_ble_eq_true rfl, Nat.le_of_ble_eq_true rfl⟩) hX hS ht hlocks rfl hl.1 rfl (Nat.le_of_ble_eq_true rfl) d_Tree_make_1 ⟨Nat.le_of_ble_eq_true rfl, Nat.le_of_ble_eq_true rfl⟩ (Nat.le_refl _) (Nat.le_refl _)
set_option maxHeartbeats 4000000 in
set_option maxRecDepth 100000 in
theorem c_Tree_make_y (l : Launch) (htr : l.stackTraces = false) (D : va_G) (g : Nat → Nat) (k : Nat → ClassId) (L : Nat) (hL0 : 96 ≤ L) (hL : L ≤ 768) (u : DSt) (f0 : Nat → Int32) (tl : Nat) (tp : Nat → Int32) (d : Nat) (y : Int32) (b : Bool) (hd0 : d < 64) (hbad : y < nI 1 ∨ nI 65535 < y) : ThI l y_Tree_make w_Tree_make ({ frames := 8, cells := 1, slots := 6, locals := 204 }) [.ref (g 9), .int (nI d), .int (y), .int (zI (b))] (ThP D cl5 (tyC k) (wT g k L u f0 tl tp)) IAE := by
  refine vx_ofW (cc := b_Tree_make) (maxL := 6) (ret := (some .int)) (by decide) rfl ?_
  intro p9 e9 s m args9 below9 meth9 c9 s₁ B hml ht hv
  obtain ⟨rfl, ⟨hP, hK⟩, hX⟩ := hv
  have hx := B.exec
  have hb := B.bytes
  have hr := B.returns
  have hts := atoms_spec (ws := w_Tree_make) B.pre
  have hTB : ∀ w ∈ lw_tb, w.before _ s = true := fun w h => hts w (List.mem_cons_of_mem _ h)
  have hown : s.vm.findClass R_Tree = some m.cls := findClass_of_methodNamed B.named
  have hlocks := B.notSynchronized
  have hS : va_S (fun _ => False) s.heap s.heap [] := va_S.rf
  have hl := lv_entry ([.ref (g 9), .int (nI d), .int (y), .int (zI (b))]) (n := 6) (Nat.le_of_ble_eq_true rfl)
  rw [lg_entry_eq]
  generalize (lg_sl ([.ref (g 9), .int (nI d), .int (y), .int (zI (b))]) ++ List.replicate (6 - (lg_sl ([.ref (g 9), .int (nI d), .int (y), .int (zI (b))])).length) Slot.unset).toArray = ls at hl ⊢
  have hl : lv_has ls 6 [(0, .ref (g 9)), (1, .int (nI d)), (2, .int (y)), (3, .int (zI (b)))] := hl
  refine lv_iload_n hx hb d_Tree_make_0 rfl (lv_at hl 1 rfl) ?_
  refine gz_roSv (As := [.int (nI d)]) (rest := []) ⟨hx, hb, hml, hown, hTB⟩ (c_Tree_checkInode l d (by omega)) (cwS 1 hTB (gd_S k_327 k_328 k_51 k_329) rfl rfl rfl (by decide +kernel) ⟨Nat.le_of_ble_eq_true rfl, Nat.le_of_ble_eq_true rfl⟩) hP rfl hl.1 rfl (Nat.le_of_ble_eq_true rfl) d_Tree_make_1 ⟨Nat.zero_le _, Nat.zero_le _⟩ hS (fun H locs hP hS => ?_)
  refine lv_iload_n hx hb d_Tree_make_4 rfl (lv_at hl 2 rfl) ?_
  exact gz_thSv (As := [.int (y)]) (rest := []) ⟨hx, hb, hml, hown, hTB⟩ (c_Tree_checkName_x l htr y hbad) (cwS 1 hTB (gd_S k_331 k_332 k_51 k_333) rfl rfl rfl (by decide +kernel) ⟨Nat.le_of_ble_eq_true rfl, Nat.le_of_ble_eq_true rfl⟩) hX hS ht hlocks rfl hl.1 rfl (Nat.le_of_ble_eq_true rfl) d_Tree_make_5 ⟨Nat.le_of_ble_eq_true rfl, Nat.le_of_ble_eq_true rfl⟩ (Nat.le_refl _) (Nat.le_refl _)
set_option maxHeartbeats 4000000 in
set_option maxRecDepth 100000 in
theorem c_Tree_find_x (l : Launch) (htr : l.stackTraces = false) (D : va_G) (g : Nat → Nat) (k : Nat → ClassId) (L : Nat) (hL0 : 96 ≤ L) (hL : L ≤ 768) (u : DSt) (f0 : Nat → Int32) (tl : Nat) (tp : Nat → Int32) (x y : Int32) (hbad : x < 0 ∨ nI 64 ≤ x) : ThI l y_Tree_find w_Tree_find ({ frames := 8, cells := 1, slots := 6, locals := 139 }) [.ref (g 9), .int (x), .int (y)] (ThP D cl5 (tyC k) (wT g k L u f0 tl tp)) IAE := by
  refine vx_ofW (cc := b_Tree_find) (maxL := 4) (ret := (some .int)) (by decide) rfl ?_
  intro p9 e9 s m args9 below9 meth9 c9 s₁ B hml ht hv
  obtain ⟨rfl, ⟨hP, hK⟩, hX⟩ := hv
  have hx := B.exec
  have hb := B.bytes
  have hr := B.returns
  have hts := atoms_spec (ws := w_Tree_find) B.pre
  have hTB : ∀ w ∈ lw_tb, w.before _ s = true := fun w h => hts w (List.mem_cons_of_mem _ h)
  have hown : s.vm.findClass R_Tree = some m.cls := findClass_of_methodNamed B.named
  have hlocks := B.notSynchronized
  have hS : va_S (fun _ => False) s.heap s.heap [] := va_S.rf
  have hl := lv_entry ([.ref (g 9), .int (x), .int (y)]) (n := 4) (Nat.le_of_ble_eq_true rfl)
  rw [lg_entry_eq]
  generalize (lg_sl ([.ref (g 9), .int (x), .int (y)]) ++ List.replicate (4 - (lg_sl ([.ref (g 9), .int (x), .int (y)])).length) Slot.unset).toArray = ls at hl ⊢
  have hl : lv_has ls 4 [(0, .ref (g 9)), (1, .int (x)), (2, .int (y))] := hl
  refine lv_iload_n hx hb d_Tree_find_0 rfl (lv_at hl 1 rfl) ?_
  exact gz_thSv (As := [.int (x)]) (rest := []) ⟨hx, hb, hml, hown, hTB⟩ (c_Tree_checkInode_x l htr x hbad) (cwS 1 hTB (gd_S k_327 k_328 k_51 k_329) rfl rfl rfl (by decide +kernel) ⟨Nat.le_of_ble_eq_true rfl, Nat.le_of_ble_eq_true rfl⟩) hX hS ht hlocks rfl hl.1 rfl (Nat.le_of_ble_eq_true rfl) d_Tree_find_1 ⟨Nat.le_of_ble_eq_true rfl, Nat.le_of_ble_eq_true rfl⟩ (Nat.le_refl _) (Nat.le_refl _)
set_option maxHeartbeats 4000000 in
set_option maxRecDepth 100000 in
theorem c_Tree_find_y (l : Launch) (htr : l.stackTraces = false) (D : va_G) (g : Nat → Nat) (k : Nat → ClassId) (L : Nat) (hL0 : 96 ≤ L) (hL : L ≤ 768) (u : DSt) (f0 : Nat → Int32) (tl : Nat) (tp : Nat → Int32) (d : Nat) (y : Int32) (hd0 : d < 64) (hbad : y < nI 1 ∨ nI 65535 < y) : ThI l y_Tree_find w_Tree_find ({ frames := 8, cells := 1, slots := 6, locals := 139 }) [.ref (g 9), .int (nI d), .int (y)] (ThP D cl5 (tyC k) (wT g k L u f0 tl tp)) IAE := by
  refine vx_ofW (cc := b_Tree_find) (maxL := 4) (ret := (some .int)) (by decide) rfl ?_
  intro p9 e9 s m args9 below9 meth9 c9 s₁ B hml ht hv
  obtain ⟨rfl, ⟨hP, hK⟩, hX⟩ := hv
  have hx := B.exec
  have hb := B.bytes
  have hr := B.returns
  have hts := atoms_spec (ws := w_Tree_find) B.pre
  have hTB : ∀ w ∈ lw_tb, w.before _ s = true := fun w h => hts w (List.mem_cons_of_mem _ h)
  have hown : s.vm.findClass R_Tree = some m.cls := findClass_of_methodNamed B.named
  have hlocks := B.notSynchronized
  have hS : va_S (fun _ => False) s.heap s.heap [] := va_S.rf
  have hl := lv_entry ([.ref (g 9), .int (nI d), .int (y)]) (n := 4) (Nat.le_of_ble_eq_true rfl)
  rw [lg_entry_eq]
  generalize (lg_sl ([.ref (g 9), .int (nI d), .int (y)]) ++ List.replicate (4 - (lg_sl ([.ref (g 9), .int (nI d), .int (y)])).length) Slot.unset).toArray = ls at hl ⊢
  have hl : lv_has ls 4 [(0, .ref (g 9)), (1, .int (nI d)), (2, .int (y))] := hl
  refine lv_iload_n hx hb d_Tree_find_0 rfl (lv_at hl 1 rfl) ?_
  refine gz_roSv (As := [.int (nI d)]) (rest := []) ⟨hx, hb, hml, hown, hTB⟩ (c_Tree_checkInode l d (by omega)) (cwS 1 hTB (gd_S k_327 k_328 k_51 k_329) rfl rfl rfl (by decide +kernel) ⟨Nat.le_of_ble_eq_true rfl, Nat.le_of_ble_eq_true rfl⟩) hP rfl hl.1 rfl (Nat.le_of_ble_eq_true rfl) d_Tree_find_1 ⟨Nat.zero_le _, Nat.zero_le _⟩ hS (fun H locs hP hS => ?_)
  refine lv_iload_n hx hb d_Tree_find_4 rfl (lv_at hl 2 rfl) ?_
  exact gz_thSv (As := [.int (y)]) (rest := []) ⟨hx, hb, hml, hown, hTB⟩ (c_Tree_checkName_x l htr y hbad) (cwS 1 hTB (gd_S k_331 k_332 k_51 k_333) rfl rfl rfl (by decide +kernel) ⟨Nat.le_of_ble_eq_true rfl, Nat.le_of_ble_eq_true rfl⟩) hX hS ht hlocks rfl hl.1 rfl (Nat.le_of_ble_eq_true rfl) d_Tree_find_5 ⟨Nat.le_of_ble_eq_true rfl, Nat.le_of_ble_eq_true rfl⟩ (Nat.le_refl _) (Nat.le_refl _)
set_option maxHeartbeats 4000000 in
set_option maxRecDepth 100000 in
theorem c_Tree_remove_x (l : Launch) (htr : l.stackTraces = false) (D : va_G) (g : Nat → Nat) (k : Nat → ClassId) (L : Nat) (hL0 : 96 ≤ L) (hL : L ≤ 768) (u : DSt) (f0 : Nat → Int32) (tl : Nat) (tp : Nat → Int32) (x y : Int32) (hbad : x < 0 ∨ nI 64 ≤ x) : ThI l y_Tree_remove w_Tree_remove ({ frames := 8, cells := 1, slots := 6, locals := 200 }) [.ref (g 9), .int (x), .int (y)] (ThP D cl5 (tyC k) (wT g k L u f0 tl tp)) IAE := by
  refine vx_ofW (cc := b_Tree_remove) (maxL := 5) (ret := (some .int)) (by decide) rfl ?_
  intro p9 e9 s m args9 below9 meth9 c9 s₁ B hml ht hv
  obtain ⟨rfl, ⟨hP, hK⟩, hX⟩ := hv
  have hx := B.exec
  have hb := B.bytes
  have hr := B.returns
  have hts := atoms_spec (ws := w_Tree_remove) B.pre
  have hTB : ∀ w ∈ lw_tb, w.before _ s = true := fun w h => hts w (List.mem_cons_of_mem _ h)
  have hown : s.vm.findClass R_Tree = some m.cls := findClass_of_methodNamed B.named
  have hlocks := B.notSynchronized
  have hS : va_S (fun _ => False) s.heap s.heap [] := va_S.rf
  have hl := lv_entry ([.ref (g 9), .int (x), .int (y)]) (n := 5) (Nat.le_of_ble_eq_true rfl)
  rw [lg_entry_eq]
  generalize (lg_sl ([.ref (g 9), .int (x), .int (y)]) ++ List.replicate (5 - (lg_sl ([.ref (g 9), .int (x), .int (y)])).length) Slot.unset).toArray = ls at hl ⊢
  have hl : lv_has ls 5 [(0, .ref (g 9)), (1, .int (x)), (2, .int (y))] := hl
  refine lv_iload_n hx hb d_Tree_remove_0 rfl (lv_at hl 1 rfl) ?_
  exact gz_thSv (As := [.int (x)]) (rest := []) ⟨hx, hb, hml, hown, hTB⟩ (c_Tree_checkInode_x l htr x hbad) (cwS 1 hTB (gd_S k_327 k_328 k_51 k_329) rfl rfl rfl (by decide +kernel) ⟨Nat.le_of_ble_eq_true rfl, Nat.le_of_ble_eq_true rfl⟩) hX hS ht hlocks rfl hl.1 rfl (Nat.le_of_ble_eq_true rfl) d_Tree_remove_1 ⟨Nat.le_of_ble_eq_true rfl, Nat.le_of_ble_eq_true rfl⟩ (Nat.le_refl _) (Nat.le_refl _)
set_option maxHeartbeats 4000000 in
set_option maxRecDepth 100000 in
theorem c_Tree_remove_y (l : Launch) (htr : l.stackTraces = false) (D : va_G) (g : Nat → Nat) (k : Nat → ClassId) (L : Nat) (hL0 : 96 ≤ L) (hL : L ≤ 768) (u : DSt) (f0 : Nat → Int32) (tl : Nat) (tp : Nat → Int32) (d : Nat) (y : Int32) (hd0 : d < 64) (hbad : y < nI 1 ∨ nI 65535 < y) : ThI l y_Tree_remove w_Tree_remove ({ frames := 8, cells := 1, slots := 6, locals := 200 }) [.ref (g 9), .int (nI d), .int (y)] (ThP D cl5 (tyC k) (wT g k L u f0 tl tp)) IAE := by
  refine vx_ofW (cc := b_Tree_remove) (maxL := 5) (ret := (some .int)) (by decide) rfl ?_
  intro p9 e9 s m args9 below9 meth9 c9 s₁ B hml ht hv
  obtain ⟨rfl, ⟨hP, hK⟩, hX⟩ := hv
  have hx := B.exec
  have hb := B.bytes
  have hr := B.returns
  have hts := atoms_spec (ws := w_Tree_remove) B.pre
  have hTB : ∀ w ∈ lw_tb, w.before _ s = true := fun w h => hts w (List.mem_cons_of_mem _ h)
  have hown : s.vm.findClass R_Tree = some m.cls := findClass_of_methodNamed B.named
  have hlocks := B.notSynchronized
  have hS : va_S (fun _ => False) s.heap s.heap [] := va_S.rf
  have hl := lv_entry ([.ref (g 9), .int (nI d), .int (y)]) (n := 5) (Nat.le_of_ble_eq_true rfl)
  rw [lg_entry_eq]
  generalize (lg_sl ([.ref (g 9), .int (nI d), .int (y)]) ++ List.replicate (5 - (lg_sl ([.ref (g 9), .int (nI d), .int (y)])).length) Slot.unset).toArray = ls at hl ⊢
  have hl : lv_has ls 5 [(0, .ref (g 9)), (1, .int (nI d)), (2, .int (y))] := hl
  refine lv_iload_n hx hb d_Tree_remove_0 rfl (lv_at hl 1 rfl) ?_
  refine gz_roSv (As := [.int (nI d)]) (rest := []) ⟨hx, hb, hml, hown, hTB⟩ (c_Tree_checkInode l d (by omega)) (cwS 1 hTB (gd_S k_327 k_328 k_51 k_329) rfl rfl rfl (by decide +kernel) ⟨Nat.le_of_ble_eq_true rfl, Nat.le_of_ble_eq_true rfl⟩) hP rfl hl.1 rfl (Nat.le_of_ble_eq_true rfl) d_Tree_remove_1 ⟨Nat.zero_le _, Nat.zero_le _⟩ hS (fun H locs hP hS => ?_)
  refine lv_iload_n hx hb d_Tree_remove_4 rfl (lv_at hl 2 rfl) ?_
  exact gz_thSv (As := [.int (y)]) (rest := []) ⟨hx, hb, hml, hown, hTB⟩ (c_Tree_checkName_x l htr y hbad) (cwS 1 hTB (gd_S k_331 k_332 k_51 k_333) rfl rfl rfl (by decide +kernel) ⟨Nat.le_of_ble_eq_true rfl, Nat.le_of_ble_eq_true rfl⟩) hX hS ht hlocks rfl hl.1 rfl (Nat.le_of_ble_eq_true rfl) d_Tree_remove_5 ⟨Nat.le_of_ble_eq_true rfl, Nat.le_of_ble_eq_true rfl⟩ (Nat.le_refl _) (Nat.le_refl _)
set_option maxHeartbeats 4000000 in
set_option maxRecDepth 100000 in
theorem c_Tree_write_x (l : Launch) (htr : l.stackTraces = false) (D : va_G) (g : Nat → Nat) (k : Nat → ClassId) (L : Nat) (hL0 : 96 ≤ L) (hL : L ≤ 768) (u : DSt) (f0 : Nat → Int32) (tl : Nat) (tp : Nat → Int32) (x y : Int32) (hbad : x < 0 ∨ nI 64 ≤ x) : ThI l y_Tree_write w_Tree_write ({ frames := 8, cells := 1, slots := 6, locals := 179 }) [.ref (g 9), .int (x), .int (y)] (ThP D cl5 (tyC k) (wT g k L u f0 tl tp)) IAE := by
  refine vx_ofW (cc := b_Tree_write) (maxL := 8) (ret := (some .int)) (by decide) rfl ?_
  intro p9 e9 s m args9 below9 meth9 c9 s₁ B hml ht hv
  obtain ⟨rfl, ⟨hP, hK⟩, hX⟩ := hv
  have hx := B.exec
  have hb := B.bytes
  have hr := B.returns
  have hts := atoms_spec (ws := w_Tree_write) B.pre
  have hTB : ∀ w ∈ lw_tb, w.before _ s = true := fun w h => hts w (List.mem_cons_of_mem _ h)
  have hown : s.vm.findClass R_Tree = some m.cls := findClass_of_methodNamed B.named
  have hlocks := B.notSynchronized
  have hS : va_S (fun _ => False) s.heap s.heap [] := va_S.rf
  have hl := lv_entry ([.ref (g 9), .int (x), .int (y)]) (n := 8) (Nat.le_of_ble_eq_true rfl)
  rw [lg_entry_eq]
  generalize (lg_sl ([.ref (g 9), .int (x), .int (y)]) ++ List.replicate (8 - (lg_sl ([.ref (g 9), .int (x), .int (y)])).length) Slot.unset).toArray = ls at hl ⊢
  have hl : lv_has ls 8 [(0, .ref (g 9)), (1, .int (x)), (2, .int (y))] := hl
  refine lv_iload_n hx hb d_Tree_write_0 rfl (lv_at hl 1 rfl) ?_
  exact gz_thSv (As := [.int (x)]) (rest := []) ⟨hx, hb, hml, hown, hTB⟩ (c_Tree_checkInode_x l htr x hbad) (cwS 1 hTB (gd_S k_327 k_328 k_51 k_329) rfl rfl rfl (by decide +kernel) ⟨Nat.le_of_ble_eq_true rfl, Nat.le_of_ble_eq_true rfl⟩) hX hS ht hlocks rfl hl.1 rfl (Nat.le_of_ble_eq_true rfl) d_Tree_write_1 ⟨Nat.le_of_ble_eq_true rfl, Nat.le_of_ble_eq_true rfl⟩ (Nat.le_refl _) (Nat.le_refl _)
set_option maxHeartbeats 4000000 in
set_option maxRecDepth 100000 in
theorem c_Tree_cut_x (l : Launch) (htr : l.stackTraces = false) (D : va_G) (g : Nat → Nat) (k : Nat → ClassId) (L : Nat) (hL0 : 96 ≤ L) (hL : L ≤ 768) (u : DSt) (f0 : Nat → Int32) (tl : Nat) (tp : Nat → Int32) (x y : Int32) (hbad : x < 0 ∨ nI 64 ≤ x) : ThI l y_Tree_cut w_Tree_cut ({ frames := 8, cells := 1, slots := 6, locals := 179 }) [.ref (g 9), .int (x), .int (y)] (ThP D cl5 (tyC k) (wT g k L u f0 tl tp)) IAE := by
  refine vx_ofW (cc := b_Tree_cut) (maxL := 4) (ret := (some .int)) (by decide) rfl ?_
  intro p9 e9 s m args9 below9 meth9 c9 s₁ B hml ht hv
  obtain ⟨rfl, ⟨hP, hK⟩, hX⟩ := hv
  have hx := B.exec
  have hb := B.bytes
  have hr := B.returns
  have hts := atoms_spec (ws := w_Tree_cut) B.pre
  have hTB : ∀ w ∈ lw_tb, w.before _ s = true := fun w h => hts w (List.mem_cons_of_mem _ h)
  have hown : s.vm.findClass R_Tree = some m.cls := findClass_of_methodNamed B.named
  have hlocks := B.notSynchronized
  have hS : va_S (fun _ => False) s.heap s.heap [] := va_S.rf
  have hl := lv_entry ([.ref (g 9), .int (x), .int (y)]) (n := 4) (Nat.le_of_ble_eq_true rfl)
  rw [lg_entry_eq]
  generalize (lg_sl ([.ref (g 9), .int (x), .int (y)]) ++ List.replicate (4 - (lg_sl ([.ref (g 9), .int (x), .int (y)])).length) Slot.unset).toArray = ls at hl ⊢
  have hl : lv_has ls 4 [(0, .ref (g 9)), (1, .int (x)), (2, .int (y))] := hl
  refine lv_iload_n hx hb d_Tree_cut_0 rfl (lv_at hl 1 rfl) ?_
  exact gz_thSv (As := [.int (x)]) (rest := []) ⟨hx, hb, hml, hown, hTB⟩ (c_Tree_checkInode_x l htr x hbad) (cwS 1 hTB (gd_S k_327 k_328 k_51 k_329) rfl rfl rfl (by decide +kernel) ⟨Nat.le_of_ble_eq_true rfl, Nat.le_of_ble_eq_true rfl⟩) hX hS ht hlocks rfl hl.1 rfl (Nat.le_of_ble_eq_true rfl) d_Tree_cut_1 ⟨Nat.le_of_ble_eq_true rfl, Nat.le_of_ble_eq_true rfl⟩ (Nat.le_refl _) (Nat.le_refl _)
set_option maxHeartbeats 4000000 in
set_option maxRecDepth 100000 in
theorem c_Tree_read_x (l : Launch) (htr : l.stackTraces = false) (D : va_G) (g : Nat → Nat) (k : Nat → ClassId) (L : Nat) (hL0 : 96 ≤ L) (hL : L ≤ 768) (u : DSt) (f0 : Nat → Int32) (tl : Nat) (tp : Nat → Int32) (x y : Int32) (hbad : x < 0 ∨ nI 64 ≤ x) : ThL l y_Tree_read w_Tree_read ({ frames := 8, cells := 1, slots := 6, locals := 130 }) [.ref (g 9), .int (x), .int (y)] (ThP D cl5 (tyC k) (wT g k L u f0 tl tp)) IAE := by
  refine vx_ofW (cc := b_Tree_read) (maxL := 6) (ret := (some .long)) (by decide) rfl ?_
  intro p9 e9 s m args9 below9 meth9 c9 s₁ B hml ht hv
  obtain ⟨rfl, ⟨hP, hK⟩, hX⟩ := hv
  have hx := B.exec
  have hb := B.bytes
  have hr := B.returns
  have hts := atoms_spec (ws := w_Tree_read) B.pre
  have hTB : ∀ w ∈ lw_tb, w.before _ s = true := fun w h => hts w (List.mem_cons_of_mem _ h)
  have hown : s.vm.findClass R_Tree = some m.cls := findClass_of_methodNamed B.named
  have hlocks := B.notSynchronized
  have hS : va_S (fun _ => False) s.heap s.heap [] := va_S.rf
  have hl := lv_entry ([.ref (g 9), .int (x), .int (y)]) (n := 6) (Nat.le_of_ble_eq_true rfl)
  rw [lg_entry_eq]
  generalize (lg_sl ([.ref (g 9), .int (x), .int (y)]) ++ List.replicate (6 - (lg_sl ([.ref (g 9), .int (x), .int (y)])).length) Slot.unset).toArray = ls at hl ⊢
  have hl : lv_has ls 6 [(0, .ref (g 9)), (1, .int (x)), (2, .int (y))] := hl
  refine lv_iload_n hx hb d_Tree_read_0 rfl (lv_at hl 1 rfl) ?_
  exact gz_thSv (As := [.int (x)]) (rest := []) ⟨hx, hb, hml, hown, hTB⟩ (c_Tree_checkInode_x l htr x hbad) (cwS 1 hTB (gd_S k_327 k_328 k_51 k_329) rfl rfl rfl (by decide +kernel) ⟨Nat.le_of_ble_eq_true rfl, Nat.le_of_ble_eq_true rfl⟩) hX hS ht hlocks rfl hl.1 rfl (Nat.le_of_ble_eq_true rfl) d_Tree_read_1 ⟨Nat.le_of_ble_eq_true rfl, Nat.le_of_ble_eq_true rfl⟩ (Nat.le_refl _) (Nat.le_refl _)
set_option maxHeartbeats 4000000 in
set_option maxRecDepth 100000 in
theorem c_Tree_read_y (l : Launch) (htr : l.stackTraces = false) (D : va_G) (g : Nat → Nat) (k : Nat → ClassId) (L : Nat) (hL0 : 96 ≤ L) (hL : L ≤ 768) (u : DSt) (f0 : Nat → Int32) (tl : Nat) (tp : Nat → Int32) (i : Nat) (y : Int32) (hi0 : i < 64) (hbad : y < 0 ∨ nI (iS L (dNow u) i) ≤ y) : ThL l y_Tree_read w_Tree_read ({ frames := 8, cells := 1, slots := 6, locals := 130 }) [.ref (g 9), .int (nI i), .int (y)] (ThP D cl5 (tyC k) (wT g k L u f0 tl tp)) NSE := by
  refine vx_ofW (cc := b_Tree_read) (maxL := 6) (ret := (some .long)) (by decide) rfl ?_
  intro p9 e9 s m args9 below9 meth9 c9 s₁ B hml ht hv
  obtain ⟨rfl, ⟨hP, hK⟩, hX⟩ := hv
  have hx := B.exec
  have hb := B.bytes
  have hr := B.returns
  have hts := atoms_spec (ws := w_Tree_read) B.pre
  have hTB : ∀ w ∈ lw_tb, w.before _ s = true := fun w h => hts w (List.mem_cons_of_mem _ h)
  have hown : s.vm.findClass R_Tree = some m.cls := findClass_of_methodNamed B.named
  have hlocks := B.notSynchronized
  have hS : va_S (fun _ => False) s.heap s.heap [] := va_S.rf
  have hl := lv_entry ([.ref (g 9), .int (nI i), .int (y)]) (n := 6) (Nat.le_of_ble_eq_true rfl)
  rw [lg_entry_eq]
  generalize (lg_sl ([.ref (g 9), .int (nI i), .int (y)]) ++ List.replicate (6 - (lg_sl ([.ref (g 9), .int (nI i), .int (y)])).length) Slot.unset).toArray = ls at hl ⊢
  have hl : lv_has ls 6 [(0, .ref (g 9)), (1, .int (nI i)), (2, .int (y))] := hl
  refine lv_iload_n hx hb d_Tree_read_0 rfl (lv_at hl 1 rfl) ?_
  refine gz_roSv (As := [.int (nI i)]) (rest := []) ⟨hx, hb, hml, hown, hTB⟩ (c_Tree_checkInode l i (by omega)) (cwS 1 hTB (gd_S k_327 k_328 k_51 k_329) rfl rfl rfl (by decide +kernel) ⟨Nat.le_of_ble_eq_true rfl, Nat.le_of_ble_eq_true rfl⟩) hP rfl hl.1 rfl (Nat.le_of_ble_eq_true rfl) d_Tree_read_1 ⟨Nat.zero_le _, Nat.zero_le _⟩ hS (fun H locs hP hS => ?_)
  refine lv_iload_n hx hb d_Tree_read_4 rfl (lv_at hl 2 rfl) ?_
  refine lv_if_lt (tgt := 20) hx hb d_Tree_read_5 (by decide) (fun h5 => ?_) (fun h5 => ?_)
  · exact gz_throwN hx hb htr hown hX hTB (show (117, "there is no byte there") ∈ xst by decide +kernel) ht hlocks (hl.1.trans hml.symm) hS (Nat.le_of_ble_eq_true rfl) d_Tree_read_20 d_Tree_read_23 d_Tree_read_24 d_Tree_read_26 d_Tree_read_29 (Nat.le_of_ble_eq_true rfl) (Nat.le_of_ble_eq_true rfl) (Nat.le_of_ble_eq_true rfl) (Nat.le_of_ble_eq_true rfl) (Nat.le_refl _) (Nat.le_refl _)
  · refine lv_iload_n hx hb d_Tree_read_8 rfl (lv_at hl 2 rfl) ?_
    refine lv_aload_n hx hb d_Tree_read_9 rfl (lv_at hl 0 rfl) ?_
    refine va_get (D := D) (ci := 3) (v := .ref (g 6)) (C := R_Tree) (T := T_Tree) (N := 5) hx hb hTB in_Tree hown hK hP 0 rfl rfl 1 (by decide) (hTB _ k_196) (fun _ h9 => h9) rfl d_Tree_read_10 ?_
    refine lv_iload_n hx hb d_Tree_read_13 rfl (lv_at hl 1 rfl) ?_
    refine gz_roV (As := [.int (nI i)]) (rest := [.int (y)]) (wc := (wI g k L u)) ⟨hx, hb, hml, hown, hTB⟩ (c_Inodes_size l D g k L hL0 hL u i) (cwV 1 hTB (gd_V k_462 k_353 k_354 k_54 k_355) rfl rfl rfl (by decide +kernel) ⟨Nat.le_of_ble_eq_true rfl, Nat.le_of_ble_eq_true rfl⟩) hK hP [4, 5, 6, 7, 8, 9, 10] rfl 4 rfl rfl rfl hl.1 rfl (Nat.le_of_ble_eq_true rfl) d_Tree_read_14 ⟨Nat.zero_le _, Nat.zero_le _⟩ hS (fun H locs hP hS => ?_)
    have := iS_lt L (dNow u) i
    refine lv_icmp_lt (tgt := 30) hx hb d_Tree_read_17 (by decide) (fun h17 => ?_) (fun h17 => ?_)
    · exact absurd hbad (fun z => z.elim h5 (fun q => absurd h17 (Int32.not_lt.mpr q)))
    · exact gz_throwN hx hb htr hown hX hTB (show (117, "there is no byte there") ∈ xst by decide +kernel) ht hlocks (hl.1.trans hml.symm) hS (Nat.le_of_ble_eq_true rfl) d_Tree_read_20 d_Tree_read_23 d_Tree_read_24 d_Tree_read_26 d_Tree_read_29 (Nat.le_of_ble_eq_true rfl) (Nat.le_of_ble_eq_true rfl) (Nat.le_of_ble_eq_true rfl) (Nat.le_of_ble_eq_true rfl) (Nat.le_refl _) (Nat.le_refl _)
set_option maxHeartbeats 4000000 in
set_option maxRecDepth 100000 in
theorem c_Tree_move_x (l : Launch) (htr : l.stackTraces = false) (D : va_G) (g : Nat → Nat) (k : Nat → ClassId) (L : Nat) (hL0 : 96 ≤ L) (hL : L ≤ 768) (u : DSt) (f0 : Nat → Int32) (tl : Nat) (tp : Nat → Int32) (x y x2 y2 : Int32) (hbad : x < 0 ∨ nI 64 ≤ x) : ThI l y_Tree_move w_Tree_move ({ frames := 8, cells := 1, slots := 6, locals := 204 }) [.ref (g 9), .int (x), .int (y), .int (x2), .int (y2)] (ThP D cl5 (tyC k) (wT g k L u f0 tl tp)) IAE := by
  refine vx_ofW (cc := b_Tree_move) (maxL := 9) (ret := (some .int)) (by decide) rfl ?_
  intro p9 e9 s m args9 below9 meth9 c9 s₁ B hml ht hv
  obtain ⟨rfl, ⟨hP, hK⟩, hX⟩ := hv
  have hx := B.exec
  have hb := B.bytes
  have hr := B.returns
  have hts := atoms_spec (ws := w_Tree_move) B.pre
  have hTB : ∀ w ∈ lw_tb, w.before _ s = true := fun w h => hts w (List.mem_cons_of_mem _ h)
  have hown : s.vm.findClass R_Tree = some m.cls := findClass_of_methodNamed B.named
  have hlocks := B.notSynchronized
  have hS : va_S (fun _ => False) s.heap s.heap [] := va_S.rf
  have hl := lv_entry ([.ref (g 9), .int (x), .int (y), .int (x2), .int (y2)]) (n := 9) (Nat.le_of_ble_eq_true rfl)
  rw [lg_entry_eq]
  generalize (lg_sl ([.ref (g 9), .int (x), .int (y), .int (x2), .int (y2)]) ++ List.replicate (9 - (lg_sl ([.ref (g 9), .int (x), .int (y), .int (x2), .int (y2)])).length) Slot.unset).toArray = ls at hl ⊢
  have hl : lv_has ls 9 [(0, .ref (g 9)), (1, .int (x)), (2, .int (y)), (3, .int (x2)), (4, .int (y2))] := hl
  refine lv_iload_n hx hb d_Tree_move_0 rfl (lv_at hl 1 rfl) ?_
  exact gz_thSv (As := [.int (x)]) (rest := []) ⟨hx, hb, hml, hown, hTB⟩ (c_Tree_checkInode_x l htr x hbad) (cwS 1 hTB (gd_S k_327 k_328 k_51 k_329) rfl rfl rfl (by decide +kernel) ⟨Nat.le_of_ble_eq_true rfl, Nat.le_of_ble_eq_true rfl⟩) hX hS ht hlocks rfl hl.1 rfl (Nat.le_of_ble_eq_true rfl) d_Tree_move_1 ⟨Nat.le_of_ble_eq_true rfl, Nat.le_of_ble_eq_true rfl⟩ (Nat.le_refl _) (Nat.le_refl _)
set_option maxHeartbeats 4000000 in
set_option maxRecDepth 100000 in
theorem c_Tree_move_y (l : Launch) (htr : l.stackTraces = false) (D : va_G) (g : Nat → Nat) (k : Nat → ClassId) (L : Nat) (hL0 : 96 ≤ L) (hL : L ≤ 768) (u : DSt) (f0 : Nat → Int32) (tl : Nat) (tp : Nat → Int32) (d : Nat) (y x2 y2 : Int32) (hd0 : d < 64) (hbad : y < nI 1 ∨ nI 65535 < y) : ThI l y_Tree_move w_Tree_move ({ frames := 8, cells := 1, slots := 6, locals := 204 }) [.ref (g 9), .int (nI d), .int (y), .int (x2), .int (y2)] (ThP D cl5 (tyC k) (wT g k L u f0 tl tp)) IAE := by
  refine vx_ofW (cc := b_Tree_move) (maxL := 9) (ret := (some .int)) (by decide) rfl ?_
  intro p9 e9 s m args9 below9 meth9 c9 s₁ B hml ht hv
  obtain ⟨rfl, ⟨hP, hK⟩, hX⟩ := hv
  have hx := B.exec
  have hb := B.bytes
  have hr := B.returns
  have hts := atoms_spec (ws := w_Tree_move) B.pre
  have hTB : ∀ w ∈ lw_tb, w.before _ s = true := fun w h => hts w (List.mem_cons_of_mem _ h)
  have hown : s.vm.findClass R_Tree = some m.cls := findClass_of_methodNamed B.named
  have hlocks := B.notSynchronized
  have hS : va_S (fun _ => False) s.heap s.heap [] := va_S.rf
  have hl := lv_entry ([.ref (g 9), .int (nI d), .int (y), .int (x2), .int (y2)]) (n := 9) (Nat.le_of_ble_eq_true rfl)
  rw [lg_entry_eq]
  generalize (lg_sl ([.ref (g 9), .int (nI d), .int (y), .int (x2), .int (y2)]) ++ List.replicate (9 - (lg_sl ([.ref (g 9), .int (nI d), .int (y), .int (x2), .int (y2)])).length) Slot.unset).toArray = ls at hl ⊢
  have hl : lv_has ls 9 [(0, .ref (g 9)), (1, .int (nI d)), (2, .int (y)), (3, .int (x2)), (4, .int (y2))] := hl
  refine lv_iload_n hx hb d_Tree_move_0 rfl (lv_at hl 1 rfl) ?_
  refine gz_roSv (As := [.int (nI d)]) (rest := []) ⟨hx, hb, hml, hown, hTB⟩ (c_Tree_checkInode l d (by omega)) (cwS 1 hTB (gd_S k_327 k_328 k_51 k_329) rfl rfl rfl (by decide +kernel) ⟨Nat.le_of_ble_eq_true rfl, Nat.le_of_ble_eq_true rfl⟩) hP rfl hl.1 rfl (Nat.le_of_ble_eq_true rfl) d_Tree_move_1 ⟨Nat.zero_le _, Nat.zero_le _⟩ hS (fun H locs hP hS => ?_)
  refine lv_iload_n hx hb d_Tree_move_4 rfl (lv_at hl 2 rfl) ?_
  exact gz_thSv (As := [.int (y)]) (rest := []) ⟨hx, hb, hml, hown, hTB⟩ (c_Tree_checkName_x l htr y hbad) (cwS 1 hTB (gd_S k_331 k_332 k_51 k_333) rfl rfl rfl (by decide +kernel) ⟨Nat.le_of_ble_eq_true rfl, Nat.le_of_ble_eq_true rfl⟩) hX hS ht hlocks rfl hl.1 rfl (Nat.le_of_ble_eq_true rfl) d_Tree_move_5 ⟨Nat.le_of_ble_eq_true rfl, Nat.le_of_ble_eq_true rfl⟩ (Nat.le_refl _) (Nat.le_refl _)
set_option maxHeartbeats 4000000 in
set_option maxRecDepth 100000 in
theorem c_Tree_move_z (l : Launch) (htr : l.stackTraces = false) (D : va_G) (g : Nat → Nat) (k : Nat → ClassId) (L : Nat) (hL0 : 96 ≤ L) (hL : L ≤ 768) (u : DSt) (f0 : Nat → Int32) (tl : Nat) (tp : Nat → Int32) (d w : Nat) (x2 y2 : Int32) (hd0 : d < 64) (hw1 : 1 ≤ w) (hw2 : w ≤ 65535) (hbad : x2 < 0 ∨ nI 64 ≤ x2) : ThI l y_Tree_move w_Tree_move ({ frames := 8, cells := 1, slots := 6, locals := 204 }) [.ref (g 9), .int (nI d), .int (nI w), .int (x2), .int (y2)] (ThP D cl5 (tyC k) (wT g k L u f0 tl tp)) IAE := by
  refine vx_ofW (cc := b_Tree_move) (maxL := 9) (ret := (some .int)) (by decide) rfl ?_
  intro p9 e9 s m args9 below9 meth9 c9 s₁ B hml ht hv
  obtain ⟨rfl, ⟨hP, hK⟩, hX⟩ := hv
  have hx := B.exec
  have hb := B.bytes
  have hr := B.returns
  have hts := atoms_spec (ws := w_Tree_move) B.pre
  have hTB : ∀ w ∈ lw_tb, w.before _ s = true := fun w h => hts w (List.mem_cons_of_mem _ h)
  have hown : s.vm.findClass R_Tree = some m.cls := findClass_of_methodNamed B.named
  have hlocks := B.notSynchronized
  have hS : va_S (fun _ => False) s.heap s.heap [] := va_S.rf
  have hl := lv_entry ([.ref (g 9), .int (nI d), .int (nI w), .int (x2), .int (y2)]) (n := 9) (Nat.le_of_ble_eq_true rfl)
  rw [lg_entry_eq]
  generalize (lg_sl ([.ref (g 9), .int (nI d), .int (nI w), .int (x2), .int (y2)]) ++ List.replicate (9 - (lg_sl ([.ref (g 9), .int (nI d), .int (nI w), .int (x2), .int (y2)])).length) Slot.unset).toArray = ls at hl ⊢
  have hl : lv_has ls 9 [(0, .ref (g 9)), (1, .int (nI d)), (2, .int (nI w)), (3, .int (x2)), (4, .int (y2))] := hl
  refine lv_iload_n hx hb d_Tree_move_0 rfl (lv_at hl 1 rfl) ?_
  refine gz_roSv (As := [.int (nI d)]) (rest := []) ⟨hx, hb, hml, hown, hTB⟩ (c_Tree_checkInode l d (by omega)) (cwS 1 hTB (gd_S k_327 k_328 k_51 k_329) rfl rfl rfl (by decide +kernel) ⟨Nat.le_of_ble_eq_true rfl, Nat.le_of_ble_eq_true rfl⟩) hP rfl hl.1 rfl (Nat.le_of_ble_eq_true rfl) d_Tree_move_1 ⟨Nat.zero_le _, Nat.zero_le _⟩ hS (fun H locs hP hS => ?_)
  refine lv_iload_n hx hb d_Tree_move_4 rfl (lv_at hl 2 rfl) ?_
  refine gz_roSv (As := [.int (nI w)]) (rest := []) ⟨hx, hb, hml, hown, hTB⟩ (c_Tree_checkName l w (by omega) (by omega)) (cwS 1 hTB (gd_S k_331 k_332 k_51 k_333) rfl rfl rfl (by decide +kernel) ⟨Nat.le_of_ble_eq_true rfl, Nat.le_of_ble_eq_true rfl⟩) hP rfl hl.1 rfl (Nat.le_of_ble_eq_true rfl) d_Tree_move_5 ⟨Nat.zero_le _, Nat.zero_le _⟩ hS (fun H locs hP hS => ?_)
  refine lv_iload_n hx hb d_Tree_move_8 rfl (lv_at hl 3 rfl) ?_
  exact gz_thSv (As := [.int (x2)]) (rest := []) ⟨hx, hb, hml, hown, hTB⟩ (c_Tree_checkInode_x l htr x2 hbad) (cwS 1 hTB (gd_S k_327 k_328 k_51 k_329) rfl rfl rfl (by decide +kernel) ⟨Nat.le_of_ble_eq_true rfl, Nat.le_of_ble_eq_true rfl⟩) hX hS ht hlocks rfl hl.1 rfl (Nat.le_of_ble_eq_true rfl) d_Tree_move_9 ⟨Nat.le_of_ble_eq_true rfl, Nat.le_of_ble_eq_true rfl⟩ (Nat.le_refl _) (Nat.le_refl _)
set_option maxHeartbeats 4000000 in
set_option maxRecDepth 100000 in
theorem c_Tree_move_w (l : Launch) (htr : l.stackTraces = false) (D : va_G) (g : Nat → Nat) (k : Nat → ClassId) (L : Nat) (hL0 : 96 ≤ L) (hL : L ≤ 768) (u : DSt) (f0 : Nat → Int32) (tl : Nat) (tp : Nat → Int32) (d w d2 : Nat) (y2 : Int32) (hd0 : d < 64) (hw1 : 1 ≤ w) (hw2 : w ≤ 65535) (hd1 : d2 < 64) (hbad : y2 < nI 1 ∨ nI 65535 < y2) : ThI l y_Tree_move w_Tree_move ({ frames := 8, cells := 1, slots := 6, locals := 204 }) [.ref (g 9), .int (nI d), .int (nI w), .int (nI d2), .int (y2)] (ThP D cl5 (tyC k) (wT g k L u f0 tl tp)) IAE := by
  refine vx_ofW (cc := b_Tree_move) (maxL := 9) (ret := (some .int)) (by decide) rfl ?_
  intro p9 e9 s m args9 below9 meth9 c9 s₁ B hml ht hv
  obtain ⟨rfl, ⟨hP, hK⟩, hX⟩ := hv
  have hx := B.exec
  have hb := B.bytes
  have hr := B.returns
  have hts := atoms_spec (ws := w_Tree_move) B.pre
  have hTB : ∀ w ∈ lw_tb, w.before _ s = true := fun w h => hts w (List.mem_cons_of_mem _ h)
  have hown : s.vm.findClass R_Tree = some m.cls := findClass_of_methodNamed B.named
  have hlocks := B.notSynchronized
  have hS : va_S (fun _ => False) s.heap s.heap [] := va_S.rf
  have hl := lv_entry ([.ref (g 9), .int (nI d), .int (nI w), .int (nI d2), .int (y2)]) (n := 9) (Nat.le_of_ble_eq_true rfl)
  rw [lg_entry_eq]
  generalize (lg_sl ([.ref (g 9), .int (nI d), .int (nI w), .int (nI d2), .int (y2)]) ++ List.replicate (9 - (lg_sl ([.ref (g 9), .int (nI d), .int (nI w), .int (nI d2), .int (y2)])).length) Slot.unset).toArray = ls at hl ⊢
  have hl : lv_has ls 9 [(0, .ref (g 9)), (1, .int (nI d)), (2, .int (nI w)), (3, .int (nI d2)), (4, .int (y2))] := hl
  refine lv_iload_n hx hb d_Tree_move_0 rfl (lv_at hl 1 rfl) ?_
  refine gz_roSv (As := [.int (nI d)]) (rest := []) ⟨hx, hb, hml, hown, hTB⟩ (c_Tree_checkInode l d (by omega)) (cwS 1 hTB (gd_S k_327 k_328 k_51 k_329) rfl rfl rfl (by decide +kernel) ⟨Nat.le_of_ble_eq_true rfl, Nat.le_of_ble_eq_true rfl⟩) hP rfl hl.1 rfl (Nat.le_of_ble_eq_true rfl) d_Tree_move_1 ⟨Nat.zero_le _, Nat.zero_le _⟩ hS (fun H locs hP hS => ?_)
  refine lv_iload_n hx hb d_Tree_move_4 rfl (lv_at hl 2 rfl) ?_
  refine gz_roSv (As := [.int (nI w)]) (rest := []) ⟨hx, hb, hml, hown, hTB⟩ (c_Tree_checkName l w (by omega) (by omega)) (cwS 1 hTB (gd_S k_331 k_332 k_51 k_333) rfl rfl rfl (by decide +kernel) ⟨Nat.le_of_ble_eq_true rfl, Nat.le_of_ble_eq_true rfl⟩) hP rfl hl.1 rfl (Nat.le_of_ble_eq_true rfl) d_Tree_move_5 ⟨Nat.zero_le _, Nat.zero_le _⟩ hS (fun H locs hP hS => ?_)
  refine lv_iload_n hx hb d_Tree_move_8 rfl (lv_at hl 3 rfl) ?_
  refine gz_roSv (As := [.int (nI d2)]) (rest := []) ⟨hx, hb, hml, hown, hTB⟩ (c_Tree_checkInode l d2 (by omega)) (cwS 1 hTB (gd_S k_327 k_328 k_51 k_329) rfl rfl rfl (by decide +kernel) ⟨Nat.le_of_ble_eq_true rfl, Nat.le_of_ble_eq_true rfl⟩) hP rfl hl.1 rfl (Nat.le_of_ble_eq_true rfl) d_Tree_move_9 ⟨Nat.zero_le _, Nat.zero_le _⟩ hS (fun H locs hP hS => ?_)
  refine lv_iload hx hb d_Tree_move_12 (lv_at hl 4 rfl) ?_
  exact gz_thSv (As := [.int (y2)]) (rest := []) ⟨hx, hb, hml, hown, hTB⟩ (c_Tree_checkName_x l htr y2 hbad) (cwS 1 hTB (gd_S k_331 k_332 k_51 k_333) rfl rfl rfl (by decide +kernel) ⟨Nat.le_of_ble_eq_true rfl, Nat.le_of_ble_eq_true rfl⟩) hX hS ht hlocks rfl hl.1 rfl (Nat.le_of_ble_eq_true rfl) d_Tree_move_14 ⟨Nat.le_of_ble_eq_true rfl, Nat.le_of_ble_eq_true rfl⟩ (Nat.le_refl _) (Nat.le_refl _)
set_option maxHeartbeats 4000000 in
set_option maxRecDepth 100000 in
theorem c_Tree_node_x (l : Launch) (htr : l.stackTraces = false) (D : va_G) (g : Nat → Nat) (k : Nat → ClassId) (L : Nat) (hL0 : 96 ≤ L) (hL : L ≤ 768) (u : DSt) (f0 : Nat → Int32) (tl : Nat) (tp : Nat → Int32) (x y : Int32) (hbad : x < 0 ∨ nI 64 ≤ x) : ThI l y_Tree_node w_Tree_node ({ frames := 8, cells := 1, slots := 6, locals := 130 }) [.ref (g 9), .int (x), .int (y)] (ThP D cl5 (tyC k) (wT g k L u f0 tl tp)) IAE := by
  refine vx_ofW (cc := b_Tree_node) (maxL := 4) (ret := (some .int)) (by decide) rfl ?_
  intro p9 e9 s m args9 below9 meth9 c9 s₁ B hml ht hv
  obtain ⟨rfl, ⟨hP, hK⟩, hX⟩ := hv
  have hx := B.exec
  have hb := B.bytes
  have hr := B.returns
  have hts := atoms_spec (ws := w_Tree_node) B.pre
  have hTB : ∀ w ∈ lw_tb, w.before _ s = true := fun w h => hts w (List.mem_cons_of_mem _ h)
  have hown : s.vm.findClass R_Tree = some m.cls := findClass_of_methodNamed B.named
  have hlocks := B.notSynchronized
  have hS : va_S (fun _ => False) s.heap s.heap [] := va_S.rf
  have hl := lv_entry ([.ref (g 9), .int (x), .int (y)]) (n := 4) (Nat.le_of_ble_eq_true rfl)
  rw [lg_entry_eq]
  generalize (lg_sl ([.ref (g 9), .int (x), .int (y)]) ++ List.replicate (4 - (lg_sl ([.ref (g 9), .int (x), .int (y)])).length) Slot.unset).toArray = ls at hl ⊢
  have hl : lv_has ls 4 [(0, .ref (g 9)), (1, .int (x)), (2, .int (y))] := hl
  refine lv_iload_n hx hb d_Tree_node_0 rfl (lv_at hl 1 rfl) ?_
  exact gz_thSv (As := [.int (x)]) (rest := []) ⟨hx, hb, hml, hown, hTB⟩ (c_Tree_checkInode_x l htr x hbad) (cwS 1 hTB (gd_S k_327 k_328 k_51 k_329) rfl rfl rfl (by decide +kernel) ⟨Nat.le_of_ble_eq_true rfl, Nat.le_of_ble_eq_true rfl⟩) hX hS ht hlocks rfl hl.1 rfl (Nat.le_of_ble_eq_true rfl) d_Tree_node_1 ⟨Nat.le_of_ble_eq_true rfl, Nat.le_of_ble_eq_true rfl⟩ (Nat.le_refl _) (Nat.le_refl _)
set_option maxHeartbeats 4000000 in
set_option maxRecDepth 100000 in
theorem c_Tree_node_y (l : Launch) (htr : l.stackTraces = false) (D : va_G) (g : Nat → Nat) (k : Nat → ClassId) (L : Nat) (hL0 : 96 ≤ L) (hL : L ≤ 768) (u : DSt) (f0 : Nat → Int32) (tl : Nat) (tp : Nat → Int32) (i : Nat) (y : Int32) (hi0 : i < 64) (hbad : y < 0 ∨ nI (3 + 2 * iX L (dNow u) i) ≤ y) : ThI l y_Tree_node w_Tree_node ({ frames := 8, cells := 1, slots := 6, locals := 130 }) [.ref (g 9), .int (nI i), .int (y)] (ThP D cl5 (tyC k) (wT g k L u f0 tl tp)) NSE := by
  refine vx_ofW (cc := b_Tree_node) (maxL := 4) (ret := (some .int)) (by decide) rfl ?_
  intro p9 e9 s m args9 below9 meth9 c9 s₁ B hml ht hv
  obtain ⟨rfl, ⟨hP, hK⟩, hX⟩ := hv
  have hx := B.exec
  have hb := B.bytes
  have hr := B.returns
  have hts := atoms_spec (ws := w_Tree_node) B.pre
  have hTB : ∀ w ∈ lw_tb, w.before _ s = true := fun w h => hts w (List.mem_cons_of_mem _ h)
  have hown : s.vm.findClass R_Tree = some m.cls := findClass_of_methodNamed B.named
  have hlocks := B.notSynchronized
  have hS : va_S (fun _ => False) s.heap s.heap [] := va_S.rf
  have hl := lv_entry ([.ref (g 9), .int (nI i), .int (y)]) (n := 4) (Nat.le_of_ble_eq_true rfl)
  rw [lg_entry_eq]
  generalize (lg_sl ([.ref (g 9), .int (nI i), .int (y)]) ++ List.replicate (4 - (lg_sl ([.ref (g 9), .int (nI i), .int (y)])).length) Slot.unset).toArray = ls at hl ⊢
  have hl : lv_has ls 4 [(0, .ref (g 9)), (1, .int (nI i)), (2, .int (y))] := hl
  refine lv_iload_n hx hb d_Tree_node_0 rfl (lv_at hl 1 rfl) ?_
  refine gz_roSv (As := [.int (nI i)]) (rest := []) ⟨hx, hb, hml, hown, hTB⟩ (c_Tree_checkInode l i (by omega)) (cwS 1 hTB (gd_S k_327 k_328 k_51 k_329) rfl rfl rfl (by decide +kernel) ⟨Nat.le_of_ble_eq_true rfl, Nat.le_of_ble_eq_true rfl⟩) hP rfl hl.1 rfl (Nat.le_of_ble_eq_true rfl) d_Tree_node_1 ⟨Nat.zero_le _, Nat.zero_le _⟩ hS (fun H locs hP hS => ?_)
  refine lv_iload_n hx hb d_Tree_node_4 rfl (lv_at hl 2 rfl) ?_
  refine lv_if_lt (tgt := 24) hx hb d_Tree_node_5 (by decide) (fun h5 => ?_) (fun h5 => ?_)
  · exact gz_throwN hx hb htr hown hX hTB (show (150, "there is no such extent or what") ∈ xst by decide +kernel) ht hlocks (hl.1.trans hml.symm) hS (Nat.le_of_ble_eq_true rfl) d_Tree_node_24 d_Tree_node_27 d_Tree_node_28 d_Tree_node_30 d_Tree_node_33 (Nat.le_of_ble_eq_true rfl) (Nat.le_of_ble_eq_true rfl) (Nat.le_of_ble_eq_true rfl) (Nat.le_of_ble_eq_true rfl) (Nat.le_refl _) (Nat.le_refl _)
  · refine lv_iload_n hx hb d_Tree_node_8 rfl (lv_at hl 2 rfl) ?_
    refine lv_iconst (v := nI 3) hx hb d_Tree_node_9 (by decide +kernel) ?_
    refine lv_iconst (v := nI 2) hx hb d_Tree_node_10 (by decide +kernel) ?_
    refine lv_aload_n hx hb d_Tree_node_11 rfl (lv_at hl 0 rfl) ?_
    refine va_get (D := D) (ci := 3) (v := .ref (g 6)) (C := R_Tree) (T := T_Tree) (N := 5) hx hb hTB in_Tree hown hK hP 0 rfl rfl 1 (by decide) (hTB _ k_196) (fun _ h9 => h9) rfl d_Tree_node_12 ?_
    refine lv_iload_n hx hb d_Tree_node_15 rfl (lv_at hl 1 rfl) ?_
    refine gz_roV (As := [.int (nI i)]) (rest := [.int (nI 2), .int (nI 3), .int (y)]) (wc := (wI g k L u)) ⟨hx, hb, hml, hown, hTB⟩ (c_Inodes_extents l D g k L hL0 hL u i) (cwV 1 hTB (gd_V k_554 k_366 k_367 k_54 k_368) rfl rfl rfl (by decide +kernel) ⟨Nat.le_of_ble_eq_true rfl, Nat.le_of_ble_eq_true rfl⟩) hK hP [4, 5, 6, 7, 8, 9, 10] rfl 4 rfl rfl rfl hl.1 rfl (Nat.le_of_ble_eq_true rfl) d_Tree_node_16 ⟨Nat.zero_le _, Nat.zero_le _⟩ hS (fun H locs hP hS => ?_)
    have := iX_lt L (dNow u) i
    refine gz_imul hx hb d_Tree_node_19 ?_
    refine gz_iadd hx hb d_Tree_node_20 ?_
    refine lv_icmp_lt (tgt := 34) hx hb d_Tree_node_21 (by decide) (fun h21 => ?_) (fun h21 => ?_)
    · exact absurd hbad (fun z => z.elim h5 (fun q => absurd h21 (Int32.not_lt.mpr q)))
    · exact gz_throwN hx hb htr hown hX hTB (show (150, "there is no such extent or what") ∈ xst by decide +kernel) ht hlocks (hl.1.trans hml.symm) hS (Nat.le_of_ble_eq_true rfl) d_Tree_node_24 d_Tree_node_27 d_Tree_node_28 d_Tree_node_30 d_Tree_node_33 (Nat.le_of_ble_eq_true rfl) (Nat.le_of_ble_eq_true rfl) (Nat.le_of_ble_eq_true rfl) (Nat.le_of_ble_eq_true rfl) (Nat.le_refl _) (Nat.le_refl _)
set_option maxHeartbeats 4000000 in
set_option maxRecDepth 100000 in
theorem c_Tree_at_x (l : Launch) (htr : l.stackTraces = false) (D : va_G) (g : Nat → Nat) (k : Nat → ClassId) (L : Nat) (hL0 : 96 ≤ L) (hL : L ≤ 768) (u : DSt) (f0 : Nat → Int32) (tl : Nat) (tp : Nat → Int32) (x y : Int32) (cm : Bool) (hbad : (hsB L x && !decide (y < 0 ∨ nI 64 ≤ y)) = false) : ThI l y_Tree_at w_Tree_at ({ frames := 7, cells := 1, slots := 6, locals := 110 }) [.ref (g 9), .int (x), .int (y), .int (zI (cm))] (ThP D cl5 (tyC k) (wT g k L u f0 tl tp)) IAE := by
  refine vx_ofW (cc := b_Tree_at) (maxL := 5) (ret := (some .int)) (by decide) rfl ?_
  intro p9 e9 s m args9 below9 meth9 c9 s₁ B hml ht hv
  obtain ⟨rfl, ⟨hP, hK⟩, hX⟩ := hv
  have hx := B.exec
  have hb := B.bytes
  have hr := B.returns
  have hts := atoms_spec (ws := w_Tree_at) B.pre
  have hTB : ∀ w ∈ lw_tb, w.before _ s = true := fun w h => hts w (List.mem_cons_of_mem _ h)
  have hown : s.vm.findClass R_Tree = some m.cls := findClass_of_methodNamed B.named
  have hlocks := B.notSynchronized
  have hS : va_S (fun _ => False) s.heap s.heap [] := va_S.rf
  have hl := lv_entry ([.ref (g 9), .int (x), .int (y), .int (zI (cm))]) (n := 5) (Nat.le_of_ble_eq_true rfl)
  rw [lg_entry_eq]
  generalize (lg_sl ([.ref (g 9), .int (x), .int (y), .int (zI (cm))]) ++ List.replicate (5 - (lg_sl ([.ref (g 9), .int (x), .int (y), .int (zI (cm))])).length) Slot.unset).toArray = ls at hl ⊢
  have hl : lv_has ls 5 [(0, .ref (g 9)), (1, .int (x)), (2, .int (y)), (3, .int (zI (cm)))] := hl
  refine lv_aload_n hx hb d_Tree_at_0 rfl (lv_at hl 0 rfl) ?_
  refine va_get (D := D) (ci := 3) (v := .ref (g 0)) (C := R_Tree) (T := T_Tree) (N := 5) hx hb hTB in_Tree hown hK hP 0 rfl rfl 0 (by decide) (hTB _ k_195) (fun _ h9 => h9) rfl d_Tree_at_1 ?_
  refine lv_iload_n hx hb d_Tree_at_4 rfl (lv_at hl 1 rfl) ?_
  refine lv_iload_n hx hb d_Tree_at_5 rfl (lv_at hl 2 rfl) ?_
  refine gz_roV (As := [.int (x), .int (y)]) (rest := []) (wc := (wD g k L u)) ⟨hx, hb, hml, hown, hTB⟩ (c_Disk_hasByte l D g k L hL0 hL u x y) (cwV 2 hTB (gd_V k_565 k_566 k_567 k_52 k_568) rfl rfl rfl (by decide +kernel) ⟨Nat.le_of_ble_eq_true rfl, Nat.le_of_ble_eq_true rfl⟩) hK hP [5, 6, 7, 8, 9, 10] rfl 5 rfl rfl rfl hl.1 rfl (Nat.le_of_ble_eq_true rfl) d_Tree_at_6 ⟨Nat.zero_le _, Nat.zero_le _⟩ hS (fun H locs hP hS => ?_)
  refine gz_ifz_ne (tgt := 22) hx hb d_Tree_at_9 (by decide) (fun h9 => ?_) (fun h9 => ?_)
  · exact absurd (h9.symm.trans hbad) (by decide)
  · exact gz_throw hx hb htr hown hX hTB (by decide +kernel) xg1 xb1 xo1 xl1 (show (164, "there is no such block or byte") ∈ xst by decide +kernel) ht hlocks (hl.1.trans hml.symm) hS (Nat.le_of_ble_eq_true rfl) d_Tree_at_12 d_Tree_at_15 d_Tree_at_16 d_Tree_at_18 d_Tree_at_21 (Nat.le_of_ble_eq_true rfl) (Nat.le_of_ble_eq_true rfl) (Nat.le_of_ble_eq_true rfl) (Nat.le_of_ble_eq_true rfl) (Nat.le_refl _) (Nat.le_refl _)
set_option maxHeartbeats 4000000 in
set_option maxRecDepth 100000 in
theorem c_Tree_changed_x (l : Launch) (htr : l.stackTraces = false) (D : va_G) (g : Nat → Nat) (k : Nat → ClassId) (L : Nat) (hL0 : 96 ≤ L) (hL : L ≤ 768) (u : DSt) (f0 : Nat → Int32) (tl : Nat) (tp : Nat → Int32) (x : Int32) (hbad : dbk L (dDif u) x = -1) : ThI l y_Tree_changed w_Tree_changed ({ frames := 7, cells := 1, slots := 6, locals := 110 }) [.ref (g 9), .int (x)] (ThP D cl5 (tyC k) (wT g k L u f0 tl tp)) NSE := by
  refine vx_ofW (cc := b_Tree_changed) (maxL := 3) (ret := (some .int)) (by decide) rfl ?_
  intro p9 e9 s m args9 below9 meth9 c9 s₁ B hml ht hv
  obtain ⟨rfl, ⟨hP, hK⟩, hX⟩ := hv
  have hx := B.exec
  have hb := B.bytes
  have hr := B.returns
  have hts := atoms_spec (ws := w_Tree_changed) B.pre
  have hTB : ∀ w ∈ lw_tb, w.before _ s = true := fun w h => hts w (List.mem_cons_of_mem _ h)
  have hown : s.vm.findClass R_Tree = some m.cls := findClass_of_methodNamed B.named
  have hlocks := B.notSynchronized
  have hS : va_S (fun _ => False) s.heap s.heap [] := va_S.rf
  have hl := lv_entry ([.ref (g 9), .int (x)]) (n := 3) (Nat.le_of_ble_eq_true rfl)
  rw [lg_entry_eq]
  generalize (lg_sl ([.ref (g 9), .int (x)]) ++ List.replicate (3 - (lg_sl ([.ref (g 9), .int (x)])).length) Slot.unset).toArray = ls at hl ⊢
  have hl : lv_has ls 3 [(0, .ref (g 9)), (1, .int (x))] := hl
  refine lv_aload_n hx hb d_Tree_changed_0 rfl (lv_at hl 0 rfl) ?_
  refine va_get (D := D) (ci := 3) (v := .ref (g 0)) (C := R_Tree) (T := T_Tree) (N := 5) hx hb hTB in_Tree hown hK hP 0 rfl rfl 0 (by decide) (hTB _ k_195) (fun _ h9 => h9) rfl d_Tree_changed_1 ?_
  refine lv_iload_n hx hb d_Tree_changed_4 rfl (lv_at hl 1 rfl) ?_
  refine gz_roV (As := [.int (x)]) (rest := []) (wc := (wD g k L u)) ⟨hx, hb, hml, hown, hTB⟩ (c_Disk_differingBlock l D g k L hL0 hL u x) (cwV 1 hTB (gd_V k_581 k_582 k_583 k_52 k_584) rfl rfl rfl (by decide +kernel) ⟨Nat.le_of_ble_eq_true rfl, Nat.le_of_ble_eq_true rfl⟩) hK hP [5, 6, 7, 8, 9, 10] rfl 5 rfl rfl rfl hl.1 rfl (Nat.le_of_ble_eq_true rfl) d_Tree_changed_5 ⟨Nat.zero_le _, Nat.zero_le _⟩ hS (fun H locs hP hS => ?_)
  refine lv_istore_n (lv' := [(2, .int (dbk L (dDif u) x)), (0, .ref (g 9)), (1, .int (x))]) hx hb d_Tree_changed_8 rfl hl (by decide) rfl (fun ls hl => ?_)
  refine lv_iload_n hx hb d_Tree_changed_9 rfl (lv_at hl 0 rfl) ?_
  refine lv_iconst (v := (-1)) hx hb d_Tree_changed_10 (by decide +kernel) ?_
  refine lv_icmp_ne (tgt := 24) hx hb d_Tree_changed_11 (by decide) (fun h11 => ?_) (fun h11 => ?_)
  · exact absurd hbad h11
  · exact gz_throwN hx hb htr hown hX hTB (show (172, "there is no such changed block") ∈ xst by decide +kernel) ht hlocks (hl.1.trans hml.symm) hS (Nat.le_of_ble_eq_true rfl) d_Tree_changed_14 d_Tree_changed_17 d_Tree_changed_18 d_Tree_changed_20 d_Tree_changed_23 (Nat.le_of_ble_eq_true rfl) (Nat.le_of_ble_eq_true rfl) (Nat.le_of_ble_eq_true rfl) (Nat.le_of_ble_eq_true rfl) (Nat.le_refl _) (Nat.le_refl _)
set_option maxHeartbeats 4000000 in
set_option maxRecDepth 100000 in
theorem c_Tree_look_x (l : Launch) (htr : l.stackTraces = false) (D : va_G) (g : Nat → Nat) (k : Nat → ClassId) (L : Nat) (hL0 : 96 ≤ L) (hL : L ≤ 768) (u : DSt) (f0 : Nat → Int32) (tl : Nat) (tp : Nat → Int32) (x : Int32) (hbad : x < 0 ∨ nI 6 < x) : ThI l y_Tree_look w_Tree_look ({ frames := 7, cells := 1, slots := 6, locals := 110 }) [.ref (g 9), .int (x)] (ThP D cl5 (tyC k) (wT g k L u f0 tl tp)) NSE := by
  refine vx_ofW (cc := b_Tree_look) (maxL := 2) (ret := (some .int)) (by decide) rfl ?_
  intro p9 e9 s m args9 below9 meth9 c9 s₁ B hml ht hv
  obtain ⟨rfl, ⟨hP, hK⟩, hX⟩ := hv
  have hx := B.exec
  have hb := B.bytes
  have hr := B.returns
  have hts := atoms_spec (ws := w_Tree_look) B.pre
  have hTB : ∀ w ∈ lw_tb, w.before _ s = true := fun w h => hts w (List.mem_cons_of_mem _ h)
  have hown : s.vm.findClass R_Tree = some m.cls := findClass_of_methodNamed B.named
  have hlocks := B.notSynchronized
  have hS : va_S (fun _ => False) s.heap s.heap [] := va_S.rf
  have hl := lv_entry ([.ref (g 9), .int (x)]) (n := 2) (Nat.le_of_ble_eq_true rfl)
  rw [lg_entry_eq]
  generalize (lg_sl ([.ref (g 9), .int (x)]) ++ List.replicate (2 - (lg_sl ([.ref (g 9), .int (x)])).length) Slot.unset).toArray = ls at hl ⊢
  have hl : lv_has ls 2 [(0, .ref (g 9)), (1, .int (x))] := hl
  refine lv_iload_n hx hb d_Tree_look_0 rfl (lv_at hl 1 rfl) ?_
  refine lv_tableOut (tgt := 99) hx hb d_Tree_look_1 (hbad.imp (fun z => Int32.lt_iff_toInt_lt.mp z) (fun z => by have := Int32.lt_iff_toInt_lt.mp z; rwa [nI_toInt (by decide)] at this)) (by decide) ?_
  exact gz_throwN hx hb htr hown hX hTB (show (186, "there is no such what") ∈ xst by decide +kernel) ht hlocks (hl.1.trans hml.symm) hS (Nat.le_of_ble_eq_true rfl) d_Tree_look_99 d_Tree_look_102 d_Tree_look_103 d_Tree_look_105 d_Tree_look_108 (Nat.le_of_ble_eq_true rfl) (Nat.le_of_ble_eq_true rfl) (Nat.le_of_ble_eq_true rfl) (Nat.le_of_ble_eq_true rfl) (Nat.le_refl _) (Nat.le_refl _)
