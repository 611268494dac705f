theorem d_Mod_sizes_0 : decode b_Mod_sizes 0 = .ok (.iload_n 2, 1) := by decide +kernel
theorem d_Mod_sizes_1 : decode b_Mod_sizes 1 = .ok (.bipush 63, 2) := by decide +kernel
theorem d_Mod_sizes_3 : decode b_Mod_sizes 3 = .ok (.iadd, 1) := by decide +kernel
theorem d_Mod_sizes_4 : decode b_Mod_sizes 4 = .ok (.bipush 64, 2) := by decide +kernel
theorem d_Mod_sizes_6 : decode b_Mod_sizes 6 = .ok (.idiv, 1) := by decide +kernel
theorem d_Mod_sizes_7 : decode b_Mod_sizes 7 = .ok (.istore_n 3, 1) := by decide +kernel
theorem d_Mod_sizes_8 : decode b_Mod_sizes 8 = .ok (.iconst 1, 1) := by decide +kernel
theorem d_Mod_sizes_9 : decode b_Mod_sizes 9 = .ok (.istore 4, 2) := by decide +kernel
theorem d_Mod_sizes_11 : decode b_Mod_sizes 11 = .ok (.iload 4, 2) := by decide +kernel
theorem d_Mod_sizes_13 : decode b_Mod_sizes 13 = .ok (.ifCond .eq 22, 3) := by decide +kernel
theorem d_Mod_sizes_16 : decode b_Mod_sizes 16 = .ok (.aload_n 0, 1) := by decide +kernel
theorem d_Mod_sizes_17 : decode b_Mod_sizes 17 = .ok (.iload_n 1, 1) := by decide +kernel
theorem d_Mod_sizes_18 : decode b_Mod_sizes 18 = .ok (.invokevirtual 74, 3) := by decide +kernel
theorem d_Mod_sizes_21 : decode b_Mod_sizes 21 = .ok (.iload_n 3, 1) := by decide +kernel
theorem d_Mod_sizes_22 : decode b_Mod_sizes 22 = .ok (.if_icmp .ge 13, 3) := by decide +kernel
theorem d_Mod_sizes_25 : decode b_Mod_sizes 25 = .ok (.aload_n 0, 1) := by decide +kernel
theorem d_Mod_sizes_26 : decode b_Mod_sizes 26 = .ok (.iload_n 1, 1) := by decide +kernel
theorem d_Mod_sizes_27 : decode b_Mod_sizes 27 = .ok (.invokevirtual 77, 3) := by decide +kernel
theorem d_Mod_sizes_30 : decode b_Mod_sizes 30 = .ok (.istore 4, 2) := by decide +kernel
theorem d_Mod_sizes_32 : decode b_Mod_sizes 32 = .ok (.goto (-21), 3) := by decide +kernel
theorem d_Mod_sizes_35 : decode b_Mod_sizes 35 = .ok (.aload_n 0, 1) := by decide +kernel
theorem d_Mod_sizes_36 : decode b_Mod_sizes 36 = .ok (.iload_n 1, 1) := by decide +kernel
theorem d_Mod_sizes_37 : decode b_Mod_sizes 37 = .ok (.invokevirtual 74, 3) := by decide +kernel
theorem d_Mod_sizes_40 : decode b_Mod_sizes 40 = .ok (.iload_n 3, 1) := by decide +kernel
theorem d_Mod_sizes_41 : decode b_Mod_sizes 41 = .ok (.if_icmp .le 11, 3) := by decide +kernel
theorem d_Mod_sizes_44 : decode b_Mod_sizes 44 = .ok (.aload_n 0, 1) := by decide +kernel
theorem d_Mod_sizes_45 : decode b_Mod_sizes 45 = .ok (.iload_n 1, 1) := by decide +kernel
theorem d_Mod_sizes_46 : decode b_Mod_sizes 46 = .ok (.invokevirtual 80, 3) := by decide +kernel
theorem d_Mod_sizes_49 : decode b_Mod_sizes 49 = .ok (.goto (-14), 3) := by decide +kernel
theorem d_Mod_sizes_52 : decode b_Mod_sizes 52 = .ok (.aload_n 0, 1) := by decide +kernel
theorem d_Mod_sizes_53 : decode b_Mod_sizes 53 = .ok (.getfield 13, 3) := by decide +kernel
theorem d_Mod_sizes_56 : decode b_Mod_sizes 56 = .ok (.bipush 20, 2) := by decide +kernel
theorem d_Mod_sizes_58 : decode b_Mod_sizes 58 = .ok (.iload_n 1, 1) := by decide +kernel
theorem d_Mod_sizes_59 : decode b_Mod_sizes 59 = .ok (.imul, 1) := by decide +kernel
theorem d_Mod_sizes_60 : decode b_Mod_sizes 60 = .ok (.iconst 1, 1) := by decide +kernel
theorem d_Mod_sizes_61 : decode b_Mod_sizes 61 = .ok (.iadd, 1) := by decide +kernel
theorem d_Mod_sizes_62 : decode b_Mod_sizes 62 = .ok (.iload_n 2, 1) := by decide +kernel
theorem d_Mod_sizes_63 : decode b_Mod_sizes 63 = .ok (.iastore, 1) := by decide +kernel
theorem d_Mod_sizes_64 : decode b_Mod_sizes 64 = .ok (.iload_n 2, 1) := by decide +kernel
theorem d_Mod_sizes_65 : decode b_Mod_sizes 65 = .ok (.istore 5, 2) := by decide +kernel
theorem d_Mod_sizes_67 : decode b_Mod_sizes 67 = .ok (.iload 5, 2) := by decide +kernel
theorem d_Mod_sizes_69 : decode b_Mod_sizes 69 = .ok (.bipush 64, 2) := by decide +kernel
theorem d_Mod_sizes_71 : decode b_Mod_sizes 71 = .ok (.iload_n 3, 1) := by decide +kernel
theorem d_Mod_sizes_72 : decode b_Mod_sizes 72 = .ok (.imul, 1) := by decide +kernel
theorem d_Mod_sizes_73 : decode b_Mod_sizes 73 = .ok (.if_icmp .ge 22, 3) := by decide +kernel
theorem d_Mod_sizes_76 : decode b_Mod_sizes 76 = .ok (.iload 4, 2) := by decide +kernel
theorem d_Mod_sizes_78 : decode b_Mod_sizes 78 = .ok (.ifCond .eq 17, 3) := by decide +kernel
theorem d_Mod_sizes_81 : decode b_Mod_sizes 81 = .ok (.aload_n 0, 1) := by decide +kernel
theorem d_Mod_sizes_82 : decode b_Mod_sizes 82 = .ok (.iload_n 1, 1) := by decide +kernel
theorem d_Mod_sizes_83 : decode b_Mod_sizes 83 = .ok (.iload 5, 2) := by decide +kernel
theorem d_Mod_sizes_85 : decode b_Mod_sizes 85 = .ok (.iconst 0, 1) := by decide +kernel
theorem d_Mod_sizes_86 : decode b_Mod_sizes 86 = .ok (.invokevirtual 84, 3) := by decide +kernel
theorem d_Mod_sizes_89 : decode b_Mod_sizes 89 = .ok (.iinc 5 1, 3) := by decide +kernel
theorem d_Mod_sizes_92 : decode b_Mod_sizes 92 = .ok (.goto (-25), 3) := by decide +kernel
theorem d_Mod_sizes_95 : decode b_Mod_sizes 95 = .ok (.iload 4, 2) := by decide +kernel
theorem d_Mod_sizes_97 : decode b_Mod_sizes 97 = .ok (.ireturn, 1) := by decide +kernel
set_option maxHeartbeats 4000000 in
set_option maxRecDepth 100000 in
theorem c_Mod_sizes (l : Launch) (D : va_G) (g : Nat → Nat) (k : Nat → ClassId) (L : Nat) (hL0 : 96 ≤ L) (hL : L ≤ 768) (r : RSt) (hrB : rB r) (i n : Nat) (hi0 : i < 64) (hn0 : n < 65536) (hwf : wfN (rNd r) L) : MuI l y_Mod_sizes w_Mod_sizes ({ frames := 2, cells := 0, slots := 0, locals := 48 }) [.ref (g 20), .int (nI i), .int (nI n)] D cl5 (tyC k) (wM g k L r) (wM g k L ((szR L r i n).2)) (zI (szR L r i n).1) := by
  intro sz
  refine Met.ofW (cc := b_Mod_sizes) (maxL := 6) (ret := (some .boolean)) (by decide) rfl ?_
  intro p9 e9 s m args9 below9 meth9 c9 s₁ B hml hv
  obtain ⟨rfl, hsz, hP, hK, hD0⟩ := hv
  have hx := B.exec
  have hb := B.bytes
  have hr := B.returns
  have hts := atoms_spec (ws := w_Mod_sizes) B.pre
  have hTB : ∀ w ∈ lw_tb, w.before _ s = true := fun w h => hts w (List.mem_cons_of_mem _ h)
  have hown : s.vm.findClass R_Mod = some m.cls := findClass_of_methodNamed B.named
  have hlocks := B.notSynchronized
  subst hsz
  have hD := hD0.self (sz := s.heap.size)
  generalize hAe : va_A (wM g k L r) s.heap.size = A at hD ⊢
  have hA : ∀ q : Nat, s.heap.size ≤ q → A q := fun q h => by rw [← hAe]; exact Or.inr h
  have hS : va_S A s.heap s.heap [] := va_S.rf
  have hl := lv_entry ([.ref (g 20), .int (nI i), .int (nI n)]) (n := 6) (Nat.le_of_ble_eq_true rfl)
  rw [lg_entry_eq]
  generalize (lg_sl ([.ref (g 20), .int (nI i), .int (nI n)]) ++ List.replicate (6 - (lg_sl ([.ref (g 20), .int (nI i), .int (nI n)])).length) Slot.unset).toArray = ls at hl ⊢
  have hl : lv_has ls 6 [(0, .ref (g 20)), (1, .int (nI i)), (2, .int (nI n))] := hl
  refine lv_iload_n hx hb d_Mod_sizes_0 rfl (lv_at hl 2 rfl) ?_
  refine lv_bipush (v := nI 63) hx hb d_Mod_sizes_1 (by decide +kernel) ?_
  refine gz_iadd hx hb d_Mod_sizes_3 ?_
  refine lv_bipush (v := nI 64) hx hb d_Mod_sizes_4 (by decide +kernel) ?_
  refine gz_idiv hx hb d_Mod_sizes_6 (by omega) (by decide) (by decide) ?_
  refine lv_istore_n (lv' := [(3, .int (nI ((n + 63) / 64))), (0, .ref (g 20)), (1, .int (nI i)), (2, .int (nI n))]) hx hb d_Mod_sizes_7 rfl hl (by decide) rfl (fun ls hl => ?_)
  refine lv_iconst (v := nI 1) hx hb d_Mod_sizes_8 (by decide +kernel) ?_
  refine lv_istore (lv' := [(4, .int (nI 1)), (3, .int (nI ((n + 63) / 64))), (0, .ref (g 20)), (1, .int (nI i)), (2, .int (nI n))]) hx hb d_Mod_sizes_9 hl (by decide) rfl (fun ls hl => ?_)
  refine gz_loop 11 (fun (zz : (Bool × RSt)) H locs ls => match zz with | (f, v) => va_P D cl5 (wM g k L v) H ∧ va_D A (wM g k L v) ∧ va_S A s.heap H locs ∧ lv_has ls 6 [(0, .ref (g 20)), (1, .int (nI i)), (2, .int (nI n)), (3, .int (nI (((n + 63) / 64)))), (4, .int (zI (f)))] ∧ ((if f = true then szT L i (((n + 63) / 64) - bsR (rNd v) i) v else (false, v)) = sz1 L r i n) ∧ (rB v) ∧ (wfN (rNd v) L)) (fun (zz : (Bool × RSt)) => match zz with | (f, v) => (if f = true then ((n + 63) / 64) - bsR (rNd v) i + 1 else 0)) (fun zz H locs ls hI ih11 => ?_) (true, r) ⟨hP, hD, hS, lv_sub hl [2, 3, 4, 1, 0] rfl, (if_pos rfl), hrB, hwf⟩
  obtain ⟨f, v⟩ := zz
  obtain ⟨hP, hD, hS, hl, hq, hrB, hwf⟩ := hI
  have hX := wf_X hwf
  refine lv_iload hx hb d_Mod_sizes_11 (lv_at hl 4 rfl) ?_
  refine gz_ifz_eq (tgt := 35) hx hb d_Mod_sizes_13 (by decide) (fun h13 => ?_) (fun h13 => ?_)
  · subst h13
    have hs1 : (false, v) = sz1 L r i n := hq
    have hs2 : v = (sz1 L r i n).2 := by rw [← hs1]
    have hs3 : (sz1 L r i n).1 = false := by rw [← hs1]
    refine gz_loop 35 (fun (zz : RSt) H locs ls => match zz with | x => va_P D cl5 (wM g k L x) H ∧ va_D A (wM g k L x) ∧ va_S A s.heap H locs ∧ lv_has ls 6 [(0, .ref (g 20)), (1, .int (nI i)), (2, .int (nI n)), (3, .int (nI (((n + 63) / 64)))), (4, .int (zI (false)))] ∧ (szG i (bsR (rNd x) i - ((n + 63) / 64)) x = sz2 L r i n) ∧ (rB x) ∧ (wfN (rNd x) L)) (fun (zz : RSt) => match zz with | x => bsR (rNd x) i) (fun zz H locs ls hI ih35 => ?_) (v) ⟨hP, hD, hS, lv_sub hl [0, 1, 2, 3, 4] rfl, (by rw [hs2]; rfl), hrB, hwf⟩
    obtain ⟨x, rfl⟩ : ∃ z, z = zz := ⟨_, rfl⟩
    obtain ⟨hP, hD, hS, hl, hg, hrB, hwf⟩ := hI
    have hX := wf_X hwf
    refine lv_aload_n hx hb d_Mod_sizes_35 rfl (lv_at hl 0 rfl) ?_
    refine lv_iload_n hx hb d_Mod_sizes_36 rfl (lv_at hl 1 rfl) ?_
    refine gz_roV (As := [.int (nI i)]) (rest := []) (wc := (wM g k L x)) ⟨hx, hb, hml, hown, hTB⟩ (c_Mod_blocksOf l D g k L hL0 hL x hrB i (by omega) hX) (cwV 1 hTB (gd_V k_766 k_768 k_35 k_56 k_769) rfl rfl rfl (by decide +kernel) ⟨Nat.le_of_ble_eq_true rfl, Nat.le_of_ble_eq_true rfl⟩) hK hP [0, 1, 2, 3, 4, 5, 6, 7, 8, 9, 10] rfl 0 rfl rfl rfl hl.1 rfl (Nat.le_of_ble_eq_true rfl) d_Mod_sizes_37 ⟨Nat.zero_le _, Nat.zero_le _⟩ hS (fun H locs hP hS => ?_)
    have := bs_le (fun q => (hrB q).2.1) i (rNd x (20 * i + 2))
    have := hX i (by omega)
    have : bsR (rNd x) i ≤ rNd x (20 * i + 2) * 65536 := by assumption
    refine lv_iload_n hx hb d_Mod_sizes_40 rfl (lv_at hl 3 rfl) ?_
    refine gz_icmp_le (tgt := 52) hx hb d_Mod_sizes_41 (by decide) (by omega) (by omega) (fun h41 => ?_) (fun h41 => ?_)
    · rw [show bsR (rNd x) i - ((n + 63) / 64) = 0 by omega] at hg
      have hg : x = sz2 L r i n := hg
      subst hg
      refine lv_aload_n hx hb d_Mod_sizes_52 rfl (lv_at hl 0 rfl) ?_
      refine va_get (D := D) (ci := 4) (v := .ref (g 22)) (C := R_Mod) (T := T_Mod) (N := 14) hx hb hTB in_Mod hown hK hP 0 rfl rfl 4 (by decide) (hTB _ k_648) (fun _ h9 => h9) rfl d_Mod_sizes_53 ?_
      refine lv_bipush (v := nI 20) hx hb d_Mod_sizes_56 (by decide +kernel) ?_
      refine lv_iload_n hx hb d_Mod_sizes_58 rfl (lv_at hl 1 rfl) ?_
      refine gz_imul hx hb d_Mod_sizes_59 ?_
      refine lv_iconst (v := nI 1) hx hb d_Mod_sizes_60 (by decide +kernel) ?_
      refine gz_iadd hx hb d_Mod_sizes_61 ?_
      refine lv_iload_n hx hb d_Mod_sizes_62 rfl (lv_at hl 2 rfl) ?_
      refine gm_ast hx hb hK hP hD hS 2 2 rfl rfl (i := (20 * i) + 1) (x := n) (by omega) (by omega) d_Mod_sizes_63 (fun H locs hP hD hS => ?_)
      have hrB := rB_nd (i := (20 * i) + 1) (x := n) hrB (by omega)
      have hP : va_P D cl5 (wM g k L (qNd (sz2 L r i n) (va_up (rNd (sz2 L r i n)) ((20 * i) + 1) n))) H := hP
      have hD : va_D A (wM g k L (qNd (sz2 L r i n) (va_up (rNd (sz2 L r i n)) ((20 * i) + 1) n))) := hD
      refine lv_iload_n hx hb d_Mod_sizes_64 rfl (lv_at hl 2 rfl) ?_
      refine lv_istore (lv' := [(5, .int (nI n)), (0, .ref (g 20)), (1, .int (nI i)), (2, .int (nI n)), (3, .int (nI (((n + 63) / 64)))), (4, .int (zI (false)))]) hx hb d_Mod_sizes_65 hl (by decide) rfl (fun ls hl => ?_)
      have hwf3 : wfN (rNd (sz3 L r i n)) L := wf_up1 hwf
      have hbs3 : bsR (rNd (sz3 L r i n)) i = bsR (rNd (sz2 L r i n)) i := bs_up1
      refine gz_loop 67 (fun (zz : (Nat × RSt)) H locs ls => match zz with | (c0, y) => va_P D cl5 (wM g k L y) H ∧ va_D A (wM g k L y) ∧ va_S A s.heap H locs ∧ lv_has ls 6 [(0, .ref (g 20)), (1, .int (nI i)), (3, .int (nI (((n + 63) / 64)))), (4, .int (zI (false))), (5, .int (nI c0))] ∧ (szZ i (64 * ((n + 63) / 64) - c0) c0 y = szZ i (64 * ((n + 63) / 64) - n) n (sz3 L r i n)) ∧ (rB y) ∧ (rNd y = rNd (sz3 L r i n)) ∧ (n ≤ c0 ∧ c0 ≤ 200000) ∧ (y = sz3 L r i n)) (fun (zz : (Nat × RSt)) => match zz with | (c0, y) => 64 * ((n + 63) / 64) - c0) (fun zz H locs ls hI ih67 => ?_) (n, sz3 L r i n) ⟨hP, hD, hS, lv_sub hl [1, 2, 4, 5, 0] rfl, rfl, hrB, rfl, ⟨Nat.le_refl _, by omega⟩, rfl⟩
      obtain ⟨c0, y⟩ := zz
      obtain ⟨hP, hD, hS, hl, hz, hrB, hnd, hc0, hy⟩ := hI
      have hX : ∀ i, i < 64 → rNd y (20 * i + 2) ≤ 8 := by rw [hnd]; exact wf_X hwf3
      have hG : ∀ i, i < 64 → ∀ t, t < bsR (rNd y) i → bkR (rNd y) i t < 768 := by rw [hnd]; exact wf_G hwf3 hL
      refine lv_iload hx hb d_Mod_sizes_67 (lv_at hl 4 rfl) ?_
      refine lv_bipush (v := nI 64) hx hb d_Mod_sizes_69 (by decide +kernel) ?_
      refine lv_iload_n hx hb d_Mod_sizes_71 rfl (lv_at hl 2 rfl) ?_
      refine gz_imul hx hb d_Mod_sizes_72 ?_
      refine gz_icmp_ge (tgt := 95) hx hb d_Mod_sizes_73 (by decide) (by omega) (by omega) (fun h73 => ?_) (fun h73 => ?_)
      · refine lv_iload hx hb d_Mod_sizes_95 (lv_at hl 3 rfl) ?_
        have hP9 : va_P D cl5 (wM g k L ((szR L r i n).2)) H := (by unfold szR; rw [hs3, if_neg (by decide), ← hy]; exact hP)
        have hD9 : va_D A (wM g k L ((szR L r i n).2)) := (by unfold szR; rw [hs3, if_neg (by decide), ← hy]; exact hD)
        exact W.zret (v := zI (false)) (ty := .boolean) hx hb hr (zI_nar _) (fun tt9 ht9 hW9 => ⟨⟨_, (), rfl, (by unfold szR; rw [hs3]), ⟨by rw [ht9]; exact hP9, hD9⟩⟩, hS.F ht9⟩) hS.2.2 d_Mod_sizes_97
      · refine lv_iload hx hb d_Mod_sizes_76 (lv_at hl 3 rfl) ?_
        refine gz_ifz_eq (tgt := 95) hx hb d_Mod_sizes_78 (by decide) (fun h78 => ?_) (fun h78 => ?_)
        · refine lv_iload hx hb d_Mod_sizes_95 (lv_at hl 3 rfl) ?_
          have hP9 : va_P D cl5 (wM g k L ((szR L r i n).2)) H := (by unfold szR; rw [hs3, if_neg (by decide), ← hy]; exact hP)
          have hD9 : va_D A (wM g k L ((szR L r i n).2)) := (by unfold szR; rw [hs3, if_neg (by decide), ← hy]; exact hD)
          exact W.zret (v := zI (false)) (ty := .boolean) hx hb hr (zI_nar _) (fun tt9 ht9 hW9 => ⟨⟨_, (), rfl, (by unfold szR; rw [hs3]), ⟨by rw [ht9]; exact hP9, hD9⟩⟩, hS.F ht9⟩) hS.2.2 d_Mod_sizes_97
        · exact absurd h78 (by decide)
    · have hx1 : 1 ≤ lX x i := bs_0 h41
      have hx8 : lX x i ≤ 8 := hX i hi0
      have hn1 : 1 ≤ lN' x i := gv_pre hi0 hwf hx1
      have hlt := Nat.lt_of_lt_of_le (gv_wf hi0 hwf hx1).2.2 hL
      have hgb := (gv_wf hi0 hwf hx1).2.1
      refine lv_aload_n hx hb d_Mod_sizes_44 rfl (lv_at hl 0 rfl) ?_
      refine lv_iload_n hx hb d_Mod_sizes_45 rfl (lv_at hl 1 rfl) ?_
      refine gz_muV (As := [.int (nI i)]) (rest := []) (wc := (wM g k L x)) (w1 := (wM g k L (gvR x i))) (wr := []) ⟨hx, hb, hml, hown, hTB⟩ (c_Mod_gives l D g k L hL0 hL x hrB i (by omega) hx1 hx8 hn1 hlt) (cwV 1 hTB (gd_V k_774 k_776 k_37 k_56 k_777) rfl rfl rfl (by decide +kernel) ⟨Nat.le_of_ble_eq_true rfl, Nat.le_of_ble_eq_true rfl⟩) hK hP hD hA [0, 1, 2, 3, 4, 5, 6, 7, 8, 9, 10] [] rfl rfl (by decide) rfl (by decide) (by decide) 0 rfl rfl rfl hl.1 rfl (Nat.le_of_ble_eq_true rfl) d_Mod_sizes_46 ⟨Nat.zero_le _, Nat.zero_le _⟩ hS (fun H locs hP hD hS => ?_)
      have hP : va_P D cl5 (wM g k L (gvR x i)) H := hP
      have hD : va_D A (wM g k L (gvR x i)) := hD
      refine lv_goto (tgt := 35) hx hb d_Mod_sizes_49 (by decide) ?_
      exact ih35 (gvR x i) _ _ _ (by first | omega | (dsimp only; omega)) ⟨hP, hD, hS, lv_sub hl [0, 1, 2, 3, 4] rfl, (by rw [← hg, show bsR (rNd x) i - ((n + 63) / 64) = (bsR (rNd (gvR x i)) i - ((n + 63) / 64)) + 1 by omega, szG]), (gv_B hrB), (gv_wf hi0 hwf hx1).1⟩
  · refine lv_aload_n hx hb d_Mod_sizes_16 rfl (lv_at hl 0 rfl) ?_
    refine lv_iload_n hx hb d_Mod_sizes_17 rfl (lv_at hl 1 rfl) ?_
    refine gz_roV (As := [.int (nI i)]) (rest := []) (wc := (wM g k L v)) ⟨hx, hb, hml, hown, hTB⟩ (c_Mod_blocksOf l D g k L hL0 hL v hrB i (by omega) hX) (cwV 1 hTB (gd_V k_766 k_768 k_35 k_56 k_769) rfl rfl rfl (by decide +kernel) ⟨Nat.le_of_ble_eq_true rfl, Nat.le_of_ble_eq_true rfl⟩) hK hP [0, 1, 2, 3, 4, 5, 6, 7, 8, 9, 10] rfl 0 rfl rfl rfl hl.1 rfl (Nat.le_of_ble_eq_true rfl) d_Mod_sizes_18 ⟨Nat.zero_le _, Nat.zero_le _⟩ hS (fun H locs hP hS => ?_)
    have := bs_le (fun q => (hrB q).2.1) i (rNd v (20 * i + 2))
    have := hX i (by omega)
    have : bsR (rNd v) i ≤ rNd v (20 * i + 2) * 65536 := by assumption
    refine lv_iload_n hx hb d_Mod_sizes_21 rfl (lv_at hl 3 rfl) ?_
    refine gz_icmp_ge (tgt := 35) hx hb d_Mod_sizes_22 (by decide) (by omega) (by omega) (fun h22 => ?_) (fun h22 => ?_)
    · subst h13
      rw [if_pos rfl, show ((n + 63) / 64) - bsR (rNd v) i = 0 by omega] at hq
      have hs1 : (true, v) = sz1 L r i n := hq
      have hs2 : v = (sz1 L r i n).2 := by rw [← hs1]
      have hs3 : (sz1 L r i n).1 = true := by rw [← hs1]
      refine gz_loop 35 (fun (zz : RSt) H locs ls => match zz with | x => va_P D cl5 (wM g k L x) H ∧ va_D A (wM g k L x) ∧ va_S A s.heap H locs ∧ lv_has ls 6 [(0, .ref (g 20)), (1, .int (nI i)), (2, .int (nI n)), (3, .int (nI (((n + 63) / 64)))), (4, .int (zI (true)))] ∧ (szG i (bsR (rNd x) i - ((n + 63) / 64)) x = sz2 L r i n) ∧ (rB x) ∧ (wfN (rNd x) L) ∧ (((n + 63) / 64) ≤ bsR (rNd x) i)) (fun (zz : RSt) => match zz with | x => bsR (rNd x) i) (fun zz H locs ls hI ih35 => ?_) (v) ⟨hP, hD, hS, lv_sub hl [0, 1, 2, 3, 4] rfl, (by rw [hs2]; rfl), hrB, hwf, h22⟩
      obtain ⟨x, rfl⟩ : ∃ z, z = zz := ⟨_, rfl⟩
      obtain ⟨hP, hD, hS, hl, hg, hrB, hwf, hge⟩ := hI
      have hX := wf_X hwf
      refine lv_aload_n hx hb d_Mod_sizes_35 rfl (lv_at hl 0 rfl) ?_
      refine lv_iload_n hx hb d_Mod_sizes_36 rfl (lv_at hl 1 rfl) ?_
      refine gz_roV (As := [.int (nI i)]) (rest := []) (wc := (wM g k L x)) ⟨hx, hb, hml, hown, hTB⟩ (c_Mod_blocksOf l D g k L hL0 hL x hrB i (by omega) hX) (cwV 1 hTB (gd_V k_766 k_768 k_35 k_56 k_769) rfl rfl rfl (by decide +kernel) ⟨Nat.le_of_ble_eq_true rfl, Nat.le_of_ble_eq_true rfl⟩) hK hP [0, 1, 2, 3, 4, 5, 6, 7, 8, 9, 10] rfl 0 rfl rfl rfl hl.1 rfl (Nat.le_of_ble_eq_true rfl) d_Mod_sizes_37 ⟨Nat.zero_le _, Nat.zero_le _⟩ hS (fun H locs hP hS => ?_)
      have := bs_le (fun q => (hrB q).2.1) i (rNd x (20 * i + 2))
      have := hX i (by omega)
      have : bsR (rNd x) i ≤ rNd x (20 * i + 2) * 65536 := by assumption
      refine lv_iload_n hx hb d_Mod_sizes_40 rfl (lv_at hl 3 rfl) ?_
      refine gz_icmp_le (tgt := 52) hx hb d_Mod_sizes_41 (by decide) (by omega) (by omega) (fun h41 => ?_) (fun h41 => ?_)
      · rw [show bsR (rNd x) i - ((n + 63) / 64) = 0 by omega] at hg
        have hg : x = sz2 L r i n := hg
        subst hg
        refine lv_aload_n hx hb d_Mod_sizes_52 rfl (lv_at hl 0 rfl) ?_
        refine va_get (D := D) (ci := 4) (v := .ref (g 22)) (C := R_Mod) (T := T_Mod) (N := 14) hx hb hTB in_Mod hown hK hP 0 rfl rfl 4 (by decide) (hTB _ k_648) (fun _ h9 => h9) rfl d_Mod_sizes_53 ?_
        refine lv_bipush (v := nI 20) hx hb d_Mod_sizes_56 (by decide +kernel) ?_
        refine lv_iload_n hx hb d_Mod_sizes_58 rfl (lv_at hl 1 rfl) ?_
        refine gz_imul hx hb d_Mod_sizes_59 ?_
        refine lv_iconst (v := nI 1) hx hb d_Mod_sizes_60 (by decide +kernel) ?_
        refine gz_iadd hx hb d_Mod_sizes_61 ?_
        refine lv_iload_n hx hb d_Mod_sizes_62 rfl (lv_at hl 2 rfl) ?_
        refine gm_ast hx hb hK hP hD hS 2 2 rfl rfl (i := (20 * i) + 1) (x := n) (by omega) (by omega) d_Mod_sizes_63 (fun H locs hP hD hS => ?_)
        have hrB := rB_nd (i := (20 * i) + 1) (x := n) hrB (by omega)
        have hP : va_P D cl5 (wM g k L (qNd (sz2 L r i n) (va_up (rNd (sz2 L r i n)) ((20 * i) + 1) n))) H := hP
        have hD : va_D A (wM g k L (qNd (sz2 L r i n) (va_up (rNd (sz2 L r i n)) ((20 * i) + 1) n))) := hD
        refine lv_iload_n hx hb d_Mod_sizes_64 rfl (lv_at hl 2 rfl) ?_
        refine lv_istore (lv' := [(5, .int (nI n)), (0, .ref (g 20)), (1, .int (nI i)), (2, .int (nI n)), (3, .int (nI (((n + 63) / 64)))), (4, .int (zI (true)))]) hx hb d_Mod_sizes_65 hl (by decide) rfl (fun ls hl => ?_)
        have hwf3 : wfN (rNd (sz3 L r i n)) L := wf_up1 hwf
        have hbs3 : bsR (rNd (sz3 L r i n)) i = bsR (rNd (sz2 L r i n)) i := bs_up1
        refine gz_loop 67 (fun (zz : (Nat × RSt)) H locs ls => match zz with | (c0, y) => va_P D cl5 (wM g k L y) H ∧ va_D A (wM g k L y) ∧ va_S A s.heap H locs ∧ lv_has ls 6 [(0, .ref (g 20)), (1, .int (nI i)), (3, .int (nI (((n + 63) / 64)))), (4, .int (zI (true))), (5, .int (nI c0))] ∧ (szZ i (64 * ((n + 63) / 64) - c0) c0 y = szZ i (64 * ((n + 63) / 64) - n) n (sz3 L r i n)) ∧ (rB y) ∧ (rNd y = rNd (sz3 L r i n)) ∧ (n ≤ c0 ∧ c0 ≤ 200000)) (fun (zz : (Nat × RSt)) => match zz with | (c0, y) => 64 * ((n + 63) / 64) - c0) (fun zz H locs ls hI ih67 => ?_) (n, sz3 L r i n) ⟨hP, hD, hS, lv_sub hl [1, 2, 4, 5, 0] rfl, rfl, hrB, rfl, ⟨Nat.le_refl _, by omega⟩⟩
        obtain ⟨c0, y⟩ := zz
        obtain ⟨hP, hD, hS, hl, hz, hrB, hnd, hc0⟩ := hI
        have hX : ∀ i, i < 64 → rNd y (20 * i + 2) ≤ 8 := by rw [hnd]; exact wf_X hwf3
        have hG : ∀ i, i < 64 → ∀ t, t < bsR (rNd y) i → bkR (rNd y) i t < 768 := by rw [hnd]; exact wf_G hwf3 hL
        have hby : bsR (rNd y) i = ((n + 63) / 64) := by rw [hnd, hbs3]; omega
        refine lv_iload hx hb d_Mod_sizes_67 (lv_at hl 4 rfl) ?_
        refine lv_bipush (v := nI 64) hx hb d_Mod_sizes_69 (by decide +kernel) ?_
        refine lv_iload_n hx hb d_Mod_sizes_71 rfl (lv_at hl 2 rfl) ?_
        refine gz_imul hx hb d_Mod_sizes_72 ?_
        refine gz_icmp_ge (tgt := 95) hx hb d_Mod_sizes_73 (by decide) (by omega) (by omega) (fun h73 => ?_) (fun h73 => ?_)
        · refine lv_iload hx hb d_Mod_sizes_95 (lv_at hl 3 rfl) ?_
          have hP9 : va_P D cl5 (wM g k L ((szR L r i n).2)) H := (by unfold szR; rw [hs3, if_pos rfl, ← hz, show 64 * ndz n - c0 = 0 by show 64 * ((n + 63) / 64) - c0 = 0; omega]; exact hP)
          have hD9 : va_D A (wM g k L ((szR L r i n).2)) := (by unfold szR; rw [hs3, if_pos rfl, ← hz, show 64 * ndz n - c0 = 0 by show 64 * ((n + 63) / 64) - c0 = 0; omega]; exact hD)
          exact W.zret (v := zI (true)) (ty := .boolean) hx hb hr (zI_nar _) (fun tt9 ht9 hW9 => ⟨⟨_, (), rfl, (by unfold szR; rw [hs3]), ⟨by rw [ht9]; exact hP9, hD9⟩⟩, hS.F ht9⟩) hS.2.2 d_Mod_sizes_97
        · refine lv_iload hx hb d_Mod_sizes_76 (lv_at hl 3 rfl) ?_
          refine gz_ifz_eq (tgt := 95) hx hb d_Mod_sizes_78 (by decide) (fun h78 => ?_) (fun h78 => ?_)
          · exact absurd h78 (by decide)
          · refine lv_aload_n hx hb d_Mod_sizes_81 rfl (lv_at hl 0 rfl) ?_
            refine lv_iload_n hx hb d_Mod_sizes_82 rfl (lv_at hl 1 rfl) ?_
            refine lv_iload hx hb d_Mod_sizes_83 (lv_at hl 4 rfl) ?_
            refine lv_iconst (v := nI 0) hx hb d_Mod_sizes_85 (by decide +kernel) ?_
            refine gz_muV (As := [.int (nI i), .int (nI c0), .int (nI 0)]) (rest := []) (wc := (wM g k L y)) (w1 := (wM g k L (ptR y i c0 0))) (wr := []) ⟨hx, hb, hml, hown, hTB⟩ (c_Mod_put l D g k L hL0 hL y hrB i c0 0 (by omega) (by omega) hX hG (by first | omega | (show _ < bsR (rNd r) _; omega)) (by omega)) (cwV 3 hTB (gd_V k_778 k_780 k_38 k_56 k_781) rfl rfl rfl (by decide +kernel) ⟨Nat.le_of_ble_eq_true rfl, Nat.le_of_ble_eq_true rfl⟩) hK hP hD hA [0, 1, 2, 3, 4, 5, 6, 7, 8, 9, 10] [] rfl rfl (by decide) rfl (by decide) (by decide) 0 rfl rfl rfl hl.1 rfl (Nat.le_of_ble_eq_true rfl) d_Mod_sizes_86 ⟨Nat.zero_le _, Nat.zero_le _⟩ hS (fun H locs hP hD hS => ?_)
            have hP : va_P D cl5 (wM g k L (ptR y i c0 0)) H := hP
            have hD : va_D A (wM g k L (ptR y i c0 0)) := hD
            have hrB := ptR_B (i := i) (c := c0) (v := 0) hrB (by omega)
            refine lv_iinc (v := nI (c0 + 1)) (lv' := [(5, .int (nI (c0 + 1))), (0, .ref (g 20)), (1, .int (nI i)), (3, .int (nI (((n + 63) / 64)))), (4, .int (zI (true)))]) hx hb d_Mod_sizes_89 hl (k := 4) rfl (nI_add c0 1) (by decide) rfl (fun ls hl => ?_)
            refine lv_goto (tgt := 67) hx hb d_Mod_sizes_92 (by decide) ?_
            exact ih67 (c0 + 1, ptR y i c0 0) _ _ _ (by first | omega | (dsimp only; omega)) ⟨hP, hD, hS, lv_sub hl [1, 2, 3, 4, 0] rfl, (by rw [← hz, show 64 * ((n + 63) / 64) - c0 = (64 * ((n + 63) / 64) - (c0 + 1)) + 1 by omega, szZ]), hrB, hnd, (by omega)⟩
      · have hx1 : 1 ≤ lX x i := bs_0 h41
        have hx8 : lX x i ≤ 8 := hX i hi0
        have hn1 : 1 ≤ lN' x i := gv_pre hi0 hwf hx1
        have hlt := Nat.lt_of_lt_of_le (gv_wf hi0 hwf hx1).2.2 hL
        have hgb := (gv_wf hi0 hwf hx1).2.1
        refine lv_aload_n hx hb d_Mod_sizes_44 rfl (lv_at hl 0 rfl) ?_
        refine lv_iload_n hx hb d_Mod_sizes_45 rfl (lv_at hl 1 rfl) ?_
        refine gz_muV (As := [.int (nI i)]) (rest := []) (wc := (wM g k L x)) (w1 := (wM g k L (gvR x i))) (wr := []) ⟨hx, hb, hml, hown, hTB⟩ (c_Mod_gives l D g k L hL0 hL x hrB i (by omega) hx1 hx8 hn1 hlt) (cwV 1 hTB (gd_V k_774 k_776 k_37 k_56 k_777) rfl rfl rfl (by decide +kernel) ⟨Nat.le_of_ble_eq_true rfl, Nat.le_of_ble_eq_true rfl⟩) hK hP hD hA [0, 1, 2, 3, 4, 5, 6, 7, 8, 9, 10] [] rfl rfl (by decide) rfl (by decide) (by decide) 0 rfl rfl rfl hl.1 rfl (Nat.le_of_ble_eq_true rfl) d_Mod_sizes_46 ⟨Nat.zero_le _, Nat.zero_le _⟩ hS (fun H locs hP hD hS => ?_)
        have hP : va_P D cl5 (wM g k L (gvR x i)) H := hP
        have hD : va_D A (wM g k L (gvR x i)) := hD
        refine lv_goto (tgt := 35) hx hb d_Mod_sizes_49 (by decide) ?_
        exact ih35 (gvR x i) _ _ _ (by first | omega | (dsimp only; omega)) ⟨hP, hD, hS, lv_sub hl [0, 1, 2, 3, 4] rfl, (by rw [← hg, show bsR (rNd x) i - ((n + 63) / 64) = (bsR (rNd (gvR x i)) i - ((n + 63) / 64)) + 1 by omega, szG]), (gv_B hrB), (gv_wf hi0 hwf hx1).1, (by omega)⟩
    · refine lv_aload_n hx hb d_Mod_sizes_25 rfl (lv_at hl 0 rfl) ?_
      refine lv_iload_n hx hb d_Mod_sizes_26 rfl (lv_at hl 1 rfl) ?_
      refine gz_muI (As := [.int (nI i)]) (rest := []) (wc := (wM g k L v)) (w1 := (wM g k L ((tkR L v i).2))) (wr := []) ⟨hx, hb, hml, hown, hTB⟩ (c_Mod_takes l D g k L hL0 hL v hrB i (by omega) hX) (cwV 1 hTB (gd_V k_770 k_772 k_36 k_56 k_773) rfl rfl rfl (by decide +kernel) ⟨Nat.le_of_ble_eq_true rfl, Nat.le_of_ble_eq_true rfl⟩) hK hP hD hA [0, 1, 2, 3, 4, 5, 6, 7, 8, 9, 10] [] rfl rfl (by decide) rfl (by decide) (by decide) 0 rfl rfl rfl hl.1 rfl (Nat.le_of_ble_eq_true rfl) d_Mod_sizes_27 ⟨Nat.zero_le _, Nat.zero_le _⟩ hS (fun H locs hP hD hS => ?_)
      have hP : va_P D cl5 (wM g k L ((tkR L v i).2)) H := hP
      have hD : va_D A (wM g k L ((tkR L v i).2)) := hD
      refine lv_istore (lv' := [(4, .int (zI ((tkR L v i).1))), (0, .ref (g 20)), (1, .int (nI i)), (2, .int (nI n)), (3, .int (nI (((n + 63) / 64))))]) hx hb d_Mod_sizes_30 hl (by decide) rfl (fun ls hl => ?_)
      refine lv_goto (tgt := 11) hx hb d_Mod_sizes_32 (by decide) ?_
      exact ih11 ((tkR L v i).1, (tkR L v i).2) _ _ _ (by dsimp only; rw [h13, if_pos rfl]; cases z : (tkR L v i).1; (rw [if_neg (by decide)]; omega); (rw [if_pos rfl, (tk_wf hi0 hwf).2 z]; omega)) ⟨hP, hD, hS, lv_sub hl [1, 2, 3, 4, 0] rfl, (by rw [← hq, h13, if_pos rfl, show ((n + 63) / 64) - bsR (rNd v) i = (((n + 63) / 64) - bsR (rNd v) i - 1) + 1 by omega, szT]; cases z : (tkR L v i).1; (rw [if_neg (by decide), if_neg (by decide)]); (rw [if_pos rfl, if_pos rfl, (tk_wf hi0 hwf).2 z, Nat.sub_sub])), (tk_B hi0 hL hrB hwf), (tk_wf hi0 hwf).1⟩
theorem d_Mod_frees_0 : decode b_Mod_frees 0 = .ok (.aload_n 0, 1) := by decide +kernel
theorem d_Mod_frees_1 : decode b_Mod_frees 1 = .ok (.getfield 13, 3) := by decide +kernel
theorem d_Mod_frees_4 : decode b_Mod_frees 4 = .ok (.bipush 20, 2) := by decide +kernel
theorem d_Mod_frees_6 : decode b_Mod_frees 6 = .ok (.iload_n 1, 1) := by decide +kernel
theorem d_Mod_frees_7 : decode b_Mod_frees 7 = .ok (.imul, 1) := by decide +kernel
theorem d_Mod_frees_8 : decode b_Mod_frees 8 = .ok (.iconst 2, 1) := by decide +kernel
theorem d_Mod_frees_9 : decode b_Mod_frees 9 = .ok (.iadd, 1) := by decide +kernel
theorem d_Mod_frees_10 : decode b_Mod_frees 10 = .ok (.iaload, 1) := by decide +kernel
theorem d_Mod_frees_11 : decode b_Mod_frees 11 = .ok (.ifCond .le 11, 3) := by decide +kernel
theorem d_Mod_frees_14 : decode b_Mod_frees 14 = .ok (.aload_n 0, 1) := by decide +kernel
theorem d_Mod_frees_15 : decode b_Mod_frees 15 = .ok (.iload_n 1, 1) := by decide +kernel
theorem d_Mod_frees_16 : decode b_Mod_frees 16 = .ok (.invokevirtual 80, 3) := by decide +kernel
theorem d_Mod_frees_19 : decode b_Mod_frees 19 = .ok (.goto (-19), 3) := by decide +kernel
theorem d_Mod_frees_22 : decode b_Mod_frees 22 = .ok (.iconst 0, 1) := by decide +kernel
theorem d_Mod_frees_23 : decode b_Mod_frees 23 = .ok (.istore_n 2, 1) := by decide +kernel
theorem d_Mod_frees_24 : decode b_Mod_frees 24 = .ok (.iload_n 2, 1) := by decide +kernel
theorem d_Mod_frees_25 : decode b_Mod_frees 25 = .ok (.bipush 20, 2) := by decide +kernel
theorem d_Mod_frees_27 : decode b_Mod_frees 27 = .ok (.if_icmp .ge 21, 3) := by decide +kernel
theorem d_Mod_frees_30 : decode b_Mod_frees 30 = .ok (.aload_n 0, 1) := by decide +kernel
theorem d_Mod_frees_31 : decode b_Mod_frees 31 = .ok (.getfield 13, 3) := by decide +kernel
theorem d_Mod_frees_34 : decode b_Mod_frees 34 = .ok (.bipush 20, 2) := by decide +kernel
theorem d_Mod_frees_36 : decode b_Mod_frees 36 = .ok (.iload_n 1, 1) := by decide +kernel
theorem d_Mod_frees_37 : decode b_Mod_frees 37 = .ok (.imul, 1) := by decide +kernel
theorem d_Mod_frees_38 : decode b_Mod_frees 38 = .ok (.iload_n 2, 1) := by decide +kernel
theorem d_Mod_frees_39 : decode b_Mod_frees 39 = .ok (.iadd, 1) := by decide +kernel
theorem d_Mod_frees_40 : decode b_Mod_frees 40 = .ok (.iconst 0, 1) := by decide +kernel
theorem d_Mod_frees_41 : decode b_Mod_frees 41 = .ok (.iastore, 1) := by decide +kernel
theorem d_Mod_frees_42 : decode b_Mod_frees 42 = .ok (.iinc 2 1, 3) := by decide +kernel
theorem d_Mod_frees_45 : decode b_Mod_frees 45 = .ok (.goto (-21), 3) := by decide +kernel
theorem d_Mod_frees_48 : decode b_Mod_frees 48 = .ok (.return_, 1) := by decide +kernel
set_option maxHeartbeats 4000000 in
set_option maxRecDepth 100000 in
theorem c_Mod_frees (l : Launch) (D : va_G) (g : Nat → Nat) (k : Nat → ClassId) (L : Nat) (hL0 : 96 ≤ L) (hL : L ≤ 768) (r : RSt) (hrB : rB r) (i : Nat) (hi0 : i < 64) (hwf : wfN (rNd r) L) : MuV l y_Mod_frees w_Mod_frees ({ frames := 1, cells := 0, slots := 0, locals := 23 }) [.ref (g 20), .int (nI i)] D cl5 (tyC k) (wM g k L r) (wM g k L (frR r i)) := by
  intro sz
  refine Met.ofW (cc := b_Mod_frees) (maxL := 3) (ret := none) (by decide) rfl ?_
  intro p9 e9 s m args9 below9 meth9 c9 s₁ B hml hv
  obtain ⟨rfl, hsz, hP, hK, hD0⟩ := hv
  have hx := B.exec
  have hb := B.bytes
  have hr := B.returns
  have hts := atoms_spec (ws := w_Mod_frees) B.pre
  have hTB : ∀ w ∈ lw_tb, w.before _ s = true := fun w h => hts w (List.mem_cons_of_mem _ h)
  have hown : s.vm.findClass R_Mod = some m.cls := findClass_of_methodNamed B.named
  have hlocks := B.notSynchronized
  subst hsz
  have hD := hD0.self (sz := s.heap.size)
  generalize hAe : va_A (wM g k L r) s.heap.size = A at hD ⊢
  have hA : ∀ q : Nat, s.heap.size ≤ q → A q := fun q h => by rw [← hAe]; exact Or.inr h
  have hS : va_S A s.heap s.heap [] := va_S.rf
  have hl := lv_entry ([.ref (g 20), .int (nI i)]) (n := 3) (Nat.le_of_ble_eq_true rfl)
  rw [lg_entry_eq]
  generalize (lg_sl ([.ref (g 20), .int (nI i)]) ++ List.replicate (3 - (lg_sl ([.ref (g 20), .int (nI i)])).length) Slot.unset).toArray = ls at hl ⊢
  have hl : lv_has ls 3 [(0, .ref (g 20)), (1, .int (nI i))] := hl
  refine gz_loop 0 (fun (zz : RSt) H locs ls => match zz with | x => va_P D cl5 (wM g k L x) H ∧ va_D A (wM g k L x) ∧ va_S A s.heap H locs ∧ lv_has ls 3 [(0, .ref (g 20)), (1, .int (nI i))] ∧ (frG i (bsR (rNd x) i) x = fr1 r i) ∧ (rB x) ∧ (wfN (rNd x) L)) (fun (zz : RSt) => match zz with | x => bsR (rNd x) i) (fun zz H locs ls hI ih0 => ?_) (r) ⟨hP, hD, hS, lv_sub hl [0, 1] rfl, rfl, hrB, hwf⟩
  obtain ⟨x, rfl⟩ : ∃ z, z = zz := ⟨_, rfl⟩
  obtain ⟨hP, hD, hS, hl, hg, hrB, hwf⟩ := hI
  have hX := wf_X hwf
  have hx8 := hX i hi0
  refine lv_aload_n hx hb d_Mod_frees_0 rfl (lv_at hl 0 rfl) ?_
  refine va_get (D := D) (ci := 4) (v := .ref (g 22)) (C := R_Mod) (T := T_Mod) (N := 14) hx hb hTB in_Mod hown hK hP 0 rfl rfl 4 (by decide) (hTB _ k_648) (fun _ h9 => h9) rfl d_Mod_frees_1 ?_
  refine lv_bipush (v := nI 20) hx hb d_Mod_frees_4 (by decide +kernel) ?_
  refine lv_iload_n hx hb d_Mod_frees_6 rfl (lv_at hl 1 rfl) ?_
  refine gz_imul hx hb d_Mod_frees_7 ?_
  refine lv_iconst (v := nI 2) hx hb d_Mod_frees_8 (by decide +kernel) ?_
  refine gz_iadd hx hb d_Mod_frees_9 ?_
  refine gm_ald hx hb hK hP 2 2 rfl rfl (i := (20 * i) + 2) (by omega) (by omega) d_Mod_frees_10 ?_
  have := (hrB ((20 * i) + 2)).2.1
  refine gz_if_le (tgt := 22) hx hb d_Mod_frees_11 (by decide) (by omega) (fun h11 => ?_) (fun h11 => ?_)
  · have hb0 : bsR (rNd x) i = 0 := by unfold bsR; rw [show rNd x (20 * i + 2) = 0 from h11]; rfl
    rw [hb0] at hg
    have hg : x = fr1 r i := hg
    subst hg
    refine lv_iconst (v := nI 0) hx hb d_Mod_frees_22 (by decide +kernel) ?_
    refine lv_istore_n (lv' := [(2, .int (nI 0)), (0, .ref (g 20)), (1, .int (nI i))]) hx hb d_Mod_frees_23 rfl hl (by decide) rfl (fun ls hl => ?_)
    have hP : va_P D cl5 (wM g k L (qNd (fr1 r i) (znM (rNd (fr1 r i)) (20 * i) 0))) H := by rw [znM_0]; exact hP
    have hD : va_D A (wM g k L (qNd (fr1 r i) (znM (rNd (fr1 r i)) (20 * i) 0))) := by rw [znM_0]; exact hD
    refine gz_loop 24 (fun (zz : Nat) H locs ls => match zz with | j => va_P D cl5 (wM g k L (qNd (fr1 r i) (znM (rNd (fr1 r i)) (20 * i) j))) H ∧ va_D A (wM g k L (qNd (fr1 r i) (znM (rNd (fr1 r i)) (20 * i) j))) ∧ va_S A s.heap H locs ∧ lv_has ls 3 [(0, .ref (g 20)), (1, .int (nI i)), (2, .int (nI j))] ∧ (j ≤ 20) ∧ (rB (qNd (fr1 r i) (znM (rNd (fr1 r i)) (20 * i) j)))) (fun (zz : Nat) => match zz with | j => 20 - j) (fun zz H locs ls hI ih24 => ?_) (0) ⟨hP, hD, hS, lv_sub hl [1, 2, 0] rfl, (by omega), (by rw [znM_0]; exact hrB)⟩
    obtain ⟨j, rfl⟩ : ∃ z, z = zz := ⟨_, rfl⟩
    obtain ⟨hP, hD, hS, hl, hj1, hrB⟩ := hI
    refine lv_iload_n hx hb d_Mod_frees_24 rfl (lv_at hl 2 rfl) ?_
    refine lv_bipush (v := nI 20) hx hb d_Mod_frees_25 (by decide +kernel) ?_
    refine gz_icmp_ge (tgt := 48) hx hb d_Mod_frees_27 (by decide) (by omega) (by omega) (fun h27 => ?_) (fun h27 => ?_)
    · have hj8 : j = 20 := by omega
      have hP9 : va_P D cl5 (wM g k L (frR r i)) H := (by unfold frR; rw [hj8] at hP; exact hP)
      have hD9 : va_D A (wM g k L (frR r i)) := (by unfold frR; rw [hj8] at hD; exact hD)
      exact W.vret hx hb hr (fun tt9 ht9 hW9 => ⟨⟨(), rfl, trivial, ⟨by rw [ht9]; exact hP9, hD9⟩⟩, hS.F ht9⟩) hS.2.2 d_Mod_frees_48
    · refine lv_aload_n hx hb d_Mod_frees_30 rfl (lv_at hl 0 rfl) ?_
      refine va_get (D := D) (ci := 4) (v := .ref (g 22)) (C := R_Mod) (T := T_Mod) (N := 14) hx hb hTB in_Mod hown hK hP 0 rfl rfl 4 (by decide) (hTB _ k_648) (fun _ h9 => h9) rfl d_Mod_frees_31 ?_
      refine lv_bipush (v := nI 20) hx hb d_Mod_frees_34 (by decide +kernel) ?_
      refine lv_iload_n hx hb d_Mod_frees_36 rfl (lv_at hl 1 rfl) ?_
      refine gz_imul hx hb d_Mod_frees_37 ?_
      refine lv_iload_n hx hb d_Mod_frees_38 rfl (lv_at hl 2 rfl) ?_
      refine gz_iadd hx hb d_Mod_frees_39 ?_
      refine lv_iconst (v := nI 0) hx hb d_Mod_frees_40 (by decide +kernel) ?_
      refine gm_ast hx hb hK hP hD hS 2 2 rfl rfl (i := (20 * i) + j) (x := 0) (by omega) (by omega) d_Mod_frees_41 (fun H locs hP hD hS => ?_)
      have hrB := rB_nd (i := (20 * i) + j) (x := 0) hrB (by omega)
      have hP : va_P D cl5 (wM g k L (qNd (qNd (fr1 r i) (znM (rNd (fr1 r i)) (20 * i) j)) (va_up (rNd (qNd (fr1 r i) (znM (rNd (fr1 r i)) (20 * i) j))) ((20 * i) + j) 0))) H := hP
      have hD : va_D A (wM g k L (qNd (qNd (fr1 r i) (znM (rNd (fr1 r i)) (20 * i) j)) (va_up (rNd (qNd (fr1 r i) (znM (rNd (fr1 r i)) (20 * i) j))) ((20 * i) + j) 0))) := hD
      refine lv_iinc (v := nI (j + 1)) (lv' := [(2, .int (nI (j + 1))), (0, .ref (g 20)), (1, .int (nI i))]) hx hb d_Mod_frees_42 hl (k := 2) rfl (nI_add j 1) (by decide) rfl (fun ls hl => ?_)
      refine lv_goto (tgt := 24) hx hb d_Mod_frees_45 (by decide) ?_
      have hP : va_P D cl5 (wM g k L (qNd (fr1 r i) (znM (rNd (fr1 r i)) (20 * i) (j + 1)))) H := by rw [← znM_s]; exact hP
      have hD : va_D A (wM g k L (qNd (fr1 r i) (znM (rNd (fr1 r i)) (20 * i) (j + 1)))) := by rw [← znM_s]; exact hD
      have hrB : rB (qNd (fr1 r i) (znM (rNd (fr1 r i)) (20 * i) (j + 1))) := by rw [← znM_s]; exact hrB
      exact ih24 (j + 1) _ _ _ (by first | omega | (dsimp only; omega)) ⟨hP, hD, hS, lv_sub hl [1, 2, 0] rfl, (by omega), hrB⟩
  · have hx1 : 1 ≤ lX x i := h11
    have hx8 : lX x i ≤ 8 := hX i hi0
    have hn1 : 1 ≤ lN' x i := gv_pre hi0 hwf hx1
    have hlt := Nat.lt_of_lt_of_le (gv_wf hi0 hwf hx1).2.2 hL
    have hgb := (gv_wf hi0 hwf hx1).2.1
    refine lv_aload_n hx hb d_Mod_frees_14 rfl (lv_at hl 0 rfl) ?_
    refine lv_iload_n hx hb d_Mod_frees_15 rfl (lv_at hl 1 rfl) ?_
    refine gz_muV (As := [.int (nI i)]) (rest := []) (wc := (wM g k L x)) (w1 := (wM g k L (gvR x i))) (wr := []) ⟨hx, hb, hml, hown, hTB⟩ (c_Mod_gives l D g k L hL0 hL x hrB i (by omega) hx1 hx8 hn1 hlt) (cwV 1 hTB (gd_V k_774 k_776 k_37 k_56 k_777) rfl rfl rfl (by decide +kernel) ⟨Nat.le_of_ble_eq_true rfl, Nat.le_of_ble_eq_true rfl⟩) hK hP hD hA [0, 1, 2, 3, 4, 5, 6, 7, 8, 9, 10] [] rfl rfl (by decide) rfl (by decide) (by decide) 0 rfl rfl rfl hl.1 rfl (Nat.le_of_ble_eq_true rfl) d_Mod_frees_16 ⟨Nat.zero_le _, Nat.zero_le _⟩ hS (fun H locs hP hD hS => ?_)
    have hP : va_P D cl5 (wM g k L (gvR x i)) H := hP
    have hD : va_D A (wM g k L (gvR x i)) := hD
    refine lv_goto (tgt := 0) hx hb d_Mod_frees_19 (by decide) ?_
    exact ih0 (gvR x i) _ _ _ (by first | omega | (dsimp only; omega)) ⟨hP, hD, hS, lv_sub hl [0, 1] rfl, (by rw [← hg, ← hgb, frG]), (gv_B hrB), (gv_wf hi0 hwf hx1).1⟩
