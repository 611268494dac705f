/-! THE LAW'S BEGINNING: the script's first number, what the machine gives, both objects made. -/
theorem d_Law_cell_0 : decode b_Law_cell 0 = .ok (.iload_n 1, 1) := by decide +kernel
theorem d_Law_cell_1 : decode b_Law_cell 1 = .ok (.aload_n 0, 1) := by decide +kernel
theorem d_Law_cell_2 : decode b_Law_cell 2 = .ok (.arraylength, 1) := by decide +kernel
theorem d_Law_cell_3 : decode b_Law_cell 3 = .ok (.if_icmp .ge 9, 3) := by decide +kernel
theorem d_Law_cell_6 : decode b_Law_cell 6 = .ok (.aload_n 0, 1) := by decide +kernel
theorem d_Law_cell_7 : decode b_Law_cell 7 = .ok (.iload_n 1, 1) := by decide +kernel
theorem d_Law_cell_8 : decode b_Law_cell 8 = .ok (.iaload, 1) := by decide +kernel
theorem d_Law_cell_9 : decode b_Law_cell 9 = .ok (.goto 4, 3) := by decide +kernel
theorem d_Law_cell_12 : decode b_Law_cell 12 = .ok (.iconst 0, 1) := by decide +kernel
theorem d_Law_cell_13 : decode b_Law_cell 13 = .ok (.ireturn, 1) := by decide +kernel
def cP (b Ls : Nat) (xs : Nat → Int32) : State → Prop := fun U => va_X b Ls xs U U.heap ∧ b < U.heap.size
def cV (Ls : Nat) (xs : Nat → Int32) : Int32 := if 0 < Ls then xs 0 else nI 0
theorem gz_blC {av : List Value} {b Ls : Nat} {xs : Nat → Int32} : FrameBlind (va_Pc av (cP b Ls xs)) := fun a U g mk q => ⟨q.1, va_X.moved (u := U) (U := U.calling g mk a) (Vm.Alike.refl U.vm) q.2.1, q.2.2⟩
set_option maxHeartbeats 4000000 in
set_option maxRecDepth 100000 in
theorem c_Law_cell (l : Launch) (b Ls : Nat) (xs : Nat → Int32) (hLs : Ls < 2147483648) : RoI l y_Law_cell w_Law_cell ({ frames := 0, cells := 0, slots := 0, locals := 0 }) [.ref b, .int (nI 0)] (cP b Ls xs) (cV Ls xs) := by
  refine Met.ofW (cc := b_Law_cell) (maxL := 2) (ret := (some .int)) (by decide) rfl ?_
  intro p e s m args below meth c s₁ B hml hv
  obtain ⟨rfl, hX, hbl⟩ := hv
  have hx := B.exec
  have hb := B.bytes
  have hr := B.returns
  have hS : va_S (fun _ => False) s.heap s.heap [] := va_S.rf
  have hl := lv_entry ([.ref b, .int (nI 0)]) (n := 2) (Nat.le_of_ble_eq_true rfl)
  rw [lg_entry_eq]
  generalize (lg_sl ([.ref b, .int (nI 0)]) ++ List.replicate (2 - (lg_sl ([.ref b, .int (nI 0)])).length) Slot.unset).toArray = ls at hl ⊢
  have hl : lv_has ls 2 [(0, .ref b), (1, .int (nI 0))] := hl
  refine lv_iload_n hx hb d_Law_cell_0 rfl (lv_at hl 1 rfl) ?_
  refine lv_aload_n hx hb d_Law_cell_1 rfl (lv_at hl 0 rfl) ?_
  refine va_slen hx hb hX hbl (fun h => h) hS d_Law_cell_2 ?_
  refine lv_icmp_ge (tgt := 12) hx hb d_Law_cell_3 (by decide) (fun h => ?_) (fun h => ?_)
  · refine lv_iconst (v := nI 0) hx hb d_Law_cell_12 (by decide +kernel) ?_
    have e : ¬ 0 < Ls := fun q => nI_ge (a := 0) (b := Ls) q (by omega) h
    exact W.iret (v := nI 0) hx hb hr (fun tt9 ht9 hW9 => ⟨⟨_, (), rfl, (if_neg e).symm, trivial⟩, hS.F ht9⟩) hS.2.2 d_Law_cell_13
  · have e : 0 < Ls := Nat.pos_of_ne_zero (fun q => h (by rw [q]; exact nI_le (a := 0) (b := 0) (Nat.le_refl _) (by decide)))
    refine lv_aload_n hx hb d_Law_cell_6 rfl (lv_at hl 0 rfl) ?_
    refine lv_iload_n hx hb d_Law_cell_7 rfl (lv_at hl 1 rfl) ?_
    refine gz_sld hx hb hX hbl (fun h => h) hS (i := 0) e hLs d_Law_cell_8 ?_
    refine lv_goto (tgt := 13) hx hb d_Law_cell_9 (by decide) ?_
    exact W.iret (v := xs 0) hx hb hr (fun tt9 ht9 hW9 => ⟨⟨_, (), rfl, (if_pos e).symm, trivial⟩, hS.F ht9⟩) hS.2.2 d_Law_cell_13
theorem gz_cell {p : Program} {l : Launch} {e : Env} {R : Room} {s : State} {m : MethodId} {args : Array Value} {below : List Frame} {meth : Method} {c : Code} {H : Heap} {locs : List Loc} {cells slots : Nat} {Q : State → Prop} {cc : ByteArray} {pc : Nat} {ls : Array Slot} {rest : List Value} {Ts ws1 : List Cond} {bytes : ByteArray} {nL maxL index n : Nat} {own : String} {y : MethodName} {ret : Option FieldType} {rm : Room} {As st0 : List Value} {D : va_G} {cl : List vw_C} {ws : va_W} {A : Nat → Prop} {b Ls : Nat} {xs : Nat → Int32} {r : Int32}
    (S : CallFix p m c cc nL s args Ts own) (hM : RoI l y ws1 rm As (cP b Ls xs) r) (cw : CallB R s args own index y bytes maxL ret ws1 rm 0 0 n ∧ (Cond.static y).before args s = true) (hX : va_X b Ls xs s s.heap) (hbl : b < s.heap.size) (hbA : ¬ A b)
    (hP : va_P D cl ws H) (hn : As.length = n) (hsize : ls.size = nL) (hst : st0 = As.reverse ++ rest) (hW : (rest.map fun v => v.category).sum ≤ 8) (hdg : decode cc pc = .ok (.invokestatic index, 3)) (hf : cells ≤ R.cells ∧ slots ≤ R.slots) (hS : va_S A s.heap H locs)
    (kk : ∀ (H1 : Heap) (locs1 : List Loc), va_P D cl ws H1 → va_S A s.heap H1 locs1 → W p l e R s m args below meth c H1 locs1 cells slots Q (F0 m (pc + 3) ls (.int r :: rest))) : W p l e R s m args below meth c H locs cells slots Q (F0 m pc ls st0) := by
  refine va_calli (va_runS S hM cw ⟨gz_blC, fun U hU hW => ⟨rfl, by rw [hU]; exact (hX.kept (hS.2.1 b hbl hbA)).moved hW.alike, by rw [hU]; exact Nat.lt_of_lt_of_le hbl hS.1⟩⟩ rfl hn hsize hst (lv_room hW) hdg hf) hS (fun q _ h => h.elim) (fun q h => h.elim) (fun r u t H1 locs1 ht hvm hw _ hz hk hS1 => ?_)
  subst hw
  exact kk H1 locs1 (hP.kept (fun k q hq => hk q.1 ((hP k q hq).lt) (fun h => h))) hS1
theorem ka_of {args : Array Value} {s : State} {ty : FieldType} (hp : ty = .int ∨ ty = .long ∨ ty = .boolean) (h : (Cond.arrayClass ty).before args s = true) : ∃ cA : ClassId, ArrOfT s cA ty ∧ va_RA s cA ty := by
  obtain ⟨cA, k, comp, h1, h2, h3⟩ := Cond.arrayClass_spec h
  refine ⟨cA, fun n z => ⟨fun k h => (by cases h), k, h2, comp, h3⟩, ?_⟩
  rcases hp with rfl | rfl | rfl <;> exact h1
/-- what throws need, at the start -/
theorem xP_start {args : Array Value} {s : State} (hts : ∀ w ∈ lw_tbl, w.before args s = true) (hgv : (Jvm.Cond.and given_1 narrow_1).before args s = true) : xP (fun q => s.heap.size ≤ q) s s.heap := by
  have hs := flat_of_before _ hgv
  have hA : ∀ a : Nat, a < s.heap.size → ¬ s.heap.size ≤ a := fun a h => Nat.not_le.mpr h
  refine ⟨vx_Zqof (hts _ (by decide +kernel)) (hts _ (by decide +kernel)) (hs _ (by decide +kernel)) hA, vx_Zqof (hts _ (by decide +kernel)) (hts _ (by decide +kernel)) (hs _ (by decide +kernel)) hA, fun w hw => ?_, va_Nc.of (hs _ (by decide +kernel)), va_Nc.of (hs _ (by decide +kernel)), fun q hq => ?_⟩
  · have h := hts w (xw_tbl w hw)
    have ho : w.onTables = true := (by decide +kernel : ∀ w ∈ xw, w.onTables = true) w hw
    exact va_tabs ho (u := s) rfl h
  · have h := hts _ ((by decide +kernel : ∀ q ∈ xst, Cond.stringRef "TreeFiles" q.1 q.2 ∈ lw_tbl) q hq)
    obtain ⟨cC, kC, hfc, -⟩ := Cond.instantiable_spec (hts (.instantiable "TreeFiles" 5) (by decide +kernel))
    obtain ⟨-, -, -, sa, -, -, -, -, -, hev⟩ := Cond.stringRef_spec hfc h
    exact ⟨sa, vk_R.of h hev⟩
set_option maxHeartbeats 4000000 in
set_option maxRecDepth 100000 in
theorem whole_start {p : Program} {e : Env} {s : State} {m : MethodId} {below : List Frame} {meth : Method} {c : Code} (l : Launch) (htr : l.stackTraces = false) {b L : Nat} {xs : Nat → Int32} (hL : L ≤ 2561) (C0 : lw_At p s m meth c b L xs) : W p l e room_1 s m #[Value.ref b] below meth c s.heap [] 0 0 (lw_Z below #[Value.ref b] s) (entryFrame m ([Value.ref b] : List Value).toArray 8) := by
  obtain ⟨hx, hb, hr, hml, hown, hts, hX, hbl, hlocks, hgv⟩ := id C0
  have hTB : ∀ w ∈ lw_tb, w.before #[Value.ref b] s = true := fun w h => hts w (List.mem_filter.mp h).1
  have hA : ∀ q : Nat, s.heap.size ≤ q → (fun q : Nat => s.heap.size ≤ q) q := fun _ h => h
  have hbA : ¬ (fun q : Nat => s.heap.size ≤ q) b := Nat.not_le.mpr hbl
  have hXp := xP_start hts hgv
  obtain ⟨c0, iS0, hKn0⟩ := u_known (C := R_Dirs) (T := T_Dirs) (N := 3) (n := 3) hTB in_Dirs (hTB _ k_127)
  obtain ⟨c1, iS1, hKn1⟩ := u_known (C := R_Disk) (T := T_Disk) (N := 7) (n := 7) hTB in_Disk (hTB _ k_73)
  obtain ⟨c2, iS2, hKn2⟩ := u_known (C := R_Inodes) (T := T_Inodes) (N := 1) (n := 1) hTB in_Inodes (hTB _ k_117)
  obtain ⟨c3, iS3, hKn3⟩ := u_known (C := R_Tree) (T := T_Tree) (N := 5) (n := 5) hTB in_Tree (hTB _ k_65)
  obtain ⟨c4, iS4, hKn4⟩ := u_known (C := R_Mod) (T := T_Mod) (N := 14) (n := 14) hTB in_Mod (hTB _ k_611)
  obtain ⟨k0, ka0, kb0⟩ := ka_of (Or.inr (Or.inl rfl)) (hTB _ k_114)
  obtain ⟨k1, ka1, kb1⟩ := ka_of (Or.inr (Or.inr rfl)) (hTB _ k_115)
  obtain ⟨k2, ka2, kb2⟩ := ka_of (Or.inl rfl) (hTB _ k_142)
  obtain ⟨D, k, hK⟩ : ∃ (D : va_G) (k : Nat → ClassId), va_K D cl5 (tyC k) s := by
    refine ⟨(fun i => if i = 0 then c0 else if i = 1 then c1 else if i = 2 then c2 else if i = 3 then c3 else c4, fun i => if i = 0 then iS0 else if i = 1 then iS1 else if i = 2 then iS2 else if i = 3 then iS3 else iS4), fun i => if i = 0 then k0 else if i = 1 then k1 else k2, fun i q hq => ?_, fun i q hq => ?_⟩
    · match i, hq with
      | 0, hq => cases hq; exact hKn0
      | 1, hq => cases hq; exact hKn1
      | 2, hq => cases hq; exact hKn2
      | 3, hq => cases hq; exact hKn3
      | 4, hq => cases hq; exact hKn4
      | i + 5, hq => simp at hq
    · match i, hq with
      | 0, hq => cases hq; exact ⟨ka0, kb0⟩
      | 1, hq => cases hq; exact ⟨ka1, kb1⟩
      | 2, hq => cases hq; exact ⟨ka2, kb2⟩
      | i + 3, hq => simp at hq
  have hS : va_S (fun q : Nat => s.heap.size ≤ q) s.heap s.heap [] := va_S.rf
  have hP : va_P D cl5 [] s.heap := fun k q h => by simp at h
  have hD : va_D (fun q : Nat => s.heap.size ≤ q) [] := ⟨fun i j p q h => by simp at h, fun k q h => by simp at h⟩
  have hl := lv_entry ([.ref b]) (n := 8) (Nat.le_of_ble_eq_true rfl)
  rw [lg_entry_eq]
  generalize (lg_sl ([.ref b]) ++ List.replicate (8 - (lg_sl ([.ref b])).length) Slot.unset).toArray = ls at hl ⊢
  have hl : lv_has ls 8 [(0, .ref b)] := hl
  obtain ⟨N, hN⟩ : ∃ N, blN (cV L xs) = N := ⟨_, rfl⟩
  have hNb := blN_b (cV L xs)
  rw [hN] at hNb
  refine va_new (D := D) (ci := 3) (fs := [.null, .null, .null, .null, .int (nI 0)]) (C := R_Tree) (T := T_Tree) (N := 5) hx hb hTB in_Tree t_Tree t_Tree_ok hown (hTB _ k_64) (hTB _ k_65) (hTB _ k_51) hK hP hD hS hA rfl (fun j hj => by rcases (show j = 0 ∨ j = 1 ∨ j = 2 ∨ j = 3 ∨ j = 4 by omega) with rfl | rfl | rfl | rfl | rfl <;> rfl) (Nat.le_of_ble_eq_true rfl) (Nat.le_of_ble_eq_true rfl) d_law_0 (fun q0 H hP hD hS => ?_)
  have hP : va_P D cl5 [(q0, .inr (3, [.null, .null, .null, .null, .int (nI 0)]))] H := hP
  have hD : va_D (fun q : Nat => s.heap.size ≤ q) [(q0, .inr (3, [.null, .null, .null, .null, .int (nI 0)]))] := hD
  refine W.widen (k := 1) (n := 5) (by omega) (by omega) ?_
  refine lv_dup hx hb d_law_3 rfl ?_
  refine lv_aload_n hx hb d_law_4 rfl (lv_at hl 0 rfl) ?_
  refine lv_iconst (v := nI 0) hx hb d_law_5 (by decide +kernel) ?_
  refine gz_cell (As := [.ref b, .int (nI 0)]) (rest := [.ref q0, .ref q0]) ⟨hx, hb, hml, hown, hTB⟩ (c_Law_cell l b L xs (by omega)) (cwS 2 hTB (gd_S k_224 k_225 k_50 k_226) rfl rfl rfl (by decide +kernel) ⟨Nat.le_of_ble_eq_true rfl, Nat.le_of_ble_eq_true rfl⟩) hX hbl hbA hP rfl hl.1 rfl (Nat.le_of_ble_eq_true rfl) d_law_6 ⟨Nat.le_of_ble_eq_true rfl, Nat.le_of_ble_eq_true rfl⟩ hS (fun H locs hP hS => ?_)
  refine gz_ctor (As := [.int (cV L xs)]) (rest := [.ref q0]) (wc := [(q0, .inr (3, [.null, .null, .null, .null, .int (nI 0)]))]) (wr := []) ⟨hx, hb, hml, hown, hTB⟩ (c_Tree_init l D k q0 (cV L xs) N hN) (cwI 1 hTB (gd_I k_68) rfl rfl rfl (hTB _ k_51) (hTB _ k_66) (hTB _ k_67) rfl (by decide +kernel) ⟨Nat.le_of_ble_eq_true rfl, Nat.le_of_ble_eq_true rfl⟩) hK hP hD hA [0] [] rfl rfl (by decide) rfl (by decide) (by decide) rfl hl.1 rfl (Nat.le_of_ble_eq_true rfl) d_law_9 ⟨Nat.le_of_ble_eq_true rfl, Nat.le_of_ble_eq_true rfl⟩ hS (fun g1 H locs hg1 hP hD hS => ?_)
  have hP : va_P D cl5 (wT g1 k N (dskI N) (fun _ => nI 0) 0 (fun _ => nI 0)) H := hP
  have hD : va_D (fun q : Nat => s.heap.size ≤ q) (wT g1 k N (dskI N) (fun _ => nI 0) 0 (fun _ => nI 0)) := hD
  refine W.widen (k := 11) (n := 20560) (by omega) (by omega) ?_
  refine lv_astore_n (lv' := [(1, .ref q0), (0, .ref b)]) hx hb d_law_12 rfl hl (by decide) rfl (fun ls hl => ?_)
  refine va_new (D := D) (ci := 4) (fs := [.int (nI 0), .int (nI 0), .null, .int (nI 0), .null, .null, .null, .null, .null, .null, .null, .null, .null, .int (nI 0)]) (C := R_Mod) (T := T_Mod) (N := 14) hx hb hTB in_Mod t_Mod t_Mod_ok hown (hTB _ k_610) (hTB _ k_611) (hTB _ k_56) hK hP hD hS hA rfl (fun j hj => by rcases (show j = 0 ∨ j = 1 ∨ j = 2 ∨ j = 3 ∨ j = 4 ∨ j = 5 ∨ j = 6 ∨ j = 7 ∨ j = 8 ∨ j = 9 ∨ j = 10 ∨ j = 11 ∨ j = 12 ∨ j = 13 by omega) with rfl | rfl | rfl | rfl | rfl | rfl | rfl | rfl | rfl | rfl | rfl | rfl | rfl | rfl <;> rfl) (Nat.le_of_ble_eq_true rfl) (Nat.le_of_ble_eq_true rfl) d_law_13 (fun q1 H hP hD hS => ?_)
  have hP : va_P D cl5 (wT g1 k N (dskI N) (fun _ => nI 0) 0 (fun _ => nI 0) ++ [(q1, .inr (4, [.int (nI 0), .int (nI 0), .null, .int (nI 0), .null, .null, .null, .null, .null, .null, .null, .null, .null, .int (nI 0)]))]) H := hP
  have hD : va_D (fun q : Nat => s.heap.size ≤ q) (wT g1 k N (dskI N) (fun _ => nI 0) 0 (fun _ => nI 0) ++ [(q1, .inr (4, [.int (nI 0), .int (nI 0), .null, .int (nI 0), .null, .null, .null, .null, .null, .null, .null, .null, .null, .int (nI 0)]))]) := hD
  refine W.widen (k := 12) (n := 20574) (by omega) (by omega) ?_
  refine lv_dup hx hb d_law_16 rfl ?_
  refine lv_aload_n hx hb d_law_17 rfl (lv_at hl 1 rfl) ?_
  refine lv_iconst (v := nI 0) hx hb d_law_18 (by decide +kernel) ?_
  refine gz_cell (As := [.ref b, .int (nI 0)]) (rest := [.ref q1, .ref q1]) ⟨hx, hb, hml, hown, hTB⟩ (c_Law_cell l b L xs (by omega)) (cwS 2 hTB (gd_S k_224 k_225 k_50 k_226) rfl rfl rfl (by decide +kernel) ⟨Nat.le_of_ble_eq_true rfl, Nat.le_of_ble_eq_true rfl⟩) hX hbl hbA hP rfl hl.1 rfl (Nat.le_of_ble_eq_true rfl) d_law_19 ⟨Nat.le_of_ble_eq_true rfl, Nat.le_of_ble_eq_true rfl⟩ hS (fun H locs hP hS => ?_)
  refine gz_ctor (As := [.int (cV L xs)]) (rest := [.ref q1]) (wc := [(q1, .inr (4, [.int (nI 0), .int (nI 0), .null, .int (nI 0), .null, .null, .null, .null, .null, .null, .null, .null, .null, .int (nI 0)]))]) (wr := wT g1 k N (dskI N) (fun _ => nI 0) 0 (fun _ => nI 0)) ⟨hx, hb, hml, hown, hTB⟩ (c_Mod_init l D k q1 (cV L xs) N hN) (cwI 1 hTB (gd_I k_614) rfl rfl rfl (hTB _ k_56) (hTB _ k_612) (hTB _ k_613) rfl (by decide +kernel) ⟨Nat.le_of_ble_eq_true rfl, Nat.le_of_ble_eq_true rfl⟩) hK hP hD hA [11] [0, 1, 2, 3, 4, 5, 6, 7, 8, 9, 10] rfl rfl (by decide) rfl (by decide) (by decide) rfl hl.1 rfl (Nat.le_of_ble_eq_true rfl) d_law_22 ⟨Nat.le_of_ble_eq_true rfl, Nat.le_of_ble_eq_true rfl⟩ hS (fun g2 H locs hg2 hP hD hS => ?_)
  refine W.widen (k := 22) (n := 174686) (by omega) (by omega) ?_
  refine lv_astore_n (lv' := [(2, .ref q1), (1, .ref q0), (0, .ref b)]) hx hb d_law_25 rfl hl (by decide) rfl (fun ls hl => ?_)
  refine lv_iconst (v := nI 1) hx hb d_law_26 (by decide +kernel) ?_
  refine gz_newl (n := 1) hx hb (hTB _ k_114) hK hP hD hS hA 0 rfl (by decide) (Nat.le_of_ble_eq_true rfl) (Nat.le_of_ble_eq_true rfl) d_law_27 (fun qo H hP hD hS => ?_)
  refine lv_astore_n (lv' := [(3, .ref qo), (2, .ref q1), (1, .ref q0), (0, .ref b)]) hx hb d_law_29 rfl hl (by decide) rfl (fun ls hl => ?_)
  refine lv_iconst (v := nI 1) hx hb d_law_30 (by decide +kernel) ?_
  refine lv_istore (lv' := [(4, .int (nI 1)), (3, .ref qo), (2, .ref q1), (1, .ref q0), (0, .ref b)]) hx hb d_law_31 hl (by decide) rfl (fun ls hl => ?_)
  obtain ⟨g, hg⟩ : ∃ g : Nat → Nat, g = fun j => if j < 20 then g1 j else g2 j := ⟨_, rfl⟩
  have eT : wT g1 k N (dskI N) (fun _ => nI 0) 0 (fun _ => nI 0) = wT g k N (dskI N) (fun _ => nI 0) 0 (fun _ => nI 0) := by rw [hg]; rfl
  have eM : wM g2 k N (rstI N) = wM g k N (rstI N) := by rw [hg]; rfl
  have e9 : q0 = g 9 := by rw [hg, ← hg1]; rfl
  have e20 : q1 = g 20 := by rw [hg, ← hg2]; rfl
  rw [eT, eM] at hP hD
  rw [e9, e20] at hl
  have hP : va_P D cl5 (wL g k N (dskI N) (fun _ => nI 0) 0 (fun _ => nI 0) qo (fun _ => 0) (rstI N)) H := hP.sub [0, 1, 2, 3, 4, 5, 6, 7, 8, 9, 10, 22, 11, 12, 13, 14, 15, 16, 17, 18, 19, 20, 21] rfl
  have hD : va_D (fun q : Nat => s.heap.size ≤ q) (wL g k N (dskI N) (fun _ => nI 0) 0 (fun _ => nI 0) qo (fun _ => 0) (rstI N)) := hD.sub [0, 1, 2, 3, 4, 5, 6, 7, 8, 9, 10, 22, 11, 12, 13, 14, 15, 16, 17, 18, 19, 20, 21] (by decide) rfl
  exact law_loop (D := D) (g := g) (k := k) (L := N) (qo := qo) C0 hL htr hXp hK hNb.1 hNb.2 513 1 (22 + 1) (174686 + 1) (dskI N) (fun _ => nI 0) 0 (fun _ => nI 0) (fun _ => 0) (rstI N) (by decide) (by omega) (by decide) (by decide) (ivt_0 hNb.1 hNb.2) H locs ls hP hD hS (lv_sub hl [4, 3, 2, 1, 0] rfl)
