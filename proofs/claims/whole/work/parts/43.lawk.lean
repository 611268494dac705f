/-! ROWS FOR THE LAW: its helpers' contracts, calls that are caught, calls of its helpers. -/
theorem gd_SW {own : String} {idx maxL : Nat} {y : MethodName} {bytes : ByteArray} {ret : Option FieldType} {hh : List (Nat × Nat × Nat × Nat)} (h1 : Cond.methodLink own idx y ∈ lw_tb) (h2 : Cond.static y ∈ lw_tb) (h4 : Cond.initialized own ∈ lw_tb) (h4' : Cond.initialized y.cls ∈ lw_tb) (h5 : Cond.codeWith y bytes maxL ret hh ∈ lw_tb) : GoodIn lw_tb (va_wsS own idx y (.codeWith y bytes maxL ret hh :: lw_tb)) := by
  refine tb_good (fun _ h => h) (fun w hw => ?_)
  simp only [va_wsS, List.cons_append, List.nil_append, List.mem_cons] at hw
  rcases hw with rfl | rfl | rfl | rfl | h
  · exact h1
  · exact h2
  · first | exact h4 | exact h4'
  · exact h5
  · exact h
def wX (g : Nat → Nat) (k : Nat → ClassId) (L : Nat) (u : DSt) (f0 : Nat → Int32) (tl : Nat) (tp : Nat → Int32) (qo : Nat) (fo : Nat → Int64) : va_W := wT g k L u f0 tl tp ++ [(qo, .inl (k 0, 1, .inr (.inl fo)))]
abbrev MhP (D : va_G) (cl : List vw_C) (tys : List (ClassId × FieldType)) (wc : va_W) (sz : Nat) : State → Prop := fun U => MuP D cl tys wc sz U ∧ xU U
abbrev MuH (l : Launch) (y : MethodName) (ws1 : List Cond) (rm : Room) (av : List Value) (D : va_G) (cl : List vw_C) (tys : List (ClassId × FieldType)) (wc w1 : va_W) (r : Int32) : Prop := ∀ sz : Nat, Met l y ws1 rm (va_Pc av (MhP D cl tys wc sz)) (va_Qi (fun r' _ => r' = r) (MuB D cl (va_A wc sz) w1) (va_A wc sz)) 1 6 (va_A wc sz)
theorem gz_blH {av : List Value} {D : va_G} {cl : List vw_C} {tys : List (ClassId × FieldType)} {wc : va_W} {sz : Nat} : FrameBlind (va_Pc av (MhP D cl tys wc sz)) := fun a U g mk q => ⟨q.1, ⟨q.2.1.1, q.2.1.2.1, va_K.moved (u := U) (U := U.calling g mk a) (Vm.Alike.refl U.vm) q.2.1.2.2.1, q.2.1.2.2.2⟩, xU.blind q.2.2⟩
section GH
variable {p : Program} {l : Launch} {e : Env} {R : Room} {s : State} {m : MethodId} {args : Array Value} {below : List Frame} {meth : Method} {c : Code} {H : Heap} {locs : List Loc} {cells slots : Nat} {Q : State → Prop} {cc : ByteArray} {pc : Nat} {ls : Array Slot} {rest : List Value}
variable {Ts ws1 : List Cond} {bytes : ByteArray} {nL maxL index n : Nat} {own C E : String} {y : MethodName} {ret : Option FieldType} {rm : Room} {b : Addr} {As st0 : List Value} {D : va_G} {cl : List vw_C} {tys : List (ClassId × FieldType)} {ws wc w1 wr : va_W} {A : Nat → Prop} {r : Int32} {hh : List (Nat × Nat × Nat × Nat)}
theorem gz_catch {name : String} {q9 : Addr} {ce : Cell} {E1 : String} (hX : xU s) (hown : s.vm.findClass own = some m.cls) (pre : List ExceptionTableEntry) (x : ExceptionTableEntry) (suf : List ExceptionTableEntry) (hsplit : c.exceptionTable.toList = pre ++ x :: suf)
    (hpass : ∀ z ∈ pre, covers z pc = false ∨ (z.catchType ≠ 0 ∧ ∃ nm : String, (Cond.classLink own z.catchType nm).before args s = true ∧ va_Nc E nm s)) (hcov : covers x pc = true) (h0 : x.catchType ≠ 0) (hlink : (Cond.classLink own x.catchType name).before args s = true) (hcast : Cond.castable E name ∈ xw)
    (hE : E1 = E) (hce : H[q9]? = some ce) (hcv : ce.vm = .none) (hcl : s.vm.findClass E1 = some ce.cls) (kk : W p l e R s m args below meth c H locs cells slots Q (F0 m x.handlerPc ls [.ref q9])) : vx_W p l e R s m args below meth c H locs cells slots Q (F0 m pc ls rest) q9 := by
  subst hE
  exact vx_catch hown pre x suf hsplit hpass hcov h0 hlink (va_tabs ((by decide +kernel : ∀ w ∈ xw, w.onTables = true) _ hcast) rfl (hX.2.2.1 _ hcast)) hce hcv hcl kk
/-- a virtual call that throws and is caught here -/
theorem gz_thVi (S : CallFix p m c cc nL s args Ts own) (hM : ThI l y ws1 rm (.ref b :: As) (ThP D cl tys wc) E) (cw : CallW R s args own C index y bytes maxL ret ws1 rm 1 6 n) (hX : xU s) (hK : va_K D cl tys s) (hP : va_P D cl ws s.heap) (is : List Nat) (hs : is.filterMap (fun i => ws[i]?) = wc) (q0 : Nat) {ci : Nat} {T : u_T} {N : Nat} {fs : List Value} (he : ws[q0]? = some (b, .inr (ci, fs))) (hc : cl[ci]? = some (C, T, N))
    (hn : As.length = n) (hsize : ls.size = nL) (hst : st0 = As.reverse ++ .ref b :: rest) (hW : (rest.map fun v => v.category).sum ≤ 8) (hdg : decode cc pc = .ok (.invokevirtual index, 3)) (hf : cells + 1 ≤ R.cells ∧ slots + 6 ≤ R.slots) (hS : va_S A s.heap s.heap locs)
    {name : String} (pre : List ExceptionTableEntry) (x : ExceptionTableEntry) (suf : List ExceptionTableEntry) (hsplit : c.exceptionTable.toList = pre ++ x :: suf)
    (hpass : ∀ z ∈ pre, covers z pc = false ∨ (z.catchType ≠ 0 ∧ ∃ nm : String, (Cond.classLink own z.catchType nm).before args s = true ∧ va_Nc E nm s)) (hcov : covers x pc = true) (h0 : x.catchType ≠ 0) (hlink : (Cond.classLink own x.catchType name).before args s = true) (hcast : Cond.castable E name ∈ xw)
    (kk : ∀ (q9 : Nat) (H1 : Heap) (locs1 : List Loc), va_P D cl ws H1 → va_S A s.heap H1 locs1 → W p l e R s m args below meth c H1 locs1 (cells + 1) (slots + 6) Q (F0 m x.handlerPc ls [.ref q9])) : W p l e R s m args below meth c s.heap locs cells slots Q (F0 m pc ls st0) := by
  have hown := S.2.2.2.1
  refine vx_calli (vx_runV S hM cw ⟨gz_blTh, va_recv hK hP hc he, fun U hU hW => ⟨rfl, ⟨by rw [hU]; exact hP.sub is hs, va_K.moved hW.alike hK⟩, xP.toU hU hW hX⟩⟩ rfl hn hsize hst (lv_room hW) hdg hf) hS (fun q _ h => h.elim) (fun q h => h.elim) (fun q _ h => h.elim) (fun E1 ce q9 u t H1 locs1 ht1 hal _ hE hz hk hS1 hce hcv hcl => ?_) (fun r u t H1 locs1 _ _ hp => absurd hp (fun z => z))
  exact gz_catch hX hown pre x suf hsplit hpass hcov h0 hlink hcast hE hce hcv hcl (kk q9 H1 locs1 (hP.kept (fun k q hq => hk q.1 ((hP k q hq).lt) (fun h => h))) hS1)
theorem gz_thVl (S : CallFix p m c cc nL s args Ts own) (hM : ThL l y ws1 rm (.ref b :: As) (ThP D cl tys wc) E) (cw : CallW R s args own C index y bytes maxL ret ws1 rm 1 6 n) (hX : xU s) (hK : va_K D cl tys s) (hP : va_P D cl ws s.heap) (is : List Nat) (hs : is.filterMap (fun i => ws[i]?) = wc) (q0 : Nat) {ci : Nat} {T : u_T} {N : Nat} {fs : List Value} (he : ws[q0]? = some (b, .inr (ci, fs))) (hc : cl[ci]? = some (C, T, N))
    (hn : As.length = n) (hsize : ls.size = nL) (hst : st0 = As.reverse ++ .ref b :: rest) (hW : (rest.map fun v => v.category).sum ≤ 8) (hdg : decode cc pc = .ok (.invokevirtual index, 3)) (hf : cells + 1 ≤ R.cells ∧ slots + 6 ≤ R.slots) (hS : va_S A s.heap s.heap locs)
    {name : String} (pre : List ExceptionTableEntry) (x : ExceptionTableEntry) (suf : List ExceptionTableEntry) (hsplit : c.exceptionTable.toList = pre ++ x :: suf)
    (hpass : ∀ z ∈ pre, covers z pc = false ∨ (z.catchType ≠ 0 ∧ ∃ nm : String, (Cond.classLink own z.catchType nm).before args s = true ∧ va_Nc E nm s)) (hcov : covers x pc = true) (h0 : x.catchType ≠ 0) (hlink : (Cond.classLink own x.catchType name).before args s = true) (hcast : Cond.castable E name ∈ xw)
    (kk : ∀ (q9 : Nat) (H1 : Heap) (locs1 : List Loc), va_P D cl ws H1 → va_S A s.heap H1 locs1 → W p l e R s m args below meth c H1 locs1 (cells + 1) (slots + 6) Q (F0 m x.handlerPc ls [.ref q9])) : W p l e R s m args below meth c s.heap locs cells slots Q (F0 m pc ls st0) := by
  have hown := S.2.2.2.1
  refine vx_calll (vx_runV S hM cw ⟨gz_blTh, va_recv hK hP hc he, fun U hU hW => ⟨rfl, ⟨by rw [hU]; exact hP.sub is hs, va_K.moved hW.alike hK⟩, xP.toU hU hW hX⟩⟩ rfl hn hsize hst (lv_room hW) hdg hf) hS (fun q _ h => h.elim) (fun q h => h.elim) (fun q _ h => h.elim) (fun E1 ce q9 u t H1 locs1 ht1 hal _ hE hz hk hS1 hce hcv hcl => ?_) (fun r u t H1 locs1 _ _ hp => absurd hp (fun z => z))
  exact gz_catch hX hown pre x suf hsplit hpass hcov h0 hlink hcast hE hce hcv hcl (kk q9 H1 locs1 (hP.kept (fun k q hq => hk q.1 ((hP k q hq).lt) (fun h => h))) hS1)
/-- a virtual call that changes nothing and answers a long -/
theorem gz_roVl {r : Int64} {H0 : Heap} (S : CallFix p m c cc nL s args Ts own) (hM : RoL l y ws1 rm (.ref b :: As) (RoP D cl tys wc) r) (cw : CallW R s args own C index y bytes maxL ret ws1 rm 0 0 n)
    (hK : va_K D cl tys s) (hP : va_P D cl ws H) (is : List Nat) (hs : is.filterMap (fun i => ws[i]?) = wc) (q0 : Nat) {ci : Nat} {T : u_T} {N : Nat} {fs : List Value} (he : ws[q0]? = some (b, .inr (ci, fs))) (hc : cl[ci]? = some (C, T, N))
    (hn : As.length = n) (hsize : ls.size = nL) (hst : st0 = As.reverse ++ .ref b :: rest) (hW : (rest.map fun v => v.category).sum ≤ 8) (hdg : decode cc pc = .ok (.invokevirtual index, 3)) (hf : cells ≤ R.cells ∧ slots ≤ R.slots) (hS : va_S A H0 H locs)
    (kk : ∀ (H1 : Heap) (locs1 : List Loc), va_P D cl ws H1 → va_S A H0 H1 locs1 → W p l e R s m args below meth c H1 locs1 cells slots Q (F0 m (pc + 3) ls (.long r :: rest))) : W p l e R s m args below meth c H locs cells slots Q (F0 m pc ls st0) := by
  refine va_calll (va_runV S hM cw ⟨gz_blR, va_recv hK hP hc he, fun U hU hW => ⟨rfl, by rw [hU]; exact hP.sub is hs, va_K.moved hW.alike hK⟩⟩ rfl hn hsize hst (lv_room hW) hdg hf) hS (fun q _ h => h.elim) (fun q h => h.elim) (fun r u t H1 locs1 ht hvm hw _ hz hk hS1 => ?_)
  subst hw
  exact kk H1 locs1 (hP.kept (fun k q hq => hk q.1 ((hP k q hq).lt) (fun h => h))) hS1
/-- a virtual call that takes the cells wc to w1 and answers a long -/
theorem gz_muL {r : Int64} {H0 : Heap} (S : CallFix p m c cc nL s args Ts own) (hM : MuL l y ws1 rm (.ref b :: As) D cl tys wc w1 r) (cw : CallW R s args own C index y bytes maxL ret ws1 rm 0 0 n)
    (hK : va_K D cl tys s) (hP : va_P D cl ws H) (hD : va_D A ws) (hA : ∀ q, H0.size ≤ q → A q) (isC isR : List Nat) (hs : isC.filterMap (fun i => ws[i]?) = wc) (hC : isC.map (fun i => ws[i]?) = wc.map some) (hnC : va_nd isC = true) (hR : isR.map (fun i => ws[i]?) = wr.map some) (hnR : va_nd isR = true) (hdis : ∀ i ∈ isR, i ∉ isC)
    (q0 : Nat) {ci : Nat} {T : u_T} {N : Nat} {fs : List Value} (he : ws[q0]? = some (b, .inr (ci, fs))) (hc : cl[ci]? = some (C, T, N))
    (hn : As.length = n) (hsize : ls.size = nL) (hst : st0 = As.reverse ++ .ref b :: rest) (hW : (rest.map fun v => v.category).sum ≤ 8) (hdg : decode cc pc = .ok (.invokevirtual index, 3)) (hf : cells ≤ R.cells ∧ slots ≤ R.slots) (hS : va_S A H0 H locs)
    (kk : ∀ (H1 : Heap) (locs1 : List Loc), va_P D cl (wr ++ w1) H1 → va_D A (wr ++ w1) → va_S A H0 H1 locs1 → W p l e R s m args below meth c H1 locs1 cells slots Q (F0 m (pc + 3) ls (.long r :: rest))) : W p l e R s m args below meth c H locs cells slots Q (F0 m pc ls st0) := by
  have hFc := va_free (wc := wc) hD hS hA isC hC
  have hDc := hD.sub (ws' := wc) isC hnC hC
  refine va_calll (va_runV S (hM H.size) cw ⟨gz_blM, va_recv hK hP hc he, fun U hU hW => ⟨rfl, by rw [hU], by rw [hU]; exact hP.sub isC hs, va_K.moved hW.alike hK, hDc.weaken (fun _ _ _ _ => trivial)⟩⟩ rfl hn hsize hst (lv_room hW) hdg hf) hS (fun q _ h => hFc q h) hFc (fun r u t H1 locs1 ht hvm hw hB hz hk hS1 => ?_)
  subst hw
  obtain ⟨hP1, hD1⟩ := hB
  rw [ht] at hP1
  obtain ⟨hP2, hD2⟩ := va_join (wr := wr) (w1 := w1) hP hD isC isR hC hR hnR hdis hk hFc hP1 hD1
  exact kk H1 locs1 hP2 hD2 hS1
/-- the law calls a helper -/
theorem gz_hI (S : CallFix p m c cc nL s args Ts own) (hM : MuH l y ws1 rm As D cl tys wc w1 r) (cw : vx_CSW R s args own index y bytes maxL ret hh ws1 rm 1 6 n) (hX : xP A s s.heap)
    (hK : va_K D cl tys s) (hP : va_P D cl ws H) (hD : va_D A ws) (hA : ∀ q, s.heap.size ≤ q → A q) (isC isR : List Nat) (hs : isC.filterMap (fun i => ws[i]?) = wc) (hC : isC.map (fun i => ws[i]?) = wc.map some) (hnC : va_nd isC = true) (hR : isR.map (fun i => ws[i]?) = wr.map some) (hnR : va_nd isR = true) (hdis : ∀ i ∈ isR, i ∉ isC)
    (hn : As.length = n) (hsize : ls.size = nL) (hst : st0 = As.reverse ++ rest) (hW : (rest.map fun v => v.category).sum ≤ 8) (hdg : decode cc pc = .ok (.invokestatic index, 3)) (hf : cells + 1 ≤ R.cells ∧ slots + 6 ≤ R.slots) (hS : va_S A s.heap H locs)
    (kk : ∀ (H1 : Heap) (locs1 : List Loc), va_P D cl (wr ++ w1) H1 → va_D A (wr ++ w1) → va_S A s.heap H1 locs1 → W p l e R s m args below meth c H1 locs1 (cells + 1) (slots + 6) Q (F0 m (pc + 3) ls (.int r :: rest))) : W p l e R s m args below meth c H locs cells slots Q (F0 m pc ls st0) := by
  have hFc := va_free (wc := wc) hD hS hA isC hC
  have hDc := hD.sub (ws' := wc) isC hnC hC
  refine va_calli (vx_runSW S (hM H.size) cw ⟨gz_blH, fun U hU hW => ⟨rfl, ⟨by rw [hU], by rw [hU]; exact hP.sub isC hs, va_K.moved hW.alike hK, hDc.weaken (fun _ _ _ _ => trivial)⟩, xP.toU hU hW (hX.kept hS.2.1)⟩⟩ rfl hn hsize hst (lv_room hW) hdg hf) hS (fun q _ h => hFc q h) hFc (fun r u t H1 locs1 ht hvm hw hB hz hk hS1 => ?_)
  subst hw
  obtain ⟨hP1, hD1⟩ := hB
  rw [ht] at hP1
  obtain ⟨hP2, hD2⟩ := va_join (wr := wr) (w1 := w1) hP hD isC isR hC hR hnR hdis hk hFc hP1 hD1
  exact kk H1 locs1 hP2 hD2 hS1
end GH
