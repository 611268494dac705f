/-! THROWS: what a method needs to throw, what it says when it has thrown, rows for both. -/
abbrev IAE : String := "java/lang/IllegalArgumentException"
abbrev ISE : String := "java/lang/IllegalStateException"
abbrev NSE : String := "java/util/NoSuchElementException"
abbrev xnm : List String := ["java/lang/RuntimeException", "java/lang/Exception"]
/-- words of the tables that aren't among lw_tb -/
def xw : List Cond := [.declares ⟨"java/lang/RuntimeException", "<init>", "(Ljava/lang/String;)V"⟩, .declares ⟨"java/lang/Exception", "<init>", "(Ljava/lang/String;)V"⟩, .declares ⟨"java/lang/Throwable", "<init>", "(Ljava/lang/String;)V"⟩, .castable IAE IAE, .castable ISE ISE, .castable NSE NSE]
/-- the texts -/
def xst : List (Nat × String) := [(56, "n is not 1 .. 8"), (63, "the tape would have more than 512 bytes"), (188, "an inode is not 0 .. 63"), (191, "a name is not 1 .. 65535"), (117, "there is no byte there"), (150, "there is no such extent or what"), (164, "there is no such block or byte"), (172, "there is no such changed block"), (186, "there is no such what")]
theorem xw_tbl : ∀ w ∈ xw, w ∈ lw_tbl := by decide +kernel
def xWd (U : State) : Prop := ∀ w ∈ xw, w.before #[] U = true
theorem xWd.warm {s U : State} (hW : s.WarmedH U.vm) (h : xWd s) : xWd U := by
  intro w hw
  have h1 := h w hw
  simp only [xw, List.mem_cons, List.not_mem_nil, or_false] at hw
  rcases hw with rfl | rfl | rfl | rfl | rfl | rfl
  · exact va_tabs rfl (u := s.setVm U.vm) rfl (by rw [Cond.declares_setVm hW.alike]; exact h1)
  · exact va_tabs rfl (u := s.setVm U.vm) rfl (by rw [Cond.declares_setVm hW.alike]; exact h1)
  · exact va_tabs rfl (u := s.setVm U.vm) rfl (by rw [Cond.declares_setVm hW.alike]; exact h1)
  · exact va_tabs rfl (u := s.setVm U.vm) rfl (by rw [Cond.castable_setVm hW.alike]; exact h1)
  · exact va_tabs rfl (u := s.setVm U.vm) rfl (by rw [Cond.castable_setVm hW.alike]; exact h1)
  · exact va_tabs rfl (u := s.setVm U.vm) rfl (by rw [Cond.castable_setVm hW.alike]; exact h1)
theorem xNc.moved {C T : String} {u U : State} (hvm : u.vm.Alike U.vm) (h : va_Nc C T u) : va_Nc C T U := by
  obtain ⟨c, t, h1, h2, h3⟩ := h
  exact ⟨c, t, by rw [hvm.findClass]; exact h1, by rw [hvm.findClass]; exact h2, by rw [hvm.assignable]; exact h3⟩
/-- what a method needs of the world to throw -/
def xP (A : Nat → Prop) (U : State) (H : Heap) : Prop := vx_Zq Bundle.tN "UNASSIGNED_STACK" Bundle.steD A U H ∧ vx_Zq Bundle.tN "SUPPRESSED_SENTINEL" Bundle.listD A U H ∧ xWd U ∧ va_Nc ISE IAE U ∧ va_Nc NSE IAE U ∧ ∀ q ∈ xst, ∃ sa, vk_R "TreeFiles" q.1 q.2 sa U
theorem xP.warm {A : Nat → Prop} {s U : State} {H : Heap} (hW : s.WarmedH U.vm) (h : xP A s H) : xP A U H := ⟨h.1.moved hW.alike, h.2.1.moved hW.alike, h.2.2.1.warm hW, xNc.moved hW.alike h.2.2.2.1, xNc.moved hW.alike h.2.2.2.2.1, fun q hq => by
  obtain ⟨sa, h1⟩ := h.2.2.2.2.2 q hq
  exact ⟨sa, h1.warm hW⟩⟩
theorem xP.kept {A : Nat → Prop} {U : State} {H H1 : Heap} (h : xP A U H) (hq : ∀ a : Nat, a < H.size → ¬ A a → H1[a]? = H[a]?) : xP A U H1 := ⟨h.1.kept hq, h.2.1.kept hq, h.2.2⟩
theorem xP.narrow {A B : Nat → Prop} {U : State} {H : Heap} (h : xP A U H) (hAB : ∀ q, B q → A q) : xP B U H := ⟨h.1.narrow hAB, h.2.1.narrow hAB, h.2.2⟩
abbrev xU (U : State) : Prop := xP (fun _ => False) U U.heap
theorem xU.blind {U : State} {g : JFrame} {mk : MethodId} {a : Array Value} (h : xU U) : xU (U.calling g mk a) := xP.warm (s := U) (U := U.calling g mk a) (State.WarmedH.refl U) h
theorem xP.toU {A : Nat → Prop} {s U : State} {H : Heap} (hU : U.heap = H) (hW : s.WarmedH U.vm) (h : xP A s H) : xU U := by
  have h1 := (xP.warm hW h).narrow (B := fun _ => False) (fun _ z => z.elim)
  rw [← hU] at h1; exact h1
/-- thrown E, and nothing that was there has changed -/
abbrev xE (E : String) : String → State → State → Prop := vx_X (fun _ : Unit => True) (fun E' _ _ => E' = E) (fun _ => False)
abbrev ThV (l : Launch) (y : MethodName) (ws1 : List Cond) (rm : Room) (av : List Value) (P : State → Prop) (E : String) : Prop := vx_Met l y ws1 rm (va_Pc av P) (va_Qv (fun _ : Unit => False) (fun _ _ => True) (fun _ => False)) (xE E) 1 6 (fun _ => False)
abbrev ThI (l : Launch) (y : MethodName) (ws1 : List Cond) (rm : Room) (av : List Value) (P : State → Prop) (E : String) : Prop := vx_Met l y ws1 rm (va_Pc av P) (va_Qi (fun _ (_ : Unit) => False) (fun _ _ => True) (fun _ => False)) (xE E) 1 6 (fun _ => False)
abbrev ThL (l : Launch) (y : MethodName) (ws1 : List Cond) (rm : Room) (av : List Value) (P : State → Prop) (E : String) : Prop := vx_Met l y ws1 rm (va_Pc av P) (va_Ql (fun _ (_ : Unit) => False) (fun _ _ => True) (fun _ => False)) (xE E) 1 6 (fun _ => False)
abbrev ThP (D : va_G) (cl : List vw_C) (tys : List (ClassId × FieldType)) (wc : va_W) : State → Prop := fun U => RoP D cl tys wc U ∧ xU U
theorem gz_blX {av : List Value} : FrameBlind (va_Pc av xU) := fun _ _ _ _ q => ⟨q.1, xU.blind q.2⟩
theorem gz_blTh {av : List Value} {D : va_G} {cl : List vw_C} {tys : List (ClassId × FieldType)} {wc : va_W} : FrameBlind (va_Pc av (ThP D cl tys wc)) := fun a U g mk q => ⟨q.1, ⟨q.2.1.1, va_K.moved (u := U) (U := U.calling g mk a) (Vm.Alike.refl U.vm) q.2.1.2⟩, xU.blind q.2.2⟩
-- the words of the three throws
theorem xg1 : ∀ w ∈ (vx_atS "TreeFiles" 58 IAE xnm).filter goodWord, w ∈ lw_tbl := by decide +kernel
theorem xg2 : ∀ w ∈ (vx_atS "TreeFiles" 65 ISE xnm).filter goodWord, w ∈ lw_tbl := by decide +kernel
theorem xg3 : ∀ w ∈ (xx_at "TreeFiles" 119 NSE 13 prog_15_method_4_code xnm).filter goodWord, w ∈ lw_tbl := by decide +kernel
theorem xb1 : ∀ w ∈ (vx_atS "TreeFiles" 58 IAE xnm).filter (fun w => !goodWord w), w ∈ xw := by decide +kernel
theorem xb2 : ∀ w ∈ (vx_atS "TreeFiles" 65 ISE xnm).filter (fun w => !goodWord w), w ∈ xw := by decide +kernel
theorem xb3 : ∀ w ∈ (xx_at "TreeFiles" 119 NSE 13 prog_15_method_4_code xnm).filter (fun w => !goodWord w), w ∈ xw := by decide +kernel
theorem xo1 : ∀ w ∈ Cond.classLink "TreeFiles" 54 IAE :: Cond.initialized IAE :: vx_atS "TreeFiles" 58 IAE xnm, vx_ot w = true := by decide +kernel
theorem xo2 : ∀ w ∈ Cond.classLink "TreeFiles" 61 ISE :: Cond.initialized ISE :: vx_atS "TreeFiles" 65 ISE xnm, vx_ot w = true := by decide +kernel
theorem xo3 : ∀ w ∈ Cond.classLink "TreeFiles" 115 NSE :: Cond.initialized NSE :: xx_at "TreeFiles" 119 NSE 13 prog_15_method_4_code xnm, vx_ot w = true := by decide +kernel
theorem xl1 : Cond.classLink "TreeFiles" 54 IAE ∈ lw_tb ∧ Cond.initialized IAE ∈ lw_tb := ⟨tb_in (by decide +kernel) (by decide +kernel), tb_in (by decide +kernel) (by decide +kernel)⟩
theorem xl2 : Cond.classLink "TreeFiles" 61 ISE ∈ lw_tb ∧ Cond.initialized ISE ∈ lw_tb := ⟨tb_in (by decide +kernel) (by decide +kernel), tb_in (by decide +kernel) (by decide +kernel)⟩
theorem xl3 : Cond.classLink "TreeFiles" 115 NSE ∈ lw_tb ∧ Cond.initialized NSE ∈ lw_tb := ⟨tb_in (by decide +kernel) (by decide +kernel), tb_in (by decide +kernel) (by decide +kernel)⟩
section GX
variable {p : Program} {l : Launch} {e : Env} {R : Room} {s : State} {m : MethodId} {args : Array Value} {below : List Frame} {meth : Method} {c : Code} {H : Heap} {locs : List Loc} {cells slots : Nat} {Q : State → Prop} {cc : ByteArray} {pc : Nat} {ls : Array Slot} {rest : List Value} {Qc : Array Value → State → Outcome → State → Prop}
theorem gz_throw (hx : p.tables.exec = Jvm.exec) (hb : c.code = cc) (htr : l.stackTraces = false) {cls text : String} {ik is ic : Nat} (hown : s.vm.findClass "TreeFiles" = some m.cls) (hX : xU s) (hTB : ∀ w ∈ lw_tb, w.before args s = true)
    (hfit : Bundle.fit cls = true) (hg : ∀ w ∈ (vx_atS "TreeFiles" ic cls xnm).filter goodWord, w ∈ lw_tbl) (hbd : ∀ w ∈ (vx_atS "TreeFiles" ic cls xnm).filter (fun w => !goodWord w), w ∈ xw) (ho : ∀ w ∈ Cond.classLink "TreeFiles" ik cls :: Cond.initialized cls :: vx_atS "TreeFiles" ic cls xnm, vx_ot w = true) (hl2 : Cond.classLink "TreeFiles" ik cls ∈ lw_tb ∧ Cond.initialized cls ∈ lw_tb)
    (hstr : (is, text) ∈ xst) (ht : ∀ x ∈ c.exceptionTable.toList, False) (hlocks : meth.locks = false) (hsize : ls.size = c.maxLocals) (hS : va_S (fun _ => False) s.heap H locs) (hcat : (rest.map fun v => v.category).sum ≤ 8)
    (d0 : decode cc pc = .ok (.new ik, 3)) (d3 : decode cc (pc + 3) = .ok (.dup, 1)) (d4 : decode cc (pc + 4) = .ok (.ldc is, 2)) (d6 : decode cc (pc + 6) = .ok (.invokespecial ic, 3)) (d9 : decode cc (pc + 9) = .ok (.athrow, 1))
    (hRf : 6 ≤ R.frames) (hRl : 90 ≤ R.locals) (hRc : cells + 1 ≤ R.cells) (hRs : slots + 6 ≤ R.slots) (hc : cells + 1 ≤ 1) (hs : slots + 6 ≤ 6) :
    W p l e R s m args below meth c H locs cells slots (vx_MQ below Qc (xE cls) args s 1 6 (fun _ => False)) (F0 m pc ls rest) := by
  have hx9 : ∀ w ∈ xw, w.before args s = true := fun w hw => va_tabs ((by decide +kernel : ∀ w ∈ xw, w.onTables = true) w hw) rfl (hX.2.2.1 w hw)
  have hat : ∀ w ∈ vx_atS "TreeFiles" ic cls xnm, w.before args s = true := vx_hat (fun w hw => hTB w (tb_in (hg w hw) (List.mem_filter.mp hw).2)) hbd hx9
  obtain ⟨sa, he⟩ := hX.2.2.2.2.2 _ hstr
  exact vx_throwS hx hb htr (names := xnm) (sa := sa) (A := fun _ => False) hown hfit (by decide +kernel) (hTB _ hl2.1) (hTB _ hl2.2) he hat ho hX.1 hX.2.1 hS hsize d0 d3 d4 d6 d9 (fun x h => (ht x h).elim) (by show 5 < _; omega) (by show _ + 82 ≤ _; omega) hRc hRs hlocks
    (fun t _ h1 h2 => ⟨(), trivial, rfl, Nat.le_trans hS.1 h1, fun q hq _ => by rw [h2 q (Nat.lt_of_lt_of_le hq hS.1)]; exact hS.2.1 q hq (fun z => z)⟩) (fun z hz => hS.2.2 z hz) hc hs
theorem gz_throwN (hx : p.tables.exec = Jvm.exec) (hb : c.code = cc) (htr : l.stackTraces = false) {text : String} {is : Nat} (hown : s.vm.findClass "TreeFiles" = some m.cls) (hX : xU s) (hTB : ∀ w ∈ lw_tb, w.before args s = true)
    (hstr : (is, text) ∈ xst) (ht : ∀ x ∈ c.exceptionTable.toList, False) (hlocks : meth.locks = false) (hsize : ls.size = c.maxLocals) (hS : va_S (fun _ => False) s.heap H locs) (hcat : (rest.map fun v => v.category).sum ≤ 8)
    (d0 : decode cc pc = .ok (.new 115, 3)) (d3 : decode cc (pc + 3) = .ok (.dup, 1)) (d4 : decode cc (pc + 4) = .ok (.ldc is, 2)) (d6 : decode cc (pc + 6) = .ok (.invokespecial 119, 3)) (d9 : decode cc (pc + 9) = .ok (.athrow, 1))
    (hRf : 6 ≤ R.frames) (hRl : 90 ≤ R.locals) (hRc : cells + 1 ≤ R.cells) (hRs : slots + 6 ≤ R.slots) (hc : cells + 1 ≤ 1) (hs : slots + 6 ≤ 6) :
    W p l e R s m args below meth c H locs cells slots (vx_MQ below Qc (xE NSE) args s 1 6 (fun _ => False)) (F0 m pc ls rest) := by
  have hx9 : ∀ w ∈ xw, w.before args s = true := fun w hw => va_tabs ((by decide +kernel : ∀ w ∈ xw, w.onTables = true) w hw) rfl (hX.2.2.1 w hw)
  have hat : ∀ w ∈ xx_at "TreeFiles" 119 NSE 13 prog_15_method_4_code xnm, w.before args s = true := vx_hat (fun w hw => hTB w (tb_in (xg3 w hw) (List.mem_filter.mp hw).2)) xb3 hx9
  obtain ⟨sa, he⟩ := hX.2.2.2.2.2 _ hstr
  exact xx_throwSX hx hb htr (ix := 13) (rx := prog_15_method_4_code) (by decide +kernel) (by decide +kernel) (by decide +kernel) (by decide +kernel) (names := xnm) (sa := sa) (A := fun _ => False) hown (by decide +kernel) (by decide +kernel) (hTB _ xl3.1) (hTB _ xl3.2) he hat xo3 hX.1 hX.2.1 hS hsize d0 d3 d4 d6 d9 (fun x h => (ht x h).elim) (by show 5 < _; omega) (by show _ + 82 ≤ _; omega) hRc hRs hlocks
    (fun t _ h1 h2 => ⟨(), trivial, rfl, Nat.le_trans hS.1 h1, fun q hq _ => by rw [h2 q (Nat.lt_of_lt_of_le hq hS.1)]; exact hS.2.1 q hq (fun z => z)⟩) (fun z hz => hS.2.2 z hz) hc hs
end GX
section GY
variable {p : Program} {l : Launch} {e : Env} {R : Room} {s : State} {m : MethodId} {args : Array Value} {below : List Frame} {meth : Method} {c : Code} {H : Heap} {locs : List Loc} {cells slots : Nat} {Q : State → Prop} {cc : ByteArray} {pc : Nat} {ls : Array Slot} {rest : List Value} {Qc : Array Value → State → Outcome → State → Prop}
variable {Ts ws1 : List Cond} {bytes : ByteArray} {nL maxL index n : Nat} {own C E : String} {y : MethodName} {ret : Option FieldType} {rm : Room} {As st0 : List Value}
/-- a static call that throws: the caller throws on -/
theorem gz_thSv (S : CallFix p m c cc nL s args Ts own) (hM : ThV l y ws1 rm As xU E) (cw : CallB R s args own index y bytes maxL ret ws1 rm 1 6 n ∧ (Cond.static y).before args s = true) (hX : xU s) (hS : va_S (fun _ => False) s.heap H locs) (ht : ∀ x ∈ c.exceptionTable.toList, False) (hlocks : meth.locks = false)
    (hn : As.length = n) (hsize : ls.size = nL) (hst : st0 = As.reverse ++ rest) (hW : (rest.map fun v => v.category).sum ≤ 8) (hdg : decode cc pc = .ok (.invokestatic index, 3)) (hf : cells + 1 ≤ R.cells ∧ slots + 6 ≤ R.slots) (hc : cells + 1 ≤ 1) (hs : slots + 6 ≤ 6) :
    W p l e R s m args below meth c H locs cells slots (vx_MQ below Qc (xE E) args s 1 6 (fun _ => False)) (F0 m pc ls st0) := by
  refine vx_callv (vx_runS S hM cw ⟨gz_blX, fun U hU hW => ⟨rfl, xP.toU hU hW (hX.kept hS.2.1)⟩⟩ rfl hn hsize hst (lv_room hW) hdg hf) hS (fun q _ h => h) (fun q h => h) (fun q _ h => h) (fun E1 ce q9 u t H1 locs1 ht1 hal _ hE hz hk hS1 hce hcv hcl => ?_) (fun u t H1 locs1 _ _ hp => absurd hp (fun z => z))
  have hE : E1 = E := hE
  subst hE
  exact vx_out (fun x h => (ht x h).elim) hlocks hce hcv hcl (fun t ht _ => ⟨(), trivial, rfl, hS1.F ht⟩) (fun z hz => hS1.2.2 z hz) hc hs
end GY
/-- a method with a table of its own that always returns -/
theorem xx_ofWH {l : Launch} {y : MethodName} {ws ws' : List Cond} {rm : Room} {Pc : Array Value → State → Prop} {Qc : Array Value → State → Outcome → State → Prop} {mc ms : Nat} {free : Addr → Prop} {cc : ByteArray} {maxL : Nat} {ret : Option FieldType} {hh : List (Nat × Nat × Nat × Nat)}
    (hy : plainName y.cls = true) (hw : ws = Cond.codeWith y cc maxL ret hh :: ws')
    (body : ∀ p e s m args below meth c s₁, BodyLoose p l y (headSpec ws rm) cc maxL ret e s m args below meth c s₁ → c.maxLocals = maxL → Pc args s →
      W p l e (headSpec ws rm).room s m args below meth c s.heap [] 0 0 (MQ below Qc args s mc ms free) (entryFrame m args maxL)) : Met l y ws rm Pc Qc mc ms free := by
  refine MetFree.of_bodyS (code := cc) (maxLocals := maxL) (ret := ret) hy ?_ ?_
  · intro args s m h hn
    obtain ⟨m9, meth, c, hn9, h1, h2, h3, h4, -, h5, h6, -⟩ := Cond.codeWith_spec (atoms_spec (ws := ws) h _ (by rw [hw]; exact List.mem_cons_self))
    cases hn.symm.trans hn9
    exact ⟨meth, c, h1, h2, h3, h4, h5, h6⟩
  · intro p e s m args below meth c s₁ B hml hP _
    have hh0 : s₁.heap = s.heap := by rw [B.state]; rfl
    obtain ⟨t, a1, o, b1, b2, b3, b4⟩ := body p e s m args below meth c s₁ B hml hP s₁ hh0 (Stand.of_body B)
    exact ⟨t, o, a1, b1, b2, b3, b4⟩
