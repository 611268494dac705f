/-! ROWS FOR CONSTRUCTORS: arrays of a known class, objects, and a constructor's contract. -/
section GN
variable {p : Program} {l : Launch} {e : Env} {R : Room} {s : State} {m : MethodId} {args : Array Value} {below : List Frame} {meth : Method} {c : Code} {H : Heap} {locs : List Loc} {cells slots : Nat} {Q : State → Prop} {cc : ByteArray} {pc : Nat} {ls : Array Slot} {rest : List Value}
variable {D : va_G} {cl : List vw_C} {tys : List (ClassId × FieldType)} {ws wc wr : va_W} {A : Nat → Prop} {H0 : Heap}
theorem gz_cls {cA kc : ClassId} {ty : FieldType} (hp : ty = .int ∨ ty = .long ∨ ty = .boolean) (hK : va_K D cl tys s) (t0 : Nat) (ht : tys[t0]? = some (kc, ty)) (hK2 : va_K D cl (tys ++ [(cA, ty)]) s) : cA = kc := by
  have h1 := (hK.2 t0 _ ht).2
  have h2 := (hK2.2 tys.length (cA, ty) (by simp)).2
  rcases hp with rfl | rfl | rfl <;> exact Option.some.inj (Eq.trans (Eq.symm h2) h1)
theorem gz_newi (hx : p.tables.exec = Jvm.exec) (hb : c.code = cc) (hw : (Cond.arrayClass .int).before args s = true) (hK : va_K D cl tys s) (hP : va_P D cl ws H) (hD : va_D A ws) (hS : va_S A H0 H locs) (hA : ∀ q, H0.size ≤ q → A q) (t0 : Nat) {kc : ClassId} (ht : tys[t0]? = some (kc, .int)) {n : Nat} (hn : n ≤ 100000) (hc : cells + 1 ≤ R.cells) (hs : slots + n ≤ R.slots) (hd : decode cc pc = .ok (.newarray .int, 2))
    (kk : ∀ (q : Nat) (H1 : Heap), va_P D cl (ws ++ [(q, .inl (kc, n, .inl (fun _ => nI 0)))]) H1 → va_D A (ws ++ [(q, .inl (kc, n, .inl (fun _ => nI 0)))]) → va_S A H0 H1 locs → W p l e R s m args below meth c H1 locs (cells + 1) (slots + n) Q (F0 m (pc + 2) ls (.ref q :: rest))) : W p l e R s m args below meth c H locs cells slots Q (F0 m pc ls (.int (nI n) :: rest)) := by
  refine va_newa (a0 := (n, .inl (fun _ => nI 0))) hx hb (atype := .int) hw rfl hK hP hD hS hA (fun _ => rfl) (nI_pos (by omega)) (nI_clamp (by omega)) (by show n * 4 ≤ _; omega) hc hs hd (fun q cA H1 hK2 hP2 hD2 hS2 => ?_)
  have := gz_cls (Or.inl rfl) hK t0 ht hK2
  subst this
  exact kk q H1 hP2 hD2 hS2
theorem gz_newl (hx : p.tables.exec = Jvm.exec) (hb : c.code = cc) (hw : (Cond.arrayClass .long).before args s = true) (hK : va_K D cl tys s) (hP : va_P D cl ws H) (hD : va_D A ws) (hS : va_S A H0 H locs) (hA : ∀ q, H0.size ≤ q → A q) (t0 : Nat) {kc : ClassId} (ht : tys[t0]? = some (kc, .long)) {n : Nat} (hn : n ≤ 100000) (hc : cells + 1 ≤ R.cells) (hs : slots + n ≤ R.slots) (hd : decode cc pc = .ok (.newarray .long, 2))
    (kk : ∀ (q : Nat) (H1 : Heap), va_P D cl (ws ++ [(q, .inl (kc, n, .inr (.inl (fun _ => 0))))]) H1 → va_D A (ws ++ [(q, .inl (kc, n, .inr (.inl (fun _ => 0))))]) → va_S A H0 H1 locs → W p l e R s m args below meth c H1 locs (cells + 1) (slots + n) Q (F0 m (pc + 2) ls (.ref q :: rest))) : W p l e R s m args below meth c H locs cells slots Q (F0 m pc ls (.int (nI n) :: rest)) := by
  refine va_newa (a0 := (n, .inr (.inl (fun _ => 0)))) hx hb (atype := .long) hw rfl hK hP hD hS hA (fun _ => rfl) (nI_pos (by omega)) (nI_clamp (by omega)) (by show n * 8 ≤ _; omega) hc hs hd (fun q cA H1 hK2 hP2 hD2 hS2 => ?_)
  have := gz_cls (Or.inr (Or.inl rfl)) hK t0 ht hK2
  subst this
  exact kk q H1 hP2 hD2 hS2
theorem gz_newz (hx : p.tables.exec = Jvm.exec) (hb : c.code = cc) (hw : (Cond.arrayClass .boolean).before args s = true) (hK : va_K D cl tys s) (hP : va_P D cl ws H) (hD : va_D A ws) (hS : va_S A H0 H locs) (hA : ∀ q, H0.size ≤ q → A q) (t0 : Nat) {kc : ClassId} (ht : tys[t0]? = some (kc, .boolean)) {n : Nat} (hn : n ≤ 100000) (hc : cells + 1 ≤ R.cells) (hs : slots + n ≤ R.slots) (hd : decode cc pc = .ok (.newarray .boolean, 2))
    (kk : ∀ (q : Nat) (H1 : Heap), va_P D cl (ws ++ [(q, .inl (kc, n, .inl (fun _ => zI false)))]) H1 → va_D A (ws ++ [(q, .inl (kc, n, .inl (fun _ => zI false)))]) → va_S A H0 H1 locs → W p l e R s m args below meth c H1 locs (cells + 1) (slots + n) Q (F0 m (pc + 2) ls (.ref q :: rest))) : W p l e R s m args below meth c H locs cells slots Q (F0 m pc ls (.int (nI n) :: rest)) := by
  refine va_newa (a0 := (n, .inl (fun _ => zI false))) hx hb (atype := .boolean) hw rfl hK hP hD hS hA (fun _ => rfl) (nI_pos (by omega)) (nI_clamp (by omega)) (by show n * 1 ≤ _; omega) hc hs hd (fun q cA H1 hK2 hP2 hD2 hS2 => ?_)
  have := gz_cls (Or.inr (Or.inr rfl)) hK t0 ht hK2
  subst this
  exact kk q H1 hP2 hD2 hS2
end GN
/-- a constructor's contract: from the cells wc to the cells w1 of a number that it chooses -/
abbrev MuC (l : Launch) (y : MethodName) (ws1 : List Cond) (rm : Room) (av : List Value) (D : va_G) (cl : List vw_C) (tys : List (ClassId × FieldType)) (wc : va_W) {S : Type} (post : S → Prop) (w1 : S → va_W) (mc ms : Nat) : Prop := ∀ sz : Nat, Met l y ws1 rm (va_Pc av (MuP D cl tys wc sz)) (va_Qv post (fun u t => va_P D cl (w1 u) t.heap ∧ va_D (va_A wc sz) (w1 u)) (va_A wc sz)) mc ms (va_A wc sz)
theorem gz_ctor {p : Program} {l : Launch} {e : Env} {R : Room} {s : State} {m : MethodId} {args : Array Value} {below : List Frame} {meth : Method} {c : Code} {H : Heap} {locs : List Loc} {cells slots : Nat} {Q : State → Prop} {cc : ByteArray} {pc : Nat} {ls : Array Slot} {rest : List Value} {Ts ws1 : List Cond} {bytes : ByteArray} {nL maxL index n mc ms : Nat} {own : String} {y : MethodName} {rm : Room} {b : Addr} {As st0 : List Value} {D : va_G} {cl : List vw_C} {tys : List (ClassId × FieldType)} {ws wc wr : va_W} {A : Nat → Prop} {H0 : Heap} {S : Type} {post : S → Prop} {w1 : S → va_W}
    (S0 : CallFix p m c cc nL s args Ts own) (hM : MuC l y ws1 rm (.ref b :: As) D cl tys wc post w1 mc ms) (cw : CallB R s args own index y bytes maxL none ws1 rm mc ms n ∧ y.name = "<init>" ∧ (Cond.instanceMethod y).before args s = true)
    (hK : va_K D cl tys s) (hP : va_P D cl ws H) (hD : va_D A ws) (hA : ∀ q, H0.size ≤ q → A q) (isC isR : List Nat) (hs : isC.filterMap (fun i => ws[i]?) = wc) (hC : isC.map (fun i => ws[i]?) = wc.map some) (hnC : va_nd isC = true) (hR : isR.map (fun i => ws[i]?) = wr.map some) (hnR : va_nd isR = true) (hdis : ∀ i ∈ isR, i ∉ isC)
    (hn : As.length = n) (hsize : ls.size = nL) (hst : st0 = As.reverse ++ .ref b :: rest) (hW : (rest.map fun v => v.category).sum ≤ 8) (hdg : decode cc pc = .ok (.invokespecial index, 3)) (hf : cells + mc ≤ R.cells ∧ slots + ms ≤ R.slots) (hS : va_S A H0 H locs)
    (kk : ∀ (u : S) (H1 : Heap) (locs1 : List Loc), post u → va_P D cl (wr ++ w1 u) H1 → va_D A (wr ++ w1 u) → va_S A H0 H1 locs1 → W p l e R s m args below meth c H1 locs1 (cells + mc) (slots + ms) Q (F0 m (pc + 3) ls rest)) : W p l e R s m args below meth c H locs cells slots Q (F0 m pc ls st0) := by
  have hFc := va_free (wc := wc) hD hS hA isC hC
  have hDc := hD.sub (ws' := wc) isC hnC hC
  refine va_callv (va_runI S0 (hM H.size) cw ⟨gz_blM, fun U hU hW => ⟨rfl, by rw [hU], by rw [hU]; exact hP.sub isC hs, va_K.moved hW.alike hK, hDc.weaken (fun _ _ _ _ => trivial)⟩⟩ rfl hn hsize hst (lv_room hW) hdg hf) hS (fun q _ h => hFc q h) hFc (fun u t H1 locs1 ht hvm hw hB hz hk hS1 => ?_)
  obtain ⟨hP1, hD1⟩ := hB
  rw [ht] at hP1
  obtain ⟨hP2, hD2⟩ := va_join (wr := wr) (w1 := w1 u) hP hD isC isR hC hR hnR hdis hk hFc hP1 hD1
  exact kk u H1 locs1 hw hP2 hD2 hS1
/-- the number of blocks for an argument -/
def blN (x : Int32) : Nat := if x < nI 96 ∨ nI 768 < x then 96 else x.toNatClampNeg
theorem blN_of (x : Int32) : (x < nI 96 ∨ nI 768 < x) ∧ blN x = 96 ∨ ∃ n, 96 ≤ n ∧ n ≤ 768 ∧ x = nI n ∧ blN x = n := by
  by_cases h : x < nI 96 ∨ nI 768 < x
  · exact Or.inl ⟨h, by unfold blN; rw [if_pos h]⟩
  · right
    have h1 : ¬ x < nI 96 := fun z => h (Or.inl z)
    have h2 : ¬ nI 768 < x := fun z => h (Or.inr z)
    have h0 : ¬ x < 0 := fun z => h1 (Int32.lt_trans z (by decide))
    obtain ⟨n, hn, rfl⟩ := nI_of h0
    refine ⟨n, ?_, ?_, rfl, ?_⟩
    · rcases Nat.lt_or_ge n 96 with z | z
      · exact absurd (nI_lt z (by decide)) h1
      · exact z
    · rcases Nat.lt_or_ge 768 n with z | z
      · exact absurd (nI_lt z hn) h2
      · exact z
    · unfold blN; rw [if_neg h, nI_clamp hn]
theorem blN_b (x : Int32) : 96 ≤ blN x ∧ blN x ≤ 768 := by
  rcases blN_of x with ⟨-, h⟩ | ⟨n, h1, h2, -, h⟩ <;> omega
/-- the Disk at its beginning: nothing; the first n bits flipped -/
def dsk0 : DSt := (fun _ => 0, fun _ => 0, fun _ => 0, fun _ => false, fun _ => false, nI 0)
def dskF : Nat → DSt
  | 0 => dsk0
  | n + 1 => flp (dskF n) n
def dskI (L : Nat) : DSt := cmA L (stl L (setB L (dskF 59) (nI (1600 + 32 * 0)) (nI 2)))
/-- the reference at its beginning -/
def rstz : RSt := (nI 0, nI 0, 0, fun _ => 0, fun _ => 0, fun _ => 0, fun _ => 0, fun _ => 0, fun _ => 0, fun _ => 0, fun _ => 0, fun _ => 0, fun _ => 0)
def rstF : Nat → RSt
  | 0 => qNd rstz (va_up (rNd rstz) 0 2)
  | n + 1 => qOw (rstF n) (va_up (rOw (rstF n)) n 100)
def rstI (L : Nat) : RSt := cmR L (rstF 59)
theorem rstz_B : rB rstz := fun q => by
  have h : (0 : Nat) < 65536 := by decide
  exact ⟨h, h, h, h, h, h, h, h, h, h⟩
theorem rstF_nd : ∀ n, rNd (rstF n) = va_up (fun _ => 0) 0 2 := by
  intro n
  induction n with
  | zero => rfl
  | succ n ih => exact ih
theorem rstF_X (n : Nat) : ∀ i, i < 64 → rNd (rstF n) (20 * i + 2) ≤ 8 := by
  intro i _
  rw [rstF_nd, va_up_ne _ _ (by omega)]; exact Nat.zero_le _
theorem nI_ofclamp {x : Int32} (h : ¬ x < 0) : nI x.toNatClampNeg = x := by
  obtain ⟨n, hn, rfl⟩ := nI_of h
  rw [nI_clamp hn]
