/-! THE REFERENCE's STATE, as a value: thrown, commits, taped; tape, node, owner, now; keptNode, keptOwner, done; asideNode, asideOwner, asideNow. -/
abbrev RSt : Type := Int32 × Int32 × Nat × (Nat → Nat) × (Nat → Nat) × (Nat → Nat) × (Nat → Nat) × (Nat → Nat) × (Nat → Nat) × (Nat → Nat) × (Nat → Nat) × (Nat → Nat) × (Nat → Nat)
abbrev rTh (r : RSt) : Int32 := r.1
abbrev rCm (r : RSt) : Int32 := r.2.1
abbrev rTl (r : RSt) : Nat := r.2.2.1
abbrev rTp (r : RSt) : Nat → Nat := r.2.2.2.1
abbrev rNd (r : RSt) : Nat → Nat := r.2.2.2.2.1
abbrev rOw (r : RSt) : Nat → Nat := r.2.2.2.2.2.1
abbrev rNw (r : RSt) : Nat → Nat := r.2.2.2.2.2.2.1
abbrev rKn (r : RSt) : Nat → Nat := r.2.2.2.2.2.2.2.1
abbrev rKo (r : RSt) : Nat → Nat := r.2.2.2.2.2.2.2.2.1
abbrev rDn (r : RSt) : Nat → Nat := r.2.2.2.2.2.2.2.2.2.1
abbrev rAn (r : RSt) : Nat → Nat := r.2.2.2.2.2.2.2.2.2.2.1
abbrev rAo (r : RSt) : Nat → Nat := r.2.2.2.2.2.2.2.2.2.2.2.1
abbrev rAw (r : RSt) : Nat → Nat := r.2.2.2.2.2.2.2.2.2.2.2.2
abbrev qTh (r : RSt) (x : Int32) : RSt := (x, r.2)
abbrev qCm (r : RSt) (x : Int32) : RSt := (r.1, x, r.2.2)
abbrev qTl (r : RSt) (x : Nat) : RSt := (r.1, r.2.1, x, r.2.2.2)
abbrev qTp (r : RSt) (f : Nat → Nat) : RSt := (r.1, r.2.1, r.2.2.1, f, r.2.2.2.2)
abbrev qNd (r : RSt) (f : Nat → Nat) : RSt := (r.1, r.2.1, r.2.2.1, r.2.2.2.1, f, r.2.2.2.2.2)
abbrev qOw (r : RSt) (f : Nat → Nat) : RSt := (r.1, r.2.1, r.2.2.1, r.2.2.2.1, r.2.2.2.2.1, f, r.2.2.2.2.2.2)
abbrev qNw (r : RSt) (f : Nat → Nat) : RSt := (r.1, r.2.1, r.2.2.1, r.2.2.2.1, r.2.2.2.2.1, r.2.2.2.2.2.1, f, r.2.2.2.2.2.2.2)
abbrev qKn (r : RSt) (f : Nat → Nat) : RSt := (r.1, r.2.1, r.2.2.1, r.2.2.2.1, r.2.2.2.2.1, r.2.2.2.2.2.1, r.2.2.2.2.2.2.1, f, r.2.2.2.2.2.2.2.2)
abbrev qKo (r : RSt) (f : Nat → Nat) : RSt := (r.1, r.2.1, r.2.2.1, r.2.2.2.1, r.2.2.2.2.1, r.2.2.2.2.2.1, r.2.2.2.2.2.2.1, r.2.2.2.2.2.2.2.1, f, r.2.2.2.2.2.2.2.2.2)
abbrev qDn (r : RSt) (f : Nat → Nat) : RSt := (r.1, r.2.1, r.2.2.1, r.2.2.2.1, r.2.2.2.2.1, r.2.2.2.2.2.1, r.2.2.2.2.2.2.1, r.2.2.2.2.2.2.2.1, r.2.2.2.2.2.2.2.2.1, f, r.2.2.2.2.2.2.2.2.2.2)
abbrev qAn (r : RSt) (f : Nat → Nat) : RSt := (r.1, r.2.1, r.2.2.1, r.2.2.2.1, r.2.2.2.2.1, r.2.2.2.2.2.1, r.2.2.2.2.2.2.1, r.2.2.2.2.2.2.2.1, r.2.2.2.2.2.2.2.2.1, r.2.2.2.2.2.2.2.2.2.1, f, r.2.2.2.2.2.2.2.2.2.2.2)
abbrev qAo (r : RSt) (f : Nat → Nat) : RSt := (r.1, r.2.1, r.2.2.1, r.2.2.2.1, r.2.2.2.2.1, r.2.2.2.2.2.1, r.2.2.2.2.2.2.1, r.2.2.2.2.2.2.2.1, r.2.2.2.2.2.2.2.2.1, r.2.2.2.2.2.2.2.2.2.1, r.2.2.2.2.2.2.2.2.2.2.1, f, r.2.2.2.2.2.2.2.2.2.2.2.2)
abbrev qAw (r : RSt) (f : Nat → Nat) : RSt := (r.1, r.2.1, r.2.2.1, r.2.2.2.1, r.2.2.2.2.1, r.2.2.2.2.2.1, r.2.2.2.2.2.2.1, r.2.2.2.2.2.2.2.1, r.2.2.2.2.2.2.2.2.1, r.2.2.2.2.2.2.2.2.2.1, r.2.2.2.2.2.2.2.2.2.2.1, r.2.2.2.2.2.2.2.2.2.2.2.1, f)
abbrev ac (c : ClassId) (n : Nat) (f : Nat → Nat) : va_E := .inl (c, n, .inl (fun j => nI (f j)))
def wM (g : Nat → Nat) (k : Nat → ClassId) (L : Nat) (r : RSt) : va_W := [(g 20, .inr (4, [.int (rTh r), .int (nI L), .ref (g 21), .int (nI (rTl r)), .ref (g 22), .ref (g 23), .ref (g 24), .ref (g 25), .ref (g 26), .ref (g 27), .ref (g 28), .ref (g 29), .ref (g 30), .int (rCm r)])),
  (g 21, ac (k 2) 512 (rTp r)), (g 22, ac (k 2) 1280 (rNd r)), (g 23, ac (k 2) 768 (rOw r)), (g 24, ac (k 2) 49152 (rNw r)), (g 25, ac (k 2) 1280 (rKn r)), (g 26, ac (k 2) 768 (rKo r)), (g 27, ac (k 2) 49152 (rDn r)), (g 28, ac (k 2) 1280 (rAn r)), (g 29, ac (k 2) 768 (rAo r)), (g 30, ac (k 2) 49152 (rAw r))]
def wB (a0 a1 : Nat) (k : Nat → ClassId) (n : Nat) (f h : Nat → Nat) : va_W := [(a0, ac (k 2) n f), (a1, ac (k 2) n h)]
/-- all numbers in the arrays are small -/
def rB (r : RSt) : Prop := ∀ q, rTp r q < 65536 ∧ rNd r q < 65536 ∧ rOw r q < 65536 ∧ rNw r q < 65536 ∧ rKn r q < 65536 ∧ rKo r q < 65536 ∧ rDn r q < 65536 ∧ rAn r q < 65536 ∧ rAo r q < 65536 ∧ rAw r q < 65536
theorem up_B {f : Nat → Nat} {i x : Nat} (h : ∀ q, f q < 65536) (hx : x < 65536) (q : Nat) : va_up f i x q < 65536 := by
  unfold va_up; split
  · exact hx
  · exact h q
theorem rB_tp {r : RSt} {i x : Nat} (h : rB r) (hx : x < 65536) : rB (qTp r (va_up (rTp r) i x)) := fun q => ⟨up_B (fun q => (h q).1) hx q, (h q).2⟩
theorem rB_nd {r : RSt} {i x : Nat} (h : rB r) (hx : x < 65536) : rB (qNd r (va_up (rNd r) i x)) := fun q => ⟨(h q).1, up_B (fun q => (h q).2.1) hx q, (h q).2.2⟩
theorem rB_ow {r : RSt} {i x : Nat} (h : rB r) (hx : x < 65536) : rB (qOw r (va_up (rOw r) i x)) := fun q => ⟨(h q).1, (h q).2.1, up_B (fun q => (h q).2.2.1) hx q, (h q).2.2.2⟩
theorem rB_nw {r : RSt} {i x : Nat} (h : rB r) (hx : x < 65536) : rB (qNw r (va_up (rNw r) i x)) := fun q => ⟨(h q).1, (h q).2.1, (h q).2.2.1, up_B (fun q => (h q).2.2.2.1) hx q, (h q).2.2.2.2⟩
theorem rB_dn {r : RSt} {i x : Nat} (h : rB r) (hx : x < 65536) : rB (qDn r (va_up (rDn r) i x)) := fun q => ⟨(h q).1, (h q).2.1, (h q).2.2.1, (h q).2.2.2.1, (h q).2.2.2.2.1, (h q).2.2.2.2.2.1, up_B (fun q => (h q).2.2.2.2.2.2.1) hx q, (h q).2.2.2.2.2.2.2⟩
/-- numbers shifted and cut -/
theorem gm_sh {n j : Nat} (hn : n < 2147483648) (hj : j < 32) : nI n >>> (nI j &&& 31) = nI (n / 2 ^ j) := pk_shrN hn _ j ((by decide +kernel : ∀ n, n < 32 → ((nI n &&& 31).toBitVec.smod 32).toNat = n) j hj)
theorem gm_sl {n j : Nat} (hj : j < 32) (h : n * 2 ^ j < 4294967296) : nI n <<< (nI j &&& 31) = nI (n * 2 ^ j) := pk_shlN _ j ((by decide +kernel : ∀ n, n < 32 → ((nI n &&& 31).toBitVec.smod 32).toNat = n) j hj) h
theorem gm_255 {n : Nat} (hn : n < 4294967296) : nI n &&& nI 255 = nI (n % 256) := pk_andN hn 8 (by decide +kernel)
theorem gm_or {a b : Nat} (ha : a < 256) (hb : b < 16777216) : nI a ||| nI (b * 2 ^ 8) = nI (a + b * 256) := by
  apply Int32.toBitVec_inj.mp
  rw [Int32.toBitVec_or]
  show BitVec.ofNat 32 a ||| BitVec.ofNat 32 (b * 2 ^ 8) = BitVec.ofNat 32 (a + b * 256)
  apply BitVec.eq_of_toNat_eq
  rw [BitVec.toNat_or, BitVec.toNat_ofNat, BitVec.toNat_ofNat, BitVec.toNat_ofNat, Nat.mod_eq_of_lt (by omega : a < 2 ^ 32), Nat.mod_eq_of_lt (by omega : b * 2 ^ 8 < 2 ^ 32), Nat.mod_eq_of_lt (by omega : a + b * 256 < 2 ^ 32)]
  have h1 : b * 2 ^ 8 ||| a = b * 2 ^ 8 + a := by rw [← Nat.shiftLeft_eq, Nat.shiftLeft_add_eq_or_of_lt (show a < 2 ^ 8 by omega)]
  rw [Nat.or_comm, h1]; omega
section GM
variable {p : Program} {l : Launch} {e : Env} {R : Room} {s : State} {m : MethodId} {args : Array Value} {below : List Frame} {meth : Method} {c : Code} {H : Heap} {locs : List Loc} {cells slots : Nat} {Q : State → Prop} {cc : ByteArray} {pc : Nat} {ls : Array Slot} {rest : List Value}
variable {D : va_G} {cl : List vw_C} {tys : List (ClassId × FieldType)} {ws wc w1 wr : va_W} {A : Nat → Prop} {H0 : Heap} {a : Nat} {st0 As : List Value}
theorem gm_ishr (hx : p.tables.exec = Jvm.exec) (hb : c.code = cc) {a b : Nat} (hd : decode cc pc = .ok (.ishr, 1)) (ha : a < 2147483648) (hj : b < 32) (k : W p l e R s m args below meth c H locs cells slots Q (F0 m (pc + 1) ls (.int (nI (a / 2 ^ b)) :: rest))) : W p l e R s m args below meth c H locs cells slots Q (F0 m pc ls (.int (nI b) :: .int (nI a) :: rest)) := by
  refine lv_ishr hx hb hd ?_
  rw [gm_sh ha hj]; exact k
theorem gm_ishl (hx : p.tables.exec = Jvm.exec) (hb : c.code = cc) {a b : Nat} (hd : decode cc pc = .ok (.ishl, 1)) (hj : b < 32) (ha : a * 2 ^ b < 4294967296) (k : W p l e R s m args below meth c H locs cells slots Q (F0 m (pc + 1) ls (.int (nI (a * 2 ^ b)) :: rest))) : W p l e R s m args below meth c H locs cells slots Q (F0 m pc ls (.int (nI b) :: .int (nI a) :: rest)) := by
  refine lv_ishl hx hb hd ?_
  rw [gm_sl hj ha]; exact k
theorem gm_and (hx : p.tables.exec = Jvm.exec) (hb : c.code = cc) {a : Nat} (hd : decode cc pc = .ok (.iand, 1)) (ha : a < 4294967296) (k : W p l e R s m args below meth c H locs cells slots Q (F0 m (pc + 1) ls (.int (nI (a % 256)) :: rest))) : W p l e R s m args below meth c H locs cells slots Q (F0 m pc ls (.int (nI 255) :: .int (nI a) :: rest)) := by
  refine lv_iand hx hb hd ?_
  rw [gm_255 ha]; exact k
theorem gm_ior (hx : p.tables.exec = Jvm.exec) (hb : c.code = cc) {a b : Nat} (hd : decode cc pc = .ok (.ior, 1)) (ha : a < 256) (h2 : b < 16777216) (k : W p l e R s m args below meth c H locs cells slots Q (F0 m (pc + 1) ls (.int (nI (a + b * 256)) :: rest))) : W p l e R s m args below meth c H locs cells slots Q (F0 m pc ls (.int (nI (b * 2 ^ 8)) :: .int (nI a) :: rest)) := by
  refine lv_ior hx hb hd ?_
  rw [gm_or ha h2]; exact k
theorem gm_ald (hx : p.tables.exec = Jvm.exec) (hb : c.code = cc) (hK : va_K D cl tys s) (hP : va_P D cl ws H) (q0 t0 : Nat) {cA : ClassId} {n : Nat} {f : Nat → Nat} (ha : ws[q0]? = some (a, ac cA n f)) (ht : tys[t0]? = some (cA, .int)) {i : Nat} (hin : i < n) (hn : n < 2147483648) (hd : decode cc pc = .ok (.iaload, 1))
    (kk : W p l e R s m args below meth c H locs cells slots Q (F0 m (pc + 1) ls (.int (nI (f i)) :: rest))) : W p l e R s m args below meth c H locs cells slots Q (F0 m pc ls (.int (nI i) :: .ref a :: rest)) := gz_iald hx hb hK hP q0 t0 ha ht hin hn hd kk
theorem gm_up (f : Nat → Nat) (i x : Nat) : va_up (fun k => nI (f k)) i (nI x) = fun k => nI (va_up f i x k) := by
  funext j
  by_cases h : j = i
  · subst h; simp [va_up]
  · simp [va_up, h]
theorem gm_ast (hx : p.tables.exec = Jvm.exec) (hb : c.code = cc) (hK : va_K D cl tys s) (hP : va_P D cl ws H) (hD : va_D A ws) (hS : va_S A H0 H locs) (q0 t0 : Nat) {cA : ClassId} {n : Nat} {f : Nat → Nat} (ha : ws[q0]? = some (a, ac cA n f)) (ht : tys[t0]? = some (cA, .int)) {i x : Nat} (hin : i < n) (hn : n < 2147483648) (hd : decode cc pc = .ok (.iastore, 1))
    (kk : ∀ (H1 : Heap) (locs1 : List Loc), va_P D cl (ws.set q0 (a, ac cA n (va_up f i x))) H1 → va_D A (ws.set q0 (a, ac cA n (va_up f i x))) → va_S A H0 H1 locs1 → W p l e R s m args below meth c H1 locs1 cells slots Q (F0 m (pc + 1) ls rest)) : W p l e R s m args below meth c H locs cells slots Q (F0 m pc ls (.int (nI x) :: .int (nI i) :: .ref a :: rest)) := by
  refine gz_iast hx hb hK hP hD hS q0 t0 ha ht hin hn hd (fun H1 locs1 => ?_)
  rw [gm_up]; exact kk H1 locs1
theorem gm_len (hx : p.tables.exec = Jvm.exec) (hb : c.code = cc) (hK : va_K D cl tys s) (hP : va_P D cl ws H) (q0 t0 : Nat) {cA : ClassId} {n : Nat} {f : Nat → Nat} (ha : ws[q0]? = some (a, ac cA n f)) (ht : tys[t0]? = some (cA, .int)) (hd : decode cc pc = .ok (.arraylength, 1))
    (kk : W p l e R s m args below meth c H locs cells slots Q (F0 m (pc + 1) ls (.int (nI n) :: rest))) : W p l e R s m args below meth c H locs cells slots Q (F0 m pc ls (.ref a :: rest)) := va_alen hx hb hK hP q0 t0 ha ht rfl hd kk
end GM
-- what the methods read
/-- in(v, low, high) -/
def inR (v a b : Int32) : Bool := decide (a ≤ v ∧ v ≤ b)
theorem inR_N {n a b : Nat} (hn : n < 2147483648) (ha : a < 2147483648) (hb : b < 2147483648) : inR (nI n) (nI a) (nI b) = decide (a ≤ n ∧ n ≤ b) := by
  unfold inR; simp only [nI_leI ha hn, nI_leI hn hb]
def nbR (f : Nat → Nat) (i c : Nat) : Nat :=
  if c = 0 then f (20 * i) else if c = 1 then f (20 * i + 2) else if c < 4 then f (20 * i + 1) / 2 ^ (8 * (c - 2)) % 256
  else if f (20 * i + 2) ≤ (c - 4) / 3 then 0
  else if (c - 4) % 3 = 2 then f (20 * i + 4 + 2 * ((c - 4) / 3)) else f (20 * i + 3 + 2 * ((c - 4) / 3)) / 2 ^ (8 * ((c - 4) % 3)) % 256
theorem nbR_lt {f : Nat → Nat} (h : ∀ q, f q < 65536) (i c : Nat) : nbR f i c < 65536 := by
  unfold nbR
  have h0 := h (20 * i); have h1 := h (20 * i + 2); have h2 := h (20 * i + 4 + 2 * ((c - 4) / 3))
  (repeat' split) <;> first | omega | (exact Nat.lt_trans (Nat.mod_lt _ (by decide)) (by decide))
/-- mapByte: the first j bits -/
def mbR (L : Nat) (f : Nat → Nat) (n : Nat) : Nat → Nat
  | 0 => 0
  | j + 1 => mbR L f n j + (if n + j < L ∧ 0 < f (n + j) then 2 ^ j else 0)
theorem mbR_lt (L : Nat) (f : Nat → Nat) (n : Nat) : ∀ j, mbR L f n j < 2 ^ j := by
  intro j
  induction j with
  | zero => exact Nat.lt_succ_self 0
  | succ j ih => unfold mbR; rw [Nat.pow_succ]; split <;> omega
theorem mbR_or {a j : Nat} (h : a < 2 ^ j) (hj : j < 8) : nI a ||| nI (1 * 2 ^ j) = nI (a + 2 ^ j) := by
  have h8 : 2 ^ j ≤ 128 := Nat.le_trans (Nat.pow_le_pow_right (by decide) (show j ≤ 7 by omega)) (by decide)
  apply Int32.toBitVec_inj.mp
  rw [Int32.toBitVec_or]
  show BitVec.ofNat 32 a ||| BitVec.ofNat 32 (1 * 2 ^ j) = BitVec.ofNat 32 (a + 2 ^ j)
  apply BitVec.eq_of_toNat_eq
  rw [BitVec.toNat_or, BitVec.toNat_ofNat, BitVec.toNat_ofNat, BitVec.toNat_ofNat, Nat.mod_eq_of_lt (by omega : a < 2 ^ 32), Nat.mod_eq_of_lt (by omega : 1 * 2 ^ j < 2 ^ 32), Nat.mod_eq_of_lt (by omega : a + 2 ^ j < 2 ^ 32)]
  have h1 : 1 * 2 ^ j ||| a = 1 * 2 ^ j + a := by rw [← Nat.shiftLeft_eq, Nat.shiftLeft_add_eq_or_of_lt h]
  rw [Nat.or_comm, h1]; omega
theorem mbR_or0 (a : Nat) : nI a ||| nI 0 = nI (a + 0) := by
  rw [nI_0]; simp
/-- byteOf -/
def boR (L : Nat) (r : RSt) (b c : Nat) : Nat :=
  if b < 25 ∨ rOw r b = 0 then rDn r (64 * b + c)
  else if b < 57 then nbR (rNd r) (2 * (b - 25) + c / 32) (c % 32)
  else if b < 59 then mbR L (rOw r) (512 * (b - 57) + 8 * c) 8
  else rNw r (64 * b + c)
theorem boR_lt {L : Nat} {r : RSt} (h : rB r) (b c : Nat) : boR L r b c < 65536 := by
  unfold boR
  (repeat' split)
  · exact (h _).2.2.2.2.2.2.1
  · exact nbR_lt (fun q => (h q).2.1) _ _
  · exact Nat.lt_trans (mbR_lt _ _ _ _) (by decide)
  · exact (h _).2.2.2.1
/-- isChanged: the first j bytes -/
def icG (L : Nat) (r : RSt) (b : Nat) : Nat → Bool
  | 0 => false
  | j + 1 => icG L r b j || decide (boR L r b j ≠ rDn r (64 * b + j))
def icR (L : Nat) (r : RSt) (b : Nat) : Bool := icG L r b 64
theorem icG_mono {L : Nat} {r : RSt} {b i : Nat} (h : icG L r b i = true) : ∀ j, icG L r b (i + j) = true := by
  intro j
  induction j with
  | zero => exact h
  | succ j ih => show (icG L r b (i + j) || _) = true; rw [ih]; rfl
theorem icR_t {L : Nat} {r : RSt} {b i : Nat} (h : icG L r b i = true) (hi : i ≤ 64) : icR L r b = true := by
  have := icG_mono h (64 - i)
  rwa [show i + (64 - i) = 64 by omega] at this
/-- changes, from block b on -/
def chG (L : Nat) (r : RSt) : Nat → Nat → Nat
  | 0, _ => 0
  | n + 1, b => (if icR L r b then 1 else 0) + chG L r n (b + 1)
def chR (L : Nat) (r : RSt) : Nat := chG L r (L - 25) 25
theorem chG_le (L : Nat) (r : RSt) : ∀ n b, chG L r n b ≤ n := by
  intro n
  induction n with
  | zero => intro b; exact Nat.le_refl _
  | succ n ih => intro b; have := ih (b + 1); unfold chG; split <;> omega
/-- copy: the first n -/
def cpM (f h : Nat → Nat) (n : Nat) : Nat → Nat := fun q => if q < n then f q else h q
theorem cpM_0 (f h : Nat → Nat) : cpM f h 0 = h := by funext q; simp [cpM]
theorem cpM_s (f h : Nat → Nat) (i : Nat) : va_up (cpM f h i) i (f i) = cpM f h (i + 1) := by
  funext q; unfold va_up cpM
  by_cases e : q = i
  · subst e; simp
  · rw [if_neg e]
    by_cases e2 : q < i
    · rw [if_pos e2, if_pos (by omega)]
    · rw [if_neg e2, if_neg (by omega)]
/-- blocks of an inode: extents before e; the block n -/
def bs (f : Nat → Nat) (i : Nat) : Nat → Nat
  | 0 => 0
  | e + 1 => bs f i e + f (20 * i + 4 + 2 * e)
def bsR (f : Nat → Nat) (i : Nat) : Nat := bs f i (f (20 * i + 2))
theorem bs_le {f : Nat → Nat} (h : ∀ q, f q < 65536) (i : Nat) : ∀ e, bs f i e ≤ e * 65536 := by
  intro e
  induction e with
  | zero => exact Nat.le_refl _
  | succ e ih => have := h (20 * i + 4 + 2 * e); unfold bs; omega
theorem bs_mono (f : Nat → Nat) (i e : Nat) : ∀ d, bs f i e ≤ bs f i (e + d) := by
  intro d
  induction d with
  | zero => exact Nat.le_refl _
  | succ d ih => exact Nat.le_trans ih (Nat.le_add_right _ _)
def bkG (f : Nat → Nat) (i : Nat) : Nat → Nat → Nat → Nat
  | 0, _, _ => 0
  | n + 1, e, t => if t < f (20 * i + 4 + 2 * e) then f (20 * i + 3 + 2 * e) + t else bkG f i n (e + 1) (t - f (20 * i + 4 + 2 * e))
def bkR (f : Nat → Nat) (i t : Nat) : Nat := bkG f i 8 0 t
