/-! THE REFERENCE's FACE. -/
def fnR (r : RSt) (d w : Nat) : Int32 := if 0 ≤ bdR r d then (if 0 ≤ eoR r d w then nI (iaR r d (eoR r d w).toNatClampNeg) else -1) else bdR r d
/-- read: the first j bytes from t on -/
def rlG (r : RSt) (i t : Nat) : Nat → Int64
  | 0 => 0
  | j + 1 => rlG r i t j ||| ((nI (gtR r i (t + j))).toInt64 <<< ((nI (8 * j)).toInt64 &&& 63))
def rlR (r : RSt) (i t : Nat) : Int64 := rlG r i t (min 8 (rNd r (20 * i + 1) - t))
/-- feed -/
def fbR (v : Int64) (i : Nat) : Int32 := (((v >>> ((nI (8 * i)).toInt64 &&& 63)) &&& 255)).toInt32
/-- changed: n blocks from b on, x to pass -/
def cgG (L : Nat) (r : RSt) : Nat → Nat → Int32 → Int32
  | 0, _, _ => -1
  | n + 1, b, x => if x < 0 then -1 else if icR L r b = true then (if x = 0 then nI b else cgG L r n (b + 1) (x + Int32.ofInt (-1))) else cgG L r n (b + 1) x
def cgR (L : Nat) (r : RSt) (x : Int32) : Int32 := cgG L r (L - 25) 25 x
/-- look -/
def owG (f : Nat → Nat) : Nat → Nat
  | 0 => 0
  | b + 1 => owG f b + (if f b = 0 then 1 else 0)
def kdG (f : Nat → Nat) (c : Nat) : Nat → Nat
  | 0 => 0
  | i + 1 => kdG f c i + (if f (20 * i) = c then 1 else 0)
theorem owG_le (f : Nat → Nat) : ∀ b, owG f b ≤ b := by
  intro b
  induction b with
  | zero => exact Nat.le_refl _
  | succ b ih => unfold owG; split <;> omega
theorem kdG_le (f : Nat → Nat) (c : Nat) : ∀ b, kdG f c b ≤ b := by
  intro b
  induction b with
  | zero => exact Nat.le_refl _
  | succ b ih => unfold kdG; split <;> omega
def loR (L : Nat) (r : RSt) (w : Nat) : Int32 := match w with
  | 0 => nI L
  | 1 => nI (owG (rOw r) L)
  | 2 => nI (kdG (rNd r) 0 64)
  | 3 => nI (chR L r)
  | 4 => rCm r
  | 5 => nI (rTl r)
  | _ => nI (kdG (rNd r) 2 64)
abbrev MuL (l : Launch) (y : MethodName) (ws1 : List Cond) (rm : Room) (av : List Value) (D : va_G) (cl : List vw_C) (tys : List (ClassId × FieldType)) (wc w1 : va_W) (r : Int64) : Prop := ∀ sz : Nat, Met l y ws1 rm (va_Pc av (MuP D cl tys wc sz)) (va_Ql (fun r' _ => r' = r) (MuB D cl (va_A wc sz) w1) (va_A wc sz)) 0 0 (va_A wc sz)
theorem gm_and6 {p : Program} {l : Launch} {e : Env} {R : Room} {s : State} {m : MethodId} {args : Array Value} {below : List Frame} {meth : Method} {c : Code} {H : Heap} {locs : List Loc} {cells slots : Nat} {Q : State → Prop} {cc : ByteArray} {pc : Nat} {ls : Array Slot} {rest : List Value} (hx : p.tables.exec = Jvm.exec) (hb : c.code = cc) {a : Nat} (hd : decode cc pc = .ok (.iand, 1)) (ha : a < 4294967296) (k : W p l e R s m args below meth c H locs cells slots Q (F0 m (pc + 1) ls (.int (nI (a % 64)) :: rest))) : W p l e R s m args below meth c H locs cells slots Q (F0 m pc ls (.int (nI 63) :: .int (nI a) :: rest)) := by
  refine lv_iand hx hb hd ?_
  rw [show nI a &&& nI 63 = nI (a % 64) from pk_andN ha 6 (by decide +kernel)]; exact k
theorem inR_t {n a b : Nat} (ha : a ≤ n) (hn : n ≤ b) (hb : b < 2147483648) : inR (nI n) (nI a) (nI b) = true := by
  rw [inR_N (by omega) (by omega) hb, decide_eq_true ⟨ha, hn⟩]
