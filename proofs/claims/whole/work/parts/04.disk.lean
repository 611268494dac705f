/-! THE DISK's STATE, as a value, and what its methods do to it: now, committed, before (longs), touched, differs, early commits. -/
abbrev DSt : Type := (Nat → Int64) × (Nat → Int64) × (Nat → Int64) × (Nat → Bool) × (Nat → Bool) × Int32
abbrev dNow (u : DSt) : Nat → Int64 := u.1
abbrev dCom (u : DSt) : Nat → Int64 := u.2.1
abbrev dBef (u : DSt) : Nat → Int64 := u.2.2.1
abbrev dTou (u : DSt) : Nat → Bool := u.2.2.2.1
abbrev dDif (u : DSt) : Nat → Bool := u.2.2.2.2.1
abbrev dEa (u : DSt) : Int32 := u.2.2.2.2.2
abbrev sNow (u : DSt) (f : Nat → Int64) : DSt := (f, u.2)
abbrev sCom (u : DSt) (f : Nat → Int64) : DSt := (u.1, f, u.2.2)
abbrev sBef (u : DSt) (f : Nat → Int64) : DSt := (u.1, u.2.1, f, u.2.2.2)
abbrev sTou (u : DSt) (f : Nat → Bool) : DSt := (u.1, u.2.1, u.2.2.1, f, u.2.2.2.2)
abbrev sDif (u : DSt) (f : Nat → Bool) : DSt := (u.1, u.2.1, u.2.2.1, u.2.2.2.1, f, u.2.2.2.2.2)
abbrev sEa (u : DSt) (x : Int32) : DSt := (u.1, u.2.1, u.2.2.1, u.2.2.2.1, u.2.2.2.2.1, x)
/-- byte p of the longs a -/
def byt (a : Nat → Int64) (p : Nat) : Nat := (a (p / 8)).toBitVec.toNat / 2 ^ (p % 8 * 8) % 256
theorem byt_lt (a : Nat → Int64) (p : Nat) : byt a p < 256 := Nat.mod_lt _ (by decide)
/-- byteAt: 0 where no block is -/
def bN (L : Nat) (a : Nat → Int64) (x : Int32) : Nat := if x < 0 ∨ nI (L * 64) ≤ x then 0 else byt a x.toNatClampNeg
theorem bN_lt (L : Nat) (a : Nat → Int64) (x : Int32) : bN L a x < 256 := by
  unfold bN; split
  · decide
  · exact byt_lt _ _
theorem bN_lo {L : Nat} {a : Nat → Int64} {x : Int32} (h : x < 0) : bN L a x = 0 := by unfold bN; rw [if_pos (Or.inl h)]
theorem bN_hi {L : Nat} {a : Nat → Int64} {q : Nat} (h : L * 64 ≤ q) (hq : q < 2147483648) : bN L a (nI q) = 0 := by unfold bN; rw [if_pos (Or.inr (nI_le h hq))]
theorem bN_in {L : Nat} {a : Nat → Int64} {q : Nat} (h : q < L * 64) (hL : L ≤ 768) : bN L a (nI q) = byt a q := by
  unfold bN
  rw [if_neg, nI_clamp (by omega)]
  rintro (h1 | h1)
  · exact nI_pos (by omega) h1
  · exact nI_ge h (by omega) h1
theorem byt_row (a : Nat → Int64) (q : Nat) : ((((a (q / 8)).toUInt64 >>> ((nI (q % 8 * 8)).toInt64.toUInt64 &&& Int64.toUInt64 63)).toInt64).toInt32 &&& nI 255) = nI (byt a q) := by
  obtain ⟨n, hn, he⟩ := wb_of (a (q / 8))
  have hk : q % 8 * 8 < 64 := by omega
  unfold byt
  rw [he, wb_shr hn hk, lN_i, wb_tn hn, pk_and _ 8 (by decide +kernel)]
  congr 1
  show (BitVec.ofNat 32 _).toNat % 2 ^ 8 = _
  rw [BitVec.toNat_ofNat]
  generalize n / 2 ^ (q % 8 * 8) = z
  omega
/-- pairAt -/
def pN (L : Nat) (a : Nat → Int64) (x : Int32) : Nat := bN L a x + 256 * bN L a (x + nI 1)
theorem pN_lt (L : Nat) (a : Nat → Int64) (x : Int32) : pN L a x < 65536 := by
  have h1 := bN_lt L a x; have h2 := bN_lt L a (x + nI 1); unfold pN; omega
/-- touch -/
def tch (u : DSt) (b : Nat) : DSt := if dTou u b then u else sBef (sTou u (va_up (dTou u) b true)) (va_cpy (dNow u) (dBef u) (b * 8) (b * 8) 8)
theorem tch_t {u : DSt} {b : Nat} (h : dTou u b = true) : tch u b = u := by unfold tch; rw [if_pos h]
theorem tch_f {u : DSt} {b : Nat} (h : dTou u b = false) : tch u b = sBef (sTou u (va_up (dTou u) b true)) (va_cpy (dNow u) (dBef u) (b * 8) (b * 8) 8) := by unfold tch; rw [if_neg (by rw [h]; decide)]
theorem tch_now (u : DSt) (b : Nat) : dNow (tch u b) = dNow u := by unfold tch; split <;> rfl
theorem tch_com (u : DSt) (b : Nat) : dCom (tch u b) = dCom u := by unfold tch; split <;> rfl
/-- one byte of a long -/
def stL (w : Int64) (k : Nat) (v : Int32) : Int64 := (w &&& ((255 <<< ((nI k).toInt64 &&& 63)) ^^^ (-1))) ||| ((v.toInt64 &&& 255) <<< ((nI k).toInt64 &&& 63))
/-- setByte inside the blocks -/
def stB (u : DSt) (q : Nat) (v : Int32) : DSt := sNow (tch u (q / 64)) (va_up (dNow u) (q / 8) (stL (dNow u (q / 8)) (q % 8 * 8) v))
def setB (L : Nat) (u : DSt) (x v : Int32) : DSt := if x < 0 ∨ nI (L * 64) ≤ x then u else stB u x.toNatClampNeg v
theorem setB_lo {L : Nat} {u : DSt} {x v : Int32} (h : x < 0) : setB L u x v = u := by unfold setB; rw [if_pos (Or.inl h)]
theorem setB_hi {L : Nat} {u : DSt} {q : Nat} {v : Int32} (h : L * 64 ≤ q) (hq : q < 2147483648) : setB L u (nI q) v = u := by unfold setB; rw [if_pos (Or.inr (nI_le h hq))]
theorem setB_in {L : Nat} {u : DSt} {q : Nat} {v : Int32} (h : q < L * 64) (hL : L ≤ 768) : setB L u (nI q) v = stB u q v := by
  unfold setB
  rw [if_neg, nI_clamp (by omega)]
  rintro (h1 | h1)
  · exact nI_pos (by omega) h1
  · exact nI_ge h (by omega) h1
/-- setPair -/
def setP (L : Nat) (u : DSt) (x v : Int32) : DSt := setB L (setB L u x v) (x + nI 1) ((v.toUInt32 >>> ((nI 8).toUInt32 &&& Int32.toUInt32 31)).toInt32)
/-- hasBlock -/
def hsB (L : Nat) (x : Int32) : Bool := !decide (x < 0 ∨ nI L ≤ x)
/-- isFree, of a block that there is -/
def frN (a : Nat → Int64) (b : Nat) : Bool := decide ((a (456 + b / 64)).toBitVec.toNat / 2 ^ (b % 64) % 2 = 0)
def frB (L : Nat) (a : Nat → Int64) (x : Int32) : Bool := hsB L x && frN a x.toNatClampNeg
theorem hsB_lo {L : Nat} {x : Int32} (h : x < 0) : hsB L x = false := by simp [hsB, h]
theorem hsB_hi {L q : Nat} (h : L ≤ q) (hq : q < 2147483648) : hsB L (nI q) = false := by simp [hsB, nI_le h hq]
theorem hsB_in {L q : Nat} (h : q < L) (hL : L ≤ 768) : hsB L (nI q) = true := by
  have h1 : ¬ nI q < 0 := nI_pos (by omega)
  have h2 : ¬ nI L ≤ nI q := nI_ge h (by omega)
  simp only [hsB, h1, h2, or_self, decide_false, Bool.not_false]
theorem hsB_of {L : Nat} {x : Int32} (h : hsB L x = true) (hL : L ≤ 768) : ∃ q, q < L ∧ x = nI q := by
  rcases pk_ix x (n := L) (by omega) with h1 | h1 | ⟨j, hj, e⟩
  · rw [hsB_lo h1] at h; cases h
  · simp [hsB, h1] at h
  · exact ⟨j, hj, e⟩
theorem frB_no {L : Nat} {a : Nat → Int64} {x : Int32} (h : hsB L x = false) : frB L a x = false := by simp [frB, h]
theorem frB_in {L : Nat} {a : Nat → Int64} {q : Nat} (h : q < L) (hL : L ≤ 768) : frB L a (nI q) = frN a q := by
  unfold frB; rw [hsB_in h hL, nI_clamp (by omega), Bool.true_and]
theorem frN_row (a : Nat → Int64) (b : Nat) : lg_cmp (((a (456 + b / 64)).toUInt64 >>> ((nI (b % 64)).toInt64.toUInt64 &&& Int64.toUInt64 63)).toInt64 &&& 1) 0 = 0 ↔ frN a b = true := by
  obtain ⟨n, hn, he⟩ := wb_of (a (456 + b / 64))
  have hk : b % 64 < 64 := Nat.mod_lt _ (by decide)
  rw [lg_cmp_eq]
  unfold frN
  rw [he, wb_bit hn hk, wb_tn hn, decide_eq_true_iff]
  have h2 : n / 2 ^ (b % 64) % 2 < 2 := Nat.mod_lt _ (by decide)
  generalize n / 2 ^ (b % 64) % 2 = z at h2
  constructor
  · intro h
    have := congrArg (fun w => w.toBitVec.toNat) h
    simp only [wb_tn (show z < 2 ^ 64 by omega)] at this
    exact this
  · intro h; rw [h]; rfl
/-- leastFree from block b on: n blocks more to look at -/
def lfG (a : Nat → Int64) : Nat → Nat → Int32
  | 0, _ => -1
  | n + 1, b => if frN a b then nI b else lfG a n (b + 1)
def lfr (L : Nat) (a : Nat → Int64) : Int32 := lfG a (L - 59) 59
/-- freeBlocks -/
def fbG (a : Nat → Int64) : Nat → Nat → Nat
  | 0, _ => 0
  | n + 1, b => (if frN a b then 1 else 0) + fbG a n (b + 1)
def fbs (L : Nat) (a : Nat → Int64) : Nat := fbG a (L - 59) 59
theorem fbG_le (a : Nat → Int64) : ∀ n b, fbG a n b ≤ n := by
  intro n
  induction n with
  | zero => intro b; exact Nat.le_refl _
  | succ n ih => intro b; have := ih (b + 1); unfold fbG; split <;> omega
/-- flipMapBit -/
def flp (u : DSt) (b : Nat) : DSt := sNow (tch u (57 + b / 512)) (va_up (dNow u) (456 + b / 64) (dNow u (456 + b / 64) ^^^ (1 <<< ((nI (b % 64)).toInt64 &&& 63))))
/-- the first i longs of block b are 0 -/
def zrB (f : Nat → Int64) (b i : Nat) : Nat → Int64 := fun j => if b * 8 ≤ j ∧ j < b * 8 + i then 0 else f j
theorem zrB_0 (f : Nat → Int64) (b : Nat) : zrB f b 0 = f := by
  funext j; unfold zrB; rw [if_neg (by omega)]
theorem zrB_s (f : Nat → Int64) (b i : Nat) : va_up (zrB f b i) (b * 8 + i) 0 = zrB f b (i + 1) := by
  funext j; unfold va_up zrB
  by_cases h : j = b * 8 + i
  · rw [if_pos h, if_pos (by omega)]
  · rw [if_neg h]
    by_cases h2 : b * 8 ≤ j ∧ j < b * 8 + i
    · rw [if_pos h2, if_pos (by omega)]
    · rw [if_neg h2, if_neg (by omega)]
/-- takeBlock, of a free block -/
def tkN (u : DSt) (b : Nat) : DSt := flp (sNow (tch u b) (zrB (dNow u) b 8)) b
def tkB (L : Nat) (u : DSt) (x : Int32) : DSt := if frB L (dNow u) x then tkN u x.toNatClampNeg else u
/-- block b copied -/
abbrev cpB (f g : Nat → Int64) (b : Nat) : Nat → Int64 := va_cpy f g (b * 8) (b * 8) 8
/-- giveBlockBack, of a taken block -/
def gvN (u : DSt) (b : Nat) : DSt := flp (sNow (tch u b) (cpB (dCom u) (dNow u) b)) b
def gvB (L : Nat) (u : DSt) (x : Int32) : DSt := if hsB L x && !frB L (dNow u) x then gvN u x.toNatClampNeg else u
/-- compare: do the first i longs of block b differ -/
def dfI (f g : Nat → Int64) (b : Nat) : Nat → Bool
  | 0 => false
  | i + 1 => dfI f g b i || !decide (f (b * 8 + i) = g (b * 8 + i))
def cmp (u : DSt) (b : Nat) : DSt := sDif u (va_up (dDif u) b (dfI (dNow u) (dCom u) b 8))
/-- differingBlocks from block b on -/
def dcG (d : Nat → Bool) : Nat → Nat → Nat
  | 0, _ => 0
  | n + 1, b => (if d b then 1 else 0) + dcG d n (b + 1)
def dct (L : Nat) (d : Nat → Bool) : Nat := dcG d L 0
theorem dcG_le (d : Nat → Bool) : ∀ n b, dcG d n b ≤ n := by
  intro n
  induction n with
  | zero => intro b; exact Nat.le_refl _
  | succ n ih => intro b; have := ih (b + 1); unfold dcG; split <;> omega
/-- differingBlock: of n blocks from b on, where 'q' have been passed -/
def dbG (d : Nat → Bool) (x : Int32) : Nat → Nat → Nat → Int32
  | 0, _, _ => -1
  | n + 1, b, q => if d b then (if nI q = x then nI b else dbG d x n (b + 1) (q + 1)) else dbG d x n (b + 1) q
def dbk (L : Nat) (d : Nat → Bool) (x : Int32) : Int32 := dbG d x L 0 0
/-- the loops over all blocks: n blocks from b on -/
def stG : Nat → Nat → DSt → DSt
  | 0, _, u => u
  | n + 1, b, u => stG n (b + 1) (if dTou u b then cmp u b else u)
def unG : Nat → Nat → DSt → DSt
  | 0, _, u => u
  | n + 1, b, u => unG n (b + 1) (if dTou u b then sNow u (cpB (dBef u) (dNow u) b) else u)
def fgG : Nat → Nat → DSt → DSt
  | 0, _, u => u
  | n + 1, b, u => fgG n (b + 1) (sTou u (va_up (dTou u) b false))
/-- makeAlike: now to committed (commit), committed to now (drop) -/
def mcG : Nat → Nat → DSt → DSt
  | 0, _, u => u
  | n + 1, b, u => mcG n (b + 1) (if dDif u b then sDif (sCom u (cpB (dNow u) (dCom u) b)) (va_up (dDif u) b false) else u)
def mdG : Nat → Nat → DSt → DSt
  | 0, _, u => u
  | n + 1, b, u => mdG n (b + 1) (if dDif u b then sDif (sNow u (cpB (dCom u) (dNow u) b)) (va_up (dDif u) b false) else u)
/-- commitWhatWasBefore, one block -/
def cw1 (L : Nat) (u : DSt) (b : Nat) : DSt :=
  let u1 := if dTou u b then sCom u (cpB (dBef u) (dCom u) b) else sCom u (cpB (dNow u) (dCom u) b)
  let u2 := if frN (dNow u1) b then sNow u1 (cpB (dCom u1) (dNow u1) b) else u1
  cmp u2 b
def cwG (L : Nat) : Nat → Nat → DSt → DSt
  | 0, _, u => u
  | n + 1, b, u => cwG L n (b + 1) (cw1 L u b)
def cwb (L : Nat) (u : DSt) : DSt := sEa (cwG L L 0 u) (dEa (cwG L L 0 u) + nI 1)
def fgt (L : Nat) (u : DSt) : DSt := fgG L 0 u
def stl (L : Nat) (u : DSt) : DSt := fgt L (if 24 < dct L (dDif (stG L 0 u)) then cwb L (stG L 0 u) else stG L 0 u)
def und (L : Nat) (u : DSt) : DSt := fgt L (unG L 0 u)
def cmA (L : Nat) (u : DSt) : DSt := mcG L 0 u
def drA (L : Nat) (u : DSt) : DSt := mdG L 0 u
theorem frB_has {L : Nat} {a : Nat → Int64} {x : Int32} (h : frB L a x = true) : hsB L x = true := by
  unfold frB at h; exact (Bool.and_eq_true_iff.mp h).1
theorem tkB_no {L : Nat} {u : DSt} {x : Int32} (h : frB L (dNow u) x = false) : tkB L u x = u := by unfold tkB; rw [if_neg (by rw [h]; decide)]
theorem tkB_in {L : Nat} {u : DSt} {q : Nat} (h : frB L (dNow u) (nI q) = true) (hq : q < 2147483648) : tkB L u (nI q) = tkN u q := by unfold tkB; rw [if_pos h, nI_clamp hq]
theorem gvB_no {L : Nat} {u : DSt} {x : Int32} (h : hsB L x = false) : gvB L u x = u := by unfold gvB; rw [if_neg (by rw [h]; simp)]
theorem gvB_fr {L : Nat} {u : DSt} {x : Int32} (h : frB L (dNow u) x = true) : gvB L u x = u := by unfold gvB; rw [if_neg (by rw [h]; simp)]
theorem gvB_in {L : Nat} {u : DSt} {q : Nat} (h : hsB L (nI q) = true) (h2 : frB L (dNow u) (nI q) = false) (hq : q < 2147483648) : gvB L u (nI q) = gvN u q := by unfold gvB; rw [if_pos (by rw [h, h2]; rfl), nI_clamp hq]
theorem dfI_t1 {f g : Nat → Int64} {b i : Nat} (h : dfI f g b i = true) : zI (dfI f g b (i + 1)) = nI 1 := by
  have : dfI f g b (i + 1) = true := by unfold dfI; rw [h]; rfl
  rw [this]; rfl
theorem dfI_t2 {f g : Nat → Int64} {b i : Nat} (h : ¬ lg_cmp (f (b * 8 + i)) (g (b * 8 + i)) = 0) : zI (dfI f g b (i + 1)) = nI 1 := by
  have h1 : ¬ f (b * 8 + i) = g (b * 8 + i) := fun q => h ((lg_cmp_eq _ _).mpr q)
  have : dfI f g b (i + 1) = true := by unfold dfI; rw [decide_eq_false h1]; simp
  rw [this]; rfl
theorem dfI_f {f g : Nat → Int64} {b i : Nat} (h : dfI f g b i = false) (h2 : lg_cmp (f (b * 8 + i)) (g (b * 8 + i)) = 0) : zI (dfI f g b (i + 1)) = nI 0 := by
  have h1 : f (b * 8 + i) = g (b * 8 + i) := (lg_cmp_eq _ _).mp h2
  have : dfI f g b (i + 1) = false := by unfold dfI; rw [h, decide_eq_true h1]; rfl
  rw [this]; rfl
theorem cw1_tt {L : Nat} {v : DSt} {b : Nat} (h : dTou v b = true) (h2 : frN (dNow v) b = true) : cw1 L v b = cmp (sNow (sCom v (cpB (dBef v) (dCom v) b)) (cpB (cpB (dBef v) (dCom v) b) (dNow v) b)) b := by
  unfold cw1; rw [if_pos h]; dsimp only; rw [if_pos h2]
theorem cw1_tf {L : Nat} {v : DSt} {b : Nat} (h : dTou v b = true) (h2 : frN (dNow v) b = false) : cw1 L v b = cmp (sCom v (cpB (dBef v) (dCom v) b)) b := by
  unfold cw1; rw [if_pos h]; dsimp only; rw [if_neg (by rw [h2]; decide)]
theorem cw1_ft {L : Nat} {v : DSt} {b : Nat} (h : dTou v b = false) (h2 : frN (dNow v) b = true) : cw1 L v b = cmp (sNow (sCom v (cpB (dNow v) (dCom v) b)) (cpB (cpB (dNow v) (dCom v) b) (dNow v) b)) b := by
  unfold cw1; rw [if_neg (by rw [h]; decide)]; dsimp only; rw [if_pos h2]
theorem cw1_ff {L : Nat} {v : DSt} {b : Nat} (h : dTou v b = false) (h2 : frN (dNow v) b = false) : cw1 L v b = cmp (sCom v (cpB (dNow v) (dCom v) b)) b := by
  unfold cw1; rw [if_neg (by rw [h]; decide)]; dsimp only; rw [if_neg (by rw [h2]; decide)]
theorem stG_s (n b : Nat) (u : DSt) : stG (n + 1) b u = stG n (b + 1) (if dTou u b then cmp u b else u) := rfl
theorem unG_s (n b : Nat) (u : DSt) : unG (n + 1) b u = unG n (b + 1) (if dTou u b then sNow u (cpB (dBef u) (dNow u) b) else u) := rfl
theorem mcG_s (n b : Nat) (u : DSt) : mcG (n + 1) b u = mcG n (b + 1) (if dDif u b then sDif (sCom u (cpB (dNow u) (dCom u) b)) (va_up (dDif u) b false) else u) := rfl
theorem mdG_s (n b : Nat) (u : DSt) : mdG (n + 1) b u = mdG n (b + 1) (if dDif u b then sDif (sNow u (cpB (dCom u) (dNow u) b)) (va_up (dDif u) b false) else u) := rfl
theorem cwG_s (L n b : Nat) (u : DSt) : cwG L (n + 1) b u = cwG L n (b + 1) (cw1 L u b) := rfl
