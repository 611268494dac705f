/-! THE INODES: what they read of the bytes, and what they do to the disk. -/
def iK (L : Nat) (a : Nat → Int64) (i : Nat) : Nat := bN L a (nI (1600 + 32 * i))
def iS (L : Nat) (a : Nat → Int64) (i : Nat) : Nat := pN L a (nI (1600 + 32 * i + 2))
def iX (L : Nat) (a : Nat → Int64) (i : Nat) : Nat := bN L a (nI (1600 + 32 * i + 1))
def xF (L : Nat) (a : Nat → Int64) (i j : Nat) : Nat := pN L a (nI (1600 + 32 * i + 4 + 3 * j))
def xL (L : Nat) (a : Nat → Int64) (i j : Nat) : Nat := bN L a (nI (1600 + 32 * i + 4 + 3 * j + 2))
theorem iK_lt (L : Nat) (a : Nat → Int64) (i : Nat) : iK L a i < 256 := bN_lt _ _ _
theorem iS_lt (L : Nat) (a : Nat → Int64) (i : Nat) : iS L a i < 65536 := pN_lt _ _ _
theorem iX_lt (L : Nat) (a : Nat → Int64) (i : Nat) : iX L a i < 256 := bN_lt _ _ _
theorem xF_lt (L : Nat) (a : Nat → Int64) (i j : Nat) : xF L a i j < 65536 := pN_lt _ _ _
theorem xL_lt (L : Nat) (a : Nat → Int64) (i j : Nat) : xL L a i j < 256 := bN_lt _ _ _
/-- leastFree: of n inodes from i on -/
def ilG (L : Nat) (a : Nat → Int64) : Nat → Nat → Int32
  | 0, _ => -1
  | n + 1, i => if iK L a i = 0 then nI i else ilG L a n (i + 1)
def ilf (L : Nat) (a : Nat → Int64) : Int32 := ilG L a 64 0
/-- ofKind -/
def ikG (L : Nat) (a : Nat → Int64) (c : Nat) : Nat → Nat → Nat
  | 0, _ => 0
  | n + 1, i => (if iK L a i = c then 1 else 0) + ikG L a c n (i + 1)
def iok (L : Nat) (a : Nat → Int64) (c : Nat) : Nat := ikG L a c 64 0
/-- placeOf: n extents from j on, t bytes left -/
def plG (L : Nat) (a : Nat → Int64) (i : Nat) : Nat → Nat → Nat → Int32
  | 0, _, _ => -1
  | n + 1, j, t => if t < xL L a i j * 64 then nI (xF L a i j * 64 + t) else plG L a i n (j + 1) (t - xL L a i j * 64)
def plc (L : Nat) (a : Nat → Int64) (i t : Nat) : Int32 := plG L a i (iX L a i) 0 t
/-- takeBlock: whether it could, and the disk behind it -/
abbrev tkC (L : Nat) (a : Nat → Int64) (i : Nat) : Prop := 0 < iX L a i ∧ xL L a i (iX L a i - 1) < 255 ∧ frB L a (nI (xF L a i (iX L a i - 1) + xL L a i (iX L a i - 1))) = true
def tkI (L : Nat) (u : DSt) (i : Nat) : Bool × DSt :=
  if tkC L (dNow u) i then (true, setB L (tkB L u (nI (xF L (dNow u) i (iX L (dNow u) i - 1) + xL L (dNow u) i (iX L (dNow u) i - 1)))) (nI (1600 + 32 * i + 4 + 3 * (iX L (dNow u) i - 1) + 2)) (nI (xL L (dNow u) i (iX L (dNow u) i - 1) + 1)))
  else if lfr L (dNow u) = -1 ∨ 8 ≤ iX L (dNow u) i then (false, u)
  else (true, setB L (setP L (setB L (tkB L u (lfr L (dNow u))) (nI (1600 + 32 * i + 1)) (nI (iX L (dNow u) i + 1))) (nI (1600 + 32 * i + 4 + 3 * iX L (dNow u) i)) (lfr L (dNow u))) (nI (1600 + 32 * i + 4 + 3 * iX L (dNow u) i + 2)) (nI 1))
theorem tkI_a {L : Nat} {u : DSt} {i : Nat} (h : tkC L (dNow u) i) : tkI L u i = (true, setB L (tkB L u (nI (xF L (dNow u) i (iX L (dNow u) i - 1) + xL L (dNow u) i (iX L (dNow u) i - 1)))) (nI (1600 + 32 * i + 4 + 3 * (iX L (dNow u) i - 1) + 2)) (nI (xL L (dNow u) i (iX L (dNow u) i - 1) + 1))) := by unfold tkI; rw [if_pos h]
theorem tkI_n {L : Nat} {u : DSt} {i : Nat} (h : ¬ tkC L (dNow u) i) (h2 : lfr L (dNow u) = -1 ∨ 8 ≤ iX L (dNow u) i) : tkI L u i = (false, u) := by unfold tkI; rw [if_neg h, if_pos h2]
theorem tkI_l {L : Nat} {u : DSt} {i : Nat} (h : ¬ tkC L (dNow u) i) (h2 : ¬ lfr L (dNow u) = -1) (h3 : iX L (dNow u) i < 8) : tkI L u i = (true, setB L (setP L (setB L (tkB L u (lfr L (dNow u))) (nI (1600 + 32 * i + 1)) (nI (iX L (dNow u) i + 1))) (nI (1600 + 32 * i + 4 + 3 * iX L (dNow u) i)) (lfr L (dNow u))) (nI (1600 + 32 * i + 4 + 3 * iX L (dNow u) i + 2)) (nI 1)) := by
  unfold tkI; rw [if_neg h, if_neg (by rintro (q | q); exact h2 q; omega)]
/-- giveBlockBack -/
def gv2 (L : Nat) (u : DSt) (i : Nat) : DSt := setB L (gvB L u (nI (xF L (dNow u) i (iX L (dNow u) i - 1) + xL L (dNow u) i (iX L (dNow u) i - 1)) - nI 1)) (nI (1600 + 32 * i + 4 + 3 * (iX L (dNow u) i - 1) + 2)) (nI (xL L (dNow u) i (iX L (dNow u) i - 1)) - nI 1)
def gvI (L : Nat) (u : DSt) (i : Nat) : DSt :=
  if iX L (dNow u) i = 0 then u
  else if xL L (dNow u) i (iX L (dNow u) i - 1) = 1 then setB L (setP L (gv2 L u i) (nI (1600 + 32 * i + 4 + 3 * (iX L (dNow u) i - 1))) (nI 0)) (nI (1600 + 32 * i + 1)) (nI (iX L (dNow u) i - 1))
  else gv2 L u i
theorem gvI_0 {L : Nat} {u : DSt} {i : Nat} (h : iX L (dNow u) i = 0) : gvI L u i = u := by unfold gvI; rw [if_pos h]
theorem gvI_1 {L : Nat} {u : DSt} {i : Nat} (h : 1 ≤ iX L (dNow u) i) (h2 : xL L (dNow u) i (iX L (dNow u) i - 1) = 1) : gvI L u i = setB L (setP L (gv2 L u i) (nI (1600 + 32 * i + 4 + 3 * (iX L (dNow u) i - 1))) (nI 0)) (nI (1600 + 32 * i + 1)) (nI (iX L (dNow u) i - 1)) := by unfold gvI; rw [if_neg (by omega), if_pos h2]
theorem gvI_n {L : Nat} {u : DSt} {i : Nat} (h : 1 ≤ iX L (dNow u) i) (h2 : xL L (dNow u) i (iX L (dNow u) i - 1) ≠ 1) : gvI L u i = gv2 L u i := by unfold gvI; rw [if_neg (by omega), if_neg h2]
theorem sub1_ge {n : Nat} (h : n < 1000000000) (h2 : 0 ≤ nI n - nI 1) : 1 ≤ n := by
  rcases Nat.eq_zero_or_pos n with q | q
  · subst q; exact absurd h2 (by decide)
  · exact q
theorem sub1_lt {n : Nat} (h : n < 1000000000) (h2 : ¬ 0 ≤ nI n - nI 1) : n = 0 := by
  rcases Nat.eq_zero_or_pos n with q | q
  · exact q
  · rw [pk_sub q] at h2; exact absurd (nI_pos' (by omega)) h2
/-- resize -/
def rtG (L i : Nat) : Nat → DSt → Bool × DSt
  | 0, u => (true, u)
  | n + 1, u => if (tkI L u i).1 = true then rtG L i n (tkI L u i).2 else (false, (tkI L u i).2)
def rgG (L i : Nat) : Nat → DSt → DSt
  | 0, u => u
  | n + 1, u => rgG L i n (gvI L u i)
def rzG (L i : Nat) : Nat → Nat → DSt → DSt
  | 0, _, u => u
  | n + 1, t, u => rzG L i n (t + 1) (setB L u (plc L (dNow u) i t) (nI 0))
abbrev blk (n : Nat) : Nat := (n + 64 - 1) / 64
def rs1 (L : Nat) (u : DSt) (i n : Nat) : Bool × DSt := rtG L i (blk n - blk (iS L (dNow u) i)) u
def rs2 (L : Nat) (u : DSt) (i n : Nat) : DSt := rgG L i (blk (iS L (dNow u) i) - blk n) (rs1 L u i n).2
def rs3 (L : Nat) (u : DSt) (i n : Nat) : DSt := rzG L i (min (iS L (dNow u) i) (blk n * 64) - n) n (rs2 L u i n)
def rsz (L : Nat) (u : DSt) (i n : Nat) : Bool × DSt := if (rs1 L u i n).1 = true then (true, setP L (rs3 L u i n) (nI (1600 + 32 * i + 2)) (nI n)) else (false, (rs1 L u i n).2)
def rel (L : Nat) (u : DSt) (i : Nat) : DSt := setB L (rsz L u i 0).2 (nI (1600 + 32 * i)) (nI 0)
