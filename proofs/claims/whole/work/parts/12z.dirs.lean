/-! THE DIRECTORIES: entries by their places. -/
/-- entryNamed: n entries from offset t on -/
def enG (L : Nat) (a : Nat → Int64) (d w : Nat) : Nat → Nat → Int32
  | 0, _ => -1
  | n + 1, t => if pN L a (plc L a d t) = w then plc L a d t else enG L a d w n (t + 4)
def ent (L : Nat) (a : Nat → Int64) (d w : Nat) : Int32 := enG L a d w ((iS L a d + 3 - 0) / 4) 0
def ino (L : Nat) (a : Nat → Int64) (x : Int32) : Nat := bN L a (x + nI 2)
theorem ino_lt (L : Nat) (a : Nat → Int64) (x : Int32) : ino L a x < 256 := bN_lt _ _ _
/-- isEmpty -/
def emG (L : Nat) (a : Nat → Int64) (d : Nat) : Nat → Nat → Bool
  | 0, _ => true
  | n + 1, t => if pN L a (plc L a d t) = 0 then emG L a d n (t + 4) else false
def emp (L : Nat) (a : Nat → Int64) (d : Nat) : Bool := emG L a d ((iS L a d + 3 - 0) / 4) 0
/-- setEntry -/
def stE (L : Nat) (u : DSt) (x w i : Int32) : DSt := setB L (setP L u x w) (x + nI 2) i
/-- addEntry -/
def adE (L : Nat) (u : DSt) (d : Nat) (w i : Int32) : Bool × DSt :=
  if ent L (dNow u) d 0 = -1 then
    if (rsz L u d (iS L (dNow u) d + 64)).1 = true then (true, stE L (rsz L u d (iS L (dNow u) d + 64)).2 (plc L (dNow (rsz L u d (iS L (dNow u) d + 64)).2) d (iS L (dNow u) d)) w i)
    else (false, (rsz L u d (iS L (dNow u) d + 64)).2)
  else (true, stE L u (ent L (dNow u) d 0) w i)
/-- fillParents: the entries of one directory; all directories -/
def fiG (L : Nat) (a : Nat → Int64) (d : Nat) : Nat → Nat → (Nat → Int32) → (Nat → Int32)
  | 0, _, f => f
  | n + 1, t, f => fiG L a d n (t + 4) (if 0 < ino L a (plc L a d t) ∧ ino L a (plc L a d t) < 64 then va_up f (ino L a (plc L a d t)) (nI d) else f)
def fsz (L : Nat) (a : Nat → Int64) (d : Nat) : Nat := if iK L a d = 2 then iS L a d else 0
theorem fsz_lt (L : Nat) (a : Nat → Int64) (d : Nat) : fsz L a d < 65536 := by
  unfold fsz; split
  · exact iS_lt _ _ _
  · decide
def foG (L : Nat) (a : Nat → Int64) : Nat → Nat → (Nat → Int32) → (Nat → Int32)
  | 0, _, f => f
  | n + 1, d, f => foG L a n (d + 1) (fiG L a d ((fsz L a d + 3 - 0) / 4) 0 f)
def fil (L : Nat) (a : Nat → Int64) (f : Nat → Int32) : Nat → Int32 := foG L a 64 0 f
/-- isWithin: n levels more -/
def wiG (f : Nat → Int32) (o : Int32) : Nat → Int32 → Int32
  | 0, x => x
  | n + 1, x => if x = 0 ∨ x = o then x else wiG f o n (if 0 < x ∧ x < nI 64 then f x.toNatClampNeg else nI 0)
def wit (L : Nat) (a : Nat → Int64) (f : Nat → Int32) (d : Nat) (o : Int32) : Bool := decide (wiG (fil L a f) o 64 (nI d) = o)
