/-! THE CLASS's WORLD: g the addresses (0 disk, 1 now, 2 committed, 3 before, 4 touched, 5 differs, 6 inodes, 7 directories, 8 parents, 9 the object, 10 tape), k the array classes (0 long, 1 boolean, 2 int), L the blocks. -/
abbrev tyC (k : Nat → ClassId) : List (ClassId × FieldType) := [(k 0, .long), (k 1, .boolean), (k 2, .int)]
def wD (g : Nat → Nat) (k : Nat → ClassId) (L : Nat) (u : DSt) : va_W := [(g 0, .inr (1, [.int (nI L), .ref (g 1), .ref (g 2), .ref (g 3), .ref (g 4), .ref (g 5), .int (dEa u)])), (g 1, .inl (k 0, L * 8, .inr (.inl (dNow u)))), (g 2, .inl (k 0, L * 8, .inr (.inl (dCom u)))), (g 3, .inl (k 0, L * 8, .inr (.inl (dBef u)))), (g 4, .inl (k 1, L, .inl (fun j => zI (dTou u j)))), (g 5, .inl (k 1, L, .inl (fun j => zI (dDif u j))))]
def hI (g : Nat → Nat) : va_W := [(g 6, .inr (2, [.ref (g 0)]))]
def wI (g : Nat → Nat) (k : Nat → ClassId) (L : Nat) (u : DSt) : va_W := hI g ++ wD g k L u
def hR (g : Nat → Nat) (k : Nat → ClassId) (f : Nat → Int32) : va_W := [(g 7, .inr (0, [.ref (g 0), .ref (g 6), .ref (g 8)])), (g 8, .inl (k 2, 64, .inl f))]
def wR (g : Nat → Nat) (k : Nat → ClassId) (L : Nat) (u : DSt) (f : Nat → Int32) : va_W := hR g k f ++ wI g k L u
def hT (g : Nat → Nat) (k : Nat → ClassId) (n : Nat) (f : Nat → Int32) : va_W := [(g 9, .inr (3, [.ref (g 0), .ref (g 6), .ref (g 7), .ref (g 10), .int (nI n)])), (g 10, .inl (k 2, 512, .inl f))]
def wT (g : Nat → Nat) (k : Nat → ClassId) (L : Nat) (u : DSt) (f : Nat → Int32) (n : Nat) (tp : Nat → Int32) : va_W := hT g k n tp ++ wR g k L u f
def wA (a0 a1 : Nat) (k : Nat → ClassId) (L : Nat) (f h : Nat → Int64) : va_W := [(a0, .inl (k 0, L * 8, .inr (.inl f))), (a1, .inl (k 0, L * 8, .inr (.inl h)))]
