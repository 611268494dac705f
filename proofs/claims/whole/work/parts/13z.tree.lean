/-! THE FACE: what each call answers and does, of legal arguments (those that don't throw). -/
def kfl (x c : Nat) : Int32 := if x = 0 then -1 else if x = c then nI 0 else -5
def eof (L : Nat) (a : Nat → Int64) (d w : Nat) : Int32 := if 0 ≤ kfl (iK L a d) 2 then ent L a d w else kfl (iK L a d) 2
def hsE (L : Nat) (a : Nat → Int64) (i : Nat) : Bool := decide (iK L a i = 2) && !emp L a i
/-- moveFault: the answer; whether the parents were filled -/
def mvF (L : Nat) (a : Nat → Int64) (f : Nat → Int32) (i d : Nat) (x : Int32) : Int32 :=
  if x ≠ -1 ∧ ¬ (iK L a i = 2 ↔ iK L a (ino L a x) = 2) then -5
  else if x ≠ -1 ∧ hsE L a (ino L a x) = true then -6
  else if iK L a i = 2 ∧ wit L a f d (nI i) = true then -7
  else nI 0
def mvP (L : Nat) (a : Nat → Int64) (f : Nat → Int32) (i : Nat) (x : Int32) : Nat → Int32 :=
  if x ≠ -1 ∧ ¬ (iK L a i = 2 ↔ iK L a (ino L a x) = 2) then f
  else if x ≠ -1 ∧ hsE L a (ino L a x) = true then f
  else if iK L a i = 2 then fil L a f else f
/-- make -/
def mkC (L : Nat) (u : DSt) (d w c : Nat) : Int32 × DSt :=
  if 0 ≤ kfl (iK L (dNow u) d) 2 then
    if ent L (dNow u) d w = -1 then
      if ilf L (dNow u) = -1 then (-3, u)
      else if (adE L u d (nI w) (ilf L (dNow u))).1 = true then (ilf L (dNow u), stl L (setB L (adE L u d (nI w) (ilf L (dNow u))).2 (nI (1600 + 32 * (ilf L (dNow u)).toNatClampNeg)) (nI c)))
      else (-4, und L (adE L u d (nI w) (ilf L (dNow u))).2)
    else (-2, u)
  else (kfl (iK L (dNow u) d) 2, u)
/-- find -/
def fdC (L : Nat) (a : Nat → Int64) (d w : Nat) : Int32 := if 0 ≤ eof L a d w then nI (ino L a (eof L a d w)) else eof L a d w
/-- write: n bytes more, from byte j of the tape on -/
def wrG (L i t : Nat) (f : Nat → Int32) : Nat → Nat → DSt → DSt
  | 0, _, u => u
  | n + 1, j, u => wrG L i t f n (j + 1) (setB L u (plc L (dNow u) i (t + j)) (f j))
def wrN (L : Nat) (u : DSt) (i t n : Nat) (f : Nat → Int32) : Int32 × DSt :=
  if (rsz L u i (max (iS L (dNow u) i) (t + n))).1 = true then (nI (max (iS L (dNow u) i) (t + n)), stl L (wrG L i t f n 0 (rsz L u i (max (iS L (dNow u) i) (t + n))).2))
  else (-4, und L (rsz L u i (max (iS L (dNow u) i) (t + n))).2)
def wrC (L : Nat) (u : DSt) (i : Nat) (x : Int32) (n : Nat) (f : Nat → Int32) : Int32 × DSt :=
  if 0 ≤ kfl (iK L (dNow u) i) 1 then
    if x < 0 ∨ nI (iS L (dNow u) i) < x then (-8, u) else wrN L u i x.toNatClampNeg n f
  else (kfl (iK L (dNow u) i) 1, u)
/-- cut -/
def ctN (L : Nat) (u : DSt) (i n : Nat) : Int32 × DSt := if (rsz L u i n).1 = true then (nI n, stl L (rsz L u i n).2) else (-4, und L (rsz L u i n).2)
def ctC (L : Nat) (u : DSt) (i : Nat) (x : Int32) : Int32 × DSt :=
  if 0 ≤ kfl (iK L (dNow u) i) 1 then
    if x < 0 ∨ nI (iS L (dNow u) i + 1024) < x then (-8, u) else ctN L u i x.toNatClampNeg
  else (kfl (iK L (dNow u) i) 1, u)
/-- read: eight bytes from t on -/
def rdG (L : Nat) (a : Nat → Int64) (i t : Nat) : Nat → Int64
  | 0 => 0
  | j + 1 => rdG L a i t j ||| ((nI (bN L a (plc L a i (t + j)))).toInt64 <<< ((nI (8 * j)).toInt64 &&& 63))
/-- move -/
abbrev mv1 (L : Nat) (u : DSt) (x : Int32) : DSt := stE L u x (nI 0) (nI 0)
def mvD (L : Nat) (u : DSt) (x : Int32) (i d w : Nat) (y : Int32) : Int32 × DSt :=
  if y = -1 then
    if (adE L (mv1 L u x) d (nI w) (nI i)).1 = true then (nI 0, stl L (adE L (mv1 L u x) d (nI w) (nI i)).2) else (-4, und L (adE L (mv1 L u x) d (nI w) (nI i)).2)
  else (nI 0, stl L (stE L (rel L (mv1 L u x) (ino L (dNow (mv1 L u x)) y)) y (nI w) (nI i)))
def mvC (L : Nat) (u : DSt) (f : Nat → Int32) (d w d2 w2 : Nat) : Int32 × DSt :=
  if 0 ≤ eof L (dNow u) d w then
    if 0 ≤ kfl (iK L (dNow u) d2) 2 then
      if d = d2 ∧ w = w2 then (nI 0, u)
      else if 0 ≤ mvF L (dNow u) f (ino L (dNow u) (eof L (dNow u) d w)) d2 (ent L (dNow u) d2 w2) then mvD L u (eof L (dNow u) d w) (ino L (dNow u) (eof L (dNow u) d w)) d2 w2 (ent L (dNow u) d2 w2)
      else (mvF L (dNow u) f (ino L (dNow u) (eof L (dNow u) d w)) d2 (ent L (dNow u) d2 w2), u)
    else (kfl (iK L (dNow u) d2) 2, u)
  else (eof L (dNow u) d w, u)
/-- remove -/
def rmC (L : Nat) (u : DSt) (d w : Nat) : Int32 × DSt :=
  if 0 ≤ eof L (dNow u) d w then
    if hsE L (dNow u) (ino L (dNow u) (eof L (dNow u) d w)) = true then (-6, u)
    else (nI 0, stl L (rel L (mv1 L u (eof L (dNow u) d w)) (ino L (dNow u) (eof L (dNow u) d w))))
  else (eof L (dNow u) d w, u)

theorem ilG_of (L : Nat) (a : Nat → Int64) : ∀ n i, ilG L a n i ≠ -1 → ∃ j, i ≤ j ∧ j < i + n ∧ ilG L a n i = nI j := by
  intro n
  induction n with
  | zero => intro i h; exact absurd rfl h
  | succ n ih =>
    intro i h
    by_cases hk : iK L a i = 0
    · exact ⟨i, Nat.le_refl _, by omega, by rw [ilG, if_pos hk]⟩
    · rw [ilG, if_neg hk] at h ⊢
      obtain ⟨j, h1, h2, h3⟩ := ih (i + 1) h
      exact ⟨j, by omega, by omega, h3⟩
theorem ilf_of {L : Nat} {a : Nat → Int64} (h : ¬ ilf L a = -1) : ∃ j, j < 64 ∧ ilf L a = nI j := by
  obtain ⟨j, -, h2, h3⟩ := ilG_of L a 64 0 h
  exact ⟨j, by omega, h3⟩
/-- the byte i of v, as feed stores it -/
def fby (v : Int64) (i : Nat) : Int32 := (((v.toUInt64 >>> ((nI (8 * i)).toInt64.toUInt64 &&& Int64.toUInt64 63)).toInt64).toInt32 &&& nI 255)
def fdT (tp : Nat → Int32) (n : Nat) (v : Int64) : Nat → (Nat → Int32)
  | 0 => tp
  | i + 1 => va_up (fdT tp n v i) (n + i) (fby v i)
theorem hby_in {L b j : Nat} (hb : b < L) (hj : j < 64) (hL : L ≤ 768) : (hsB L (nI b) && !decide (nI j < 0 ∨ nI 64 ≤ nI j)) = true := by
  rw [hsB_in hb hL]
  have h1 : ¬ nI j < 0 := nI_pos (by omega)
  have h2 : ¬ nI 64 ≤ nI j := nI_ge hj (by decide)
  simp only [h1, h2, or_self, decide_false, Bool.not_false, Bool.and_self]
/-- what move leaves in the parents -/
def mv2 (L : Nat) (a : Nat → Int64) (f : Nat → Int32) (d w d2 w2 : Nat) : Nat → Int32 :=
  if 0 ≤ eof L a d w ∧ 0 ≤ kfl (iK L a d2) 2 ∧ ¬ (d = d2 ∧ w = w2) then mvP L a f (ino L a (eof L a d w)) (ent L a d2 w2) else f
def ndC (L : Nat) (a : Nat → Int64) (i w : Nat) : Nat := if w = 0 then iK L a i else if w = 1 then iS L a i else if w = 2 then iX L a i else if w % 2 = 1 then xF L a i ((w - 3) / 2) else xL L a i ((w - 3) / 2)
def lkC (L : Nat) (u : DSt) (n w : Nat) : Int32 := match w with
  | 0 => nI L
  | 1 => nI (fbs L (dNow u))
  | 2 => nI (iok L (dNow u) 0)
  | 3 => nI (dct L (dDif u))
  | 4 => dEa u
  | 5 => nI n
  | _ => nI (iok L (dNow u) 2)
