/-- the way up from x: is i met; has it ended, within n steps -/
def upG (r : RSt) (i : Nat) : Nat → Int32 → Bool
  | 0, _ => false
  | n + 1, x => if x < 0 then false else if x = nI i then true else upG r i n (paR r x.toNatClampNeg)
def upE (r : RSt) (i : Nat) : Nat → Int32 → Bool
  | 0, _ => false
  | n + 1, x => if x < 0 then true else if x = nI i then true else upE r i n (paR r x.toNatClampNeg)
theorem up_s {r : RSt} {i m z : Nat} (hz : z < 64) (hi : i < 64) (hne : z ≠ i) (h : upE r i m (nI z) = true) : 1 ≤ m ∧ upE r i (m - 1) (paR r z) = true ∧ upG r i (m - 1) (paR r z) = upG r i m (nI z) := by
  obtain ⟨n, rfl⟩ : ∃ n, m = n + 1 := by
    rcases m with _ | n
    · cases h
    · exact ⟨n, rfl⟩
  have h1 : ¬ nI z < 0 := nI_pos (by omega)
  have h2 : ¬ nI z = nI i := fun q => hne ((nI_eq (by omega) (by omega)).mp q)
  rw [upE, if_neg h1, if_neg h2, nI_clamp (by omega)] at h
  refine ⟨by omega, h, ?_⟩
  rw [upG, if_neg h1, if_neg h2, nI_clamp (by omega)]; rfl
theorem up_y {r : RSt} {i m : Nat} (hi : i < 64) (h : upE r i m (nI i) = true) : upG r i m (nI i) = true := by
  rcases m with _ | n
  · cases h
  · rw [upG, if_neg (nI_pos (by omega)), if_pos rfl]
theorem up_n {r : RSt} {i m : Nat} {x : Int32} (hx : x < 0) : upG r i m x = false := by
  rcases m with _ | n
  · rfl
  · rw [upG, if_pos hx]
theorem pt_W {r : RSt} {i c v : Nat} (h : ∀ q, rNw r q < 256) (hv : v < 256) : ∀ q, rNw (ptR r i c v) q < 256 := fun q => by
  show va_up (rNw r) _ v q < 256
  unfold va_up; split
  · exact hv
  · exact h q
theorem ok_en {L : Nat} {r : RSt} {d e w i : Nat} (h : okR L r) (hw : w < 65536) (hi : i < 256) : okR L (enR r d e w i) := ⟨h.1, h.2.1, pt_W (pt_W (pt_W h.2.2 (Nat.mod_lt _ (by decide))) (Nat.div_lt_of_lt_mul (by omega))) hi⟩
/-- moves -/
def m3R (L : Nat) (r : RSt) (d e i d2 w2 : Nat) : Int32 × RSt := (if (adR L (enR r d e 0 0) d2 w2 i).1 = true then nI 0 else -4, (adR L (enR r d e 0 0) d2 w2 i).2)
def m2R (L : Nat) (r : RSt) (d e i d2 w2 : Nat) (x : Int32) : Int32 × RSt :=
  if 0 ≤ x then
    if rNd r (20 * i) = rNd r (20 * iaR r d2 x.toNatClampNeg) then
      if rNd r (20 * iaR r d2 x.toNatClampNeg) = 2 ∧ ieR r (iaR r d2 x.toNatClampNeg) = false then (-6, r)
      else if rNd r (20 * i) = 2 ∧ upG r i 65 (nI d2) = true then (-7, r)
      else (nI 0, enR (frR (enR r d e 0 0) (iaR r d2 x.toNatClampNeg)) d2 x.toNatClampNeg w2 i)
    else (-5, r)
  else if rNd r (20 * i) = 2 ∧ upG r i 65 (nI d2) = true then (-7, r)
  else m3R L r d e i d2 w2
def m1R (L : Nat) (r : RSt) (d w d2 w2 : Nat) : Int32 × RSt :=
  if 0 ≤ bdR r d2 then
    if 0 ≤ eoR r d2 w2 ∧ d2 = d ∧ eoR r d2 w2 = eoR r d w then (nI 0, r)
    else m2R L r d (eoR r d w).toNatClampNeg (iaR r d (eoR r d w).toNatClampNeg) d2 w2 (eoR r d2 w2)
  else (bdR r d2, r)
def mvR (L : Nat) (r : RSt) (d w d2 w2 : Nat) : Int32 × RSt :=
  if 0 ≤ bdR r d then
    if 0 ≤ eoR r d w then m1R L r d w d2 w2 else (-1, r)
  else (bdR r d, r)
