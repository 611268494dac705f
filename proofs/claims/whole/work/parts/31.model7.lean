/-! THE REFERENCE's 'does': an operation tried, brought back, tried again behind a commit. -/
theorem ks_B {r : RSt} (h : rB r) : rB (ksR r) := rBc_aw (rBc_ao (rBc_an h (fun q => (h q).2.1)) (fun q => (h q).2.2.1)) (fun q => (h q).2.2.2.1)
theorem bb_B {r : RSt} (h : rB r) : rB (bbR r) := rBc_nw (rBc_ow (rBc_nd h (fun q => (h q).2.2.2.2.2.2.2.1)) (fun q => (h q).2.2.2.2.2.2.2.2.1)) (fun q => (h q).2.2.2.2.2.2.2.2.2)
def rdR (L : Nat) (a : RSt) : RSt := qCm (cmR L (bbR a)) (rCm (cmR L (bbR a)) + nI 1)
def dsR (L : Nat) (op : RSt → Int32 × RSt) (r : RSt) : Int32 × RSt :=
  if 0 ≤ (op (ksR r)).1 then (if 24 < chR L (op (ksR r)).2 then op (rdR L (op (ksR r)).2) else op (ksR r)) else ((op (ksR r)).1, bbR (op (ksR r)).2)
def dsP (L : Nat) (op : RSt → Int32 × RSt) (P : RSt → Prop) (r : RSt) : Prop :=
  P (ksR r) ∧ rB (op (ksR r)).2 ∧ (0 ≤ (op (ksR r)).1 → (∀ i, i < 64 → rNd (op (ksR r)).2 (20 * i + 2) ≤ 8) ∧ (∀ i, i < 64 → rNd (bbR (op (ksR r)).2) (20 * i + 2) ≤ 8) ∧ (24 < chR L (op (ksR r)).2 → rB (rdR L (op (ksR r)).2) ∧ P (rdR L (op (ksR r)).2)))
def pMk (L : Nat) (d : Nat) (r : RSt) : Prop := okR L r ∧ rNd r (20 * d + 1) < 65000
def pWr (L : Nat) (i : Nat) (r : RSt) : Prop := okR L r ∧ rNd r (20 * i + 1) < 60000
def pMv (L : Nat) (d d2 w2 : Nat) (r : RSt) : Prop := okR L r ∧ rNd r (20 * d2 + 1) < 65000 ∧ (0 ≤ bdR r d → ∀ e, e < rNd r (20 * d + 1) / 4 → iaR r d e < 64) ∧ (0 ≤ bdR r d2 → ∀ e, e < rNd r (20 * d2 + 1) / 4 → iaR r d2 e < 64) ∧ (0 ≤ bdR r d2 → ∀ e, e < rNd r (20 * d2 + 1) / 4 → nmR r d2 e = w2 → iaR r d2 e ≠ d2) ∧ (0 ≤ bdR r d2 → ∀ i, i < 64 → upE r i 65 (nI d2) = true)
def pRm (L : Nat) (d w : Nat) (r : RSt) : Prop := okR L r ∧ (0 ≤ bdR r d → ∀ e, e < rNd r (20 * d + 1) / 4 → iaR r d e < 64) ∧ (0 ≤ bdR r d → ∀ e, e < rNd r (20 * d + 1) / 4 → nmR r d e = w → iaR r d e ≠ d)
abbrev opMk (L d w c : Nat) : RSt → Int32 × RSt := fun r => mkR L r d w (if c = 1 then 2 else 1)
abbrev opWr (L i : Nat) (x : Int32) (n : Nat) : RSt → Int32 × RSt := fun r => wwR L r i x n
abbrev opCt (L i : Nat) (x : Int32) : RSt → Int32 × RSt := fun r => ccR L r i x
abbrev opMv (L d w d2 w2 : Nat) : RSt → Int32 × RSt := fun r => mvR L r d w d2 w2
abbrev opRm (d w : Nat) : RSt → Int32 × RSt := fun r => rrR r d w
theorem inB_f {n a b : Nat} (ha : a ≤ n) (hn : n ≤ b) (hb : b < 2147483648) : (!inR (nI n) (nI a) (nI b)) = false := by
  rw [inR_N (by omega) (by omega) hb, decide_eq_true ⟨ha, hn⟩]; rfl
