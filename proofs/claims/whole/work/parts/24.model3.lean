/-! THE REFERENCE takes and gives blocks. -/
def fwG (f : Nat → Nat) : Nat → Nat → Nat
  | 0, b => b
  | n + 1, b => if 0 < f b then fwG f n (b + 1) else b
def foR (L : Nat) (f : Nat → Nat) : Nat := fwG f L 0
theorem fwG_le (f : Nat → Nat) : ∀ n b, b ≤ fwG f n b ∧ fwG f n b ≤ b + n := by
  intro n
  induction n with
  | zero => intro b; exact ⟨Nat.le_refl _, Nat.le_refl _⟩
  | succ n ih => intro b; have := ih (b + 1); unfold fwG; split <;> omega
theorem foR_le (L : Nat) (f : Nat → Nat) : foR L f ≤ L := by have := (fwG_le f L 0).2; unfold foR; omega
/-- the first j bytes of block b are 0 -/
def zrM (f : Nat → Nat) (b j : Nat) : Nat → Nat := fun q => if 64 * b ≤ q ∧ q < 64 * b + j then 0 else f q
theorem zrM_0 (f : Nat → Nat) (b : Nat) : zrM f b 0 = f := by funext q; unfold zrM; rw [if_neg (by omega)]
theorem zrM_s (f : Nat → Nat) (b j : Nat) : va_up (zrM f b j) (64 * b + j) 0 = zrM f b (j + 1) := by
  funext q; unfold va_up zrM
  by_cases h : q = 64 * b + j
  · rw [if_pos h, if_pos (by omega)]
  · rw [if_neg h]
    by_cases h2 : 64 * b ≤ q ∧ q < 64 * b + j
    · rw [if_pos h2, if_pos (by omega)]
    · rw [if_neg h2, if_neg (by omega)]
theorem zrM_B {f : Nat → Nat} {b j : Nat} (h : ∀ q, f q < 65536) (q : Nat) : zrM f b j q < 65536 := by
  unfold zrM; split
  · decide
  · exact h q
theorem rB_zr {r : RSt} {b j : Nat} (h : rB r) : rB (qNw r (zrM (rNw r) b j)) := fun q => ⟨(h q).1, (h q).2.1, (h q).2.2.1, zrM_B (fun q => (h q).2.2.2.1) q, (h q).2.2.2.2⟩
abbrev lX (r : RSt) (i : Nat) : Nat := rNd r (20 * i + 2)
abbrev lF (r : RSt) (i : Nat) : Nat := rNd r (20 * i + 3 + 2 * (lX r i - 1))
abbrev lN' (r : RSt) (i : Nat) : Nat := rNd r (20 * i + 4 + 2 * (lX r i - 1))
abbrev tkc (L : Nat) (r : RSt) (i : Nat) : Prop := 1 ≤ lX r i ∧ lF r i + lN' r i < L ∧ rOw r (lF r i + lN' r i) = 0 ∧ lN' r i < 255
def tkF (r : RSt) (i e b : Nat) : RSt := qNw (qOw (qNd r (va_up (rNd r) (20 * i + 4 + 2 * e) (rNd r (20 * i + 4 + 2 * e) + 1))) (va_up (rOw r) b (i + 1))) (zrM (rNw r) b 64)
def tkX (r : RSt) (i e b : Nat) : RSt := qNd r (va_up (va_up (va_up (rNd r) (20 * i + 2) (e + 1)) (20 * i + 3 + 2 * e) b) (20 * i + 4 + 2 * e) 0)
def tkR (L : Nat) (r : RSt) (i : Nat) : Bool × RSt :=
  if tkc L r i then (true, tkF r i (lX r i - 1) (lF r i + lN' r i))
  else if foR L (rOw r) = L ∨ lX r i = 8 then (false, r)
  else (true, tkF (tkX r i (lX r i) (foR L (rOw r))) i (lX r i) (foR L (rOw r)))
theorem tkR_a {L : Nat} {r : RSt} {i : Nat} (h : tkc L r i) : tkR L r i = (true, tkF r i (lX r i - 1) (lF r i + lN' r i)) := by unfold tkR; rw [if_pos h]
theorem tkR_n {L : Nat} {r : RSt} {i : Nat} (h : ¬ tkc L r i) (h2 : foR L (rOw r) = L ∨ lX r i = 8) : tkR L r i = (false, r) := by unfold tkR; rw [if_neg h, if_pos h2]
theorem tkR_l {L : Nat} {r : RSt} {i : Nat} (h : ¬ tkc L r i) (h2 : ¬ foR L (rOw r) = L) (h3 : ¬ lX r i = 8) : tkR L r i = (true, tkF (tkX r i (lX r i) (foR L (rOw r))) i (lX r i) (foR L (rOw r))) := by unfold tkR; rw [if_neg h, if_neg (fun z => z.elim h2 h3)]
/-- gives -/
def gv1 (r : RSt) (i : Nat) : RSt := qNd r (va_up (rNd r) (20 * i + 4 + 2 * (lX r i - 1)) (lN' r i - 1))
def gvW (r : RSt) (i : Nat) : RSt := qOw (gv1 r i) (va_up (rOw r) (rNd (gv1 r i) (20 * i + 3 + 2 * (lX r i - 1)) + rNd (gv1 r i) (20 * i + 4 + 2 * (lX r i - 1))) 0)
def gv3 (r : RSt) (i : Nat) : RSt := qNd (gvW r i) (va_up (rNd (gvW r i)) (20 * i + 3 + 2 * (lX r i - 1)) 0)
def gvR (r : RSt) (i : Nat) : RSt := if 0 < rNd (gvW r i) (20 * i + 4 + 2 * (lX r i - 1)) then gvW r i else qNd (gv3 r i) (va_up (rNd (gv3 r i)) (20 * i + 2) (rNd (gv3 r i) (20 * i + 2) - 1))
/-- the node's numbers are well -/
def wfN (f : Nat → Nat) (L : Nat) : Prop := ∀ i, i < 64 → f (20 * i + 2) ≤ 8 ∧ ∀ j, j < f (20 * i + 2) → 1 ≤ f (20 * i + 4 + 2 * j) ∧ f (20 * i + 4 + 2 * j) ≤ 255 ∧ f (20 * i + 3 + 2 * j) + f (20 * i + 4 + 2 * j) ≤ L
theorem wf_X {f : Nat → Nat} {L : Nat} (h : wfN f L) : ∀ i, i < 64 → f (20 * i + 2) ≤ 8 := fun i hi => (h i hi).1
theorem bs_up {f : Nat → Nat} {i q x : Nat} : ∀ e, (∀ j, j < e → 20 * i + 4 + 2 * j ≠ q) → bs (va_up f q x) i e = bs f i e := by
  intro e
  induction e with
  | zero => intro _; rfl
  | succ e ih => intro h; unfold bs; rw [ih (fun j hj => h j (by omega)), va_up_ne _ _ (h e (by omega))]
theorem bkG_lt {f : Nat → Nat} {L i : Nat} (h : wfN f L) (hi : i < 64) : ∀ n e t, e + n = f (20 * i + 2) → bs f i e + t < bs f i (f (20 * i + 2)) → ∀ m, n ≤ m → bkG f i m e t < L := by
  intro n
  induction n with
  | zero => intro e t he ht; rw [← he, Nat.add_zero] at ht; omega
  | succ n ih =>
    intro e t he ht m hm
    obtain ⟨m', rfl⟩ : ∃ m', m = m' + 1 := ⟨m - 1, by omega⟩
    have hw := (h i hi).2 e (by omega)
    unfold bkG
    by_cases hc : t < f (20 * i + 4 + 2 * e)
    · rw [if_pos hc]; omega
    · rw [if_neg hc]
      exact ih (e + 1) _ (by omega) (by rw [bs]; omega) m' (by omega)
theorem wf_G {f : Nat → Nat} {L : Nat} (h : wfN f L) (hL : L ≤ 768) : ∀ i, i < 64 → ∀ t, t < bsR f i → bkR f i t < 768 := by
  intro i hi t ht
  have := bkG_lt h hi (f (20 * i + 2)) 0 t (by omega) (by have e0 : bs f i 0 = 0 := rfl; unfold bsR at ht; omega) 8 ((h i hi).1)
  unfold bkR; omega
/-- takes: what the node is behind it -/
theorem tkF_nd (r : RSt) (i e b : Nat) : rNd (tkF r i e b) = va_up (rNd r) (20 * i + 4 + 2 * e) (rNd r (20 * i + 4 + 2 * e) + 1) := rfl
theorem tkX_nd (r : RSt) (i e b : Nat) : rNd (tkX r i e b) = va_up (va_up (va_up (rNd r) (20 * i + 2) (e + 1)) (20 * i + 3 + 2 * e) b) (20 * i + 4 + 2 * e) 0 := rfl
theorem tk_wfA {L : Nat} {r : RSt} {i : Nat} (hi : i < 64) (h : wfN (rNd r) L) (hc : tkc L r i) : wfN (rNd (tkF r i (lX r i - 1) (lF r i + lN' r i))) L ∧ bsR (rNd (tkF r i (lX r i - 1) (lF r i + lN' r i))) i = bsR (rNd r) i + 1 := by
  obtain ⟨c1, c2, c3, c4⟩ := hc
  have hX : lX r i ≤ 8 := (h i hi).1
  have ex : va_up (rNd r) (20 * i + 4 + 2 * (lX r i - 1)) (lN' r i + 1) (20 * i + 2) = lX r i := va_up_ne _ _ (by omega)
  rw [tkF_nd]
  constructor
  · intro a ha
    by_cases e : a = i
    · subst e
      rw [ex]
      refine ⟨hX, fun j hj => ?_⟩
      have hw := (h a hi).2 j hj
      by_cases ej : j = lX r a - 1
      · subst ej; rw [va_up_self, va_up_ne _ _ (by omega)]; exact ⟨show 1 ≤ lN' r a + 1 by omega, show lN' r a + 1 ≤ 255 by omega, show lF r a + (lN' r a + 1) ≤ L by omega⟩
      · rw [va_up_ne _ _ (by omega), va_up_ne _ _ (by omega)]; exact hw
    · have e1 : ∀ q, 20 * a ≤ q → q < 20 * a + 20 → va_up (rNd r) (20 * i + 4 + 2 * (lX r i - 1)) (lN' r i + 1) q = rNd r q := fun q h1 h2 => va_up_ne _ _ (by omega)
      have hw := h a ha
      rw [e1 _ (by omega) (by omega)]
      refine ⟨hw.1, fun j hj => ?_⟩
      have h8 := hw.1
      rw [e1 _ (by omega) (by omega), e1 _ (by omega) (by omega)]
      exact hw.2 j hj
  · unfold bsR
    rw [ex]
    obtain ⟨x, hx⟩ : ∃ x, lX r i = x + 1 := ⟨lX r i - 1, by omega⟩
    show bs _ i (lX r i) = bs (rNd r) i (lX r i) + 1
    rw [hx, Nat.add_sub_cancel, bs, bs, bs_up x (fun j hj => by omega), va_up_self]
    omega
theorem tk_wfB {L : Nat} {r : RSt} {i b : Nat} (hi : i < 64) (h : wfN (rNd r) L) (hb : b < L) (h8 : ¬ lX r i = 8) : wfN (rNd (tkF (tkX r i (lX r i) b) i (lX r i) b)) L ∧ bsR (rNd (tkF (tkX r i (lX r i) b) i (lX r i) b)) i = bsR (rNd r) i + 1 := by
  have hX : lX r i ≤ 8 := (h i hi).1
  have hx7 : lX r i ≤ 7 := by omega
  rw [tkF_nd, tkX_nd, va_up_self]
  generalize hx : lX r i = x at *
  have exX : va_up (va_up (va_up (va_up (rNd r) (20 * i + 2) (x + 1)) (20 * i + 3 + 2 * x) b) (20 * i + 4 + 2 * x) 0) (20 * i + 4 + 2 * x) (0 + 1) (20 * i + 2) = x + 1 := by
    rw [va_up_ne _ _ (by omega), va_up_ne _ _ (by omega), va_up_ne _ _ (by omega), va_up_self]
  have eo : ∀ q, q ≠ 20 * i + 2 → q ≠ 20 * i + 3 + 2 * x → q ≠ 20 * i + 4 + 2 * x → va_up (va_up (va_up (va_up (rNd r) (20 * i + 2) (x + 1)) (20 * i + 3 + 2 * x) b) (20 * i + 4 + 2 * x) 0) (20 * i + 4 + 2 * x) (0 + 1) q = rNd r q := fun q h1 h2 h3 => by
    rw [va_up_ne _ _ h3, va_up_ne _ _ h3, va_up_ne _ _ h2, va_up_ne _ _ h1]
  have eF : va_up (va_up (va_up (va_up (rNd r) (20 * i + 2) (x + 1)) (20 * i + 3 + 2 * x) b) (20 * i + 4 + 2 * x) 0) (20 * i + 4 + 2 * x) (0 + 1) (20 * i + 3 + 2 * x) = b := by
    rw [va_up_ne _ _ (by omega), va_up_ne _ _ (by omega), va_up_self]
  constructor
  · intro a ha
    by_cases e : a = i
    · subst e
      rw [exX]
      refine ⟨by omega, fun j hj => ?_⟩
      by_cases ej : j = x
      · subst ej; rw [va_up_self, eF]; refine ⟨by omega, by omega, by omega⟩
      · rw [eo _ (by omega) (by omega) (by omega), eo _ (by omega) (by omega) (by omega)]
        exact (h a hi).2 j (by rw [show rNd r (20 * a + 2) = x from hx]; omega)
    · have hw := h a ha
      rw [eo _ (by omega) (by omega) (by omega)]
      refine ⟨hw.1, fun j hj => ?_⟩
      have h8 := hw.1
      rw [eo _ (by omega) (by omega) (by omega), eo _ (by omega) (by omega) (by omega)]
      exact hw.2 j hj
  · unfold bsR
    rw [exX, show rNd r (20 * i + 2) = x from hx, bs, va_up_self]
    rw [bs_up x (fun j hj => by omega), bs_up x (fun j hj => by omega), bs_up x (fun j hj => by omega), bs_up x (fun j hj => by omega)]
theorem tk_wf {L : Nat} {r : RSt} {i : Nat} (hi : i < 64) (h : wfN (rNd r) L) : wfN (rNd (tkR L r i).2) L ∧ ((tkR L r i).1 = true → bsR (rNd (tkR L r i).2) i = bsR (rNd r) i + 1) := by
  by_cases hc : tkc L r i
  · rw [tkR_a hc]; exact ⟨(tk_wfA hi h hc).1, fun _ => (tk_wfA hi h hc).2⟩
  · by_cases h2 : foR L (rOw r) = L ∨ lX r i = 8
    · rw [tkR_n hc h2]; exact ⟨h, fun z => by cases z⟩
    · have h3 : ¬ foR L (rOw r) = L := fun z => h2 (Or.inl z)
      have h4 : ¬ lX r i = 8 := fun z => h2 (Or.inr z)
      rw [tkR_l hc h3 h4]
      have := foR_le L (rOw r)
      exact ⟨(tk_wfB hi h (by omega) h4).1, fun _ => (tk_wfB hi h (by omega) h4).2⟩
theorem tkF_B {r : RSt} {i e b : Nat} (h : rB r) (hi : i < 64) (hn : rNd r (20 * i + 4 + 2 * e) < 65535) : rB (tkF r i e b) := rB_zr (r := qOw (qNd r _) _) (rB_ow (r := qNd r _) (rB_nd h (by omega)) (by omega))
theorem tkX_B {r : RSt} {i e b : Nat} (h : rB r) (he : e < 10) (hb : b < 65536) : rB (tkX r i e b) := rB_nd (r := qNd (qNd r _) _) (rB_nd (r := qNd r _) (rB_nd h (by omega)) hb) (by decide)
theorem tk_B {L : Nat} {r : RSt} {i : Nat} (hi : i < 64) (hL : L ≤ 768) (h : rB r) (hw : wfN (rNd r) L) : rB (tkR L r i).2 := by
  by_cases hc : tkc L r i
  · rw [tkR_a hc]; exact tkF_B h hi (show lN' r i < 65535 by have := hc.2.2.2; omega)
  · by_cases h2 : foR L (rOw r) = L ∨ lX r i = 8
    · rw [tkR_n hc h2]; exact h
    · have h3 : ¬ foR L (rOw r) = L := fun z => h2 (Or.inl z)
      have h4 : ¬ lX r i = 8 := fun z => h2 (Or.inr z)
      rw [tkR_l hc h3 h4]
      have := foR_le L (rOw r); have : lX r i ≤ 8 := (hw i hi).1
      exact tkF_B (tkX_B h (by omega) (by omega)) hi (by rw [tkX_nd, va_up_self]; decide)
/-- gives: what the node is behind it -/
theorem gv_wf {L : Nat} {r : RSt} {i : Nat} (hi : i < 64) (h : wfN (rNd r) L) (h1 : 1 ≤ lX r i) : wfN (rNd (gvR r i)) L ∧ bsR (rNd (gvR r i)) i + 1 = bsR (rNd r) i ∧ rNd (gvW r i) (20 * i + 3 + 2 * (lX r i - 1)) + rNd (gvW r i) (20 * i + 4 + 2 * (lX r i - 1)) < L := by
  have hX : lX r i ≤ 8 := (h i hi).1
  have hl : 1 ≤ lN' r i ∧ lN' r i ≤ 255 ∧ lF r i + lN' r i ≤ L := (h i hi).2 (lX r i - 1) (show lX r i - 1 < lX r i by omega)
  have eN : rNd (gvW r i) (20 * i + 4 + 2 * (lX r i - 1)) = lN' r i - 1 := va_up_self _ _ _
  have eF : rNd (gvW r i) (20 * i + 3 + 2 * (lX r i - 1)) = lF r i := va_up_ne _ _ (by omega)
  have eo : ∀ q, q ≠ 20 * i + 4 + 2 * (lX r i - 1) → rNd (gvW r i) q = rNd r q := fun q hq => va_up_ne _ _ hq
  have e2 : rNd (gvW r i) (20 * i + 2) = lX r i := eo _ (by omega)
  obtain ⟨x, hx⟩ : ∃ x, lX r i = x + 1 := ⟨lX r i - 1, by omega⟩
  have hbx : bsR (rNd r) i = bs (rNd r) i x + lN' r i := by
    unfold bsR; show bs (rNd r) i (lX r i) = _; rw [hx, bs, show lN' r i = rNd r (20 * i + 4 + 2 * x) by show rNd r (20 * i + 4 + 2 * (lX r i - 1)) = _; rw [hx, Nat.add_sub_cancel]]
  have hlt : rNd (gvW r i) (20 * i + 3 + 2 * (lX r i - 1)) + rNd (gvW r i) (20 * i + 4 + 2 * (lX r i - 1)) < L := by rw [eN, eF]; omega
  refine ⟨?_, ?_, hlt⟩
  · unfold gvR
    by_cases hc : 0 < rNd (gvW r i) (20 * i + 4 + 2 * (lX r i - 1))
    · rw [if_pos hc]
      rw [eN] at hc
      intro a ha
      by_cases e : a = i
      · subst e
        rw [e2]
        refine ⟨hX, fun j hj => ?_⟩
        by_cases ej : j = lX r a - 1
        · subst ej; rw [eN, eF]; exact ⟨by omega, by omega, by omega⟩
        · rw [eo _ (by omega), eo _ (by omega)]; exact (h a hi).2 j hj
      · have hw := h a ha
        have h8 := hw.1
        rw [eo _ (by omega)]
        refine ⟨h8, fun j hj => ?_⟩
        rw [eo _ (by omega), eo _ (by omega)]
        exact hw.2 j hj
    · rw [if_neg hc]
      have ex : rNd (gv3 r i) (20 * i + 2) = lX r i := by
        show va_up (rNd (gvW r i)) (20 * i + 3 + 2 * (lX r i - 1)) 0 (20 * i + 2) = _
        rw [va_up_ne _ _ (by omega), e2]
      have er : ∀ (z q : Nat), q ≠ 20 * i + 2 → q ≠ 20 * i + 3 + 2 * (lX r i - 1) → q ≠ 20 * i + 4 + 2 * (lX r i - 1) → va_up (rNd (gv3 r i)) (20 * i + 2) z q = rNd r q := fun z q a1 a2 a3 => by
        rw [va_up_ne _ _ a1]
        show va_up (rNd (gvW r i)) (20 * i + 3 + 2 * (lX r i - 1)) 0 q = _
        rw [va_up_ne _ _ a2, eo _ a3]
      intro a ha
      by_cases e : a = i
      · subst e
        show va_up (rNd (gv3 r a)) (20 * a + 2) (rNd (gv3 r a) (20 * a + 2) - 1) (20 * a + 2) ≤ 8 ∧ ∀ j, j < va_up (rNd (gv3 r a)) (20 * a + 2) (rNd (gv3 r a) (20 * a + 2) - 1) (20 * a + 2) → _
        rw [va_up_self, ex]
        refine ⟨by omega, fun j hj => ?_⟩
        show 1 ≤ va_up (rNd (gv3 r a)) (20 * a + 2) (lX r a - 1) (20 * a + 4 + 2 * j) ∧ va_up (rNd (gv3 r a)) (20 * a + 2) (lX r a - 1) (20 * a + 4 + 2 * j) ≤ 255 ∧ va_up (rNd (gv3 r a)) (20 * a + 2) (lX r a - 1) (20 * a + 3 + 2 * j) + va_up (rNd (gv3 r a)) (20 * a + 2) (lX r a - 1) (20 * a + 4 + 2 * j) ≤ L
        rw [er _ (20 * a + 4 + 2 * j) (by omega) (by omega) (by omega), er _ (20 * a + 3 + 2 * j) (by omega) (by omega) (by omega)]
        exact (h a hi).2 j (show j < lX r a by omega)
      · have hw := h a ha
        have h8 := hw.1
        show va_up (rNd (gv3 r i)) (20 * i + 2) (rNd (gv3 r i) (20 * i + 2) - 1) (20 * a + 2) ≤ 8 ∧ ∀ j, j < va_up (rNd (gv3 r i)) (20 * i + 2) (rNd (gv3 r i) (20 * i + 2) - 1) (20 * a + 2) → _
        rw [er _ (20 * a + 2) (by omega) (by omega) (by omega)]
        refine ⟨h8, fun j hj => ?_⟩
        show 1 ≤ va_up (rNd (gv3 r i)) (20 * i + 2) (rNd (gv3 r i) (20 * i + 2) - 1) (20 * a + 4 + 2 * j) ∧ va_up (rNd (gv3 r i)) (20 * i + 2) (rNd (gv3 r i) (20 * i + 2) - 1) (20 * a + 4 + 2 * j) ≤ 255 ∧ va_up (rNd (gv3 r i)) (20 * i + 2) (rNd (gv3 r i) (20 * i + 2) - 1) (20 * a + 3 + 2 * j) + va_up (rNd (gv3 r i)) (20 * i + 2) (rNd (gv3 r i) (20 * i + 2) - 1) (20 * a + 4 + 2 * j) ≤ L
        rw [er _ (20 * a + 4 + 2 * j) (by omega) (by omega) (by omega), er _ (20 * a + 3 + 2 * j) (by omega) (by omega) (by omega)]
        exact hw.2 j hj
  · rw [hbx]
    unfold gvR
    by_cases hc : 0 < rNd (gvW r i) (20 * i + 4 + 2 * (lX r i - 1))
    · rw [if_pos hc]
      unfold bsR
      rw [e2, hx, bs]
      have : bs (rNd (gvW r i)) i x = bs (rNd r) i x := bs_up x (fun j hj => by omega)
      have e4 : rNd (gvW r i) (20 * i + 4 + 2 * x) = lN' r i - 1 := by rw [← eN, hx, Nat.add_sub_cancel]
      rw [this, e4]; omega
    · rw [if_neg hc]
      rw [eN] at hc
      have ex : rNd (gv3 r i) (20 * i + 2) = lX r i := by
        show va_up (rNd (gvW r i)) (20 * i + 3 + 2 * (lX r i - 1)) 0 (20 * i + 2) = _
        rw [va_up_ne _ _ (by omega), e2]
      show bs (va_up (rNd (gv3 r i)) (20 * i + 2) (rNd (gv3 r i) (20 * i + 2) - 1)) i (va_up (rNd (gv3 r i)) (20 * i + 2) (rNd (gv3 r i) (20 * i + 2) - 1) (20 * i + 2)) + 1 = _
      rw [va_up_self, ex, hx, Nat.add_sub_cancel, bs_up x (fun j hj => by omega)]
      have e5 : bs (rNd (gv3 r i)) i x = bs (rNd (gvW r i)) i x := bs_up x (fun j hj => by omega)
      have e6 : bs (rNd (gvW r i)) i x = bs (rNd r) i x := bs_up x (fun j hj => by omega)
      rw [e5, e6]; omega
theorem gv_B {r : RSt} {i : Nat} (h : rB r) : rB (gvR r i) := by
  have h1 : rB (gv1 r i) := rB_nd h (by have : lN' r i < 65536 := (h _).2.1; omega)
  have h2 : rB (gvW r i) := rB_ow h1 (by decide)
  unfold gvR; split
  · exact h2
  · have h3 : rB (gv3 r i) := rB_nd h2 (by decide)
    exact rB_nd h3 (by have : rNd (gv3 r i) (20 * i + 2) < 65536 := (h3 _).2.1; omega)
/-- sizes -/
abbrev ndz (n : Nat) : Nat := (n + 63) / 64
def szT (L i : Nat) : Nat → RSt → Bool × RSt
  | 0, r => (true, r)
  | m + 1, r => if (tkR L r i).1 = true then szT L i m (tkR L r i).2 else (false, (tkR L r i).2)
def szG (i : Nat) : Nat → RSt → RSt
  | 0, r => r
  | m + 1, r => szG i m (gvR r i)
def szZ (i : Nat) : Nat → Nat → RSt → RSt
  | 0, _, r => r
  | m + 1, c, r => szZ i m (c + 1) (ptR r i c 0)
def sz1 (L : Nat) (r : RSt) (i n : Nat) : Bool × RSt := szT L i (ndz n - bsR (rNd r) i) r
def sz2 (L : Nat) (r : RSt) (i n : Nat) : RSt := szG i (bsR (rNd (sz1 L r i n).2) i - ndz n) (sz1 L r i n).2
def sz3 (L : Nat) (r : RSt) (i n : Nat) : RSt := qNd (sz2 L r i n) (va_up (rNd (sz2 L r i n)) (20 * i + 1) n)
def szR (L : Nat) (r : RSt) (i n : Nat) : Bool × RSt := ((sz1 L r i n).1, if (sz1 L r i n).1 = true then szZ i (64 * ndz n - n) n (sz3 L r i n) else sz3 L r i n)
theorem wf_up1 {f : Nat → Nat} {L i n : Nat} (h : wfN f L) : wfN (va_up f (20 * i + 1) n) L := by
  intro a ha
  have hw := h a ha
  have h8 := hw.1
  rw [va_up_ne _ _ (by omega)]
  refine ⟨h8, fun j hj => ?_⟩
  rw [va_up_ne _ _ (by omega), va_up_ne _ _ (by omega)]
  exact hw.2 j hj
theorem bs_up1 {f : Nat → Nat} {i n : Nat} : bsR (va_up f (20 * i + 1) n) i = bsR f i := by
  unfold bsR; rw [va_up_ne _ _ (by omega), bs_up _ (fun j hj => by omega)]
theorem gv_pre {L : Nat} {r : RSt} {i : Nat} (hi : i < 64) (h : wfN (rNd r) L) (h1 : 1 ≤ lX r i) : 1 ≤ lN' r i := ((h i hi).2 (lX r i - 1) (show lX r i - 1 < lX r i by omega)).1
/-- frees -/
def frG (i : Nat) : Nat → RSt → RSt
  | 0, r => r
  | m + 1, r => frG i m (gvR r i)
def znM (f : Nat → Nat) (a j : Nat) : Nat → Nat := fun q => if a ≤ q ∧ q < a + j then 0 else f q
theorem znM_0 (f : Nat → Nat) (a : Nat) : znM f a 0 = f := by funext q; unfold znM; rw [if_neg (by omega)]
theorem znM_s (f : Nat → Nat) (a j : Nat) : va_up (znM f a j) (a + j) 0 = znM f a (j + 1) := by
  funext q; unfold va_up znM
  by_cases h : q = a + j
  · rw [if_pos h, if_pos (by omega)]
  · rw [if_neg h]
    by_cases h2 : a ≤ q ∧ q < a + j
    · rw [if_pos h2, if_pos (by omega)]
    · rw [if_neg h2, if_neg (by omega)]
def fr1 (r : RSt) (i : Nat) : RSt := frG i (bsR (rNd r) i) r
def frR (r : RSt) (i : Nat) : RSt := qNd (fr1 r i) (znM (rNd (fr1 r i)) (20 * i) 20)
