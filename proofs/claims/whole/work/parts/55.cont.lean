/-! CONTENTS of inodes; growing, shrinking, putting. -/
/-- the byte c of inode i -/
def gt (nd nw : Nat → Nat) (i c : Nat) : Nat := nw (64 * bkR nd i (c / 64) + c % 64)
theorem gt_R (r : RSt) (i c : Nat) : gtR r i c = gt (rNd r) (rNw r) i c := rfl
/-- from r to r' inode i alone has changed its blocks: it has n, the first of them as before; its kind and size stay; the contents of all others stay -/
def Blk (L : Nat) (r r' : RSt) (i n : Nat) : Prop := WFb L (rNd r') (rOw r') ∧ (∀ q, q < 20 * i ∨ 20 * i + 20 ≤ q ∨ q = 20 * i ∨ q = 20 * i + 1 → rNd r' q = rNd r q) ∧ bsR (rNd r') i = n ∧
  (∀ c, c < 64 * n → gt (rNd r') (rNw r') i c = if c < 64 * bsR (rNd r) i then gt (rNd r) (rNw r) i c else 0) ∧ (∀ a, a < 64 → a ≠ i → ∀ c, c < 64 * bsR (rNd r) a → gt (rNd r') (rNw r') a c = gt (rNd r) (rNw r) a c) ∧ ((∀ q, rNw r q < 256) → ∀ q, rNw r' q < 256)
theorem Blk.refl {L : Nat} {r : RSt} {i : Nat} (W : WFb L (rNd r) (rOw r)) : Blk L r r i (bsR (rNd r) i) := ⟨W, fun _ _ => rfl, rfl, fun c hc => by rw [if_pos hc], fun _ _ _ _ _ => rfl, fun h => h⟩
theorem rowE {r r' : RSt} {i a : Nat} (h : ∀ q, q < 20 * i ∨ 20 * i + 20 ≤ q ∨ q = 20 * i ∨ q = 20 * i + 1 → rNd r' q = rNd r q) (ha : a ≠ i) : ∀ q, 20 * a ≤ q → q < 20 * a + 20 → rNd r' q = rNd r q := fun q h1 h2 => h q (by omega)
theorem Blk.bs {L : Nat} {r r' : RSt} {i n a : Nat} (B : Blk L r r' i n) (ha : a < 64) (hne : a ≠ i) : bsR (rNd r') a = bsR (rNd r) a := bsR_row (rowE B.2.1 hne) (B.1.1 a ha).1
theorem Blk.up {L : Nat} {r r1 r2 : RSt} {i n m : Nat} (B1 : Blk L r r1 i n) (B2 : Blk L r1 r2 i m) (h : bsR (rNd r) i ≤ n) : Blk L r r2 i m := by
  refine ⟨B2.1, fun q hq => (B2.2.1 q hq).trans (B1.2.1 q hq), B2.2.2.1, fun c hc => ?_, fun a ha hne c hc => ?_, fun h => B2.2.2.2.2.2 (B1.2.2.2.2.2 h)⟩
  · rw [B2.2.2.2.1 c hc, B1.2.2.1]
    by_cases c1 : c < 64 * n
    · rw [if_pos c1, B1.2.2.2.1 c c1]
    · rw [if_neg c1, if_neg (by omega)]
  · rw [B2.2.2.2.2.1 a ha hne c (by rw [B1.bs ha hne]; exact hc), B1.2.2.2.2.1 a ha hne c hc]
theorem Blk.down {L : Nat} {r r1 r2 : RSt} {i n m : Nat} (B1 : Blk L r r1 i n) (B2 : Blk L r1 r2 i m) (h : m ≤ n) : Blk L r r2 i m := by
  refine ⟨B2.1, fun q hq => (B2.2.1 q hq).trans (B1.2.1 q hq), B2.2.2.1, fun c hc => ?_, fun a ha hne c hc => ?_, fun h => B2.2.2.2.2.2 (B1.2.2.2.2.2 h)⟩
  · rw [B2.2.2.2.1 c hc, B1.2.2.1, if_pos (by omega), B1.2.2.2.1 c (by omega)]
  · rw [B2.2.2.2.2.1 a ha hne c (by rw [B1.bs ha hne]; exact hc), B1.2.2.2.2.1 a ha hne c hc]
theorem tk_Blk {L : Nat} {r : RSt} {i : Nat} (W : WFb L (rNd r) (rOw r)) (hi : i < 64) (h : (tkR L r i).1 = true) : Blk L r (tkR L r i).2 i (bsR (rNd r) i + 1) := by
  obtain ⟨b, T⟩ := tk_char W hi h
  have W' := tk_WFb W hi T
  obtain ⟨t1, t2, t3, t4, t5, t6, t7, t8, t9, t10⟩ := T
  have nf : ∀ a, a < 64 → ∀ t, t < bsR (rNd r) a → bkR (rNd r) a t ≠ b := fun a ha t ht e => by
    have := (W.2.2.1 a ha t ht).2.2; rw [e, t3] at this; omega
  refine ⟨W', t7, t8, fun c hc => ?_, fun a ha hne c hc => ?_, fun h q => ?_⟩
  · unfold gt
    by_cases c1 : c < 64 * bsR (rNd r) i
    · rw [if_pos c1, t9 _ (by omega), t5]
      have := nf i hi (c / 64) (by omega)
      unfold zrM; rw [if_neg (by omega)]
    · rw [if_neg c1, show c / 64 = bsR (rNd r) i by omega, t10, t5]
      unfold zrM; rw [if_pos (by omega)]
  · unfold gt
    rw [bkR_row (rowE t7 hne), t5]
    have := nf a ha (c / 64) (by omega)
    unfold zrM; rw [if_neg (by omega)]
  · rw [t5]; unfold zrM; split
    · decide
    · exact h q
theorem gv_Blk {L : Nat} {r : RSt} {i : Nat} (W : WFb L (rNd r) (rOw r)) (hi : i < 64) (h1 : 1 ≤ lX r i) : Blk L r (gvR r i) i (bsR (rNd r) i - 1) := by
  have G := gv_char W.1 hi h1
  have W' := gv_WFb W hi G
  obtain ⟨g1, g2, g3, g4, g5, g6⟩ := G
  refine ⟨W', g4, by omega, fun c hc => ?_, fun a ha hne c hc => ?_, fun h q => by rw [g2]; exact h q⟩
  · unfold gt; rw [if_pos (by omega), g6 _ (by omega), g2]
  · unfold gt; rw [bkR_row (rowE g4 hne), g2]
/-- taking m blocks -/
theorem szT_sim {L i : Nat} (hL0 : 96 ≤ L) (hL : L ≤ 768) (hi : i < 64) : ∀ m u r, Sim L u r → WFb L (rNd r) (rOw r) → (rtG L i m u).1 = (szT L i m r).1 ∧ ((szT L i m r).1 = true → Sim L (rtG L i m u).2 (szT L i m r).2 ∧ Blk L r (szT L i m r).2 i (bsR (rNd r) i + m)) := by
  intro m
  induction m with
  | zero => intro u r S W; exact ⟨rfl, fun _ => ⟨S, Blk.refl W⟩⟩
  | succ m ih =>
    intro u r S W
    obtain ⟨k1, k2⟩ := tk_sim hL0 hL S W hi
    unfold rtG szT
    by_cases z : (tkR L r i).1 = true
    · have B := tk_Blk W hi z
      rw [if_pos z, if_pos (k1.trans z)]
      obtain ⟨j1, j2⟩ := ih _ _ k2 B.1
      refine ⟨j1, fun q => ?_⟩
      obtain ⟨j3, j4⟩ := j2 q
      refine ⟨j3, ?_⟩
      have := B.up j4 (by omega)
      rw [B.2.2.1, show bsR (rNd r) i + 1 + m = bsR (rNd r) i + (m + 1) by omega] at this
      exact this
    · rw [if_neg z, if_neg (by rw [k1]; exact z)]; exact ⟨rfl, fun q => by cases q⟩
theorem szG_sim {L i : Nat} (hL0 : 96 ≤ L) (hL : L ≤ 768) (hi : i < 64) : ∀ m u r, Sim L u r → WFb L (rNd r) (rOw r) → m ≤ bsR (rNd r) i → Sim L (rgG L i m u) (szG i m r) ∧ Blk L r (szG i m r) i (bsR (rNd r) i - m) := by
  intro m
  induction m with
  | zero => intro u r S W _; exact ⟨S, Blk.refl W⟩
  | succ m ih =>
    intro u r S W hm
    have h1 : 1 ≤ lX r i := bs_0 (t := 0) (by omega)
    have B := gv_Blk W hi h1
    unfold rgG szG
    obtain ⟨j1, j2⟩ := ih _ _ (gv_sim hL0 hL S W hi h1) B.1 (by rw [B.2.2.1]; omega)
    refine ⟨j1, ?_⟩
    rw [B.2.2.1, show bsR (rNd r) i - 1 - m = bsR (rNd r) i - (m + 1) by omega] at j2
    exact B.down j2 (by omega)
/-- where a byte lies: no two bytes at one place -/
theorem pos_inj {L : Nat} {nd ow : Nat → Nat} {i c a c' : Nat} (W : WFb L nd ow) (hi : i < 64) (hc : c < 64 * bsR nd i) (ha : a < 64) (hc' : c' < 64 * bsR nd a) (h : 64 * bkR nd a (c' / 64) + c' % 64 = 64 * bkR nd i (c / 64) + c % 64) : a = i ∧ c' = c := by
  have e1 : bkR nd a (c' / 64) = bkR nd i (c / 64) := by omega
  have o1 := (W.2.2.1 a ha (c' / 64) (by omega)).2.2
  have o2 := (W.2.2.1 i hi (c / 64) (by omega)).2.2
  rw [e1, o2] at o1
  have e2 : a = i := by omega
  subst e2
  have e3 := W.2.2.2 a ha (c' / 64) (by omega) (c / 64) (by omega) e1
  exact ⟨rfl, by omega⟩
theorem pt_gt {L : Nat} {nd ow nw : Nat → Nat} {i c a c' v : Nat} (W : WFb L nd ow) (hi : i < 64) (hc : c < 64 * bsR nd i) (ha : a < 64) (hc' : c' < 64 * bsR nd a) : gt nd (va_up nw (64 * bkR nd i (c / 64) + c % 64) v) a c' = if a = i ∧ c' = c then v else gt nd nw a c' := by
  unfold gt
  by_cases e : a = i ∧ c' = c
  · rw [if_pos e, e.1, e.2, va_up_self]
  · rw [if_neg e, va_up_ne]
    exact fun h => e (pos_inj W hi hc ha hc' h)
/-- a byte written into a taken block -/
theorem pt_sim {L : Nat} {u : DSt} {r : RSt} {i c v : Nat} (hL0 : 96 ≤ L) (hL : L ≤ 768) (S : Sim L u r) (W : WFb L (rNd r) (rOw r)) (hi : i < 64) (hc : c < 64 * bsR (rNd r) i) (hv : v < 256) : Sim L (setB L u (plc L (dNow u) i c) (nI v)) (ptR r i c v) := by
  have w := W.2.2.1 i hi (c / 64) (by omega)
  rw [R_pl S hL0 hL hi W.1, if_pos hc, setB_in (by omega) hL]
  exact S_put S w.1 (show rOw r (bkR (rNd r) i (c / 64)) ≠ 0 by rw [w.2.2]; omega) (by omega) hv
/-- zeros put -/
theorem szZ_gt {L i : Nat} (hi : i < 64) : ∀ m c r, WFb L (rNd r) (rOw r) → c + m ≤ 64 * bsR (rNd r) i → rNd (szZ i m c r) = rNd r ∧ rOw (szZ i m c r) = rOw r ∧ (∀ a, a < 64 → ∀ c', c' < 64 * bsR (rNd r) a → gt (rNd r) (rNw (szZ i m c r)) a c' = if a = i ∧ c ≤ c' ∧ c' < c + m then 0 else gt (rNd r) (rNw r) a c') ∧ ((∀ q, rNw r q < 256) → ∀ q, rNw (szZ i m c r) q < 256) := by
  intro m
  induction m with
  | zero => intro c r _ _; exact ⟨rfl, rfl, fun a ha c' hc' => by rw [if_neg (by omega)]; rfl, fun h => h⟩
  | succ m ih =>
    intro c r W hc
    unfold szZ
    obtain ⟨j1, j2, j3, j4⟩ := ih (c + 1) (ptR r i c 0) W (by show c + 1 + m ≤ 64 * bsR (rNd r) i; omega)
    refine ⟨j1, j2, fun a ha c' hc' => ?_, fun h => j4 (pt_W h (by decide))⟩
    rw [show rNd (ptR r i c 0) = rNd r from rfl] at j3
    rw [j3 a ha c' hc']
    have := pt_gt (nw := rNw r) (v := 0) W hi (show c < 64 * bsR (rNd r) i by omega) ha hc'
    rw [show rNw (ptR r i c 0) = va_up (rNw r) (64 * bkR (rNd r) i (c / 64) + c % 64) 0 from rfl, this]
    by_cases e1 : a = i
    · by_cases e2 : c ≤ c' ∧ c' < c + (m + 1)
      · rw [if_pos (show a = i ∧ c ≤ c' ∧ c' < c + (m + 1) from ⟨e1, e2⟩)]
        by_cases e3 : c' = c
        · rw [if_neg (by omega), if_pos ⟨e1, e3⟩]
        · rw [if_pos (by omega)]
      · rw [if_neg (show ¬ (a = i ∧ c ≤ c' ∧ c' < c + (m + 1)) from fun z => e2 z.2), if_neg (by omega), if_neg (by omega)]
    · rw [if_neg (fun z => e1 z.1), if_neg (fun z => e1 z.1), if_neg (fun z => e1 z.1)]
/-- the class's zeros: m bytes from c on, where the reference's bytes nw' are these -/
theorem szZ_sim {L i : Nat} (hL0 : 96 ≤ L) (hL : L ≤ 768) (hi : i < 64) : ∀ m c u r, Sim L u r → WFb L (rNd r) (rOw r) → c + m ≤ 64 * bsR (rNd r) i → Sim L (rzG L i m c u) (szZ i m c r) := by
  intro m
  induction m with
  | zero => intro c u r S _ _; exact S
  | succ m ih =>
    intro c u r S W hc
    unfold rzG szZ
    exact ih (c + 1) _ _ (pt_sim hL0 hL S W hi (by omega) (by decide)) W (by show c + 1 + m ≤ 64 * bsR (rNd r) i; omega)
/-- bytes that are equal where they count -/
theorem SimH.nw_eq {L : Nat} {a com : Nat → Int64} {h : Nat → Nat → Nat} {ow nw nw' : Nat → Nat} (S : SimH L a com h ow nw) (e : ∀ q, 59 * 64 ≤ q → q < 64 * L → nw q = nw' q) : SimH L a com h ow nw' := by
  refine ⟨S.1, S.2.1, S.2.2.1, fun b hb hL c hc => ?_⟩
  rw [S.2.2.2 b hb hL c hc, e _ (by omega) (by omega)]
