/-! WELL STATES. -/
def nmE (nd nw : Nat → Nat) (d e : Nat) : Nat := gt nd nw d (4 * e) + gt nd nw d (4 * e + 1) * 256
def inE (nd nw : Nat → Nat) (d e : Nat) : Nat := gt nd nw d (4 * e + 2)
def PE (nd nw : Nat → Nat) (d e w i : Nat) : Prop := d < 64 ∧ nd (20 * d) = 2 ∧ e < nd (20 * d + 1) / 4 ∧ nmE nd nw d e = w ∧ 1 ≤ w ∧ inE nd nw d e = i
abbrev KE (nd : Nat → Nat) : Nat → Nat := fun i => nd (20 * i)
/-- blocks, sizes, zeros behind the size -/
def WFk (L : Nat) (nd ow nw : Nat → Nat) : Prop := WFb L nd ow ∧ (∀ i, i < 64 → nd (20 * i) ≤ 2 ∧ bsR nd i = ndz (nd (20 * i + 1)) ∧ (nd (20 * i) = 0 → nd (20 * i + 1) = 0) ∧ (nd (20 * i) = 2 → nd (20 * i + 1) % 64 = 0)) ∧ (∀ i, i < 64 → ∀ c, nd (20 * i + 1) ≤ c → c < 64 * bsR nd i → gt nd nw i c = 0) ∧ ∀ q, nw q < 256
/-- empty entries name no inode -/
def NoE (nd nw : Nat → Nat) : Prop := ∀ d, d < 64 → nd (20 * d) = 2 → ∀ e, e < nd (20 * d + 1) / 4 → nmE nd nw d e = 0 → inE nd nw d e = 0
def WFt (L : Nat) (nd ow nw : Nat → Nat) : Prop := WFk L nd ow nw ∧ NoE nd nw ∧ TrD (KE nd) (PE nd nw) 0
theorem WFk.bs {L : Nat} {nd ow nw : Nat → Nat} {i : Nat} (W : WFk L nd ow nw) (hi : i < 64) : nd (20 * i + 1) ≤ 64 * bsR nd i := by
  have := (W.2.1 i hi).2.1
  have : bsR nd i = (nd (20 * i + 1) + 63) / 64 := this
  omega
theorem WFk.sz {L : Nat} {nd ow nw : Nat → Nat} {i : Nat} (W : WFk L nd ow nw) (hL : L ≤ 768) (hi : i < 64) : nd (20 * i + 1) ≤ 45376 := by
  have := W.bs hi; have := bs_max W.1 hi; omega
/-- the entries are the same where the directories are -/
theorem PE_eq {nd nw nd' nw' : Nat → Nat} (h : ∀ d, d < 64 → nd' (20 * d) = nd (20 * d) ∧ (nd (20 * d) = 2 → nd' (20 * d + 1) = nd (20 * d + 1) ∧ ∀ c, c < nd (20 * d + 1) → gt nd' nw' d c = gt nd nw d c)) : PE nd' nw' = PE nd nw := by
  funext d e w i
  apply propext
  constructor
  · rintro ⟨h1, h2, h3, h4, h5, h6⟩
    have h2' : nd (20 * d) = 2 := by rw [← (h d h1).1]; exact h2
    obtain ⟨e1, e2⟩ := (h d h1).2 h2'
    have h3' : e < nd (20 * d + 1) / 4 := by rw [← e1]; exact h3
    unfold nmE at h4; unfold inE at h6
    rw [e2 _ (by omega), e2 _ (by omega)] at h4; rw [e2 _ (by omega)] at h6
    exact ⟨h1, h2', h3', h4, h5, h6⟩
  · rintro ⟨h1, h2, h3, h4, h5, h6⟩
    obtain ⟨e1, e2⟩ := (h d h1).2 h2
    refine ⟨h1, by rw [(h d h1).1]; exact h2, by rw [e1]; exact h3, ?_, h5, ?_⟩
    · unfold nmE; rw [e2 _ (by omega), e2 _ (by omega)]; exact h4
    · unfold inE; rw [e2 _ (by omega)]; exact h6
theorem NoE_eq {nd nw nd' nw' : Nat → Nat} (h : ∀ d, d < 64 → nd' (20 * d) = nd (20 * d) ∧ (nd (20 * d) = 2 → nd' (20 * d + 1) = nd (20 * d + 1) ∧ ∀ c, c < nd (20 * d + 1) → gt nd' nw' d c = gt nd nw d c)) (N : NoE nd nw) : NoE nd' nw' := by
  intro d hd hk e he
  rw [(h d hd).1] at hk
  obtain ⟨e1, e2⟩ := (h d hd).2 hk
  rw [e1] at he
  unfold nmE inE
  rw [e2 _ (by omega), e2 _ (by omega), e2 _ (by omega)]
  exact N d hd hk e he
/-- numbers out of sight don't matter -/
theorem gt_cg {L : Nat} {nd ow nw nd' nw' : Nat → Nat} (W : WFb L nd ow) (e1 : ∀ q, q < 1280 → nd' q = nd q) (e3 : ∀ b, 59 ≤ b → b < L → ow b ≠ 0 → ∀ c, c < 64 → nw' (64 * b + c) = nw (64 * b + c)) {i c : Nat} (hi : i < 64) (hc : c < 64 * bsR nd i) : gt nd' nw' i c = gt nd nw i c := by
  unfold gt
  rw [bkR_row (f := nd') (f' := nd) (fun q h1 h2 => e1 q (by omega))]
  have := W.2.2.1 i hi (c / 64) (by omega)
  exact e3 _ this.1 this.2.1 (by omega) _ (by omega)
theorem WFb.cg {L : Nat} {nd ow nd' ow' : Nat → Nat} (hL0 : 96 ≤ L) (W : WFb L nd ow) (e1 : ∀ q, q < 1280 → nd' q = nd q) (e2 : ∀ b, b < L → ow' b = ow b) : WFb L nd' ow' := by
  obtain ⟨w1, w2, w3, w4⟩ := W
  have row : ∀ i, i < 64 → ∀ q, 20 * i ≤ q → q < 20 * i + 20 → nd' q = nd q := fun i hi q h1 h2 => e1 q (by omega)
  have wn : wfN nd' L := by
    intro i hi
    have h8 := (w1 i hi).1
    rw [row i hi (20 * i + 2) (by omega) (by omega)]
    refine ⟨h8, fun j hj => ?_⟩
    rw [row i hi (20 * i + 4 + 2 * j) (by omega) (by omega), row i hi (20 * i + 3 + 2 * j) (by omega) (by omega)]
    exact (w1 i hi).2 j hj
  have bsE : ∀ i, i < 64 → bsR nd' i = bsR nd i := fun i hi => bsR_row (row i hi) (wn i hi).1
  refine ⟨wn, fun b hb => by rw [e2 b (by omega)]; exact w2 b hb, fun i hi t ht => ?_, fun i hi t ht t' ht' e => ?_⟩
  · rw [bsE i hi] at ht
    have := w3 i hi t ht
    rw [bkR_row (row i hi), e2 _ this.2.1]; exact this
  · rw [bsE i hi] at ht ht'
    rw [bkR_row (row i hi), bkR_row (row i hi)] at e
    exact w4 i hi t ht t' ht' e
theorem WFk.cg {L : Nat} {nd ow nw nd' ow' nw' : Nat → Nat} (hL0 : 96 ≤ L) (W : WFk L nd ow nw) (e1 : ∀ q, q < 1280 → nd' q = nd q) (e2 : ∀ b, b < L → ow' b = ow b) (e3 : ∀ b, 59 ≤ b → b < L → ow b ≠ 0 → ∀ c, c < 64 → nw' (64 * b + c) = nw (64 * b + c)) (h4 : ∀ q, nw' q < 256) : WFk L nd' ow' nw' := by
  obtain ⟨w1, w2, w3, w4⟩ := W
  have W' := WFb.cg hL0 w1 e1 e2
  have bsE : ∀ i, i < 64 → bsR nd' i = bsR nd i := fun i hi => bsR_row (fun q h1 h2 => e1 q (by omega)) (W'.1 i hi).1
  refine ⟨W', fun i hi => ?_, fun i hi c h1 h2 => ?_, h4⟩
  · rw [e1 _ (by omega), bsE i hi, e1 _ (by omega)]; exact w2 i hi
  · rw [e1 _ (by omega)] at h1; rw [bsE i hi] at h2
    rw [gt_cg w1 e1 e3 hi h2]; exact w3 i hi c h1 h2
theorem WFt.cg {L : Nat} {nd ow nw nd' ow' nw' : Nat → Nat} (hL0 : 96 ≤ L) (W : WFt L nd ow nw) (e1 : ∀ q, q < 1280 → nd' q = nd q) (e2 : ∀ b, b < L → ow' b = ow b) (e3 : ∀ b, 59 ≤ b → b < L → ow b ≠ 0 → ∀ c, c < 64 → nw' (64 * b + c) = nw (64 * b + c)) (h4 : ∀ q, nw' q < 256) : WFt L nd' ow' nw' := by
  obtain ⟨w1, w2, w3⟩ := W
  have hs : ∀ d, d < 64 → nd' (20 * d) = nd (20 * d) ∧ (nd (20 * d) = 2 → nd' (20 * d + 1) = nd (20 * d + 1) ∧ ∀ c, c < nd (20 * d + 1) → gt nd' nw' d c = gt nd nw d c) := fun d hd =>
    ⟨e1 _ (by omega), fun _ => ⟨e1 _ (by omega), fun c hc => gt_cg w1.1 e1 e3 hd (by have := w1.bs hd; omega)⟩⟩
  exact ⟨WFk.cg hL0 w1 e1 e2 e3 h4, NoE_eq hs w2, tr_ext (fun i hi => e1 _ (by omega)) (fun d e w i => by rw [PE_eq hs]) w3⟩
/-- the class's bytes are the reference's -/
theorem mb_bit (L : Nat) (f : Nat → Nat) (n : Nat) : ∀ j k, (mbR L f n j).testBit k = (decide (k < j) && decide (n + k < L ∧ 0 < f (n + k))) := by
  intro j
  induction j with
  | zero => intro k; rw [mbR, Nat.zero_testBit, decide_eq_false (Nat.not_lt_zero _)]; rfl
  | succ j ih =>
    intro k
    unfold mbR
    have hlt := mbR_lt L f n j
    by_cases c : n + j < L ∧ 0 < f (n + j)
    · rw [if_pos c, Nat.add_comm, show 2 ^ j + mbR L f n j = 2 ^ j * 1 + mbR L f n j by omega]
      rw [Nat.testBit_two_pow_mul_add 1 hlt]
      by_cases h1 : k < j
      · rw [if_pos h1, ih k, decide_eq_true h1, decide_eq_true (show k < j + 1 by omega)]
      · rw [if_neg h1]
        by_cases h2 : k = j
        · subst h2; rw [Nat.sub_self, decide_eq_true (Nat.lt_succ_self k), decide_eq_true c]; rfl
        · rw [decide_eq_false (show ¬ k < j + 1 by omega), Bool.false_and]
          exact Nat.testBit_lt_two_pow (Nat.lt_of_lt_of_le (by decide : 1 < 2 ^ 1) (Nat.pow_le_pow_right (by decide) (by omega)))
    · rw [if_neg c, Nat.add_zero, ih k]
      by_cases h2 : k = j
      · subst h2; rw [decide_eq_false c, Bool.and_false, Bool.and_false]
      · by_cases h1 : k < j
        · rw [decide_eq_true h1, decide_eq_true (show k < j + 1 by omega)]
        · rw [decide_eq_false h1, decide_eq_false (show ¬ k < j + 1 by omega)]
theorem S_mapb {L : Nat} {a com : Nat → Int64} {h : Nat → Nat → Nat} {ow nw : Nat → Nat} (S : SimH L a com h ow nw) {c : Nat} (hc : c < 128) : byt a (3648 + c) = mbR L ow (8 * c) 8 := by
  apply Nat.eq_of_testBit_eq
  intro k
  rw [byt_bit, mb_bit]
  by_cases hk : k < 8
  · rw [decide_eq_true hk, Bool.true_and, Bool.true_and, ← S.2.2.1 (8 * c + k) (by omega)]
    rw [show (3648 + c) / 8 = 456 + (8 * c + k) / 64 by omega, show k + (3648 + c) % 8 * 8 = (8 * c + k) % 64 by omega]
  · rw [decide_eq_false hk, Bool.false_and, Bool.false_and]
theorem now_bo {L : Nat} {u : DSt} {r : RSt} (hL0 : 96 ≤ L) (S : Sim L u r) (ho : ∀ b, b < 59 → rOw r b = 100) (hc : ∀ p, p < 64 * L → byt (dCom u) p = rDn r p) {b c : Nat} (hb : b < L) (hcc : c < 64) : byt (dNow u) (64 * b + c) = boR L r b c := by
  unfold boR
  by_cases h25 : b < 25
  · rw [if_pos (Or.inl h25), S.1 _ (by omega)]; exact hc _ (by omega)
  · by_cases h0 : rOw r b = 0
    · rw [if_pos (Or.inr h0)]
      have h59 := ge59 ho h0
      rw [S.2.2.2 b h59 hb c hcc, if_pos h0]; exact hc _ (by omega)
    · rw [if_neg (by rintro (z | z); exact h25 z; exact h0 z)]
      by_cases h57 : b < 57
      · rw [if_pos h57, ← S.2.1 (2 * (b - 25) + c / 32) (by omega) (c % 32) (by omega)]; congr 1; omega
      · rw [if_neg h57]
        by_cases h59 : b < 59
        · rw [if_pos h59, show 64 * b + c = 3648 + (64 * (b - 57) + c) by omega, S_mapb S (by omega)]; congr 1; omega
        · rw [if_neg h59, S.2.2.2 b (by omega) hb c hcc, if_neg h0]
/-- what holds between the calls -/
def Ivt (L : Nat) (u : DSt) (tl : Nat) (tp : Nat → Int32) (r : RSt) : Prop :=
  Sim L u r ∧ WFt L (rNd r) (rOw r) (rNw r) ∧ SimH L (dCom u) (dCom u) (nbR (rKn r)) (rKo r) (rDn r) ∧ WFt L (rKn r) (rKo r) (rDn r) ∧ (∀ p, p < 64 * L → byt (dCom u) p = rDn r p) ∧
  (∀ b, b < L → dTou u b = false ∧ dDif u b = dfI (dNow u) (dCom u) b 8) ∧ dEa u = rCm r ∧ (tl = rTl r ∧ tl ≤ 512 ∧ (∀ j, tp j = nI (rTp r j)) ∧ ∀ j, rTp r j < 256) ∧ rB r ∧ chR L r ≤ 24
