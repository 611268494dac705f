/-! BITS AND BYTES of longs. -/
abbrev nn (w : Int64) : Nat := w.toBitVec.toNat
theorem nn_lt (w : Int64) : nn w < 2 ^ 64 := w.toBitVec.isLt
theorem nn_inj {w v : Int64} (h : nn w = nn v) : w = v := Int64.toBitVec_inj.mp (BitVec.eq_of_toNat_eq h)
theorem nn_big (w : Int64) {t : Nat} (ht : 64 ≤ t) : (nn w).testBit t = false := Nat.testBit_lt_two_pow (Nat.lt_of_lt_of_le (nn_lt w) (Nat.pow_le_pow_right (by decide) ht))
theorem by_bit (x j i : Nat) : (x / 2 ^ j % 256).testBit i = (decide (i < 8) && x.testBit (i + j)) := by
  rw [show (256 : Nat) = 2 ^ 8 from rfl, Nat.testBit_mod_two_pow, Nat.testBit_div_two_pow]
theorem stL_bit (w : Int64) {m : Nat} (hm : m < 8) (v : Int32) {t : Nat} (ht : t < 64) : (nn (stL w (m * 8) v)).testBit t = if t / 8 = m then v.toBitVec.toNat.testBit (t % 8) else (nn w).testBit t := by
  have h1 : ∀ (x : BitVec 64), x.toNat.testBit t = x.getLsbD t := fun x => rfl
  have h2 : ∀ j, (v.toBitVec.toNat).testBit j = v.toBitVec.getLsbD j := fun j => rfl
  unfold stL nn
  rw [wb_c (m * 8) (by omega), h1, h1, h2]
  rw [Int64.toBitVec_or, Int64.toBitVec_and, Int64.toBitVec_xor, Int64.toBitVec_shiftLeft, Int64.toBitVec_shiftLeft, Int64.toBitVec_and, wb_tb, wb_sm _ (by omega)]
  rw [BitVec.getLsbD_or, BitVec.getLsbD_and, BitVec.getLsbD_xor, BitVec.shiftLeft_eq', BitVec.shiftLeft_eq', BitVec.getLsbD_shiftLeft, BitVec.getLsbD_shiftLeft, BitVec.getLsbD_and]
  have e1 : (BitVec.ofNat 64 (m * 8)).toNat = m * 8 := by rw [BitVec.toNat_ofNat, Nat.mod_eq_of_lt (by omega)]
  rw [e1]
  have e2 : (-1 : Int64).toBitVec.getLsbD t = true := by
    rw [show (-1 : Int64).toBitVec = BitVec.allOnes 64 from rfl, BitVec.getLsbD_allOnes]; exact decide_eq_true ht
  have e3 : ∀ j, (255 : Int64).toBitVec.getLsbD j = decide (j < 8) := by
    intro j
    show (BitVec.ofNat 64 255).getLsbD j = _
    rw [BitVec.getLsbD_ofNat, show (255 : Nat) = 2 ^ 8 - 1 from rfl, Nat.testBit_two_pow_sub_one]
    by_cases hj : j < 8
    · simp [hj, show j < 64 by omega]
    · simp [hj]
  rw [e2, e3]
  have e4 : t - m * 8 < 8 → v.toInt64.toBitVec.getLsbD (t - m * 8) = v.toBitVec.getLsbD (t - m * 8) := by
    intro h
    rw [Int32.toBitVec_toInt64, BitVec.getLsbD_signExtend]
    simp [show t - m * 8 < 64 by omega, show t - m * 8 < 32 by omega]
  by_cases hc : t / 8 = m
  · have h5 : ¬ t < m * 8 := by omega
    have h6 : t - m * 8 < 8 := by omega
    rw [if_pos hc, e4 h6, show t - m * 8 = t % 8 by omega]
    simp [ht, h5, show t % 8 < 8 by omega]
  · rw [if_neg hc]
    by_cases h5 : t < m * 8
    · simp [ht, h5]
    · have h6 : ¬ t - m * 8 < 8 := by omega
      simp [ht, h5, h6]
theorem stL_byt (w : Int64) {m j : Nat} (hm : m < 8) (hj : j < 8) (v : Int32) : nn (stL w (m * 8) v) / 2 ^ (j * 8) % 256 = if j = m then v.toBitVec.toNat % 256 else nn w / 2 ^ (j * 8) % 256 := by
  apply Nat.eq_of_testBit_eq
  intro i
  rw [by_bit]
  by_cases hi : i < 8
  · rw [decide_eq_true hi, Bool.true_and, stL_bit w hm v (by omega), show (i + j * 8) / 8 = j by omega, show (i + j * 8) % 8 = i by omega]
    by_cases hc : j = m
    · rw [if_pos hc, if_pos hc, show (256 : Nat) = 2 ^ 8 from rfl, Nat.testBit_mod_two_pow, decide_eq_true hi, Bool.true_and]
    · rw [if_neg hc, if_neg hc, by_bit, decide_eq_true hi, Bool.true_and]
  · rw [decide_eq_false hi, Bool.false_and]
    have : ∀ z, (z % 256).testBit i = false := fun z => by rw [show (256 : Nat) = 2 ^ 8 from rfl, Nat.testBit_mod_two_pow, decide_eq_false hi, Bool.false_and]
    split
    · exact (this _).symm
    · exact (this _).symm
theorem nn_ext {w v : Int64} (h : ∀ j, j < 8 → nn w / 2 ^ (j * 8) % 256 = nn v / 2 ^ (j * 8) % 256) : w = v := by
  apply nn_inj
  apply Nat.eq_of_testBit_eq
  intro t
  by_cases ht : t < 64
  · have := congrArg (fun z => z.testBit (t % 8)) (h (t / 8) (by omega))
    simp only [by_bit, show t % 8 < 8 by omega, decide_true, Bool.true_and, show t % 8 + t / 8 * 8 = t by omega] at this
    exact this
  · rw [nn_big w (by omega), nn_big v (by omega)]
theorem flp_bit (w : Int64) {k t : Nat} (hk : k < 64) : (nn (w ^^^ (1 <<< ((nI k).toInt64 &&& 63)))).testBit t = ((nn w).testBit t ^^ decide (t = k)) := by
  have h1 : ∀ (x : BitVec 64), x.toNat.testBit t = x.getLsbD t := fun x => rfl
  unfold nn
  rw [wb_c k hk, h1, h1, Int64.toBitVec_xor, Int64.toBitVec_shiftLeft, wb_tb, wb_sm _ hk, BitVec.getLsbD_xor, BitVec.shiftLeft_eq', BitVec.getLsbD_shiftLeft]
  have e1 : (BitVec.ofNat 64 k).toNat = k := by rw [BitVec.toNat_ofNat, Nat.mod_eq_of_lt (by omega)]
  rw [e1, show (1 : Int64).toBitVec = BitVec.ofNat 64 1 from rfl, BitVec.getLsbD_ofNat]
  congr 1
  by_cases h : t = k
  · subst h; simp [hk]
  · by_cases h2 : t < 64
    · by_cases h3 : t < k
      · simp [h, h3]
      · have h4 : (1 : Nat).testBit (t - k) = false := by
          rw [Bool.eq_false_iff]; intro z; have := Nat.testBit_one_eq_true_iff_self_eq_zero.mp z; omega
        simp [h, h3, h4]
    · simp [h, h2]
theorem frN_bit (a : Nat → Int64) (b : Nat) : frN a b = !(nn (a (456 + b / 64))).testBit (b % 64) := by
  unfold frN nn
  rw [Nat.testBit_eq_decide_div_mod_eq]
  have : (a (456 + b / 64)).toBitVec.toNat / 2 ^ (b % 64) % 2 < 2 := Nat.mod_lt _ (by decide)
  generalize (a (456 + b / 64)).toBitVec.toNat / 2 ^ (b % 64) % 2 = z at this
  have h2 : z = 0 ∨ z = 1 := by omega
  rcases h2 with rfl | rfl <;> rfl
theorem byt_bit (a : Nat → Int64) (p i : Nat) : (byt a p).testBit i = (decide (i < 8) && (nn (a (p / 8))).testBit (i + p % 8 * 8)) := by
  unfold byt; rw [by_bit]
