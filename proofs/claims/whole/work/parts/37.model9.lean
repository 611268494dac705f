/-! THE REFERENCE's FEED, and its beginning. -/
theorem fbR_aux {n k : Nat} (hk : k ≤ 56) : ((BitVec.ofNat 64 n).sshiftRight k).toNat % 256 = n / 2 ^ k % 256 := by
  apply Nat.eq_of_testBit_eq
  intro j
  rw [show (256 : Nat) = 2 ^ 8 from rfl, Nat.testBit_mod_two_pow, Nat.testBit_mod_two_pow, Nat.testBit_div_two_pow]
  by_cases hj : j < 8
  · have h1 : ((BitVec.ofNat 64 n).sshiftRight k).toNat.testBit j = ((BitVec.ofNat 64 n).sshiftRight k).getLsbD j := rfl
    have h2 : ¬ 64 ≤ j := by omega
    have h3 : k + j < 64 := by omega
    rw [h1, BitVec.getLsbD_sshiftRight, if_pos h3, BitVec.getLsbD_ofNat, decide_eq_false h2, decide_eq_true h3, Nat.add_comm]
    simp
  · simp [hj]
theorem fbR_N (v : Int64) {i : Nat} (hi : i < 8) : ((v >>> ((nI (8 * i)).toInt64 &&& 63)) &&& 255).toInt32 = nI (v.toBitVec.toNat / 2 ^ (8 * i) % 256) := by
  obtain ⟨n, hn, rfl⟩ := wb_of v
  rw [wb_c (8 * i) (by omega), wb_tn hn]
  obtain ⟨m, hm, e⟩ := wb_of (lN n >>> lN (8 * i))
  have h1 : (lN n >>> lN (8 * i)).toBitVec.toNat = m := by rw [e, wb_tn hm]
  rw [Int64.toBitVec_shiftRight, wb_tb, wb_tb, wb_sm _ (by omega)] at h1
  have h2 : ((BitVec.ofNat 64 n).sshiftRight (8 * i)).toNat = m := by
    rw [← h1]; show _ = ((BitVec.ofNat 64 n).sshiftRight ((BitVec.ofNat 64 (8 * i)).toNat)).toNat
    rw [BitVec.toNat_ofNat, Nat.mod_eq_of_lt (by omega)]
  rw [e, show (255 : Int64) = lN (2 ^ 8 - 1) from rfl, wb_mask hm (by decide), lN_i, ← h2]
  rw [show (2 : Nat) ^ 8 = 256 from rfl, fbR_aux (by omega)]
def fdR (f : Nat → Nat) (n : Nat) (v : Int64) : Nat → (Nat → Nat)
  | 0 => f
  | i + 1 => va_up (fdR f n v i) (n + i) (v.toBitVec.toNat / 2 ^ (8 * i) % 256)
/-- the class's byte is the same -/
theorem fby_N (v : Int64) {i : Nat} (hi : i < 8) : fby v i = nI (v.toBitVec.toNat / 2 ^ (8 * i) % 256) := by
  obtain ⟨n, hn, rfl⟩ := wb_of v
  unfold fby
  rw [wb_shr hn (by omega), lN_i, wb_tn hn, pk_and _ 8 (by decide +kernel)]
  congr 1
  show (BitVec.ofNat 32 _).toNat % 2 ^ 8 = _
  rw [BitVec.toNat_ofNat]
  generalize n / 2 ^ (8 * i) = z
  omega
