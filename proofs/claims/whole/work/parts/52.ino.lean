/-! INODES: their bytes by their numbers; blocks by their extents. -/
theorem nb_0 (f : Nat → Nat) (i : Nat) : nbR f i 0 = f (20 * i) := rfl
theorem nb_1 (f : Nat → Nat) (i : Nat) : nbR f i 1 = f (20 * i + 2) := rfl
theorem nb_2 (f : Nat → Nat) (i : Nat) : nbR f i 2 = f (20 * i + 1) % 256 := by
  unfold nbR; rw [if_neg (by decide), if_neg (by decide), if_pos (by decide)]; simp
theorem nb_3 (f : Nat → Nat) (i : Nat) : nbR f i 3 = f (20 * i + 1) / 256 % 256 := by
  unfold nbR; rw [if_neg (by decide), if_neg (by decide), if_pos (by decide)]
theorem nb_f (f : Nat → Nat) (i e : Nat) : nbR f i (4 + 3 * e) = if e < f (20 * i + 2) then f (20 * i + 3 + 2 * e) % 256 else 0 := by
  unfold nbR
  rw [if_neg (by omega), if_neg (by omega), if_neg (by omega), show (4 + 3 * e - 4) / 3 = e by omega, show (4 + 3 * e - 4) % 3 = 0 by omega]
  by_cases h : e < f (20 * i + 2)
  · rw [if_neg (by omega), if_neg (by decide), if_pos h]; simp
  · rw [if_pos (by omega), if_neg h]
theorem nb_g (f : Nat → Nat) (i e : Nat) : nbR f i (4 + 3 * e + 1) = if e < f (20 * i + 2) then f (20 * i + 3 + 2 * e) / 256 % 256 else 0 := by
  unfold nbR
  rw [if_neg (by omega), if_neg (by omega), if_neg (by omega), show (4 + 3 * e + 1 - 4) / 3 = e by omega, show (4 + 3 * e + 1 - 4) % 3 = 1 by omega]
  by_cases h : e < f (20 * i + 2)
  · rw [if_neg (by omega), if_neg (by decide), if_pos h]
  · rw [if_pos (by omega), if_neg h]
theorem nb_l (f : Nat → Nat) (i e : Nat) : nbR f i (4 + 3 * e + 2) = if e < f (20 * i + 2) then f (20 * i + 4 + 2 * e) else 0 := by
  unfold nbR
  rw [if_neg (by omega), if_neg (by omega), if_neg (by omega), show (4 + 3 * e + 2 - 4) / 3 = e by omega, show (4 + 3 * e + 2 - 4) % 3 = 2 by omega]
  by_cases h : e < f (20 * i + 2)
  · rw [if_neg (by omega), if_pos rfl, if_pos h]
  · rw [if_pos (by omega), if_neg h]
theorem nb_k {k : Nat} (hk : k < 32) (P : Nat → Prop) (p0 : P 0) (p1 : P 1) (p2 : P 2) (p3 : P 3) (pf : ∀ e, e < 10 → P (4 + 3 * e)) (pg : ∀ e, e < 10 → P (4 + 3 * e + 1)) (pl : ∀ e, e < 9 → P (4 + 3 * e + 2)) : P k := by
  by_cases h0 : k < 4
  · have : k = 0 ∨ k = 1 ∨ k = 2 ∨ k = 3 := by omega
    rcases this with rfl | rfl | rfl | rfl
    · exact p0
    · exact p1
    · exact p2
    · exact p3
  · have h1 : k = 4 + 3 * ((k - 4) / 3) ∨ k = 4 + 3 * ((k - 4) / 3) + 1 ∨ k = 4 + 3 * ((k - 4) / 3) + 2 := by omega
    rcases h1 with h | h | h
    · rw [h]; exact pf _ (by omega)
    · rw [h]; exact pg _ (by omega)
    · rw [h]; exact pl _ (by omega)
theorem SimH.h_eq {L : Nat} {a com : Nat → Int64} {h h' : Nat → Nat → Nat} {ow nw : Nat → Nat} (S : SimH L a com h ow nw) (e : ∀ i, i < 64 → ∀ k, k < 32 → h i k = h' i k) : SimH L a com h' ow nw := ⟨S.1, fun i hi k hk => (S.2.1 i hi k hk).trans (e i hi k hk), S.2.2⟩
/-- the row of inode i alone was changed -/
theorem nb_row {f f' : Nat → Nat} {i : Nat} (h : ∀ q, 20 * i ≤ q → q < 20 * i + 20 → f q = f' q) (hX : f (20 * i + 2) ≤ 8) {k : Nat} (hk : k < 32) : nbR f i k = nbR f' i k := by
  refine nb_k hk (fun k => nbR f i k = nbR f' i k) ?_ ?_ ?_ ?_ ?_ ?_ ?_
  · rw [nb_0, nb_0, h _ (by omega) (by omega)]
  · rw [nb_1, nb_1, h _ (by omega) (by omega)]
  · rw [nb_2, nb_2, h _ (by omega) (by omega)]
  · rw [nb_3, nb_3, h _ (by omega) (by omega)]
  · intro e _
    rw [nb_f, nb_f, ← h (20 * i + 2) (by omega) (by omega)]
    by_cases c : e < f (20 * i + 2)
    · rw [if_pos c, if_pos c, h _ (by omega) (by omega)]
    · rw [if_neg c, if_neg c]
  · intro e _
    rw [nb_g, nb_g, ← h (20 * i + 2) (by omega) (by omega)]
    by_cases c : e < f (20 * i + 2)
    · rw [if_pos c, if_pos c, h _ (by omega) (by omega)]
    · rw [if_neg c, if_neg c]
  · intro e _
    rw [nb_l, nb_l, ← h (20 * i + 2) (by omega) (by omega)]
    by_cases c : e < f (20 * i + 2)
    · rw [if_pos c, if_pos c, h _ (by omega) (by omega)]
    · rw [if_neg c, if_neg c]
section RD
variable {L : Nat} {a com : Nat → Int64} {h : Nat → Nat → Nat} {nd ow nw : Nat → Nat} {i : Nat}
theorem R_b (S : SimH L a com h ow nw) (hL0 : 96 ≤ L) (hL : L ≤ 768) (hi : i < 64) {k : Nat} (hk : k < 32) : bN L a (nI (1600 + 32 * i + k)) = h i k := by
  rw [bN_in (by omega) hL]; exact S.2.1 i hi k hk
theorem R_p (S : SimH L a com h ow nw) (hL0 : 96 ≤ L) (hL : L ≤ 768) (hi : i < 64) {k : Nat} (hk : k < 31) : pN L a (nI (1600 + 32 * i + k)) = h i k + 256 * h i (k + 1) := by
  unfold pN; rw [R_b S hL0 hL hi (by omega), nI_add, Nat.add_assoc, R_b S hL0 hL hi (show k + 1 < 32 by omega)]
theorem R_K (S : SimH L a com (nbR nd) ow nw) (hL0 : 96 ≤ L) (hL : L ≤ 768) (hi : i < 64) : iK L a i = nd (20 * i) := by
  have := R_b S hL0 hL hi (k := 0) (by decide)
  exact this
theorem R_X (S : SimH L a com (nbR nd) ow nw) (hL0 : 96 ≤ L) (hL : L ≤ 768) (hi : i < 64) : iX L a i = nd (20 * i + 2) := R_b S hL0 hL hi (k := 1) (by decide)
theorem R_S (S : SimH L a com (nbR nd) ow nw) (hL0 : 96 ≤ L) (hL : L ≤ 768) (hi : i < 64) (hs : nd (20 * i + 1) < 65536) : iS L a i = nd (20 * i + 1) := by
  unfold iS; rw [R_p S hL0 hL hi (by decide), nb_2, nb_3]; omega
theorem R_F (S : SimH L a com (nbR nd) ow nw) (hL0 : 96 ≤ L) (hL : L ≤ 768) (hi : i < 64) {e : Nat} (he : e < 9) (hX : e < nd (20 * i + 2)) (hs : nd (20 * i + 3 + 2 * e) < 65536) : xF L a i e = nd (20 * i + 3 + 2 * e) := by
  unfold xF; rw [Nat.add_assoc, R_p S hL0 hL hi (by omega), nb_f, nb_g, if_pos hX, if_pos hX]; omega
theorem R_L (S : SimH L a com (nbR nd) ow nw) (hL0 : 96 ≤ L) (hL : L ≤ 768) (hi : i < 64) {e : Nat} (he : e < 9) (hX : e < nd (20 * i + 2)) : xL L a i e = nd (20 * i + 4 + 2 * e) := by
  unfold xL; rw [show 1600 + 32 * i + 4 + 3 * e + 2 = 1600 + 32 * i + (4 + 3 * e + 2) by omega, R_b S hL0 hL hi (show 4 + 3 * e + 2 < 32 by omega), nb_l, if_pos hX]
end RD
/-- the block at s of extent e -/
theorem bkG_at (f : Nat → Nat) (i : Nat) : ∀ m j e s, j ≤ e → e < j + m → s < f (20 * i + 4 + 2 * e) → bkG f i m j (bs f i e - bs f i j + s) = f (20 * i + 3 + 2 * e) + s := by
  intro m
  induction m with
  | zero => intro j e s h1 h2; omega
  | succ m ih =>
    intro j e s h1 h2 h3
    unfold bkG
    by_cases hj : j = e
    · subst hj; rw [Nat.sub_self, Nat.zero_add, if_pos h3]
    · have hb := bs_mono f i (j + 1) (e - (j + 1))
      rw [show j + 1 + (e - (j + 1)) = e by omega] at hb
      have hb1 : bs f i (j + 1) = bs f i j + f (20 * i + 4 + 2 * j) := rfl
      rw [if_neg (by omega), show bs f i e - bs f i j + s - f (20 * i + 4 + 2 * j) = bs f i e - bs f i (j + 1) + s by omega]
      exact ih (j + 1) e s (by omega) (by omega) h3
theorem bk_at {f : Nat → Nat} {i e s : Nat} (he : e < 8) (hs : s < f (20 * i + 4 + 2 * e)) : bkR f i (bs f i e + s) = f (20 * i + 3 + 2 * e) + s := by
  have := bkG_at f i 8 0 e s (Nat.zero_le _) (by omega) hs
  exact this
theorem bs_split (f : Nat → Nat) (i : Nat) : ∀ X t, t < bs f i X → ∃ e, e < X ∧ ∃ s, s < f (20 * i + 4 + 2 * e) ∧ t = bs f i e + s := by
  intro X
  induction X with
  | zero => intro t h; exact absurd h (Nat.not_lt_zero _)
  | succ X ih =>
    intro t h
    by_cases c : t < bs f i X
    · obtain ⟨e, h1, s, h2, h3⟩ := ih t c
      exact ⟨e, by omega, s, h2, h3⟩
    · have hb : bs f i (X + 1) = bs f i X + f (20 * i + 4 + 2 * X) := rfl
      exact ⟨X, by omega, t - bs f i X, by omega, by omega⟩
/-- placeOf -/
theorem pl_G {L : Nat} {a com : Nat → Int64} {nd ow nw : Nat → Nat} {i : Nat} (S : SimH L a com (nbR nd) ow nw) (hL0 : 96 ≤ L) (hL : L ≤ 768) (hi : i < 64) (hw : wfN nd L) : ∀ n j t m, j + n = nd (20 * i + 2) → n ≤ m →
    plG L a i n j t = if t < 64 * (bs nd i (nd (20 * i + 2)) - bs nd i j) then nI (64 * bkG nd i m j (t / 64) + t % 64) else -1 := by
  have h8 := (hw i hi).1
  intro n
  induction n with
  | zero => intro j t m hj _; rw [← hj, Nat.add_zero, Nat.sub_self, if_neg (by omega)]; rfl
  | succ n ih =>
    intro j t m hj hm
    obtain ⟨m', rfl⟩ : ∃ m', m = m' + 1 := ⟨m - 1, by omega⟩
    have hx := (hw i hi).2 j (by omega)
    have hb1 : bs nd i (j + 1) = bs nd i j + nd (20 * i + 4 + 2 * j) := rfl
    have hb2 := bs_mono nd i (j + 1) n
    rw [show j + 1 + n = nd (20 * i + 2) by omega] at hb2
    unfold plG bkG
    rw [R_L S hL0 hL hi (by omega) (by omega), R_F S hL0 hL hi (by omega) (by omega) (by omega)]
    by_cases c : t < nd (20 * i + 4 + 2 * j) * 64
    · rw [if_pos c, if_pos (by omega), if_pos (by omega)]; congr 1; omega
    · rw [if_neg c, ih (j + 1) _ m' (by omega) (by omega), if_neg (show ¬ t / 64 < nd (20 * i + 4 + 2 * j) by omega)]
      by_cases c2 : t < 64 * (bs nd i (nd (20 * i + 2)) - bs nd i j)
      · rw [if_pos c2, if_pos (by omega), show (t - nd (20 * i + 4 + 2 * j) * 64) / 64 = t / 64 - nd (20 * i + 4 + 2 * j) by omega, show (t - nd (20 * i + 4 + 2 * j) * 64) % 64 = t % 64 by omega]
      · rw [if_neg c2, if_neg (by omega)]
theorem R_pl {L : Nat} {a com : Nat → Int64} {nd ow nw : Nat → Nat} {i t : Nat} (S : SimH L a com (nbR nd) ow nw) (hL0 : 96 ≤ L) (hL : L ≤ 768) (hi : i < 64) (hw : wfN nd L) : plc L a i t = if t < 64 * bsR nd i then nI (64 * bkR nd i (t / 64) + t % 64) else -1 := by
  unfold plc
  rw [R_X S hL0 hL hi, pl_G S hL0 hL hi hw _ 0 t 8 (by omega) (hw i hi).1]
  have e0 : bs nd i 0 = 0 := rfl
  rw [e0, Nat.sub_zero]; rfl
/-- the least free block -/
theorem lf_G {L : Nat} {a com : Nat → Int64} {h : Nat → Nat → Nat} {ow nw : Nat → Nat} (S : SimH L a com h ow nw) (hL : L ≤ 768) : ∀ n b, b + n = L → lfG a n b = if fwG ow n b = L then -1 else nI (fwG ow n b) := by
  intro n
  induction n with
  | zero => intro b hb; unfold lfG fwG; rw [if_pos (by omega)]
  | succ n ih =>
    intro b hb
    unfold lfG fwG
    rw [S_free S (by omega) hL]
    by_cases e : ow b = 0
    · rw [decide_eq_true e, if_pos rfl, if_neg (show ¬ 0 < ow b by omega), if_neg (show ¬ b = L by omega)]
    · rw [decide_eq_false e, if_neg (by decide), if_pos (Nat.pos_of_ne_zero e)]; exact ih (b + 1) (by omega)
theorem fw_skip {f : Nat → Nat} : ∀ n b m, (∀ q, b ≤ q → q < b + m → 0 < f q) → fwG f (m + n) b = fwG f n (b + m) := by
  intro n b m
  induction m generalizing b with
  | zero => intro _; rw [Nat.zero_add]; rfl
  | succ m ih =>
    intro h
    rw [show m + 1 + n = (m + n) + 1 by omega, fwG, if_pos (h b (by omega) (by omega)), ih (b + 1) (fun q h1 h2 => h q (by omega) (by omega))]
    congr 1; omega
theorem R_lf {L : Nat} {a com : Nat → Int64} {h : Nat → Nat → Nat} {ow nw : Nat → Nat} (S : SimH L a com h ow nw) (hL0 : 96 ≤ L) (hL : L ≤ 768) (ho : ∀ b, b < 59 → ow b = 100) : lfr L a = if foR L ow = L then -1 else nI (foR L ow) := by
  have e : foR L ow = fwG ow (L - 59) 59 := by
    unfold foR
    rw [show L = 59 + (L - 59) by omega, fw_skip (L - 59) 0 59 (fun q _ h2 => by rw [ho q (by omega)]; decide)]
    congr 1; omega
  unfold lfr
  rw [e]; exact lf_G S hL _ 59 (by omega)
theorem fw_free {f : Nat → Nat} : ∀ n b, fwG f n b ≠ b + n → f (fwG f n b) = 0 := by
  intro n
  induction n with
  | zero => intro b h; exact absurd rfl h
  | succ n ih =>
    intro b h
    unfold fwG at h ⊢
    by_cases c : 0 < f b
    · rw [if_pos c] at h ⊢; exact ih (b + 1) (by omega)
    · rw [if_neg c]; omega
theorem fo_free {L : Nat} {f : Nat → Nat} (h : foR L f ≠ L) : foR L f < L ∧ f (foR L f) = 0 := by
  have := foR_le L f
  exact ⟨by omega, fw_free L 0 (by unfold foR at h; omega)⟩
