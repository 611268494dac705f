/-! THE CALLS that read: equal answers. -/
section READS
variable {L : Nat} {u : DSt} {tl : Nat} {tp : Nat → Int32} {r : RSt}
theorem y_find {d w : Nat} (hL0 : 96 ≤ L) (hL : L ≤ 768) (I : Ivt L u tl tp r) (hd : d < 64) : fdC L (dNow u) d w = fnR r d w := by
  have W : WFr L r := I.2.1
  have hb := W.1.bs hd
  have hs := W.1.sz hL hd
  unfold fdC fnR
  rcases R_eof hL0 hL I.1 W.1 hd w with ⟨k, he⟩ | ⟨k, k2, h1, he, h3⟩ | ⟨k, k2, j, hj, h1, he, hp, hnm⟩
  · rw [he, if_neg k, if_neg k]
  · rw [he, if_neg (show ¬ (0 : Int32) ≤ -1 by decide), if_pos k, h1, if_neg (show ¬ (0 : Int32) ≤ -1 by decide)]
  · rw [he, if_pos hp, if_pos k, h1, if_pos (nI_pos' (by omega)), nI_clamp (by omega), R_in hL0 hL I.1 W.1.1 hd (by omega)]; rfl
theorem or_0 (x s : Int64) : x ||| ((nI 0).toInt64 <<< s) = x := by
  have h : (nI 0).toInt64 = 0 := by decide
  rw [h]
  apply Int64.toBitVec_inj.mp
  rw [Int64.toBitVec_or, Int64.toBitVec_shiftLeft]
  simp
theorem y_read {i t : Nat} (hL0 : 96 ≤ L) (hL : L ≤ 768) (I : Ivt L u tl tp r) (hi : i < 64) (ht : t < rNd r (20 * i + 1)) : rdG L (dNow u) i t 8 = rlR r i t := by
  have W : WFr L r := I.2.1
  have hb := W.1.bs hi
  have hs := W.1.sz hL hi
  have h : ∀ j, rdG L (dNow u) i t j = rlG r i t (min j (rNd r (20 * i + 1) - t)) := by
    intro j
    induction j with
    | zero => rw [Nat.zero_min]; rfl
    | succ j ih =>
      show rdG L (dNow u) i t j ||| ((nI (bN L (dNow u) (plc L (dNow u) i (t + j)))).toInt64 <<< ((nI (8 * j)).toInt64 &&& 63)) = _
      rw [ih]
      by_cases q : j < rNd r (20 * i + 1) - t
      · rw [Nat.min_eq_left (by omega), Nat.min_eq_left (by omega), R_gt hL0 hL I.1 W.1.1 hi (by omega)]; rfl
      · have z : bN L (dNow u) (plc L (dNow u) i (t + j)) = 0 := by
          by_cases q2 : t + j < 64 * bsR (rNd r) i
          · rw [R_gt hL0 hL I.1 W.1.1 hi q2]; exact W.1.2.2.1 i hi _ (by omega) q2
          · rw [R_pl I.1 hL0 hL hi W.1.1.1, if_neg q2]; exact bN_lo (by decide)
        rw [z, or_0, Nat.min_eq_right (by omega), Nat.min_eq_right (by omega)]
  exact h 8
theorem y_node {i w : Nat} (hL0 : 96 ≤ L) (hL : L ≤ 768) (I : Ivt L u tl tp r) (hi : i < 64) (hw : w < 3 + 2 * rNd r (20 * i + 2)) : ndC L (dNow u) i w = rNd r (20 * i + w) := by
  have W : WFr L r := I.2.1
  have hs := W.1.sz hL hi
  have hX := (W.1.1.1 i hi).1
  unfold ndC
  by_cases h0 : w = 0
  · rw [if_pos h0, R_K I.1 hL0 hL hi, h0]; rfl
  · rw [if_neg h0]
    by_cases h1 : w = 1
    · rw [if_pos h1, R_S I.1 hL0 hL hi (by omega), h1]
    · rw [if_neg h1]
      by_cases h2 : w = 2
      · rw [if_pos h2, R_X I.1 hL0 hL hi, h2]
      · rw [if_neg h2]
        have hx := (W.1.1.1 i hi).2 ((w - 3) / 2) (by omega)
        by_cases h3 : w % 2 = 1
        · rw [if_pos h3, R_F I.1 hL0 hL hi (by omega) (by omega) (by omega)]; congr 1; omega
        · rw [if_neg h3, R_L I.1 hL0 hL hi (by omega) (by omega)]; congr 1; omega
theorem y_at {b j : Nat} (cm : Bool) (hL0 : 96 ≤ L) (hL : L ≤ 768) (I : Ivt L u tl tp r) (hb : b < L) (hj : j < 64) : (if cm then bN L (dCom u) (nI (b * 64 + j)) else bN L (dNow u) (nI (b * 64 + j))) = if cm then rDn r (64 * b + j) else boR L r b j := by
  have hc := I.2.2.2.2.1
  rw [bN_in (by omega) hL, bN_in (by omega) hL, Nat.mul_comm b 64]
  cases cm with
  | true => exact hc _ (by omega)
  | false => exact now_bo hL0 I.1 I.2.1.1.1.2.1 hc hb hj
theorem db_skip (d : Nat → Bool) (x : Int32) : ∀ m n b q, (∀ p, b ≤ p → p < b + m → d p = false) → dbG d x (m + n) b q = dbG d x n (b + m) q := by
  intro m
  induction m with
  | zero => intro n b q _; rw [Nat.zero_add]; rfl
  | succ m ih =>
    intro n b q h
    rw [show m + 1 + n = (m + n) + 1 by omega]
    show (if d b then _ else dbG d x (m + n) (b + 1) q) = _
    rw [h b (Nat.le_refl _) (by omega), if_neg (by decide), ih n (b + 1) q (fun p h1 h2 => h p (by omega) (by omega)), show b + 1 + m = b + (m + 1) by omega]
theorem db_neg (d : Nat → Bool) {x : Int32} (hx : x < 0) : ∀ n b q, q + n < 1000 → dbG d x n b q = -1 := by
  intro n
  induction n with
  | zero => intro b q _; rfl
  | succ n ih =>
    intro b q h
    show (if d b then (if nI q = x then nI b else dbG d x n (b + 1) (q + 1)) else dbG d x n (b + 1) q) = -1
    rw [if_neg (show ¬ nI q = x from fun z => nI_pos (n := q) (by omega) (by rw [z]; exact hx)), ih (b + 1) (q + 1) (by omega), ih (b + 1) q (by omega), ite_self]
theorem cg_neg (L : Nat) (r : RSt) {x : Int32} (hx : x < 0) : ∀ n b, cgG L r n b x = -1 := by
  intro n
  cases n with
  | zero => intro b; rfl
  | succ n => intro b; show (if x < 0 then -1 else _) = _; rw [if_pos hx]
theorem db_cg {d : Nat → Bool} {k : Nat} (hk : k < 2147483648) (hd : ∀ b, 25 ≤ b → b < L → d b = icR L r b) : ∀ n b q, 25 ≤ b → b + n = L → q ≤ k → q + n < 1000 → dbG d (nI k) n b q = cgG L r n b (nI (k - q)) := by
  intro n
  induction n with
  | zero => intro b q _ _ _ _; rfl
  | succ n ih =>
    intro b q hb hn hq hq2
    show (if d b then (if nI q = nI k then nI b else dbG d (nI k) n (b + 1) (q + 1)) else dbG d (nI k) n (b + 1) q) = (if nI (k - q) < 0 then -1 else if icR L r b = true then (if nI (k - q) = 0 then nI b else cgG L r n (b + 1) (nI (k - q) + Int32.ofInt (-1))) else cgG L r n (b + 1) (nI (k - q)))
    rw [if_neg (nI_pos (by omega)), hd b hb (by omega)]
    by_cases c : icR L r b = true
    · rw [if_pos c, if_pos c]
      by_cases e : q = k
      · rw [if_pos (by rw [e]), if_pos (by rw [e, Nat.sub_self]; rfl)]
      · rw [if_neg (fun z => e ((nI_eq (by omega) (by omega)).mp z)), if_neg (fun z => by have := (nI_eq (a := k - q) (b := 0) (by omega) (by omega)).mp z; omega)]
        rw [ih (b + 1) (q + 1) (by omega) (by omega) (by omega) (by omega)]
        have e3 : nI (k - q) + Int32.ofInt (-1) = nI (k - (q + 1)) := by
          rw [show k - q = (k - (q + 1)) + 1 by omega]
          exact pk_m1 (k - (q + 1))
        rw [e3]
    · rw [if_neg c, if_neg c]; exact ih (b + 1) q (by omega) (by omega) hq (by omega)
theorem y_changed {x : Int32} (hL0 : 96 ≤ L) (hL : L ≤ 768) (I : Ivt L u tl tp r) : dbk L (dDif u) x = cgR L r x := by
  obtain ⟨i1, i2, i3, i4, i5, i6, i7, i8, i9, i10⟩ := I
  have hd := (ch_dct hL0 i1 i2.1.1.2.1 i5 (fun b hb => (i6 b hb).2)).2
  unfold dbk cgR
  have sk := db_skip (dDif u) x 25 (L - 25) 0 0 (fun p _ h => by rw [hd p (by omega), decide_eq_false (by omega), Bool.and_false])
  rw [show 25 + (L - 25) = L by omega] at sk
  rw [sk]
  by_cases hx : x < 0
  · rw [db_neg _ hx _ _ _ (by omega), cg_neg _ _ hx]
  · obtain ⟨k, hk, rfl⟩ := nI_of hx
    exact db_cg (by omega) (fun b h1 h2 => by rw [hd b h2, decide_eq_true h1, Bool.and_true]) (L - 25) 25 0 (Nat.le_refl _) (by omega) (Nat.zero_le _) (by omega)
theorem ow_sum (f : Nat → Nat) (a : Nat → Int64) : ∀ n b, (∀ q, b ≤ q → q < b + n → frN a q = decide (f q = 0)) → owG f (b + n) = owG f b + fbG a n b := by
  intro n
  induction n with
  | zero => intro b _; rfl
  | succ n ih =>
    intro b h
    show _ = owG f b + ((if frN a b then 1 else 0) + fbG a n (b + 1))
    rw [show b + (n + 1) = (b + 1) + n by omega, ih (b + 1) (fun q h1 h2 => h q (by omega) (by omega))]
    show owG f b + (if f b = 0 then 1 else 0) + fbG a n (b + 1) = _
    rw [h b (Nat.le_refl _) (by omega)]
    by_cases e : f b = 0
    · rw [if_pos e, decide_eq_true e, if_pos rfl]; omega
    · rw [if_neg e, decide_eq_false e, if_neg (by decide)]; omega
theorem ow_0 (f : Nat → Nat) : ∀ b, (∀ q, q < b → f q ≠ 0) → owG f b = 0 := by
  intro b
  induction b with
  | zero => intro _; rfl
  | succ b ih => intro h; show owG f b + (if f b = 0 then 1 else 0) = 0; rw [ih (fun q hq => h q (by omega)), if_neg (h b (by omega))]
theorem kd_sum (f : Nat → Nat) (c : Nat) (L : Nat) (a : Nat → Int64) : ∀ n i, (∀ q, i ≤ q → q < i + n → iK L a q = f (20 * q)) → kdG f c (i + n) = kdG f c i + ikG L a c n i := by
  intro n
  induction n with
  | zero => intro i _; rfl
  | succ n ih =>
    intro i h
    show _ = kdG f c i + ((if iK L a i = c then 1 else 0) + ikG L a c n (i + 1))
    rw [show i + (n + 1) = (i + 1) + n by omega, ih (i + 1) (fun q h1 h2 => h q (by omega) (by omega))]
    show kdG f c i + (if f (20 * i) = c then 1 else 0) + ikG L a c n (i + 1) = _
    rw [h i (Nat.le_refl _) (by omega)]; omega
theorem y_look {w : Nat} (hL0 : 96 ≤ L) (hL : L ≤ 768) (I : Ivt L u tl tp r) (hw : w ≤ 6) : lkC L u tl w = loR L r w := by
  obtain ⟨i1, i2, i3, i4, i5, i6, i7, i8, i9, i10⟩ := I
  have kd : ∀ c, iok L (dNow u) c = kdG (rNd r) c 64 := fun c => by
    have := kd_sum (rNd r) c L (dNow u) 64 0 (fun q _ h => R_K i1 hL0 hL (by omega))
    rw [Nat.zero_add] at this
    rw [this]; show _ = 0 + _; rw [Nat.zero_add]; rfl
  have h7 : w = 0 ∨ w = 1 ∨ w = 2 ∨ w = 3 ∨ w = 4 ∨ w = 5 ∨ w = 6 := by omega
  rcases h7 with rfl | rfl | rfl | rfl | rfl | rfl | rfl
  · rfl
  · show nI (fbs L (dNow u)) = nI (owG (rOw r) L)
    have := ow_sum (rOw r) (dNow u) (L - 59) 59 (fun q h1 h2 => S_free i1 (by omega) hL)
    rw [show 59 + (L - 59) = L by omega, ow_0 (rOw r) 59 (fun q hq => by rw [i2.1.1.2.1 q hq]; decide)] at this
    rw [this, Nat.zero_add]; rfl
  · show nI (iok L (dNow u) 0) = _
    rw [kd]; rfl
  · show nI (dct L (dDif u)) = nI (chR L r)
    rw [(ch_dct hL0 i1 i2.1.1.2.1 i5 (fun b hb => (i6 b hb).2)).1]
  · exact i7
  · show nI tl = nI (rTl r)
    rw [i8.1]
  · show nI (iok L (dNow u) 2) = _
    rw [kd]; rfl
end READS
