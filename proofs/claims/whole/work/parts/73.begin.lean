/-! THE BEGINNING. -/
theorem rstF_ow : ∀ n b, rOw (rstF n) b = if b < n then 100 else 0 := by
  intro n
  induction n with
  | zero => intro b; rw [if_neg (Nat.not_lt_zero _)]; rfl
  | succ n ih =>
    intro b
    show va_up (rOw (rstF n)) n 100 b = _
    by_cases e : b = n
    · rw [e, va_up_self, if_pos (by omega)]
    · rw [va_up_ne _ _ e, ih]
      by_cases e2 : b < n
      · rw [if_pos e2, if_pos (by omega)]
      · rw [if_neg e2, if_neg (by omega)]
theorem rstF_o : ∀ n, rTh (rstF n) = nI 0 ∧ rCm (rstF n) = nI 0 ∧ rTl (rstF n) = 0 ∧ rTp (rstF n) = (fun _ => 0) ∧ rNw (rstF n) = (fun _ => 0) ∧ rDn (rstF n) = (fun _ => 0) := by
  intro n
  induction n with
  | zero => exact ⟨rfl, rfl, rfl, rfl, rfl, rfl⟩
  | succ n ih => exact ih
theorem rstF_B : ∀ n, rB (rstF n) := by
  intro n
  induction n with
  | zero => exact rB_nd rstz_B (by decide)
  | succ n ih => exact rB_ow ih (by decide)
theorem rstF_W (L : Nat) : WFr L (rstF 59) := by
  have hn : ∀ q, q ≠ 0 → rNd (rstF 59) q = 0 := fun q h => by rw [rstF_nd, va_up_ne _ _ h]
  have h0 : rNd (rstF 59) 0 = 2 := by rw [rstF_nd, va_up_self]
  have b0 : ∀ i, bsR (rNd (rstF 59)) i = 0 := fun i => by unfold bsR; rw [hn _ (by omega)]; rfl
  have noP : ∀ d e w i, ¬ PE (rNd (rstF 59)) (rNw (rstF 59)) d e w i := fun d e w i q => by
    have := q.2.2.1; rw [hn _ (by omega)] at this; exact absurd this (by omega)
  refine ⟨⟨⟨fun i hi => ⟨by rw [hn _ (by omega)]; omega, fun j hj => by rw [hn _ (by omega)] at hj; exact absurd hj (Nat.not_lt_zero _)⟩, fun b hb => by rw [rstF_ow, if_pos hb], fun i hi t ht => by rw [b0] at ht; exact absurd ht (Nat.not_lt_zero _), fun i hi t ht => by rw [b0] at ht; exact absurd ht (Nat.not_lt_zero _)⟩, fun i hi => ?_, fun i hi c _ h2 => by rw [b0] at h2; exact absurd h2 (Nat.not_lt_zero _), fun q => by rw [(rstF_o 59).2.2.2.2.1]; show 0 < 256; decide⟩, ?_, ?_⟩
  · rw [b0, hn (20 * i + 1) (by omega)]
    refine ⟨?_, rfl, fun _ => rfl, fun _ => rfl⟩
    by_cases z : i = 0
    · rw [z]; show rNd (rstF 59) 0 ≤ 2; rw [h0]; exact Nat.le_refl _
    · rw [hn _ (by omega)]; decide
  · intro d hd hk e he
    rw [hn (20 * d + 1) (by omega)] at he; exact absurd he (by omega)
  · exact ⟨h0, fun d e w i h => absurd h (noP d e w i), fun _ _ _ _ _ _ _ h => absurd h (noP _ _ _ _), fun _ _ _ _ _ _ h => absurd h (noP _ _ _ _), fun _ _ _ _ _ _ h => absurd h (noP _ _ _ _), fun i h1 h2 h3 => absurd (hn (20 * i) (by omega)) h3, fun _ => 0, fun d e w i h => absurd h (noP d e w i)⟩
theorem dskF_T {L : Nat} : ∀ n, Tch L dsk0 (dskF n) := by
  intro n
  induction n with
  | zero => exact Tch.rf (fun _ _ => rfl)
  | succ n ih => exact T_flp ih n
theorem dskF_map : ∀ m n, n < 1024 → (nn (dNow (dskF m) (456 + n / 64))).testBit (n % 64) = decide (n < m) := by
  intro m
  induction m with
  | zero => intro n _; rw [decide_eq_false (Nat.not_lt_zero _)]; show (nn 0).testBit _ = _; exact Nat.zero_testBit _
  | succ m ih =>
    intro n hn
    show (nn (dNow (flp (dskF m) m) (456 + n / 64))).testBit (n % 64) = _
    rw [flp_map _ hn, ih n hn]
    by_cases e : n = m
    · rw [decide_eq_true e, decide_eq_false (by omega), decide_eq_true (by omega)]; rfl
    · rw [decide_eq_false e, Bool.xor_false]
      by_cases e2 : n < m
      · rw [decide_eq_true e2, decide_eq_true (by omega)]
      · rw [decide_eq_false e2, decide_eq_false (by omega)]
theorem byt_0 (p : Nat) : byt (fun _ => 0) p = 0 := by unfold byt; show (0 : Nat) / _ % 256 = 0; rw [Nat.zero_div]
theorem dskF_byt : ∀ m p, m ≤ 64 → (p < 3648 ∨ 3776 ≤ p) → byt (dNow (dskF m)) p = 0 := by
  intro m
  induction m with
  | zero => intro p _ _; exact byt_0 p
  | succ m ih =>
    intro p hm hp
    show byt (dNow (flp (dskF m) m)) p = 0
    rw [flp_byt _ (by omega) hp]; exact ih p (by omega) hp
theorem nb_root {i k : Nat} (hk : k < 32) : nbR (rNd (rstF 59)) i k = if i = 0 ∧ k = 0 then 2 else 0 := by
  have hn : ∀ q, q ≠ 0 → rNd (rstF 59) q = 0 := fun q h => by rw [rstF_nd, va_up_ne _ _ h]
  have h0 : rNd (rstF 59) 0 = 2 := by rw [rstF_nd, va_up_self]
  refine nb_k hk (fun k => nbR (rNd (rstF 59)) i k = if i = 0 ∧ k = 0 then 2 else 0) ?_ ?_ ?_ ?_ ?_ ?_ ?_
  · rw [nb_0]
    by_cases z : i = 0
    · rw [if_pos ⟨z, rfl⟩, z]; exact h0
    · rw [if_neg (fun y => z y.1)]; exact hn _ (by omega)
  · rw [nb_1, if_neg (fun y => absurd y.2 (by decide))]; exact hn _ (by omega)
  · rw [nb_2, if_neg (fun y => absurd y.2 (by decide)), hn _ (by omega)]
  · rw [nb_3, if_neg (fun y => absurd y.2 (by decide)), hn _ (by omega)]
  · intro e _; rw [nb_f, hn (20 * i + 2) (by omega), if_neg (Nat.not_lt_zero _), if_neg (by omega)]
  · intro e _; rw [nb_g, hn (20 * i + 2) (by omega), if_neg (Nat.not_lt_zero _), if_neg (by omega)]
  · intro e _; rw [nb_l, hn (20 * i + 2) (by omega), if_neg (Nat.not_lt_zero _), if_neg (by omega)]
theorem ivt_0 {L : Nat} (hL0 : 96 ≤ L) (hL : L ≤ 768) : Ivt L (dskI L) 0 (fun _ => nI 0) (rstI L) := by
  have W := rstF_W L
  have ho := W.1.1.2.1
  obtain ⟨r1, r2, r3, r4, r5, r6⟩ := rstF_o 59
  generalize hu : setB L (dskF 59) (nI (1600 + 32 * 0)) (nI 2) = u0
  have T : Tch L dsk0 u0 := by rw [← hu]; exact T_setB (dskF_T 59) _ _
  have hu2 : u0 = stB (dskF 59) 1600 (nI 2) := by rw [← hu]; exact setB_in (q := 1600) (by omega) hL
  have bN : ∀ p, p < 3648 ∨ 3776 ≤ p → byt (dNow u0) p = if p = 1600 then 2 else 0 := fun p hp => by
    rw [hu2, stB_byt, dskF_byt 59 p (by decide) hp]; rfl
  have hc0 : dCom u0 = fun _ => 0 := T.2.1
  have S : Sim L u0 (rstF 59) := by
    refine ⟨fun p hp => ?_, fun i hi k hk => ?_, fun n hn => ?_, fun b hb hbL c hc => ?_⟩
    · rw [bN p (by omega), if_neg (by omega), hc0, byt_0]
    · rw [bN _ (by omega), nb_root hk]
      by_cases z : i = 0 ∧ k = 0
      · rw [if_pos (by omega), if_pos z]
      · rw [if_neg (by omega), if_neg z]
    · rw [hu2, stB_word _ _ _ (by omega), dskF_map 59 n hn, rstF_ow]
      by_cases z : n < 59
      · rw [decide_eq_true z, if_pos z, decide_eq_true (by omega)]
      · rw [decide_eq_false z, if_neg z, decide_eq_false (by omega)]
    · rw [bN _ (by omega), if_neg (by omega), if_pos (show rOw (rstF 59) b = 0 by rw [rstF_ow, if_neg (by omega)]), hc0, byt_0]
  have hcm : ∀ p, p < 64 * L → byt (dCom u0) p = rDn (rstF 59) p := fun p _ => by rw [hc0, byt_0, r6]
  have hdif := st_dif T (fun b hb => (df_none (f := fun _ => 0) (g := fun _ => 0) (b := b) (fun _ _ => rfl)).symm)
  have hch : chR L (rstF 59) ≤ 3 := by
    refine ch_le (L - 25) 25 [25, 57, 58] (fun b b1 b2 hb => ?_)
    obtain ⟨c, hc, hne⟩ := (ic_iff L (rstF 59) b 64).mp hb
    refine Classical.byContradiction (fun z => hne ?_)
    have z1 : b ≠ 25 := fun y => z (by rw [y]; exact List.mem_cons_self ..)
    have z2 : b ≠ 57 := fun y => z (by rw [y]; exact List.mem_cons_of_mem _ (List.mem_cons_self ..))
    have z3 : b ≠ 58 := fun y => z (by rw [y]; exact List.mem_cons_of_mem _ (List.mem_cons_of_mem _ (List.mem_cons_self ..)))
    unfold boR
    by_cases h59 : b < 59
    · rw [if_neg (by rw [ho b h59]; omega), if_pos (by omega), nb_root (by omega), if_neg (by omega), r6]
    · rw [if_pos (Or.inr (by rw [rstF_ow, if_neg h59]))]
  have hd1 := (ch_dct hL0 S ho hcm hdif).1
  have hst : stl L u0 = fgG L 0 (stG L 0 u0) := by unfold stl fgt; rw [if_neg (by rw [← hd1]; omega)]
  obtain ⟨g1, g2, g3, g4, g5⟩ := fg_char L 0 (stG L 0 u0)
  obtain ⟨s1, s2, s3, s4, s5, s6⟩ := st_char L 0 u0
  unfold dskI rstI
  rw [hu, hst]
  refine cm_ivt hL0 hL ?_ W (fun q => by rw [r6]; show 0 < 256; decide) (by rw [g3, s4]; exact hcm) (fun b hb => ⟨by rw [g1, if_pos (by omega)], by rw [g4, g2, g3, hdif b hb, s2, s4]⟩) (by rw [g5, s6, T.2.2.2, r2]; rfl) ⟨r3.symm, by decide, fun j => by rw [r4], fun j => by rw [r4]; show 0 < 256; decide⟩ (rstF_B 59)
  show SimH L _ _ _ _ _
  rw [g2, g3, s2, s4]; exact S
