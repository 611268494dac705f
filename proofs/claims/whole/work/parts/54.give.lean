/-! The class takes a block as the reference does; both give one back. -/
theorem tk_iff {L : Nat} {u : DSt} {r : RSt} {i : Nat} (hL0 : 96 ≤ L) (hL : L ≤ 768) (S : Sim L u r) (w1 : wfN (rNd r) L) (hi : i < 64) : tkC L (dNow u) i ↔ tkc L r i := by
  have hX : lX r i ≤ 8 := (w1 i hi).1
  have eX : iX L (dNow u) i = lX r i := R_X S hL0 hL hi
  by_cases h1 : 1 ≤ lX r i
  · have hx : 1 ≤ lN' r i ∧ lN' r i ≤ 255 ∧ lF r i + lN' r i ≤ L := (w1 i hi).2 (lX r i - 1) (show lX r i - 1 < lX r i by omega)
    have eL : xL L (dNow u) i (lX r i - 1) = lN' r i := R_L S hL0 hL hi (by omega) (show lX r i - 1 < lX r i by omega)
    have eF : xF L (dNow u) i (lX r i - 1) = lF r i := R_F S hL0 hL hi (by omega) (show lX r i - 1 < lX r i by omega) (show lF r i < 65536 by omega)
    show (0 < iX L (dNow u) i ∧ xL L (dNow u) i (iX L (dNow u) i - 1) < 255 ∧ frB L (dNow u) (nI (xF L (dNow u) i (iX L (dNow u) i - 1) + xL L (dNow u) i (iX L (dNow u) i - 1))) = true) ↔ _
    rw [eX, eL, eF]
    by_cases c : lF r i + lN' r i < L
    · rw [frB_in c hL, S_free S c hL]
      exact ⟨fun z => ⟨h1, c, of_decide_eq_true z.2.2, z.2.1⟩, fun z => ⟨h1, z.2.2.2, decide_eq_true z.2.2.1⟩⟩
    · have : hsB L (nI (lF r i + lN' r i)) = false := hsB_hi (by omega) (by omega)
      rw [frB_no this]
      exact ⟨fun z => absurd z.2.2 (by decide), fun z => absurd z.2.1 c⟩
  · exact ⟨fun z => absurd z.1 (by rw [eX]; omega), fun z => absurd z.1 h1⟩
theorem tk_sim {L : Nat} {u : DSt} {r : RSt} {i : Nat} (hL0 : 96 ≤ L) (hL : L ≤ 768) (S : Sim L u r) (W : WFb L (rNd r) (rOw r)) (hi : i < 64) : (tkI L u i).1 = (tkR L r i).1 ∧ Sim L (tkI L u i).2 (tkR L r i).2 := by
  obtain ⟨w1, w2, w3, w4⟩ := W
  have hX : lX r i ≤ 8 := (w1 i hi).1
  have eX : iX L (dNow u) i = lX r i := R_X S hL0 hL hi
  have hiff := tk_iff hL0 hL S w1 hi
  by_cases hc : tkc L r i
  · obtain ⟨c1, c2, c3, c4⟩ := id hc
    have hx : 1 ≤ lN' r i ∧ lN' r i ≤ 255 ∧ lF r i + lN' r i ≤ L := (w1 i hi).2 (lX r i - 1) (show lX r i - 1 < lX r i by omega)
    have eL : xL L (dNow u) i (lX r i - 1) = lN' r i := R_L S hL0 hL hi (by omega) (show lX r i - 1 < lX r i by omega)
    have eF : xF L (dNow u) i (lX r i - 1) = lF r i := R_F S hL0 hL hi (by omega) (show lX r i - 1 < lX r i by omega) (show lF r i < 65536 by omega)
    rw [tkI_a (hiff.mpr hc), tkR_a hc, eX, eL, eF]
    refine ⟨rfl, ?_⟩
    have hfr : frB L (dNow u) (nI (lF r i + lN' r i)) = true := by rw [frB_in c2 hL, S_free S c2 hL]; exact decide_eq_true c3
    dsimp only
    rw [tkB_in hfr (by omega)]
    have s1 := S_take S (ge59 w2 c3) c2 hL c3 (show 0 < i + 1 by omega)
    have s2 := S_byte hL0 hL s1 hi (show 4 + 3 * (lX r i - 1) + 2 < 32 by omega) (show lN' r i + 1 < 256 by omega)
    rw [show 1600 + 32 * i + 4 + 3 * (lX r i - 1) + 2 = 1600 + 32 * i + (4 + 3 * (lX r i - 1) + 2) by omega]
    refine s2.h_eq (fun a ha k hk => ?_)
    show _ = nbR (va_up (rNd r) (20 * i + 4 + 2 * (lX r i - 1)) (lN' r i + 1)) a k
    by_cases ca : a = i
    · subst ca
      have e2 : va_up (rNd r) (20 * a + 4 + 2 * (lX r a - 1)) (lN' r a + 1) (20 * a + 2) = lX r a := va_up_ne _ _ (by omega)
      refine nb_k hk (fun k => up2 (nbR (rNd r)) a (4 + 3 * (lX r a - 1) + 2) (lN' r a + 1) a k = nbR (va_up (rNd r) (20 * a + 4 + 2 * (lX r a - 1)) (lN' r a + 1)) a k) ?_ ?_ ?_ ?_ ?_ ?_ ?_
      · rw [up2_k (by omega), nb_0, nb_0, va_up_ne _ _ (by omega)]
      · rw [up2_k (by omega), nb_1, nb_1, e2]
      · rw [up2_k (by omega), nb_2, nb_2, va_up_ne _ _ (by omega)]
      · rw [up2_k (by omega), nb_3, nb_3, va_up_ne _ _ (by omega)]
      · intro e _; rw [up2_k (by omega), nb_f, nb_f, e2, va_up_ne _ _ (by omega)]
      · intro e _; rw [up2_k (by omega), nb_g, nb_g, e2, va_up_ne _ _ (by omega)]
      · intro e _
        by_cases ce : e = lX r a - 1
        · rw [ce, up2_self, nb_l, e2, if_pos (by omega), va_up_self]
        · rw [up2_k (by omega), nb_l, nb_l, e2, va_up_ne _ _ (by omega)]
    · have row : ∀ q, 20 * a ≤ q → q < 20 * a + 20 → rNd r q = va_up (rNd r) (20 * i + 4 + 2 * (lX r i - 1)) (lN' r i + 1) q := fun q h1 h2 => (va_up_ne _ _ (by omega)).symm
      rw [up2_i ca]; exact nb_row row (w1 a ha).1 hk
  · have hcC : ¬ tkC L (dNow u) i := fun z => hc (hiff.mp z)
    have elf := R_lf S hL0 hL w2
    by_cases h3 : foR L (rOw r) = L
    · rw [tkR_n hc (Or.inl h3), tkI_n hcC (Or.inl (by rw [elf, if_pos h3]))]; exact ⟨rfl, S⟩
    · by_cases h4 : lX r i = 8
      · rw [tkR_n hc (Or.inr h4), tkI_n hcC (Or.inr (by rw [eX, h4]; exact Nat.le_refl _))]; exact ⟨rfl, S⟩
      · obtain ⟨f1, f2⟩ := fo_free h3
        have g59 := ge59 w2 f2
        rw [if_neg h3] at elf
        rw [tkR_l hc h3 h4, tkI_l hcC (by rw [elf]; exact fun z => nI_pos (n := foR L (rOw r)) (by omega) (by rw [z]; decide)) (by rw [eX]; omega), elf, eX]
        generalize hb : foR L (rOw r) = b at *
        generalize hx : lX r i = x at *
        refine ⟨rfl, ?_⟩
        have hfr : frB L (dNow u) (nI b) = true := by rw [frB_in f1 hL, S_free S f1 hL]; exact decide_eq_true f2
        dsimp only
        rw [tkB_in hfr (by omega)]
        have s1 := S_take S g59 f1 hL f2 (show 0 < i + 1 by omega)
        have s2 := S_byte hL0 hL s1 hi (show 1 < 32 by decide) (show x + 1 < 256 by omega)
        have s3 := S_pair hL0 hL s2 hi (show 4 + 3 * x < 31 by omega) (show b < 65536 by omega)
        have s4 := S_byte hL0 hL s3 hi (show 4 + 3 * x + 2 < 32 by omega) (show 1 < 256 by decide)
        rw [show 1600 + 32 * i + 4 + 3 * x + 2 = 1600 + 32 * i + (4 + 3 * x + 2) by omega, show 1600 + 32 * i + 4 + 3 * x = 1600 + 32 * i + (4 + 3 * x) by omega]
        refine s4.h_eq (fun a ha k hk => ?_)
        have hnd : rNd (tkF (tkX r i x b) i x b) = va_up (va_up (va_up (va_up (rNd r) (20 * i + 2) (x + 1)) (20 * i + 3 + 2 * x) b) (20 * i + 4 + 2 * x) 0) (20 * i + 4 + 2 * x) (0 + 1) := by
          rw [tkF_nd, tkX_nd, va_up_self]
        have eo : ∀ q, q ≠ 20 * i + 2 → q ≠ 20 * i + 3 + 2 * x → q ≠ 20 * i + 4 + 2 * x → rNd (tkF (tkX r i x b) i x b) q = rNd r q := fun q h1 h2 h3 => by
          rw [hnd, va_up_ne _ _ h3, va_up_ne _ _ h3, va_up_ne _ _ h2, va_up_ne _ _ h1]
        have l0 : rNd (tkF (tkX r i x b) i x b) (20 * i + 2) = x + 1 := by rw [hnd, va_up_ne _ _ (by omega), va_up_ne _ _ (by omega), va_up_ne _ _ (by omega), va_up_self]
        have l1 : rNd (tkF (tkX r i x b) i x b) (20 * i + 4 + 2 * x) = 1 := by rw [hnd, va_up_self]
        have l2 : rNd (tkF (tkX r i x b) i x b) (20 * i + 3 + 2 * x) = b := by rw [hnd, va_up_ne _ _ (by omega), va_up_ne _ _ (by omega), va_up_self]
        have hx0 : rNd r (20 * i + 2) = x := hx
        by_cases ca : a = i
        · subst ca
          refine nb_k hk (fun k => up2 (up2 (up2 (up2 (nbR (rNd r)) a 1 (x + 1)) a (4 + 3 * x) (b % 256)) a (4 + 3 * x + 1) (b / 256)) a (4 + 3 * x + 2) 1 a k = nbR (rNd (tkF (tkX r a x b) a x b)) a k) ?_ ?_ ?_ ?_ ?_ ?_ ?_
          · rw [up2_k (by omega), up2_k (by omega), up2_k (by omega), up2_k (by omega), nb_0, nb_0, eo _ (by omega) (by omega) (by omega)]
          · rw [up2_k (by omega), up2_k (by omega), up2_k (by omega), up2_self, nb_1, l0]
          · rw [up2_k (by omega), up2_k (by omega), up2_k (by omega), up2_k (by omega), nb_2, nb_2, eo _ (by omega) (by omega) (by omega)]
          · rw [up2_k (by omega), up2_k (by omega), up2_k (by omega), up2_k (by omega), nb_3, nb_3, eo _ (by omega) (by omega) (by omega)]
          · intro e _
            by_cases ce : e = x
            · subst ce; rw [up2_k (by omega), up2_k (by omega), up2_self, nb_f, l0, if_pos (by omega), l2]
            · rw [up2_k (by omega), up2_k (by omega), up2_k (by omega), up2_k (by omega), nb_f, nb_f, l0, hx0]
              by_cases c5 : e < x
              · rw [if_pos c5, if_pos (by omega), eo _ (by omega) (by omega) (by omega)]
              · rw [if_neg c5, if_neg (by omega)]
          · intro e _
            by_cases ce : e = x
            · subst ce; rw [up2_k (by omega), up2_self, nb_g, l0, if_pos (by omega), l2]; omega
            · rw [up2_k (by omega), up2_k (by omega), up2_k (by omega), up2_k (by omega), nb_g, nb_g, l0, hx0]
              by_cases c5 : e < x
              · rw [if_pos c5, if_pos (by omega), eo _ (by omega) (by omega) (by omega)]
              · rw [if_neg c5, if_neg (by omega)]
          · intro e _
            by_cases ce : e = x
            · subst ce; rw [up2_self, nb_l, l0, if_pos (by omega), l1]
            · rw [up2_k (by omega), up2_k (by omega), up2_k (by omega), up2_k (by omega), nb_l, nb_l, l0, hx0]
              by_cases c5 : e < x
              · rw [if_pos c5, if_pos (by omega), eo _ (by omega) (by omega) (by omega)]
              · rw [if_neg c5, if_neg (by omega)]
        · rw [up2_i ca, up2_i ca, up2_i ca, up2_i ca]; exact nb_row (fun q h1 h2 => (eo q (by omega) (by omega) (by omega)).symm) (w1 a ha).1 hk
/-- what gives does -/
def GvC (L : Nat) (r r' : RSt) (i : Nat) : Prop := rOw r' = va_up (rOw r) (bkR (rNd r) i (bsR (rNd r) i - 1)) 0 ∧ rNw r' = rNw r ∧ wfN (rNd r') L ∧ (∀ q, q < 20 * i ∨ 20 * i + 20 ≤ q ∨ q = 20 * i ∨ q = 20 * i + 1 → rNd r' q = rNd r q) ∧
  bsR (rNd r') i + 1 = bsR (rNd r) i ∧ (∀ t, t < bsR (rNd r') i → bkR (rNd r') i t = bkR (rNd r) i t)
theorem gv_last {L : Nat} {r : RSt} {i : Nat} (w1 : wfN (rNd r) L) (hi : i < 64) (h1 : 1 ≤ lX r i) : bkR (rNd r) i (bsR (rNd r) i - 1) = lF r i + (lN' r i - 1) ∧ bsR (rNd r) i = bs (rNd r) i (lX r i - 1) + lN' r i := by
  have hX : lX r i ≤ 8 := (w1 i hi).1
  have hx : 1 ≤ lN' r i ∧ lN' r i ≤ 255 ∧ lF r i + lN' r i ≤ L := (w1 i hi).2 (lX r i - 1) (show lX r i - 1 < lX r i by omega)
  have e0 : bsR (rNd r) i = bs (rNd r) i (lX r i - 1) + lN' r i := by
    show bs (rNd r) i (lX r i) = _
    obtain ⟨x, hx9⟩ : ∃ x, lX r i = x + 1 := ⟨lX r i - 1, by omega⟩
    have e9 : lN' r i = rNd r (20 * i + 4 + 2 * x) := by show rNd r (20 * i + 4 + 2 * (lX r i - 1)) = _; rw [hx9, Nat.add_sub_cancel]
    rw [e9, hx9, Nat.add_sub_cancel]; rfl
  refine ⟨?_, e0⟩
  rw [e0, show bs (rNd r) i (lX r i - 1) + lN' r i - 1 = bs (rNd r) i (lX r i - 1) + (lN' r i - 1) by omega]
  exact bk_at (by omega) (show lN' r i - 1 < lN' r i by omega)
theorem gv_char {L : Nat} {r : RSt} {i : Nat} (w1 : wfN (rNd r) L) (hi : i < 64) (h1 : 1 ≤ lX r i) : GvC L r (gvR r i) i := by
  have hX : lX r i ≤ 8 := (w1 i hi).1
  have hx : 1 ≤ lN' r i ∧ lN' r i ≤ 255 ∧ lF r i + lN' r i ≤ L := (w1 i hi).2 (lX r i - 1) (show lX r i - 1 < lX r i by omega)
  obtain ⟨g1, g2, -⟩ := gv_wf hi w1 h1
  obtain ⟨gl, e0⟩ := gv_last w1 hi h1
  have eN : rNd (gvW r i) (20 * i + 4 + 2 * (lX r i - 1)) = lN' r i - 1 := va_up_self _ _ _
  have eF : rNd (gvW r i) (20 * i + 3 + 2 * (lX r i - 1)) = lF r i := va_up_ne _ _ (by omega)
  have eo : ∀ q, q ≠ 20 * i + 4 + 2 * (lX r i - 1) → rNd (gvW r i) q = rNd r q := fun q hq => va_up_ne _ _ hq
  have eOw : rOw (gvW r i) = va_up (rOw r) (lF r i + (lN' r i - 1)) 0 := by
    show va_up (rOw r) (rNd (gvW r i) (20 * i + 3 + 2 * (lX r i - 1)) + rNd (gvW r i) (20 * i + 4 + 2 * (lX r i - 1))) 0 = _
    rw [eN, eF]
  by_cases hc : 0 < rNd (gvW r i) (20 * i + 4 + 2 * (lX r i - 1))
  · have ew : gvR r i = gvW r i := by unfold gvR; rw [if_pos hc]
    rw [ew] at g1 g2 ⊢
    rw [eN] at hc
    refine ⟨by rw [gl]; exact eOw, rfl, g1, fun q hq => eo q (by omega), g2, fun t ht => ?_⟩
    obtain ⟨e, he, s, hs, rfl⟩ := bs_split (rNd (gvW r i)) i _ t ht
    have he' : e < lX r i := by rw [eo _ (by omega)] at he; exact he
    have eb : bs (rNd (gvW r i)) i e = bs (rNd r) i e := bs_up e (fun j hj => by omega)
    have l1 : rNd (gvW r i) (20 * i + 4 + 2 * e) ≤ rNd r (20 * i + 4 + 2 * e) := by
      by_cases ce : e = lX r i - 1
      · rw [ce, eN]; exact Nat.sub_le _ _
      · rw [eo _ (by omega)]; exact Nat.le_refl _
    rw [bk_at (by omega) hs, eb, bk_at (by omega) (by omega), eo _ (by omega)]
  · have ew : gvR r i = qNd (gv3 r i) (va_up (rNd (gv3 r i)) (20 * i + 2) (rNd (gv3 r i) (20 * i + 2) - 1)) := by unfold gvR; rw [if_neg hc]
    rw [ew] at g1 g2 ⊢
    rw [eN] at hc
    have e3 : rNd (gv3 r i) (20 * i + 2) = lX r i := by
      show va_up (rNd (gvW r i)) (20 * i + 3 + 2 * (lX r i - 1)) 0 (20 * i + 2) = _
      rw [va_up_ne _ _ (by omega), eo _ (by omega)]
    have er : ∀ q, q ≠ 20 * i + 2 → q ≠ 20 * i + 3 + 2 * (lX r i - 1) → q ≠ 20 * i + 4 + 2 * (lX r i - 1) → rNd (qNd (gv3 r i) (va_up (rNd (gv3 r i)) (20 * i + 2) (rNd (gv3 r i) (20 * i + 2) - 1))) q = rNd r q := fun q a1 a2 a3 => by
      show va_up (rNd (gv3 r i)) (20 * i + 2) _ q = _
      rw [va_up_ne _ _ a1]
      show va_up (rNd (gvW r i)) (20 * i + 3 + 2 * (lX r i - 1)) 0 q = _
      rw [va_up_ne _ _ a2, eo _ a3]
    refine ⟨by rw [gl]; exact eOw, rfl, g1, fun q hq => er q (by omega) (by omega) (by omega), g2, fun t ht => ?_⟩
    have hx2 : rNd (qNd (gv3 r i) (va_up (rNd (gv3 r i)) (20 * i + 2) (rNd (gv3 r i) (20 * i + 2) - 1))) (20 * i + 2) = lX r i - 1 := by
      show va_up (rNd (gv3 r i)) (20 * i + 2) _ (20 * i + 2) = _
      rw [va_up_self, e3]
    obtain ⟨e, he, s, hs, rfl⟩ := bs_split _ i _ t ht
    rw [hx2] at he
    have eb : bs (rNd (qNd (gv3 r i) (va_up (rNd (gv3 r i)) (20 * i + 2) (rNd (gv3 r i) (20 * i + 2) - 1)))) i e = bs (rNd r) i e := by
      have h9 : ∀ e', e' ≤ lX r i - 1 → bs (rNd (qNd (gv3 r i) (va_up (rNd (gv3 r i)) (20 * i + 2) (rNd (gv3 r i) (20 * i + 2) - 1)))) i e' = bs (rNd r) i e' := by
        intro e'
        induction e' with
        | zero => intro _; rfl
        | succ e' ih => intro h; unfold bs; rw [ih (by omega), er _ (by omega) (by omega) (by omega)]
      exact h9 e (by omega)
    rw [bk_at (by omega) hs, eb, bk_at (by omega) (by rw [er _ (by omega) (by omega) (by omega)] at hs; exact hs), er _ (by omega) (by omega) (by omega)]
theorem gv_WFb {L : Nat} {r r' : RSt} {i : Nat} (W : WFb L (rNd r) (rOw r)) (hi : i < 64) (G : GvC L r r' i) : WFb L (rNd r') (rOw r') := by
  obtain ⟨w1, w2, w3, w4⟩ := W
  obtain ⟨g1, g2, g3, g4, g5, g6⟩ := G
  have row : ∀ a, a ≠ i → ∀ q, 20 * a ≤ q → q < 20 * a + 20 → rNd r' q = rNd r q := fun a ha q h1 h2 => g4 q (by omega)
  have bsE : ∀ a, a < 64 → a ≠ i → bsR (rNd r') a = bsR (rNd r) a := fun a ha hne => bsR_row (row a hne) (g3 a ha).1
  have hl := w3 i hi (bsR (rNd r) i - 1) (by omega)
  refine ⟨g3, fun q hq => ?_, fun a ha t ht => ?_, fun a ha t ht t' ht' e => ?_⟩
  · rw [g1, va_up_ne _ _ (by omega)]; exact w2 q hq
  · by_cases c : a = i
    · subst c
      have h3 := w3 a ha t (by omega)
      rw [g6 t ht, g1, va_up_ne]
      · exact h3
      · intro e; have := w4 a ha t (by omega) (bsR (rNd r) a - 1) (by omega) e; omega
    · rw [bsE a ha c] at ht
      have h3 := w3 a ha t ht
      rw [bkR_row (row a c), g1, va_up_ne]
      · exact h3
      · intro e; rw [e, hl.2.2] at h3; omega
  · by_cases c : a = i
    · subst c
      rw [g6 t ht, g6 t' ht'] at e; exact w4 a ha t (by omega) t' (by omega) e
    · rw [bsE a ha c] at ht ht'
      rw [bkR_row (row a c), bkR_row (row a c)] at e; exact w4 a ha t ht t' ht' e
theorem gv_sim {L : Nat} {u : DSt} {r : RSt} {i : Nat} (hL0 : 96 ≤ L) (hL : L ≤ 768) (S : Sim L u r) (W : WFb L (rNd r) (rOw r)) (hi : i < 64) (h1 : 1 ≤ lX r i) : Sim L (gvI L u i) (gvR r i) := by
  obtain ⟨w1, w2, w3, w4⟩ := W
  have hX : lX r i ≤ 8 := (w1 i hi).1
  have eX : iX L (dNow u) i = lX r i := R_X S hL0 hL hi
  have hx : 1 ≤ lN' r i ∧ lN' r i ≤ 255 ∧ lF r i + lN' r i ≤ L := (w1 i hi).2 (lX r i - 1) (show lX r i - 1 < lX r i by omega)
  have eL : xL L (dNow u) i (lX r i - 1) = lN' r i := R_L S hL0 hL hi (by omega) (show lX r i - 1 < lX r i by omega)
  have eF : xF L (dNow u) i (lX r i - 1) = lF r i := R_F S hL0 hL hi (by omega) (show lX r i - 1 < lX r i by omega) (show lF r i < 65536 by omega)
  obtain ⟨gl, e0⟩ := gv_last w1 hi h1
  have hl := w3 i hi (bsR (rNd r) i - 1) (by omega)
  rw [gl] at hl
  have eN : rNd (gvW r i) (20 * i + 4 + 2 * (lX r i - 1)) = lN' r i - 1 := va_up_self _ _ _
  have eF2 : rNd (gvW r i) (20 * i + 3 + 2 * (lX r i - 1)) = lF r i := va_up_ne _ _ (by omega)
  have eo : ∀ q, q ≠ 20 * i + 4 + 2 * (lX r i - 1) → rNd (gvW r i) q = rNd r q := fun q hq => va_up_ne _ _ hq
  have eOw : rOw (gvW r i) = va_up (rOw r) (lF r i + (lN' r i - 1)) 0 := by
    show va_up (rOw r) (rNd (gvW r i) (20 * i + 3 + 2 * (lX r i - 1)) + rNd (gvW r i) (20 * i + 4 + 2 * (lX r i - 1))) 0 = _
    rw [eN, eF2]
  -- the class behind gv2
  have s1 : SimH L (dNow (gvN u (lF r i + (lN' r i - 1)))) (dCom (gvN u (lF r i + (lN' r i - 1)))) (nbR (rNd r)) (rOw (gvW r i)) (rNw r) := by
    rw [eOw]; exact S_give S hl.1 hl.2.1 hL (by rw [hl.2.2]; omega)
  have eg : gvB L u (nI (lF r i + lN' r i) - nI 1) = gvN u (lF r i + (lN' r i - 1)) := by
    rw [pk_sub (by omega), show lF r i + lN' r i - 1 = lF r i + (lN' r i - 1) by omega]
    exact gvB_in (hsB_in hl.2.1 hL) (by rw [frB_in hl.2.1 hL, S_free S hl.2.1 hL]; exact decide_eq_false (by rw [hl.2.2]; omega)) (by omega)
  have s2 := S_byte hL0 hL s1 hi (show 4 + 3 * (lX r i - 1) + 2 < 32 by omega) (show lN' r i - 1 < 256 by omega)
  have e2 : gv2 L u i = setB L (gvN u (lF r i + (lN' r i - 1))) (nI (1600 + 32 * i + (4 + 3 * (lX r i - 1) + 2))) (nI (lN' r i - 1)) := by
    unfold gv2
    rw [eX, eL, eF, eg, pk_sub hx.1, show 1600 + 32 * i + 4 + 3 * (lX r i - 1) + 2 = 1600 + 32 * i + (4 + 3 * (lX r i - 1) + 2) by omega]
  have ew2 : rNd (gvW r i) (20 * i + 2) = lX r i := eo _ (by omega)
  by_cases hc : 0 < rNd (gvW r i) (20 * i + 4 + 2 * (lX r i - 1))
  · have ew : gvR r i = gvW r i := by unfold gvR; rw [if_pos hc]
    rw [eN] at hc
    rw [gvI_n (by rw [eX]; exact h1) (by rw [eX, eL]; omega), e2, ew]
    refine s2.h_eq (fun a ha k hk => ?_)
    by_cases ca : a = i
    · subst ca
      refine nb_k hk (fun k => up2 (nbR (rNd r)) a (4 + 3 * (lX r a - 1) + 2) (lN' r a - 1) a k = nbR (rNd (gvW r a)) a k) ?_ ?_ ?_ ?_ ?_ ?_ ?_
      · rw [up2_k (by omega), nb_0, nb_0, eo _ (by omega)]
      · rw [up2_k (by omega), nb_1, nb_1, ew2]
      · rw [up2_k (by omega), nb_2, nb_2, eo _ (by omega)]
      · rw [up2_k (by omega), nb_3, nb_3, eo _ (by omega)]
      · intro e _; rw [up2_k (by omega), nb_f, nb_f, ew2, eo _ (by omega)]
      · intro e _; rw [up2_k (by omega), nb_g, nb_g, ew2, eo _ (by omega)]
      · intro e _
        by_cases ce : e = lX r a - 1
        · rw [ce, up2_self, nb_l, ew2, if_pos (by omega), eN]
        · rw [up2_k (by omega), nb_l, nb_l, ew2, eo _ (by omega)]
    · have row : ∀ q, 20 * a ≤ q → q < 20 * a + 20 → rNd r q = rNd (gvW r i) q := fun q h1 h2 => (eo q (by omega)).symm
      rw [up2_i ca]; exact nb_row row (w1 a ha).1 hk
  · have ew : gvR r i = qNd (gv3 r i) (va_up (rNd (gv3 r i)) (20 * i + 2) (rNd (gv3 r i) (20 * i + 2) - 1)) := by unfold gvR; rw [if_neg hc]
    rw [eN] at hc
    have hN1 : lN' r i = 1 := by omega
    rw [gvI_1 (by rw [eX]; exact h1) (by rw [eX, eL, hN1]), e2, ew, eX]
    have s3 := S_pair hL0 hL s2 hi (show 4 + 3 * (lX r i - 1) < 31 by omega) (show 0 < 65536 by decide)
    have s4 := S_byte hL0 hL s3 hi (show 1 < 32 by decide) (show lX r i - 1 < 256 by omega)
    rw [show 1600 + 32 * i + 4 + 3 * (lX r i - 1) = 1600 + 32 * i + (4 + 3 * (lX r i - 1)) by omega]
    have e3 : rNd (gv3 r i) (20 * i + 2) = lX r i := by
      show va_up (rNd (gvW r i)) (20 * i + 3 + 2 * (lX r i - 1)) 0 (20 * i + 2) = _
      rw [va_up_ne _ _ (by omega), eo _ (by omega)]
    have er : ∀ q, q ≠ 20 * i + 2 → q ≠ 20 * i + 3 + 2 * (lX r i - 1) → q ≠ 20 * i + 4 + 2 * (lX r i - 1) → va_up (rNd (gv3 r i)) (20 * i + 2) (lX r i - 1) q = rNd r q := fun q a1 a2 a3 => by
      rw [va_up_ne _ _ a1]
      show va_up (rNd (gvW r i)) (20 * i + 3 + 2 * (lX r i - 1)) 0 q = _
      rw [va_up_ne _ _ a2, eo _ a3]
    have hx2 : va_up (rNd (gv3 r i)) (20 * i + 2) (lX r i - 1) (20 * i + 2) = lX r i - 1 := va_up_self _ _ _
    refine s4.h_eq (fun a ha k hk => ?_)
    show _ = nbR (va_up (rNd (gv3 r i)) (20 * i + 2) (rNd (gv3 r i) (20 * i + 2) - 1)) a k
    rw [e3]
    by_cases ca : a = i
    · subst ca
      refine nb_k hk (fun k => up2 (up2 (up2 (up2 (nbR (rNd r)) a (4 + 3 * (lX r a - 1) + 2) (lN' r a - 1)) a (4 + 3 * (lX r a - 1)) (0 % 256)) a (4 + 3 * (lX r a - 1) + 1) (0 / 256)) a 1 (lX r a - 1) a k = nbR (va_up (rNd (gv3 r a)) (20 * a + 2) (lX r a - 1)) a k) ?_ ?_ ?_ ?_ ?_ ?_ ?_
      · rw [up2_k (by omega), up2_k (by omega), up2_k (by omega), up2_k (by omega), nb_0, nb_0, er _ (by omega) (by omega) (by omega)]
      · rw [up2_self, nb_1, hx2]
      · rw [up2_k (by omega), up2_k (by omega), up2_k (by omega), up2_k (by omega), nb_2, nb_2, er _ (by omega) (by omega) (by omega)]
      · rw [up2_k (by omega), up2_k (by omega), up2_k (by omega), up2_k (by omega), nb_3, nb_3, er _ (by omega) (by omega) (by omega)]
      · intro e _
        by_cases ce : e = lX r a - 1
        · rw [ce, up2_k (by omega), up2_k (by omega), up2_self, nb_f, hx2, if_neg (by omega)]
        · rw [up2_k (by omega), up2_k (by omega), up2_k (by omega), up2_k (by omega), nb_f, nb_f, hx2]
          by_cases c5 : e < lX r a
          · rw [if_pos c5, if_pos (by omega), er _ (by omega) (by omega) (by omega)]
          · rw [if_neg c5, if_neg (by omega)]
      · intro e _
        by_cases ce : e = lX r a - 1
        · rw [ce, up2_k (by omega), up2_self, nb_g, hx2, if_neg (by omega)]
        · rw [up2_k (by omega), up2_k (by omega), up2_k (by omega), up2_k (by omega), nb_g, nb_g, hx2]
          by_cases c5 : e < lX r a
          · rw [if_pos c5, if_pos (by omega), er _ (by omega) (by omega) (by omega)]
          · rw [if_neg c5, if_neg (by omega)]
      · intro e _
        by_cases ce : e = lX r a - 1
        · rw [ce, up2_k (by omega), up2_k (by omega), up2_k (by omega), up2_self, nb_l, hx2, if_neg (by omega)]; omega
        · rw [up2_k (by omega), up2_k (by omega), up2_k (by omega), up2_k (by omega), nb_l, nb_l, hx2]
          by_cases c5 : e < lX r a
          · rw [if_pos c5, if_pos (by omega), er _ (by omega) (by omega) (by omega)]
          · rw [if_neg c5, if_neg (by omega)]
    · rw [up2_i ca, up2_i ca, up2_i ca, up2_i ca]; exact nb_row (fun q h1 h2 => (er q (by omega) (by omega) (by omega)).symm) (w1 a ha).1 hk
