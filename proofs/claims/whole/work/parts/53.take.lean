/-! TAKING AND GIVING BLOCKS, on both sides. -/
def WFb (L : Nat) (nd ow : Nat → Nat) : Prop := wfN nd L ∧ (∀ b, b < 59 → ow b = 100) ∧ (∀ i, i < 64 → ∀ t, t < bsR nd i → 59 ≤ bkR nd i t ∧ bkR nd i t < L ∧ ow (bkR nd i t) = i + 1) ∧ (∀ i, i < 64 → ∀ t, t < bsR nd i → ∀ t', t' < bsR nd i → bkR nd i t = bkR nd i t' → t = t')
abbrev Sim (L : Nat) (u : DSt) (r : RSt) : Prop := SimH L (dNow u) (dCom u) (nbR (rNd r)) (rOw r) (rNw r)
theorem setB_ino {L : Nat} {u : DSt} {i k : Nat} {v : Int32} (hL0 : 96 ≤ L) (hL : L ≤ 768) (hi : i < 64) (hk : k < 32) : setB L u (nI (1600 + 32 * i + k)) v = stB u (1600 + 32 * i + k) v := setB_in (by omega) hL
theorem hi8 {v : Nat} (hv : v < 65536) : ((nI v).toUInt32 >>> ((nI 8).toUInt32 &&& Int32.toUInt32 31)).toInt32 = nI (v / 256) := by
  apply Int32.toBitVec_inj.mp
  apply BitVec.eq_of_toNat_eq
  show ((nI v).toUInt32 >>> ((nI 8).toUInt32 &&& Int32.toUInt32 31)).toNat = (nI (v / 256)).toBitVec.toNat
  rw [nI_tn (by omega), show ((nI 8).toUInt32 &&& Int32.toUInt32 31) = 8 from by decide, UInt32.toNat_shiftRight]
  show (nI v).toBitVec.toNat >>> (8 % 32) = _
  rw [nI_tn (by omega), Nat.shiftRight_eq_div_pow]
theorem setP_ino {L : Nat} {u : DSt} {i k v : Nat} (hL0 : 96 ≤ L) (hL : L ≤ 768) (hi : i < 64) (hk : k < 31) (hv : v < 65536) : setP L u (nI (1600 + 32 * i + k)) (nI v) = stB (stB u (1600 + 32 * i + k) (nI v)) (1600 + 32 * i + (k + 1)) (nI (v / 256)) := by
  unfold setP
  rw [hi8 hv, nI_add, show 1600 + 32 * i + k + 1 = 1600 + 32 * i + (k + 1) by omega, setB_ino hL0 hL hi (show k + 1 < 32 by omega), setB_ino hL0 hL hi (show k < 32 by omega)]
theorem S_pair {L : Nat} {u : DSt} {h : Nat → Nat → Nat} {ow nw : Nat → Nat} {i k v : Nat} (hL0 : 96 ≤ L) (hL : L ≤ 768) (S : SimH L (dNow u) (dCom u) h ow nw) (hi : i < 64) (hk : k < 31) (hv : v < 65536) :
    SimH L (dNow (setP L u (nI (1600 + 32 * i + k)) (nI v))) (dCom (setP L u (nI (1600 + 32 * i + k)) (nI v))) (up2 (up2 h i k (v % 256)) i (k + 1) (v / 256)) ow nw := by
  rw [setP_ino hL0 hL hi hk hv]
  have s1 := S_ino (v := nI v) S hi (show k < 32 by omega)
  have s2 := S_ino (v := nI (v / 256)) s1 hi (show k + 1 < 32 by omega)
  rw [nI_tn (by omega), nI_tn (by omega), Nat.mod_eq_of_lt (show v / 256 < 256 by omega)] at s2
  exact s2
theorem S_byte {L : Nat} {u : DSt} {h : Nat → Nat → Nat} {ow nw : Nat → Nat} {i k v : Nat} (hL0 : 96 ≤ L) (hL : L ≤ 768) (S : SimH L (dNow u) (dCom u) h ow nw) (hi : i < 64) (hk : k < 32) (hv : v < 256) :
    SimH L (dNow (setB L u (nI (1600 + 32 * i + k)) (nI v))) (dCom (setB L u (nI (1600 + 32 * i + k)) (nI v))) (up2 h i k v) ow nw := by
  rw [setB_ino hL0 hL hi hk]
  have s1 := S_ino (v := nI v) S hi hk
  rw [nI_tn (by omega), Nat.mod_eq_of_lt hv] at s1
  exact s1
theorem up2_self (h : Nat → Nat → Nat) (i k v : Nat) : up2 h i k v i k = v := by unfold up2; rw [if_pos ⟨rfl, rfl⟩]
theorem up2_k {h : Nat → Nat → Nat} {i k v k' : Nat} (e : k' ≠ k) : up2 h i k v i k' = h i k' := by unfold up2; rw [if_neg (fun z => e z.2)]
theorem up2_i {h : Nat → Nat → Nat} {i k v i' k' : Nat} (e : i' ≠ i) : up2 h i k v i' k' = h i' k' := by unfold up2; rw [if_neg (fun z => e z.1)]
/-- rows that agree have the same blocks -/
theorem bsE_row {f f' : Nat → Nat} {i : Nat} (h : ∀ q, 20 * i ≤ q → q < 20 * i + 20 → f q = f' q) : ∀ e, e ≤ 8 → bs f i e = bs f' i e := fun e he => bs_eq e he h
theorem bsR_row {f f' : Nat → Nat} {i : Nat} (h : ∀ q, 20 * i ≤ q → q < 20 * i + 20 → f q = f' q) (h8 : f (20 * i + 2) ≤ 8) : bsR f i = bsR f' i := by
  unfold bsR; rw [← h (20 * i + 2) (by omega) (by omega)]; exact bs_eq _ h8 h
theorem bkG_row {f f' : Nat → Nat} {i : Nat} (h : ∀ q, 20 * i ≤ q → q < 20 * i + 20 → f q = f' q) : ∀ m e t, e + m ≤ 8 → bkG f i m e t = bkG f' i m e t := by
  intro m
  induction m with
  | zero => intro _ _ _; rfl
  | succ m ih =>
    intro e t he
    unfold bkG
    rw [h (20 * i + 4 + 2 * e) (by omega) (by omega), h (20 * i + 3 + 2 * e) (by omega) (by omega), ih (e + 1) _ (by omega)]
theorem bkR_row {f f' : Nat → Nat} {i t : Nat} (h : ∀ q, 20 * i ≤ q → q < 20 * i + 20 → f q = f' q) : bkR f i t = bkR f' i t := bkG_row h 8 0 t (by decide)
/-- what takes does -/
def TkC (L : Nat) (r r' : RSt) (i b : Nat) : Prop := 59 ≤ b ∧ b < L ∧ rOw r b = 0 ∧ rOw r' = va_up (rOw r) b (i + 1) ∧ rNw r' = zrM (rNw r) b 64 ∧ wfN (rNd r') L ∧ (∀ q, q < 20 * i ∨ 20 * i + 20 ≤ q ∨ q = 20 * i ∨ q = 20 * i + 1 → rNd r' q = rNd r q) ∧
  bsR (rNd r') i = bsR (rNd r) i + 1 ∧ (∀ t, t < bsR (rNd r) i → bkR (rNd r') i t = bkR (rNd r) i t) ∧ bkR (rNd r') i (bsR (rNd r) i) = b
theorem ge59 {ow : Nat → Nat} {b : Nat} (h : ∀ b, b < 59 → ow b = 100) (ho : ow b = 0) : 59 ≤ b := by
  rcases Nat.lt_or_ge b 59 with z | z
  · rw [h b z] at ho; cases ho
  · exact z
theorem tk_char {L : Nat} {r : RSt} {i : Nat} (W : WFb L (rNd r) (rOw r)) (hi : i < 64) (h : (tkR L r i).1 = true) : ∃ b, TkC L r (tkR L r i).2 i b := by
  obtain ⟨w1, w2, w3, w4⟩ := W
  have hX : lX r i ≤ 8 := (w1 i hi).1
  have hwf := tk_wf (L := L) hi w1
  have hbs := hwf.2 h
  by_cases hc : tkc L r i
  · obtain ⟨c1, c2, c3, c4⟩ := id hc
    rw [tkR_a hc] at hwf hbs ⊢
    dsimp only at hwf hbs ⊢
    obtain ⟨x, hx⟩ : ∃ x, lX r i = x + 1 := ⟨lX r i - 1, by omega⟩
    have e0 : bsR (rNd r) i = bs (rNd r) i x + lN' r i := by
      show bs (rNd r) i (lX r i) = _; rw [hx]; show bs (rNd r) i x + rNd r (20 * i + 4 + 2 * x) = _; rw [show lN' r i = rNd r (20 * i + 4 + 2 * x) by show rNd r (20 * i + 4 + 2 * (lX r i - 1)) = _; rw [hx, Nat.add_sub_cancel]]
    have e1 : ∀ e, e ≤ x → bs (rNd (tkF r i (lX r i - 1) (lF r i + lN' r i))) i e = bs (rNd r) i e := fun e he => bs_up e (fun j hj => by omega)
    refine ⟨lF r i + lN' r i, ge59 w2 c3, c2, c3, rfl, rfl, hwf.1, fun q hq => va_up_ne _ _ (by omega), hbs, fun t ht => ?_, ?_⟩
    · obtain ⟨e, he, s, hs, rfl⟩ := bs_split (rNd r) i _ t ht
      have he' : e < lX r i := he
      have l1 : rNd r (20 * i + 4 + 2 * e) ≤ rNd (tkF r i (lX r i - 1) (lF r i + lN' r i)) (20 * i + 4 + 2 * e) := by
        show _ ≤ va_up (rNd r) (20 * i + 4 + 2 * (lX r i - 1)) (lN' r i + 1) (20 * i + 4 + 2 * e)
        by_cases c : e = lX r i - 1
        · rw [c, va_up_self]; exact Nat.le_succ _
        · rw [va_up_ne _ _ (by omega)]; exact Nat.le_refl _
      have l2 : rNd (tkF r i (lX r i - 1) (lF r i + lN' r i)) (20 * i + 3 + 2 * e) = rNd r (20 * i + 3 + 2 * e) := va_up_ne _ _ (by omega)
      rw [bk_at (by omega) hs, ← e1 e (by omega), bk_at (by omega) (by omega), l2]
    · have l1 : rNd (tkF r i (lX r i - 1) (lF r i + lN' r i)) (20 * i + 4 + 2 * x) = lN' r i + 1 := by
        show va_up (rNd r) (20 * i + 4 + 2 * (lX r i - 1)) (lN' r i + 1) (20 * i + 4 + 2 * x) = _
        rw [hx, Nat.add_sub_cancel, va_up_self]
      have l2 : rNd (tkF r i (lX r i - 1) (lF r i + lN' r i)) (20 * i + 3 + 2 * x) = lF r i := by
        show va_up (rNd r) (20 * i + 4 + 2 * (lX r i - 1)) (lN' r i + 1) (20 * i + 3 + 2 * x) = rNd r (20 * i + 3 + 2 * (lX r i - 1))
        rw [va_up_ne _ _ (by omega), hx, Nat.add_sub_cancel]
      rw [e0, ← e1 x (Nat.le_refl _), bk_at (by omega) (by omega), l2]
  · by_cases h2 : foR L (rOw r) = L ∨ lX r i = 8
    · rw [tkR_n hc h2] at h; cases h
    · have h3 : ¬ foR L (rOw r) = L := fun z => h2 (Or.inl z)
      have h4 : ¬ lX r i = 8 := fun z => h2 (Or.inr z)
      obtain ⟨f1, f2⟩ := fo_free h3
      rw [tkR_l hc h3 h4] at hwf hbs ⊢
      dsimp only at hwf hbs ⊢
      generalize hb : foR L (rOw r) = b at *
      generalize hx : lX r i = x at *
      have hnd : rNd (tkF (tkX r i x b) i x b) = va_up (va_up (va_up (va_up (rNd r) (20 * i + 2) (x + 1)) (20 * i + 3 + 2 * x) b) (20 * i + 4 + 2 * x) 0) (20 * i + 4 + 2 * x) (0 + 1) := by
        rw [tkF_nd, tkX_nd, va_up_self]
      have eo : ∀ q, q ≠ 20 * i + 2 → q ≠ 20 * i + 3 + 2 * x → q ≠ 20 * i + 4 + 2 * x → rNd (tkF (tkX r i x b) i x b) q = rNd r q := fun q h1 h2 h3 => by
        rw [hnd, va_up_ne _ _ h3, va_up_ne _ _ h3, va_up_ne _ _ h2, va_up_ne _ _ h1]
      have e1 : ∀ e, e ≤ x → bs (rNd (tkF (tkX r i x b) i x b)) i e = bs (rNd r) i e := fun e he => by
        rw [hnd, bs_up e (fun j hj => by omega), bs_up e (fun j hj => by omega), bs_up e (fun j hj => by omega), bs_up e (fun j hj => by omega)]
      have e0 : bsR (rNd r) i = bs (rNd r) i x := by show bs (rNd r) i (lX r i) = _; rw [hx]
      refine ⟨b, ge59 w2 f2, f1, f2, rfl, rfl, hwf.1, fun q hq => eo q (by omega) (by omega) (by omega), hbs, fun t ht => ?_, ?_⟩
      · rw [e0] at ht
        obtain ⟨e, he, s, hs, rfl⟩ := bs_split (rNd r) i _ t ht
        have l1 := eo (20 * i + 4 + 2 * e) (by omega) (by omega) (by omega)
        rw [bk_at (by omega) hs, ← e1 e (by omega), bk_at (by omega) (by rw [l1]; exact hs), eo (20 * i + 3 + 2 * e) (by omega) (by omega) (by omega)]
      · have l1 : rNd (tkF (tkX r i x b) i x b) (20 * i + 4 + 2 * x) = 1 := by rw [hnd, va_up_self]
        have l2 : rNd (tkF (tkX r i x b) i x b) (20 * i + 3 + 2 * x) = b := by rw [hnd, va_up_ne _ _ (by omega), va_up_ne _ _ (by omega), va_up_self]
        have := bk_at (f := rNd (tkF (tkX r i x b) i x b)) (i := i) (e := x) (s := 0) (by omega) (by rw [l1]; decide)
        rw [e0, ← e1 x (Nat.le_refl _)]
        rw [Nat.add_zero, l2, Nat.add_zero] at this
        exact this
theorem tk_same {L : Nat} {r : RSt} {i : Nat} (h : ¬ (tkR L r i).1 = true) : (tkR L r i).2 = r := by
  by_cases hc : tkc L r i
  · rw [tkR_a hc] at h; exact absurd rfl h
  · by_cases h2 : foR L (rOw r) = L ∨ lX r i = 8
    · rw [tkR_n hc h2]
    · rw [tkR_l hc (fun z => h2 (Or.inl z)) (fun z => h2 (Or.inr z))] at h; exact absurd rfl h
theorem tk_WFb {L : Nat} {r r' : RSt} {i b : Nat} (W : WFb L (rNd r) (rOw r)) (hi : i < 64) (T : TkC L r r' i b) : WFb L (rNd r') (rOw r') := by
  obtain ⟨w1, w2, w3, w4⟩ := W
  obtain ⟨t1, t2, t3, t4, t5, t6, t7, t8, t9, t10⟩ := T
  have row : ∀ a, a ≠ i → ∀ q, 20 * a ≤ q → q < 20 * a + 20 → rNd r' q = rNd r q := fun a ha q h1 h2 => t7 q (by omega)
  have bsE : ∀ a, a < 64 → a ≠ i → bsR (rNd r') a = bsR (rNd r) a := fun a ha hne => bsR_row (row a hne) (t6 a ha).1
  have nf : ∀ a, a < 64 → ∀ t, t < bsR (rNd r) a → bkR (rNd r) a t ≠ b := fun a ha t ht e => by
    have := (w3 a ha t ht).2.2; rw [e, t3] at this; omega
  refine ⟨t6, fun q hq => ?_, fun a ha t ht => ?_, fun a ha t ht t' ht' e => ?_⟩
  · rw [t4, va_up_ne _ _ (by omega)]; exact w2 q hq
  · by_cases c : a = i
    · subst c
      by_cases c2 : t < bsR (rNd r) a
      · rw [t9 t c2, t4, va_up_ne _ _ (nf a ha t c2)]; exact w3 a ha t c2
      · have : t = bsR (rNd r) a := by omega
        rw [this, t10, t4, va_up_self]; exact ⟨t1, t2, rfl⟩
    · rw [bsE a ha c] at ht
      rw [bkR_row (row a c), t4, va_up_ne _ _ (nf a ha t ht)]; exact w3 a ha t ht
  · by_cases c : a = i
    · subst c
      by_cases c2 : t < bsR (rNd r) a
      · by_cases c3 : t' < bsR (rNd r) a
        · rw [t9 t c2, t9 t' c3] at e; exact w4 a ha t c2 t' c3 e
        · have : t' = bsR (rNd r) a := by omega
          rw [t9 t c2, this, t10] at e; exact absurd e (nf a ha t c2)
      · have h1 : t = bsR (rNd r) a := by omega
        by_cases c3 : t' < bsR (rNd r) a
        · rw [h1, t10, t9 t' c3] at e; exact absurd e.symm (nf a ha t' c3)
        · omega
    · rw [bsE a ha c] at ht ht'
      rw [bkR_row (row a c), bkR_row (row a c)] at e; exact w4 a ha t ht t' ht' e
